theorem dX11_feed_0 : decode cX11_feed 0 = .ok (.aload_n 0, 1) := by decide +kernel
theorem dX11_feed_1 : decode cX11_feed 1 = .ok (.getfield 62, 3) := by decide +kernel
theorem dX11_feed_4 : decode cX11_feed 4 = .ok (.bipush 20, 2) := by decide +kernel
theorem dX11_feed_6 : decode cX11_feed 6 = .ok (.iadd, 1) := by decide +kernel
theorem dX11_feed_7 : decode cX11_feed 7 = .ok (.sipush 600, 3) := by decide +kernel
theorem dX11_feed_10 : decode cX11_feed 10 = .ok (.if_icmp .le 5, 3) := by decide +kernel
theorem dX11_feed_13 : decode cX11_feed 13 = .ok (.iconst (-1), 1) := by decide +kernel
theorem dX11_feed_14 : decode cX11_feed 14 = .ok (.ireturn, 1) := by decide +kernel
theorem dX11_feed_15 : decode cX11_feed 15 = .ok (.aload_n 0, 1) := by decide +kernel
theorem dX11_feed_16 : decode cX11_feed 16 = .ok (.iload_n 1, 1) := by decide +kernel
theorem dX11_feed_17 : decode cX11_feed 17 = .ok (.invokevirtual 78, 3) := by decide +kernel
theorem dX11_feed_20 : decode cX11_feed 20 = .ok (.aload_n 0, 1) := by decide +kernel
theorem dX11_feed_21 : decode cX11_feed 21 = .ok (.iload_n 2, 1) := by decide +kernel
theorem dX11_feed_22 : decode cX11_feed 22 = .ok (.invokevirtual 78, 3) := by decide +kernel
theorem dX11_feed_25 : decode cX11_feed 25 = .ok (.aload_n 0, 1) := by decide +kernel
theorem dX11_feed_26 : decode cX11_feed 26 = .ok (.iload_n 3, 1) := by decide +kernel
theorem dX11_feed_27 : decode cX11_feed 27 = .ok (.invokevirtual 78, 3) := by decide +kernel
theorem dX11_feed_30 : decode cX11_feed 30 = .ok (.aload_n 0, 1) := by decide +kernel
theorem dX11_feed_31 : decode cX11_feed 31 = .ok (.iload 4, 2) := by decide +kernel
theorem dX11_feed_33 : decode cX11_feed 33 = .ok (.invokevirtual 78, 3) := by decide +kernel
theorem dX11_feed_36 : decode cX11_feed 36 = .ok (.aload_n 0, 1) := by decide +kernel
theorem dX11_feed_37 : decode cX11_feed 37 = .ok (.iload 5, 2) := by decide +kernel
theorem dX11_feed_39 : decode cX11_feed 39 = .ok (.invokevirtual 78, 3) := by decide +kernel
theorem dX11_feed_42 : decode cX11_feed 42 = .ok (.aload_n 0, 1) := by decide +kernel
theorem dX11_feed_43 : decode cX11_feed 43 = .ok (.getfield 62, 3) := by decide +kernel
theorem dX11_feed_46 : decode cX11_feed 46 = .ok (.ireturn, 1) := by decide +kernel
theorem okX11_feed {E : Ev} {S : Sh} {Z : Option Nat} {Q : Int32 → Hp → Prop} {h : Hp} {a0 : Nat} {x1 : Int32} {x2 : Int32} {x3 : Int32} {x4 : Int32} {x5 : Int32} (hw : wX11_feed S h a0 x1 x2 x3 x4 x5 Q) : Ct E yX11_feed cX11_feed 6 (some .int) 2 46 0 0 S Z h [vr a0, vi x1, vi x2, vi x3, vi x4, vi x5] (qI S Z Q) := by
  refine Ct.of (by decide) (lc := [some (vr a0), some (vi x1), some (vi x2), some (vi x3), some (vi x4), some (vi x5)]) (Nat.le_of_ble_eq_true rfl) rfl (fun X O => ?_)
  unfold wX11_feed at hw
  refine g_aload_n O dX11_feed_0 rfl ?_
  obtain ⟨c1, hw⟩ := hw
  refine gf_X11_tapeSize O dX11_feed_1 fl_X11_62 c1 ?_
  refine g_bipush O dX11_feed_4 kb_20 ?_
  refine g_iadd O dX11_feed_6 ?_
  refine g_sipush O dX11_feed_7 ks_600 ?_
  refine g_icmp_le (tgt := 15) O dX11_feed_10 rfl (fun q10 => ?_) (fun q10 => ?_)
  · have hw := hw.1 q10
    refine g_aload_n O dX11_feed_15 rfl ?_
    refine g_iload_n O dX11_feed_16 rfl ?_
    refine g_callV (As := [vi x1]) (rest := []) O ci_11 rfl dX11_feed_17 ml_X11_78 im_yX11_putBytes se_yX11_putBytes ini_X11 co_yX11_putBytes yo_yX11_putBytes c1 rfl rfl (Nat.le_of_ble_eq_true rfl) ⟨by decide, by decide, by decide, by decide⟩ (okX11_putBytes hw) (k_V fun h17 hw => ?_)
    refine g_aload_n O dX11_feed_20 rfl ?_
    refine g_iload_n O dX11_feed_21 rfl ?_
    refine g_callV (As := [vi x2]) (rest := []) O ci_11 rfl dX11_feed_22 ml_X11_78 im_yX11_putBytes se_yX11_putBytes ini_X11 co_yX11_putBytes yo_yX11_putBytes c1 rfl rfl (Nat.le_of_ble_eq_true rfl) ⟨by decide, by decide, by decide, by decide⟩ (okX11_putBytes hw) (k_V fun h22 hw => ?_)
    refine g_aload_n O dX11_feed_25 rfl ?_
    refine g_iload_n O dX11_feed_26 rfl ?_
    refine g_callV (As := [vi x3]) (rest := []) O ci_11 rfl dX11_feed_27 ml_X11_78 im_yX11_putBytes se_yX11_putBytes ini_X11 co_yX11_putBytes yo_yX11_putBytes c1 rfl rfl (Nat.le_of_ble_eq_true rfl) ⟨by decide, by decide, by decide, by decide⟩ (okX11_putBytes hw) (k_V fun h27 hw => ?_)
    refine g_aload_n O dX11_feed_30 rfl ?_
    refine g_iload O dX11_feed_31 rfl ?_
    refine g_callV (As := [vi x4]) (rest := []) O ci_11 rfl dX11_feed_33 ml_X11_78 im_yX11_putBytes se_yX11_putBytes ini_X11 co_yX11_putBytes yo_yX11_putBytes c1 rfl rfl (Nat.le_of_ble_eq_true rfl) ⟨by decide, by decide, by decide, by decide⟩ (okX11_putBytes hw) (k_V fun h33 hw => ?_)
    refine g_aload_n O dX11_feed_36 rfl ?_
    refine g_iload O dX11_feed_37 rfl ?_
    refine g_callV (As := [vi x5]) (rest := []) O ci_11 rfl dX11_feed_39 ml_X11_78 im_yX11_putBytes se_yX11_putBytes ini_X11 co_yX11_putBytes yo_yX11_putBytes c1 rfl rfl (Nat.le_of_ble_eq_true rfl) ⟨by decide, by decide, by decide, by decide⟩ (okX11_putBytes hw) (k_V fun h39 hw => ?_)
    refine g_aload_n O dX11_feed_42 rfl ?_
    refine gf_X11_tapeSize O dX11_feed_43 fl_X11_62 c1 ?_
    exact g_ireturn O dX11_feed_46 ⟨rfl, rfl, _, rfl, hw⟩
  · have hw := hw.2 q10
    refine g_iconst O dX11_feed_13 kv_m1 ?_
    exact g_ireturn O dX11_feed_14 ⟨rfl, rfl, _, rfl, hw⟩
theorem dX11_gives_0 : decode cX11_gives 0 = .ok (.aload_n 0, 1) := by decide +kernel
theorem dX11_gives_1 : decode cX11_gives 1 = .ok (.iload_n 1, 1) := by decide +kernel
theorem dX11_gives_2 : decode cX11_gives 2 = .ok (.iload_n 2, 1) := by decide +kernel
theorem dX11_gives_3 : decode cX11_gives 3 = .ok (.invokevirtual 138, 3) := by decide +kernel
theorem dX11_gives_6 : decode cX11_gives 6 = .ok (.ifCond .eq 12, 3) := by decide +kernel
theorem dX11_gives_9 : decode cX11_gives 9 = .ok (.aload_n 0, 1) := by decide +kernel
theorem dX11_gives_10 : decode cX11_gives 10 = .ok (.iload_n 1, 1) := by decide +kernel
theorem dX11_gives_11 : decode cX11_gives 11 = .ok (.iload_n 3, 1) := by decide +kernel
theorem dX11_gives_12 : decode cX11_gives 12 = .ok (.invokevirtual 148, 3) := by decide +kernel
theorem dX11_gives_15 : decode cX11_gives 15 = .ok (.ifCond .ne 9, 3) := by decide +kernel
theorem dX11_gives_18 : decode cX11_gives 18 = .ok (.aload_n 0, 1) := by decide +kernel
theorem dX11_gives_19 : decode cX11_gives 19 = .ok (.iconst 1, 1) := by decide +kernel
theorem dX11_gives_20 : decode cX11_gives 20 = .ok (.invokevirtual 82, 3) := by decide +kernel
theorem dX11_gives_23 : decode cX11_gives 23 = .ok (.ireturn, 1) := by decide +kernel
theorem dX11_gives_24 : decode cX11_gives 24 = .ok (.aload_n 0, 1) := by decide +kernel
theorem dX11_gives_25 : decode cX11_gives 25 = .ok (.getfield 55, 3) := by decide +kernel
theorem dX11_gives_28 : decode cX11_gives 28 = .ok (.getfield 116, 3) := by decide +kernel
theorem dX11_gives_31 : decode cX11_gives 31 = .ok (.iload_n 1, 1) := by decide +kernel
theorem dX11_gives_32 : decode cX11_gives 32 = .ok (.aaload, 1) := by decide +kernel
theorem dX11_gives_33 : decode cX11_gives 33 = .ok (.getfield 141, 3) := by decide +kernel
theorem dX11_gives_36 : decode cX11_gives 36 = .ok (.iload_n 2, 1) := by decide +kernel
theorem dX11_gives_37 : decode cX11_gives 37 = .ok (.aaload, 1) := by decide +kernel
theorem dX11_gives_38 : decode cX11_gives 38 = .ok (.astore 5, 2) := by decide +kernel
theorem dX11_gives_40 : decode cX11_gives 40 = .ok (.aload 5, 2) := by decide +kernel
theorem dX11_gives_42 : decode cX11_gives 42 = .ok (.iload 4, 2) := by decide +kernel
theorem dX11_gives_44 : decode cX11_gives 44 = .ok (.invokevirtual 171, 3) := by decide +kernel
theorem dX11_gives_47 : decode cX11_gives 47 = .ok (.ifCond .ne 9, 3) := by decide +kernel
theorem dX11_gives_50 : decode cX11_gives 50 = .ok (.aload_n 0, 1) := by decide +kernel
theorem dX11_gives_51 : decode cX11_gives 51 = .ok (.iconst 2, 1) := by decide +kernel
theorem dX11_gives_52 : decode cX11_gives 52 = .ok (.invokevirtual 82, 3) := by decide +kernel
theorem dX11_gives_55 : decode cX11_gives 55 = .ok (.ireturn, 1) := by decide +kernel
theorem dX11_gives_56 : decode cX11_gives 56 = .ok (.aload_n 0, 1) := by decide +kernel
theorem dX11_gives_57 : decode cX11_gives 57 = .ok (.aload 5, 2) := by decide +kernel
theorem dX11_gives_59 : decode cX11_gives 59 = .ok (.iload_n 3, 1) := by decide +kernel
theorem dX11_gives_60 : decode cX11_gives 60 = .ok (.iload 4, 2) := by decide +kernel
theorem dX11_gives_62 : decode cX11_gives 62 = .ok (.aload 5, 2) := by decide +kernel
theorem dX11_gives_64 : decode cX11_gives 64 = .ok (.getfield 177, 3) := by decide +kernel
theorem dX11_gives_67 : decode cX11_gives 67 = .ok (.isub, 1) := by decide +kernel
theorem dX11_gives_68 : decode cX11_gives 68 = .ok (.invokevirtual 180, 3) := by decide +kernel
theorem dX11_gives_71 : decode cX11_gives 71 = .ok (.invokevirtual 109, 3) := by decide +kernel
theorem dX11_gives_74 : decode cX11_gives 74 = .ok (.ireturn, 1) := by decide +kernel
theorem okX11_gives {E : Ev} {S : Sh} {Z : Option Nat} {Q : Int32 → Hp → Prop} {h : Hp} {a0 : Nat} {x1 : Int32} {x2 : Int32} {x3 : Int32} {x4 : Int32} (hw : wX11_gives S h a0 x1 x2 x3 x4 Q) : Ct E yX11_gives cX11_gives 6 (some .int) 3 67 0 0 S Z h [vr a0, vi x1, vi x2, vi x3, vi x4] (qI S Z Q) := by
  refine Ct.of (by decide) (lc := [some (vr a0), some (vi x1), some (vi x2), some (vi x3), some (vi x4), none]) (Nat.le_of_ble_eq_true rfl) rfl (fun X O => ?_)
  unfold wX11_gives at hw
  refine g_aload_n O dX11_gives_0 rfl ?_
  refine g_iload_n O dX11_gives_1 rfl ?_
  refine g_iload_n O dX11_gives_2 rfl ?_
  obtain ⟨c3, hw⟩ := hw
  refine g_callV (As := [vi x1, vi x2]) (rest := []) O ci_11 rfl dX11_gives_3 ml_X11_138 im_yX11_isEvent se_yX11_isEvent ini_X11 co_yX11_isEvent yo_yX11_isEvent c3 rfl rfl (Nat.le_of_ble_eq_true rfl) ⟨by decide, by decide, by decide, by decide⟩ (okX11_isEvent hw) (k_I fun r3 h3 hw => ?_)
  refine g_if_eq (tgt := 18) O dX11_gives_6 rfl (fun q6 => ?_) (fun q6 => ?_)
  · have hw := hw.1 q6
    refine g_aload_n O dX11_gives_18 rfl ?_
    refine g_iconst O dX11_gives_19 kv_1 ?_
    refine g_callV (As := [vi (1 : Int32)]) (rest := []) O ci_11 rfl dX11_gives_20 ml_X11_82 im_yX11_refuse se_yX11_refuse ini_X11 co_yX11_refuse yo_yX11_refuse c3 rfl rfl (Nat.le_of_ble_eq_true rfl) ⟨by decide, by decide, by decide, by decide⟩ (okX11_refuse hw) (k_I fun r20 h20 hw => ?_)
    exact g_ireturn O dX11_gives_23 ⟨rfl, rfl, _, rfl, hw⟩
  · have hw := hw.2 q6
    refine g_aload_n O dX11_gives_9 rfl ?_
    refine g_iload_n O dX11_gives_10 rfl ?_
    refine g_iload_n O dX11_gives_11 rfl ?_
    refine g_callV (As := [vi x1, vi x3]) (rest := []) O ci_11 rfl dX11_gives_12 ml_X11_148 im_yX11_isState se_yX11_isState ini_X11 co_yX11_isState yo_yX11_isState c3 rfl rfl (Nat.le_of_ble_eq_true rfl) ⟨by decide, by decide, by decide, by decide⟩ (okX11_isState hw) (k_I fun r12 h12 hw => ?_)
    refine g_if_ne (tgt := 24) O dX11_gives_15 rfl (fun q15 => ?_) (fun q15 => ?_)
    · have hw := hw.1 q15
      refine g_aload_n O dX11_gives_24 rfl ?_
      refine gf_X11_model O dX11_gives_25 fl_X11_55 c3 ?_
      obtain ⟨c28, hw⟩ := hw
      refine gf_X3_machines O dX11_gives_28 fl_X11_116 c28 ?_
      refine g_iload_n O dX11_gives_31 rfl ?_
      obtain ⟨c32, hw⟩ := hw
      refine g_aaload (t := 1) (C := "FinerSteps$Machine") O rfl dX11_gives_32 c32.1 c32.2 ?_
      obtain ⟨c33, hw⟩ := hw
      refine gf_X2_event O dX11_gives_33 fl_X11_141 c33 ?_
      refine g_iload_n O dX11_gives_36 rfl ?_
      obtain ⟨c37, hw⟩ := hw
      refine g_aaload (t := 0) (C := "FinerSteps$Event") O rfl dX11_gives_37 c37.1 c37.2 ?_
      refine g_nmR (fun av38 e38 => ?_)
      have hw := hw av38 e38
      refine g_astore (lc' := [some (vr a0), some (vi x1), some (vi x2), some (vi x3), some (vi x4), some (vr av38)]) O dX11_gives_38 rfl (Nat.le_of_ble_eq_true rfl) rfl ?_
      refine g_aload O dX11_gives_40 rfl ?_
      refine g_iload O dX11_gives_42 rfl ?_
      obtain ⟨c44, hw⟩ := hw
      refine g_callV (As := [vi x4]) (rest := []) O ci_0 rfl dX11_gives_44 ml_X11_171 im_yX0_hasPick se_yX0_hasPick ini_X0 co_yX0_hasPick yo_yX0_hasPick c44 rfl rfl (Nat.le_of_ble_eq_true rfl) ⟨by decide, by decide, by decide, by decide⟩ (okX0_hasPick hw) (k_I fun r44 h44 hw => ?_)
      refine g_if_ne (tgt := 56) O dX11_gives_47 rfl (fun q47 => ?_) (fun q47 => ?_)
      · have hw := hw.1 q47
        refine g_aload_n O dX11_gives_56 rfl ?_
        refine g_aload O dX11_gives_57 rfl ?_
        refine g_iload_n O dX11_gives_59 rfl ?_
        refine g_iload O dX11_gives_60 rfl ?_
        refine g_aload O dX11_gives_62 rfl ?_
        refine gf_X0_first O dX11_gives_64 fl_X11_177 c44 ?_
        refine g_isub O dX11_gives_67 ?_
        refine g_callV (As := [vi x3, vi ((x4 - (gI h44 av38 6)))]) (rest := [vr a0]) O ci_0 rfl dX11_gives_68 ml_X11_180 im_yX0_after se_yX0_after ini_X0 co_yX0_after yo_yX0_after c44 rfl rfl (Nat.le_of_ble_eq_true rfl) ⟨by decide, by decide, by decide, by decide⟩ (okX0_after hw) (k_I fun r68 h68 hw => ?_)
        refine g_callV (As := [vi r68]) (rest := []) O ci_11 rfl dX11_gives_71 ml_X11_109 im_yX11_answer se_yX11_answer ini_X11 co_yX11_answer yo_yX11_answer c3 rfl rfl (Nat.le_of_ble_eq_true rfl) ⟨by decide, by decide, by decide, by decide⟩ (okX11_answer hw) (k_I fun r71 h71 hw => ?_)
        exact g_ireturn O dX11_gives_74 ⟨rfl, rfl, _, rfl, hw⟩
      · have hw := hw.2 q47
        refine g_aload_n O dX11_gives_50 rfl ?_
        refine g_iconst O dX11_gives_51 kv_2 ?_
        refine g_callV (As := [vi (2 : Int32)]) (rest := []) O ci_11 rfl dX11_gives_52 ml_X11_82 im_yX11_refuse se_yX11_refuse ini_X11 co_yX11_refuse yo_yX11_refuse c3 rfl rfl (Nat.le_of_ble_eq_true rfl) ⟨by decide, by decide, by decide, by decide⟩ (okX11_refuse hw) (k_I fun r52 h52 hw => ?_)
        exact g_ireturn O dX11_gives_55 ⟨rfl, rfl, _, rfl, hw⟩
    · have hw := hw.2 q15
      refine g_aload_n O dX11_gives_18 rfl ?_
      refine g_iconst O dX11_gives_19 kv_1 ?_
      refine g_callV (As := [vi (1 : Int32)]) (rest := []) O ci_11 rfl dX11_gives_20 ml_X11_82 im_yX11_refuse se_yX11_refuse ini_X11 co_yX11_refuse yo_yX11_refuse c3 rfl rfl (Nat.le_of_ble_eq_true rfl) ⟨by decide, by decide, by decide, by decide⟩ (okX11_refuse hw) (k_I fun r20 h20 hw => ?_)
      exact g_ireturn O dX11_gives_23 ⟨rfl, rfl, _, rfl, hw⟩
theorem dX11_glued_0 : decode cX11_glued 0 = .ok (.iload_n 1, 1) := by decide +kernel
theorem dX11_glued_1 : decode cX11_glued 1 = .ok (.iconst 1, 1) := by decide +kernel
theorem dX11_glued_2 : decode cX11_glued 2 = .ok (.if_icmp .lt 23, 3) := by decide +kernel
theorem dX11_glued_5 : decode cX11_glued 5 = .ok (.aload_n 0, 1) := by decide +kernel
theorem dX11_glued_6 : decode cX11_glued 6 = .ok (.iload_n 1, 1) := by decide +kernel
theorem dX11_glued_7 : decode cX11_glued 7 = .ok (.iconst 1, 1) := by decide +kernel
theorem dX11_glued_8 : decode cX11_glued 8 = .ok (.isub, 1) := by decide +kernel
theorem dX11_glued_9 : decode cX11_glued 9 = .ok (.iload_n 2, 1) := by decide +kernel
theorem dX11_glued_10 : decode cX11_glued 10 = .ok (.invokevirtual 148, 3) := by decide +kernel
theorem dX11_glued_13 : decode cX11_glued 13 = .ok (.ifCond .eq 12, 3) := by decide +kernel
theorem dX11_glued_16 : decode cX11_glued 16 = .ok (.aload_n 0, 1) := by decide +kernel
theorem dX11_glued_17 : decode cX11_glued 17 = .ok (.iload_n 1, 1) := by decide +kernel
theorem dX11_glued_18 : decode cX11_glued 18 = .ok (.iload_n 3, 1) := by decide +kernel
theorem dX11_glued_19 : decode cX11_glued 19 = .ok (.invokevirtual 148, 3) := by decide +kernel
theorem dX11_glued_22 : decode cX11_glued 22 = .ok (.ifCond .ne 9, 3) := by decide +kernel
theorem dX11_glued_25 : decode cX11_glued 25 = .ok (.aload_n 0, 1) := by decide +kernel
theorem dX11_glued_26 : decode cX11_glued 26 = .ok (.iconst 1, 1) := by decide +kernel
theorem dX11_glued_27 : decode cX11_glued 27 = .ok (.invokevirtual 82, 3) := by decide +kernel
theorem dX11_glued_30 : decode cX11_glued 30 = .ok (.ireturn, 1) := by decide +kernel
theorem dX11_glued_31 : decode cX11_glued 31 = .ok (.aload_n 0, 1) := by decide +kernel
theorem dX11_glued_32 : decode cX11_glued 32 = .ok (.aload_n 0, 1) := by decide +kernel
theorem dX11_glued_33 : decode cX11_glued 33 = .ok (.getfield 55, 3) := by decide +kernel
theorem dX11_glued_36 : decode cX11_glued 36 = .ok (.getfield 116, 3) := by decide +kernel
theorem dX11_glued_39 : decode cX11_glued 39 = .ok (.iload_n 1, 1) := by decide +kernel
theorem dX11_glued_40 : decode cX11_glued 40 = .ok (.aaload, 1) := by decide +kernel
theorem dX11_glued_41 : decode cX11_glued 41 = .ok (.getfield 159, 3) := by decide +kernel
theorem dX11_glued_44 : decode cX11_glued 44 = .ok (.iload_n 3, 1) := by decide +kernel
theorem dX11_glued_45 : decode cX11_glued 45 = .ok (.aaload, 1) := by decide +kernel
theorem dX11_glued_46 : decode cX11_glued 46 = .ok (.iload_n 2, 1) := by decide +kernel
theorem dX11_glued_47 : decode cX11_glued 47 = .ok (.invokevirtual 163, 3) := by decide +kernel
theorem dX11_glued_50 : decode cX11_glued 50 = .ok (.ifCond .eq 7, 3) := by decide +kernel
theorem dX11_glued_53 : decode cX11_glued 53 = .ok (.iconst 1, 1) := by decide +kernel
theorem dX11_glued_54 : decode cX11_glued 54 = .ok (.goto 4, 3) := by decide +kernel
theorem dX11_glued_57 : decode cX11_glued 57 = .ok (.iconst 0, 1) := by decide +kernel
theorem dX11_glued_58 : decode cX11_glued 58 = .ok (.invokevirtual 109, 3) := by decide +kernel
theorem dX11_glued_61 : decode cX11_glued 61 = .ok (.ireturn, 1) := by decide +kernel
theorem okX11_glued {E : Ev} {S : Sh} {Z : Option Nat} {Q : Int32 → Hp → Prop} {h : Hp} {a0 : Nat} {x1 : Int32} {x2 : Int32} {x3 : Int32} (hw : wX11_glued S h a0 x1 x2 x3 Q) : Ct E yX11_glued cX11_glued 4 (some .int) 3 67 0 0 S Z h [vr a0, vi x1, vi x2, vi x3] (qI S Z Q) := by
  refine Ct.of (by decide) (lc := [some (vr a0), some (vi x1), some (vi x2), some (vi x3)]) (Nat.le_of_ble_eq_true rfl) rfl (fun X O => ?_)
  unfold wX11_glued at hw
  refine g_iload_n O dX11_glued_0 rfl ?_
  refine g_iconst O dX11_glued_1 kv_1 ?_
  refine g_icmp_lt (tgt := 25) O dX11_glued_2 rfl (fun q2 => ?_) (fun q2 => ?_)
  · have hw := hw.1 q2
    refine g_aload_n O dX11_glued_25 rfl ?_
    refine g_iconst O dX11_glued_26 kv_1 ?_
    obtain ⟨c27, hw⟩ := hw
    refine g_callV (As := [vi (1 : Int32)]) (rest := []) O ci_11 rfl dX11_glued_27 ml_X11_82 im_yX11_refuse se_yX11_refuse ini_X11 co_yX11_refuse yo_yX11_refuse c27 rfl rfl (Nat.le_of_ble_eq_true rfl) ⟨by decide, by decide, by decide, by decide⟩ (okX11_refuse hw) (k_I fun r27 h27 hw => ?_)
    exact g_ireturn O dX11_glued_30 ⟨rfl, rfl, _, rfl, hw⟩
  · have hw := hw.2 q2
    refine g_aload_n O dX11_glued_5 rfl ?_
    refine g_iload_n O dX11_glued_6 rfl ?_
    refine g_iconst O dX11_glued_7 kv_1 ?_
    refine g_isub O dX11_glued_8 ?_
    refine g_iload_n O dX11_glued_9 rfl ?_
    obtain ⟨c10, hw⟩ := hw
    refine g_callV (As := [vi ((x1 - (1 : Int32))), vi x2]) (rest := []) O ci_11 rfl dX11_glued_10 ml_X11_148 im_yX11_isState se_yX11_isState ini_X11 co_yX11_isState yo_yX11_isState c10 rfl rfl (Nat.le_of_ble_eq_true rfl) ⟨by decide, by decide, by decide, by decide⟩ (okX11_isState hw) (k_I fun r10 h10 hw => ?_)
    refine g_if_eq (tgt := 25) O dX11_glued_13 rfl (fun q13 => ?_) (fun q13 => ?_)
    · have hw := hw.1 q13
      refine g_aload_n O dX11_glued_25 rfl ?_
      refine g_iconst O dX11_glued_26 kv_1 ?_
      refine g_callV (As := [vi (1 : Int32)]) (rest := []) O ci_11 rfl dX11_glued_27 ml_X11_82 im_yX11_refuse se_yX11_refuse ini_X11 co_yX11_refuse yo_yX11_refuse c10 rfl rfl (Nat.le_of_ble_eq_true rfl) ⟨by decide, by decide, by decide, by decide⟩ (okX11_refuse hw) (k_I fun r27 h27 hw => ?_)
      exact g_ireturn O dX11_glued_30 ⟨rfl, rfl, _, rfl, hw⟩
    · have hw := hw.2 q13
      refine g_aload_n O dX11_glued_16 rfl ?_
      refine g_iload_n O dX11_glued_17 rfl ?_
      refine g_iload_n O dX11_glued_18 rfl ?_
      refine g_callV (As := [vi x1, vi x3]) (rest := []) O ci_11 rfl dX11_glued_19 ml_X11_148 im_yX11_isState se_yX11_isState ini_X11 co_yX11_isState yo_yX11_isState c10 rfl rfl (Nat.le_of_ble_eq_true rfl) ⟨by decide, by decide, by decide, by decide⟩ (okX11_isState hw) (k_I fun r19 h19 hw => ?_)
      refine g_if_ne (tgt := 31) O dX11_glued_22 rfl (fun q22 => ?_) (fun q22 => ?_)
      · have hw := hw.1 q22
        refine g_aload_n O dX11_glued_31 rfl ?_
        refine g_aload_n O dX11_glued_32 rfl ?_
        refine gf_X11_model O dX11_glued_33 fl_X11_55 c10 ?_
        obtain ⟨c36, hw⟩ := hw
        refine gf_X3_machines O dX11_glued_36 fl_X11_116 c36 ?_
        refine g_iload_n O dX11_glued_39 rfl ?_
        obtain ⟨c40, hw⟩ := hw
        refine g_aaload (t := 1) (C := "FinerSteps$Machine") O rfl dX11_glued_40 c40.1 c40.2 ?_
        obtain ⟨c41, hw⟩ := hw
        refine gf_X2_glue O dX11_glued_41 fl_X11_159 c41 ?_
        refine g_iload_n O dX11_glued_44 rfl ?_
        obtain ⟨c45, hw⟩ := hw
        refine g_aaload (t := 2) (C := "FinerSteps$StateSet") O rfl dX11_glued_45 c45.1 c45.2 ?_
        refine g_iload_n O dX11_glued_46 rfl ?_
        obtain ⟨c47, hw⟩ := hw
        refine g_callV (As := [vi x2]) (rest := [vr a0]) O ci_7 rfl dX11_glued_47 ml_X11_163 im_yX7_has se_yX7_has ini_X7 co_yX7_has yo_yX7_has c47 rfl rfl (Nat.le_of_ble_eq_true rfl) ⟨by decide, by decide, by decide, by decide⟩ (okX7_has hw) (k_I fun r47 h47 hw => ?_)
        refine g_if_eq (tgt := 57) O dX11_glued_50 rfl (fun q50 => ?_) (fun q50 => ?_)
        · have hw := hw.1 q50
          refine g_iconst O dX11_glued_57 kv_0 ?_
          refine g_callV (As := [vi (0 : Int32)]) (rest := []) O ci_11 rfl dX11_glued_58 ml_X11_109 im_yX11_answer se_yX11_answer ini_X11 co_yX11_answer yo_yX11_answer c10 rfl rfl (Nat.le_of_ble_eq_true rfl) ⟨by decide, by decide, by decide, by decide⟩ (okX11_answer hw) (k_I fun r58 h58 hw => ?_)
          exact g_ireturn O dX11_glued_61 ⟨rfl, rfl, _, rfl, hw⟩
        · have hw := hw.2 q50
          refine g_iconst O dX11_glued_53 kv_1 ?_
          refine g_goto (tgt := 58) O dX11_glued_54 rfl ?_
          refine g_callV (As := [vi (1 : Int32)]) (rest := []) O ci_11 rfl dX11_glued_58 ml_X11_109 im_yX11_answer se_yX11_answer ini_X11 co_yX11_answer yo_yX11_answer c10 rfl rfl (Nat.le_of_ble_eq_true rfl) ⟨by decide, by decide, by decide, by decide⟩ (okX11_answer hw) (k_I fun r58 h58 hw => ?_)
          exact g_ireturn O dX11_glued_61 ⟨rfl, rfl, _, rfl, hw⟩
      · have hw := hw.2 q22
        refine g_aload_n O dX11_glued_25 rfl ?_
        refine g_iconst O dX11_glued_26 kv_1 ?_
        refine g_callV (As := [vi (1 : Int32)]) (rest := []) O ci_11 rfl dX11_glued_27 ml_X11_82 im_yX11_refuse se_yX11_refuse ini_X11 co_yX11_refuse yo_yX11_refuse c10 rfl rfl (Nat.le_of_ble_eq_true rfl) ⟨by decide, by decide, by decide, by decide⟩ (okX11_refuse hw) (k_I fun r27 h27 hw => ?_)
        exact g_ireturn O dX11_glued_30 ⟨rfl, rfl, _, rfl, hw⟩
theorem dX11_init_0 : decode cX11_init 0 = .ok (.aload_n 0, 1) := by decide +kernel
theorem dX11_init_1 : decode cX11_init 1 = .ok (.invokespecial 3, 3) := by decide +kernel
theorem dX11_init_4 : decode cX11_init 4 = .ok (.aload_n 0, 1) := by decide +kernel
theorem dX11_init_5 : decode cX11_init 5 = .ok (.sipush 600, 3) := by decide +kernel
theorem dX11_init_8 : decode cX11_init 8 = .ok (.newarray .byte, 2) := by decide +kernel
theorem dX11_init_10 : decode cX11_init 10 = .ok (.putfield 9, 3) := by decide +kernel
theorem dX11_init_13 : decode cX11_init 13 = .ok (.aload_n 0, 1) := by decide +kernel
theorem dX11_init_14 : decode cX11_init 14 = .ok (.new 13, 3) := by decide +kernel
theorem dX11_init_17 : decode cX11_init 17 = .ok (.dup, 1) := by decide +kernel
theorem dX11_init_18 : decode cX11_init 18 = .ok (.invokespecial 15, 3) := by decide +kernel
theorem dX11_init_21 : decode cX11_init 21 = .ok (.putfield 16, 3) := by decide +kernel
theorem dX11_init_24 : decode cX11_init 24 = .ok (.aload_n 0, 1) := by decide +kernel
theorem dX11_init_25 : decode cX11_init 25 = .ok (.new 20, 3) := by decide +kernel
theorem dX11_init_28 : decode cX11_init 28 = .ok (.dup, 1) := by decide +kernel
theorem dX11_init_29 : decode cX11_init 29 = .ok (.invokespecial 22, 3) := by decide +kernel
theorem dX11_init_32 : decode cX11_init 32 = .ok (.putfield 23, 3) := by decide +kernel
theorem dX11_init_35 : decode cX11_init 35 = .ok (.aload_n 0, 1) := by decide +kernel
theorem dX11_init_36 : decode cX11_init 36 = .ok (.new 27, 3) := by decide +kernel
theorem dX11_init_39 : decode cX11_init 39 = .ok (.dup, 1) := by decide +kernel
theorem dX11_init_40 : decode cX11_init 40 = .ok (.invokespecial 29, 3) := by decide +kernel
theorem dX11_init_43 : decode cX11_init 43 = .ok (.putfield 30, 3) := by decide +kernel
theorem dX11_init_46 : decode cX11_init 46 = .ok (.aload_n 0, 1) := by decide +kernel
theorem dX11_init_47 : decode cX11_init 47 = .ok (.new 34, 3) := by decide +kernel
theorem dX11_init_50 : decode cX11_init 50 = .ok (.dup, 1) := by decide +kernel
theorem dX11_init_51 : decode cX11_init 51 = .ok (.invokespecial 36, 3) := by decide +kernel
theorem dX11_init_54 : decode cX11_init 54 = .ok (.putfield 37, 3) := by decide +kernel
theorem dX11_init_57 : decode cX11_init 57 = .ok (.aload_n 0, 1) := by decide +kernel
theorem dX11_init_58 : decode cX11_init 58 = .ok (.new 41, 3) := by decide +kernel
theorem dX11_init_61 : decode cX11_init 61 = .ok (.dup, 1) := by decide +kernel
theorem dX11_init_62 : decode cX11_init 62 = .ok (.invokespecial 43, 3) := by decide +kernel
theorem dX11_init_65 : decode cX11_init 65 = .ok (.putfield 44, 3) := by decide +kernel
theorem dX11_init_68 : decode cX11_init 68 = .ok (.aload_n 0, 1) := by decide +kernel
theorem dX11_init_69 : decode cX11_init 69 = .ok (.iconst 3, 1) := by decide +kernel
theorem dX11_init_70 : decode cX11_init 70 = .ok (.newarray .int, 2) := by decide +kernel
theorem dX11_init_72 : decode cX11_init 72 = .ok (.putfield 48, 3) := by decide +kernel
theorem dX11_init_75 : decode cX11_init 75 = .ok (.aload_n 0, 1) := by decide +kernel
theorem dX11_init_76 : decode cX11_init 76 = .ok (.new 52, 3) := by decide +kernel
theorem dX11_init_79 : decode cX11_init 79 = .ok (.dup, 1) := by decide +kernel
theorem dX11_init_80 : decode cX11_init 80 = .ok (.invokespecial 54, 3) := by decide +kernel
theorem dX11_init_83 : decode cX11_init 83 = .ok (.putfield 55, 3) := by decide +kernel
theorem dX11_init_86 : decode cX11_init 86 = .ok (.aload_n 0, 1) := by decide +kernel
theorem dX11_init_87 : decode cX11_init 87 = .ok (.new 52, 3) := by decide +kernel
theorem dX11_init_90 : decode cX11_init 90 = .ok (.dup, 1) := by decide +kernel
theorem dX11_init_91 : decode cX11_init 91 = .ok (.invokespecial 54, 3) := by decide +kernel
theorem dX11_init_94 : decode cX11_init 94 = .ok (.putfield 59, 3) := by decide +kernel
theorem dX11_init_97 : decode cX11_init 97 = .ok (.aload_n 0, 1) := by decide +kernel
theorem dX11_init_98 : decode cX11_init 98 = .ok (.iconst 0, 1) := by decide +kernel
theorem dX11_init_99 : decode cX11_init 99 = .ok (.putfield 62, 3) := by decide +kernel
theorem dX11_init_102 : decode cX11_init 102 = .ok (.aload_n 0, 1) := by decide +kernel
theorem dX11_init_103 : decode cX11_init 103 = .ok (.iconst (-1), 1) := by decide +kernel
theorem dX11_init_104 : decode cX11_init 104 = .ok (.putfield 66, 3) := by decide +kernel
theorem dX11_init_107 : decode cX11_init 107 = .ok (.aload_n 0, 1) := by decide +kernel
theorem dX11_init_108 : decode cX11_init 108 = .ok (.iconst 0, 1) := by decide +kernel
theorem dX11_init_109 : decode cX11_init 109 = .ok (.putfield 69, 3) := by decide +kernel
theorem dX11_init_112 : decode cX11_init 112 = .ok (.aload_n 0, 1) := by decide +kernel
theorem dX11_init_113 : decode cX11_init 113 = .ok (.iconst 0, 1) := by decide +kernel
theorem dX11_init_114 : decode cX11_init 114 = .ok (.putfield 72, 3) := by decide +kernel
theorem dX11_init_117 : decode cX11_init 117 = .ok (.aload_n 0, 1) := by decide +kernel
theorem dX11_init_118 : decode cX11_init 118 = .ok (.iconst (-1), 1) := by decide +kernel
theorem dX11_init_119 : decode cX11_init 119 = .ok (.putfield 75, 3) := by decide +kernel
theorem dX11_init_122 : decode cX11_init 122 = .ok (.return_, 1) := by decide +kernel
theorem okX11_init {E : Ev} {Q : Sh → Nat → Hp → Prop} {S : Sh} {z : Nat} {h : Hp} {a0 : Nat} (hw : wX11_init (fun i => E.2.2.2.2.1 i + 1) S z h a0 Q) : Ct E yX11_init cX11_init 1 none 9 324 901 36927 S (some z) h [vr a0] (qA Q) := by
  refine Ct.of (by decide) (lc := [some (vr a0)]) (Nat.le_of_ble_eq_true rfl) rfl (fun X O => ?_)
  unfold wX11_init at hw
  refine g_aload_n O dX11_init_0 rfl ?_
  obtain ⟨c1, hw⟩ := hw
  refine g_objInit O dX11_init_1 ml_X11_3 c1 rfl rfl (Nat.le_of_ble_eq_true rfl) ⟨by decide, by decide⟩ ?_
  refine g_aload_n O dX11_init_4 rfl ?_
  refine g_sipush O dX11_init_5 ks_600 ?_
  obtain ⟨c8a, hw⟩ := hw
  obtain ⟨c8b, c8c, hw⟩ := hw
  refine g_newarray (atype := .byte) (t := 1) (N := 600) O rfl (fun I J R j h1 h2 h3 => by simp [aval, h1, h2, newarray.typeOf, defaultValue]) (fun U cA q => q) dX11_init_8 ac_byte (by decide) (by decide) (by decide) c8a c8b c8c ?_
  obtain ⟨c10, hw⟩ := hw
  refine pf_X11_tape O rfl rfl dX11_init_10 fl_X11_9 c10 ?_
  refine g_nmH (fun h10 e10 => ?_)
  have hw := hw h10 e10
  refine g_aload_n O dX11_init_13 rfl ?_
  obtain ⟨c14a, hw⟩ := hw
  obtain ⟨c14b, c14c, hw⟩ := hw
  refine g_new O ci_5 fd_X5 dX11_init_14 cl_X11_13 ins_X5 ini_X5 c14a c14b c14c ?_
  refine g_dup O dX11_init_17 rfl ?_
  obtain ⟨c18b, c18c, hw⟩ := hw
  obtain ⟨c18, hw⟩ := hw
  refine g_callIN (As := []) (rest := [vr (z + 1), vr a0]) O rfl dX11_init_18 xw_X11_15 im_yX5_init ini_X5 co_yX5_init yo_yX5_init c18 rfl rfl (Nat.le_of_ble_eq_true rfl) ⟨by decide, by decide, c18b, c18c⟩ (okX5_init hw) (k_A fun S18 z18 h18 hw => ?_)
  obtain ⟨c21, hw⟩ := hw
  refine pf_X11_reader O rfl rfl dX11_init_21 fl_X11_16 c21 ?_
  refine g_nmH (fun h21 e21 => ?_)
  have hw := hw h21 e21
  refine g_aload_n O dX11_init_24 rfl ?_
  obtain ⟨c25a, hw⟩ := hw
  obtain ⟨c25b, c25c, hw⟩ := hw
  refine g_new O ci_1 fd_X1 dX11_init_25 cl_X11_20 ins_X1 ini_X1 c25a c25b c25c ?_
  refine g_dup O dX11_init_28 rfl ?_
  obtain ⟨c29b, c29c, hw⟩ := hw
  obtain ⟨c29, hw⟩ := hw
  refine g_callIN (As := []) (rest := [vr z18, vr a0]) O rfl dX11_init_29 xw_X11_22 im_yX1_init ini_X1 co_yX1_init yo_yX1_init c29 rfl rfl (Nat.le_of_ble_eq_true rfl) ⟨by decide, by decide, c29b, c29c⟩ (okX1_init hw) (k_A fun S29 z29 h29 hw => ?_)
  obtain ⟨c32, hw⟩ := hw
  refine pf_X11_judge O rfl rfl dX11_init_32 fl_X11_23 c32 ?_
  refine g_nmH (fun h32 e32 => ?_)
  have hw := hw h32 e32
  refine g_aload_n O dX11_init_35 rfl ?_
  obtain ⟨c36a, hw⟩ := hw
  obtain ⟨c36b, c36c, hw⟩ := hw
  refine g_new O ci_10 fd_X10 dX11_init_36 cl_X11_27 ins_X10 ini_X10 c36a c36b c36c ?_
  refine g_dup O dX11_init_39 rfl ?_
  obtain ⟨c40b, c40c, hw⟩ := hw
  obtain ⟨c40, hw⟩ := hw
  refine g_callIN (As := []) (rest := [vr z29, vr a0]) O rfl dX11_init_40 xw_X11_29 im_yX10_init ini_X10 co_yX10_init yo_yX10_init c40 rfl rfl (Nat.le_of_ble_eq_true rfl) ⟨by decide, by decide, c40b, c40c⟩ (okX10_init hw) (k_A fun S40 z40 h40 hw => ?_)
  obtain ⟨c43, hw⟩ := hw
  refine pf_X11_walk O rfl rfl dX11_init_43 fl_X11_30 c43 ?_
  refine g_nmH (fun h43 e43 => ?_)
  have hw := hw h43 e43
  refine g_aload_n O dX11_init_46 rfl ?_
  obtain ⟨c47a, hw⟩ := hw
  obtain ⟨c47b, c47c, hw⟩ := hw
  refine g_new O ci_4 fd_X4 dX11_init_47 cl_X11_34 ins_X4 ini_X4 c47a c47b c47c ?_
  refine g_dup O dX11_init_50 rfl ?_
  obtain ⟨c51b, c51c, hw⟩ := hw
  obtain ⟨c51, hw⟩ := hw
  refine g_callIN (As := []) (rest := [vr z40, vr a0]) O rfl dX11_init_51 xw_X11_36 im_yX4_init ini_X4 co_yX4_init yo_yX4_init c51 rfl rfl (Nat.le_of_ble_eq_true rfl) ⟨by decide, by decide, c51b, c51c⟩ (okX4_init hw) (k_A fun S51 z51 h51 hw => ?_)
  obtain ⟨c54, hw⟩ := hw
  refine pf_X11_paths O rfl rfl dX11_init_54 fl_X11_37 c54 ?_
  refine g_nmH (fun h54 e54 => ?_)
  have hw := hw h54 e54
  refine g_aload_n O dX11_init_57 rfl ?_
  obtain ⟨c58a, hw⟩ := hw
  obtain ⟨c58b, c58c, hw⟩ := hw
  refine g_new O ci_6 fd_X6 dX11_init_58 cl_X11_41 ins_X6 ini_X6 c58a c58b c58c ?_
  refine g_dup O dX11_init_61 rfl ?_
  obtain ⟨c62b, c62c, hw⟩ := hw
  obtain ⟨c62, hw⟩ := hw
  refine g_callIN (As := []) (rest := [vr z51, vr a0]) O rfl dX11_init_62 xw_X11_43 im_yX6_init ini_X6 co_yX6_init yo_yX6_init c62 rfl rfl (Nat.le_of_ble_eq_true rfl) ⟨by decide, by decide, c62b, c62c⟩ (okX6_init hw) (k_A fun S62 z62 h62 hw => ?_)
  obtain ⟨c65, hw⟩ := hw
  refine pf_X11_scroll O rfl rfl dX11_init_65 fl_X11_44 c65 ?_
  refine g_nmH (fun h65 e65 => ?_)
  have hw := hw h65 e65
  refine g_aload_n O dX11_init_68 rfl ?_
  refine g_iconst O dX11_init_69 kv_3 ?_
  obtain ⟨c70a, hw⟩ := hw
  obtain ⟨c70b, c70c, hw⟩ := hw
  refine g_newarray (atype := .int) (t := 0) (N := 3) O rfl (fun I J R j h1 h2 h3 => by simp [aval, h1, h2, newarray.typeOf, defaultValue]) (fun U cA q => q) dX11_init_70 ac_int (by decide) (by decide) (by decide) c70a c70b c70c ?_
  obtain ⟨c72, hw⟩ := hw
  refine pf_X11_shownCase O rfl rfl dX11_init_72 fl_X11_48 c72 ?_
  refine g_nmH (fun h72 e72 => ?_)
  have hw := hw h72 e72
  refine g_aload_n O dX11_init_75 rfl ?_
  obtain ⟨c76a, hw⟩ := hw
  obtain ⟨c76b, c76c, hw⟩ := hw
  refine g_new O ci_3 fd_X3 dX11_init_76 cl_X11_52 ins_X3 ini_X3 c76a c76b c76c ?_
  refine g_dup O dX11_init_79 rfl ?_
  obtain ⟨c80b, c80c, hw⟩ := hw
  obtain ⟨c80, hw⟩ := hw
  refine g_callI (As := []) (rest := [vr (z62 + 1), vr a0]) O rfl dX11_init_80 ml_X11_54 im_yX3_init ini_X3 co_yX3_init yo_yX3_init c80 rfl rfl (Nat.le_of_ble_eq_true rfl) ⟨by decide, by decide, c80b, c80c⟩ (okX3_init hw) (k_A fun S80 z80 h80 hw => ?_)
  obtain ⟨c83, hw⟩ := hw
  refine pf_X11_model O dX11_init_83 fl_X11_55 c83 ?_
  refine g_nmH (fun h83 e83 => ?_)
  have hw := hw h83 e83
  refine g_aload_n O dX11_init_86 rfl ?_
  obtain ⟨c87a, hw⟩ := hw
  obtain ⟨c87b, c87c, hw⟩ := hw
  refine g_new O ci_3 fd_X3 dX11_init_87 cl_X11_52 ins_X3 ini_X3 c87a c87b c87c ?_
  refine g_dup O dX11_init_90 rfl ?_
  obtain ⟨c91b, c91c, hw⟩ := hw
  obtain ⟨c91, hw⟩ := hw
  refine g_callI (As := []) (rest := [vr z80, vr a0]) O rfl dX11_init_91 ml_X11_54 im_yX3_init ini_X3 co_yX3_init yo_yX3_init c91 rfl rfl (Nat.le_of_ble_eq_true rfl) ⟨by decide, by decide, c91b, c91c⟩ (okX3_init hw) (k_A fun S91 z91 h91 hw => ?_)
  obtain ⟨c94, hw⟩ := hw
  refine pf_X11_draft O dX11_init_94 fl_X11_59 c94 ?_
  refine g_nmH (fun h94 e94 => ?_)
  have hw := hw h94 e94
  refine g_aload_n O dX11_init_97 rfl ?_
  refine g_iconst O dX11_init_98 kv_0 ?_
  refine pf_X11_tapeSize O dX11_init_99 fl_X11_62 c94 ?_
  refine g_nmH (fun h99 e99 => ?_)
  have hw := hw h99 e99
  refine g_aload_n O dX11_init_102 rfl ?_
  refine g_iconst O dX11_init_103 kv_m1 ?_
  refine pf_X11_shownMachine O dX11_init_104 fl_X11_66 c94 ?_
  refine g_nmH (fun h104 e104 => ?_)
  have hw := hw h104 e104
  refine g_aload_n O dX11_init_107 rfl ?_
  refine g_iconst O dX11_init_108 kv_0 ?_
  refine pf_X11_lastTrouble O dX11_init_109 fl_X11_69 c94 ?_
  refine g_nmH (fun h109 e109 => ?_)
  have hw := hw h109 e109
  refine g_aload_n O dX11_init_112 rfl ?_
  refine g_iconst O dX11_init_113 kv_0 ?_
  refine pf_X11_lastFault O dX11_init_114 fl_X11_72 c94 ?_
  refine g_nmH (fun h114 e114 => ?_)
  have hw := hw h114 e114
  refine g_aload_n O dX11_init_117 rfl ?_
  refine g_iconst O dX11_init_118 kv_m1 ?_
  refine pf_X11_faultPlace O dX11_init_119 fl_X11_75 c94 ?_
  obtain ⟨c122a, c122b, hw⟩ := hw
  exact g_widen c122a c122b (g_return O dX11_init_122 ⟨_, rfl, rfl, hw⟩)
theorem dX11_isVariable_0 : decode cX11_isVariable 0 = .ok (.aload_n 0, 1) := by decide +kernel
theorem dX11_isVariable_1 : decode cX11_isVariable 1 = .ok (.iload_n 1, 1) := by decide +kernel
theorem dX11_isVariable_2 : decode cX11_isVariable 2 = .ok (.invokevirtual 112, 3) := by decide +kernel
theorem dX11_isVariable_5 : decode cX11_isVariable 5 = .ok (.ifCond .eq 27, 3) := by decide +kernel
theorem dX11_isVariable_8 : decode cX11_isVariable 8 = .ok (.iload_n 2, 1) := by decide +kernel
theorem dX11_isVariable_9 : decode cX11_isVariable 9 = .ok (.ifCond .lt 23, 3) := by decide +kernel
theorem dX11_isVariable_12 : decode cX11_isVariable 12 = .ok (.iload_n 2, 1) := by decide +kernel
theorem dX11_isVariable_13 : decode cX11_isVariable 13 = .ok (.aload_n 0, 1) := by decide +kernel
theorem dX11_isVariable_14 : decode cX11_isVariable 14 = .ok (.getfield 55, 3) := by decide +kernel
theorem dX11_isVariable_17 : decode cX11_isVariable 17 = .ok (.getfield 116, 3) := by decide +kernel
theorem dX11_isVariable_20 : decode cX11_isVariable 20 = .ok (.iload_n 1, 1) := by decide +kernel
theorem dX11_isVariable_21 : decode cX11_isVariable 21 = .ok (.aaload, 1) := by decide +kernel
theorem dX11_isVariable_22 : decode cX11_isVariable 22 = .ok (.getfield 312, 3) := by decide +kernel
theorem dX11_isVariable_25 : decode cX11_isVariable 25 = .ok (.if_icmp .ge 7, 3) := by decide +kernel
theorem dX11_isVariable_28 : decode cX11_isVariable 28 = .ok (.iconst 1, 1) := by decide +kernel
theorem dX11_isVariable_29 : decode cX11_isVariable 29 = .ok (.goto 4, 3) := by decide +kernel
theorem dX11_isVariable_32 : decode cX11_isVariable 32 = .ok (.iconst 0, 1) := by decide +kernel
theorem dX11_isVariable_33 : decode cX11_isVariable 33 = .ok (.ireturn, 1) := by decide +kernel
theorem okX11_isVariable {E : Ev} {S : Sh} {Z : Option Nat} {Q : Int32 → Hp → Prop} {h : Hp} {a0 : Nat} {x1 : Int32} {x2 : Int32} (hw : wX11_isVariable S h a0 x1 x2 Q) : Ct E yX11_isVariable cX11_isVariable 3 (some .boolean) 2 45 0 0 S Z h [vr a0, vi x1, vi x2] (qI S Z Q) := by
  refine Ct.of (by decide) (lc := [some (vr a0), some (vi x1), some (vi x2)]) (Nat.le_of_ble_eq_true rfl) rfl (fun X O => ?_)
  unfold wX11_isVariable at hw
  refine g_aload_n O dX11_isVariable_0 rfl ?_
  refine g_iload_n O dX11_isVariable_1 rfl ?_
  obtain ⟨c2, hw⟩ := hw
  refine g_callV (As := [vi x1]) (rest := []) O ci_11 rfl dX11_isVariable_2 ml_X11_112 im_yX11_isMachine se_yX11_isMachine ini_X11 co_yX11_isMachine yo_yX11_isMachine c2 rfl rfl (Nat.le_of_ble_eq_true rfl) ⟨by decide, by decide, by decide, by decide⟩ (okX11_isMachine hw) (k_I fun r2 h2 hw => ?_)
  refine g_if_eq (tgt := 32) O dX11_isVariable_5 rfl (fun q5 => ?_) (fun q5 => ?_)
  · have hw := hw.1 q5
    refine g_iconst O dX11_isVariable_32 kv_0 ?_
    exact g_zreturn O dX11_isVariable_33 (by decide) ⟨rfl, rfl, _, rfl, hw⟩
  · have hw := hw.2 q5
    refine g_iload_n O dX11_isVariable_8 rfl ?_
    refine g_if_lt (tgt := 32) O dX11_isVariable_9 rfl (fun q9 => ?_) (fun q9 => ?_)
    · have hw := hw.1 q9
      refine g_iconst O dX11_isVariable_32 kv_0 ?_
      exact g_zreturn O dX11_isVariable_33 (by decide) ⟨rfl, rfl, _, rfl, hw⟩
    · have hw := hw.2 q9
      refine g_iload_n O dX11_isVariable_12 rfl ?_
      refine g_aload_n O dX11_isVariable_13 rfl ?_
      refine gf_X11_model O dX11_isVariable_14 fl_X11_55 c2 ?_
      obtain ⟨c17, hw⟩ := hw
      refine gf_X3_machines O dX11_isVariable_17 fl_X11_116 c17 ?_
      refine g_iload_n O dX11_isVariable_20 rfl ?_
      obtain ⟨c21, hw⟩ := hw
      refine g_aaload (t := 1) (C := "FinerSteps$Machine") O rfl dX11_isVariable_21 c21.1 c21.2 ?_
      obtain ⟨c22, hw⟩ := hw
      refine gf_X2_variables O dX11_isVariable_22 fl_X11_312 c22 ?_
      refine g_icmp_ge (tgt := 32) O dX11_isVariable_25 rfl (fun q25 => ?_) (fun q25 => ?_)
      · have hw := hw.1 q25
        refine g_iconst O dX11_isVariable_32 kv_0 ?_
        exact g_zreturn O dX11_isVariable_33 (by decide) ⟨rfl, rfl, _, rfl, hw⟩
      · have hw := hw.2 q25
        refine g_iconst O dX11_isVariable_28 kv_1 ?_
        refine g_goto (tgt := 33) O dX11_isVariable_29 rfl ?_
        exact g_zreturn O dX11_isVariable_33 (by decide) ⟨rfl, rfl, _, rfl, hw⟩
theorem dX11_letter_0 : decode cX11_letter 0 = .ok (.aload_n 0, 1) := by decide +kernel
theorem dX11_letter_1 : decode cX11_letter 1 = .ok (.iload_n 1, 1) := by decide +kernel
theorem dX11_letter_2 : decode cX11_letter 2 = .ok (.invokevirtual 112, 3) := by decide +kernel
theorem dX11_letter_5 : decode cX11_letter 5 = .ok (.ifCond .eq 17, 3) := by decide +kernel
theorem dX11_letter_8 : decode cX11_letter 8 = .ok (.iload_n 2, 1) := by decide +kernel
theorem dX11_letter_9 : decode cX11_letter 9 = .ok (.iconst (-1), 1) := by decide +kernel
theorem dX11_letter_10 : decode cX11_letter 10 = .ok (.if_icmp .eq 20, 3) := by decide +kernel
theorem dX11_letter_13 : decode cX11_letter 13 = .ok (.aload_n 0, 1) := by decide +kernel
theorem dX11_letter_14 : decode cX11_letter 14 = .ok (.iload_n 1, 1) := by decide +kernel
theorem dX11_letter_15 : decode cX11_letter 15 = .ok (.iload_n 2, 1) := by decide +kernel
theorem dX11_letter_16 : decode cX11_letter 16 = .ok (.invokevirtual 125, 3) := by decide +kernel
theorem dX11_letter_19 : decode cX11_letter 19 = .ok (.ifCond .ne 11, 3) := by decide +kernel
theorem dX11_letter_22 : decode cX11_letter 22 = .ok (.new 293, 3) := by decide +kernel
theorem dX11_letter_25 : decode cX11_letter 25 = .ok (.dup, 1) := by decide +kernel
theorem dX11_letter_26 : decode cX11_letter 26 = .ok (.invokespecial 295, 3) := by decide +kernel
theorem dX11_letter_29 : decode cX11_letter 29 = .ok (.athrow, 1) := by decide +kernel
theorem dX11_letter_30 : decode cX11_letter 30 = .ok (.aload_n 0, 1) := by decide +kernel
theorem dX11_letter_31 : decode cX11_letter 31 = .ok (.getfield 55, 3) := by decide +kernel
theorem dX11_letter_34 : decode cX11_letter 34 = .ok (.getfield 116, 3) := by decide +kernel
theorem dX11_letter_37 : decode cX11_letter 37 = .ok (.iload_n 1, 1) := by decide +kernel
theorem dX11_letter_38 : decode cX11_letter 38 = .ok (.aaload, 1) := by decide +kernel
theorem dX11_letter_39 : decode cX11_letter 39 = .ok (.astore 4, 2) := by decide +kernel
theorem dX11_letter_41 : decode cX11_letter 41 = .ok (.iload_n 2, 1) := by decide +kernel
theorem dX11_letter_42 : decode cX11_letter 42 = .ok (.iconst (-1), 1) := by decide +kernel
theorem dX11_letter_43 : decode cX11_letter 43 = .ok (.if_icmp .ne 11, 3) := by decide +kernel
theorem dX11_letter_46 : decode cX11_letter 46 = .ok (.aload 4, 2) := by decide +kernel
theorem dX11_letter_48 : decode cX11_letter 48 = .ok (.getfield 296, 3) := by decide +kernel
theorem dX11_letter_51 : decode cX11_letter 51 = .ok (.goto 10, 3) := by decide +kernel
theorem dX11_letter_54 : decode cX11_letter 54 = .ok (.aload 4, 2) := by decide +kernel
theorem dX11_letter_56 : decode cX11_letter 56 = .ok (.getfield 300, 3) := by decide +kernel
theorem dX11_letter_59 : decode cX11_letter 59 = .ok (.iload_n 2, 1) := by decide +kernel
theorem dX11_letter_60 : decode cX11_letter 60 = .ok (.laload, 1) := by decide +kernel
theorem dX11_letter_61 : decode cX11_letter 61 = .ok (.lstore 5, 2) := by decide +kernel
theorem dX11_letter_63 : decode cX11_letter 63 = .ok (.iload_n 3, 1) := by decide +kernel
theorem dX11_letter_64 : decode cX11_letter 64 = .ok (.ifCond .lt 12, 3) := by decide +kernel
theorem dX11_letter_67 : decode cX11_letter 67 = .ok (.iload_n 3, 1) := by decide +kernel
theorem dX11_letter_68 : decode cX11_letter 68 = .ok (.lload 5, 2) := by decide +kernel
theorem dX11_letter_70 : decode cX11_letter 70 = .ok (.invokestatic 304, 3) := by decide +kernel
theorem dX11_letter_73 : decode cX11_letter 73 = .ok (.if_icmp .lt 11, 3) := by decide +kernel
theorem dX11_letter_76 : decode cX11_letter 76 = .ok (.new 293, 3) := by decide +kernel
theorem dX11_letter_79 : decode cX11_letter 79 = .ok (.dup, 1) := by decide +kernel
theorem dX11_letter_80 : decode cX11_letter 80 = .ok (.invokespecial 295, 3) := by decide +kernel
theorem dX11_letter_83 : decode cX11_letter 83 = .ok (.athrow, 1) := by decide +kernel
theorem dX11_letter_84 : decode cX11_letter 84 = .ok (.lload 5, 2) := by decide +kernel
theorem dX11_letter_86 : decode cX11_letter 86 = .ok (.iload_n 3, 1) := by decide +kernel
theorem dX11_letter_87 : decode cX11_letter 87 = .ok (.invokestatic 308, 3) := by decide +kernel
theorem dX11_letter_90 : decode cX11_letter 90 = .ok (.ireturn, 1) := by decide +kernel
theorem okX11_letter_j61 {E : Ev} {X : Cx} {S : Sh} {Z : Option Nat} {Tq : Hp → Prop} {Q : Int32 → Hp → Prop} {h : Hp} {x3 : Int32} {s0 : Int64} (O : Ok E X yX11_letter cX11_letter 7 (some .int) 10 140 1 6 (qI S Z Q)) (hT : ∀ (h : Hp) (pc : Nat) (lc : List (Option Tv)), (pc = 22 ∨ pc = 76) → lc.length = 7 → Tq h → G E X 0 0 S Z h pc lc []) (hw : wX11_letter_j61 S Tq h x3 s0 Q) : G E X 0 0 S Z h 61 [none, none, none, some (vi x3), none, none, none] [vj s0] := by
  unfold wX11_letter_j61 at hw
  refine g_lstore (lc' := [none, none, none, some (vi x3), none, some (vj s0), none]) O dX11_letter_61 rfl (Nat.le_of_ble_eq_true rfl) rfl ?_
  refine g_iload_n O dX11_letter_63 rfl ?_
  refine g_if_lt (tgt := 76) O dX11_letter_64 rfl (fun q64 => ?_) (fun q64 => ?_)
  · have hw := hw.1 q64
    exact hT _ 76 _ (by decide) rfl hw
  · have hw := hw.2 q64
    refine g_iload_n O dX11_letter_67 rfl ?_
    refine g_lload O dX11_letter_68 rfl ?_
    refine g_callS (As := [vj s0]) (rest := [vi x3]) O dX11_letter_70 ml_X11_304 st_yX11_lengthOf ini_X11 co_yX11_lengthOf yo_yX11_lengthOf rfl rfl (Nat.le_of_ble_eq_true rfl) ⟨by decide, by decide, by decide, by decide⟩ (okX11_lengthOf hw) (k_I fun r70 h70 hw => ?_)
    refine g_icmp_lt (tgt := 84) O dX11_letter_73 rfl (fun q73 => ?_) (fun q73 => ?_)
    · have hw := hw.1 q73
      refine g_lload O dX11_letter_84 rfl ?_
      refine g_iload_n O dX11_letter_86 rfl ?_
      refine g_callS (As := [vj s0, vi x3]) (rest := []) O dX11_letter_87 ml_X11_308 st_yX11_letterOf ini_X11 co_yX11_letterOf yo_yX11_letterOf rfl rfl (Nat.le_of_ble_eq_true rfl) ⟨by decide, by decide, by decide, by decide⟩ (okX11_letterOf hw) (k_I fun r87 h87 hw => ?_)
      exact g_widen (by decide) (by decide) (g_ireturn O dX11_letter_90 ⟨rfl, rfl, _, rfl, hw⟩)
    · have hw := hw.2 q73
      exact hT _ 76 _ (by decide) rfl hw
theorem okX11_letter_j30 {E : Ev} {X : Cx} {S : Sh} {Z : Option Nat} {Tq : Hp → Prop} {Q : Int32 → Hp → Prop} {h : Hp} {a0 : Nat} {x1 : Int32} {x2 : Int32} {x3 : Int32} (O : Ok E X yX11_letter cX11_letter 7 (some .int) 10 140 1 6 (qI S Z Q)) (hT : ∀ (h : Hp) (pc : Nat) (lc : List (Option Tv)), (pc = 22 ∨ pc = 76) → lc.length = 7 → Tq h → G E X 0 0 S Z h pc lc []) (hw : wX11_letter_j30 S Tq h a0 x1 x2 x3 Q) : G E X 0 0 S Z h 30 [some (vr a0), some (vi x1), some (vi x2), some (vi x3), none, none, none] [] := by
  unfold wX11_letter_j30 at hw
  refine g_aload_n O dX11_letter_30 rfl ?_
  obtain ⟨c31, hw⟩ := hw
  refine gf_X11_model O dX11_letter_31 fl_X11_55 c31 ?_
  obtain ⟨c34, hw⟩ := hw
  refine gf_X3_machines O dX11_letter_34 fl_X11_116 c34 ?_
  refine g_iload_n O dX11_letter_37 rfl ?_
  obtain ⟨c38, hw⟩ := hw
  refine g_aaload (t := 1) (C := "FinerSteps$Machine") O rfl dX11_letter_38 c38.1 c38.2 ?_
  refine g_nmR (fun av39 e39 => ?_)
  have hw := hw av39 e39
  refine g_astore (lc' := [some (vr a0), some (vi x1), some (vi x2), some (vi x3), some (vr av39), none, none]) O dX11_letter_39 rfl (Nat.le_of_ble_eq_true rfl) rfl ?_
  refine g_iload_n O dX11_letter_41 rfl ?_
  refine g_iconst O dX11_letter_42 kv_m1 ?_
  refine g_icmp_ne (tgt := 54) O dX11_letter_43 rfl (fun q43 => ?_) (fun q43 => ?_)
  · have hw := hw.1 q43
    refine g_aload O dX11_letter_54 rfl ?_
    obtain ⟨c56, hw⟩ := hw
    refine gf_X2_names O dX11_letter_56 fl_X11_300 c56 ?_
    refine g_iload_n O dX11_letter_59 rfl ?_
    obtain ⟨c60, hw⟩ := hw
    refine g_laload O dX11_letter_60 c60.1 c60.2 ?_
    refine g_mask [false, false, false, true, false, false, false] rfl rfl ?_
    exact okX11_letter_j61 O hT hw
  · have hw := hw.2 q43
    refine g_aload O dX11_letter_46 rfl ?_
    obtain ⟨c48, hw⟩ := hw
    refine gf_X2_name O dX11_letter_48 fl_X11_296 c48 ?_
    refine g_goto (tgt := 61) O dX11_letter_51 rfl ?_
    refine g_mask [false, false, false, true, false, false, false] rfl rfl ?_
    exact okX11_letter_j61 O hT hw
theorem okX11_letter_g {E : Ev} {X : Cx} {S : Sh} {Z : Option Nat} {Tq : Hp → Prop} {Q : Int32 → Hp → Prop} {h : Hp} {a0 : Nat} {x1 : Int32} {x2 : Int32} {x3 : Int32} (O : Ok E X yX11_letter cX11_letter 7 (some .int) 10 140 1 6 (qI S Z Q)) (hT : ∀ (h : Hp) (pc : Nat) (lc : List (Option Tv)), (pc = 22 ∨ pc = 76) → lc.length = 7 → Tq h → G E X 0 0 S Z h pc lc []) (hw : wX11_letter S Tq h a0 x1 x2 x3 Q) : G E X 0 0 S Z h 0 [some (vr a0), some (vi x1), some (vi x2), some (vi x3), none, none, none] [] := by
  unfold wX11_letter at hw
  refine g_aload_n O dX11_letter_0 rfl ?_
  refine g_iload_n O dX11_letter_1 rfl ?_
  obtain ⟨c2, hw⟩ := hw
  refine g_callV (As := [vi x1]) (rest := []) O ci_11 rfl dX11_letter_2 ml_X11_112 im_yX11_isMachine se_yX11_isMachine ini_X11 co_yX11_isMachine yo_yX11_isMachine c2 rfl rfl (Nat.le_of_ble_eq_true rfl) ⟨by decide, by decide, by decide, by decide⟩ (okX11_isMachine hw) (k_I fun r2 h2 hw => ?_)
  refine g_if_eq (tgt := 22) O dX11_letter_5 rfl (fun q5 => ?_) (fun q5 => ?_)
  · have hw := hw.1 q5
    exact hT _ 22 _ (by decide) rfl hw
  · have hw := hw.2 q5
    refine g_iload_n O dX11_letter_8 rfl ?_
    refine g_iconst O dX11_letter_9 kv_m1 ?_
    refine g_icmp_eq (tgt := 30) O dX11_letter_10 rfl (fun q10 => ?_) (fun q10 => ?_)
    · have hw := hw.1 q10
      exact okX11_letter_j30 O hT hw
    · have hw := hw.2 q10
      refine g_aload_n O dX11_letter_13 rfl ?_
      refine g_iload_n O dX11_letter_14 rfl ?_
      refine g_iload_n O dX11_letter_15 rfl ?_
      refine g_callV (As := [vi x1, vi x2]) (rest := []) O ci_11 rfl dX11_letter_16 ml_X11_125 im_yX11_isVariable se_yX11_isVariable ini_X11 co_yX11_isVariable yo_yX11_isVariable c2 rfl rfl (Nat.le_of_ble_eq_true rfl) ⟨by decide, by decide, by decide, by decide⟩ (okX11_isVariable hw) (k_I fun r16 h16 hw => ?_)
      refine g_if_ne (tgt := 30) O dX11_letter_19 rfl (fun q19 => ?_) (fun q19 => ?_)
      · have hw := hw.1 q19
        exact okX11_letter_j30 O hT hw
      · have hw := hw.2 q19
        exact hT _ 22 _ (by decide) rfl hw
theorem dX11_machine_0 : decode cX11_machine 0 = .ok (.aload_n 0, 1) := by decide +kernel
theorem dX11_machine_1 : decode cX11_machine 1 = .ok (.iload_n 1, 1) := by decide +kernel
theorem dX11_machine_2 : decode cX11_machine 2 = .ok (.invokevirtual 112, 3) := by decide +kernel
theorem dX11_machine_5 : decode cX11_machine 5 = .ok (.ifCond .eq 13, 3) := by decide +kernel
theorem dX11_machine_8 : decode cX11_machine 8 = .ok (.iload_n 2, 1) := by decide +kernel
theorem dX11_machine_9 : decode cX11_machine 9 = .ok (.ifCond .lt 9, 3) := by decide +kernel
theorem dX11_machine_12 : decode cX11_machine 12 = .ok (.iload_n 2, 1) := by decide +kernel
theorem dX11_machine_13 : decode cX11_machine 13 = .ok (.bipush 8, 2) := by decide +kernel
theorem dX11_machine_15 : decode cX11_machine 15 = .ok (.if_icmp .le 9, 3) := by decide +kernel
theorem dX11_machine_18 : decode cX11_machine 18 = .ok (.aload_n 0, 1) := by decide +kernel
theorem dX11_machine_19 : decode cX11_machine 19 = .ok (.iconst 1, 1) := by decide +kernel
theorem dX11_machine_20 : decode cX11_machine 20 = .ok (.invokevirtual 82, 3) := by decide +kernel
theorem dX11_machine_23 : decode cX11_machine 23 = .ok (.ireturn, 1) := by decide +kernel
theorem dX11_machine_24 : decode cX11_machine 24 = .ok (.aload_n 0, 1) := by decide +kernel
theorem dX11_machine_25 : decode cX11_machine 25 = .ok (.aload_n 0, 1) := by decide +kernel
theorem dX11_machine_26 : decode cX11_machine 26 = .ok (.getfield 55, 3) := by decide +kernel
theorem dX11_machine_29 : decode cX11_machine 29 = .ok (.getfield 116, 3) := by decide +kernel
theorem dX11_machine_32 : decode cX11_machine 32 = .ok (.iload_n 1, 1) := by decide +kernel
theorem dX11_machine_33 : decode cX11_machine 33 = .ok (.aaload, 1) := by decide +kernel
theorem dX11_machine_34 : decode cX11_machine 34 = .ok (.iload_n 2, 1) := by decide +kernel
theorem dX11_machine_35 : decode cX11_machine 35 = .ok (.invokevirtual 120, 3) := by decide +kernel
theorem dX11_machine_38 : decode cX11_machine 38 = .ok (.invokevirtual 109, 3) := by decide +kernel
theorem dX11_machine_41 : decode cX11_machine 41 = .ok (.ireturn, 1) := by decide +kernel
theorem okX11_machine {E : Ev} {S : Sh} {Z : Option Nat} {Q : Int32 → Hp → Prop} {h : Hp} {a0 : Nat} {x1 : Int32} {x2 : Int32} (hw : wX11_machine S h a0 x1 x2 Q) : Ct E yX11_machine cX11_machine 3 (some .int) 5 111 0 0 S Z h [vr a0, vi x1, vi x2] (qI S Z Q) := by
  refine Ct.of (by decide) (lc := [some (vr a0), some (vi x1), some (vi x2)]) (Nat.le_of_ble_eq_true rfl) rfl (fun X O => ?_)
  unfold wX11_machine at hw
  refine g_aload_n O dX11_machine_0 rfl ?_
  refine g_iload_n O dX11_machine_1 rfl ?_
  obtain ⟨c2, hw⟩ := hw
  refine g_callV (As := [vi x1]) (rest := []) O ci_11 rfl dX11_machine_2 ml_X11_112 im_yX11_isMachine se_yX11_isMachine ini_X11 co_yX11_isMachine yo_yX11_isMachine c2 rfl rfl (Nat.le_of_ble_eq_true rfl) ⟨by decide, by decide, by decide, by decide⟩ (okX11_isMachine hw) (k_I fun r2 h2 hw => ?_)
  refine g_if_eq (tgt := 18) O dX11_machine_5 rfl (fun q5 => ?_) (fun q5 => ?_)
  · have hw := hw.1 q5
    refine g_aload_n O dX11_machine_18 rfl ?_
    refine g_iconst O dX11_machine_19 kv_1 ?_
    refine g_callV (As := [vi (1 : Int32)]) (rest := []) O ci_11 rfl dX11_machine_20 ml_X11_82 im_yX11_refuse se_yX11_refuse ini_X11 co_yX11_refuse yo_yX11_refuse c2 rfl rfl (Nat.le_of_ble_eq_true rfl) ⟨by decide, by decide, by decide, by decide⟩ (okX11_refuse hw) (k_I fun r20 h20 hw => ?_)
    exact g_ireturn O dX11_machine_23 ⟨rfl, rfl, _, rfl, hw⟩
  · have hw := hw.2 q5
    refine g_iload_n O dX11_machine_8 rfl ?_
    refine g_if_lt (tgt := 18) O dX11_machine_9 rfl (fun q9 => ?_) (fun q9 => ?_)
    · have hw := hw.1 q9
      refine g_aload_n O dX11_machine_18 rfl ?_
      refine g_iconst O dX11_machine_19 kv_1 ?_
      refine g_callV (As := [vi (1 : Int32)]) (rest := []) O ci_11 rfl dX11_machine_20 ml_X11_82 im_yX11_refuse se_yX11_refuse ini_X11 co_yX11_refuse yo_yX11_refuse c2 rfl rfl (Nat.le_of_ble_eq_true rfl) ⟨by decide, by decide, by decide, by decide⟩ (okX11_refuse hw) (k_I fun r20 h20 hw => ?_)
      exact g_ireturn O dX11_machine_23 ⟨rfl, rfl, _, rfl, hw⟩
    · have hw := hw.2 q9
      refine g_iload_n O dX11_machine_12 rfl ?_
      refine g_bipush O dX11_machine_13 kb_8 ?_
      refine g_icmp_le (tgt := 24) O dX11_machine_15 rfl (fun q15 => ?_) (fun q15 => ?_)
      · have hw := hw.1 q15
        refine g_aload_n O dX11_machine_24 rfl ?_
        refine g_aload_n O dX11_machine_25 rfl ?_
        refine gf_X11_model O dX11_machine_26 fl_X11_55 c2 ?_
        obtain ⟨c29, hw⟩ := hw
        refine gf_X3_machines O dX11_machine_29 fl_X11_116 c29 ?_
        refine g_iload_n O dX11_machine_32 rfl ?_
        obtain ⟨c33, hw⟩ := hw
        refine g_aaload (t := 1) (C := "FinerSteps$Machine") O rfl dX11_machine_33 c33.1 c33.2 ?_
        refine g_iload_n O dX11_machine_34 rfl ?_
        obtain ⟨c35, hw⟩ := hw
        refine g_callV (As := [vi x2]) (rest := [vr a0]) O ci_2 rfl dX11_machine_35 ml_X11_120 im_yX2_told se_yX2_told ini_X2 co_yX2_told yo_yX2_told c35 rfl rfl (Nat.le_of_ble_eq_true rfl) ⟨by decide, by decide, by decide, by decide⟩ (okX2_told hw) (k_I fun r35 h35 hw => ?_)
        refine g_callV (As := [vi r35]) (rest := []) O ci_11 rfl dX11_machine_38 ml_X11_109 im_yX11_answer se_yX11_answer ini_X11 co_yX11_answer yo_yX11_answer c2 rfl rfl (Nat.le_of_ble_eq_true rfl) ⟨by decide, by decide, by decide, by decide⟩ (okX11_answer hw) (k_I fun r38 h38 hw => ?_)
        exact g_ireturn O dX11_machine_41 ⟨rfl, rfl, _, rfl, hw⟩
      · have hw := hw.2 q15
        refine g_aload_n O dX11_machine_18 rfl ?_
        refine g_iconst O dX11_machine_19 kv_1 ?_
        refine g_callV (As := [vi (1 : Int32)]) (rest := []) O ci_11 rfl dX11_machine_20 ml_X11_82 im_yX11_refuse se_yX11_refuse ini_X11 co_yX11_refuse yo_yX11_refuse c2 rfl rfl (Nat.le_of_ble_eq_true rfl) ⟨by decide, by decide, by decide, by decide⟩ (okX11_refuse hw) (k_I fun r20 h20 hw => ?_)
        exact g_ireturn O dX11_machine_23 ⟨rfl, rfl, _, rfl, hw⟩
theorem dX11_machines_0 : decode cX11_machines 0 = .ok (.iload_n 1, 1) := by decide +kernel
theorem dX11_machines_1 : decode cX11_machines 1 = .ok (.ifCond .lt 11, 3) := by decide +kernel
theorem dX11_machines_4 : decode cX11_machines 4 = .ok (.iload_n 1, 1) := by decide +kernel
theorem dX11_machines_5 : decode cX11_machines 5 = .ok (.aload_n 0, 1) := by decide +kernel
theorem dX11_machines_6 : decode cX11_machines 6 = .ok (.getfield 62, 3) := by decide +kernel
theorem dX11_machines_9 : decode cX11_machines 9 = .ok (.if_icmp .le 9, 3) := by decide +kernel
theorem dX11_machines_12 : decode cX11_machines 12 = .ok (.aload_n 0, 1) := by decide +kernel
theorem dX11_machines_13 : decode cX11_machines 13 = .ok (.iconst 2, 1) := by decide +kernel
theorem dX11_machines_14 : decode cX11_machines 14 = .ok (.invokevirtual 82, 3) := by decide +kernel
theorem dX11_machines_17 : decode cX11_machines 17 = .ok (.ireturn, 1) := by decide +kernel
theorem dX11_machines_18 : decode cX11_machines 18 = .ok (.aload_n 0, 1) := by decide +kernel
theorem dX11_machines_19 : decode cX11_machines 19 = .ok (.getfield 16, 3) := by decide +kernel
theorem dX11_machines_22 : decode cX11_machines 22 = .ok (.aload_n 0, 1) := by decide +kernel
theorem dX11_machines_23 : decode cX11_machines 23 = .ok (.getfield 9, 3) := by decide +kernel
theorem dX11_machines_26 : decode cX11_machines 26 = .ok (.iload_n 1, 1) := by decide +kernel
theorem dX11_machines_27 : decode cX11_machines 27 = .ok (.aload_n 0, 1) := by decide +kernel
theorem dX11_machines_28 : decode cX11_machines 28 = .ok (.getfield 59, 3) := by decide +kernel
theorem dX11_machines_31 : decode cX11_machines 31 = .ok (.invokevirtual 86, 3) := by decide +kernel
theorem dX11_machines_34 : decode cX11_machines 34 = .ok (.aload_n 0, 1) := by decide +kernel
theorem dX11_machines_35 : decode cX11_machines 35 = .ok (.getfield 16, 3) := by decide +kernel
theorem dX11_machines_38 : decode cX11_machines 38 = .ok (.invokevirtual 90, 3) := by decide +kernel
theorem dX11_machines_41 : decode cX11_machines 41 = .ok (.istore_n 2, 1) := by decide +kernel
theorem dX11_machines_42 : decode cX11_machines 42 = .ok (.aload_n 0, 1) := by decide +kernel
theorem dX11_machines_43 : decode cX11_machines 43 = .ok (.iconst 0, 1) := by decide +kernel
theorem dX11_machines_44 : decode cX11_machines 44 = .ok (.putfield 62, 3) := by decide +kernel
theorem dX11_machines_47 : decode cX11_machines 47 = .ok (.aload_n 0, 1) := by decide +kernel
theorem dX11_machines_48 : decode cX11_machines 48 = .ok (.aload_n 0, 1) := by decide +kernel
theorem dX11_machines_49 : decode cX11_machines 49 = .ok (.getfield 16, 3) := by decide +kernel
theorem dX11_machines_52 : decode cX11_machines 52 = .ok (.getfield 94, 3) := by decide +kernel
theorem dX11_machines_55 : decode cX11_machines 55 = .ok (.putfield 72, 3) := by decide +kernel
theorem dX11_machines_58 : decode cX11_machines 58 = .ok (.aload_n 0, 1) := by decide +kernel
theorem dX11_machines_59 : decode cX11_machines 59 = .ok (.aload_n 0, 1) := by decide +kernel
theorem dX11_machines_60 : decode cX11_machines 60 = .ok (.getfield 16, 3) := by decide +kernel
theorem dX11_machines_63 : decode cX11_machines 63 = .ok (.getfield 97, 3) := by decide +kernel
theorem dX11_machines_66 : decode cX11_machines 66 = .ok (.putfield 75, 3) := by decide +kernel
theorem dX11_machines_69 : decode cX11_machines 69 = .ok (.iload_n 2, 1) := by decide +kernel
theorem dX11_machines_70 : decode cX11_machines 70 = .ok (.ifCond .ne 9, 3) := by decide +kernel
theorem dX11_machines_73 : decode cX11_machines 73 = .ok (.aload_n 0, 1) := by decide +kernel
theorem dX11_machines_74 : decode cX11_machines 74 = .ok (.iconst 4, 1) := by decide +kernel
theorem dX11_machines_75 : decode cX11_machines 75 = .ok (.invokevirtual 82, 3) := by decide +kernel
theorem dX11_machines_78 : decode cX11_machines 78 = .ok (.ireturn, 1) := by decide +kernel
theorem dX11_machines_79 : decode cX11_machines 79 = .ok (.aload_n 0, 1) := by decide +kernel
theorem dX11_machines_80 : decode cX11_machines 80 = .ok (.getfield 55, 3) := by decide +kernel
theorem dX11_machines_83 : decode cX11_machines 83 = .ok (.astore_n 3, 1) := by decide +kernel
theorem dX11_machines_84 : decode cX11_machines 84 = .ok (.aload_n 0, 1) := by decide +kernel
theorem dX11_machines_85 : decode cX11_machines 85 = .ok (.aload_n 0, 1) := by decide +kernel
theorem dX11_machines_86 : decode cX11_machines 86 = .ok (.getfield 59, 3) := by decide +kernel
theorem dX11_machines_89 : decode cX11_machines 89 = .ok (.putfield 55, 3) := by decide +kernel
theorem dX11_machines_92 : decode cX11_machines 92 = .ok (.aload_n 0, 1) := by decide +kernel
theorem dX11_machines_93 : decode cX11_machines 93 = .ok (.aload_n 3, 1) := by decide +kernel
theorem dX11_machines_94 : decode cX11_machines 94 = .ok (.putfield 59, 3) := by decide +kernel
theorem dX11_machines_97 : decode cX11_machines 97 = .ok (.aload_n 0, 1) := by decide +kernel
theorem dX11_machines_98 : decode cX11_machines 98 = .ok (.getfield 55, 3) := by decide +kernel
theorem dX11_machines_101 : decode cX11_machines 101 = .ok (.invokevirtual 100, 3) := by decide +kernel
theorem dX11_machines_104 : decode cX11_machines 104 = .ok (.aload_n 0, 1) := by decide +kernel
theorem dX11_machines_105 : decode cX11_machines 105 = .ok (.getfield 30, 3) := by decide +kernel
theorem dX11_machines_108 : decode cX11_machines 108 = .ok (.invokevirtual 103, 3) := by decide +kernel
theorem dX11_machines_111 : decode cX11_machines 111 = .ok (.aload_n 0, 1) := by decide +kernel
theorem dX11_machines_112 : decode cX11_machines 112 = .ok (.iconst (-1), 1) := by decide +kernel
theorem dX11_machines_113 : decode cX11_machines 113 = .ok (.putfield 66, 3) := by decide +kernel
theorem dX11_machines_116 : decode cX11_machines 116 = .ok (.aload_n 0, 1) := by decide +kernel
theorem dX11_machines_117 : decode cX11_machines 117 = .ok (.aload_n 0, 1) := by decide +kernel
theorem dX11_machines_118 : decode cX11_machines 118 = .ok (.getfield 55, 3) := by decide +kernel
theorem dX11_machines_121 : decode cX11_machines 121 = .ok (.getfield 106, 3) := by decide +kernel
theorem dX11_machines_124 : decode cX11_machines 124 = .ok (.invokevirtual 109, 3) := by decide +kernel
theorem dX11_machines_127 : decode cX11_machines 127 = .ok (.ireturn, 1) := by decide +kernel
theorem okX11_machines {E : Ev} {S : Sh} {Z : Option Nat} {Q : Int32 → Hp → Prop} {h : Hp} {a0 : Nat} {x1 : Int32} (hw : wX11_machines S h a0 x1 Q) : Ct E yX11_machines cX11_machines 4 (some .int) 48 1774 0 0 S Z h [vr a0, vi x1] (qI S Z Q) := by
  refine Ct.of (by decide) (lc := [some (vr a0), some (vi x1), none, none]) (Nat.le_of_ble_eq_true rfl) rfl (fun X O => ?_)
  unfold wX11_machines at hw
  refine g_iload_n O dX11_machines_0 rfl ?_
  refine g_if_lt (tgt := 12) O dX11_machines_1 rfl (fun q1 => ?_) (fun q1 => ?_)
  · have hw := hw.1 q1
    refine g_aload_n O dX11_machines_12 rfl ?_
    refine g_iconst O dX11_machines_13 kv_2 ?_
    obtain ⟨c14, hw⟩ := hw
    refine g_callV (As := [vi (2 : Int32)]) (rest := []) O ci_11 rfl dX11_machines_14 ml_X11_82 im_yX11_refuse se_yX11_refuse ini_X11 co_yX11_refuse yo_yX11_refuse c14 rfl rfl (Nat.le_of_ble_eq_true rfl) ⟨by decide, by decide, by decide, by decide⟩ (okX11_refuse hw) (k_I fun r14 h14 hw => ?_)
    exact g_ireturn O dX11_machines_17 ⟨rfl, rfl, _, rfl, hw⟩
  · have hw := hw.2 q1
    refine g_iload_n O dX11_machines_4 rfl ?_
    refine g_aload_n O dX11_machines_5 rfl ?_
    obtain ⟨c6, hw⟩ := hw
    refine gf_X11_tapeSize O dX11_machines_6 fl_X11_62 c6 ?_
    refine g_icmp_le (tgt := 18) O dX11_machines_9 rfl (fun q9 => ?_) (fun q9 => ?_)
    · have hw := hw.1 q9
      refine g_aload_n O dX11_machines_18 rfl ?_
      refine gf_X11_reader O dX11_machines_19 fl_X11_16 c6 ?_
      refine g_aload_n O dX11_machines_22 rfl ?_
      refine gf_X11_tape O dX11_machines_23 fl_X11_9 c6 ?_
      refine g_iload_n O dX11_machines_26 rfl ?_
      refine g_aload_n O dX11_machines_27 rfl ?_
      refine gf_X11_draft O dX11_machines_28 fl_X11_59 c6 ?_
      obtain ⟨c31, hw⟩ := hw
      refine g_callV (As := [vr (gR h a0 0), vi x1, vr (gR h a0 8)]) (rest := []) O ci_5 rfl dX11_machines_31 ml_X11_86 im_yX5_start se_yX5_start ini_X5 co_yX5_start yo_yX5_start c31 rfl rfl (Nat.le_of_ble_eq_true rfl) ⟨by decide, by decide, by decide, by decide⟩ (okX5_start hw) (k_V fun h31 hw => ?_)
      refine g_aload_n O dX11_machines_34 rfl ?_
      refine gf_X11_reader O dX11_machines_35 fl_X11_16 c6 ?_
      obtain ⟨c38, hw⟩ := hw
      refine g_callV (As := []) (rest := []) O ci_5 rfl dX11_machines_38 ml_X11_90 im_yX5_readLines se_yX5_readLines ini_X5 co_yX5_readLines yo_yX5_readLines c38 rfl rfl (Nat.le_of_ble_eq_true rfl) ⟨by decide, by decide, by decide, by decide⟩ (okX5_readLines hw) (k_I fun r38 h38 hw => ?_)
      refine g_istore_n (lc' := [some (vr a0), some (vi x1), some (vi r38), none]) O dX11_machines_41 rfl (Nat.le_of_ble_eq_true rfl) rfl ?_
      refine g_aload_n O dX11_machines_42 rfl ?_
      refine g_iconst O dX11_machines_43 kv_0 ?_
      refine pf_X11_tapeSize O dX11_machines_44 fl_X11_62 c6 ?_
      refine g_nmH (fun h44 e44 => ?_)
      have hw := hw h44 e44
      refine g_aload_n O dX11_machines_47 rfl ?_
      refine g_aload_n O dX11_machines_48 rfl ?_
      refine gf_X11_reader O dX11_machines_49 fl_X11_16 c6 ?_
      obtain ⟨c52, hw⟩ := hw
      refine gf_X5_faultMet O dX11_machines_52 fl_X11_94 c52 ?_
      refine pf_X11_lastFault O dX11_machines_55 fl_X11_72 c6 ?_
      refine g_nmH (fun h55 e55 => ?_)
      have hw := hw h55 e55
      refine g_aload_n O dX11_machines_58 rfl ?_
      refine g_aload_n O dX11_machines_59 rfl ?_
      refine gf_X11_reader O dX11_machines_60 fl_X11_16 c6 ?_
      obtain ⟨c63, hw⟩ := hw
      refine gf_X5_faultAt O dX11_machines_63 fl_X11_97 c63 ?_
      refine pf_X11_faultPlace O dX11_machines_66 fl_X11_75 c6 ?_
      refine g_nmH (fun h66 e66 => ?_)
      have hw := hw h66 e66
      refine g_iload_n O dX11_machines_69 rfl ?_
      refine g_if_ne (tgt := 79) O dX11_machines_70 rfl (fun q70 => ?_) (fun q70 => ?_)
      · have hw := hw.1 q70
        refine g_aload_n O dX11_machines_79 rfl ?_
        refine gf_X11_model O dX11_machines_80 fl_X11_55 c6 ?_
        refine g_astore_n (lc' := [some (vr a0), some (vi x1), some (vi r38), some (vr (gR h66 a0 7))]) O dX11_machines_83 rfl (Nat.le_of_ble_eq_true rfl) rfl ?_
        refine g_aload_n O dX11_machines_84 rfl ?_
        refine g_aload_n O dX11_machines_85 rfl ?_
        refine gf_X11_draft O dX11_machines_86 fl_X11_59 c6 ?_
        refine pf_X11_model O dX11_machines_89 fl_X11_55 c6 ?_
        refine g_nmH (fun h89 e89 => ?_)
        have hw := hw h89 e89
        refine g_aload_n O dX11_machines_92 rfl ?_
        refine g_aload_n O dX11_machines_93 rfl ?_
        refine pf_X11_draft O dX11_machines_94 fl_X11_59 c6 ?_
        refine g_nmH (fun h94 e94 => ?_)
        have hw := hw h94 e94
        refine g_aload_n O dX11_machines_97 rfl ?_
        refine gf_X11_model O dX11_machines_98 fl_X11_55 c6 ?_
        obtain ⟨c101, hw⟩ := hw
        refine g_callV (As := []) (rest := []) O ci_3 rfl dX11_machines_101 ml_X11_100 im_yX3_settle se_yX3_settle ini_X3 co_yX3_settle yo_yX3_settle c101 rfl rfl (Nat.le_of_ble_eq_true rfl) ⟨by decide, by decide, by decide, by decide⟩ (okX3_settle hw) (k_V fun h101 hw => ?_)
        refine g_aload_n O dX11_machines_104 rfl ?_
        refine gf_X11_walk O dX11_machines_105 fl_X11_30 c6 ?_
        obtain ⟨c108, hw⟩ := hw
        refine g_callV (As := []) (rest := []) O ci_10 rfl dX11_machines_108 ml_X11_103 im_yX10_end se_yX10_end ini_X10 co_yX10_end yo_yX10_end c108 rfl rfl (Nat.le_of_ble_eq_true rfl) ⟨by decide, by decide, by decide, by decide⟩ (okX10_end hw) (k_V fun h108 hw => ?_)
        refine g_aload_n O dX11_machines_111 rfl ?_
        refine g_iconst O dX11_machines_112 kv_m1 ?_
        refine pf_X11_shownMachine O dX11_machines_113 fl_X11_66 c6 ?_
        refine g_nmH (fun h113 e113 => ?_)
        have hw := hw h113 e113
        refine g_aload_n O dX11_machines_116 rfl ?_
        refine g_aload_n O dX11_machines_117 rfl ?_
        refine gf_X11_model O dX11_machines_118 fl_X11_55 c6 ?_
        obtain ⟨c121, hw⟩ := hw
        refine gf_X3_count O dX11_machines_121 fl_X11_106 c121 ?_
        refine g_callV (As := [vi ((gI h113 (gR h113 a0 7) 5))]) (rest := []) O ci_11 rfl dX11_machines_124 ml_X11_109 im_yX11_answer se_yX11_answer ini_X11 co_yX11_answer yo_yX11_answer c6 rfl rfl (Nat.le_of_ble_eq_true rfl) ⟨by decide, by decide, by decide, by decide⟩ (okX11_answer hw) (k_I fun r124 h124 hw => ?_)
        exact g_ireturn O dX11_machines_127 ⟨rfl, rfl, _, rfl, hw⟩
      · have hw := hw.2 q70
        refine g_aload_n O dX11_machines_73 rfl ?_
        refine g_iconst O dX11_machines_74 kv_4 ?_
        refine g_callV (As := [vi (4 : Int32)]) (rest := []) O ci_11 rfl dX11_machines_75 ml_X11_82 im_yX11_refuse se_yX11_refuse ini_X11 co_yX11_refuse yo_yX11_refuse c6 rfl rfl (Nat.le_of_ble_eq_true rfl) ⟨by decide, by decide, by decide, by decide⟩ (okX11_refuse hw) (k_I fun r75 h75 hw => ?_)
        exact g_ireturn O dX11_machines_78 ⟨rfl, rfl, _, rfl, hw⟩
    · have hw := hw.2 q9
      refine g_aload_n O dX11_machines_12 rfl ?_
      refine g_iconst O dX11_machines_13 kv_2 ?_
      refine g_callV (As := [vi (2 : Int32)]) (rest := []) O ci_11 rfl dX11_machines_14 ml_X11_82 im_yX11_refuse se_yX11_refuse ini_X11 co_yX11_refuse yo_yX11_refuse c6 rfl rfl (Nat.le_of_ble_eq_true rfl) ⟨by decide, by decide, by decide, by decide⟩ (okX11_refuse hw) (k_I fun r14 h14 hw => ?_)
      exact g_ireturn O dX11_machines_17 ⟨rfl, rfl, _, rfl, hw⟩
theorem dX11_now_0 : decode cX11_now 0 = .ok (.aload_n 0, 1) := by decide +kernel
theorem dX11_now_1 : decode cX11_now 1 = .ok (.aload_n 0, 1) := by decide +kernel
theorem dX11_now_2 : decode cX11_now 2 = .ok (.getfield 30, 3) := by decide +kernel
theorem dX11_now_5 : decode cX11_now 5 = .ok (.getfield 240, 3) := by decide +kernel
theorem dX11_now_8 : decode cX11_now 8 = .ok (.invokevirtual 112, 3) := by decide +kernel
theorem dX11_now_11 : decode cX11_now 11 = .ok (.ifCond .eq 12, 3) := by decide +kernel
theorem dX11_now_14 : decode cX11_now 14 = .ok (.iload_n 1, 1) := by decide +kernel
theorem dX11_now_15 : decode cX11_now 15 = .ok (.ifCond .lt 8, 3) := by decide +kernel
theorem dX11_now_18 : decode cX11_now 18 = .ok (.iload_n 1, 1) := by decide +kernel
theorem dX11_now_19 : decode cX11_now 19 = .ok (.iconst 4, 1) := by decide +kernel
theorem dX11_now_20 : decode cX11_now 20 = .ok (.if_icmp .le 9, 3) := by decide +kernel
theorem dX11_now_23 : decode cX11_now 23 = .ok (.aload_n 0, 1) := by decide +kernel
theorem dX11_now_24 : decode cX11_now 24 = .ok (.iconst 1, 1) := by decide +kernel
theorem dX11_now_25 : decode cX11_now 25 = .ok (.invokevirtual 82, 3) := by decide +kernel
theorem dX11_now_28 : decode cX11_now 28 = .ok (.ireturn, 1) := by decide +kernel
theorem dX11_now_29 : decode cX11_now 29 = .ok (.iload_n 1, 1) := by decide +kernel
theorem dX11_now_30 : decode cX11_now 30 = .ok (.tableswitch 81 0 3 #[30, 42, 54, 66], 30) := by decide +kernel
theorem dX11_now_60 : decode cX11_now 60 = .ok (.aload_n 0, 1) := by decide +kernel
theorem dX11_now_61 : decode cX11_now 61 = .ok (.aload_n 0, 1) := by decide +kernel
theorem dX11_now_62 : decode cX11_now 62 = .ok (.getfield 30, 3) := by decide +kernel
theorem dX11_now_65 : decode cX11_now 65 = .ok (.getfield 240, 3) := by decide +kernel
theorem dX11_now_68 : decode cX11_now 68 = .ok (.invokevirtual 109, 3) := by decide +kernel
theorem dX11_now_71 : decode cX11_now 71 = .ok (.ireturn, 1) := by decide +kernel
theorem dX11_now_72 : decode cX11_now 72 = .ok (.aload_n 0, 1) := by decide +kernel
theorem dX11_now_73 : decode cX11_now 73 = .ok (.aload_n 0, 1) := by decide +kernel
theorem dX11_now_74 : decode cX11_now 74 = .ok (.getfield 30, 3) := by decide +kernel
theorem dX11_now_77 : decode cX11_now 77 = .ok (.getfield 239, 3) := by decide +kernel
theorem dX11_now_80 : decode cX11_now 80 = .ok (.invokevirtual 109, 3) := by decide +kernel
theorem dX11_now_83 : decode cX11_now 83 = .ok (.ireturn, 1) := by decide +kernel
theorem dX11_now_84 : decode cX11_now 84 = .ok (.aload_n 0, 1) := by decide +kernel
theorem dX11_now_85 : decode cX11_now 85 = .ok (.aload_n 0, 1) := by decide +kernel
theorem dX11_now_86 : decode cX11_now 86 = .ok (.getfield 30, 3) := by decide +kernel
theorem dX11_now_89 : decode cX11_now 89 = .ok (.getfield 249, 3) := by decide +kernel
theorem dX11_now_92 : decode cX11_now 92 = .ok (.invokevirtual 109, 3) := by decide +kernel
theorem dX11_now_95 : decode cX11_now 95 = .ok (.ireturn, 1) := by decide +kernel
theorem dX11_now_96 : decode cX11_now 96 = .ok (.aload_n 0, 1) := by decide +kernel
theorem dX11_now_97 : decode cX11_now 97 = .ok (.aload_n 0, 1) := by decide +kernel
theorem dX11_now_98 : decode cX11_now 98 = .ok (.getfield 30, 3) := by decide +kernel
theorem dX11_now_101 : decode cX11_now 101 = .ok (.getfield 252, 3) := by decide +kernel
theorem dX11_now_104 : decode cX11_now 104 = .ok (.invokevirtual 256, 3) := by decide +kernel
theorem dX11_now_107 : decode cX11_now 107 = .ok (.invokevirtual 109, 3) := by decide +kernel
theorem dX11_now_110 : decode cX11_now 110 = .ok (.ireturn, 1) := by decide +kernel
theorem dX11_now_111 : decode cX11_now 111 = .ok (.aload_n 0, 1) := by decide +kernel
theorem dX11_now_112 : decode cX11_now 112 = .ok (.aload_n 0, 1) := by decide +kernel
theorem dX11_now_113 : decode cX11_now 113 = .ok (.getfield 55, 3) := by decide +kernel
theorem dX11_now_116 : decode cX11_now 116 = .ok (.getfield 116, 3) := by decide +kernel
theorem dX11_now_119 : decode cX11_now 119 = .ok (.aload_n 0, 1) := by decide +kernel
theorem dX11_now_120 : decode cX11_now 120 = .ok (.getfield 30, 3) := by decide +kernel
theorem dX11_now_123 : decode cX11_now 123 = .ok (.getfield 240, 3) := by decide +kernel
theorem dX11_now_126 : decode cX11_now 126 = .ok (.aaload, 1) := by decide +kernel
theorem dX11_now_127 : decode cX11_now 127 = .ok (.aload_n 0, 1) := by decide +kernel
theorem dX11_now_128 : decode cX11_now 128 = .ok (.getfield 30, 3) := by decide +kernel
theorem dX11_now_131 : decode cX11_now 131 = .ok (.getfield 239, 3) := by decide +kernel
theorem dX11_now_134 : decode cX11_now 134 = .ok (.invokevirtual 259, 3) := by decide +kernel
theorem dX11_now_137 : decode cX11_now 137 = .ok (.invokevirtual 109, 3) := by decide +kernel
theorem dX11_now_140 : decode cX11_now 140 = .ok (.ireturn, 1) := by decide +kernel
theorem okX11_now {E : Ev} {S : Sh} {Z : Option Nat} {Q : Int32 → Hp → Prop} {h : Hp} {a0 : Nat} {x1 : Int32} (hw : wX11_now S h a0 x1 Q) : Ct E yX11_now cX11_now 2 (some .int) 3 68 0 0 S Z h [vr a0, vi x1] (qI S Z Q) := by
  refine Ct.of (by decide) (lc := [some (vr a0), some (vi x1)]) (Nat.le_of_ble_eq_true rfl) rfl (fun X O => ?_)
  unfold wX11_now at hw
  refine g_aload_n O dX11_now_0 rfl ?_
  refine g_aload_n O dX11_now_1 rfl ?_
  obtain ⟨c2, hw⟩ := hw
  refine gf_X11_walk O dX11_now_2 fl_X11_30 c2 ?_
  obtain ⟨c5, hw⟩ := hw
  refine gf_X10_number O dX11_now_5 fl_X11_240 c5 ?_
  refine g_callV (As := [vi ((gI h (gR h a0 3) 2))]) (rest := []) O ci_11 rfl dX11_now_8 ml_X11_112 im_yX11_isMachine se_yX11_isMachine ini_X11 co_yX11_isMachine yo_yX11_isMachine c2 rfl rfl (Nat.le_of_ble_eq_true rfl) ⟨by decide, by decide, by decide, by decide⟩ (okX11_isMachine hw) (k_I fun r8 h8 hw => ?_)
  refine g_if_eq (tgt := 23) O dX11_now_11 rfl (fun q11 => ?_) (fun q11 => ?_)
  · have hw := hw.1 q11
    refine g_aload_n O dX11_now_23 rfl ?_
    refine g_iconst O dX11_now_24 kv_1 ?_
    refine g_callV (As := [vi (1 : Int32)]) (rest := []) O ci_11 rfl dX11_now_25 ml_X11_82 im_yX11_refuse se_yX11_refuse ini_X11 co_yX11_refuse yo_yX11_refuse c2 rfl rfl (Nat.le_of_ble_eq_true rfl) ⟨by decide, by decide, by decide, by decide⟩ (okX11_refuse hw) (k_I fun r25 h25 hw => ?_)
    exact g_ireturn O dX11_now_28 ⟨rfl, rfl, _, rfl, hw⟩
  · have hw := hw.2 q11
    refine g_iload_n O dX11_now_14 rfl ?_
    refine g_if_lt (tgt := 23) O dX11_now_15 rfl (fun q15 => ?_) (fun q15 => ?_)
    · have hw := hw.1 q15
      refine g_aload_n O dX11_now_23 rfl ?_
      refine g_iconst O dX11_now_24 kv_1 ?_
      refine g_callV (As := [vi (1 : Int32)]) (rest := []) O ci_11 rfl dX11_now_25 ml_X11_82 im_yX11_refuse se_yX11_refuse ini_X11 co_yX11_refuse yo_yX11_refuse c2 rfl rfl (Nat.le_of_ble_eq_true rfl) ⟨by decide, by decide, by decide, by decide⟩ (okX11_refuse hw) (k_I fun r25 h25 hw => ?_)
      exact g_ireturn O dX11_now_28 ⟨rfl, rfl, _, rfl, hw⟩
    · have hw := hw.2 q15
      refine g_iload_n O dX11_now_18 rfl ?_
      refine g_iconst O dX11_now_19 kv_4 ?_
      refine g_icmp_le (tgt := 29) O dX11_now_20 rfl (fun q20 => ?_) (fun q20 => ?_)
      · have hw := hw.1 q20
        refine g_iload_n O dX11_now_29 rfl ?_
        refine g_tsw O dX11_now_30 (by decide) (by decide) (fun t30 ht => ?_)
        rcases ht with ⟨hx30, ht⟩ | ⟨hx30, ht⟩
        · obtain rfl : t30 = 60 := by have e : (30 : Int) + (30) = (t30 : Int) := ht; omega
          have hw := hw.1 (Int32.toInt_inj.mp hx30)
          refine g_aload_n O dX11_now_60 rfl ?_
          refine g_aload_n O dX11_now_61 rfl ?_
          refine gf_X11_walk O dX11_now_62 fl_X11_30 c2 ?_
          obtain ⟨c65, hw⟩ := hw
          refine gf_X10_number O dX11_now_65 fl_X11_240 c65 ?_
          refine g_callV (As := [vi ((gI h8 (gR h8 a0 3) 2))]) (rest := []) O ci_11 rfl dX11_now_68 ml_X11_109 im_yX11_answer se_yX11_answer ini_X11 co_yX11_answer yo_yX11_answer c2 rfl rfl (Nat.le_of_ble_eq_true rfl) ⟨by decide, by decide, by decide, by decide⟩ (okX11_answer hw) (k_I fun r68 h68 hw => ?_)
          exact g_ireturn O dX11_now_71 ⟨rfl, rfl, _, rfl, hw⟩
        · have hw := hw.2 (fun q => hx30 (by rw [q]; rfl))
          rcases ht with ⟨hx30, ht⟩ | ⟨hx30, ht⟩
          · obtain rfl : t30 = 72 := by have e : (30 : Int) + (42) = (t30 : Int) := ht; omega
            have hw := hw.1 (Int32.toInt_inj.mp hx30)
            refine g_aload_n O dX11_now_72 rfl ?_
            refine g_aload_n O dX11_now_73 rfl ?_
            refine gf_X11_walk O dX11_now_74 fl_X11_30 c2 ?_
            obtain ⟨c77, hw⟩ := hw
            refine gf_X10_state O dX11_now_77 fl_X11_239 c77 ?_
            refine g_callV (As := [vi ((gI h8 (gR h8 a0 3) 3))]) (rest := []) O ci_11 rfl dX11_now_80 ml_X11_109 im_yX11_answer se_yX11_answer ini_X11 co_yX11_answer yo_yX11_answer c2 rfl rfl (Nat.le_of_ble_eq_true rfl) ⟨by decide, by decide, by decide, by decide⟩ (okX11_answer hw) (k_I fun r80 h80 hw => ?_)
            exact g_ireturn O dX11_now_83 ⟨rfl, rfl, _, rfl, hw⟩
          · have hw := hw.2 (fun q => hx30 (by rw [q]; rfl))
            rcases ht with ⟨hx30, ht⟩ | ⟨hx30, ht⟩
            · obtain rfl : t30 = 84 := by have e : (30 : Int) + (54) = (t30 : Int) := ht; omega
              have hw := hw.1 (Int32.toInt_inj.mp hx30)
              refine g_aload_n O dX11_now_84 rfl ?_
              refine g_aload_n O dX11_now_85 rfl ?_
              refine gf_X11_walk O dX11_now_86 fl_X11_30 c2 ?_
              obtain ⟨c89, hw⟩ := hw
              refine gf_X10_made O dX11_now_89 fl_X11_249 c89 ?_
              refine g_callV (As := [vi ((gI h8 (gR h8 a0 3) 4))]) (rest := []) O ci_11 rfl dX11_now_92 ml_X11_109 im_yX11_answer se_yX11_answer ini_X11 co_yX11_answer yo_yX11_answer c2 rfl rfl (Nat.le_of_ble_eq_true rfl) ⟨by decide, by decide, by decide, by decide⟩ (okX11_answer hw) (k_I fun r92 h92 hw => ?_)
              exact g_ireturn O dX11_now_95 ⟨rfl, rfl, _, rfl, hw⟩
            · have hw := hw.2 (fun q => hx30 (by rw [q]; rfl))
              rcases ht with ⟨hx30, ht⟩ | ⟨hx30, ht⟩
              · obtain rfl : t30 = 96 := by have e : (30 : Int) + (66) = (t30 : Int) := ht; omega
                have hw := hw.1 (Int32.toInt_inj.mp hx30)
                refine g_aload_n O dX11_now_96 rfl ?_
                refine g_aload_n O dX11_now_97 rfl ?_
                refine gf_X11_walk O dX11_now_98 fl_X11_30 c2 ?_
                obtain ⟨c101, hw⟩ := hw
                refine gf_X10_near O dX11_now_101 fl_X11_252 c101 ?_
                obtain ⟨c104, hw⟩ := hw
                refine g_callV (As := []) (rest := [vr a0]) O ci_7 rfl dX11_now_104 ml_X11_256 im_yX7_count se_yX7_count ini_X7 co_yX7_count yo_yX7_count c104 rfl rfl (Nat.le_of_ble_eq_true rfl) ⟨by decide, by decide, by decide, by decide⟩ (okX7_count hw) (k_I fun r104 h104 hw => ?_)
                refine g_callV (As := [vi r104]) (rest := []) O ci_11 rfl dX11_now_107 ml_X11_109 im_yX11_answer se_yX11_answer ini_X11 co_yX11_answer yo_yX11_answer c2 rfl rfl (Nat.le_of_ble_eq_true rfl) ⟨by decide, by decide, by decide, by decide⟩ (okX11_answer hw) (k_I fun r107 h107 hw => ?_)
                exact g_ireturn O dX11_now_110 ⟨rfl, rfl, _, rfl, hw⟩
              · have hw := hw.2 (fun q => hx30 (by rw [q]; rfl))
                obtain rfl : t30 = 111 := by have e : (30 : Int) + (81) = (t30 : Int) := ht; omega
                refine g_aload_n O dX11_now_111 rfl ?_
                refine g_aload_n O dX11_now_112 rfl ?_
                refine gf_X11_model O dX11_now_113 fl_X11_55 c2 ?_
                obtain ⟨c116, hw⟩ := hw
                refine gf_X3_machines O dX11_now_116 fl_X11_116 c116 ?_
                refine g_aload_n O dX11_now_119 rfl ?_
                refine gf_X11_walk O dX11_now_120 fl_X11_30 c2 ?_
                obtain ⟨c123, hw⟩ := hw
                refine gf_X10_number O dX11_now_123 fl_X11_240 c123 ?_
                obtain ⟨c126, hw⟩ := hw
                refine g_aaload (t := 1) (C := "FinerSteps$Machine") O rfl dX11_now_126 c126.1 c126.2 ?_
                refine g_aload_n O dX11_now_127 rfl ?_
                refine gf_X11_walk O dX11_now_128 fl_X11_30 c2 ?_
                refine gf_X10_state O dX11_now_131 fl_X11_239 c123 ?_
                obtain ⟨c134, hw⟩ := hw
                refine g_callV (As := [vi ((gI h8 (gR h8 a0 3) 3))]) (rest := [vr a0]) O ci_2 rfl dX11_now_134 ml_X11_259 im_yX2_eventsFrom se_yX2_eventsFrom ini_X2 co_yX2_eventsFrom yo_yX2_eventsFrom c134 rfl rfl (Nat.le_of_ble_eq_true rfl) ⟨by decide, by decide, by decide, by decide⟩ (okX2_eventsFrom hw) (k_I fun r134 h134 hw => ?_)
                refine g_callV (As := [vi r134]) (rest := []) O ci_11 rfl dX11_now_137 ml_X11_109 im_yX11_answer se_yX11_answer ini_X11 co_yX11_answer yo_yX11_answer c2 rfl rfl (Nat.le_of_ble_eq_true rfl) ⟨by decide, by decide, by decide, by decide⟩ (okX11_answer hw) (k_I fun r137 h137 hw => ?_)
                exact g_ireturn O dX11_now_140 ⟨rfl, rfl, _, rfl, hw⟩
      · have hw := hw.2 q20
        refine g_aload_n O dX11_now_23 rfl ?_
        refine g_iconst O dX11_now_24 kv_1 ?_
        refine g_callV (As := [vi (1 : Int32)]) (rest := []) O ci_11 rfl dX11_now_25 ml_X11_82 im_yX11_refuse se_yX11_refuse ini_X11 co_yX11_refuse yo_yX11_refuse c2 rfl rfl (Nat.le_of_ble_eq_true rfl) ⟨by decide, by decide, by decide, by decide⟩ (okX11_refuse hw) (k_I fun r25 h25 hw => ?_)
        exact g_ireturn O dX11_now_28 ⟨rfl, rfl, _, rfl, hw⟩
theorem dX11_octet_0 : decode cX11_octet 0 = .ok (.iload_n 1, 1) := by decide +kernel
theorem dX11_octet_1 : decode cX11_octet 1 = .ok (.ifCond .ge 9, 3) := by decide +kernel
theorem dX11_octet_4 : decode cX11_octet 4 = .ok (.aload_n 0, 1) := by decide +kernel
theorem dX11_octet_5 : decode cX11_octet 5 = .ok (.iconst 1, 1) := by decide +kernel
theorem dX11_octet_6 : decode cX11_octet 6 = .ok (.invokevirtual 82, 3) := by decide +kernel
theorem dX11_octet_9 : decode cX11_octet 9 = .ok (.ireturn, 1) := by decide +kernel
theorem dX11_octet_10 : decode cX11_octet 10 = .ok (.aload_n 0, 1) := by decide +kernel
theorem dX11_octet_11 : decode cX11_octet 11 = .ok (.iload_n 1, 1) := by decide +kernel
theorem dX11_octet_12 : decode cX11_octet 12 = .ok (.aload_n 0, 1) := by decide +kernel
theorem dX11_octet_13 : decode cX11_octet 13 = .ok (.getfield 44, 3) := by decide +kernel
theorem dX11_octet_16 : decode cX11_octet 16 = .ok (.getfield 231, 3) := by decide +kernel
theorem dX11_octet_19 : decode cX11_octet 19 = .ok (.if_icmp .ge 15, 3) := by decide +kernel
theorem dX11_octet_22 : decode cX11_octet 22 = .ok (.aload_n 0, 1) := by decide +kernel
theorem dX11_octet_23 : decode cX11_octet 23 = .ok (.getfield 44, 3) := by decide +kernel
theorem dX11_octet_26 : decode cX11_octet 26 = .ok (.getfield 232, 3) := by decide +kernel
theorem dX11_octet_29 : decode cX11_octet 29 = .ok (.iload_n 1, 1) := by decide +kernel
theorem dX11_octet_30 : decode cX11_octet 30 = .ok (.baload, 1) := by decide +kernel
theorem dX11_octet_31 : decode cX11_octet 31 = .ok (.goto 5, 3) := by decide +kernel
theorem dX11_octet_34 : decode cX11_octet 34 = .ok (.bipush (-2), 2) := by decide +kernel
theorem dX11_octet_36 : decode cX11_octet 36 = .ok (.invokevirtual 109, 3) := by decide +kernel
theorem dX11_octet_39 : decode cX11_octet 39 = .ok (.ireturn, 1) := by decide +kernel
theorem okX11_octet {E : Ev} {S : Sh} {Z : Option Nat} {Q : Int32 → Hp → Prop} {h : Hp} {a0 : Nat} {x1 : Int32} (hw : wX11_octet S h a0 x1 Q) : Ct E yX11_octet cX11_octet 2 (some .int) 2 45 0 0 S Z h [vr a0, vi x1] (qI S Z Q) := by
  refine Ct.of (by decide) (lc := [some (vr a0), some (vi x1)]) (Nat.le_of_ble_eq_true rfl) rfl (fun X O => ?_)
  unfold wX11_octet at hw
  refine g_iload_n O dX11_octet_0 rfl ?_
  refine g_if_ge (tgt := 10) O dX11_octet_1 rfl (fun q1 => ?_) (fun q1 => ?_)
  · have hw := hw.1 q1
    refine g_aload_n O dX11_octet_10 rfl ?_
    refine g_iload_n O dX11_octet_11 rfl ?_
    refine g_aload_n O dX11_octet_12 rfl ?_
    obtain ⟨c13, hw⟩ := hw
    refine gf_X11_scroll O dX11_octet_13 fl_X11_44 c13 ?_
    obtain ⟨c16, hw⟩ := hw
    refine gf_X6_count O dX11_octet_16 fl_X11_231 c16 ?_
    refine g_icmp_ge (tgt := 34) O dX11_octet_19 rfl (fun q19 => ?_) (fun q19 => ?_)
    · have hw := hw.1 q19
      refine g_bipush O dX11_octet_34 kb_m2 ?_
      refine g_callV (As := [vi (-2 : Int32)]) (rest := []) O ci_11 rfl dX11_octet_36 ml_X11_109 im_yX11_answer se_yX11_answer ini_X11 co_yX11_answer yo_yX11_answer c13 rfl rfl (Nat.le_of_ble_eq_true rfl) ⟨by decide, by decide, by decide, by decide⟩ (okX11_answer hw) (k_I fun r36 h36 hw => ?_)
      exact g_ireturn O dX11_octet_39 ⟨rfl, rfl, _, rfl, hw⟩
    · have hw := hw.2 q19
      refine g_aload_n O dX11_octet_22 rfl ?_
      refine gf_X11_scroll O dX11_octet_23 fl_X11_44 c13 ?_
      refine gf_X6_bytes O dX11_octet_26 fl_X11_232 c16 ?_
      refine g_iload_n O dX11_octet_29 rfl ?_
      obtain ⟨c30, hw⟩ := hw
      refine g_baload O dX11_octet_30 c30.1 c30.2 ?_
      refine g_goto (tgt := 36) O dX11_octet_31 rfl ?_
      refine g_callV (As := [vi ((gI h ((gR h (gR h a0 5) 0)) (ix x1)))]) (rest := []) O ci_11 rfl dX11_octet_36 ml_X11_109 im_yX11_answer se_yX11_answer ini_X11 co_yX11_answer yo_yX11_answer c13 rfl rfl (Nat.le_of_ble_eq_true rfl) ⟨by decide, by decide, by decide, by decide⟩ (okX11_answer hw) (k_I fun r36 h36 hw => ?_)
      exact g_ireturn O dX11_octet_39 ⟨rfl, rfl, _, rfl, hw⟩
  · have hw := hw.2 q1
    refine g_aload_n O dX11_octet_4 rfl ?_
    refine g_iconst O dX11_octet_5 kv_1 ?_
    obtain ⟨c6, hw⟩ := hw
    refine g_callV (As := [vi (1 : Int32)]) (rest := []) O ci_11 rfl dX11_octet_6 ml_X11_82 im_yX11_refuse se_yX11_refuse ini_X11 co_yX11_refuse yo_yX11_refuse c6 rfl rfl (Nat.le_of_ble_eq_true rfl) ⟨by decide, by decide, by decide, by decide⟩ (okX11_refuse hw) (k_I fun r6 h6 hw => ?_)
    exact g_ireturn O dX11_octet_9 ⟨rfl, rfl, _, rfl, hw⟩
theorem dX11_open_0 : decode cX11_open 0 = .ok (.aload_n 0, 1) := by decide +kernel
theorem dX11_open_1 : decode cX11_open 1 = .ok (.iload_n 1, 1) := by decide +kernel
theorem dX11_open_2 : decode cX11_open 2 = .ok (.invokevirtual 112, 3) := by decide +kernel
theorem dX11_open_5 : decode cX11_open 5 = .ok (.ifCond .ne 9, 3) := by decide +kernel
theorem dX11_open_8 : decode cX11_open 8 = .ok (.aload_n 0, 1) := by decide +kernel
theorem dX11_open_9 : decode cX11_open 9 = .ok (.iconst 1, 1) := by decide +kernel
theorem dX11_open_10 : decode cX11_open 10 = .ok (.invokevirtual 82, 3) := by decide +kernel
theorem dX11_open_13 : decode cX11_open 13 = .ok (.ireturn, 1) := by decide +kernel
theorem dX11_open_14 : decode cX11_open 14 = .ok (.aload_n 0, 1) := by decide +kernel
theorem dX11_open_15 : decode cX11_open 15 = .ok (.aload_n 0, 1) := by decide +kernel
theorem dX11_open_16 : decode cX11_open 16 = .ok (.getfield 23, 3) := by decide +kernel
theorem dX11_open_19 : decode cX11_open 19 = .ok (.aload_n 0, 1) := by decide +kernel
theorem dX11_open_20 : decode cX11_open 20 = .ok (.getfield 55, 3) := by decide +kernel
theorem dX11_open_23 : decode cX11_open 23 = .ok (.iload_n 1, 1) := by decide +kernel
theorem dX11_open_24 : decode cX11_open 24 = .ok (.invokevirtual 211, 3) := by decide +kernel
theorem dX11_open_27 : decode cX11_open 27 = .ok (.invokevirtual 109, 3) := by decide +kernel
theorem dX11_open_30 : decode cX11_open 30 = .ok (.ireturn, 1) := by decide +kernel
theorem okX11_open {E : Ev} {S : Sh} {Z : Option Nat} {Q : Int32 → Hp → Prop} {h : Hp} {a0 : Nat} {x1 : Int32} (hw : wX11_open S h a0 x1 Q) : Ct E yX11_open cX11_open 2 (some .int) 8 195 0 0 S Z h [vr a0, vi x1] (qI S Z Q) := by
  refine Ct.of (by decide) (lc := [some (vr a0), some (vi x1)]) (Nat.le_of_ble_eq_true rfl) rfl (fun X O => ?_)
  unfold wX11_open at hw
  refine g_aload_n O dX11_open_0 rfl ?_
  refine g_iload_n O dX11_open_1 rfl ?_
  obtain ⟨c2, hw⟩ := hw
  refine g_callV (As := [vi x1]) (rest := []) O ci_11 rfl dX11_open_2 ml_X11_112 im_yX11_isMachine se_yX11_isMachine ini_X11 co_yX11_isMachine yo_yX11_isMachine c2 rfl rfl (Nat.le_of_ble_eq_true rfl) ⟨by decide, by decide, by decide, by decide⟩ (okX11_isMachine hw) (k_I fun r2 h2 hw => ?_)
  refine g_if_ne (tgt := 14) O dX11_open_5 rfl (fun q5 => ?_) (fun q5 => ?_)
  · have hw := hw.1 q5
    refine g_aload_n O dX11_open_14 rfl ?_
    refine g_aload_n O dX11_open_15 rfl ?_
    refine gf_X11_judge O dX11_open_16 fl_X11_23 c2 ?_
    refine g_aload_n O dX11_open_19 rfl ?_
    refine gf_X11_model O dX11_open_20 fl_X11_55 c2 ?_
    refine g_iload_n O dX11_open_23 rfl ?_
    obtain ⟨c24, hw⟩ := hw
    refine g_callV (As := [vr (gR h2 a0 7), vi x1]) (rest := [vr a0]) O ci_1 rfl dX11_open_24 ml_X11_211 im_yX1_countOpen se_yX1_countOpen ini_X1 co_yX1_countOpen yo_yX1_countOpen c24 rfl rfl (Nat.le_of_ble_eq_true rfl) ⟨by decide, by decide, by decide, by decide⟩ (okX1_countOpen hw) (k_I fun r24 h24 hw => ?_)
    refine g_callV (As := [vi r24]) (rest := []) O ci_11 rfl dX11_open_27 ml_X11_109 im_yX11_answer se_yX11_answer ini_X11 co_yX11_answer yo_yX11_answer c2 rfl rfl (Nat.le_of_ble_eq_true rfl) ⟨by decide, by decide, by decide, by decide⟩ (okX11_answer hw) (k_I fun r27 h27 hw => ?_)
    exact g_ireturn O dX11_open_30 ⟨rfl, rfl, _, rfl, hw⟩
  · have hw := hw.2 q5
    refine g_aload_n O dX11_open_8 rfl ?_
    refine g_iconst O dX11_open_9 kv_1 ?_
    refine g_callV (As := [vi (1 : Int32)]) (rest := []) O ci_11 rfl dX11_open_10 ml_X11_82 im_yX11_refuse se_yX11_refuse ini_X11 co_yX11_refuse yo_yX11_refuse c2 rfl rfl (Nat.le_of_ble_eq_true rfl) ⟨by decide, by decide, by decide, by decide⟩ (okX11_refuse hw) (k_I fun r10 h10 hw => ?_)
    exact g_ireturn O dX11_open_13 ⟨rfl, rfl, _, rfl, hw⟩
theorem dX11_reach_0 : decode cX11_reach 0 = .ok (.aload_n 0, 1) := by decide +kernel
theorem dX11_reach_1 : decode cX11_reach 1 = .ok (.iload_n 1, 1) := by decide +kernel
theorem dX11_reach_2 : decode cX11_reach 2 = .ok (.invokevirtual 112, 3) := by decide +kernel
theorem dX11_reach_5 : decode cX11_reach 5 = .ok (.ifCond .ne 9, 3) := by decide +kernel
theorem dX11_reach_8 : decode cX11_reach 8 = .ok (.aload_n 0, 1) := by decide +kernel
theorem dX11_reach_9 : decode cX11_reach 9 = .ok (.iconst 1, 1) := by decide +kernel
theorem dX11_reach_10 : decode cX11_reach 10 = .ok (.invokevirtual 82, 3) := by decide +kernel
theorem dX11_reach_13 : decode cX11_reach 13 = .ok (.ireturn, 1) := by decide +kernel
theorem dX11_reach_14 : decode cX11_reach 14 = .ok (.aload_n 0, 1) := by decide +kernel
theorem dX11_reach_15 : decode cX11_reach 15 = .ok (.getfield 37, 3) := by decide +kernel
theorem dX11_reach_18 : decode cX11_reach 18 = .ok (.aload_n 0, 1) := by decide +kernel
theorem dX11_reach_19 : decode cX11_reach 19 = .ok (.getfield 55, 3) := by decide +kernel
theorem dX11_reach_22 : decode cX11_reach 22 = .ok (.getfield 116, 3) := by decide +kernel
theorem dX11_reach_25 : decode cX11_reach 25 = .ok (.iload_n 1, 1) := by decide +kernel
theorem dX11_reach_26 : decode cX11_reach 26 = .ok (.aaload, 1) := by decide +kernel
theorem dX11_reach_27 : decode cX11_reach 27 = .ok (.invokevirtual 266, 3) := by decide +kernel
theorem dX11_reach_30 : decode cX11_reach 30 = .ok (.aload_n 0, 1) := by decide +kernel
theorem dX11_reach_31 : decode cX11_reach 31 = .ok (.aload_n 0, 1) := by decide +kernel
theorem dX11_reach_32 : decode cX11_reach 32 = .ok (.getfield 37, 3) := by decide +kernel
theorem dX11_reach_35 : decode cX11_reach 35 = .ok (.getfield 270, 3) := by decide +kernel
theorem dX11_reach_38 : decode cX11_reach 38 = .ok (.invokevirtual 109, 3) := by decide +kernel
theorem dX11_reach_41 : decode cX11_reach 41 = .ok (.ireturn, 1) := by decide +kernel
theorem okX11_reach {E : Ev} {S : Sh} {Z : Option Nat} {Q : Int32 → Hp → Prop} {h : Hp} {a0 : Nat} {x1 : Int32} (hw : wX11_reach S h a0 x1 Q) : Ct E yX11_reach cX11_reach 2 (some .int) 5 114 0 0 S Z h [vr a0, vi x1] (qI S Z Q) := by
  refine Ct.of (by decide) (lc := [some (vr a0), some (vi x1)]) (Nat.le_of_ble_eq_true rfl) rfl (fun X O => ?_)
  unfold wX11_reach at hw
  refine g_aload_n O dX11_reach_0 rfl ?_
  refine g_iload_n O dX11_reach_1 rfl ?_
  obtain ⟨c2, hw⟩ := hw
  refine g_callV (As := [vi x1]) (rest := []) O ci_11 rfl dX11_reach_2 ml_X11_112 im_yX11_isMachine se_yX11_isMachine ini_X11 co_yX11_isMachine yo_yX11_isMachine c2 rfl rfl (Nat.le_of_ble_eq_true rfl) ⟨by decide, by decide, by decide, by decide⟩ (okX11_isMachine hw) (k_I fun r2 h2 hw => ?_)
  refine g_if_ne (tgt := 14) O dX11_reach_5 rfl (fun q5 => ?_) (fun q5 => ?_)
  · have hw := hw.1 q5
    refine g_aload_n O dX11_reach_14 rfl ?_
    refine gf_X11_paths O dX11_reach_15 fl_X11_37 c2 ?_
    refine g_aload_n O dX11_reach_18 rfl ?_
    refine gf_X11_model O dX11_reach_19 fl_X11_55 c2 ?_
    obtain ⟨c22, hw⟩ := hw
    refine gf_X3_machines O dX11_reach_22 fl_X11_116 c22 ?_
    refine g_iload_n O dX11_reach_25 rfl ?_
    obtain ⟨c26, hw⟩ := hw
    refine g_aaload (t := 1) (C := "FinerSteps$Machine") O rfl dX11_reach_26 c26.1 c26.2 ?_
    obtain ⟨c27, hw⟩ := hw
    refine g_callV (As := [vr ((gR h2 ((gR h2 (gR h2 a0 7) 0)) (ix x1)))]) (rest := []) O ci_4 rfl dX11_reach_27 ml_X11_266 im_yX4_explore se_yX4_explore ini_X4 co_yX4_explore yo_yX4_explore c27 rfl rfl (Nat.le_of_ble_eq_true rfl) ⟨by decide, by decide, by decide, by decide⟩ (okX4_explore hw) (k_V fun h27 hw => ?_)
    refine g_aload_n O dX11_reach_30 rfl ?_
    refine g_aload_n O dX11_reach_31 rfl ?_
    refine gf_X11_paths O dX11_reach_32 fl_X11_37 c2 ?_
    obtain ⟨c35, hw⟩ := hw
    refine gf_X4_found O dX11_reach_35 fl_X11_270 c35 ?_
    refine g_callV (As := [vi ((gI h27 (gR h27 a0 4) 2))]) (rest := []) O ci_11 rfl dX11_reach_38 ml_X11_109 im_yX11_answer se_yX11_answer ini_X11 co_yX11_answer yo_yX11_answer c2 rfl rfl (Nat.le_of_ble_eq_true rfl) ⟨by decide, by decide, by decide, by decide⟩ (okX11_answer hw) (k_I fun r38 h38 hw => ?_)
    exact g_ireturn O dX11_reach_41 ⟨rfl, rfl, _, rfl, hw⟩
  · have hw := hw.2 q5
    refine g_aload_n O dX11_reach_8 rfl ?_
    refine g_iconst O dX11_reach_9 kv_1 ?_
    refine g_callV (As := [vi (1 : Int32)]) (rest := []) O ci_11 rfl dX11_reach_10 ml_X11_82 im_yX11_refuse se_yX11_refuse ini_X11 co_yX11_refuse yo_yX11_refuse c2 rfl rfl (Nat.le_of_ble_eq_true rfl) ⟨by decide, by decide, by decide, by decide⟩ (okX11_refuse hw) (k_I fun r10 h10 hw => ?_)
    exact g_ireturn O dX11_reach_13 ⟨rfl, rfl, _, rfl, hw⟩
theorem dX11_run_0 : decode cX11_run 0 = .ok (.aload_n 0, 1) := by decide +kernel
theorem dX11_run_1 : decode cX11_run 1 = .ok (.iload_n 1, 1) := by decide +kernel
theorem dX11_run_2 : decode cX11_run 2 = .ok (.invokevirtual 112, 3) := by decide +kernel
theorem dX11_run_5 : decode cX11_run 5 = .ok (.ifCond .ne 9, 3) := by decide +kernel
theorem dX11_run_8 : decode cX11_run 8 = .ok (.aload_n 0, 1) := by decide +kernel
theorem dX11_run_9 : decode cX11_run 9 = .ok (.iconst 1, 1) := by decide +kernel
theorem dX11_run_10 : decode cX11_run 10 = .ok (.invokevirtual 82, 3) := by decide +kernel
theorem dX11_run_13 : decode cX11_run 13 = .ok (.ireturn, 1) := by decide +kernel
theorem dX11_run_14 : decode cX11_run 14 = .ok (.aload_n 0, 1) := by decide +kernel
theorem dX11_run_15 : decode cX11_run 15 = .ok (.getfield 30, 3) := by decide +kernel
theorem dX11_run_18 : decode cX11_run 18 = .ok (.aload_n 0, 1) := by decide +kernel
theorem dX11_run_19 : decode cX11_run 19 = .ok (.getfield 55, 3) := by decide +kernel
theorem dX11_run_22 : decode cX11_run 22 = .ok (.iload_n 1, 1) := by decide +kernel
theorem dX11_run_23 : decode cX11_run 23 = .ok (.invokevirtual 235, 3) := by decide +kernel
theorem dX11_run_26 : decode cX11_run 26 = .ok (.aload_n 0, 1) := by decide +kernel
theorem dX11_run_27 : decode cX11_run 27 = .ok (.aload_n 0, 1) := by decide +kernel
theorem dX11_run_28 : decode cX11_run 28 = .ok (.getfield 30, 3) := by decide +kernel
theorem dX11_run_31 : decode cX11_run 31 = .ok (.getfield 239, 3) := by decide +kernel
theorem dX11_run_34 : decode cX11_run 34 = .ok (.invokevirtual 109, 3) := by decide +kernel
theorem dX11_run_37 : decode cX11_run 37 = .ok (.ireturn, 1) := by decide +kernel
theorem okX11_run {E : Ev} {S : Sh} {Z : Option Nat} {Q : Int32 → Hp → Prop} {h : Hp} {a0 : Nat} {x1 : Int32} (hw : wX11_run S h a0 x1 Q) : Ct E yX11_run cX11_run 2 (some .int) 5 112 0 0 S Z h [vr a0, vi x1] (qI S Z Q) := by
  refine Ct.of (by decide) (lc := [some (vr a0), some (vi x1)]) (Nat.le_of_ble_eq_true rfl) rfl (fun X O => ?_)
  unfold wX11_run at hw
  refine g_aload_n O dX11_run_0 rfl ?_
  refine g_iload_n O dX11_run_1 rfl ?_
  obtain ⟨c2, hw⟩ := hw
  refine g_callV (As := [vi x1]) (rest := []) O ci_11 rfl dX11_run_2 ml_X11_112 im_yX11_isMachine se_yX11_isMachine ini_X11 co_yX11_isMachine yo_yX11_isMachine c2 rfl rfl (Nat.le_of_ble_eq_true rfl) ⟨by decide, by decide, by decide, by decide⟩ (okX11_isMachine hw) (k_I fun r2 h2 hw => ?_)
  refine g_if_ne (tgt := 14) O dX11_run_5 rfl (fun q5 => ?_) (fun q5 => ?_)
  · have hw := hw.1 q5
    refine g_aload_n O dX11_run_14 rfl ?_
    refine gf_X11_walk O dX11_run_15 fl_X11_30 c2 ?_
    refine g_aload_n O dX11_run_18 rfl ?_
    refine gf_X11_model O dX11_run_19 fl_X11_55 c2 ?_
    refine g_iload_n O dX11_run_22 rfl ?_
    obtain ⟨c23, hw⟩ := hw
    refine g_callV (As := [vr (gR h2 a0 7), vi x1]) (rest := []) O ci_10 rfl dX11_run_23 ml_X11_235 im_yX10_begin se_yX10_begin ini_X10 co_yX10_begin yo_yX10_begin c23 rfl rfl (Nat.le_of_ble_eq_true rfl) ⟨by decide, by decide, by decide, by decide⟩ (okX10_begin hw) (k_V fun h23 hw => ?_)
    refine g_aload_n O dX11_run_26 rfl ?_
    refine g_aload_n O dX11_run_27 rfl ?_
    refine gf_X11_walk O dX11_run_28 fl_X11_30 c2 ?_
    obtain ⟨c31, hw⟩ := hw
    refine gf_X10_state O dX11_run_31 fl_X11_239 c31 ?_
    refine g_callV (As := [vi ((gI h23 (gR h23 a0 3) 3))]) (rest := []) O ci_11 rfl dX11_run_34 ml_X11_109 im_yX11_answer se_yX11_answer ini_X11 co_yX11_answer yo_yX11_answer c2 rfl rfl (Nat.le_of_ble_eq_true rfl) ⟨by decide, by decide, by decide, by decide⟩ (okX11_answer hw) (k_I fun r34 h34 hw => ?_)
    exact g_ireturn O dX11_run_37 ⟨rfl, rfl, _, rfl, hw⟩
  · have hw := hw.2 q5
    refine g_aload_n O dX11_run_8 rfl ?_
    refine g_iconst O dX11_run_9 kv_1 ?_
    refine g_callV (As := [vi (1 : Int32)]) (rest := []) O ci_11 rfl dX11_run_10 ml_X11_82 im_yX11_refuse se_yX11_refuse ini_X11 co_yX11_refuse yo_yX11_refuse c2 rfl rfl (Nat.le_of_ble_eq_true rfl) ⟨by decide, by decide, by decide, by decide⟩ (okX11_refuse hw) (k_I fun r10 h10 hw => ?_)
    exact g_ireturn O dX11_run_13 ⟨rfl, rfl, _, rfl, hw⟩
theorem dX11_shown_0 : decode cX11_shown 0 = .ok (.iload_n 1, 1) := by decide +kernel
theorem dX11_shown_1 : decode cX11_shown 1 = .ok (.ifCond .lt 12, 3) := by decide +kernel
theorem dX11_shown_4 : decode cX11_shown 4 = .ok (.iload_n 1, 1) := by decide +kernel
theorem dX11_shown_5 : decode cX11_shown 5 = .ok (.aload_n 0, 1) := by decide +kernel
theorem dX11_shown_6 : decode cX11_shown 6 = .ok (.getfield 48, 3) := by decide +kernel
theorem dX11_shown_9 : decode cX11_shown 9 = .ok (.arraylength, 1) := by decide +kernel
theorem dX11_shown_10 : decode cX11_shown 10 = .ok (.if_icmp .lt 9, 3) := by decide +kernel
theorem dX11_shown_13 : decode cX11_shown 13 = .ok (.aload_n 0, 1) := by decide +kernel
theorem dX11_shown_14 : decode cX11_shown 14 = .ok (.iconst 1, 1) := by decide +kernel
theorem dX11_shown_15 : decode cX11_shown 15 = .ok (.invokevirtual 82, 3) := by decide +kernel
theorem dX11_shown_18 : decode cX11_shown 18 = .ok (.ireturn, 1) := by decide +kernel
theorem dX11_shown_19 : decode cX11_shown 19 = .ok (.aload_n 0, 1) := by decide +kernel
theorem dX11_shown_20 : decode cX11_shown 20 = .ok (.aload_n 0, 1) := by decide +kernel
theorem dX11_shown_21 : decode cX11_shown 21 = .ok (.getfield 66, 3) := by decide +kernel
theorem dX11_shown_24 : decode cX11_shown 24 = .ok (.iconst (-1), 1) := by decide +kernel
theorem dX11_shown_25 : decode cX11_shown 25 = .ok (.if_icmp .ne 8, 3) := by decide +kernel
theorem dX11_shown_28 : decode cX11_shown 28 = .ok (.bipush (-2), 2) := by decide +kernel
theorem dX11_shown_30 : decode cX11_shown 30 = .ok (.goto 9, 3) := by decide +kernel
theorem dX11_shown_33 : decode cX11_shown 33 = .ok (.aload_n 0, 1) := by decide +kernel
theorem dX11_shown_34 : decode cX11_shown 34 = .ok (.getfield 48, 3) := by decide +kernel
theorem dX11_shown_37 : decode cX11_shown 37 = .ok (.iload_n 1, 1) := by decide +kernel
theorem dX11_shown_38 : decode cX11_shown 38 = .ok (.iaload, 1) := by decide +kernel
theorem dX11_shown_39 : decode cX11_shown 39 = .ok (.invokevirtual 109, 3) := by decide +kernel
theorem dX11_shown_42 : decode cX11_shown 42 = .ok (.ireturn, 1) := by decide +kernel
theorem okX11_shown {E : Ev} {S : Sh} {Z : Option Nat} {Q : Int32 → Hp → Prop} {h : Hp} {a0 : Nat} {x1 : Int32} (hw : wX11_shown S h a0 x1 Q) : Ct E yX11_shown cX11_shown 2 (some .int) 2 45 0 0 S Z h [vr a0, vi x1] (qI S Z Q) := by
  refine Ct.of (by decide) (lc := [some (vr a0), some (vi x1)]) (Nat.le_of_ble_eq_true rfl) rfl (fun X O => ?_)
  unfold wX11_shown at hw
  refine g_iload_n O dX11_shown_0 rfl ?_
  refine g_if_lt (tgt := 13) O dX11_shown_1 rfl (fun q1 => ?_) (fun q1 => ?_)
  · have hw := hw.1 q1
    refine g_aload_n O dX11_shown_13 rfl ?_
    refine g_iconst O dX11_shown_14 kv_1 ?_
    obtain ⟨c15, hw⟩ := hw
    refine g_callV (As := [vi (1 : Int32)]) (rest := []) O ci_11 rfl dX11_shown_15 ml_X11_82 im_yX11_refuse se_yX11_refuse ini_X11 co_yX11_refuse yo_yX11_refuse c15 rfl rfl (Nat.le_of_ble_eq_true rfl) ⟨by decide, by decide, by decide, by decide⟩ (okX11_refuse hw) (k_I fun r15 h15 hw => ?_)
    exact g_ireturn O dX11_shown_18 ⟨rfl, rfl, _, rfl, hw⟩
  · have hw := hw.2 q1
    refine g_iload_n O dX11_shown_4 rfl ?_
    refine g_aload_n O dX11_shown_5 rfl ?_
    obtain ⟨c6, hw⟩ := hw
    refine gf_X11_shownCase O dX11_shown_6 fl_X11_48 c6 ?_
    obtain ⟨c9, hw⟩ := hw
    refine g_alen (t := 0) O rfl dX11_shown_9 c9 ?_
    refine g_icmp_lt (tgt := 19) O dX11_shown_10 rfl (fun q10 => ?_) (fun q10 => ?_)
    · have hw := hw.1 q10
      refine g_aload_n O dX11_shown_19 rfl ?_
      refine g_aload_n O dX11_shown_20 rfl ?_
      refine gf_X11_shownMachine O dX11_shown_21 fl_X11_66 c6 ?_
      refine g_iconst O dX11_shown_24 kv_m1 ?_
      refine g_icmp_ne (tgt := 33) O dX11_shown_25 rfl (fun q25 => ?_) (fun q25 => ?_)
      · have hw := hw.1 q25
        refine g_aload_n O dX11_shown_33 rfl ?_
        refine gf_X11_shownCase O dX11_shown_34 fl_X11_48 c6 ?_
        refine g_iload_n O dX11_shown_37 rfl ?_
        obtain ⟨c38, hw⟩ := hw
        refine g_iaload O dX11_shown_38 c38.1 c38.2 ?_
        refine g_callV (As := [vi ((gI h (gR h a0 6) (ix x1)))]) (rest := []) O ci_11 rfl dX11_shown_39 ml_X11_109 im_yX11_answer se_yX11_answer ini_X11 co_yX11_answer yo_yX11_answer c6 rfl rfl (Nat.le_of_ble_eq_true rfl) ⟨by decide, by decide, by decide, by decide⟩ (okX11_answer hw) (k_I fun r39 h39 hw => ?_)
        exact g_ireturn O dX11_shown_42 ⟨rfl, rfl, _, rfl, hw⟩
      · have hw := hw.2 q25
        refine g_bipush O dX11_shown_28 kb_m2 ?_
        refine g_goto (tgt := 39) O dX11_shown_30 rfl ?_
        refine g_callV (As := [vi (-2 : Int32)]) (rest := []) O ci_11 rfl dX11_shown_39 ml_X11_109 im_yX11_answer se_yX11_answer ini_X11 co_yX11_answer yo_yX11_answer c6 rfl rfl (Nat.le_of_ble_eq_true rfl) ⟨by decide, by decide, by decide, by decide⟩ (okX11_answer hw) (k_I fun r39 h39 hw => ?_)
        exact g_ireturn O dX11_shown_42 ⟨rfl, rfl, _, rfl, hw⟩
    · have hw := hw.2 q10
      refine g_aload_n O dX11_shown_13 rfl ?_
      refine g_iconst O dX11_shown_14 kv_1 ?_
      refine g_callV (As := [vi (1 : Int32)]) (rest := []) O ci_11 rfl dX11_shown_15 ml_X11_82 im_yX11_refuse se_yX11_refuse ini_X11 co_yX11_refuse yo_yX11_refuse c6 rfl rfl (Nat.le_of_ble_eq_true rfl) ⟨by decide, by decide, by decide, by decide⟩ (okX11_refuse hw) (k_I fun r15 h15 hw => ?_)
      exact g_ireturn O dX11_shown_18 ⟨rfl, rfl, _, rfl, hw⟩
theorem dX11_size_0 : decode cX11_size 0 = .ok (.aload_n 0, 1) := by decide +kernel
theorem dX11_size_1 : decode cX11_size 1 = .ok (.getfield 62, 3) := by decide +kernel
theorem dX11_size_4 : decode cX11_size 4 = .ok (.ireturn, 1) := by decide +kernel
theorem okX11_size {E : Ev} {S : Sh} {Z : Option Nat} {Q : Int32 → Hp → Prop} {h : Hp} {a0 : Nat} (hw : wX11_size S h a0 Q) : Ct E yX11_size cX11_size 1 (some .int) 1 24 0 0 S Z h [vr a0] (qI S Z Q) := by
  refine Ct.of (by decide) (lc := [some (vr a0)]) (Nat.le_of_ble_eq_true rfl) rfl (fun X O => ?_)
  unfold wX11_size at hw
  refine g_aload_n O dX11_size_0 rfl ?_
  obtain ⟨c1, hw⟩ := hw
  refine gf_X11_tapeSize O dX11_size_1 fl_X11_62 c1 ?_
  exact g_ireturn O dX11_size_4 ⟨rfl, rfl, _, rfl, hw⟩
theorem dX11_sound_0 : decode cX11_sound 0 = .ok (.aload_n 0, 1) := by decide +kernel
theorem dX11_sound_1 : decode cX11_sound 1 = .ok (.iload_n 1, 1) := by decide +kernel
theorem dX11_sound_2 : decode cX11_sound 2 = .ok (.iload_n 2, 1) := by decide +kernel
theorem dX11_sound_3 : decode cX11_sound 3 = .ok (.invokevirtual 148, 3) := by decide +kernel
theorem dX11_sound_6 : decode cX11_sound 6 = .ok (.ifCond .ne 9, 3) := by decide +kernel
theorem dX11_sound_9 : decode cX11_sound 9 = .ok (.aload_n 0, 1) := by decide +kernel
theorem dX11_sound_10 : decode cX11_sound 10 = .ok (.iconst 1, 1) := by decide +kernel
theorem dX11_sound_11 : decode cX11_sound 11 = .ok (.invokevirtual 82, 3) := by decide +kernel
theorem dX11_sound_14 : decode cX11_sound 14 = .ok (.ireturn, 1) := by decide +kernel
theorem dX11_sound_15 : decode cX11_sound 15 = .ok (.aload_n 0, 1) := by decide +kernel
theorem dX11_sound_16 : decode cX11_sound 16 = .ok (.aload_n 0, 1) := by decide +kernel
theorem dX11_sound_17 : decode cX11_sound 17 = .ok (.getfield 55, 3) := by decide +kernel
theorem dX11_sound_20 : decode cX11_sound 20 = .ok (.getfield 116, 3) := by decide +kernel
theorem dX11_sound_23 : decode cX11_sound 23 = .ok (.iload_n 1, 1) := by decide +kernel
theorem dX11_sound_24 : decode cX11_sound 24 = .ok (.aaload, 1) := by decide +kernel
theorem dX11_sound_25 : decode cX11_sound 25 = .ok (.getfield 155, 3) := by decide +kernel
theorem dX11_sound_28 : decode cX11_sound 28 = .ok (.iload_n 2, 1) := by decide +kernel
theorem dX11_sound_29 : decode cX11_sound 29 = .ok (.baload, 1) := by decide +kernel
theorem dX11_sound_30 : decode cX11_sound 30 = .ok (.ifCond .eq 7, 3) := by decide +kernel
theorem dX11_sound_33 : decode cX11_sound 33 = .ok (.iconst 1, 1) := by decide +kernel
theorem dX11_sound_34 : decode cX11_sound 34 = .ok (.goto 4, 3) := by decide +kernel
theorem dX11_sound_37 : decode cX11_sound 37 = .ok (.iconst 0, 1) := by decide +kernel
theorem dX11_sound_38 : decode cX11_sound 38 = .ok (.invokevirtual 109, 3) := by decide +kernel
theorem dX11_sound_41 : decode cX11_sound 41 = .ok (.ireturn, 1) := by decide +kernel
theorem okX11_sound {E : Ev} {S : Sh} {Z : Option Nat} {Q : Int32 → Hp → Prop} {h : Hp} {a0 : Nat} {x1 : Int32} {x2 : Int32} (hw : wX11_sound S h a0 x1 x2 Q) : Ct E yX11_sound cX11_sound 3 (some .int) 3 67 0 0 S Z h [vr a0, vi x1, vi x2] (qI S Z Q) := by
  refine Ct.of (by decide) (lc := [some (vr a0), some (vi x1), some (vi x2)]) (Nat.le_of_ble_eq_true rfl) rfl (fun X O => ?_)
  unfold wX11_sound at hw
  refine g_aload_n O dX11_sound_0 rfl ?_
  refine g_iload_n O dX11_sound_1 rfl ?_
  refine g_iload_n O dX11_sound_2 rfl ?_
  obtain ⟨c3, hw⟩ := hw
  refine g_callV (As := [vi x1, vi x2]) (rest := []) O ci_11 rfl dX11_sound_3 ml_X11_148 im_yX11_isState se_yX11_isState ini_X11 co_yX11_isState yo_yX11_isState c3 rfl rfl (Nat.le_of_ble_eq_true rfl) ⟨by decide, by decide, by decide, by decide⟩ (okX11_isState hw) (k_I fun r3 h3 hw => ?_)
  refine g_if_ne (tgt := 15) O dX11_sound_6 rfl (fun q6 => ?_) (fun q6 => ?_)
  · have hw := hw.1 q6
    refine g_aload_n O dX11_sound_15 rfl ?_
    refine g_aload_n O dX11_sound_16 rfl ?_
    refine gf_X11_model O dX11_sound_17 fl_X11_55 c3 ?_
    obtain ⟨c20, hw⟩ := hw
    refine gf_X3_machines O dX11_sound_20 fl_X11_116 c20 ?_
    refine g_iload_n O dX11_sound_23 rfl ?_
    obtain ⟨c24, hw⟩ := hw
    refine g_aaload (t := 1) (C := "FinerSteps$Machine") O rfl dX11_sound_24 c24.1 c24.2 ?_
    obtain ⟨c25, hw⟩ := hw
    refine gf_X2_sound O dX11_sound_25 fl_X11_155 c25 ?_
    refine g_iload_n O dX11_sound_28 rfl ?_
    obtain ⟨c29, hw⟩ := hw
    refine g_zaload O dX11_sound_29 c29.1 c29.2 ?_
    refine g_if_eq (tgt := 37) O dX11_sound_30 rfl (fun q30 => ?_) (fun q30 => ?_)
    · have hw := hw.1 q30
      refine g_iconst O dX11_sound_37 kv_0 ?_
      refine g_callV (As := [vi (0 : Int32)]) (rest := []) O ci_11 rfl dX11_sound_38 ml_X11_109 im_yX11_answer se_yX11_answer ini_X11 co_yX11_answer yo_yX11_answer c3 rfl rfl (Nat.le_of_ble_eq_true rfl) ⟨by decide, by decide, by decide, by decide⟩ (okX11_answer hw) (k_I fun r38 h38 hw => ?_)
      exact g_ireturn O dX11_sound_41 ⟨rfl, rfl, _, rfl, hw⟩
    · have hw := hw.2 q30
      refine g_iconst O dX11_sound_33 kv_1 ?_
      refine g_goto (tgt := 38) O dX11_sound_34 rfl ?_
      refine g_callV (As := [vi (1 : Int32)]) (rest := []) O ci_11 rfl dX11_sound_38 ml_X11_109 im_yX11_answer se_yX11_answer ini_X11 co_yX11_answer yo_yX11_answer c3 rfl rfl (Nat.le_of_ble_eq_true rfl) ⟨by decide, by decide, by decide, by decide⟩ (okX11_answer hw) (k_I fun r38 h38 hw => ?_)
      exact g_ireturn O dX11_sound_41 ⟨rfl, rfl, _, rfl, hw⟩
  · have hw := hw.2 q6
    refine g_aload_n O dX11_sound_9 rfl ?_
    refine g_iconst O dX11_sound_10 kv_1 ?_
    refine g_callV (As := [vi (1 : Int32)]) (rest := []) O ci_11 rfl dX11_sound_11 ml_X11_82 im_yX11_refuse se_yX11_refuse ini_X11 co_yX11_refuse yo_yX11_refuse c3 rfl rfl (Nat.le_of_ble_eq_true rfl) ⟨by decide, by decide, by decide, by decide⟩ (okX11_refuse hw) (k_I fun r11 h11 hw => ?_)
    exact g_ireturn O dX11_sound_14 ⟨rfl, rfl, _, rfl, hw⟩
theorem dX11_step_0 : decode cX11_step 0 = .ok (.aload_n 0, 1) := by decide +kernel
theorem dX11_step_1 : decode cX11_step 1 = .ok (.aload_n 0, 1) := by decide +kernel
theorem dX11_step_2 : decode cX11_step 2 = .ok (.getfield 30, 3) := by decide +kernel
theorem dX11_step_5 : decode cX11_step 5 = .ok (.getfield 240, 3) := by decide +kernel
theorem dX11_step_8 : decode cX11_step 8 = .ok (.iload_n 1, 1) := by decide +kernel
theorem dX11_step_9 : decode cX11_step 9 = .ok (.invokevirtual 138, 3) := by decide +kernel
theorem dX11_step_12 : decode cX11_step 12 = .ok (.ifCond .ne 9, 3) := by decide +kernel
theorem dX11_step_15 : decode cX11_step 15 = .ok (.aload_n 0, 1) := by decide +kernel
theorem dX11_step_16 : decode cX11_step 16 = .ok (.iconst 1, 1) := by decide +kernel
theorem dX11_step_17 : decode cX11_step 17 = .ok (.invokevirtual 82, 3) := by decide +kernel
theorem dX11_step_20 : decode cX11_step 20 = .ok (.ireturn, 1) := by decide +kernel
theorem dX11_step_21 : decode cX11_step 21 = .ok (.aload_n 0, 1) := by decide +kernel
theorem dX11_step_22 : decode cX11_step 22 = .ok (.getfield 55, 3) := by decide +kernel
theorem dX11_step_25 : decode cX11_step 25 = .ok (.getfield 116, 3) := by decide +kernel
theorem dX11_step_28 : decode cX11_step 28 = .ok (.aload_n 0, 1) := by decide +kernel
theorem dX11_step_29 : decode cX11_step 29 = .ok (.getfield 30, 3) := by decide +kernel
theorem dX11_step_32 : decode cX11_step 32 = .ok (.getfield 240, 3) := by decide +kernel
theorem dX11_step_35 : decode cX11_step 35 = .ok (.aaload, 1) := by decide +kernel
theorem dX11_step_36 : decode cX11_step 36 = .ok (.getfield 141, 3) := by decide +kernel
theorem dX11_step_39 : decode cX11_step 39 = .ok (.iload_n 1, 1) := by decide +kernel
theorem dX11_step_40 : decode cX11_step 40 = .ok (.aaload, 1) := by decide +kernel
theorem dX11_step_41 : decode cX11_step 41 = .ok (.astore_n 3, 1) := by decide +kernel
theorem dX11_step_42 : decode cX11_step 42 = .ok (.aload_n 3, 1) := by decide +kernel
theorem dX11_step_43 : decode cX11_step 43 = .ok (.iload_n 2, 1) := by decide +kernel
theorem dX11_step_44 : decode cX11_step 44 = .ok (.invokevirtual 171, 3) := by decide +kernel
theorem dX11_step_47 : decode cX11_step 47 = .ok (.ifCond .ne 9, 3) := by decide +kernel
theorem dX11_step_50 : decode cX11_step 50 = .ok (.aload_n 0, 1) := by decide +kernel
theorem dX11_step_51 : decode cX11_step 51 = .ok (.iconst 2, 1) := by decide +kernel
theorem dX11_step_52 : decode cX11_step 52 = .ok (.invokevirtual 82, 3) := by decide +kernel
theorem dX11_step_55 : decode cX11_step 55 = .ok (.ireturn, 1) := by decide +kernel
theorem dX11_step_56 : decode cX11_step 56 = .ok (.iload_n 2, 1) := by decide +kernel
theorem dX11_step_57 : decode cX11_step 57 = .ok (.aload_n 3, 1) := by decide +kernel
theorem dX11_step_58 : decode cX11_step 58 = .ok (.getfield 177, 3) := by decide +kernel
theorem dX11_step_61 : decode cX11_step 61 = .ok (.isub, 1) := by decide +kernel
theorem dX11_step_62 : decode cX11_step 62 = .ok (.istore 4, 2) := by decide +kernel
theorem dX11_step_64 : decode cX11_step 64 = .ok (.aload_n 3, 1) := by decide +kernel
theorem dX11_step_65 : decode cX11_step 65 = .ok (.aload_n 0, 1) := by decide +kernel
theorem dX11_step_66 : decode cX11_step 66 = .ok (.getfield 30, 3) := by decide +kernel
theorem dX11_step_69 : decode cX11_step 69 = .ok (.getfield 239, 3) := by decide +kernel
theorem dX11_step_72 : decode cX11_step 72 = .ok (.invokevirtual 242, 3) := by decide +kernel
theorem dX11_step_75 : decode cX11_step 75 = .ok (.iload 4, 2) := by decide +kernel
theorem dX11_step_77 : decode cX11_step 77 = .ok (.ishr, 1) := by decide +kernel
theorem dX11_step_78 : decode cX11_step 78 = .ok (.iconst 1, 1) := by decide +kernel
theorem dX11_step_79 : decode cX11_step 79 = .ok (.iand, 1) := by decide +kernel
theorem dX11_step_80 : decode cX11_step 80 = .ok (.ifCond .ne 9, 3) := by decide +kernel
theorem dX11_step_83 : decode cX11_step 83 = .ok (.aload_n 0, 1) := by decide +kernel
theorem dX11_step_84 : decode cX11_step 84 = .ok (.iconst 5, 1) := by decide +kernel
theorem dX11_step_85 : decode cX11_step 85 = .ok (.invokevirtual 82, 3) := by decide +kernel
theorem dX11_step_88 : decode cX11_step 88 = .ok (.ireturn, 1) := by decide +kernel
theorem dX11_step_89 : decode cX11_step 89 = .ok (.aload_n 0, 1) := by decide +kernel
theorem dX11_step_90 : decode cX11_step 90 = .ok (.getfield 30, 3) := by decide +kernel
theorem dX11_step_93 : decode cX11_step 93 = .ok (.aload_n 0, 1) := by decide +kernel
theorem dX11_step_94 : decode cX11_step 94 = .ok (.getfield 55, 3) := by decide +kernel
theorem dX11_step_97 : decode cX11_step 97 = .ok (.iload_n 1, 1) := by decide +kernel
theorem dX11_step_98 : decode cX11_step 98 = .ok (.iload 4, 2) := by decide +kernel
theorem dX11_step_100 : decode cX11_step 100 = .ok (.invokevirtual 245, 3) := by decide +kernel
theorem dX11_step_103 : decode cX11_step 103 = .ok (.aload_n 0, 1) := by decide +kernel
theorem dX11_step_104 : decode cX11_step 104 = .ok (.aload_n 0, 1) := by decide +kernel
theorem dX11_step_105 : decode cX11_step 105 = .ok (.getfield 30, 3) := by decide +kernel
theorem dX11_step_108 : decode cX11_step 108 = .ok (.getfield 239, 3) := by decide +kernel
theorem dX11_step_111 : decode cX11_step 111 = .ok (.invokevirtual 109, 3) := by decide +kernel
theorem dX11_step_114 : decode cX11_step 114 = .ok (.ireturn, 1) := by decide +kernel
theorem okX11_step {E : Ev} {S : Sh} {Z : Option Nat} {Q : Int32 → Hp → Prop} {h : Hp} {a0 : Nat} {x1 : Int32} {x2 : Int32} (hw : wX11_step S h a0 x1 x2 Q) : Ct E yX11_step cX11_step 5 (some .int) 4 97 0 0 S Z h [vr a0, vi x1, vi x2] (qI S Z Q) := by
  refine Ct.of (by decide) (lc := [some (vr a0), some (vi x1), some (vi x2), none, none]) (Nat.le_of_ble_eq_true rfl) rfl (fun X O => ?_)
  unfold wX11_step at hw
  refine g_aload_n O dX11_step_0 rfl ?_
  refine g_aload_n O dX11_step_1 rfl ?_
  obtain ⟨c2, hw⟩ := hw
  refine gf_X11_walk O dX11_step_2 fl_X11_30 c2 ?_
  obtain ⟨c5, hw⟩ := hw
  refine gf_X10_number O dX11_step_5 fl_X11_240 c5 ?_
  refine g_iload_n O dX11_step_8 rfl ?_
  refine g_callV (As := [vi ((gI h (gR h a0 3) 2)), vi x1]) (rest := []) O ci_11 rfl dX11_step_9 ml_X11_138 im_yX11_isEvent se_yX11_isEvent ini_X11 co_yX11_isEvent yo_yX11_isEvent c2 rfl rfl (Nat.le_of_ble_eq_true rfl) ⟨by decide, by decide, by decide, by decide⟩ (okX11_isEvent hw) (k_I fun r9 h9 hw => ?_)
  refine g_if_ne (tgt := 21) O dX11_step_12 rfl (fun q12 => ?_) (fun q12 => ?_)
  · have hw := hw.1 q12
    refine g_aload_n O dX11_step_21 rfl ?_
    refine gf_X11_model O dX11_step_22 fl_X11_55 c2 ?_
    obtain ⟨c25, hw⟩ := hw
    refine gf_X3_machines O dX11_step_25 fl_X11_116 c25 ?_
    refine g_aload_n O dX11_step_28 rfl ?_
    refine gf_X11_walk O dX11_step_29 fl_X11_30 c2 ?_
    obtain ⟨c32, hw⟩ := hw
    refine gf_X10_number O dX11_step_32 fl_X11_240 c32 ?_
    obtain ⟨c35, hw⟩ := hw
    refine g_aaload (t := 1) (C := "FinerSteps$Machine") O rfl dX11_step_35 c35.1 c35.2 ?_
    obtain ⟨c36, hw⟩ := hw
    refine gf_X2_event O dX11_step_36 fl_X11_141 c36 ?_
    refine g_iload_n O dX11_step_39 rfl ?_
    obtain ⟨c40, hw⟩ := hw
    refine g_aaload (t := 0) (C := "FinerSteps$Event") O rfl dX11_step_40 c40.1 c40.2 ?_
    refine g_nmR (fun av41 e41 => ?_)
    have hw := hw av41 e41
    refine g_astore_n (lc' := [some (vr a0), some (vi x1), some (vi x2), some (vr av41), none]) O dX11_step_41 rfl (Nat.le_of_ble_eq_true rfl) rfl ?_
    refine g_aload_n O dX11_step_42 rfl ?_
    refine g_iload_n O dX11_step_43 rfl ?_
    obtain ⟨c44, hw⟩ := hw
    refine g_callV (As := [vi x2]) (rest := []) O ci_0 rfl dX11_step_44 ml_X11_171 im_yX0_hasPick se_yX0_hasPick ini_X0 co_yX0_hasPick yo_yX0_hasPick c44 rfl rfl (Nat.le_of_ble_eq_true rfl) ⟨by decide, by decide, by decide, by decide⟩ (okX0_hasPick hw) (k_I fun r44 h44 hw => ?_)
    refine g_if_ne (tgt := 56) O dX11_step_47 rfl (fun q47 => ?_) (fun q47 => ?_)
    · have hw := hw.1 q47
      refine g_iload_n O dX11_step_56 rfl ?_
      refine g_aload_n O dX11_step_57 rfl ?_
      refine gf_X0_first O dX11_step_58 fl_X11_177 c44 ?_
      refine g_isub O dX11_step_61 ?_
      refine g_istore (lc' := [some (vr a0), some (vi x1), some (vi x2), some (vr av41), some (vi (x2 - (gI h44 av41 6)))]) O dX11_step_62 rfl (Nat.le_of_ble_eq_true rfl) rfl ?_
      refine g_aload_n O dX11_step_64 rfl ?_
      refine g_aload_n O dX11_step_65 rfl ?_
      refine gf_X11_walk O dX11_step_66 fl_X11_30 c2 ?_
      obtain ⟨c69, hw⟩ := hw
      refine gf_X10_state O dX11_step_69 fl_X11_239 c69 ?_
      refine g_callV (As := [vi ((gI h44 (gR h44 a0 3) 3))]) (rest := []) O ci_0 rfl dX11_step_72 ml_X11_242 im_yX0_stepsAt se_yX0_stepsAt ini_X0 co_yX0_stepsAt yo_yX0_stepsAt c44 rfl rfl (Nat.le_of_ble_eq_true rfl) ⟨by decide, by decide, by decide, by decide⟩ (okX0_stepsAt hw) (k_I fun r72 h72 hw => ?_)
      refine g_iload O dX11_step_75 rfl ?_
      refine g_ishr O dX11_step_77 ?_
      refine g_iconst O dX11_step_78 kv_1 ?_
      refine g_iand O dX11_step_79 ?_
      refine g_if_ne (tgt := 89) O dX11_step_80 rfl (fun q80 => ?_) (fun q80 => ?_)
      · have hw := hw.1 q80
        refine g_aload_n O dX11_step_89 rfl ?_
        refine gf_X11_walk O dX11_step_90 fl_X11_30 c2 ?_
        refine g_aload_n O dX11_step_93 rfl ?_
        refine gf_X11_model O dX11_step_94 fl_X11_55 c2 ?_
        refine g_iload_n O dX11_step_97 rfl ?_
        refine g_iload O dX11_step_98 rfl ?_
        obtain ⟨c100, hw⟩ := hw
        refine g_callV (As := [vr (gR h72 a0 7), vi x1, vi ((x2 - (gI h44 av41 6)))]) (rest := []) O ci_10 rfl dX11_step_100 ml_X11_245 im_yX10_move se_yX10_move ini_X10 co_yX10_move yo_yX10_move c100 rfl rfl (Nat.le_of_ble_eq_true rfl) ⟨by decide, by decide, by decide, by decide⟩ (okX10_move hw) (k_V fun h100 hw => ?_)
        refine g_aload_n O dX11_step_103 rfl ?_
        refine g_aload_n O dX11_step_104 rfl ?_
        refine gf_X11_walk O dX11_step_105 fl_X11_30 c2 ?_
        obtain ⟨c108, hw⟩ := hw
        refine gf_X10_state O dX11_step_108 fl_X11_239 c108 ?_
        refine g_callV (As := [vi ((gI h100 (gR h100 a0 3) 3))]) (rest := []) O ci_11 rfl dX11_step_111 ml_X11_109 im_yX11_answer se_yX11_answer ini_X11 co_yX11_answer yo_yX11_answer c2 rfl rfl (Nat.le_of_ble_eq_true rfl) ⟨by decide, by decide, by decide, by decide⟩ (okX11_answer hw) (k_I fun r111 h111 hw => ?_)
        exact g_ireturn O dX11_step_114 ⟨rfl, rfl, _, rfl, hw⟩
      · have hw := hw.2 q80
        refine g_aload_n O dX11_step_83 rfl ?_
        refine g_iconst O dX11_step_84 kv_5 ?_
        refine g_callV (As := [vi (5 : Int32)]) (rest := []) O ci_11 rfl dX11_step_85 ml_X11_82 im_yX11_refuse se_yX11_refuse ini_X11 co_yX11_refuse yo_yX11_refuse c2 rfl rfl (Nat.le_of_ble_eq_true rfl) ⟨by decide, by decide, by decide, by decide⟩ (okX11_refuse hw) (k_I fun r85 h85 hw => ?_)
        exact g_ireturn O dX11_step_88 ⟨rfl, rfl, _, rfl, hw⟩
    · have hw := hw.2 q47
      refine g_aload_n O dX11_step_50 rfl ?_
      refine g_iconst O dX11_step_51 kv_2 ?_
      refine g_callV (As := [vi (2 : Int32)]) (rest := []) O ci_11 rfl dX11_step_52 ml_X11_82 im_yX11_refuse se_yX11_refuse ini_X11 co_yX11_refuse yo_yX11_refuse c2 rfl rfl (Nat.le_of_ble_eq_true rfl) ⟨by decide, by decide, by decide, by decide⟩ (okX11_refuse hw) (k_I fun r52 h52 hw => ?_)
      exact g_ireturn O dX11_step_55 ⟨rfl, rfl, _, rfl, hw⟩
  · have hw := hw.2 q12
    refine g_aload_n O dX11_step_15 rfl ?_
    refine g_iconst O dX11_step_16 kv_1 ?_
    refine g_callV (As := [vi (1 : Int32)]) (rest := []) O ci_11 rfl dX11_step_17 ml_X11_82 im_yX11_refuse se_yX11_refuse ini_X11 co_yX11_refuse yo_yX11_refuse c2 rfl rfl (Nat.le_of_ble_eq_true rfl) ⟨by decide, by decide, by decide, by decide⟩ (okX11_refuse hw) (k_I fun r17 h17 hw => ?_)
    exact g_ireturn O dX11_step_20 ⟨rfl, rfl, _, rfl, hw⟩
theorem dX11_steps_0 : decode cX11_steps 0 = .ok (.aload_n 0, 1) := by decide +kernel
theorem dX11_steps_1 : decode cX11_steps 1 = .ok (.iload_n 1, 1) := by decide +kernel
theorem dX11_steps_2 : decode cX11_steps 2 = .ok (.iload_n 2, 1) := by decide +kernel
theorem dX11_steps_3 : decode cX11_steps 3 = .ok (.invokevirtual 148, 3) := by decide +kernel
theorem dX11_steps_6 : decode cX11_steps 6 = .ok (.ifCond .ne 9, 3) := by decide +kernel
theorem dX11_steps_9 : decode cX11_steps 9 = .ok (.aload_n 0, 1) := by decide +kernel
theorem dX11_steps_10 : decode cX11_steps 10 = .ok (.iconst 1, 1) := by decide +kernel
theorem dX11_steps_11 : decode cX11_steps 11 = .ok (.invokevirtual 82, 3) := by decide +kernel
theorem dX11_steps_14 : decode cX11_steps 14 = .ok (.ireturn, 1) := by decide +kernel
theorem dX11_steps_15 : decode cX11_steps 15 = .ok (.aload_n 0, 1) := by decide +kernel
theorem dX11_steps_16 : decode cX11_steps 16 = .ok (.getfield 37, 3) := by decide +kernel
theorem dX11_steps_19 : decode cX11_steps 19 = .ok (.aload_n 0, 1) := by decide +kernel
theorem dX11_steps_20 : decode cX11_steps 20 = .ok (.getfield 55, 3) := by decide +kernel
theorem dX11_steps_23 : decode cX11_steps 23 = .ok (.getfield 116, 3) := by decide +kernel
theorem dX11_steps_26 : decode cX11_steps 26 = .ok (.iload_n 1, 1) := by decide +kernel
theorem dX11_steps_27 : decode cX11_steps 27 = .ok (.aaload, 1) := by decide +kernel
theorem dX11_steps_28 : decode cX11_steps 28 = .ok (.invokevirtual 266, 3) := by decide +kernel
theorem dX11_steps_31 : decode cX11_steps 31 = .ok (.aload_n 0, 1) := by decide +kernel
theorem dX11_steps_32 : decode cX11_steps 32 = .ok (.aload_n 0, 1) := by decide +kernel
theorem dX11_steps_33 : decode cX11_steps 33 = .ok (.getfield 37, 3) := by decide +kernel
theorem dX11_steps_36 : decode cX11_steps 36 = .ok (.getfield 273, 3) := by decide +kernel
theorem dX11_steps_39 : decode cX11_steps 39 = .ok (.iload_n 2, 1) := by decide +kernel
theorem dX11_steps_40 : decode cX11_steps 40 = .ok (.iaload, 1) := by decide +kernel
theorem dX11_steps_41 : decode cX11_steps 41 = .ok (.invokevirtual 109, 3) := by decide +kernel
theorem dX11_steps_44 : decode cX11_steps 44 = .ok (.ireturn, 1) := by decide +kernel
theorem okX11_steps {E : Ev} {S : Sh} {Z : Option Nat} {Q : Int32 → Hp → Prop} {h : Hp} {a0 : Nat} {x1 : Int32} {x2 : Int32} (hw : wX11_steps S h a0 x1 x2 Q) : Ct E yX11_steps cX11_steps 3 (some .int) 5 114 0 0 S Z h [vr a0, vi x1, vi x2] (qI S Z Q) := by
  refine Ct.of (by decide) (lc := [some (vr a0), some (vi x1), some (vi x2)]) (Nat.le_of_ble_eq_true rfl) rfl (fun X O => ?_)
  unfold wX11_steps at hw
  refine g_aload_n O dX11_steps_0 rfl ?_
  refine g_iload_n O dX11_steps_1 rfl ?_
  refine g_iload_n O dX11_steps_2 rfl ?_
  obtain ⟨c3, hw⟩ := hw
  refine g_callV (As := [vi x1, vi x2]) (rest := []) O ci_11 rfl dX11_steps_3 ml_X11_148 im_yX11_isState se_yX11_isState ini_X11 co_yX11_isState yo_yX11_isState c3 rfl rfl (Nat.le_of_ble_eq_true rfl) ⟨by decide, by decide, by decide, by decide⟩ (okX11_isState hw) (k_I fun r3 h3 hw => ?_)
  refine g_if_ne (tgt := 15) O dX11_steps_6 rfl (fun q6 => ?_) (fun q6 => ?_)
  · have hw := hw.1 q6
    refine g_aload_n O dX11_steps_15 rfl ?_
    refine gf_X11_paths O dX11_steps_16 fl_X11_37 c3 ?_
    refine g_aload_n O dX11_steps_19 rfl ?_
    refine gf_X11_model O dX11_steps_20 fl_X11_55 c3 ?_
    obtain ⟨c23, hw⟩ := hw
    refine gf_X3_machines O dX11_steps_23 fl_X11_116 c23 ?_
    refine g_iload_n O dX11_steps_26 rfl ?_
    obtain ⟨c27, hw⟩ := hw
    refine g_aaload (t := 1) (C := "FinerSteps$Machine") O rfl dX11_steps_27 c27.1 c27.2 ?_
    obtain ⟨c28, hw⟩ := hw
    refine g_callV (As := [vr ((gR h3 ((gR h3 (gR h3 a0 7) 0)) (ix x1)))]) (rest := []) O ci_4 rfl dX11_steps_28 ml_X11_266 im_yX4_explore se_yX4_explore ini_X4 co_yX4_explore yo_yX4_explore c28 rfl rfl (Nat.le_of_ble_eq_true rfl) ⟨by decide, by decide, by decide, by decide⟩ (okX4_explore hw) (k_V fun h28 hw => ?_)
    refine g_aload_n O dX11_steps_31 rfl ?_
    refine g_aload_n O dX11_steps_32 rfl ?_
    refine gf_X11_paths O dX11_steps_33 fl_X11_37 c3 ?_
    obtain ⟨c36, hw⟩ := hw
    refine gf_X4_far O dX11_steps_36 fl_X11_273 c36 ?_
    refine g_iload_n O dX11_steps_39 rfl ?_
    obtain ⟨c40, hw⟩ := hw
    refine g_iaload O dX11_steps_40 c40.1 c40.2 ?_
    refine g_callV (As := [vi ((gI h28 ((gR h28 (gR h28 a0 4) 0)) (ix x2)))]) (rest := []) O ci_11 rfl dX11_steps_41 ml_X11_109 im_yX11_answer se_yX11_answer ini_X11 co_yX11_answer yo_yX11_answer c3 rfl rfl (Nat.le_of_ble_eq_true rfl) ⟨by decide, by decide, by decide, by decide⟩ (okX11_answer hw) (k_I fun r41 h41 hw => ?_)
    exact g_ireturn O dX11_steps_44 ⟨rfl, rfl, _, rfl, hw⟩
  · have hw := hw.2 q6
    refine g_aload_n O dX11_steps_9 rfl ?_
    refine g_iconst O dX11_steps_10 kv_1 ?_
    refine g_callV (As := [vi (1 : Int32)]) (rest := []) O ci_11 rfl dX11_steps_11 ml_X11_82 im_yX11_refuse se_yX11_refuse ini_X11 co_yX11_refuse yo_yX11_refuse c3 rfl rfl (Nat.le_of_ble_eq_true rfl) ⟨by decide, by decide, by decide, by decide⟩ (okX11_refuse hw) (k_I fun r11 h11 hw => ?_)
    exact g_ireturn O dX11_steps_14 ⟨rfl, rfl, _, rfl, hw⟩
theorem dX11_stuck_0 : decode cX11_stuck 0 = .ok (.aload_n 0, 1) := by decide +kernel
theorem dX11_stuck_1 : decode cX11_stuck 1 = .ok (.iload_n 1, 1) := by decide +kernel
theorem dX11_stuck_2 : decode cX11_stuck 2 = .ok (.invokevirtual 112, 3) := by decide +kernel
theorem dX11_stuck_5 : decode cX11_stuck 5 = .ok (.ifCond .ne 9, 3) := by decide +kernel
theorem dX11_stuck_8 : decode cX11_stuck 8 = .ok (.aload_n 0, 1) := by decide +kernel
theorem dX11_stuck_9 : decode cX11_stuck 9 = .ok (.iconst 1, 1) := by decide +kernel
theorem dX11_stuck_10 : decode cX11_stuck 10 = .ok (.invokevirtual 82, 3) := by decide +kernel
theorem dX11_stuck_13 : decode cX11_stuck 13 = .ok (.ireturn, 1) := by decide +kernel
theorem dX11_stuck_14 : decode cX11_stuck 14 = .ok (.aload_n 0, 1) := by decide +kernel
theorem dX11_stuck_15 : decode cX11_stuck 15 = .ok (.getfield 55, 3) := by decide +kernel
theorem dX11_stuck_18 : decode cX11_stuck 18 = .ok (.getfield 116, 3) := by decide +kernel
theorem dX11_stuck_21 : decode cX11_stuck 21 = .ok (.iload_n 1, 1) := by decide +kernel
theorem dX11_stuck_22 : decode cX11_stuck 22 = .ok (.aaload, 1) := by decide +kernel
theorem dX11_stuck_23 : decode cX11_stuck 23 = .ok (.astore_n 2, 1) := by decide +kernel
theorem dX11_stuck_24 : decode cX11_stuck 24 = .ok (.aload_n 0, 1) := by decide +kernel
theorem dX11_stuck_25 : decode cX11_stuck 25 = .ok (.getfield 37, 3) := by decide +kernel
theorem dX11_stuck_28 : decode cX11_stuck 28 = .ok (.aload_n 2, 1) := by decide +kernel
theorem dX11_stuck_29 : decode cX11_stuck 29 = .ok (.invokevirtual 266, 3) := by decide +kernel
theorem dX11_stuck_32 : decode cX11_stuck 32 = .ok (.aload_n 0, 1) := by decide +kernel
theorem dX11_stuck_33 : decode cX11_stuck 33 = .ok (.aload_n 0, 1) := by decide +kernel
theorem dX11_stuck_34 : decode cX11_stuck 34 = .ok (.getfield 37, 3) := by decide +kernel
theorem dX11_stuck_37 : decode cX11_stuck 37 = .ok (.aload_n 2, 1) := by decide +kernel
theorem dX11_stuck_38 : decode cX11_stuck 38 = .ok (.invokevirtual 276, 3) := by decide +kernel
theorem dX11_stuck_41 : decode cX11_stuck 41 = .ok (.invokevirtual 109, 3) := by decide +kernel
theorem dX11_stuck_44 : decode cX11_stuck 44 = .ok (.ireturn, 1) := by decide +kernel
theorem okX11_stuck {E : Ev} {S : Sh} {Z : Option Nat} {Q : Int32 → Hp → Prop} {h : Hp} {a0 : Nat} {x1 : Int32} (hw : wX11_stuck S h a0 x1 Q) : Ct E yX11_stuck cX11_stuck 3 (some .int) 5 114 0 0 S Z h [vr a0, vi x1] (qI S Z Q) := by
  refine Ct.of (by decide) (lc := [some (vr a0), some (vi x1), none]) (Nat.le_of_ble_eq_true rfl) rfl (fun X O => ?_)
  unfold wX11_stuck at hw
  refine g_aload_n O dX11_stuck_0 rfl ?_
  refine g_iload_n O dX11_stuck_1 rfl ?_
  obtain ⟨c2, hw⟩ := hw
  refine g_callV (As := [vi x1]) (rest := []) O ci_11 rfl dX11_stuck_2 ml_X11_112 im_yX11_isMachine se_yX11_isMachine ini_X11 co_yX11_isMachine yo_yX11_isMachine c2 rfl rfl (Nat.le_of_ble_eq_true rfl) ⟨by decide, by decide, by decide, by decide⟩ (okX11_isMachine hw) (k_I fun r2 h2 hw => ?_)
  refine g_if_ne (tgt := 14) O dX11_stuck_5 rfl (fun q5 => ?_) (fun q5 => ?_)
  · have hw := hw.1 q5
    refine g_aload_n O dX11_stuck_14 rfl ?_
    refine gf_X11_model O dX11_stuck_15 fl_X11_55 c2 ?_
    obtain ⟨c18, hw⟩ := hw
    refine gf_X3_machines O dX11_stuck_18 fl_X11_116 c18 ?_
    refine g_iload_n O dX11_stuck_21 rfl ?_
    obtain ⟨c22, hw⟩ := hw
    refine g_aaload (t := 1) (C := "FinerSteps$Machine") O rfl dX11_stuck_22 c22.1 c22.2 ?_
    refine g_nmR (fun av23 e23 => ?_)
    have hw := hw av23 e23
    refine g_astore_n (lc' := [some (vr a0), some (vi x1), some (vr av23)]) O dX11_stuck_23 rfl (Nat.le_of_ble_eq_true rfl) rfl ?_
    refine g_aload_n O dX11_stuck_24 rfl ?_
    refine gf_X11_paths O dX11_stuck_25 fl_X11_37 c2 ?_
    refine g_aload_n O dX11_stuck_28 rfl ?_
    obtain ⟨c29, hw⟩ := hw
    refine g_callV (As := [vr av23]) (rest := []) O ci_4 rfl dX11_stuck_29 ml_X11_266 im_yX4_explore se_yX4_explore ini_X4 co_yX4_explore yo_yX4_explore c29 rfl rfl (Nat.le_of_ble_eq_true rfl) ⟨by decide, by decide, by decide, by decide⟩ (okX4_explore hw) (k_V fun h29 hw => ?_)
    refine g_aload_n O dX11_stuck_32 rfl ?_
    refine g_aload_n O dX11_stuck_33 rfl ?_
    refine gf_X11_paths O dX11_stuck_34 fl_X11_37 c2 ?_
    refine g_aload_n O dX11_stuck_37 rfl ?_
    obtain ⟨c38, hw⟩ := hw
    refine g_callV (As := [vr av23]) (rest := [vr a0]) O ci_4 rfl dX11_stuck_38 ml_X11_276 im_yX4_firstEnd se_yX4_firstEnd ini_X4 co_yX4_firstEnd yo_yX4_firstEnd c38 rfl rfl (Nat.le_of_ble_eq_true rfl) ⟨by decide, by decide, by decide, by decide⟩ (okX4_firstEnd hw) (k_I fun r38 h38 hw => ?_)
    refine g_callV (As := [vi r38]) (rest := []) O ci_11 rfl dX11_stuck_41 ml_X11_109 im_yX11_answer se_yX11_answer ini_X11 co_yX11_answer yo_yX11_answer c2 rfl rfl (Nat.le_of_ble_eq_true rfl) ⟨by decide, by decide, by decide, by decide⟩ (okX11_answer hw) (k_I fun r41 h41 hw => ?_)
    exact g_ireturn O dX11_stuck_44 ⟨rfl, rfl, _, rfl, hw⟩
  · have hw := hw.2 q5
    refine g_aload_n O dX11_stuck_8 rfl ?_
    refine g_iconst O dX11_stuck_9 kv_1 ?_
    refine g_callV (As := [vi (1 : Int32)]) (rest := []) O ci_11 rfl dX11_stuck_10 ml_X11_82 im_yX11_refuse se_yX11_refuse ini_X11 co_yX11_refuse yo_yX11_refuse c2 rfl rfl (Nat.le_of_ble_eq_true rfl) ⟨by decide, by decide, by decide, by decide⟩ (okX11_refuse hw) (k_I fun r10 h10 hw => ?_)
    exact g_ireturn O dX11_stuck_13 ⟨rfl, rfl, _, rfl, hw⟩
theorem dX11_trouble_0 : decode cX11_trouble 0 = .ok (.aload_n 0, 1) := by decide +kernel
theorem dX11_trouble_1 : decode cX11_trouble 1 = .ok (.getfield 69, 3) := by decide +kernel
theorem dX11_trouble_4 : decode cX11_trouble 4 = .ok (.ireturn, 1) := by decide +kernel
theorem okX11_trouble {E : Ev} {S : Sh} {Z : Option Nat} {Q : Int32 → Hp → Prop} {h : Hp} {a0 : Nat} (hw : wX11_trouble S h a0 Q) : Ct E yX11_trouble cX11_trouble 1 (some .int) 1 24 0 0 S Z h [vr a0] (qI S Z Q) := by
  refine Ct.of (by decide) (lc := [some (vr a0)]) (Nat.le_of_ble_eq_true rfl) rfl (fun X O => ?_)
  unfold wX11_trouble at hw
  refine g_aload_n O dX11_trouble_0 rfl ?_
  obtain ⟨c1, hw⟩ := hw
  refine gf_X11_lastTrouble O dX11_trouble_1 fl_X11_69 c1 ?_
  exact g_ireturn O dX11_trouble_4 ⟨rfl, rfl, _, rfl, hw⟩
theorem dX11_unsound_0 : decode cX11_unsound 0 = .ok (.aload_n 0, 1) := by decide +kernel
theorem dX11_unsound_1 : decode cX11_unsound 1 = .ok (.iload_n 1, 1) := by decide +kernel
theorem dX11_unsound_2 : decode cX11_unsound 2 = .ok (.invokevirtual 112, 3) := by decide +kernel
theorem dX11_unsound_5 : decode cX11_unsound 5 = .ok (.ifCond .ne 9, 3) := by decide +kernel
theorem dX11_unsound_8 : decode cX11_unsound 8 = .ok (.aload_n 0, 1) := by decide +kernel
theorem dX11_unsound_9 : decode cX11_unsound 9 = .ok (.iconst 1, 1) := by decide +kernel
theorem dX11_unsound_10 : decode cX11_unsound 10 = .ok (.invokevirtual 82, 3) := by decide +kernel
theorem dX11_unsound_13 : decode cX11_unsound 13 = .ok (.ireturn, 1) := by decide +kernel
theorem dX11_unsound_14 : decode cX11_unsound 14 = .ok (.aload_n 0, 1) := by decide +kernel
theorem dX11_unsound_15 : decode cX11_unsound 15 = .ok (.getfield 55, 3) := by decide +kernel
theorem dX11_unsound_18 : decode cX11_unsound 18 = .ok (.getfield 116, 3) := by decide +kernel
theorem dX11_unsound_21 : decode cX11_unsound 21 = .ok (.iload_n 1, 1) := by decide +kernel
theorem dX11_unsound_22 : decode cX11_unsound 22 = .ok (.aaload, 1) := by decide +kernel
theorem dX11_unsound_23 : decode cX11_unsound 23 = .ok (.astore_n 2, 1) := by decide +kernel
theorem dX11_unsound_24 : decode cX11_unsound 24 = .ok (.aload_n 0, 1) := by decide +kernel
theorem dX11_unsound_25 : decode cX11_unsound 25 = .ok (.getfield 37, 3) := by decide +kernel
theorem dX11_unsound_28 : decode cX11_unsound 28 = .ok (.aload_n 2, 1) := by decide +kernel
theorem dX11_unsound_29 : decode cX11_unsound 29 = .ok (.invokevirtual 266, 3) := by decide +kernel
theorem dX11_unsound_32 : decode cX11_unsound 32 = .ok (.aload_n 0, 1) := by decide +kernel
theorem dX11_unsound_33 : decode cX11_unsound 33 = .ok (.aload_n 0, 1) := by decide +kernel
theorem dX11_unsound_34 : decode cX11_unsound 34 = .ok (.getfield 37, 3) := by decide +kernel
theorem dX11_unsound_37 : decode cX11_unsound 37 = .ok (.aload_n 2, 1) := by decide +kernel
theorem dX11_unsound_38 : decode cX11_unsound 38 = .ok (.invokevirtual 280, 3) := by decide +kernel
theorem dX11_unsound_41 : decode cX11_unsound 41 = .ok (.invokevirtual 109, 3) := by decide +kernel
theorem dX11_unsound_44 : decode cX11_unsound 44 = .ok (.ireturn, 1) := by decide +kernel
theorem okX11_unsound {E : Ev} {S : Sh} {Z : Option Nat} {Q : Int32 → Hp → Prop} {h : Hp} {a0 : Nat} {x1 : Int32} (hw : wX11_unsound S h a0 x1 Q) : Ct E yX11_unsound cX11_unsound 3 (some .int) 5 114 0 0 S Z h [vr a0, vi x1] (qI S Z Q) := by
  refine Ct.of (by decide) (lc := [some (vr a0), some (vi x1), none]) (Nat.le_of_ble_eq_true rfl) rfl (fun X O => ?_)
  unfold wX11_unsound at hw
  refine g_aload_n O dX11_unsound_0 rfl ?_
  refine g_iload_n O dX11_unsound_1 rfl ?_
  obtain ⟨c2, hw⟩ := hw
  refine g_callV (As := [vi x1]) (rest := []) O ci_11 rfl dX11_unsound_2 ml_X11_112 im_yX11_isMachine se_yX11_isMachine ini_X11 co_yX11_isMachine yo_yX11_isMachine c2 rfl rfl (Nat.le_of_ble_eq_true rfl) ⟨by decide, by decide, by decide, by decide⟩ (okX11_isMachine hw) (k_I fun r2 h2 hw => ?_)
  refine g_if_ne (tgt := 14) O dX11_unsound_5 rfl (fun q5 => ?_) (fun q5 => ?_)
  · have hw := hw.1 q5
    refine g_aload_n O dX11_unsound_14 rfl ?_
    refine gf_X11_model O dX11_unsound_15 fl_X11_55 c2 ?_
    obtain ⟨c18, hw⟩ := hw
    refine gf_X3_machines O dX11_unsound_18 fl_X11_116 c18 ?_
    refine g_iload_n O dX11_unsound_21 rfl ?_
    obtain ⟨c22, hw⟩ := hw
    refine g_aaload (t := 1) (C := "FinerSteps$Machine") O rfl dX11_unsound_22 c22.1 c22.2 ?_
    refine g_nmR (fun av23 e23 => ?_)
    have hw := hw av23 e23
    refine g_astore_n (lc' := [some (vr a0), some (vi x1), some (vr av23)]) O dX11_unsound_23 rfl (Nat.le_of_ble_eq_true rfl) rfl ?_
    refine g_aload_n O dX11_unsound_24 rfl ?_
    refine gf_X11_paths O dX11_unsound_25 fl_X11_37 c2 ?_
    refine g_aload_n O dX11_unsound_28 rfl ?_
    obtain ⟨c29, hw⟩ := hw
    refine g_callV (As := [vr av23]) (rest := []) O ci_4 rfl dX11_unsound_29 ml_X11_266 im_yX4_explore se_yX4_explore ini_X4 co_yX4_explore yo_yX4_explore c29 rfl rfl (Nat.le_of_ble_eq_true rfl) ⟨by decide, by decide, by decide, by decide⟩ (okX4_explore hw) (k_V fun h29 hw => ?_)
    refine g_aload_n O dX11_unsound_32 rfl ?_
    refine g_aload_n O dX11_unsound_33 rfl ?_
    refine gf_X11_paths O dX11_unsound_34 fl_X11_37 c2 ?_
    refine g_aload_n O dX11_unsound_37 rfl ?_
    obtain ⟨c38, hw⟩ := hw
    refine g_callV (As := [vr av23]) (rest := [vr a0]) O ci_4 rfl dX11_unsound_38 ml_X11_280 im_yX4_countUnsound se_yX4_countUnsound ini_X4 co_yX4_countUnsound yo_yX4_countUnsound c38 rfl rfl (Nat.le_of_ble_eq_true rfl) ⟨by decide, by decide, by decide, by decide⟩ (okX4_countUnsound hw) (k_I fun r38 h38 hw => ?_)
    refine g_callV (As := [vi r38]) (rest := []) O ci_11 rfl dX11_unsound_41 ml_X11_109 im_yX11_answer se_yX11_answer ini_X11 co_yX11_answer yo_yX11_answer c2 rfl rfl (Nat.le_of_ble_eq_true rfl) ⟨by decide, by decide, by decide, by decide⟩ (okX11_answer hw) (k_I fun r41 h41 hw => ?_)
    exact g_ireturn O dX11_unsound_44 ⟨rfl, rfl, _, rfl, hw⟩
  · have hw := hw.2 q5
    refine g_aload_n O dX11_unsound_8 rfl ?_
    refine g_iconst O dX11_unsound_9 kv_1 ?_
    refine g_callV (As := [vi (1 : Int32)]) (rest := []) O ci_11 rfl dX11_unsound_10 ml_X11_82 im_yX11_refuse se_yX11_refuse ini_X11 co_yX11_refuse yo_yX11_refuse c2 rfl rfl (Nat.le_of_ble_eq_true rfl) ⟨by decide, by decide, by decide, by decide⟩ (okX11_refuse hw) (k_I fun r10 h10 hw => ?_)
    exact g_ireturn O dX11_unsound_13 ⟨rfl, rfl, _, rfl, hw⟩
theorem dX11_value_0 : decode cX11_value 0 = .ok (.aload_n 0, 1) := by decide +kernel
theorem dX11_value_1 : decode cX11_value 1 = .ok (.iload_n 1, 1) := by decide +kernel
theorem dX11_value_2 : decode cX11_value 2 = .ok (.iload_n 2, 1) := by decide +kernel
theorem dX11_value_3 : decode cX11_value 3 = .ok (.invokevirtual 148, 3) := by decide +kernel
theorem dX11_value_6 : decode cX11_value 6 = .ok (.ifCond .eq 12, 3) := by decide +kernel
theorem dX11_value_9 : decode cX11_value 9 = .ok (.aload_n 0, 1) := by decide +kernel
theorem dX11_value_10 : decode cX11_value 10 = .ok (.iload_n 1, 1) := by decide +kernel
theorem dX11_value_11 : decode cX11_value 11 = .ok (.iload_n 3, 1) := by decide +kernel
theorem dX11_value_12 : decode cX11_value 12 = .ok (.invokevirtual 125, 3) := by decide +kernel
theorem dX11_value_15 : decode cX11_value 15 = .ok (.ifCond .ne 9, 3) := by decide +kernel
theorem dX11_value_18 : decode cX11_value 18 = .ok (.aload_n 0, 1) := by decide +kernel
theorem dX11_value_19 : decode cX11_value 19 = .ok (.iconst 1, 1) := by decide +kernel
theorem dX11_value_20 : decode cX11_value 20 = .ok (.invokevirtual 82, 3) := by decide +kernel
theorem dX11_value_23 : decode cX11_value 23 = .ok (.ireturn, 1) := by decide +kernel
theorem dX11_value_24 : decode cX11_value 24 = .ok (.aload_n 0, 1) := by decide +kernel
theorem dX11_value_25 : decode cX11_value 25 = .ok (.aload_n 0, 1) := by decide +kernel
theorem dX11_value_26 : decode cX11_value 26 = .ok (.getfield 55, 3) := by decide +kernel
theorem dX11_value_29 : decode cX11_value 29 = .ok (.getfield 116, 3) := by decide +kernel
theorem dX11_value_32 : decode cX11_value 32 = .ok (.iload_n 1, 1) := by decide +kernel
theorem dX11_value_33 : decode cX11_value 33 = .ok (.aaload, 1) := by decide +kernel
theorem dX11_value_34 : decode cX11_value 34 = .ok (.iload_n 2, 1) := by decide +kernel
theorem dX11_value_35 : decode cX11_value 35 = .ok (.iload_n 3, 1) := by decide +kernel
theorem dX11_value_36 : decode cX11_value 36 = .ok (.invokevirtual 151, 3) := by decide +kernel
theorem dX11_value_39 : decode cX11_value 39 = .ok (.invokevirtual 109, 3) := by decide +kernel
theorem dX11_value_42 : decode cX11_value 42 = .ok (.ireturn, 1) := by decide +kernel
theorem okX11_value {E : Ev} {S : Sh} {Z : Option Nat} {Q : Int32 → Hp → Prop} {h : Hp} {a0 : Nat} {x1 : Int32} {x2 : Int32} {x3 : Int32} (hw : wX11_value S h a0 x1 x2 x3 Q) : Ct E yX11_value cX11_value 4 (some .int) 3 69 0 0 S Z h [vr a0, vi x1, vi x2, vi x3] (qI S Z Q) := by
  refine Ct.of (by decide) (lc := [some (vr a0), some (vi x1), some (vi x2), some (vi x3)]) (Nat.le_of_ble_eq_true rfl) rfl (fun X O => ?_)
  unfold wX11_value at hw
  refine g_aload_n O dX11_value_0 rfl ?_
  refine g_iload_n O dX11_value_1 rfl ?_
  refine g_iload_n O dX11_value_2 rfl ?_
  obtain ⟨c3, hw⟩ := hw
  refine g_callV (As := [vi x1, vi x2]) (rest := []) O ci_11 rfl dX11_value_3 ml_X11_148 im_yX11_isState se_yX11_isState ini_X11 co_yX11_isState yo_yX11_isState c3 rfl rfl (Nat.le_of_ble_eq_true rfl) ⟨by decide, by decide, by decide, by decide⟩ (okX11_isState hw) (k_I fun r3 h3 hw => ?_)
  refine g_if_eq (tgt := 18) O dX11_value_6 rfl (fun q6 => ?_) (fun q6 => ?_)
  · have hw := hw.1 q6
    refine g_aload_n O dX11_value_18 rfl ?_
    refine g_iconst O dX11_value_19 kv_1 ?_
    refine g_callV (As := [vi (1 : Int32)]) (rest := []) O ci_11 rfl dX11_value_20 ml_X11_82 im_yX11_refuse se_yX11_refuse ini_X11 co_yX11_refuse yo_yX11_refuse c3 rfl rfl (Nat.le_of_ble_eq_true rfl) ⟨by decide, by decide, by decide, by decide⟩ (okX11_refuse hw) (k_I fun r20 h20 hw => ?_)
    exact g_ireturn O dX11_value_23 ⟨rfl, rfl, _, rfl, hw⟩
  · have hw := hw.2 q6
    refine g_aload_n O dX11_value_9 rfl ?_
    refine g_iload_n O dX11_value_10 rfl ?_
    refine g_iload_n O dX11_value_11 rfl ?_
    refine g_callV (As := [vi x1, vi x3]) (rest := []) O ci_11 rfl dX11_value_12 ml_X11_125 im_yX11_isVariable se_yX11_isVariable ini_X11 co_yX11_isVariable yo_yX11_isVariable c3 rfl rfl (Nat.le_of_ble_eq_true rfl) ⟨by decide, by decide, by decide, by decide⟩ (okX11_isVariable hw) (k_I fun r12 h12 hw => ?_)
    refine g_if_ne (tgt := 24) O dX11_value_15 rfl (fun q15 => ?_) (fun q15 => ?_)
    · have hw := hw.1 q15
      refine g_aload_n O dX11_value_24 rfl ?_
      refine g_aload_n O dX11_value_25 rfl ?_
      refine gf_X11_model O dX11_value_26 fl_X11_55 c3 ?_
      obtain ⟨c29, hw⟩ := hw
      refine gf_X3_machines O dX11_value_29 fl_X11_116 c29 ?_
      refine g_iload_n O dX11_value_32 rfl ?_
      obtain ⟨c33, hw⟩ := hw
      refine g_aaload (t := 1) (C := "FinerSteps$Machine") O rfl dX11_value_33 c33.1 c33.2 ?_
      refine g_iload_n O dX11_value_34 rfl ?_
      refine g_iload_n O dX11_value_35 rfl ?_
      obtain ⟨c36, hw⟩ := hw
      refine g_callV (As := [vi x2, vi x3]) (rest := [vr a0]) O ci_2 rfl dX11_value_36 ml_X11_151 im_yX2_number se_yX2_number ini_X2 co_yX2_number yo_yX2_number c36 rfl rfl (Nat.le_of_ble_eq_true rfl) ⟨by decide, by decide, by decide, by decide⟩ (okX2_number hw) (k_I fun r36 h36 hw => ?_)
      refine g_callV (As := [vi r36]) (rest := []) O ci_11 rfl dX11_value_39 ml_X11_109 im_yX11_answer se_yX11_answer ini_X11 co_yX11_answer yo_yX11_answer c3 rfl rfl (Nat.le_of_ble_eq_true rfl) ⟨by decide, by decide, by decide, by decide⟩ (okX11_answer hw) (k_I fun r39 h39 hw => ?_)
      exact g_ireturn O dX11_value_42 ⟨rfl, rfl, _, rfl, hw⟩
    · have hw := hw.2 q15
      refine g_aload_n O dX11_value_18 rfl ?_
      refine g_iconst O dX11_value_19 kv_1 ?_
      refine g_callV (As := [vi (1 : Int32)]) (rest := []) O ci_11 rfl dX11_value_20 ml_X11_82 im_yX11_refuse se_yX11_refuse ini_X11 co_yX11_refuse yo_yX11_refuse c3 rfl rfl (Nat.le_of_ble_eq_true rfl) ⟨by decide, by decide, by decide, by decide⟩ (okX11_refuse hw) (k_I fun r20 h20 hw => ?_)
      exact g_ireturn O dX11_value_23 ⟨rfl, rfl, _, rfl, hw⟩
theorem dX11_variable_0 : decode cX11_variable 0 = .ok (.aload_n 0, 1) := by decide +kernel
theorem dX11_variable_1 : decode cX11_variable 1 = .ok (.iload_n 1, 1) := by decide +kernel
theorem dX11_variable_2 : decode cX11_variable 2 = .ok (.iload_n 2, 1) := by decide +kernel
theorem dX11_variable_3 : decode cX11_variable 3 = .ok (.invokevirtual 125, 3) := by decide +kernel
theorem dX11_variable_6 : decode cX11_variable 6 = .ok (.ifCond .eq 12, 3) := by decide +kernel
theorem dX11_variable_9 : decode cX11_variable 9 = .ok (.iload_n 3, 1) := by decide +kernel
theorem dX11_variable_10 : decode cX11_variable 10 = .ok (.ifCond .lt 8, 3) := by decide +kernel
theorem dX11_variable_13 : decode cX11_variable 13 = .ok (.iload_n 3, 1) := by decide +kernel
theorem dX11_variable_14 : decode cX11_variable 14 = .ok (.iconst 2, 1) := by decide +kernel
theorem dX11_variable_15 : decode cX11_variable 15 = .ok (.if_icmp .le 9, 3) := by decide +kernel
theorem dX11_variable_18 : decode cX11_variable 18 = .ok (.aload_n 0, 1) := by decide +kernel
theorem dX11_variable_19 : decode cX11_variable 19 = .ok (.iconst 1, 1) := by decide +kernel
theorem dX11_variable_20 : decode cX11_variable 20 = .ok (.invokevirtual 82, 3) := by decide +kernel
theorem dX11_variable_23 : decode cX11_variable 23 = .ok (.ireturn, 1) := by decide +kernel
theorem dX11_variable_24 : decode cX11_variable 24 = .ok (.aload_n 0, 1) := by decide +kernel
theorem dX11_variable_25 : decode cX11_variable 25 = .ok (.getfield 55, 3) := by decide +kernel
theorem dX11_variable_28 : decode cX11_variable 28 = .ok (.getfield 116, 3) := by decide +kernel
theorem dX11_variable_31 : decode cX11_variable 31 = .ok (.iload_n 1, 1) := by decide +kernel
theorem dX11_variable_32 : decode cX11_variable 32 = .ok (.aaload, 1) := by decide +kernel
theorem dX11_variable_33 : decode cX11_variable 33 = .ok (.astore 4, 2) := by decide +kernel
theorem dX11_variable_35 : decode cX11_variable 35 = .ok (.iload_n 3, 1) := by decide +kernel
theorem dX11_variable_36 : decode cX11_variable 36 = .ok (.ifCond .ne 15, 3) := by decide +kernel
theorem dX11_variable_39 : decode cX11_variable 39 = .ok (.aload_n 0, 1) := by decide +kernel
theorem dX11_variable_40 : decode cX11_variable 40 = .ok (.aload 4, 2) := by decide +kernel
theorem dX11_variable_42 : decode cX11_variable 42 = .ok (.getfield 129, 3) := by decide +kernel
theorem dX11_variable_45 : decode cX11_variable 45 = .ok (.iload_n 2, 1) := by decide +kernel
theorem dX11_variable_46 : decode cX11_variable 46 = .ok (.iaload, 1) := by decide +kernel
theorem dX11_variable_47 : decode cX11_variable 47 = .ok (.invokevirtual 109, 3) := by decide +kernel
theorem dX11_variable_50 : decode cX11_variable 50 = .ok (.ireturn, 1) := by decide +kernel
theorem dX11_variable_51 : decode cX11_variable 51 = .ok (.aload_n 0, 1) := by decide +kernel
theorem dX11_variable_52 : decode cX11_variable 52 = .ok (.iload_n 3, 1) := by decide +kernel
theorem dX11_variable_53 : decode cX11_variable 53 = .ok (.iconst 1, 1) := by decide +kernel
theorem dX11_variable_54 : decode cX11_variable 54 = .ok (.if_icmp .ne 13, 3) := by decide +kernel
theorem dX11_variable_57 : decode cX11_variable 57 = .ok (.aload 4, 2) := by decide +kernel
theorem dX11_variable_59 : decode cX11_variable 59 = .ok (.getfield 132, 3) := by decide +kernel
theorem dX11_variable_62 : decode cX11_variable 62 = .ok (.iload_n 2, 1) := by decide +kernel
theorem dX11_variable_63 : decode cX11_variable 63 = .ok (.iaload, 1) := by decide +kernel
theorem dX11_variable_64 : decode cX11_variable 64 = .ok (.goto 10, 3) := by decide +kernel
theorem dX11_variable_67 : decode cX11_variable 67 = .ok (.aload 4, 2) := by decide +kernel
theorem dX11_variable_69 : decode cX11_variable 69 = .ok (.getfield 135, 3) := by decide +kernel
theorem dX11_variable_72 : decode cX11_variable 72 = .ok (.iload_n 2, 1) := by decide +kernel
theorem dX11_variable_73 : decode cX11_variable 73 = .ok (.iaload, 1) := by decide +kernel
theorem dX11_variable_74 : decode cX11_variable 74 = .ok (.invokevirtual 109, 3) := by decide +kernel
theorem dX11_variable_77 : decode cX11_variable 77 = .ok (.ireturn, 1) := by decide +kernel
theorem okX11_variable {E : Ev} {S : Sh} {Z : Option Nat} {Q : Int32 → Hp → Prop} {h : Hp} {a0 : Nat} {x1 : Int32} {x2 : Int32} {x3 : Int32} (hw : wX11_variable S h a0 x1 x2 x3 Q) : Ct E yX11_variable cX11_variable 5 (some .int) 3 67 0 0 S Z h [vr a0, vi x1, vi x2, vi x3] (qI S Z Q) := by
  refine Ct.of (by decide) (lc := [some (vr a0), some (vi x1), some (vi x2), some (vi x3), none]) (Nat.le_of_ble_eq_true rfl) rfl (fun X O => ?_)
  unfold wX11_variable at hw
  refine g_aload_n O dX11_variable_0 rfl ?_
  refine g_iload_n O dX11_variable_1 rfl ?_
  refine g_iload_n O dX11_variable_2 rfl ?_
  obtain ⟨c3, hw⟩ := hw
  refine g_callV (As := [vi x1, vi x2]) (rest := []) O ci_11 rfl dX11_variable_3 ml_X11_125 im_yX11_isVariable se_yX11_isVariable ini_X11 co_yX11_isVariable yo_yX11_isVariable c3 rfl rfl (Nat.le_of_ble_eq_true rfl) ⟨by decide, by decide, by decide, by decide⟩ (okX11_isVariable hw) (k_I fun r3 h3 hw => ?_)
  refine g_if_eq (tgt := 18) O dX11_variable_6 rfl (fun q6 => ?_) (fun q6 => ?_)
  · have hw := hw.1 q6
    refine g_aload_n O dX11_variable_18 rfl ?_
    refine g_iconst O dX11_variable_19 kv_1 ?_
    refine g_callV (As := [vi (1 : Int32)]) (rest := []) O ci_11 rfl dX11_variable_20 ml_X11_82 im_yX11_refuse se_yX11_refuse ini_X11 co_yX11_refuse yo_yX11_refuse c3 rfl rfl (Nat.le_of_ble_eq_true rfl) ⟨by decide, by decide, by decide, by decide⟩ (okX11_refuse hw) (k_I fun r20 h20 hw => ?_)
    exact g_ireturn O dX11_variable_23 ⟨rfl, rfl, _, rfl, hw⟩
  · have hw := hw.2 q6
    refine g_iload_n O dX11_variable_9 rfl ?_
    refine g_if_lt (tgt := 18) O dX11_variable_10 rfl (fun q10 => ?_) (fun q10 => ?_)
    · have hw := hw.1 q10
      refine g_aload_n O dX11_variable_18 rfl ?_
      refine g_iconst O dX11_variable_19 kv_1 ?_
      refine g_callV (As := [vi (1 : Int32)]) (rest := []) O ci_11 rfl dX11_variable_20 ml_X11_82 im_yX11_refuse se_yX11_refuse ini_X11 co_yX11_refuse yo_yX11_refuse c3 rfl rfl (Nat.le_of_ble_eq_true rfl) ⟨by decide, by decide, by decide, by decide⟩ (okX11_refuse hw) (k_I fun r20 h20 hw => ?_)
      exact g_ireturn O dX11_variable_23 ⟨rfl, rfl, _, rfl, hw⟩
    · have hw := hw.2 q10
      refine g_iload_n O dX11_variable_13 rfl ?_
      refine g_iconst O dX11_variable_14 kv_2 ?_
      refine g_icmp_le (tgt := 24) O dX11_variable_15 rfl (fun q15 => ?_) (fun q15 => ?_)
      · have hw := hw.1 q15
        refine g_aload_n O dX11_variable_24 rfl ?_
        refine gf_X11_model O dX11_variable_25 fl_X11_55 c3 ?_
        obtain ⟨c28, hw⟩ := hw
        refine gf_X3_machines O dX11_variable_28 fl_X11_116 c28 ?_
        refine g_iload_n O dX11_variable_31 rfl ?_
        obtain ⟨c32, hw⟩ := hw
        refine g_aaload (t := 1) (C := "FinerSteps$Machine") O rfl dX11_variable_32 c32.1 c32.2 ?_
        refine g_nmR (fun av33 e33 => ?_)
        have hw := hw av33 e33
        refine g_astore (lc' := [some (vr a0), some (vi x1), some (vi x2), some (vi x3), some (vr av33)]) O dX11_variable_33 rfl (Nat.le_of_ble_eq_true rfl) rfl ?_
        refine g_iload_n O dX11_variable_35 rfl ?_
        refine g_if_ne (tgt := 51) O dX11_variable_36 rfl (fun q36 => ?_) (fun q36 => ?_)
        · have hw := hw.1 q36
          refine g_aload_n O dX11_variable_51 rfl ?_
          refine g_iload_n O dX11_variable_52 rfl ?_
          refine g_iconst O dX11_variable_53 kv_1 ?_
          refine g_icmp_ne (tgt := 67) O dX11_variable_54 rfl (fun q54 => ?_) (fun q54 => ?_)
          · have hw := hw.1 q54
            refine g_aload O dX11_variable_67 rfl ?_
            obtain ⟨c69, hw⟩ := hw
            refine gf_X2_at O dX11_variable_69 fl_X11_135 c69 ?_
            refine g_iload_n O dX11_variable_72 rfl ?_
            obtain ⟨c73, hw⟩ := hw
            refine g_iaload O dX11_variable_73 c73.1 c73.2 ?_
            refine g_callV (As := [vi ((gI h3 (gR h3 av33 3) (ix x2)))]) (rest := []) O ci_11 rfl dX11_variable_74 ml_X11_109 im_yX11_answer se_yX11_answer ini_X11 co_yX11_answer yo_yX11_answer c3 rfl rfl (Nat.le_of_ble_eq_true rfl) ⟨by decide, by decide, by decide, by decide⟩ (okX11_answer hw) (k_I fun r74 h74 hw => ?_)
            exact g_ireturn O dX11_variable_77 ⟨rfl, rfl, _, rfl, hw⟩
          · have hw := hw.2 q54
            refine g_aload O dX11_variable_57 rfl ?_
            obtain ⟨c59, hw⟩ := hw
            refine gf_X2_high O dX11_variable_59 fl_X11_132 c59 ?_
            refine g_iload_n O dX11_variable_62 rfl ?_
            obtain ⟨c63, hw⟩ := hw
            refine g_iaload O dX11_variable_63 c63.1 c63.2 ?_
            refine g_goto (tgt := 74) O dX11_variable_64 rfl ?_
            refine g_callV (As := [vi ((gI h3 (gR h3 av33 2) (ix x2)))]) (rest := []) O ci_11 rfl dX11_variable_74 ml_X11_109 im_yX11_answer se_yX11_answer ini_X11 co_yX11_answer yo_yX11_answer c3 rfl rfl (Nat.le_of_ble_eq_true rfl) ⟨by decide, by decide, by decide, by decide⟩ (okX11_answer hw) (k_I fun r74 h74 hw => ?_)
            exact g_ireturn O dX11_variable_77 ⟨rfl, rfl, _, rfl, hw⟩
        · have hw := hw.2 q36
          refine g_aload_n O dX11_variable_39 rfl ?_
          refine g_aload O dX11_variable_40 rfl ?_
          obtain ⟨c42, hw⟩ := hw
          refine gf_X2_low O dX11_variable_42 fl_X11_129 c42 ?_
          refine g_iload_n O dX11_variable_45 rfl ?_
          obtain ⟨c46, hw⟩ := hw
          refine g_iaload O dX11_variable_46 c46.1 c46.2 ?_
          refine g_callV (As := [vi ((gI h3 (gR h3 av33 1) (ix x2)))]) (rest := []) O ci_11 rfl dX11_variable_47 ml_X11_109 im_yX11_answer se_yX11_answer ini_X11 co_yX11_answer yo_yX11_answer c3 rfl rfl (Nat.le_of_ble_eq_true rfl) ⟨by decide, by decide, by decide, by decide⟩ (okX11_answer hw) (k_I fun r47 h47 hw => ?_)
          exact g_ireturn O dX11_variable_50 ⟨rfl, rfl, _, rfl, hw⟩
      · have hw := hw.2 q15
        refine g_aload_n O dX11_variable_18 rfl ?_
        refine g_iconst O dX11_variable_19 kv_1 ?_
        refine g_callV (As := [vi (1 : Int32)]) (rest := []) O ci_11 rfl dX11_variable_20 ml_X11_82 im_yX11_refuse se_yX11_refuse ini_X11 co_yX11_refuse yo_yX11_refuse c3 rfl rfl (Nat.le_of_ble_eq_true rfl) ⟨by decide, by decide, by decide, by decide⟩ (okX11_refuse hw) (k_I fun r20 h20 hw => ?_)
        exact g_ireturn O dX11_variable_23 ⟨rfl, rfl, _, rfl, hw⟩
theorem dX11_variant_0 : decode cX11_variant 0 = .ok (.aload_n 0, 1) := by decide +kernel
theorem dX11_variant_1 : decode cX11_variant 1 = .ok (.iload_n 1, 1) := by decide +kernel
theorem dX11_variant_2 : decode cX11_variant 2 = .ok (.iload_n 2, 1) := by decide +kernel
theorem dX11_variant_3 : decode cX11_variant 3 = .ok (.invokevirtual 148, 3) := by decide +kernel
theorem dX11_variant_6 : decode cX11_variant 6 = .ok (.ifCond .ne 11, 3) := by decide +kernel
theorem dX11_variant_9 : decode cX11_variant 9 = .ok (.aload_n 0, 1) := by decide +kernel
theorem dX11_variant_10 : decode cX11_variant 10 = .ok (.iconst 1, 1) := by decide +kernel
theorem dX11_variant_11 : decode cX11_variant 11 = .ok (.invokevirtual 82, 3) := by decide +kernel
theorem dX11_variant_14 : decode cX11_variant 14 = .ok (.pop, 1) := by decide +kernel
theorem dX11_variant_15 : decode cX11_variant 15 = .ok (.iconst 0, 1) := by decide +kernel
theorem dX11_variant_16 : decode cX11_variant 16 = .ok (.ireturn, 1) := by decide +kernel
theorem dX11_variant_17 : decode cX11_variant 17 = .ok (.aload_n 0, 1) := by decide +kernel
theorem dX11_variant_18 : decode cX11_variant 18 = .ok (.getfield 55, 3) := by decide +kernel
theorem dX11_variant_21 : decode cX11_variant 21 = .ok (.getfield 116, 3) := by decide +kernel
theorem dX11_variant_24 : decode cX11_variant 24 = .ok (.iload_n 1, 1) := by decide +kernel
theorem dX11_variant_25 : decode cX11_variant 25 = .ok (.aaload, 1) := by decide +kernel
theorem dX11_variant_26 : decode cX11_variant 26 = .ok (.astore_n 3, 1) := by decide +kernel
theorem dX11_variant_27 : decode cX11_variant 27 = .ok (.aload_n 3, 1) := by decide +kernel
theorem dX11_variant_28 : decode cX11_variant 28 = .ok (.getfield 183, 3) := by decide +kernel
theorem dX11_variant_31 : decode cX11_variant 31 = .ok (.iconst (-1), 1) := by decide +kernel
theorem dX11_variant_32 : decode cX11_variant 32 = .ok (.if_icmp .ne 11, 3) := by decide +kernel
theorem dX11_variant_35 : decode cX11_variant 35 = .ok (.aload_n 0, 1) := by decide +kernel
theorem dX11_variant_36 : decode cX11_variant 36 = .ok (.iconst 5, 1) := by decide +kernel
theorem dX11_variant_37 : decode cX11_variant 37 = .ok (.invokevirtual 82, 3) := by decide +kernel
theorem dX11_variant_40 : decode cX11_variant 40 = .ok (.pop, 1) := by decide +kernel
theorem dX11_variant_41 : decode cX11_variant 41 = .ok (.iconst 0, 1) := by decide +kernel
theorem dX11_variant_42 : decode cX11_variant 42 = .ok (.ireturn, 1) := by decide +kernel
theorem dX11_variant_43 : decode cX11_variant 43 = .ok (.aload_n 0, 1) := by decide +kernel
theorem dX11_variant_44 : decode cX11_variant 44 = .ok (.aload_n 3, 1) := by decide +kernel
theorem dX11_variant_45 : decode cX11_variant 45 = .ok (.getfield 186, 3) := by decide +kernel
theorem dX11_variant_48 : decode cX11_variant 48 = .ok (.iload_n 2, 1) := by decide +kernel
theorem dX11_variant_49 : decode cX11_variant 49 = .ok (.iaload, 1) := by decide +kernel
theorem dX11_variant_50 : decode cX11_variant 50 = .ok (.invokevirtual 109, 3) := by decide +kernel
theorem dX11_variant_53 : decode cX11_variant 53 = .ok (.ireturn, 1) := by decide +kernel
theorem okX11_variant {E : Ev} {S : Sh} {Z : Option Nat} {Q : Int32 → Hp → Prop} {h : Hp} {a0 : Nat} {x1 : Int32} {x2 : Int32} (hw : wX11_variant S h a0 x1 x2 Q) : Ct E yX11_variant cX11_variant 4 (some .int) 3 67 0 0 S Z h [vr a0, vi x1, vi x2] (qI S Z Q) := by
  refine Ct.of (by decide) (lc := [some (vr a0), some (vi x1), some (vi x2), none]) (Nat.le_of_ble_eq_true rfl) rfl (fun X O => ?_)
  unfold wX11_variant at hw
  refine g_aload_n O dX11_variant_0 rfl ?_
  refine g_iload_n O dX11_variant_1 rfl ?_
  refine g_iload_n O dX11_variant_2 rfl ?_
  obtain ⟨c3, hw⟩ := hw
  refine g_callV (As := [vi x1, vi x2]) (rest := []) O ci_11 rfl dX11_variant_3 ml_X11_148 im_yX11_isState se_yX11_isState ini_X11 co_yX11_isState yo_yX11_isState c3 rfl rfl (Nat.le_of_ble_eq_true rfl) ⟨by decide, by decide, by decide, by decide⟩ (okX11_isState hw) (k_I fun r3 h3 hw => ?_)
  refine g_if_ne (tgt := 17) O dX11_variant_6 rfl (fun q6 => ?_) (fun q6 => ?_)
  · have hw := hw.1 q6
    refine g_aload_n O dX11_variant_17 rfl ?_
    refine gf_X11_model O dX11_variant_18 fl_X11_55 c3 ?_
    obtain ⟨c21, hw⟩ := hw
    refine gf_X3_machines O dX11_variant_21 fl_X11_116 c21 ?_
    refine g_iload_n O dX11_variant_24 rfl ?_
    obtain ⟨c25, hw⟩ := hw
    refine g_aaload (t := 1) (C := "FinerSteps$Machine") O rfl dX11_variant_25 c25.1 c25.2 ?_
    refine g_nmR (fun av26 e26 => ?_)
    have hw := hw av26 e26
    refine g_astore_n (lc' := [some (vr a0), some (vi x1), some (vi x2), some (vr av26)]) O dX11_variant_26 rfl (Nat.le_of_ble_eq_true rfl) rfl ?_
    refine g_aload_n O dX11_variant_27 rfl ?_
    obtain ⟨c28, hw⟩ := hw
    refine gf_X2_variantCode O dX11_variant_28 fl_X11_183 c28 ?_
    refine g_iconst O dX11_variant_31 kv_m1 ?_
    refine g_icmp_ne (tgt := 43) O dX11_variant_32 rfl (fun q32 => ?_) (fun q32 => ?_)
    · have hw := hw.1 q32
      refine g_aload_n O dX11_variant_43 rfl ?_
      refine g_aload_n O dX11_variant_44 rfl ?_
      refine gf_X2_variants O dX11_variant_45 fl_X11_186 c28 ?_
      refine g_iload_n O dX11_variant_48 rfl ?_
      obtain ⟨c49, hw⟩ := hw
      refine g_iaload O dX11_variant_49 c49.1 c49.2 ?_
      refine g_callV (As := [vi ((gI h3 (gR h3 av26 8) (ix x2)))]) (rest := []) O ci_11 rfl dX11_variant_50 ml_X11_109 im_yX11_answer se_yX11_answer ini_X11 co_yX11_answer yo_yX11_answer c3 rfl rfl (Nat.le_of_ble_eq_true rfl) ⟨by decide, by decide, by decide, by decide⟩ (okX11_answer hw) (k_I fun r50 h50 hw => ?_)
      exact g_ireturn O dX11_variant_53 ⟨rfl, rfl, _, rfl, hw⟩
    · have hw := hw.2 q32
      refine g_aload_n O dX11_variant_35 rfl ?_
      refine g_iconst O dX11_variant_36 kv_5 ?_
      refine g_callV (As := [vi (5 : Int32)]) (rest := []) O ci_11 rfl dX11_variant_37 ml_X11_82 im_yX11_refuse se_yX11_refuse ini_X11 co_yX11_refuse yo_yX11_refuse c3 rfl rfl (Nat.le_of_ble_eq_true rfl) ⟨by decide, by decide, by decide, by decide⟩ (okX11_refuse hw) (k_I fun r37 h37 hw => ?_)
      refine g_pop O dX11_variant_40 rfl ?_
      refine g_iconst O dX11_variant_41 kv_0 ?_
      exact g_ireturn O dX11_variant_42 ⟨rfl, rfl, _, rfl, hw⟩
  · have hw := hw.2 q6
    refine g_aload_n O dX11_variant_9 rfl ?_
    refine g_iconst O dX11_variant_10 kv_1 ?_
    refine g_callV (As := [vi (1 : Int32)]) (rest := []) O ci_11 rfl dX11_variant_11 ml_X11_82 im_yX11_refuse se_yX11_refuse ini_X11 co_yX11_refuse yo_yX11_refuse c3 rfl rfl (Nat.le_of_ble_eq_true rfl) ⟨by decide, by decide, by decide, by decide⟩ (okX11_refuse hw) (k_I fun r11 h11 hw => ?_)
    refine g_pop O dX11_variant_14 rfl ?_
    refine g_iconst O dX11_variant_15 kv_0 ?_
    exact g_ireturn O dX11_variant_16 ⟨rfl, rfl, _, rfl, hw⟩
theorem dX11_where_0 : decode cX11_where 0 = .ok (.aload_n 0, 1) := by decide +kernel
theorem dX11_where_1 : decode cX11_where 1 = .ok (.getfield 69, 3) := by decide +kernel
theorem dX11_where_4 : decode cX11_where 4 = .ok (.iconst 4, 1) := by decide +kernel
theorem dX11_where_5 : decode cX11_where 5 = .ok (.if_icmp .ne 10, 3) := by decide +kernel
theorem dX11_where_8 : decode cX11_where 8 = .ok (.aload_n 0, 1) := by decide +kernel
theorem dX11_where_9 : decode cX11_where 9 = .ok (.getfield 75, 3) := by decide +kernel
theorem dX11_where_12 : decode cX11_where 12 = .ok (.goto 4, 3) := by decide +kernel
theorem dX11_where_15 : decode cX11_where 15 = .ok (.iconst (-1), 1) := by decide +kernel
theorem dX11_where_16 : decode cX11_where 16 = .ok (.ireturn, 1) := by decide +kernel
theorem okX11_where {E : Ev} {S : Sh} {Z : Option Nat} {Q : Int32 → Hp → Prop} {h : Hp} {a0 : Nat} (hw : wX11_where S h a0 Q) : Ct E yX11_where cX11_where 1 (some .int) 1 24 0 0 S Z h [vr a0] (qI S Z Q) := by
  refine Ct.of (by decide) (lc := [some (vr a0)]) (Nat.le_of_ble_eq_true rfl) rfl (fun X O => ?_)
  unfold wX11_where at hw
  refine g_aload_n O dX11_where_0 rfl ?_
  obtain ⟨c1, hw⟩ := hw
  refine gf_X11_lastTrouble O dX11_where_1 fl_X11_69 c1 ?_
  refine g_iconst O dX11_where_4 kv_4 ?_
  refine g_icmp_ne (tgt := 15) O dX11_where_5 rfl (fun q5 => ?_) (fun q5 => ?_)
  · have hw := hw.1 q5
    refine g_iconst O dX11_where_15 kv_m1 ?_
    exact g_ireturn O dX11_where_16 ⟨rfl, rfl, _, rfl, hw⟩
  · have hw := hw.2 q5
    refine g_aload_n O dX11_where_8 rfl ?_
    refine gf_X11_faultPlace O dX11_where_9 fl_X11_75 c1 ?_
    refine g_goto (tgt := 16) O dX11_where_12 rfl ?_
    exact g_ireturn O dX11_where_16 ⟨rfl, rfl, _, rfl, hw⟩
theorem dX11_write_0 : decode cX11_write 0 = .ok (.aload_n 0, 1) := by decide +kernel
theorem dX11_write_1 : decode cX11_write 1 = .ok (.aload_n 0, 1) := by decide +kernel
theorem dX11_write_2 : decode cX11_write 2 = .ok (.getfield 66, 3) := by decide +kernel
theorem dX11_write_5 : decode cX11_write 5 = .ok (.aload_n 0, 1) := by decide +kernel
theorem dX11_write_6 : decode cX11_write 6 = .ok (.getfield 48, 3) := by decide +kernel
theorem dX11_write_9 : decode cX11_write 9 = .ok (.iconst 1, 1) := by decide +kernel
theorem dX11_write_10 : decode cX11_write 10 = .ok (.iaload, 1) := by decide +kernel
theorem dX11_write_11 : decode cX11_write 11 = .ok (.invokevirtual 148, 3) := by decide +kernel
theorem dX11_write_14 : decode cX11_write 14 = .ok (.ifCond .ne 9, 3) := by decide +kernel
theorem dX11_write_17 : decode cX11_write 17 = .ok (.aload_n 0, 1) := by decide +kernel
theorem dX11_write_18 : decode cX11_write 18 = .ok (.iconst 5, 1) := by decide +kernel
theorem dX11_write_19 : decode cX11_write 19 = .ok (.invokevirtual 82, 3) := by decide +kernel
theorem dX11_write_22 : decode cX11_write 22 = .ok (.ireturn, 1) := by decide +kernel
theorem dX11_write_23 : decode cX11_write 23 = .ok (.aload_n 0, 1) := by decide +kernel
theorem dX11_write_24 : decode cX11_write 24 = .ok (.getfield 44, 3) := by decide +kernel
theorem dX11_write_27 : decode cX11_write 27 = .ok (.invokevirtual 215, 3) := by decide +kernel
theorem dX11_write_30 : decode cX11_write 30 = .ok (.aload_n 0, 1) := by decide +kernel
theorem dX11_write_31 : decode cX11_write 31 = .ok (.getfield 66, 3) := by decide +kernel
theorem dX11_write_34 : decode cX11_write 34 = .ok (.ifCond .le 30, 3) := by decide +kernel
theorem dX11_write_37 : decode cX11_write 37 = .ok (.aload_n 0, 1) := by decide +kernel
theorem dX11_write_38 : decode cX11_write 38 = .ok (.getfield 44, 3) := by decide +kernel
theorem dX11_write_41 : decode cX11_write 41 = .ok (.aload_n 0, 1) := by decide +kernel
theorem dX11_write_42 : decode cX11_write 42 = .ok (.getfield 55, 3) := by decide +kernel
theorem dX11_write_45 : decode cX11_write 45 = .ok (.getfield 116, 3) := by decide +kernel
theorem dX11_write_48 : decode cX11_write 48 = .ok (.aload_n 0, 1) := by decide +kernel
theorem dX11_write_49 : decode cX11_write 49 = .ok (.getfield 66, 3) := by decide +kernel
theorem dX11_write_52 : decode cX11_write 52 = .ok (.iconst 1, 1) := by decide +kernel
theorem dX11_write_53 : decode cX11_write 53 = .ok (.isub, 1) := by decide +kernel
theorem dX11_write_54 : decode cX11_write 54 = .ok (.aaload, 1) := by decide +kernel
theorem dX11_write_55 : decode cX11_write 55 = .ok (.aload_n 0, 1) := by decide +kernel
theorem dX11_write_56 : decode cX11_write 56 = .ok (.getfield 48, 3) := by decide +kernel
theorem dX11_write_59 : decode cX11_write 59 = .ok (.iconst 0, 1) := by decide +kernel
theorem dX11_write_60 : decode cX11_write 60 = .ok (.iaload, 1) := by decide +kernel
theorem dX11_write_61 : decode cX11_write 61 = .ok (.invokevirtual 218, 3) := by decide +kernel
theorem dX11_write_64 : decode cX11_write 64 = .ok (.aload_n 0, 1) := by decide +kernel
theorem dX11_write_65 : decode cX11_write 65 = .ok (.getfield 44, 3) := by decide +kernel
theorem dX11_write_68 : decode cX11_write 68 = .ok (.aload_n 0, 1) := by decide +kernel
theorem dX11_write_69 : decode cX11_write 69 = .ok (.getfield 55, 3) := by decide +kernel
theorem dX11_write_72 : decode cX11_write 72 = .ok (.getfield 116, 3) := by decide +kernel
theorem dX11_write_75 : decode cX11_write 75 = .ok (.aload_n 0, 1) := by decide +kernel
theorem dX11_write_76 : decode cX11_write 76 = .ok (.getfield 66, 3) := by decide +kernel
theorem dX11_write_79 : decode cX11_write 79 = .ok (.aaload, 1) := by decide +kernel
theorem dX11_write_80 : decode cX11_write 80 = .ok (.aload_n 0, 1) := by decide +kernel
theorem dX11_write_81 : decode cX11_write 81 = .ok (.getfield 48, 3) := by decide +kernel
theorem dX11_write_84 : decode cX11_write 84 = .ok (.iconst 1, 1) := by decide +kernel
theorem dX11_write_85 : decode cX11_write 85 = .ok (.iaload, 1) := by decide +kernel
theorem dX11_write_86 : decode cX11_write 86 = .ok (.invokevirtual 218, 3) := by decide +kernel
theorem dX11_write_89 : decode cX11_write 89 = .ok (.aload_n 0, 1) := by decide +kernel
theorem dX11_write_90 : decode cX11_write 90 = .ok (.getfield 44, 3) := by decide +kernel
theorem dX11_write_93 : decode cX11_write 93 = .ok (.ldc 222, 2) := by decide +kernel
theorem dX11_write_95 : decode cX11_write 95 = .ok (.invokevirtual 224, 3) := by decide +kernel
theorem dX11_write_98 : decode cX11_write 98 = .ok (.aload_n 0, 1) := by decide +kernel
theorem dX11_write_99 : decode cX11_write 99 = .ok (.getfield 44, 3) := by decide +kernel
theorem dX11_write_102 : decode cX11_write 102 = .ok (.aload_n 0, 1) := by decide +kernel
theorem dX11_write_103 : decode cX11_write 103 = .ok (.getfield 48, 3) := by decide +kernel
theorem dX11_write_106 : decode cX11_write 106 = .ok (.iconst 2, 1) := by decide +kernel
theorem dX11_write_107 : decode cX11_write 107 = .ok (.iaload, 1) := by decide +kernel
theorem dX11_write_108 : decode cX11_write 108 = .ok (.invokevirtual 228, 3) := by decide +kernel
theorem dX11_write_111 : decode cX11_write 111 = .ok (.aload_n 0, 1) := by decide +kernel
theorem dX11_write_112 : decode cX11_write 112 = .ok (.aload_n 0, 1) := by decide +kernel
theorem dX11_write_113 : decode cX11_write 113 = .ok (.getfield 44, 3) := by decide +kernel
theorem dX11_write_116 : decode cX11_write 116 = .ok (.getfield 231, 3) := by decide +kernel
theorem dX11_write_119 : decode cX11_write 119 = .ok (.invokevirtual 109, 3) := by decide +kernel
theorem dX11_write_122 : decode cX11_write 122 = .ok (.ireturn, 1) := by decide +kernel
theorem okX11_write_j64 {E : Ev} {X : Cx} {S : Sh} {Z : Option Nat} {Q : Int32 → Hp → Prop} {h : Hp} {a0 : Nat} (O : Ok E X yX11_write cX11_write 1 (some .int) 8 303 0 0 (qI S Z Q)) (hw : wX11_write_j64 S (fun i => E.2.2.2.2.1 i + 1) h a0 Q) : G E X 0 0 S Z h 64 [some (vr a0)] [] := by
  unfold wX11_write_j64 at hw
  refine g_aload_n O dX11_write_64 rfl ?_
  obtain ⟨c65, hw⟩ := hw
  refine gf_X11_scroll O dX11_write_65 fl_X11_44 c65 ?_
  refine g_aload_n O dX11_write_68 rfl ?_
  refine gf_X11_model O dX11_write_69 fl_X11_55 c65 ?_
  obtain ⟨c72, hw⟩ := hw
  refine gf_X3_machines O dX11_write_72 fl_X11_116 c72 ?_
  refine g_aload_n O dX11_write_75 rfl ?_
  refine gf_X11_shownMachine O dX11_write_76 fl_X11_66 c65 ?_
  obtain ⟨c79, hw⟩ := hw
  refine g_aaload (t := 1) (C := "FinerSteps$Machine") O rfl dX11_write_79 c79.1 c79.2 ?_
  refine g_aload_n O dX11_write_80 rfl ?_
  refine gf_X11_shownCase O dX11_write_81 fl_X11_48 c65 ?_
  refine g_iconst O dX11_write_84 kv_1 ?_
  obtain ⟨c85, hw⟩ := hw
  refine g_iaload O dX11_write_85 c85.1 c85.2 ?_
  obtain ⟨c86, hw⟩ := hw
  refine g_callV (As := [vr ((gR h ((gR h (gR h a0 7) 0)) (ix (gI h a0 10)))), vi ((gI h (gR h a0 6) (ix (1 : Int32))))]) (rest := []) O ci_6 rfl dX11_write_86 ml_X11_218 im_yX6_putState se_yX6_putState ini_X6 co_yX6_putState yo_yX6_putState c86 rfl rfl (Nat.le_of_ble_eq_true rfl) ⟨by decide, by decide, by decide, by decide⟩ (okX6_putState hw) (k_V fun h86 hw => ?_)
  refine g_aload_n O dX11_write_89 rfl ?_
  refine gf_X11_scroll O dX11_write_90 fl_X11_44 c65 ?_
  refine g_ldcS (i := 1) O dX11_write_93 rfl rfl rfl ?_
  obtain ⟨c95, hw⟩ := hw
  refine g_callV (As := [vr (E.2.2.2.2.1 1 + 1)]) (rest := []) O ci_6 rfl dX11_write_95 ml_X11_224 im_yX6_putText se_yX6_putText ini_X6 co_yX6_putText yo_yX6_putText c95 rfl rfl (Nat.le_of_ble_eq_true rfl) ⟨by decide, by decide, by decide, by decide⟩ (okX6_putText hw) (k_V fun h95 hw => ?_)
  refine g_aload_n O dX11_write_98 rfl ?_
  refine gf_X11_scroll O dX11_write_99 fl_X11_44 c65 ?_
  refine g_aload_n O dX11_write_102 rfl ?_
  refine gf_X11_shownCase O dX11_write_103 fl_X11_48 c65 ?_
  refine g_iconst O dX11_write_106 kv_2 ?_
  obtain ⟨c107, hw⟩ := hw
  refine g_iaload O dX11_write_107 c107.1 c107.2 ?_
  obtain ⟨c108, hw⟩ := hw
  refine g_callV (As := [vi ((gI h95 (gR h95 a0 6) (ix (2 : Int32))))]) (rest := []) O ci_6 rfl dX11_write_108 ml_X11_228 im_yX6_putNumber se_yX6_putNumber ini_X6 co_yX6_putNumber yo_yX6_putNumber c108 rfl rfl (Nat.le_of_ble_eq_true rfl) ⟨by decide, by decide, by decide, by decide⟩ (okX6_putNumber hw) (k_V fun h108 hw => ?_)
  refine g_aload_n O dX11_write_111 rfl ?_
  refine g_aload_n O dX11_write_112 rfl ?_
  refine gf_X11_scroll O dX11_write_113 fl_X11_44 c65 ?_
  obtain ⟨c116, hw⟩ := hw
  refine gf_X6_count O dX11_write_116 fl_X11_231 c116 ?_
  refine g_callV (As := [vi ((gI h108 (gR h108 a0 5) 1))]) (rest := []) O ci_11 rfl dX11_write_119 ml_X11_109 im_yX11_answer se_yX11_answer ini_X11 co_yX11_answer yo_yX11_answer c65 rfl rfl (Nat.le_of_ble_eq_true rfl) ⟨by decide, by decide, by decide, by decide⟩ (okX11_answer hw) (k_I fun r119 h119 hw => ?_)
  exact g_ireturn O dX11_write_122 ⟨rfl, rfl, _, rfl, hw⟩
theorem okX11_write {E : Ev} {S : Sh} {Z : Option Nat} {Q : Int32 → Hp → Prop} {h : Hp} {a0 : Nat} (hw : wX11_write S (fun i => E.2.2.2.2.1 i + 1) h a0 Q) : Ct E yX11_write cX11_write 1 (some .int) 8 303 0 0 S Z h [vr a0] (qI S Z Q) := by
  refine Ct.of (by decide) (lc := [some (vr a0)]) (Nat.le_of_ble_eq_true rfl) rfl (fun X O => ?_)
  unfold wX11_write at hw
  refine g_aload_n O dX11_write_0 rfl ?_
  refine g_aload_n O dX11_write_1 rfl ?_
  obtain ⟨c2, hw⟩ := hw
  refine gf_X11_shownMachine O dX11_write_2 fl_X11_66 c2 ?_
  refine g_aload_n O dX11_write_5 rfl ?_
  refine gf_X11_shownCase O dX11_write_6 fl_X11_48 c2 ?_
  refine g_iconst O dX11_write_9 kv_1 ?_
  obtain ⟨c10, hw⟩ := hw
  refine g_iaload O dX11_write_10 c10.1 c10.2 ?_
  refine g_callV (As := [vi (gI h a0 10), vi ((gI h (gR h a0 6) (ix (1 : Int32))))]) (rest := []) O ci_11 rfl dX11_write_11 ml_X11_148 im_yX11_isState se_yX11_isState ini_X11 co_yX11_isState yo_yX11_isState c2 rfl rfl (Nat.le_of_ble_eq_true rfl) ⟨by decide, by decide, by decide, by decide⟩ (okX11_isState hw) (k_I fun r11 h11 hw => ?_)
  refine g_if_ne (tgt := 23) O dX11_write_14 rfl (fun q14 => ?_) (fun q14 => ?_)
  · have hw := hw.1 q14
    refine g_aload_n O dX11_write_23 rfl ?_
    refine gf_X11_scroll O dX11_write_24 fl_X11_44 c2 ?_
    obtain ⟨c27, hw⟩ := hw
    refine g_callV (As := []) (rest := []) O ci_6 rfl dX11_write_27 ml_X11_215 im_yX6_clear se_yX6_clear ini_X6 co_yX6_clear yo_yX6_clear c27 rfl rfl (Nat.le_of_ble_eq_true rfl) ⟨by decide, by decide, by decide, by decide⟩ (okX6_clear hw) (k_V fun h27 hw => ?_)
    refine g_aload_n O dX11_write_30 rfl ?_
    refine gf_X11_shownMachine O dX11_write_31 fl_X11_66 c2 ?_
    refine g_if_le (tgt := 64) O dX11_write_34 rfl (fun q34 => ?_) (fun q34 => ?_)
    · have hw := hw.1 q34
      exact okX11_write_j64 O hw
    · have hw := hw.2 q34
      refine g_aload_n O dX11_write_37 rfl ?_
      refine gf_X11_scroll O dX11_write_38 fl_X11_44 c2 ?_
      refine g_aload_n O dX11_write_41 rfl ?_
      refine gf_X11_model O dX11_write_42 fl_X11_55 c2 ?_
      obtain ⟨c45, hw⟩ := hw
      refine gf_X3_machines O dX11_write_45 fl_X11_116 c45 ?_
      refine g_aload_n O dX11_write_48 rfl ?_
      refine gf_X11_shownMachine O dX11_write_49 fl_X11_66 c2 ?_
      refine g_iconst O dX11_write_52 kv_1 ?_
      refine g_isub O dX11_write_53 ?_
      obtain ⟨c54, hw⟩ := hw
      refine g_aaload (t := 1) (C := "FinerSteps$Machine") O rfl dX11_write_54 c54.1 c54.2 ?_
      refine g_aload_n O dX11_write_55 rfl ?_
      refine gf_X11_shownCase O dX11_write_56 fl_X11_48 c2 ?_
      refine g_iconst O dX11_write_59 kv_0 ?_
      obtain ⟨c60, hw⟩ := hw
      refine g_iaload O dX11_write_60 c60.1 c60.2 ?_
      obtain ⟨c61, hw⟩ := hw
      refine g_callV (As := [vr ((gR h27 ((gR h27 (gR h27 a0 7) 0)) (ix (((gI h27 a0 10) - (1 : Int32)))))), vi ((gI h27 (gR h27 a0 6) (ix (0 : Int32))))]) (rest := []) O ci_6 rfl dX11_write_61 ml_X11_218 im_yX6_putState se_yX6_putState ini_X6 co_yX6_putState yo_yX6_putState c61 rfl rfl (Nat.le_of_ble_eq_true rfl) ⟨by decide, by decide, by decide, by decide⟩ (okX6_putState hw) (k_V fun h61 hw => ?_)
      exact okX11_write_j64 O hw
  · have hw := hw.2 q14
    refine g_aload_n O dX11_write_17 rfl ?_
    refine g_iconst O dX11_write_18 kv_5 ?_
    refine g_callV (As := [vi (5 : Int32)]) (rest := []) O ci_11 rfl dX11_write_19 ml_X11_82 im_yX11_refuse se_yX11_refuse ini_X11 co_yX11_refuse yo_yX11_refuse c2 rfl rfl (Nat.le_of_ble_eq_true rfl) ⟨by decide, by decide, by decide, by decide⟩ (okX11_refuse hw) (k_I fun r19 h19 hw => ?_)
    exact g_ireturn O dX11_write_22 ⟨rfl, rfl, _, rfl, hw⟩
theorem dX12_good_0 : decode cX12_good 0 = .ok (.aload_n 0, 1) := by decide +kernel
theorem dX12_good_1 : decode cX12_good 1 = .ok (.iconst 0, 1) := by decide +kernel
theorem dX12_good_2 : decode cX12_good 2 = .ok (.putfield 124, 3) := by decide +kernel
theorem dX12_good_5 : decode cX12_good 5 = .ok (.aload_n 0, 1) := by decide +kernel
theorem dX12_good_6 : decode cX12_good 6 = .ok (.iconst (-1), 1) := by decide +kernel
theorem dX12_good_7 : decode cX12_good 7 = .ok (.putfield 9, 3) := by decide +kernel
theorem dX12_good_10 : decode cX12_good 10 = .ok (.iload_n 1, 1) := by decide +kernel
theorem dX12_good_11 : decode cX12_good 11 = .ok (.ireturn, 1) := by decide +kernel
theorem okX12_good {E : Ev} {S : Sh} {Z : Option Nat} {Q : Int32 → Hp → Prop} {h : Hp} {a0 : Nat} {x1 : Int32} (hw : wX12_good S h a0 x1 Q) : Ct E yX12_good cX12_good 2 (some .int) 1 24 0 0 S Z h [vr a0, vi x1] (qI S Z Q) := by
  refine Ct.of (by decide) (lc := [some (vr a0), some (vi x1)]) (Nat.le_of_ble_eq_true rfl) rfl (fun X O => ?_)
  unfold wX12_good at hw
  refine g_aload_n O dX12_good_0 rfl ?_
  refine g_iconst O dX12_good_1 kv_0 ?_
  obtain ⟨c2, hw⟩ := hw
  refine pf_X12_trouble O dX12_good_2 fl_X12_124 c2 ?_
  refine g_nmH (fun h2 e2 => ?_)
  have hw := hw h2 e2
  refine g_aload_n O dX12_good_5 rfl ?_
  refine g_iconst O dX12_good_6 kv_m1 ?_
  refine pf_X12_wrongAt O dX12_good_7 fl_X12_9 c2 ?_
  refine g_iload_n O dX12_good_10 rfl ?_
  exact g_ireturn O dX12_good_11 ⟨rfl, rfl, _, rfl, hw⟩
theorem dX12_in_0 : decode cX12_in 0 = .ok (.iload_n 0, 1) := by decide +kernel
theorem dX12_in_1 : decode cX12_in 1 = .ok (.iload_n 1, 1) := by decide +kernel
theorem dX12_in_2 : decode cX12_in 2 = .ok (.if_icmp .lt 12, 3) := by decide +kernel
theorem dX12_in_5 : decode cX12_in 5 = .ok (.iload_n 0, 1) := by decide +kernel
theorem dX12_in_6 : decode cX12_in 6 = .ok (.iload_n 2, 1) := by decide +kernel
theorem dX12_in_7 : decode cX12_in 7 = .ok (.if_icmp .gt 7, 3) := by decide +kernel
theorem dX12_in_10 : decode cX12_in 10 = .ok (.iconst 1, 1) := by decide +kernel
theorem dX12_in_11 : decode cX12_in 11 = .ok (.goto 4, 3) := by decide +kernel
theorem dX12_in_14 : decode cX12_in 14 = .ok (.iconst 0, 1) := by decide +kernel
theorem dX12_in_15 : decode cX12_in 15 = .ok (.ireturn, 1) := by decide +kernel
theorem okX12_in {E : Ev} {S : Sh} {Z : Option Nat} {Q : Int32 → Hp → Prop} {h : Hp} {x0 : Int32} {x1 : Int32} {x2 : Int32} (hw : wX12_in S h x0 x1 x2 Q) : Ct E yX12_in cX12_in 3 (some .boolean) 1 24 0 0 S Z h [vi x0, vi x1, vi x2] (qI S Z Q) := by
  refine Ct.of (by decide) (lc := [some (vi x0), some (vi x1), some (vi x2)]) (Nat.le_of_ble_eq_true rfl) rfl (fun X O => ?_)
  unfold wX12_in at hw
  refine g_iload_n O dX12_in_0 rfl ?_
  refine g_iload_n O dX12_in_1 rfl ?_
  refine g_icmp_lt (tgt := 14) O dX12_in_2 rfl (fun q2 => ?_) (fun q2 => ?_)
  · have hw := hw.1 q2
    refine g_iconst O dX12_in_14 kv_0 ?_
    exact g_zreturn O dX12_in_15 (by decide) ⟨rfl, rfl, _, rfl, hw⟩
  · have hw := hw.2 q2
    refine g_iload_n O dX12_in_5 rfl ?_
    refine g_iload_n O dX12_in_6 rfl ?_
    refine g_icmp_gt (tgt := 14) O dX12_in_7 rfl (fun q7 => ?_) (fun q7 => ?_)
    · have hw := hw.1 q7
      refine g_iconst O dX12_in_14 kv_0 ?_
      exact g_zreturn O dX12_in_15 (by decide) ⟨rfl, rfl, _, rfl, hw⟩
    · have hw := hw.2 q7
      refine g_iconst O dX12_in_10 kv_1 ?_
      refine g_goto (tgt := 15) O dX12_in_11 rfl ?_
      exact g_zreturn O dX12_in_15 (by decide) ⟨rfl, rfl, _, rfl, hw⟩
theorem dX12_isMachine_0 : decode cX12_isMachine 0 = .ok (.iload_n 1, 1) := by decide +kernel
theorem dX12_isMachine_1 : decode cX12_isMachine 1 = .ok (.iconst 0, 1) := by decide +kernel
theorem dX12_isMachine_2 : decode cX12_isMachine 2 = .ok (.aload_n 0, 1) := by decide +kernel
theorem dX12_isMachine_3 : decode cX12_isMachine 3 = .ok (.getfield 347, 3) := by decide +kernel
theorem dX12_isMachine_6 : decode cX12_isMachine 6 = .ok (.iconst 1, 1) := by decide +kernel
theorem dX12_isMachine_7 : decode cX12_isMachine 7 = .ok (.isub, 1) := by decide +kernel
theorem dX12_isMachine_8 : decode cX12_isMachine 8 = .ok (.invokestatic 142, 3) := by decide +kernel
theorem dX12_isMachine_11 : decode cX12_isMachine 11 = .ok (.ireturn, 1) := by decide +kernel
theorem okX12_isMachine {E : Ev} {S : Sh} {Z : Option Nat} {Q : Int32 → Hp → Prop} {h : Hp} {a0 : Nat} {x1 : Int32} (hw : wX12_isMachine S h a0 x1 Q) : Ct E yX12_isMachine cX12_isMachine 2 (some .boolean) 2 46 0 0 S Z h [vr a0, vi x1] (qI S Z Q) := by
  refine Ct.of (by decide) (lc := [some (vr a0), some (vi x1)]) (Nat.le_of_ble_eq_true rfl) rfl (fun X O => ?_)
  unfold wX12_isMachine at hw
  refine g_iload_n O dX12_isMachine_0 rfl ?_
  refine g_iconst O dX12_isMachine_1 kv_0 ?_
  refine g_aload_n O dX12_isMachine_2 rfl ?_
  obtain ⟨c3, hw⟩ := hw
  refine gf_X12_machineMany O dX12_isMachine_3 fl_X12_347 c3 ?_
  refine g_iconst O dX12_isMachine_6 kv_1 ?_
  refine g_isub O dX12_isMachine_7 ?_
  refine g_callS (As := [vi x1, vi (0 : Int32), vi (((gI h a0 37) - (1 : Int32)))]) (rest := []) O dX12_isMachine_8 ml_X12_142 st_yX12_in ini_X12 co_yX12_in yo_yX12_in rfl rfl (Nat.le_of_ble_eq_true rfl) ⟨by decide, by decide, by decide, by decide⟩ (okX12_in hw) (k_I fun r8 h8 hw => ?_)
  obtain ⟨c11z, hw⟩ := hw
  exact g_zreturn O dX12_isMachine_11 c11z ⟨rfl, rfl, _, rfl, hw⟩
theorem dX12_isEvent_0 : decode cX12_isEvent 0 = .ok (.aload_n 0, 1) := by decide +kernel
theorem dX12_isEvent_1 : decode cX12_isEvent 1 = .ok (.iload_n 1, 1) := by decide +kernel
theorem dX12_isEvent_2 : decode cX12_isEvent 2 = .ok (.invokevirtual 389, 3) := by decide +kernel
theorem dX12_isEvent_5 : decode cX12_isEvent 5 = .ok (.ifCond .eq 23, 3) := by decide +kernel
theorem dX12_isEvent_8 : decode cX12_isEvent 8 = .ok (.iload_n 2, 1) := by decide +kernel
theorem dX12_isEvent_9 : decode cX12_isEvent 9 = .ok (.iconst 0, 1) := by decide +kernel
theorem dX12_isEvent_10 : decode cX12_isEvent 10 = .ok (.aload_n 0, 1) := by decide +kernel
theorem dX12_isEvent_11 : decode cX12_isEvent 11 = .ok (.getfield 33, 3) := by decide +kernel
theorem dX12_isEvent_14 : decode cX12_isEvent 14 = .ok (.iload_n 1, 1) := by decide +kernel
theorem dX12_isEvent_15 : decode cX12_isEvent 15 = .ok (.iaload, 1) := by decide +kernel
theorem dX12_isEvent_16 : decode cX12_isEvent 16 = .ok (.iconst 1, 1) := by decide +kernel
theorem dX12_isEvent_17 : decode cX12_isEvent 17 = .ok (.isub, 1) := by decide +kernel
theorem dX12_isEvent_18 : decode cX12_isEvent 18 = .ok (.invokestatic 142, 3) := by decide +kernel
theorem dX12_isEvent_21 : decode cX12_isEvent 21 = .ok (.ifCond .eq 7, 3) := by decide +kernel
theorem dX12_isEvent_24 : decode cX12_isEvent 24 = .ok (.iconst 1, 1) := by decide +kernel
theorem dX12_isEvent_25 : decode cX12_isEvent 25 = .ok (.goto 4, 3) := by decide +kernel
theorem dX12_isEvent_28 : decode cX12_isEvent 28 = .ok (.iconst 0, 1) := by decide +kernel
theorem dX12_isEvent_29 : decode cX12_isEvent 29 = .ok (.ireturn, 1) := by decide +kernel
theorem okX12_isEvent {E : Ev} {S : Sh} {Z : Option Nat} {Q : Int32 → Hp → Prop} {h : Hp} {a0 : Nat} {x1 : Int32} {x2 : Int32} (hw : wX12_isEvent S h a0 x1 x2 Q) : Ct E yX12_isEvent cX12_isEvent 3 (some .boolean) 3 67 0 0 S Z h [vr a0, vi x1, vi x2] (qI S Z Q) := by
  refine Ct.of (by decide) (lc := [some (vr a0), some (vi x1), some (vi x2)]) (Nat.le_of_ble_eq_true rfl) rfl (fun X O => ?_)
  unfold wX12_isEvent at hw
  refine g_aload_n O dX12_isEvent_0 rfl ?_
  refine g_iload_n O dX12_isEvent_1 rfl ?_
  obtain ⟨c2, hw⟩ := hw
  refine g_callV (As := [vi x1]) (rest := []) O ci_12 rfl dX12_isEvent_2 ml_X12_389 im_yX12_isMachine se_yX12_isMachine ini_X12 co_yX12_isMachine yo_yX12_isMachine c2 rfl rfl (Nat.le_of_ble_eq_true rfl) ⟨by decide, by decide, by decide, by decide⟩ (okX12_isMachine hw) (k_I fun r2 h2 hw => ?_)
  refine g_if_eq (tgt := 28) O dX12_isEvent_5 rfl (fun q5 => ?_) (fun q5 => ?_)
  · have hw := hw.1 q5
    refine g_iconst O dX12_isEvent_28 kv_0 ?_
    exact g_zreturn O dX12_isEvent_29 (by decide) ⟨rfl, rfl, _, rfl, hw⟩
  · have hw := hw.2 q5
    refine g_iload_n O dX12_isEvent_8 rfl ?_
    refine g_iconst O dX12_isEvent_9 kv_0 ?_
    refine g_aload_n O dX12_isEvent_10 rfl ?_
    refine gf_X12_eventMany O dX12_isEvent_11 fl_X12_33 c2 ?_
    refine g_iload_n O dX12_isEvent_14 rfl ?_
    obtain ⟨c15, hw⟩ := hw
    refine g_iaload O dX12_isEvent_15 c15.1 c15.2 ?_
    refine g_iconst O dX12_isEvent_16 kv_1 ?_
    refine g_isub O dX12_isEvent_17 ?_
    refine g_callS (As := [vi x2, vi (0 : Int32), vi (((gI h2 (gR h2 a0 19) (ix x1)) - (1 : Int32)))]) (rest := []) O dX12_isEvent_18 ml_X12_142 st_yX12_in ini_X12 co_yX12_in yo_yX12_in rfl rfl (Nat.le_of_ble_eq_true rfl) ⟨by decide, by decide, by decide, by decide⟩ (okX12_in hw) (k_I fun r18 h18 hw => ?_)
    refine g_if_eq (tgt := 28) O dX12_isEvent_21 rfl (fun q21 => ?_) (fun q21 => ?_)
    · have hw := hw.1 q21
      refine g_iconst O dX12_isEvent_28 kv_0 ?_
      exact g_zreturn O dX12_isEvent_29 (by decide) ⟨rfl, rfl, _, rfl, hw⟩
    · have hw := hw.2 q21
      refine g_iconst O dX12_isEvent_24 kv_1 ?_
      refine g_goto (tgt := 29) O dX12_isEvent_25 rfl ?_
      exact g_zreturn O dX12_isEvent_29 (by decide) ⟨rfl, rfl, _, rfl, hw⟩
theorem dX12_refused_0 : decode cX12_refused 0 = .ok (.aload_n 0, 1) := by decide +kernel
theorem dX12_refused_1 : decode cX12_refused 1 = .ok (.iload_n 1, 1) := by decide +kernel
theorem dX12_refused_2 : decode cX12_refused 2 = .ok (.putfield 124, 3) := by decide +kernel
theorem dX12_refused_5 : decode cX12_refused 5 = .ok (.aload_n 0, 1) := by decide +kernel
theorem dX12_refused_6 : decode cX12_refused 6 = .ok (.iconst (-1), 1) := by decide +kernel
theorem dX12_refused_7 : decode cX12_refused 7 = .ok (.putfield 9, 3) := by decide +kernel
theorem dX12_refused_10 : decode cX12_refused 10 = .ok (.iconst (-1), 1) := by decide +kernel
theorem dX12_refused_11 : decode cX12_refused 11 = .ok (.ireturn, 1) := by decide +kernel
theorem okX12_refused {E : Ev} {S : Sh} {Z : Option Nat} {Q : Int32 → Hp → Prop} {h : Hp} {a0 : Nat} {x1 : Int32} (hw : wX12_refused S h a0 x1 Q) : Ct E yX12_refused cX12_refused 2 (some .int) 1 24 0 0 S Z h [vr a0, vi x1] (qI S Z Q) := by
  refine Ct.of (by decide) (lc := [some (vr a0), some (vi x1)]) (Nat.le_of_ble_eq_true rfl) rfl (fun X O => ?_)
  unfold wX12_refused at hw
  refine g_aload_n O dX12_refused_0 rfl ?_
  refine g_iload_n O dX12_refused_1 rfl ?_
  obtain ⟨c2, hw⟩ := hw
  refine pf_X12_trouble O dX12_refused_2 fl_X12_124 c2 ?_
  refine g_nmH (fun h2 e2 => ?_)
  have hw := hw h2 e2
  refine g_aload_n O dX12_refused_5 rfl ?_
  refine g_iconst O dX12_refused_6 kv_m1 ?_
  refine pf_X12_wrongAt O dX12_refused_7 fl_X12_9 c2 ?_
  refine g_iconst O dX12_refused_10 kv_m1 ?_
  exact g_ireturn O dX12_refused_11 ⟨rfl, rfl, _, rfl, hw⟩
theorem dX12_aside_0 : decode cX12_aside 0 = .ok (.aload_n 0, 1) := by decide +kernel
theorem dX12_aside_1 : decode cX12_aside 1 = .ok (.iconst 0, 1) := by decide +kernel
theorem dX12_aside_2 : decode cX12_aside 2 = .ok (.putfield 121, 3) := by decide +kernel
theorem dX12_aside_5 : decode cX12_aside 5 = .ok (.aload_n 0, 1) := by decide +kernel
theorem dX12_aside_6 : decode cX12_aside 6 = .ok (.iload_n 1, 1) := by decide +kernel
theorem dX12_aside_7 : decode cX12_aside 7 = .ok (.iload_n 2, 1) := by decide +kernel
theorem dX12_aside_8 : decode cX12_aside 8 = .ok (.invokevirtual 402, 3) := by decide +kernel
theorem dX12_aside_11 : decode cX12_aside 11 = .ok (.ifCond .ne 9, 3) := by decide +kernel
theorem dX12_aside_14 : decode cX12_aside 14 = .ok (.aload_n 0, 1) := by decide +kernel
theorem dX12_aside_15 : decode cX12_aside 15 = .ok (.iconst 1, 1) := by decide +kernel
theorem dX12_aside_16 : decode cX12_aside 16 = .ok (.invokevirtual 350, 3) := by decide +kernel
theorem dX12_aside_19 : decode cX12_aside 19 = .ok (.ireturn, 1) := by decide +kernel
theorem dX12_aside_20 : decode cX12_aside 20 = .ok (.aload_n 0, 1) := by decide +kernel
theorem dX12_aside_21 : decode cX12_aside 21 = .ok (.getfield 84, 3) := by decide +kernel
theorem dX12_aside_24 : decode cX12_aside 24 = .ok (.iconst 4, 1) := by decide +kernel
theorem dX12_aside_25 : decode cX12_aside 25 = .ok (.iload_n 1, 1) := by decide +kernel
theorem dX12_aside_26 : decode cX12_aside 26 = .ok (.imul, 1) := by decide +kernel
theorem dX12_aside_27 : decode cX12_aside 27 = .ok (.iload_n 2, 1) := by decide +kernel
theorem dX12_aside_28 : decode cX12_aside 28 = .ok (.iadd, 1) := by decide +kernel
theorem dX12_aside_29 : decode cX12_aside 29 = .ok (.baload, 1) := by decide +kernel
theorem dX12_aside_30 : decode cX12_aside 30 = .ok (.iload_n 3, 1) := by decide +kernel
theorem dX12_aside_31 : decode cX12_aside 31 = .ok (.if_icmp .ne 9, 3) := by decide +kernel
theorem dX12_aside_34 : decode cX12_aside 34 = .ok (.aload_n 0, 1) := by decide +kernel
theorem dX12_aside_35 : decode cX12_aside 35 = .ok (.iconst 5, 1) := by decide +kernel
theorem dX12_aside_36 : decode cX12_aside 36 = .ok (.invokevirtual 350, 3) := by decide +kernel
theorem dX12_aside_39 : decode cX12_aside 39 = .ok (.ireturn, 1) := by decide +kernel
theorem dX12_aside_40 : decode cX12_aside 40 = .ok (.aload_n 0, 1) := by decide +kernel
theorem dX12_aside_41 : decode cX12_aside 41 = .ok (.getfield 84, 3) := by decide +kernel
theorem dX12_aside_44 : decode cX12_aside 44 = .ok (.iconst 4, 1) := by decide +kernel
theorem dX12_aside_45 : decode cX12_aside 45 = .ok (.iload_n 1, 1) := by decide +kernel
theorem dX12_aside_46 : decode cX12_aside 46 = .ok (.imul, 1) := by decide +kernel
theorem dX12_aside_47 : decode cX12_aside 47 = .ok (.iload_n 2, 1) := by decide +kernel
theorem dX12_aside_48 : decode cX12_aside 48 = .ok (.iadd, 1) := by decide +kernel
theorem dX12_aside_49 : decode cX12_aside 49 = .ok (.iload_n 3, 1) := by decide +kernel
theorem dX12_aside_50 : decode cX12_aside 50 = .ok (.bastore, 1) := by decide +kernel
theorem dX12_aside_51 : decode cX12_aside 51 = .ok (.iconst 0, 1) := by decide +kernel
theorem dX12_aside_52 : decode cX12_aside 52 = .ok (.istore 4, 2) := by decide +kernel
theorem dX12_aside_54 : decode cX12_aside 54 = .ok (.iconst 0, 1) := by decide +kernel
theorem dX12_aside_55 : decode cX12_aside 55 = .ok (.istore 5, 2) := by decide +kernel
theorem dX12_aside_57 : decode cX12_aside 57 = .ok (.iload 5, 2) := by decide +kernel
theorem dX12_aside_59 : decode cX12_aside 59 = .ok (.aload_n 0, 1) := by decide +kernel
theorem dX12_aside_60 : decode cX12_aside 60 = .ok (.getfield 33, 3) := by decide +kernel
theorem dX12_aside_63 : decode cX12_aside 63 = .ok (.iload_n 1, 1) := by decide +kernel
theorem dX12_aside_64 : decode cX12_aside 64 = .ok (.iaload, 1) := by decide +kernel
theorem dX12_aside_65 : decode cX12_aside 65 = .ok (.if_icmp .ge 33, 3) := by decide +kernel
theorem dX12_aside_68 : decode cX12_aside 68 = .ok (.iload 4, 2) := by decide +kernel
theorem dX12_aside_70 : decode cX12_aside 70 = .ok (.aload_n 0, 1) := by decide +kernel
theorem dX12_aside_71 : decode cX12_aside 71 = .ok (.getfield 84, 3) := by decide +kernel
theorem dX12_aside_74 : decode cX12_aside 74 = .ok (.iconst 4, 1) := by decide +kernel
theorem dX12_aside_75 : decode cX12_aside 75 = .ok (.iload_n 1, 1) := by decide +kernel
theorem dX12_aside_76 : decode cX12_aside 76 = .ok (.imul, 1) := by decide +kernel
theorem dX12_aside_77 : decode cX12_aside 77 = .ok (.iload 5, 2) := by decide +kernel
theorem dX12_aside_79 : decode cX12_aside 79 = .ok (.iadd, 1) := by decide +kernel
theorem dX12_aside_80 : decode cX12_aside 80 = .ok (.baload, 1) := by decide +kernel
theorem dX12_aside_81 : decode cX12_aside 81 = .ok (.ifCond .eq 7, 3) := by decide +kernel
theorem dX12_aside_84 : decode cX12_aside 84 = .ok (.iconst 1, 1) := by decide +kernel
theorem dX12_aside_85 : decode cX12_aside 85 = .ok (.goto 4, 3) := by decide +kernel
theorem dX12_aside_88 : decode cX12_aside 88 = .ok (.iconst 0, 1) := by decide +kernel
theorem dX12_aside_89 : decode cX12_aside 89 = .ok (.iadd, 1) := by decide +kernel
theorem dX12_aside_90 : decode cX12_aside 90 = .ok (.istore 4, 2) := by decide +kernel
theorem dX12_aside_92 : decode cX12_aside 92 = .ok (.iinc 5 1, 3) := by decide +kernel
theorem dX12_aside_95 : decode cX12_aside 95 = .ok (.goto (-38), 3) := by decide +kernel
theorem dX12_aside_98 : decode cX12_aside 98 = .ok (.aload_n 0, 1) := by decide +kernel
theorem dX12_aside_99 : decode cX12_aside 99 = .ok (.iload 4, 2) := by decide +kernel
theorem dX12_aside_101 : decode cX12_aside 101 = .ok (.invokevirtual 365, 3) := by decide +kernel
theorem dX12_aside_104 : decode cX12_aside 104 = .ok (.ireturn, 1) := by decide +kernel
theorem okX12_aside_57 {E : Ev} {X : Cx} {S : Sh} {Z : Option Nat} {Q : Int32 → Hp → Prop} {a0 : Nat} {x1 : Int32} (O : Ok E X yX12_aside cX12_aside 6 (some .int) 4 89 0 0 (qI S Z Q)) : ∀ (n : Nat) (h : Hp) (x4 : Int32) (x5 : Int32), wX12_aside_57 S a0 x1 Q n h x4 x5 → G E X 0 0 S Z h 57 [some (vr a0), some (vi x1), none, none, some (vi x4), some (vi x5)] [] := by
  intro n
  induction n with
  | zero => intro h x4 x5 hw; exact hw.elim
  | succ n hB57 =>
    intro h x4 x5 hw
    have hw : wX12_aside_57b S a0 x1 Q (wX12_aside_57 S a0 x1 Q n) h x4 x5 := hw
    unfold wX12_aside_57b at hw
    refine g_iload O dX12_aside_57 rfl ?_
    refine g_aload_n O dX12_aside_59 rfl ?_
    obtain ⟨c60, hw⟩ := hw
    refine gf_X12_eventMany O dX12_aside_60 fl_X12_33 c60 ?_
    refine g_iload_n O dX12_aside_63 rfl ?_
    obtain ⟨c64, hw⟩ := hw
    refine g_iaload O dX12_aside_64 c64.1 c64.2 ?_
    refine g_icmp_ge (tgt := 98) O dX12_aside_65 rfl (fun q65 => ?_) (fun q65 => ?_)
    · have hw := hw.1 q65
      refine g_aload_n O dX12_aside_98 rfl ?_
      refine g_iload O dX12_aside_99 rfl ?_
      refine g_callV (As := [vi x4]) (rest := []) O ci_12 rfl dX12_aside_101 ml_X12_365 im_yX12_good se_yX12_good ini_X12 co_yX12_good yo_yX12_good c60 rfl rfl (Nat.le_of_ble_eq_true rfl) ⟨by decide, by decide, by decide, by decide⟩ (okX12_good hw) (k_I fun r101 h101 hw => ?_)
      exact g_ireturn O dX12_aside_104 ⟨rfl, rfl, _, rfl, hw⟩
    · have hw := hw.2 q65
      refine g_iload O dX12_aside_68 rfl ?_
      refine g_aload_n O dX12_aside_70 rfl ?_
      refine gf_X12_isAside O dX12_aside_71 fl_X12_84 c60 ?_
      refine g_iconst O dX12_aside_74 kv_4 ?_
      refine g_iload_n O dX12_aside_75 rfl ?_
      refine g_imul O dX12_aside_76 ?_
      refine g_iload O dX12_aside_77 rfl ?_
      refine g_iadd O dX12_aside_79 ?_
      obtain ⟨c80, hw⟩ := hw
      refine g_zaload O dX12_aside_80 c80.1 c80.2 ?_
      refine g_if_eq (tgt := 88) O dX12_aside_81 rfl (fun q81 => ?_) (fun q81 => ?_)
      · have hw := hw.1 q81
        refine g_iconst O dX12_aside_88 kv_0 ?_
        refine g_iadd O dX12_aside_89 ?_
        refine g_istore (lc' := [some (vr a0), some (vi x1), none, none, some (vi (x4 + (0 : Int32))), some (vi x5)]) O dX12_aside_90 rfl (Nat.le_of_ble_eq_true rfl) rfl ?_
        refine g_iinc (lc' := [some (vr a0), some (vi x1), none, none, some (vi (x4 + (0 : Int32))), some (vi (x5 + (1 : Int32)))]) O dX12_aside_92 rfl kv_1 rfl rfl ?_
        refine g_goto (tgt := 57) O dX12_aside_95 rfl ?_
        exact hB57 _ _ _ hw
      · have hw := hw.2 q81
        refine g_iconst O dX12_aside_84 kv_1 ?_
        refine g_goto (tgt := 89) O dX12_aside_85 rfl ?_
        refine g_iadd O dX12_aside_89 ?_
        refine g_istore (lc' := [some (vr a0), some (vi x1), none, none, some (vi (x4 + (1 : Int32))), some (vi x5)]) O dX12_aside_90 rfl (Nat.le_of_ble_eq_true rfl) rfl ?_
        refine g_iinc (lc' := [some (vr a0), some (vi x1), none, none, some (vi (x4 + (1 : Int32))), some (vi (x5 + (1 : Int32)))]) O dX12_aside_92 rfl kv_1 rfl rfl ?_
        refine g_goto (tgt := 57) O dX12_aside_95 rfl ?_
        exact hB57 _ _ _ hw
theorem okX12_aside {E : Ev} {S : Sh} {Z : Option Nat} {Q : Int32 → Hp → Prop} {h : Hp} {a0 : Nat} {x1 : Int32} {x2 : Int32} {x3 : Int32} (hw : wX12_aside S h a0 x1 x2 x3 Q) : Ct E yX12_aside cX12_aside 6 (some .int) 4 89 0 0 S Z h [vr a0, vi x1, vi x2, vi x3] (qI S Z Q) := by
  refine Ct.of (by decide) (lc := [some (vr a0), some (vi x1), some (vi x2), some (vi x3), none, none]) (Nat.le_of_ble_eq_true rfl) rfl (fun X O => ?_)
  unfold wX12_aside at hw
  refine g_aload_n O dX12_aside_0 rfl ?_
  refine g_iconst O dX12_aside_1 kv_0 ?_
  obtain ⟨c2, hw⟩ := hw
  refine pf_X12_thrown O dX12_aside_2 fl_X12_121 c2 ?_
  refine g_aload_n O dX12_aside_5 rfl ?_
  refine g_iload_n O dX12_aside_6 rfl ?_
  refine g_iload_n O dX12_aside_7 rfl ?_
  refine g_callV (As := [vi x1, vi x2]) (rest := []) O ci_12 rfl dX12_aside_8 ml_X12_402 im_yX12_isEvent se_yX12_isEvent ini_X12 co_yX12_isEvent yo_yX12_isEvent c2 rfl rfl (Nat.le_of_ble_eq_true rfl) ⟨by decide, by decide, by decide, by decide⟩ (okX12_isEvent hw) (k_I fun r8 h8 hw => ?_)
  refine g_if_ne (tgt := 20) O dX12_aside_11 rfl (fun q11 => ?_) (fun q11 => ?_)
  · have hw := hw.1 q11
    refine g_aload_n O dX12_aside_20 rfl ?_
    refine gf_X12_isAside O dX12_aside_21 fl_X12_84 c2 ?_
    refine g_iconst O dX12_aside_24 kv_4 ?_
    refine g_iload_n O dX12_aside_25 rfl ?_
    refine g_imul O dX12_aside_26 ?_
    refine g_iload_n O dX12_aside_27 rfl ?_
    refine g_iadd O dX12_aside_28 ?_
    obtain ⟨c29, hw⟩ := hw
    refine g_zaload O dX12_aside_29 c29.1 c29.2 ?_
    refine g_iload_n O dX12_aside_30 rfl ?_
    refine g_icmp_ne (tgt := 40) O dX12_aside_31 rfl (fun q31 => ?_) (fun q31 => ?_)
    · have hw := hw.1 q31
      refine g_aload_n O dX12_aside_40 rfl ?_
      refine gf_X12_isAside O dX12_aside_41 fl_X12_84 c2 ?_
      refine g_iconst O dX12_aside_44 kv_4 ?_
      refine g_iload_n O dX12_aside_45 rfl ?_
      refine g_imul O dX12_aside_46 ?_
      refine g_iload_n O dX12_aside_47 rfl ?_
      refine g_iadd O dX12_aside_48 ?_
      refine g_iload_n O dX12_aside_49 rfl ?_
      refine g_zastore O dX12_aside_50 c29.1 c29.2 ?_
      refine g_iconst O dX12_aside_51 kv_0 ?_
      refine g_istore (lc' := [some (vr a0), some (vi x1), some (vi x2), some (vi x3), some (vi (0 : Int32)), none]) O dX12_aside_52 rfl (Nat.le_of_ble_eq_true rfl) rfl ?_
      refine g_iconst O dX12_aside_54 kv_0 ?_
      refine g_istore (lc' := [some (vr a0), some (vi x1), some (vi x2), some (vi x3), some (vi (0 : Int32)), some (vi (0 : Int32))]) O dX12_aside_55 rfl (Nat.le_of_ble_eq_true rfl) rfl ?_
      refine g_mask [true, true, false, false, true, true] rfl rfl ?_
      obtain ⟨n57, hw⟩ := hw
      exact okX12_aside_57 O n57 _ _ _ hw
    · have hw := hw.2 q31
      refine g_aload_n O dX12_aside_34 rfl ?_
      refine g_iconst O dX12_aside_35 kv_5 ?_
      refine g_callV (As := [vi (5 : Int32)]) (rest := []) O ci_12 rfl dX12_aside_36 ml_X12_350 im_yX12_refused se_yX12_refused ini_X12 co_yX12_refused yo_yX12_refused c2 rfl rfl (Nat.le_of_ble_eq_true rfl) ⟨by decide, by decide, by decide, by decide⟩ (okX12_refused hw) (k_I fun r36 h36 hw => ?_)
      exact g_ireturn O dX12_aside_39 ⟨rfl, rfl, _, rfl, hw⟩
  · have hw := hw.2 q11
    refine g_aload_n O dX12_aside_14 rfl ?_
    refine g_iconst O dX12_aside_15 kv_1 ?_
    refine g_callV (As := [vi (1 : Int32)]) (rest := []) O ci_12 rfl dX12_aside_16 ml_X12_350 im_yX12_refused se_yX12_refused ini_X12 co_yX12_refused yo_yX12_refused c2 rfl rfl (Nat.le_of_ble_eq_true rfl) ⟨by decide, by decide, by decide, by decide⟩ (okX12_refused hw) (k_I fun r16 h16 hw => ?_)
    exact g_ireturn O dX12_aside_19 ⟨rfl, rfl, _, rfl, hw⟩
theorem dX12_beginOf_0 : decode cX12_beginOf 0 = .ok (.iconst 0, 1) := by decide +kernel
theorem dX12_beginOf_1 : decode cX12_beginOf 1 = .ok (.istore_n 2, 1) := by decide +kernel
theorem dX12_beginOf_2 : decode cX12_beginOf 2 = .ok (.iconst 0, 1) := by decide +kernel
theorem dX12_beginOf_3 : decode cX12_beginOf 3 = .ok (.istore_n 3, 1) := by decide +kernel
theorem dX12_beginOf_4 : decode cX12_beginOf 4 = .ok (.iload_n 3, 1) := by decide +kernel
theorem dX12_beginOf_5 : decode cX12_beginOf 5 = .ok (.aload_n 0, 1) := by decide +kernel
theorem dX12_beginOf_6 : decode cX12_beginOf 6 = .ok (.getfield 27, 3) := by decide +kernel
theorem dX12_beginOf_9 : decode cX12_beginOf 9 = .ok (.iload_n 1, 1) := by decide +kernel
theorem dX12_beginOf_10 : decode cX12_beginOf 10 = .ok (.iaload, 1) := by decide +kernel
theorem dX12_beginOf_11 : decode cX12_beginOf 11 = .ok (.if_icmp .ge 57, 3) := by decide +kernel
theorem dX12_beginOf_14 : decode cX12_beginOf 14 = .ok (.iload_n 2, 1) := by decide +kernel
theorem dX12_beginOf_15 : decode cX12_beginOf 15 = .ok (.aload_n 0, 1) := by decide +kernel
theorem dX12_beginOf_16 : decode cX12_beginOf 16 = .ok (.getfield 48, 3) := by decide +kernel
theorem dX12_beginOf_19 : decode cX12_beginOf 19 = .ok (.iconst 3, 1) := by decide +kernel
theorem dX12_beginOf_20 : decode cX12_beginOf 20 = .ok (.iload_n 1, 1) := by decide +kernel
theorem dX12_beginOf_21 : decode cX12_beginOf 21 = .ok (.imul, 1) := by decide +kernel
theorem dX12_beginOf_22 : decode cX12_beginOf 22 = .ok (.iload_n 3, 1) := by decide +kernel
theorem dX12_beginOf_23 : decode cX12_beginOf 23 = .ok (.iadd, 1) := by decide +kernel
theorem dX12_beginOf_24 : decode cX12_beginOf 24 = .ok (.iaload, 1) := by decide +kernel
theorem dX12_beginOf_25 : decode cX12_beginOf 25 = .ok (.aload_n 0, 1) := by decide +kernel
theorem dX12_beginOf_26 : decode cX12_beginOf 26 = .ok (.getfield 45, 3) := by decide +kernel
theorem dX12_beginOf_29 : decode cX12_beginOf 29 = .ok (.iconst 3, 1) := by decide +kernel
theorem dX12_beginOf_30 : decode cX12_beginOf 30 = .ok (.iload_n 1, 1) := by decide +kernel
theorem dX12_beginOf_31 : decode cX12_beginOf 31 = .ok (.imul, 1) := by decide +kernel
theorem dX12_beginOf_32 : decode cX12_beginOf 32 = .ok (.iload_n 3, 1) := by decide +kernel
theorem dX12_beginOf_33 : decode cX12_beginOf 33 = .ok (.iadd, 1) := by decide +kernel
theorem dX12_beginOf_34 : decode cX12_beginOf 34 = .ok (.iaload, 1) := by decide +kernel
theorem dX12_beginOf_35 : decode cX12_beginOf 35 = .ok (.isub, 1) := by decide +kernel
theorem dX12_beginOf_36 : decode cX12_beginOf 36 = .ok (.iconst 1, 1) := by decide +kernel
theorem dX12_beginOf_37 : decode cX12_beginOf 37 = .ok (.iadd, 1) := by decide +kernel
theorem dX12_beginOf_38 : decode cX12_beginOf 38 = .ok (.imul, 1) := by decide +kernel
theorem dX12_beginOf_39 : decode cX12_beginOf 39 = .ok (.aload_n 0, 1) := by decide +kernel
theorem dX12_beginOf_40 : decode cX12_beginOf 40 = .ok (.getfield 51, 3) := by decide +kernel
theorem dX12_beginOf_43 : decode cX12_beginOf 43 = .ok (.iconst 3, 1) := by decide +kernel
theorem dX12_beginOf_44 : decode cX12_beginOf 44 = .ok (.iload_n 1, 1) := by decide +kernel
theorem dX12_beginOf_45 : decode cX12_beginOf 45 = .ok (.imul, 1) := by decide +kernel
theorem dX12_beginOf_46 : decode cX12_beginOf 46 = .ok (.iload_n 3, 1) := by decide +kernel
theorem dX12_beginOf_47 : decode cX12_beginOf 47 = .ok (.iadd, 1) := by decide +kernel
theorem dX12_beginOf_48 : decode cX12_beginOf 48 = .ok (.iaload, 1) := by decide +kernel
theorem dX12_beginOf_49 : decode cX12_beginOf 49 = .ok (.iadd, 1) := by decide +kernel
theorem dX12_beginOf_50 : decode cX12_beginOf 50 = .ok (.aload_n 0, 1) := by decide +kernel
theorem dX12_beginOf_51 : decode cX12_beginOf 51 = .ok (.getfield 45, 3) := by decide +kernel
theorem dX12_beginOf_54 : decode cX12_beginOf 54 = .ok (.iconst 3, 1) := by decide +kernel
theorem dX12_beginOf_55 : decode cX12_beginOf 55 = .ok (.iload_n 1, 1) := by decide +kernel
theorem dX12_beginOf_56 : decode cX12_beginOf 56 = .ok (.imul, 1) := by decide +kernel
theorem dX12_beginOf_57 : decode cX12_beginOf 57 = .ok (.iload_n 3, 1) := by decide +kernel
theorem dX12_beginOf_58 : decode cX12_beginOf 58 = .ok (.iadd, 1) := by decide +kernel
theorem dX12_beginOf_59 : decode cX12_beginOf 59 = .ok (.iaload, 1) := by decide +kernel
theorem dX12_beginOf_60 : decode cX12_beginOf 60 = .ok (.isub, 1) := by decide +kernel
theorem dX12_beginOf_61 : decode cX12_beginOf 61 = .ok (.istore_n 2, 1) := by decide +kernel
theorem dX12_beginOf_62 : decode cX12_beginOf 62 = .ok (.iinc 3 1, 3) := by decide +kernel
theorem dX12_beginOf_65 : decode cX12_beginOf 65 = .ok (.goto (-61), 3) := by decide +kernel
theorem dX12_beginOf_68 : decode cX12_beginOf 68 = .ok (.iload_n 2, 1) := by decide +kernel
theorem dX12_beginOf_69 : decode cX12_beginOf 69 = .ok (.ireturn, 1) := by decide +kernel
theorem okX12_beginOf_4 {E : Ev} {X : Cx} {S : Sh} {Z : Option Nat} {Q : Int32 → Hp → Prop} {a0 : Nat} {x1 : Int32} (O : Ok E X yX12_beginOf cX12_beginOf 4 (some .int) 1 24 0 0 (qI S Z Q)) : ∀ (n : Nat) (h : Hp) (x2 : Int32) (x3 : Int32), wX12_beginOf_4 S a0 x1 Q n h x2 x3 → G E X 0 0 S Z h 4 [some (vr a0), some (vi x1), some (vi x2), some (vi x3)] [] := by
  intro n
  induction n with
  | zero => intro h x2 x3 hw; exact hw.elim
  | succ n hB4 =>
    intro h x2 x3 hw
    have hw : wX12_beginOf_4b S a0 x1 Q (wX12_beginOf_4 S a0 x1 Q n) h x2 x3 := hw
    unfold wX12_beginOf_4b at hw
    refine g_iload_n O dX12_beginOf_4 rfl ?_
    refine g_aload_n O dX12_beginOf_5 rfl ?_
    obtain ⟨c6, hw⟩ := hw
    refine gf_X12_varMany O dX12_beginOf_6 fl_X12_27 c6 ?_
    refine g_iload_n O dX12_beginOf_9 rfl ?_
    obtain ⟨c10, hw⟩ := hw
    refine g_iaload O dX12_beginOf_10 c10.1 c10.2 ?_
    refine g_icmp_ge (tgt := 68) O dX12_beginOf_11 rfl (fun q11 => ?_) (fun q11 => ?_)
    · have hw := hw.1 q11
      refine g_iload_n O dX12_beginOf_68 rfl ?_
      exact g_ireturn O dX12_beginOf_69 ⟨rfl, rfl, _, rfl, hw⟩
    · have hw := hw.2 q11
      refine g_iload_n O dX12_beginOf_14 rfl ?_
      refine g_aload_n O dX12_beginOf_15 rfl ?_
      refine gf_X12_varHigh O dX12_beginOf_16 fl_X12_48 c6 ?_
      refine g_iconst O dX12_beginOf_19 kv_3 ?_
      refine g_iload_n O dX12_beginOf_20 rfl ?_
      refine g_imul O dX12_beginOf_21 ?_
      refine g_iload_n O dX12_beginOf_22 rfl ?_
      refine g_iadd O dX12_beginOf_23 ?_
      obtain ⟨c24, hw⟩ := hw
      refine g_iaload O dX12_beginOf_24 c24.1 c24.2 ?_
      refine g_aload_n O dX12_beginOf_25 rfl ?_
      refine gf_X12_varLow O dX12_beginOf_26 fl_X12_45 c6 ?_
      refine g_iconst O dX12_beginOf_29 kv_3 ?_
      refine g_iload_n O dX12_beginOf_30 rfl ?_
      refine g_imul O dX12_beginOf_31 ?_
      refine g_iload_n O dX12_beginOf_32 rfl ?_
      refine g_iadd O dX12_beginOf_33 ?_
      obtain ⟨c34, hw⟩ := hw
      refine g_iaload O dX12_beginOf_34 c34.1 c34.2 ?_
      refine g_isub O dX12_beginOf_35 ?_
      refine g_iconst O dX12_beginOf_36 kv_1 ?_
      refine g_iadd O dX12_beginOf_37 ?_
      refine g_imul O dX12_beginOf_38 ?_
      refine g_aload_n O dX12_beginOf_39 rfl ?_
      refine gf_X12_varAt O dX12_beginOf_40 fl_X12_51 c6 ?_
      refine g_iconst O dX12_beginOf_43 kv_3 ?_
      refine g_iload_n O dX12_beginOf_44 rfl ?_
      refine g_imul O dX12_beginOf_45 ?_
      refine g_iload_n O dX12_beginOf_46 rfl ?_
      refine g_iadd O dX12_beginOf_47 ?_
      obtain ⟨c48, hw⟩ := hw
      refine g_iaload O dX12_beginOf_48 c48.1 c48.2 ?_
      refine g_iadd O dX12_beginOf_49 ?_
      refine g_aload_n O dX12_beginOf_50 rfl ?_
      refine gf_X12_varLow O dX12_beginOf_51 fl_X12_45 c6 ?_
      refine g_iconst O dX12_beginOf_54 kv_3 ?_
      refine g_iload_n O dX12_beginOf_55 rfl ?_
      refine g_imul O dX12_beginOf_56 ?_
      refine g_iload_n O dX12_beginOf_57 rfl ?_
      refine g_iadd O dX12_beginOf_58 ?_
      refine g_iaload O dX12_beginOf_59 c34.1 c34.2 ?_
      refine g_isub O dX12_beginOf_60 ?_
      refine g_nmI (fun xv61 e61 => ?_)
      have hw := hw xv61 e61
      refine g_istore_n (lc' := [some (vr a0), some (vi x1), some (vi xv61), some (vi x3)]) O dX12_beginOf_61 rfl (Nat.le_of_ble_eq_true rfl) rfl ?_
      refine g_iinc (lc' := [some (vr a0), some (vi x1), some (vi xv61), some (vi (x3 + (1 : Int32)))]) O dX12_beginOf_62 rfl kv_1 rfl rfl ?_
      refine g_goto (tgt := 4) O dX12_beginOf_65 rfl ?_
      exact hB4 _ _ _ hw
theorem okX12_beginOf {E : Ev} {S : Sh} {Z : Option Nat} {Q : Int32 → Hp → Prop} {h : Hp} {a0 : Nat} {x1 : Int32} (hw : wX12_beginOf S h a0 x1 Q) : Ct E yX12_beginOf cX12_beginOf 4 (some .int) 1 24 0 0 S Z h [vr a0, vi x1] (qI S Z Q) := by
  refine Ct.of (by decide) (lc := [some (vr a0), some (vi x1), none, none]) (Nat.le_of_ble_eq_true rfl) rfl (fun X O => ?_)
  unfold wX12_beginOf at hw
  refine g_iconst O dX12_beginOf_0 kv_0 ?_
  refine g_istore_n (lc' := [some (vr a0), some (vi x1), some (vi (0 : Int32)), none]) O dX12_beginOf_1 rfl (Nat.le_of_ble_eq_true rfl) rfl ?_
  refine g_iconst O dX12_beginOf_2 kv_0 ?_
  refine g_istore_n (lc' := [some (vr a0), some (vi x1), some (vi (0 : Int32)), some (vi (0 : Int32))]) O dX12_beginOf_3 rfl (Nat.le_of_ble_eq_true rfl) rfl ?_
  obtain ⟨n4, hw⟩ := hw
  exact okX12_beginOf_4 O n4 _ _ _ hw
theorem dX12_begins_0 : decode cX12_begins 0 = .ok (.aload_n 0, 1) := by decide +kernel
theorem dX12_begins_1 : decode cX12_begins 1 = .ok (.iload_n 1, 1) := by decide +kernel
theorem dX12_begins_2 : decode cX12_begins 2 = .ok (.putfield 259, 3) := by decide +kernel
theorem dX12_begins_5 : decode cX12_begins 5 = .ok (.aload_n 0, 1) := by decide +kernel
theorem dX12_begins_6 : decode cX12_begins 6 = .ok (.iload_n 2, 1) := by decide +kernel
theorem dX12_begins_7 : decode cX12_begins 7 = .ok (.putfield 248, 3) := by decide +kernel
theorem dX12_begins_10 : decode cX12_begins 10 = .ok (.aload_n 0, 1) := by decide +kernel
theorem dX12_begins_11 : decode cX12_begins 11 = .ok (.iconst 0, 1) := by decide +kernel
theorem dX12_begins_12 : decode cX12_begins 12 = .ok (.putfield 262, 3) := by decide +kernel
theorem dX12_begins_15 : decode cX12_begins 15 = .ok (.aload_n 0, 1) := by decide +kernel
theorem dX12_begins_16 : decode cX12_begins 16 = .ok (.iconst 0, 1) := by decide +kernel
theorem dX12_begins_17 : decode cX12_begins 17 = .ok (.putfield 242, 3) := by decide +kernel
theorem dX12_begins_20 : decode cX12_begins 20 = .ok (.return_, 1) := by decide +kernel
theorem okX12_begins {E : Ev} {S : Sh} {Z : Option Nat} {Q : Hp → Prop} {h : Hp} {a0 : Nat} {x1 : Int32} {x2 : Int32} (hw : wX12_begins S h a0 x1 x2 Q) : Ct E yX12_begins cX12_begins 3 none 1 24 0 0 S Z h [vr a0, vi x1, vi x2] (qV S Z Q) := by
  refine Ct.of (by decide) (lc := [some (vr a0), some (vi x1), some (vi x2)]) (Nat.le_of_ble_eq_true rfl) rfl (fun X O => ?_)
  unfold wX12_begins at hw
  refine g_aload_n O dX12_begins_0 rfl ?_
  refine g_iload_n O dX12_begins_1 rfl ?_
  obtain ⟨c2, hw⟩ := hw
  obtain ⟨c2z, hw⟩ := hw
  refine pf_X12_mayAhead O dX12_begins_2 fl_X12_259 c2 c2z ?_
  refine g_nmH (fun h2 e2 => ?_)
  have hw := hw h2 e2
  refine g_aload_n O dX12_begins_5 rfl ?_
  refine g_iload_n O dX12_begins_6 rfl ?_
  obtain ⟨c7z, hw⟩ := hw
  refine pf_X12_mayPick O dX12_begins_7 fl_X12_248 c2 c7z ?_
  refine g_nmH (fun h7 e7 => ?_)
  have hw := hw h7 e7
  refine g_aload_n O dX12_begins_10 rfl ?_
  refine g_iconst O dX12_begins_11 kv_0 ?_
  refine pf_X12_atoms O dX12_begins_12 fl_X12_262 c2 ?_
  refine g_nmH (fun h12 e12 => ?_)
  have hw := hw h12 e12
  refine g_aload_n O dX12_begins_15 rfl ?_
  refine g_iconst O dX12_begins_16 kv_0 ?_
  refine pf_X12_open O dX12_begins_17 fl_X12_242 c2 ?_
  exact g_return O dX12_begins_20 ⟨rfl, rfl, rfl, hw⟩
theorem dX12_pair_0 : decode cX12_pair 0 = .ok (.sipush 10000, 3) := by decide +kernel
theorem dX12_pair_3 : decode cX12_pair 3 = .ok (.iload_n 0, 1) := by decide +kernel
theorem dX12_pair_4 : decode cX12_pair 4 = .ok (.iconst 1, 1) := by decide +kernel
theorem dX12_pair_5 : decode cX12_pair 5 = .ok (.isub, 1) := by decide +kernel
theorem dX12_pair_6 : decode cX12_pair 6 = .ok (.imul, 1) := by decide +kernel
theorem dX12_pair_7 : decode cX12_pair 7 = .ok (.bipush 100, 2) := by decide +kernel
theorem dX12_pair_9 : decode cX12_pair 9 = .ok (.iload_n 1, 1) := by decide +kernel
theorem dX12_pair_10 : decode cX12_pair 10 = .ok (.imul, 1) := by decide +kernel
theorem dX12_pair_11 : decode cX12_pair 11 = .ok (.iadd, 1) := by decide +kernel
theorem dX12_pair_12 : decode cX12_pair 12 = .ok (.iload_n 2, 1) := by decide +kernel
theorem dX12_pair_13 : decode cX12_pair 13 = .ok (.iadd, 1) := by decide +kernel
theorem dX12_pair_14 : decode cX12_pair 14 = .ok (.ireturn, 1) := by decide +kernel
theorem okX12_pair {E : Ev} {S : Sh} {Z : Option Nat} {Q : Int32 → Hp → Prop} {h : Hp} {x0 : Int32} {x1 : Int32} {x2 : Int32} (hw : wX12_pair S h x0 x1 x2 Q) : Ct E yX12_pair cX12_pair 3 (some .int) 1 24 0 0 S Z h [vi x0, vi x1, vi x2] (qI S Z Q) := by
  refine Ct.of (by decide) (lc := [some (vi x0), some (vi x1), some (vi x2)]) (Nat.le_of_ble_eq_true rfl) rfl (fun X O => ?_)
  unfold wX12_pair at hw
  refine g_sipush O dX12_pair_0 ks_10000 ?_
  refine g_iload_n O dX12_pair_3 rfl ?_
  refine g_iconst O dX12_pair_4 kv_1 ?_
  refine g_isub O dX12_pair_5 ?_
  refine g_imul O dX12_pair_6 ?_
  refine g_bipush O dX12_pair_7 kb_100 ?_
  refine g_iload_n O dX12_pair_9 rfl ?_
  refine g_imul O dX12_pair_10 ?_
  refine g_iadd O dX12_pair_11 ?_
  refine g_iload_n O dX12_pair_12 rfl ?_
  refine g_iadd O dX12_pair_13 ?_
  exact g_ireturn O dX12_pair_14 ⟨rfl, rfl, _, rfl, hw⟩
theorem dX12_shows_0 : decode cX12_shows 0 = .ok (.aload_n 0, 1) := by decide +kernel
theorem dX12_shows_1 : decode cX12_shows 1 = .ok (.iload_n 1, 1) := by decide +kernel
theorem dX12_shows_2 : decode cX12_shows 2 = .ok (.putfield 432, 3) := by decide +kernel
theorem dX12_shows_5 : decode cX12_shows 5 = .ok (.aload_n 0, 1) := by decide +kernel
theorem dX12_shows_6 : decode cX12_shows 6 = .ok (.iload_n 2, 1) := by decide +kernel
theorem dX12_shows_7 : decode cX12_shows 7 = .ok (.putfield 435, 3) := by decide +kernel
theorem dX12_shows_10 : decode cX12_shows 10 = .ok (.aload_n 0, 1) := by decide +kernel
theorem dX12_shows_11 : decode cX12_shows 11 = .ok (.iload_n 3, 1) := by decide +kernel
theorem dX12_shows_12 : decode cX12_shows 12 = .ok (.putfield 438, 3) := by decide +kernel
theorem dX12_shows_15 : decode cX12_shows 15 = .ok (.aload_n 0, 1) := by decide +kernel
theorem dX12_shows_16 : decode cX12_shows 16 = .ok (.iload 4, 2) := by decide +kernel
theorem dX12_shows_18 : decode cX12_shows 18 = .ok (.putfield 441, 3) := by decide +kernel
theorem dX12_shows_21 : decode cX12_shows 21 = .ok (.aload_n 0, 1) := by decide +kernel
theorem dX12_shows_22 : decode cX12_shows 22 = .ok (.iconst 1, 1) := by decide +kernel
theorem dX12_shows_23 : decode cX12_shows 23 = .ok (.putfield 362, 3) := by decide +kernel
theorem dX12_shows_26 : decode cX12_shows 26 = .ok (.return_, 1) := by decide +kernel
theorem okX12_shows {E : Ev} {S : Sh} {Z : Option Nat} {Q : Hp → Prop} {h : Hp} {a0 : Nat} {x1 : Int32} {x2 : Int32} {x3 : Int32} {x4 : Int32} (hw : wX12_shows S h a0 x1 x2 x3 x4 Q) : Ct E yX12_shows cX12_shows 5 none 1 24 0 0 S Z h [vr a0, vi x1, vi x2, vi x3, vi x4] (qV S Z Q) := by
  refine Ct.of (by decide) (lc := [some (vr a0), some (vi x1), some (vi x2), some (vi x3), some (vi x4)]) (Nat.le_of_ble_eq_true rfl) rfl (fun X O => ?_)
  unfold wX12_shows at hw
  refine g_aload_n O dX12_shows_0 rfl ?_
  refine g_iload_n O dX12_shows_1 rfl ?_
  obtain ⟨c2, hw⟩ := hw
  refine pf_X12_shownOf O dX12_shows_2 fl_X12_432 c2 ?_
  refine g_nmH (fun h2 e2 => ?_)
  have hw := hw h2 e2
  refine g_aload_n O dX12_shows_5 rfl ?_
  refine g_iload_n O dX12_shows_6 rfl ?_
  refine pf_X12_shownA O dX12_shows_7 fl_X12_435 c2 ?_
  refine g_nmH (fun h7 e7 => ?_)
  have hw := hw h7 e7
  refine g_aload_n O dX12_shows_10 rfl ?_
  refine g_iload_n O dX12_shows_11 rfl ?_
  refine pf_X12_shownS O dX12_shows_12 fl_X12_438 c2 ?_
  refine g_nmH (fun h12 e12 => ?_)
  have hw := hw h12 e12
  refine g_aload_n O dX12_shows_15 rfl ?_
  refine g_iload O dX12_shows_16 rfl ?_
  refine pf_X12_shownPick O dX12_shows_18 fl_X12_441 c2 ?_
  refine g_nmH (fun h18 e18 => ?_)
  have hw := hw h18 e18
  refine g_aload_n O dX12_shows_21 rfl ?_
  refine g_iconst O dX12_shows_22 kv_1 ?_
  refine pf_X12_isShown O dX12_shows_23 fl_X12_362 c2 (by decide) ?_
  exact g_return O dX12_shows_26 ⟨rfl, rfl, rfl, hw⟩
theorem dX12_begins__0 : decode cX12_begins_ 0 = .ok (.aload_n 0, 1) := by decide +kernel
theorem dX12_begins__1 : decode cX12_begins_ 1 = .ok (.iload_n 1, 1) := by decide +kernel
theorem dX12_begins__2 : decode cX12_begins_ 2 = .ok (.invokevirtual 392, 3) := by decide +kernel
theorem dX12_begins__5 : decode cX12_begins_ 5 = .ok (.istore_n 3, 1) := by decide +kernel
theorem dX12_begins__6 : decode cX12_begins_ 6 = .ok (.iload_n 1, 1) := by decide +kernel
theorem dX12_begins__7 : decode cX12_begins_ 7 = .ok (.ifCond .ne 7, 3) := by decide +kernel
theorem dX12_begins__10 : decode cX12_begins_ 10 = .ok (.iconst 0, 1) := by decide +kernel
theorem dX12_begins__11 : decode cX12_begins_ 11 = .ok (.goto 10, 3) := by decide +kernel
theorem dX12_begins__14 : decode cX12_begins_ 14 = .ok (.aload_n 0, 1) := by decide +kernel
theorem dX12_begins__15 : decode cX12_begins_ 15 = .ok (.iload_n 1, 1) := by decide +kernel
theorem dX12_begins__16 : decode cX12_begins_ 16 = .ok (.iconst 1, 1) := by decide +kernel
theorem dX12_begins__17 : decode cX12_begins_ 17 = .ok (.isub, 1) := by decide +kernel
theorem dX12_begins__18 : decode cX12_begins_ 18 = .ok (.invokevirtual 392, 3) := by decide +kernel
theorem dX12_begins__21 : decode cX12_begins_ 21 = .ok (.istore 4, 2) := by decide +kernel
theorem dX12_begins__23 : decode cX12_begins_ 23 = .ok (.iload_n 1, 1) := by decide +kernel
theorem dX12_begins__24 : decode cX12_begins_ 24 = .ok (.ifCond .ne 12, 3) := by decide +kernel
theorem dX12_begins__27 : decode cX12_begins_ 27 = .ok (.aload_n 0, 1) := by decide +kernel
theorem dX12_begins__28 : decode cX12_begins_ 28 = .ok (.getfield 97, 3) := by decide +kernel
theorem dX12_begins__31 : decode cX12_begins_ 31 = .ok (.iload_n 3, 1) := by decide +kernel
theorem dX12_begins__32 : decode cX12_begins_ 32 = .ok (.baload, 1) := by decide +kernel
theorem dX12_begins__33 : decode cX12_begins_ 33 = .ok (.goto 15, 3) := by decide +kernel
theorem dX12_begins__36 : decode cX12_begins_ 36 = .ok (.aload_n 0, 1) := by decide +kernel
theorem dX12_begins__37 : decode cX12_begins_ 37 = .ok (.getfield 100, 3) := by decide +kernel
theorem dX12_begins__40 : decode cX12_begins_ 40 = .ok (.iload_n 1, 1) := by decide +kernel
theorem dX12_begins__41 : decode cX12_begins_ 41 = .ok (.iload 4, 2) := by decide +kernel
theorem dX12_begins__43 : decode cX12_begins_ 43 = .ok (.iload_n 3, 1) := by decide +kernel
theorem dX12_begins__44 : decode cX12_begins_ 44 = .ok (.invokestatic 382, 3) := by decide +kernel
theorem dX12_begins__47 : decode cX12_begins_ 47 = .ok (.baload, 1) := by decide +kernel
theorem dX12_begins__48 : decode cX12_begins_ 48 = .ok (.istore 5, 2) := by decide +kernel
theorem dX12_begins__50 : decode cX12_begins_ 50 = .ok (.iload 5, 2) := by decide +kernel
theorem dX12_begins__52 : decode cX12_begins_ 52 = .ok (.ifCond .ne 16, 3) := by decide +kernel
theorem dX12_begins__55 : decode cX12_begins_ 55 = .ok (.iload_n 2, 1) := by decide +kernel
theorem dX12_begins__56 : decode cX12_begins_ 56 = .ok (.ifCond .eq 12, 3) := by decide +kernel
theorem dX12_begins__59 : decode cX12_begins_ 59 = .ok (.aload_n 0, 1) := by decide +kernel
theorem dX12_begins__60 : decode cX12_begins_ 60 = .ok (.iload_n 1, 1) := by decide +kernel
theorem dX12_begins__61 : decode cX12_begins_ 61 = .ok (.iload 4, 2) := by decide +kernel
theorem dX12_begins__63 : decode cX12_begins_ 63 = .ok (.iload_n 3, 1) := by decide +kernel
theorem dX12_begins__64 : decode cX12_begins_ 64 = .ok (.iconst 0, 1) := by decide +kernel
theorem dX12_begins__65 : decode cX12_begins_ 65 = .ok (.invokevirtual 428, 3) := by decide +kernel
theorem dX12_begins__68 : decode cX12_begins_ 68 = .ok (.iload 5, 2) := by decide +kernel
theorem dX12_begins__70 : decode cX12_begins_ 70 = .ok (.ireturn, 1) := by decide +kernel
theorem okX12_begins__j48 {E : Ev} {X : Cx} {S : Sh} {Z : Option Nat} {Q : Int32 → Hp → Prop} {h : Hp} {a0 : Nat} {x1 : Int32} {x2 : Int32} {x3 : Int32} {x4 : Int32} {s0 : Int32} (O : Ok E X yX12_begins_ cX12_begins_ 6 (some .boolean) 2 48 0 0 (qI S Z Q)) (hw : wX12_begins__j48 S h a0 x1 x2 x3 x4 s0 Q) : G E X 0 0 S Z h 48 [some (vr a0), some (vi x1), some (vi x2), some (vi x3), some (vi x4), none] [vi s0] := by
  unfold wX12_begins__j48 at hw
  refine g_istore (lc' := [some (vr a0), some (vi x1), some (vi x2), some (vi x3), some (vi x4), some (vi s0)]) O dX12_begins__48 rfl (Nat.le_of_ble_eq_true rfl) rfl ?_
  refine g_iload O dX12_begins__50 rfl ?_
  refine g_if_ne (tgt := 68) O dX12_begins__52 rfl (fun q52 => ?_) (fun q52 => ?_)
  · have hw := hw.1 q52
    refine g_iload O dX12_begins__68 rfl ?_
    obtain ⟨c70z, hw⟩ := hw
    exact g_zreturn O dX12_begins__70 c70z ⟨rfl, rfl, _, rfl, hw⟩
  · have hw := hw.2 q52
    refine g_iload_n O dX12_begins__55 rfl ?_
    refine g_if_eq (tgt := 68) O dX12_begins__56 rfl (fun q56 => ?_) (fun q56 => ?_)
    · have hw := hw.1 q56
      refine g_iload O dX12_begins__68 rfl ?_
      obtain ⟨c70z, hw⟩ := hw
      exact g_zreturn O dX12_begins__70 c70z ⟨rfl, rfl, _, rfl, hw⟩
    · have hw := hw.2 q56
      refine g_aload_n O dX12_begins__59 rfl ?_
      refine g_iload_n O dX12_begins__60 rfl ?_
      refine g_iload O dX12_begins__61 rfl ?_
      refine g_iload_n O dX12_begins__63 rfl ?_
      refine g_iconst O dX12_begins__64 kv_0 ?_
      obtain ⟨c65, hw⟩ := hw
      refine g_callV (As := [vi x1, vi x4, vi x3, vi (0 : Int32)]) (rest := []) O ci_12 rfl dX12_begins__65 ml_X12_428 im_yX12_shows se_yX12_shows ini_X12 co_yX12_shows yo_yX12_shows c65 rfl rfl (Nat.le_of_ble_eq_true rfl) ⟨by decide, by decide, by decide, by decide⟩ (okX12_shows hw) (k_V fun h65 hw => ?_)
      refine g_iload O dX12_begins__68 rfl ?_
      obtain ⟨c70z, hw⟩ := hw
      exact g_zreturn O dX12_begins__70 c70z ⟨rfl, rfl, _, rfl, hw⟩
theorem okX12_begins__j21 {E : Ev} {X : Cx} {S : Sh} {Z : Option Nat} {Q : Int32 → Hp → Prop} {h : Hp} {a0 : Nat} {x1 : Int32} {x2 : Int32} {x3 : Int32} {s0 : Int32} (O : Ok E X yX12_begins_ cX12_begins_ 6 (some .boolean) 2 48 0 0 (qI S Z Q)) (hw : wX12_begins__j21 S h a0 x1 x2 x3 s0 Q) : G E X 0 0 S Z h 21 [some (vr a0), some (vi x1), some (vi x2), some (vi x3), none, none] [vi s0] := by
  unfold wX12_begins__j21 at hw
  refine g_istore (lc' := [some (vr a0), some (vi x1), some (vi x2), some (vi x3), some (vi s0), none]) O dX12_begins__21 rfl (Nat.le_of_ble_eq_true rfl) rfl ?_
  refine g_iload_n O dX12_begins__23 rfl ?_
  refine g_if_ne (tgt := 36) O dX12_begins__24 rfl (fun q24 => ?_) (fun q24 => ?_)
  · have hw := hw.1 q24
    refine g_aload_n O dX12_begins__36 rfl ?_
    obtain ⟨c37, hw⟩ := hw
    refine gf_X12_isGlued O dX12_begins__37 fl_X12_100 c37 ?_
    refine g_iload_n O dX12_begins__40 rfl ?_
    refine g_iload O dX12_begins__41 rfl ?_
    refine g_iload_n O dX12_begins__43 rfl ?_
    refine g_callS (As := [vi x1, vi s0, vi x3]) (rest := [vr (gR h a0 48)]) O dX12_begins__44 ml_X12_382 st_yX12_pair ini_X12 co_yX12_pair yo_yX12_pair rfl rfl (Nat.le_of_ble_eq_true rfl) ⟨by decide, by decide, by decide, by decide⟩ (okX12_pair hw) (k_I fun r44 h44 hw => ?_)
    obtain ⟨c47, hw⟩ := hw
    refine g_zaload O dX12_begins__47 c47.1 c47.2 ?_
    exact okX12_begins__j48 O hw
  · have hw := hw.2 q24
    refine g_aload_n O dX12_begins__27 rfl ?_
    obtain ⟨c28, hw⟩ := hw
    refine gf_X12_isSound O dX12_begins__28 fl_X12_97 c28 ?_
    refine g_iload_n O dX12_begins__31 rfl ?_
    obtain ⟨c32, hw⟩ := hw
    refine g_zaload O dX12_begins__32 c32.1 c32.2 ?_
    refine g_goto (tgt := 48) O dX12_begins__33 rfl ?_
    exact okX12_begins__j48 O hw
theorem okX12_begins_ {E : Ev} {S : Sh} {Z : Option Nat} {Q : Int32 → Hp → Prop} {h : Hp} {a0 : Nat} {x1 : Int32} {x2 : Int32} (hw : wX12_begins_ S h a0 x1 x2 Q) : Ct E yX12_begins_ cX12_begins_ 6 (some .boolean) 2 48 0 0 S Z h [vr a0, vi x1, vi x2] (qI S Z Q) := by
  refine Ct.of (by decide) (lc := [some (vr a0), some (vi x1), some (vi x2), none, none, none]) (Nat.le_of_ble_eq_true rfl) rfl (fun X O => ?_)
  unfold wX12_begins_ at hw
  refine g_aload_n O dX12_begins__0 rfl ?_
  refine g_iload_n O dX12_begins__1 rfl ?_
  obtain ⟨c2, hw⟩ := hw
  refine g_callV (As := [vi x1]) (rest := []) O ci_12 rfl dX12_begins__2 ml_X12_392 im_yX12_beginOf se_yX12_beginOf ini_X12 co_yX12_beginOf yo_yX12_beginOf c2 rfl rfl (Nat.le_of_ble_eq_true rfl) ⟨by decide, by decide, by decide, by decide⟩ (okX12_beginOf hw) (k_I fun r2 h2 hw => ?_)
  refine g_istore_n (lc' := [some (vr a0), some (vi x1), some (vi x2), some (vi r2), none, none]) O dX12_begins__5 rfl (Nat.le_of_ble_eq_true rfl) rfl ?_
  refine g_iload_n O dX12_begins__6 rfl ?_
  refine g_if_ne (tgt := 14) O dX12_begins__7 rfl (fun q7 => ?_) (fun q7 => ?_)
  · have hw := hw.1 q7
    refine g_aload_n O dX12_begins__14 rfl ?_
    refine g_iload_n O dX12_begins__15 rfl ?_
    refine g_iconst O dX12_begins__16 kv_1 ?_
    refine g_isub O dX12_begins__17 ?_
    refine g_callV (As := [vi ((x1 - (1 : Int32)))]) (rest := []) O ci_12 rfl dX12_begins__18 ml_X12_392 im_yX12_beginOf se_yX12_beginOf ini_X12 co_yX12_beginOf yo_yX12_beginOf c2 rfl rfl (Nat.le_of_ble_eq_true rfl) ⟨by decide, by decide, by decide, by decide⟩ (okX12_beginOf hw) (k_I fun r18 h18 hw => ?_)
    exact okX12_begins__j21 O hw
  · have hw := hw.2 q7
    refine g_iconst O dX12_begins__10 kv_0 ?_
    refine g_goto (tgt := 21) O dX12_begins__11 rfl ?_
    exact okX12_begins__j21 O hw
theorem dX12_isState_0 : decode cX12_isState 0 = .ok (.aload_n 0, 1) := by decide +kernel
theorem dX12_isState_1 : decode cX12_isState 1 = .ok (.iload_n 1, 1) := by decide +kernel
theorem dX12_isState_2 : decode cX12_isState 2 = .ok (.invokevirtual 389, 3) := by decide +kernel
theorem dX12_isState_5 : decode cX12_isState 5 = .ok (.ifCond .eq 23, 3) := by decide +kernel
theorem dX12_isState_8 : decode cX12_isState 8 = .ok (.iload_n 2, 1) := by decide +kernel
theorem dX12_isState_9 : decode cX12_isState 9 = .ok (.iconst 0, 1) := by decide +kernel
theorem dX12_isState_10 : decode cX12_isState 10 = .ok (.aload_n 0, 1) := by decide +kernel
theorem dX12_isState_11 : decode cX12_isState 11 = .ok (.getfield 36, 3) := by decide +kernel
theorem dX12_isState_14 : decode cX12_isState 14 = .ok (.iload_n 1, 1) := by decide +kernel
theorem dX12_isState_15 : decode cX12_isState 15 = .ok (.iaload, 1) := by decide +kernel
theorem dX12_isState_16 : decode cX12_isState 16 = .ok (.iconst 1, 1) := by decide +kernel
theorem dX12_isState_17 : decode cX12_isState 17 = .ok (.isub, 1) := by decide +kernel
theorem dX12_isState_18 : decode cX12_isState 18 = .ok (.invokestatic 142, 3) := by decide +kernel
theorem dX12_isState_21 : decode cX12_isState 21 = .ok (.ifCond .eq 7, 3) := by decide +kernel
theorem dX12_isState_24 : decode cX12_isState 24 = .ok (.iconst 1, 1) := by decide +kernel
theorem dX12_isState_25 : decode cX12_isState 25 = .ok (.goto 4, 3) := by decide +kernel
theorem dX12_isState_28 : decode cX12_isState 28 = .ok (.iconst 0, 1) := by decide +kernel
theorem dX12_isState_29 : decode cX12_isState 29 = .ok (.ireturn, 1) := by decide +kernel
theorem okX12_isState {E : Ev} {S : Sh} {Z : Option Nat} {Q : Int32 → Hp → Prop} {h : Hp} {a0 : Nat} {x1 : Int32} {x2 : Int32} (hw : wX12_isState S h a0 x1 x2 Q) : Ct E yX12_isState cX12_isState 3 (some .boolean) 3 67 0 0 S Z h [vr a0, vi x1, vi x2] (qI S Z Q) := by
  refine Ct.of (by decide) (lc := [some (vr a0), some (vi x1), some (vi x2)]) (Nat.le_of_ble_eq_true rfl) rfl (fun X O => ?_)
  unfold wX12_isState at hw
  refine g_aload_n O dX12_isState_0 rfl ?_
  refine g_iload_n O dX12_isState_1 rfl ?_
  obtain ⟨c2, hw⟩ := hw
  refine g_callV (As := [vi x1]) (rest := []) O ci_12 rfl dX12_isState_2 ml_X12_389 im_yX12_isMachine se_yX12_isMachine ini_X12 co_yX12_isMachine yo_yX12_isMachine c2 rfl rfl (Nat.le_of_ble_eq_true rfl) ⟨by decide, by decide, by decide, by decide⟩ (okX12_isMachine hw) (k_I fun r2 h2 hw => ?_)
  refine g_if_eq (tgt := 28) O dX12_isState_5 rfl (fun q5 => ?_) (fun q5 => ?_)
  · have hw := hw.1 q5
    refine g_iconst O dX12_isState_28 kv_0 ?_
    exact g_zreturn O dX12_isState_29 (by decide) ⟨rfl, rfl, _, rfl, hw⟩
  · have hw := hw.2 q5
    refine g_iload_n O dX12_isState_8 rfl ?_
    refine g_iconst O dX12_isState_9 kv_0 ?_
    refine g_aload_n O dX12_isState_10 rfl ?_
    refine gf_X12_sizes O dX12_isState_11 fl_X12_36 c2 ?_
    refine g_iload_n O dX12_isState_14 rfl ?_
    obtain ⟨c15, hw⟩ := hw
    refine g_iaload O dX12_isState_15 c15.1 c15.2 ?_
    refine g_iconst O dX12_isState_16 kv_1 ?_
    refine g_isub O dX12_isState_17 ?_
    refine g_callS (As := [vi x2, vi (0 : Int32), vi (((gI h2 (gR h2 a0 20) (ix x1)) - (1 : Int32)))]) (rest := []) O dX12_isState_18 ml_X12_142 st_yX12_in ini_X12 co_yX12_in yo_yX12_in rfl rfl (Nat.le_of_ble_eq_true rfl) ⟨by decide, by decide, by decide, by decide⟩ (okX12_in hw) (k_I fun r18 h18 hw => ?_)
    refine g_if_eq (tgt := 28) O dX12_isState_21 rfl (fun q21 => ?_) (fun q21 => ?_)
    · have hw := hw.1 q21
      refine g_iconst O dX12_isState_28 kv_0 ?_
      exact g_zreturn O dX12_isState_29 (by decide) ⟨rfl, rfl, _, rfl, hw⟩
    · have hw := hw.2 q21
      refine g_iconst O dX12_isState_24 kv_1 ?_
      refine g_goto (tgt := 29) O dX12_isState_25 rfl ?_
      exact g_zreturn O dX12_isState_29 (by decide) ⟨rfl, rfl, _, rfl, hw⟩
