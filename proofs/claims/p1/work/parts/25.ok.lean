theorem dX12_beneath_0 : decode cX12_beneath 0 = .ok (.aload_n 0, 1) := by decide +kernel
theorem dX12_beneath_1 : decode cX12_beneath 1 = .ok (.iconst 0, 1) := by decide +kernel
theorem dX12_beneath_2 : decode cX12_beneath 2 = .ok (.putfield 121, 3) := by decide +kernel
theorem dX12_beneath_5 : decode cX12_beneath 5 = .ok (.aload_n 0, 1) := by decide +kernel
theorem dX12_beneath_6 : decode cX12_beneath 6 = .ok (.iload_n 1, 1) := by decide +kernel
theorem dX12_beneath_7 : decode cX12_beneath 7 = .ok (.iload_n 2, 1) := by decide +kernel
theorem dX12_beneath_8 : decode cX12_beneath 8 = .ok (.invokevirtual 405, 3) := by decide +kernel
theorem dX12_beneath_11 : decode cX12_beneath 11 = .ok (.ifCond .eq 11, 3) := by decide +kernel
theorem dX12_beneath_14 : decode cX12_beneath 14 = .ok (.iload_n 1, 1) := by decide +kernel
theorem dX12_beneath_15 : decode cX12_beneath 15 = .ok (.ifCond .eq 7, 3) := by decide +kernel
theorem dX12_beneath_18 : decode cX12_beneath 18 = .ok (.iload_n 3, 1) := by decide +kernel
theorem dX12_beneath_19 : decode cX12_beneath 19 = .ok (.ifCond .ge 9, 3) := by decide +kernel
theorem dX12_beneath_22 : decode cX12_beneath 22 = .ok (.aload_n 0, 1) := by decide +kernel
theorem dX12_beneath_23 : decode cX12_beneath 23 = .ok (.iconst 1, 1) := by decide +kernel
theorem dX12_beneath_24 : decode cX12_beneath 24 = .ok (.invokevirtual 350, 3) := by decide +kernel
theorem dX12_beneath_27 : decode cX12_beneath 27 = .ok (.ireturn, 1) := by decide +kernel
theorem dX12_beneath_28 : decode cX12_beneath 28 = .ok (.iload_n 3, 1) := by decide +kernel
theorem dX12_beneath_29 : decode cX12_beneath 29 = .ok (.istore 4, 2) := by decide +kernel
theorem dX12_beneath_31 : decode cX12_beneath 31 = .ok (.iconst 0, 1) := by decide +kernel
theorem dX12_beneath_32 : decode cX12_beneath 32 = .ok (.istore 5, 2) := by decide +kernel
theorem dX12_beneath_34 : decode cX12_beneath 34 = .ok (.iload 5, 2) := by decide +kernel
theorem dX12_beneath_36 : decode cX12_beneath 36 = .ok (.aload_n 0, 1) := by decide +kernel
theorem dX12_beneath_37 : decode cX12_beneath 37 = .ok (.getfield 36, 3) := by decide +kernel
theorem dX12_beneath_40 : decode cX12_beneath 40 = .ok (.iload_n 1, 1) := by decide +kernel
theorem dX12_beneath_41 : decode cX12_beneath 41 = .ok (.iconst 1, 1) := by decide +kernel
theorem dX12_beneath_42 : decode cX12_beneath 42 = .ok (.isub, 1) := by decide +kernel
theorem dX12_beneath_43 : decode cX12_beneath 43 = .ok (.iaload, 1) := by decide +kernel
theorem dX12_beneath_44 : decode cX12_beneath 44 = .ok (.if_icmp .ge 42, 3) := by decide +kernel
theorem dX12_beneath_47 : decode cX12_beneath 47 = .ok (.aload_n 0, 1) := by decide +kernel
theorem dX12_beneath_48 : decode cX12_beneath 48 = .ok (.getfield 100, 3) := by decide +kernel
theorem dX12_beneath_51 : decode cX12_beneath 51 = .ok (.iload_n 1, 1) := by decide +kernel
theorem dX12_beneath_52 : decode cX12_beneath 52 = .ok (.iload 5, 2) := by decide +kernel
theorem dX12_beneath_54 : decode cX12_beneath 54 = .ok (.iload_n 2, 1) := by decide +kernel
theorem dX12_beneath_55 : decode cX12_beneath 55 = .ok (.invokestatic 382, 3) := by decide +kernel
theorem dX12_beneath_58 : decode cX12_beneath 58 = .ok (.baload, 1) := by decide +kernel
theorem dX12_beneath_59 : decode cX12_beneath 59 = .ok (.ifCond .ne 6, 3) := by decide +kernel
theorem dX12_beneath_62 : decode cX12_beneath 62 = .ok (.goto 18, 3) := by decide +kernel
theorem dX12_beneath_65 : decode cX12_beneath 65 = .ok (.iload 4, 2) := by decide +kernel
theorem dX12_beneath_67 : decode cX12_beneath 67 = .ok (.ifCond .ne 10, 3) := by decide +kernel
theorem dX12_beneath_70 : decode cX12_beneath 70 = .ok (.aload_n 0, 1) := by decide +kernel
theorem dX12_beneath_71 : decode cX12_beneath 71 = .ok (.iload 5, 2) := by decide +kernel
theorem dX12_beneath_73 : decode cX12_beneath 73 = .ok (.invokevirtual 365, 3) := by decide +kernel
theorem dX12_beneath_76 : decode cX12_beneath 76 = .ok (.ireturn, 1) := by decide +kernel
theorem dX12_beneath_77 : decode cX12_beneath 77 = .ok (.iinc 4 (-1), 3) := by decide +kernel
theorem dX12_beneath_80 : decode cX12_beneath 80 = .ok (.iinc 5 1, 3) := by decide +kernel
theorem dX12_beneath_83 : decode cX12_beneath 83 = .ok (.goto (-49), 3) := by decide +kernel
theorem dX12_beneath_86 : decode cX12_beneath 86 = .ok (.aload_n 0, 1) := by decide +kernel
theorem dX12_beneath_87 : decode cX12_beneath 87 = .ok (.bipush (-2), 2) := by decide +kernel
theorem dX12_beneath_89 : decode cX12_beneath 89 = .ok (.invokevirtual 365, 3) := by decide +kernel
theorem dX12_beneath_92 : decode cX12_beneath 92 = .ok (.ireturn, 1) := by decide +kernel
theorem okX12_beneath_34 {E : Ev} {X : Cx} {S : Sh} {Z : Option Nat} {Q : Int32 → Hp → Prop} {a0 : Nat} {x1 : Int32} {x2 : Int32} (O : Ok E X yX12_beneath cX12_beneath 6 (some .int) 4 89 0 0 (qI S Z Q)) : ∀ (n : Nat) (h : Hp) (x4 : Int32) (x5 : Int32), wX12_beneath_34 S a0 x1 x2 Q n h x4 x5 → G E X 0 0 S Z h 34 [some (vr a0), some (vi x1), some (vi x2), none, some (vi x4), some (vi x5)] [] := by
  intro n
  induction n with
  | zero => intro h x4 x5 hw; exact hw.elim
  | succ n hB34 =>
    intro h x4 x5 hw
    have hw : wX12_beneath_34b S a0 x1 x2 Q (wX12_beneath_34 S a0 x1 x2 Q n) h x4 x5 := hw
    unfold wX12_beneath_34b at hw
    refine g_iload O dX12_beneath_34 rfl ?_
    refine g_aload_n O dX12_beneath_36 rfl ?_
    obtain ⟨c37, hw⟩ := hw
    refine gf_X12_sizes O dX12_beneath_37 fl_X12_36 c37 ?_
    refine g_iload_n O dX12_beneath_40 rfl ?_
    refine g_iconst O dX12_beneath_41 kv_1 ?_
    refine g_isub O dX12_beneath_42 ?_
    obtain ⟨c43, hw⟩ := hw
    refine g_iaload O dX12_beneath_43 c43.1 c43.2 ?_
    refine g_icmp_ge (tgt := 86) O dX12_beneath_44 rfl (fun q44 => ?_) (fun q44 => ?_)
    · have hw := hw.1 q44
      refine g_aload_n O dX12_beneath_86 rfl ?_
      refine g_bipush O dX12_beneath_87 kb_m2 ?_
      refine g_callV (As := [vi (-2 : Int32)]) (rest := []) O ci_12 rfl dX12_beneath_89 ml_X12_365 im_yX12_good se_yX12_good ini_X12 co_yX12_good yo_yX12_good c37 rfl rfl (Nat.le_of_ble_eq_true rfl) ⟨by decide, by decide, by decide, by decide⟩ (okX12_good hw) (k_I fun r89 h89 hw => ?_)
      exact g_ireturn O dX12_beneath_92 ⟨rfl, rfl, _, rfl, hw⟩
    · have hw := hw.2 q44
      refine g_aload_n O dX12_beneath_47 rfl ?_
      refine gf_X12_isGlued O dX12_beneath_48 fl_X12_100 c37 ?_
      refine g_iload_n O dX12_beneath_51 rfl ?_
      refine g_iload O dX12_beneath_52 rfl ?_
      refine g_iload_n O dX12_beneath_54 rfl ?_
      refine g_callS (As := [vi x1, vi x5, vi x2]) (rest := [vr (gR h a0 48)]) O dX12_beneath_55 ml_X12_382 st_yX12_pair ini_X12 co_yX12_pair yo_yX12_pair rfl rfl (Nat.le_of_ble_eq_true rfl) ⟨by decide, by decide, by decide, by decide⟩ (okX12_pair hw) (k_I fun r55 h55 hw => ?_)
      obtain ⟨c58, hw⟩ := hw
      refine g_zaload O dX12_beneath_58 c58.1 c58.2 ?_
      refine g_if_ne (tgt := 65) O dX12_beneath_59 rfl (fun q59 => ?_) (fun q59 => ?_)
      · have hw := hw.1 q59
        refine g_iload O dX12_beneath_65 rfl ?_
        refine g_if_ne (tgt := 77) O dX12_beneath_67 rfl (fun q67 => ?_) (fun q67 => ?_)
        · have hw := hw.1 q67
          refine g_iinc (lc' := [some (vr a0), some (vi x1), some (vi x2), none, some (vi (x4 + (-1 : Int32))), some (vi x5)]) O dX12_beneath_77 rfl kv_m1 rfl rfl ?_
          refine g_iinc (lc' := [some (vr a0), some (vi x1), some (vi x2), none, some (vi (x4 + (-1 : Int32))), some (vi (x5 + (1 : Int32)))]) O dX12_beneath_80 rfl kv_1 rfl rfl ?_
          refine g_goto (tgt := 34) O dX12_beneath_83 rfl ?_
          exact hB34 _ _ _ hw
        · have hw := hw.2 q67
          refine g_aload_n O dX12_beneath_70 rfl ?_
          refine g_iload O dX12_beneath_71 rfl ?_
          refine g_callV (As := [vi x5]) (rest := []) O ci_12 rfl dX12_beneath_73 ml_X12_365 im_yX12_good se_yX12_good ini_X12 co_yX12_good yo_yX12_good c37 rfl rfl (Nat.le_of_ble_eq_true rfl) ⟨by decide, by decide, by decide, by decide⟩ (okX12_good hw) (k_I fun r73 h73 hw => ?_)
          exact g_ireturn O dX12_beneath_76 ⟨rfl, rfl, _, rfl, hw⟩
      · have hw := hw.2 q59
        refine g_goto (tgt := 80) O dX12_beneath_62 rfl ?_
        refine g_iinc (lc' := [some (vr a0), some (vi x1), some (vi x2), none, some (vi x4), some (vi (x5 + (1 : Int32)))]) O dX12_beneath_80 rfl kv_1 rfl rfl ?_
        refine g_goto (tgt := 34) O dX12_beneath_83 rfl ?_
        exact hB34 _ _ _ hw
theorem okX12_beneath {E : Ev} {S : Sh} {Z : Option Nat} {Q : Int32 → Hp → Prop} {h : Hp} {a0 : Nat} {x1 : Int32} {x2 : Int32} {x3 : Int32} (hw : wX12_beneath S h a0 x1 x2 x3 Q) : Ct E yX12_beneath cX12_beneath 6 (some .int) 4 89 0 0 S Z h [vr a0, vi x1, vi x2, vi x3] (qI S Z Q) := by
  refine Ct.of (by decide) (lc := [some (vr a0), some (vi x1), some (vi x2), some (vi x3), none, none]) (Nat.le_of_ble_eq_true rfl) rfl (fun X O => ?_)
  unfold wX12_beneath at hw
  refine g_aload_n O dX12_beneath_0 rfl ?_
  refine g_iconst O dX12_beneath_1 kv_0 ?_
  obtain ⟨c2, hw⟩ := hw
  refine pf_X12_thrown O dX12_beneath_2 fl_X12_121 c2 ?_
  refine g_aload_n O dX12_beneath_5 rfl ?_
  refine g_iload_n O dX12_beneath_6 rfl ?_
  refine g_iload_n O dX12_beneath_7 rfl ?_
  refine g_callV (As := [vi x1, vi x2]) (rest := []) O ci_12 rfl dX12_beneath_8 ml_X12_405 im_yX12_isState se_yX12_isState ini_X12 co_yX12_isState yo_yX12_isState c2 rfl rfl (Nat.le_of_ble_eq_true rfl) ⟨by decide, by decide, by decide, by decide⟩ (okX12_isState hw) (k_I fun r8 h8 hw => ?_)
  refine g_if_eq (tgt := 22) O dX12_beneath_11 rfl (fun q11 => ?_) (fun q11 => ?_)
  · have hw := hw.1 q11
    refine g_aload_n O dX12_beneath_22 rfl ?_
    refine g_iconst O dX12_beneath_23 kv_1 ?_
    refine g_callV (As := [vi (1 : Int32)]) (rest := []) O ci_12 rfl dX12_beneath_24 ml_X12_350 im_yX12_refused se_yX12_refused ini_X12 co_yX12_refused yo_yX12_refused c2 rfl rfl (Nat.le_of_ble_eq_true rfl) ⟨by decide, by decide, by decide, by decide⟩ (okX12_refused hw) (k_I fun r24 h24 hw => ?_)
    exact g_ireturn O dX12_beneath_27 ⟨rfl, rfl, _, rfl, hw⟩
  · have hw := hw.2 q11
    refine g_iload_n O dX12_beneath_14 rfl ?_
    refine g_if_eq (tgt := 22) O dX12_beneath_15 rfl (fun q15 => ?_) (fun q15 => ?_)
    · have hw := hw.1 q15
      refine g_aload_n O dX12_beneath_22 rfl ?_
      refine g_iconst O dX12_beneath_23 kv_1 ?_
      refine g_callV (As := [vi (1 : Int32)]) (rest := []) O ci_12 rfl dX12_beneath_24 ml_X12_350 im_yX12_refused se_yX12_refused ini_X12 co_yX12_refused yo_yX12_refused c2 rfl rfl (Nat.le_of_ble_eq_true rfl) ⟨by decide, by decide, by decide, by decide⟩ (okX12_refused hw) (k_I fun r24 h24 hw => ?_)
      exact g_ireturn O dX12_beneath_27 ⟨rfl, rfl, _, rfl, hw⟩
    · have hw := hw.2 q15
      refine g_iload_n O dX12_beneath_18 rfl ?_
      refine g_if_ge (tgt := 28) O dX12_beneath_19 rfl (fun q19 => ?_) (fun q19 => ?_)
      · have hw := hw.1 q19
        refine g_iload_n O dX12_beneath_28 rfl ?_
        refine g_istore (lc' := [some (vr a0), some (vi x1), some (vi x2), some (vi x3), some (vi x3), none]) O dX12_beneath_29 rfl (Nat.le_of_ble_eq_true rfl) rfl ?_
        refine g_iconst O dX12_beneath_31 kv_0 ?_
        refine g_istore (lc' := [some (vr a0), some (vi x1), some (vi x2), some (vi x3), some (vi x3), some (vi (0 : Int32))]) O dX12_beneath_32 rfl (Nat.le_of_ble_eq_true rfl) rfl ?_
        refine g_mask [true, true, true, false, true, true] rfl rfl ?_
        obtain ⟨n34, hw⟩ := hw
        exact okX12_beneath_34 O n34 _ _ _ hw
      · have hw := hw.2 q19
        refine g_aload_n O dX12_beneath_22 rfl ?_
        refine g_iconst O dX12_beneath_23 kv_1 ?_
        refine g_callV (As := [vi (1 : Int32)]) (rest := []) O ci_12 rfl dX12_beneath_24 ml_X12_350 im_yX12_refused se_yX12_refused ini_X12 co_yX12_refused yo_yX12_refused c2 rfl rfl (Nat.le_of_ble_eq_true rfl) ⟨by decide, by decide, by decide, by decide⟩ (okX12_refused hw) (k_I fun r24 h24 hw => ?_)
        exact g_ireturn O dX12_beneath_27 ⟨rfl, rfl, _, rfl, hw⟩
theorem dX12_beside_0 : decode cX12_beside 0 = .ok (.aload_n 0, 1) := by decide +kernel
theorem dX12_beside_1 : decode cX12_beside 1 = .ok (.iconst 0, 1) := by decide +kernel
theorem dX12_beside_2 : decode cX12_beside 2 = .ok (.putfield 121, 3) := by decide +kernel
theorem dX12_beside_5 : decode cX12_beside 5 = .ok (.aload_n 0, 1) := by decide +kernel
theorem dX12_beside_6 : decode cX12_beside 6 = .ok (.getfield 106, 3) := by decide +kernel
theorem dX12_beside_9 : decode cX12_beside 9 = .ok (.iconst (-1), 1) := by decide +kernel
theorem dX12_beside_10 : decode cX12_beside 10 = .ok (.if_icmp .eq 7, 3) := by decide +kernel
theorem dX12_beside_13 : decode cX12_beside 13 = .ok (.iload_n 1, 1) := by decide +kernel
theorem dX12_beside_14 : decode cX12_beside 14 = .ok (.ifCond .ge 9, 3) := by decide +kernel
theorem dX12_beside_17 : decode cX12_beside 17 = .ok (.aload_n 0, 1) := by decide +kernel
theorem dX12_beside_18 : decode cX12_beside 18 = .ok (.iconst 1, 1) := by decide +kernel
theorem dX12_beside_19 : decode cX12_beside 19 = .ok (.invokevirtual 350, 3) := by decide +kernel
theorem dX12_beside_22 : decode cX12_beside 22 = .ok (.ireturn, 1) := by decide +kernel
theorem dX12_beside_23 : decode cX12_beside 23 = .ok (.iload_n 1, 1) := by decide +kernel
theorem dX12_beside_24 : decode cX12_beside 24 = .ok (.istore_n 2, 1) := by decide +kernel
theorem dX12_beside_25 : decode cX12_beside 25 = .ok (.iconst 0, 1) := by decide +kernel
theorem dX12_beside_26 : decode cX12_beside 26 = .ok (.istore_n 3, 1) := by decide +kernel
theorem dX12_beside_27 : decode cX12_beside 27 = .ok (.iload_n 3, 1) := by decide +kernel
theorem dX12_beside_28 : decode cX12_beside 28 = .ok (.bipush 100, 2) := by decide +kernel
theorem dX12_beside_30 : decode cX12_beside 30 = .ok (.if_icmp .ge 34, 3) := by decide +kernel
theorem dX12_beside_33 : decode cX12_beside 33 = .ok (.aload_n 0, 1) := by decide +kernel
theorem dX12_beside_34 : decode cX12_beside 34 = .ok (.getfield 109, 3) := by decide +kernel
theorem dX12_beside_37 : decode cX12_beside 37 = .ok (.iload_n 3, 1) := by decide +kernel
theorem dX12_beside_38 : decode cX12_beside 38 = .ok (.baload, 1) := by decide +kernel
theorem dX12_beside_39 : decode cX12_beside 39 = .ok (.ifCond .ne 6, 3) := by decide +kernel
theorem dX12_beside_42 : decode cX12_beside 42 = .ok (.goto 16, 3) := by decide +kernel
theorem dX12_beside_45 : decode cX12_beside 45 = .ok (.iload_n 2, 1) := by decide +kernel
theorem dX12_beside_46 : decode cX12_beside 46 = .ok (.ifCond .ne 9, 3) := by decide +kernel
theorem dX12_beside_49 : decode cX12_beside 49 = .ok (.aload_n 0, 1) := by decide +kernel
theorem dX12_beside_50 : decode cX12_beside 50 = .ok (.iload_n 3, 1) := by decide +kernel
theorem dX12_beside_51 : decode cX12_beside 51 = .ok (.invokevirtual 365, 3) := by decide +kernel
theorem dX12_beside_54 : decode cX12_beside 54 = .ok (.ireturn, 1) := by decide +kernel
theorem dX12_beside_55 : decode cX12_beside 55 = .ok (.iinc 2 (-1), 3) := by decide +kernel
theorem dX12_beside_58 : decode cX12_beside 58 = .ok (.iinc 3 1, 3) := by decide +kernel
theorem dX12_beside_61 : decode cX12_beside 61 = .ok (.goto (-34), 3) := by decide +kernel
theorem dX12_beside_64 : decode cX12_beside 64 = .ok (.aload_n 0, 1) := by decide +kernel
theorem dX12_beside_65 : decode cX12_beside 65 = .ok (.bipush (-2), 2) := by decide +kernel
theorem dX12_beside_67 : decode cX12_beside 67 = .ok (.invokevirtual 365, 3) := by decide +kernel
theorem dX12_beside_70 : decode cX12_beside 70 = .ok (.ireturn, 1) := by decide +kernel
theorem okX12_beside_27 {E : Ev} {X : Cx} {S : Sh} {Z : Option Nat} {Q : Int32 → Hp → Prop} {a0 : Nat} (O : Ok E X yX12_beside cX12_beside 4 (some .int) 2 45 0 0 (qI S Z Q)) : ∀ (n : Nat) (h : Hp) (x2 : Int32) (x3 : Int32), wX12_beside_27 S a0 Q n h x2 x3 → G E X 0 0 S Z h 27 [some (vr a0), none, some (vi x2), some (vi x3)] [] := by
  intro n
  induction n with
  | zero => intro h x2 x3 hw; exact hw.elim
  | succ n hB27 =>
    intro h x2 x3 hw
    have hw : wX12_beside_27b S a0 Q (wX12_beside_27 S a0 Q n) h x2 x3 := hw
    unfold wX12_beside_27b at hw
    refine g_iload_n O dX12_beside_27 rfl ?_
    refine g_bipush O dX12_beside_28 kb_100 ?_
    refine g_icmp_ge (tgt := 64) O dX12_beside_30 rfl (fun q30 => ?_) (fun q30 => ?_)
    · have hw := hw.1 q30
      refine g_aload_n O dX12_beside_64 rfl ?_
      refine g_bipush O dX12_beside_65 kb_m2 ?_
      obtain ⟨c67, hw⟩ := hw
      refine g_callV (As := [vi (-2 : Int32)]) (rest := []) O ci_12 rfl dX12_beside_67 ml_X12_365 im_yX12_good se_yX12_good ini_X12 co_yX12_good yo_yX12_good c67 rfl rfl (Nat.le_of_ble_eq_true rfl) ⟨by decide, by decide, by decide, by decide⟩ (okX12_good hw) (k_I fun r67 h67 hw => ?_)
      exact g_ireturn O dX12_beside_70 ⟨rfl, rfl, _, rfl, hw⟩
    · have hw := hw.2 q30
      refine g_aload_n O dX12_beside_33 rfl ?_
      obtain ⟨c34, hw⟩ := hw
      refine gf_X12_isBeside O dX12_beside_34 fl_X12_109 c34 ?_
      refine g_iload_n O dX12_beside_37 rfl ?_
      obtain ⟨c38, hw⟩ := hw
      refine g_zaload O dX12_beside_38 c38.1 c38.2 ?_
      refine g_if_ne (tgt := 45) O dX12_beside_39 rfl (fun q39 => ?_) (fun q39 => ?_)
      · have hw := hw.1 q39
        refine g_iload_n O dX12_beside_45 rfl ?_
        refine g_if_ne (tgt := 55) O dX12_beside_46 rfl (fun q46 => ?_) (fun q46 => ?_)
        · have hw := hw.1 q46
          refine g_iinc (lc' := [some (vr a0), none, some (vi (x2 + (-1 : Int32))), some (vi x3)]) O dX12_beside_55 rfl kv_m1 rfl rfl ?_
          refine g_iinc (lc' := [some (vr a0), none, some (vi (x2 + (-1 : Int32))), some (vi (x3 + (1 : Int32)))]) O dX12_beside_58 rfl kv_1 rfl rfl ?_
          refine g_goto (tgt := 27) O dX12_beside_61 rfl ?_
          exact hB27 _ _ _ hw
        · have hw := hw.2 q46
          refine g_aload_n O dX12_beside_49 rfl ?_
          refine g_iload_n O dX12_beside_50 rfl ?_
          refine g_callV (As := [vi x3]) (rest := []) O ci_12 rfl dX12_beside_51 ml_X12_365 im_yX12_good se_yX12_good ini_X12 co_yX12_good yo_yX12_good c34 rfl rfl (Nat.le_of_ble_eq_true rfl) ⟨by decide, by decide, by decide, by decide⟩ (okX12_good hw) (k_I fun r51 h51 hw => ?_)
          exact g_ireturn O dX12_beside_54 ⟨rfl, rfl, _, rfl, hw⟩
      · have hw := hw.2 q39
        refine g_goto (tgt := 58) O dX12_beside_42 rfl ?_
        refine g_iinc (lc' := [some (vr a0), none, some (vi x2), some (vi (x3 + (1 : Int32)))]) O dX12_beside_58 rfl kv_1 rfl rfl ?_
        refine g_goto (tgt := 27) O dX12_beside_61 rfl ?_
        exact hB27 _ _ _ hw
theorem okX12_beside {E : Ev} {S : Sh} {Z : Option Nat} {Q : Int32 → Hp → Prop} {h : Hp} {a0 : Nat} {x1 : Int32} (hw : wX12_beside S h a0 x1 Q) : Ct E yX12_beside cX12_beside 4 (some .int) 2 45 0 0 S Z h [vr a0, vi x1] (qI S Z Q) := by
  refine Ct.of (by decide) (lc := [some (vr a0), some (vi x1), none, none]) (Nat.le_of_ble_eq_true rfl) rfl (fun X O => ?_)
  unfold wX12_beside at hw
  refine g_aload_n O dX12_beside_0 rfl ?_
  refine g_iconst O dX12_beside_1 kv_0 ?_
  obtain ⟨c2, hw⟩ := hw
  refine pf_X12_thrown O dX12_beside_2 fl_X12_121 c2 ?_
  refine g_nmH (fun h2 e2 => ?_)
  have hw := hw h2 e2
  refine g_aload_n O dX12_beside_5 rfl ?_
  refine gf_X12_runOf O dX12_beside_6 fl_X12_106 c2 ?_
  refine g_iconst O dX12_beside_9 kv_m1 ?_
  refine g_icmp_eq (tgt := 17) O dX12_beside_10 rfl (fun q10 => ?_) (fun q10 => ?_)
  · have hw := hw.1 q10
    refine g_aload_n O dX12_beside_17 rfl ?_
    refine g_iconst O dX12_beside_18 kv_1 ?_
    refine g_callV (As := [vi (1 : Int32)]) (rest := []) O ci_12 rfl dX12_beside_19 ml_X12_350 im_yX12_refused se_yX12_refused ini_X12 co_yX12_refused yo_yX12_refused c2 rfl rfl (Nat.le_of_ble_eq_true rfl) ⟨by decide, by decide, by decide, by decide⟩ (okX12_refused hw) (k_I fun r19 h19 hw => ?_)
    exact g_ireturn O dX12_beside_22 ⟨rfl, rfl, _, rfl, hw⟩
  · have hw := hw.2 q10
    refine g_iload_n O dX12_beside_13 rfl ?_
    refine g_if_ge (tgt := 23) O dX12_beside_14 rfl (fun q14 => ?_) (fun q14 => ?_)
    · have hw := hw.1 q14
      refine g_iload_n O dX12_beside_23 rfl ?_
      refine g_istore_n (lc' := [some (vr a0), some (vi x1), some (vi x1), none]) O dX12_beside_24 rfl (Nat.le_of_ble_eq_true rfl) rfl ?_
      refine g_iconst O dX12_beside_25 kv_0 ?_
      refine g_istore_n (lc' := [some (vr a0), some (vi x1), some (vi x1), some (vi (0 : Int32))]) O dX12_beside_26 rfl (Nat.le_of_ble_eq_true rfl) rfl ?_
      refine g_mask [true, false, true, true] rfl rfl ?_
      obtain ⟨n27, hw⟩ := hw
      exact okX12_beside_27 O n27 _ _ _ hw
    · have hw := hw.2 q14
      refine g_aload_n O dX12_beside_17 rfl ?_
      refine g_iconst O dX12_beside_18 kv_1 ?_
      refine g_callV (As := [vi (1 : Int32)]) (rest := []) O ci_12 rfl dX12_beside_19 ml_X12_350 im_yX12_refused se_yX12_refused ini_X12 co_yX12_refused yo_yX12_refused c2 rfl rfl (Nat.le_of_ble_eq_true rfl) ⟨by decide, by decide, by decide, by decide⟩ (okX12_refused hw) (k_I fun r19 h19 hw => ?_)
      exact g_ireturn O dX12_beside_22 ⟨rfl, rfl, _, rfl, hw⟩
theorem dX12_besideMany_0 : decode cX12_besideMany 0 = .ok (.iconst 0, 1) := by decide +kernel
theorem dX12_besideMany_1 : decode cX12_besideMany 1 = .ok (.istore_n 1, 1) := by decide +kernel
theorem dX12_besideMany_2 : decode cX12_besideMany 2 = .ok (.iconst 0, 1) := by decide +kernel
theorem dX12_besideMany_3 : decode cX12_besideMany 3 = .ok (.istore_n 2, 1) := by decide +kernel
theorem dX12_besideMany_4 : decode cX12_besideMany 4 = .ok (.iload_n 2, 1) := by decide +kernel
theorem dX12_besideMany_5 : decode cX12_besideMany 5 = .ok (.bipush 100, 2) := by decide +kernel
theorem dX12_besideMany_7 : decode cX12_besideMany 7 = .ok (.if_icmp .ge 26, 3) := by decide +kernel
theorem dX12_besideMany_10 : decode cX12_besideMany 10 = .ok (.iload_n 1, 1) := by decide +kernel
theorem dX12_besideMany_11 : decode cX12_besideMany 11 = .ok (.aload_n 0, 1) := by decide +kernel
theorem dX12_besideMany_12 : decode cX12_besideMany 12 = .ok (.getfield 109, 3) := by decide +kernel
theorem dX12_besideMany_15 : decode cX12_besideMany 15 = .ok (.iload_n 2, 1) := by decide +kernel
theorem dX12_besideMany_16 : decode cX12_besideMany 16 = .ok (.baload, 1) := by decide +kernel
theorem dX12_besideMany_17 : decode cX12_besideMany 17 = .ok (.ifCond .eq 7, 3) := by decide +kernel
theorem dX12_besideMany_20 : decode cX12_besideMany 20 = .ok (.iconst 1, 1) := by decide +kernel
theorem dX12_besideMany_21 : decode cX12_besideMany 21 = .ok (.goto 4, 3) := by decide +kernel
theorem dX12_besideMany_24 : decode cX12_besideMany 24 = .ok (.iconst 0, 1) := by decide +kernel
theorem dX12_besideMany_25 : decode cX12_besideMany 25 = .ok (.iadd, 1) := by decide +kernel
theorem dX12_besideMany_26 : decode cX12_besideMany 26 = .ok (.istore_n 1, 1) := by decide +kernel
theorem dX12_besideMany_27 : decode cX12_besideMany 27 = .ok (.iinc 2 1, 3) := by decide +kernel
theorem dX12_besideMany_30 : decode cX12_besideMany 30 = .ok (.goto (-26), 3) := by decide +kernel
theorem dX12_besideMany_33 : decode cX12_besideMany 33 = .ok (.iload_n 1, 1) := by decide +kernel
theorem dX12_besideMany_34 : decode cX12_besideMany 34 = .ok (.ireturn, 1) := by decide +kernel
theorem okX12_besideMany_4 {E : Ev} {X : Cx} {S : Sh} {Z : Option Nat} {Q : Int32 → Hp → Prop} {a0 : Nat} (O : Ok E X yX12_besideMany cX12_besideMany 3 (some .int) 1 24 0 0 (qI S Z Q)) : ∀ (n : Nat) (h : Hp) (x1 : Int32) (x2 : Int32), wX12_besideMany_4 S a0 Q n h x1 x2 → G E X 0 0 S Z h 4 [some (vr a0), some (vi x1), some (vi x2)] [] := by
  intro n
  induction n with
  | zero => intro h x1 x2 hw; exact hw.elim
  | succ n hB4 =>
    intro h x1 x2 hw
    have hw : wX12_besideMany_4b S a0 Q (wX12_besideMany_4 S a0 Q n) h x1 x2 := hw
    unfold wX12_besideMany_4b at hw
    refine g_iload_n O dX12_besideMany_4 rfl ?_
    refine g_bipush O dX12_besideMany_5 kb_100 ?_
    refine g_icmp_ge (tgt := 33) O dX12_besideMany_7 rfl (fun q7 => ?_) (fun q7 => ?_)
    · have hw := hw.1 q7
      refine g_iload_n O dX12_besideMany_33 rfl ?_
      exact g_ireturn O dX12_besideMany_34 ⟨rfl, rfl, _, rfl, hw⟩
    · have hw := hw.2 q7
      refine g_iload_n O dX12_besideMany_10 rfl ?_
      refine g_aload_n O dX12_besideMany_11 rfl ?_
      obtain ⟨c12, hw⟩ := hw
      refine gf_X12_isBeside O dX12_besideMany_12 fl_X12_109 c12 ?_
      refine g_iload_n O dX12_besideMany_15 rfl ?_
      obtain ⟨c16, hw⟩ := hw
      refine g_zaload O dX12_besideMany_16 c16.1 c16.2 ?_
      refine g_if_eq (tgt := 24) O dX12_besideMany_17 rfl (fun q17 => ?_) (fun q17 => ?_)
      · have hw := hw.1 q17
        refine g_iconst O dX12_besideMany_24 kv_0 ?_
        refine g_iadd O dX12_besideMany_25 ?_
        refine g_istore_n (lc' := [some (vr a0), some (vi (x1 + (0 : Int32))), some (vi x2)]) O dX12_besideMany_26 rfl (Nat.le_of_ble_eq_true rfl) rfl ?_
        refine g_iinc (lc' := [some (vr a0), some (vi (x1 + (0 : Int32))), some (vi (x2 + (1 : Int32)))]) O dX12_besideMany_27 rfl kv_1 rfl rfl ?_
        refine g_goto (tgt := 4) O dX12_besideMany_30 rfl ?_
        exact hB4 _ _ _ hw
      · have hw := hw.2 q17
        refine g_iconst O dX12_besideMany_20 kv_1 ?_
        refine g_goto (tgt := 25) O dX12_besideMany_21 rfl ?_
        refine g_iadd O dX12_besideMany_25 ?_
        refine g_istore_n (lc' := [some (vr a0), some (vi (x1 + (1 : Int32))), some (vi x2)]) O dX12_besideMany_26 rfl (Nat.le_of_ble_eq_true rfl) rfl ?_
        refine g_iinc (lc' := [some (vr a0), some (vi (x1 + (1 : Int32))), some (vi (x2 + (1 : Int32)))]) O dX12_besideMany_27 rfl kv_1 rfl rfl ?_
        refine g_goto (tgt := 4) O dX12_besideMany_30 rfl ?_
        exact hB4 _ _ _ hw
theorem okX12_besideMany {E : Ev} {S : Sh} {Z : Option Nat} {Q : Int32 → Hp → Prop} {h : Hp} {a0 : Nat} (hw : wX12_besideMany S h a0 Q) : Ct E yX12_besideMany cX12_besideMany 3 (some .int) 1 24 0 0 S Z h [vr a0] (qI S Z Q) := by
  refine Ct.of (by decide) (lc := [some (vr a0), none, none]) (Nat.le_of_ble_eq_true rfl) rfl (fun X O => ?_)
  unfold wX12_besideMany at hw
  refine g_iconst O dX12_besideMany_0 kv_0 ?_
  refine g_istore_n (lc' := [some (vr a0), some (vi (0 : Int32)), none]) O dX12_besideMany_1 rfl (Nat.le_of_ble_eq_true rfl) rfl ?_
  refine g_iconst O dX12_besideMany_2 kv_0 ?_
  refine g_istore_n (lc' := [some (vr a0), some (vi (0 : Int32)), some (vi (0 : Int32))]) O dX12_besideMany_3 rfl (Nat.le_of_ble_eq_true rfl) rfl ?_
  obtain ⟨n4, hw⟩ := hw
  exact okX12_besideMany_4 O n4 _ _ _ hw
theorem dX12_joined_0 : decode cX12_joined 0 = .ok (.iload_n 0, 1) := by decide +kernel
theorem dX12_joined_1 : decode cX12_joined 1 = .ok (.tableswitch 96 4 11 #[47, 51, 55, 59, 70, 81, 96, 92], 47) := by decide +kernel
theorem dX12_joined_48 : decode cX12_joined 48 = .ok (.iload_n 1, 1) := by decide +kernel
theorem dX12_joined_49 : decode cX12_joined 49 = .ok (.iload_n 2, 1) := by decide +kernel
theorem dX12_joined_50 : decode cX12_joined 50 = .ok (.iadd, 1) := by decide +kernel
theorem dX12_joined_51 : decode cX12_joined 51 = .ok (.ireturn, 1) := by decide +kernel
theorem dX12_joined_52 : decode cX12_joined 52 = .ok (.iload_n 1, 1) := by decide +kernel
theorem dX12_joined_53 : decode cX12_joined 53 = .ok (.iload_n 2, 1) := by decide +kernel
theorem dX12_joined_54 : decode cX12_joined 54 = .ok (.isub, 1) := by decide +kernel
theorem dX12_joined_55 : decode cX12_joined 55 = .ok (.ireturn, 1) := by decide +kernel
theorem dX12_joined_56 : decode cX12_joined 56 = .ok (.iload_n 1, 1) := by decide +kernel
theorem dX12_joined_57 : decode cX12_joined 57 = .ok (.iload_n 2, 1) := by decide +kernel
theorem dX12_joined_58 : decode cX12_joined 58 = .ok (.imul, 1) := by decide +kernel
theorem dX12_joined_59 : decode cX12_joined 59 = .ok (.ireturn, 1) := by decide +kernel
theorem dX12_joined_60 : decode cX12_joined 60 = .ok (.iload_n 1, 1) := by decide +kernel
theorem dX12_joined_61 : decode cX12_joined 61 = .ok (.iload_n 2, 1) := by decide +kernel
theorem dX12_joined_62 : decode cX12_joined 62 = .ok (.if_icmp .ge 7, 3) := by decide +kernel
theorem dX12_joined_65 : decode cX12_joined 65 = .ok (.iconst 1, 1) := by decide +kernel
theorem dX12_joined_66 : decode cX12_joined 66 = .ok (.goto 4, 3) := by decide +kernel
theorem dX12_joined_69 : decode cX12_joined 69 = .ok (.iconst 0, 1) := by decide +kernel
theorem dX12_joined_70 : decode cX12_joined 70 = .ok (.ireturn, 1) := by decide +kernel
theorem dX12_joined_71 : decode cX12_joined 71 = .ok (.iload_n 1, 1) := by decide +kernel
theorem dX12_joined_72 : decode cX12_joined 72 = .ok (.iload_n 2, 1) := by decide +kernel
theorem dX12_joined_73 : decode cX12_joined 73 = .ok (.if_icmp .le 7, 3) := by decide +kernel
theorem dX12_joined_76 : decode cX12_joined 76 = .ok (.iconst 1, 1) := by decide +kernel
theorem dX12_joined_77 : decode cX12_joined 77 = .ok (.goto 4, 3) := by decide +kernel
theorem dX12_joined_80 : decode cX12_joined 80 = .ok (.iconst 0, 1) := by decide +kernel
theorem dX12_joined_81 : decode cX12_joined 81 = .ok (.ireturn, 1) := by decide +kernel
theorem dX12_joined_82 : decode cX12_joined 82 = .ok (.iload_n 1, 1) := by decide +kernel
theorem dX12_joined_83 : decode cX12_joined 83 = .ok (.iload_n 2, 1) := by decide +kernel
theorem dX12_joined_84 : decode cX12_joined 84 = .ok (.if_icmp .ne 7, 3) := by decide +kernel
theorem dX12_joined_87 : decode cX12_joined 87 = .ok (.iconst 1, 1) := by decide +kernel
theorem dX12_joined_88 : decode cX12_joined 88 = .ok (.goto 4, 3) := by decide +kernel
theorem dX12_joined_91 : decode cX12_joined 91 = .ok (.iconst 0, 1) := by decide +kernel
theorem dX12_joined_92 : decode cX12_joined 92 = .ok (.ireturn, 1) := by decide +kernel
theorem dX12_joined_93 : decode cX12_joined 93 = .ok (.iload_n 1, 1) := by decide +kernel
theorem dX12_joined_94 : decode cX12_joined 94 = .ok (.iload_n 2, 1) := by decide +kernel
theorem dX12_joined_95 : decode cX12_joined 95 = .ok (.iand, 1) := by decide +kernel
theorem dX12_joined_96 : decode cX12_joined 96 = .ok (.ireturn, 1) := by decide +kernel
theorem dX12_joined_97 : decode cX12_joined 97 = .ok (.iload_n 1, 1) := by decide +kernel
theorem dX12_joined_98 : decode cX12_joined 98 = .ok (.iload_n 2, 1) := by decide +kernel
theorem dX12_joined_99 : decode cX12_joined 99 = .ok (.ior, 1) := by decide +kernel
theorem dX12_joined_100 : decode cX12_joined 100 = .ok (.ireturn, 1) := by decide +kernel
theorem okX12_joined {E : Ev} {S : Sh} {Z : Option Nat} {Q : Int32 → Hp → Prop} {h : Hp} {x0 : Int32} {x1 : Int32} {x2 : Int32} (hw : wX12_joined S h x0 x1 x2 Q) : Ct E yX12_joined cX12_joined 3 (some .int) 1 24 0 0 S Z h [vi x0, vi x1, vi x2] (qI S Z Q) := by
  refine Ct.of (by decide) (lc := [some (vi x0), some (vi x1), some (vi x2)]) (Nat.le_of_ble_eq_true rfl) rfl (fun X O => ?_)
  unfold wX12_joined at hw
  refine g_iload_n O dX12_joined_0 rfl ?_
  refine g_tsw O dX12_joined_1 (by decide) (by decide) (fun t1 ht => ?_)
  rcases ht with ⟨hx1, ht⟩ | ⟨hx1, ht⟩
  · obtain rfl : t1 = 48 := by have e : (1 : Int) + (47) = (t1 : Int) := ht; omega
    have hw := hw.1 (Int32.toInt_inj.mp hx1)
    refine g_iload_n O dX12_joined_48 rfl ?_
    refine g_iload_n O dX12_joined_49 rfl ?_
    refine g_iadd O dX12_joined_50 ?_
    exact g_ireturn O dX12_joined_51 ⟨rfl, rfl, _, rfl, hw⟩
  · have hw := hw.2 (fun q => hx1 (by rw [q]; rfl))
    rcases ht with ⟨hx1, ht⟩ | ⟨hx1, ht⟩
    · obtain rfl : t1 = 52 := by have e : (1 : Int) + (51) = (t1 : Int) := ht; omega
      have hw := hw.1 (Int32.toInt_inj.mp hx1)
      refine g_iload_n O dX12_joined_52 rfl ?_
      refine g_iload_n O dX12_joined_53 rfl ?_
      refine g_isub O dX12_joined_54 ?_
      exact g_ireturn O dX12_joined_55 ⟨rfl, rfl, _, rfl, hw⟩
    · have hw := hw.2 (fun q => hx1 (by rw [q]; rfl))
      rcases ht with ⟨hx1, ht⟩ | ⟨hx1, ht⟩
      · obtain rfl : t1 = 56 := by have e : (1 : Int) + (55) = (t1 : Int) := ht; omega
        have hw := hw.1 (Int32.toInt_inj.mp hx1)
        refine g_iload_n O dX12_joined_56 rfl ?_
        refine g_iload_n O dX12_joined_57 rfl ?_
        refine g_imul O dX12_joined_58 ?_
        exact g_ireturn O dX12_joined_59 ⟨rfl, rfl, _, rfl, hw⟩
      · have hw := hw.2 (fun q => hx1 (by rw [q]; rfl))
        rcases ht with ⟨hx1, ht⟩ | ⟨hx1, ht⟩
        · obtain rfl : t1 = 60 := by have e : (1 : Int) + (59) = (t1 : Int) := ht; omega
          have hw := hw.1 (Int32.toInt_inj.mp hx1)
          refine g_iload_n O dX12_joined_60 rfl ?_
          refine g_iload_n O dX12_joined_61 rfl ?_
          refine g_icmp_ge (tgt := 69) O dX12_joined_62 rfl (fun q62 => ?_) (fun q62 => ?_)
          · have hw := hw.1 q62
            refine g_iconst O dX12_joined_69 kv_0 ?_
            exact g_ireturn O dX12_joined_70 ⟨rfl, rfl, _, rfl, hw⟩
          · have hw := hw.2 q62
            refine g_iconst O dX12_joined_65 kv_1 ?_
            refine g_goto (tgt := 70) O dX12_joined_66 rfl ?_
            exact g_ireturn O dX12_joined_70 ⟨rfl, rfl, _, rfl, hw⟩
        · have hw := hw.2 (fun q => hx1 (by rw [q]; rfl))
          rcases ht with ⟨hx1, ht⟩ | ⟨hx1, ht⟩
          · obtain rfl : t1 = 71 := by have e : (1 : Int) + (70) = (t1 : Int) := ht; omega
            have hw := hw.1 (Int32.toInt_inj.mp hx1)
            refine g_iload_n O dX12_joined_71 rfl ?_
            refine g_iload_n O dX12_joined_72 rfl ?_
            refine g_icmp_le (tgt := 80) O dX12_joined_73 rfl (fun q73 => ?_) (fun q73 => ?_)
            · have hw := hw.1 q73
              refine g_iconst O dX12_joined_80 kv_0 ?_
              exact g_ireturn O dX12_joined_81 ⟨rfl, rfl, _, rfl, hw⟩
            · have hw := hw.2 q73
              refine g_iconst O dX12_joined_76 kv_1 ?_
              refine g_goto (tgt := 81) O dX12_joined_77 rfl ?_
              exact g_ireturn O dX12_joined_81 ⟨rfl, rfl, _, rfl, hw⟩
          · have hw := hw.2 (fun q => hx1 (by rw [q]; rfl))
            rcases ht with ⟨hx1, ht⟩ | ⟨hx1, ht⟩
            · obtain rfl : t1 = 82 := by have e : (1 : Int) + (81) = (t1 : Int) := ht; omega
              have hw := hw.1 (Int32.toInt_inj.mp hx1)
              refine g_iload_n O dX12_joined_82 rfl ?_
              refine g_iload_n O dX12_joined_83 rfl ?_
              refine g_icmp_ne (tgt := 91) O dX12_joined_84 rfl (fun q84 => ?_) (fun q84 => ?_)
              · have hw := hw.1 q84
                refine g_iconst O dX12_joined_91 kv_0 ?_
                exact g_ireturn O dX12_joined_92 ⟨rfl, rfl, _, rfl, hw⟩
              · have hw := hw.2 q84
                refine g_iconst O dX12_joined_87 kv_1 ?_
                refine g_goto (tgt := 92) O dX12_joined_88 rfl ?_
                exact g_ireturn O dX12_joined_92 ⟨rfl, rfl, _, rfl, hw⟩
            · have hw := hw.2 (fun q => hx1 (by rw [q]; rfl))
              rcases ht with ⟨hx1, ht⟩ | ⟨hx1, ht⟩
              · obtain rfl : t1 = 97 := by have e : (1 : Int) + (96) = (t1 : Int) := ht; omega
                have hw := hw.1 (Int32.toInt_inj.mp hx1)
                refine g_iload_n O dX12_joined_97 rfl ?_
                refine g_iload_n O dX12_joined_98 rfl ?_
                refine g_ior O dX12_joined_99 ?_
                exact g_ireturn O dX12_joined_100 ⟨rfl, rfl, _, rfl, hw⟩
              · have hw := hw.2 (fun q => hx1 (by rw [q]; rfl))
                rcases ht with ⟨hx1, ht⟩ | ⟨hx1, ht⟩
                · obtain rfl : t1 = 93 := by have e : (1 : Int) + (92) = (t1 : Int) := ht; omega
                  have hw := hw.1 (Int32.toInt_inj.mp hx1)
                  refine g_iload_n O dX12_joined_93 rfl ?_
                  refine g_iload_n O dX12_joined_94 rfl ?_
                  refine g_iand O dX12_joined_95 ?_
                  exact g_ireturn O dX12_joined_96 ⟨rfl, rfl, _, rfl, hw⟩
                · have hw := hw.2 (fun q => hx1 (by rw [q]; rfl))
                  obtain rfl : t1 = 97 := by have e : (1 : Int) + (96) = (t1 : Int) := ht; omega
                  refine g_iload_n O dX12_joined_97 rfl ?_
                  refine g_iload_n O dX12_joined_98 rfl ?_
                  refine g_ior O dX12_joined_99 ?_
                  exact g_ireturn O dX12_joined_100 ⟨rfl, rfl, _, rfl, hw⟩
theorem dX12_valueOf_0 : decode cX12_valueOf 0 = .ok (.iload_n 2, 1) := by decide +kernel
theorem dX12_valueOf_1 : decode cX12_valueOf 1 = .ok (.istore 4, 2) := by decide +kernel
theorem dX12_valueOf_3 : decode cX12_valueOf 3 = .ok (.iconst 0, 1) := by decide +kernel
theorem dX12_valueOf_4 : decode cX12_valueOf 4 = .ok (.istore 5, 2) := by decide +kernel
theorem dX12_valueOf_6 : decode cX12_valueOf 6 = .ok (.aload_n 0, 1) := by decide +kernel
theorem dX12_valueOf_7 : decode cX12_valueOf 7 = .ok (.getfield 27, 3) := by decide +kernel
theorem dX12_valueOf_10 : decode cX12_valueOf 10 = .ok (.iload_n 1, 1) := by decide +kernel
theorem dX12_valueOf_11 : decode cX12_valueOf 11 = .ok (.iaload, 1) := by decide +kernel
theorem dX12_valueOf_12 : decode cX12_valueOf 12 = .ok (.iconst 1, 1) := by decide +kernel
theorem dX12_valueOf_13 : decode cX12_valueOf 13 = .ok (.isub, 1) := by decide +kernel
theorem dX12_valueOf_14 : decode cX12_valueOf 14 = .ok (.istore 6, 2) := by decide +kernel
theorem dX12_valueOf_16 : decode cX12_valueOf 16 = .ok (.iload 6, 2) := by decide +kernel
theorem dX12_valueOf_18 : decode cX12_valueOf 18 = .ok (.iload_n 3, 1) := by decide +kernel
theorem dX12_valueOf_19 : decode cX12_valueOf 19 = .ok (.if_icmp .lt 62, 3) := by decide +kernel
theorem dX12_valueOf_22 : decode cX12_valueOf 22 = .ok (.aload_n 0, 1) := by decide +kernel
theorem dX12_valueOf_23 : decode cX12_valueOf 23 = .ok (.getfield 48, 3) := by decide +kernel
theorem dX12_valueOf_26 : decode cX12_valueOf 26 = .ok (.iconst 3, 1) := by decide +kernel
theorem dX12_valueOf_27 : decode cX12_valueOf 27 = .ok (.iload_n 1, 1) := by decide +kernel
theorem dX12_valueOf_28 : decode cX12_valueOf 28 = .ok (.imul, 1) := by decide +kernel
theorem dX12_valueOf_29 : decode cX12_valueOf 29 = .ok (.iload 6, 2) := by decide +kernel
theorem dX12_valueOf_31 : decode cX12_valueOf 31 = .ok (.iadd, 1) := by decide +kernel
theorem dX12_valueOf_32 : decode cX12_valueOf 32 = .ok (.iaload, 1) := by decide +kernel
theorem dX12_valueOf_33 : decode cX12_valueOf 33 = .ok (.aload_n 0, 1) := by decide +kernel
theorem dX12_valueOf_34 : decode cX12_valueOf 34 = .ok (.getfield 45, 3) := by decide +kernel
theorem dX12_valueOf_37 : decode cX12_valueOf 37 = .ok (.iconst 3, 1) := by decide +kernel
theorem dX12_valueOf_38 : decode cX12_valueOf 38 = .ok (.iload_n 1, 1) := by decide +kernel
theorem dX12_valueOf_39 : decode cX12_valueOf 39 = .ok (.imul, 1) := by decide +kernel
theorem dX12_valueOf_40 : decode cX12_valueOf 40 = .ok (.iload 6, 2) := by decide +kernel
theorem dX12_valueOf_42 : decode cX12_valueOf 42 = .ok (.iadd, 1) := by decide +kernel
theorem dX12_valueOf_43 : decode cX12_valueOf 43 = .ok (.iaload, 1) := by decide +kernel
theorem dX12_valueOf_44 : decode cX12_valueOf 44 = .ok (.isub, 1) := by decide +kernel
theorem dX12_valueOf_45 : decode cX12_valueOf 45 = .ok (.iconst 1, 1) := by decide +kernel
theorem dX12_valueOf_46 : decode cX12_valueOf 46 = .ok (.iadd, 1) := by decide +kernel
theorem dX12_valueOf_47 : decode cX12_valueOf 47 = .ok (.istore 7, 2) := by decide +kernel
theorem dX12_valueOf_49 : decode cX12_valueOf 49 = .ok (.aload_n 0, 1) := by decide +kernel
theorem dX12_valueOf_50 : decode cX12_valueOf 50 = .ok (.getfield 45, 3) := by decide +kernel
theorem dX12_valueOf_53 : decode cX12_valueOf 53 = .ok (.iconst 3, 1) := by decide +kernel
theorem dX12_valueOf_54 : decode cX12_valueOf 54 = .ok (.iload_n 1, 1) := by decide +kernel
theorem dX12_valueOf_55 : decode cX12_valueOf 55 = .ok (.imul, 1) := by decide +kernel
theorem dX12_valueOf_56 : decode cX12_valueOf 56 = .ok (.iload 6, 2) := by decide +kernel
theorem dX12_valueOf_58 : decode cX12_valueOf 58 = .ok (.iadd, 1) := by decide +kernel
theorem dX12_valueOf_59 : decode cX12_valueOf 59 = .ok (.iaload, 1) := by decide +kernel
theorem dX12_valueOf_60 : decode cX12_valueOf 60 = .ok (.iload 4, 2) := by decide +kernel
theorem dX12_valueOf_62 : decode cX12_valueOf 62 = .ok (.iload 7, 2) := by decide +kernel
theorem dX12_valueOf_64 : decode cX12_valueOf 64 = .ok (.irem, 1) := by decide +kernel
theorem dX12_valueOf_65 : decode cX12_valueOf 65 = .ok (.iadd, 1) := by decide +kernel
theorem dX12_valueOf_66 : decode cX12_valueOf 66 = .ok (.istore 5, 2) := by decide +kernel
theorem dX12_valueOf_68 : decode cX12_valueOf 68 = .ok (.iload 4, 2) := by decide +kernel
theorem dX12_valueOf_70 : decode cX12_valueOf 70 = .ok (.iload 7, 2) := by decide +kernel
theorem dX12_valueOf_72 : decode cX12_valueOf 72 = .ok (.idiv, 1) := by decide +kernel
theorem dX12_valueOf_73 : decode cX12_valueOf 73 = .ok (.istore 4, 2) := by decide +kernel
theorem dX12_valueOf_75 : decode cX12_valueOf 75 = .ok (.iinc 6 (-1), 3) := by decide +kernel
theorem dX12_valueOf_78 : decode cX12_valueOf 78 = .ok (.goto (-62), 3) := by decide +kernel
theorem dX12_valueOf_81 : decode cX12_valueOf 81 = .ok (.iload 5, 2) := by decide +kernel
theorem dX12_valueOf_83 : decode cX12_valueOf 83 = .ok (.ireturn, 1) := by decide +kernel
theorem okX12_valueOf_16 {E : Ev} {X : Cx} {S : Sh} {Z : Option Nat} {Q : Int32 → Hp → Prop} {a0 : Nat} {x1 : Int32} {x3 : Int32} (O : Ok E X yX12_valueOf cX12_valueOf 8 (some .int) 1 24 0 0 (qI S Z Q)) : ∀ (n : Nat) (h : Hp) (x4 : Int32) (x5 : Int32) (x6 : Int32), wX12_valueOf_16 S a0 x1 x3 Q n h x4 x5 x6 → G E X 0 0 S Z h 16 [some (vr a0), some (vi x1), none, some (vi x3), some (vi x4), some (vi x5), some (vi x6), none] [] := by
  intro n
  induction n with
  | zero => intro h x4 x5 x6 hw; exact hw.elim
  | succ n hB16 =>
    intro h x4 x5 x6 hw
    have hw : wX12_valueOf_16b S a0 x1 x3 Q (wX12_valueOf_16 S a0 x1 x3 Q n) h x4 x5 x6 := hw
    unfold wX12_valueOf_16b at hw
    refine g_iload O dX12_valueOf_16 rfl ?_
    refine g_iload_n O dX12_valueOf_18 rfl ?_
    refine g_icmp_lt (tgt := 81) O dX12_valueOf_19 rfl (fun q19 => ?_) (fun q19 => ?_)
    · have hw := hw.1 q19
      refine g_iload O dX12_valueOf_81 rfl ?_
      exact g_ireturn O dX12_valueOf_83 ⟨rfl, rfl, _, rfl, hw⟩
    · have hw := hw.2 q19
      refine g_aload_n O dX12_valueOf_22 rfl ?_
      obtain ⟨c23, hw⟩ := hw
      refine gf_X12_varHigh O dX12_valueOf_23 fl_X12_48 c23 ?_
      refine g_iconst O dX12_valueOf_26 kv_3 ?_
      refine g_iload_n O dX12_valueOf_27 rfl ?_
      refine g_imul O dX12_valueOf_28 ?_
      refine g_iload O dX12_valueOf_29 rfl ?_
      refine g_iadd O dX12_valueOf_31 ?_
      obtain ⟨c32, hw⟩ := hw
      refine g_iaload O dX12_valueOf_32 c32.1 c32.2 ?_
      refine g_aload_n O dX12_valueOf_33 rfl ?_
      refine gf_X12_varLow O dX12_valueOf_34 fl_X12_45 c23 ?_
      refine g_iconst O dX12_valueOf_37 kv_3 ?_
      refine g_iload_n O dX12_valueOf_38 rfl ?_
      refine g_imul O dX12_valueOf_39 ?_
      refine g_iload O dX12_valueOf_40 rfl ?_
      refine g_iadd O dX12_valueOf_42 ?_
      obtain ⟨c43, hw⟩ := hw
      refine g_iaload O dX12_valueOf_43 c43.1 c43.2 ?_
      refine g_isub O dX12_valueOf_44 ?_
      refine g_iconst O dX12_valueOf_45 kv_1 ?_
      refine g_iadd O dX12_valueOf_46 ?_
      refine g_nmI (fun xv47 e47 => ?_)
      have hw := hw xv47 e47
      refine g_istore (lc' := [some (vr a0), some (vi x1), none, some (vi x3), some (vi x4), some (vi x5), some (vi x6), some (vi xv47)]) O dX12_valueOf_47 rfl (Nat.le_of_ble_eq_true rfl) rfl ?_
      refine g_aload_n O dX12_valueOf_49 rfl ?_
      refine gf_X12_varLow O dX12_valueOf_50 fl_X12_45 c23 ?_
      refine g_iconst O dX12_valueOf_53 kv_3 ?_
      refine g_iload_n O dX12_valueOf_54 rfl ?_
      refine g_imul O dX12_valueOf_55 ?_
      refine g_iload O dX12_valueOf_56 rfl ?_
      refine g_iadd O dX12_valueOf_58 ?_
      refine g_iaload O dX12_valueOf_59 c43.1 c43.2 ?_
      refine g_iload O dX12_valueOf_60 rfl ?_
      refine g_iload O dX12_valueOf_62 rfl ?_
      obtain ⟨c64, hw⟩ := hw
      refine g_irem O dX12_valueOf_64 c64 ?_
      refine g_iadd O dX12_valueOf_65 ?_
      refine g_nmI (fun xv66 e66 => ?_)
      have hw := hw xv66 e66
      refine g_istore (lc' := [some (vr a0), some (vi x1), none, some (vi x3), some (vi x4), some (vi xv66), some (vi x6), some (vi xv47)]) O dX12_valueOf_66 rfl (Nat.le_of_ble_eq_true rfl) rfl ?_
      refine g_iload O dX12_valueOf_68 rfl ?_
      refine g_iload O dX12_valueOf_70 rfl ?_
      refine g_idiv O dX12_valueOf_72 c64 ?_
      refine g_istore (lc' := [some (vr a0), some (vi x1), none, some (vi x3), some (vi (x4 / xv47)), some (vi xv66), some (vi x6), some (vi xv47)]) O dX12_valueOf_73 rfl (Nat.le_of_ble_eq_true rfl) rfl ?_
      refine g_iinc (lc' := [some (vr a0), some (vi x1), none, some (vi x3), some (vi (x4 / xv47)), some (vi xv66), some (vi (x6 + (-1 : Int32))), some (vi xv47)]) O dX12_valueOf_75 rfl kv_m1 rfl rfl ?_
      refine g_goto (tgt := 16) O dX12_valueOf_78 rfl ?_
      refine g_mask [true, true, false, true, true, true, true, false] rfl rfl ?_
      exact hB16 _ _ _ _ hw
theorem okX12_valueOf {E : Ev} {S : Sh} {Z : Option Nat} {Q : Int32 → Hp → Prop} {h : Hp} {a0 : Nat} {x1 : Int32} {x2 : Int32} {x3 : Int32} (hw : wX12_valueOf S h a0 x1 x2 x3 Q) : Ct E yX12_valueOf cX12_valueOf 8 (some .int) 1 24 0 0 S Z h [vr a0, vi x1, vi x2, vi x3] (qI S Z Q) := by
  refine Ct.of (by decide) (lc := [some (vr a0), some (vi x1), some (vi x2), some (vi x3), none, none, none, none]) (Nat.le_of_ble_eq_true rfl) rfl (fun X O => ?_)
  unfold wX12_valueOf at hw
  refine g_iload_n O dX12_valueOf_0 rfl ?_
  refine g_istore (lc' := [some (vr a0), some (vi x1), some (vi x2), some (vi x3), some (vi x2), none, none, none]) O dX12_valueOf_1 rfl (Nat.le_of_ble_eq_true rfl) rfl ?_
  refine g_iconst O dX12_valueOf_3 kv_0 ?_
  refine g_istore (lc' := [some (vr a0), some (vi x1), some (vi x2), some (vi x3), some (vi x2), some (vi (0 : Int32)), none, none]) O dX12_valueOf_4 rfl (Nat.le_of_ble_eq_true rfl) rfl ?_
  refine g_aload_n O dX12_valueOf_6 rfl ?_
  obtain ⟨c7, hw⟩ := hw
  refine gf_X12_varMany O dX12_valueOf_7 fl_X12_27 c7 ?_
  refine g_iload_n O dX12_valueOf_10 rfl ?_
  obtain ⟨c11, hw⟩ := hw
  refine g_iaload O dX12_valueOf_11 c11.1 c11.2 ?_
  refine g_iconst O dX12_valueOf_12 kv_1 ?_
  refine g_isub O dX12_valueOf_13 ?_
  refine g_nmI (fun xv14 e14 => ?_)
  have hw := hw xv14 e14
  refine g_istore (lc' := [some (vr a0), some (vi x1), some (vi x2), some (vi x3), some (vi x2), some (vi (0 : Int32)), some (vi xv14), none]) O dX12_valueOf_14 rfl (Nat.le_of_ble_eq_true rfl) rfl ?_
  refine g_mask [true, true, false, true, true, true, true, false] rfl rfl ?_
  obtain ⟨n16, hw⟩ := hw
  exact okX12_valueOf_16 O n16 _ _ _ _ hw
theorem dX12_told_0 : decode cX12_told 0 = .ok (.iconst 0, 1) := by decide +kernel
theorem dX12_told_1 : decode cX12_told 1 = .ok (.istore 7, 2) := by decide +kernel
theorem dX12_told_3 : decode cX12_told 3 = .ok (.iload_n 2, 1) := by decide +kernel
theorem dX12_told_4 : decode cX12_told 4 = .ok (.istore 8, 2) := by decide +kernel
theorem dX12_told_6 : decode cX12_told 6 = .ok (.iload 8, 2) := by decide +kernel
theorem dX12_told_8 : decode cX12_told 8 = .ok (.iload_n 3, 1) := by decide +kernel
theorem dX12_told_9 : decode cX12_told 9 = .ok (.if_icmp .ge 222, 3) := by decide +kernel
theorem dX12_told_12 : decode cX12_told 12 = .ok (.aload_n 0, 1) := by decide +kernel
theorem dX12_told_13 : decode cX12_told 13 = .ok (.getfield 91, 3) := by decide +kernel
theorem dX12_told_16 : decode cX12_told 16 = .ok (.iload 8, 2) := by decide +kernel
theorem dX12_told_18 : decode cX12_told 18 = .ok (.iaload, 1) := by decide +kernel
theorem dX12_told_19 : decode cX12_told 19 = .ok (.istore 9, 2) := by decide +kernel
theorem dX12_told_21 : decode cX12_told 21 = .ok (.aload_n 0, 1) := by decide +kernel
theorem dX12_told_22 : decode cX12_told 22 = .ok (.getfield 88, 3) := by decide +kernel
theorem dX12_told_25 : decode cX12_told 25 = .ok (.iload 8, 2) := by decide +kernel
theorem dX12_told_27 : decode cX12_told 27 = .ok (.iaload, 1) := by decide +kernel
theorem dX12_told_28 : decode cX12_told 28 = .ok (.tableswitch 159 0 10 #[60, 75, 97, 121, 159, 159, 159, 159, 159, 159, 136], 60) := by decide +kernel
theorem dX12_told_88 : decode cX12_told 88 = .ok (.aload_n 0, 1) := by decide +kernel
theorem dX12_told_89 : decode cX12_told 89 = .ok (.getfield 94, 3) := by decide +kernel
theorem dX12_told_92 : decode cX12_told 92 = .ok (.iload 7, 2) := by decide +kernel
theorem dX12_told_94 : decode cX12_told 94 = .ok (.iload 9, 2) := by decide +kernel
theorem dX12_told_96 : decode cX12_told 96 = .ok (.iastore, 1) := by decide +kernel
theorem dX12_told_97 : decode cX12_told 97 = .ok (.iinc 7 1, 3) := by decide +kernel
theorem dX12_told_100 : decode cX12_told 100 = .ok (.goto 125, 3) := by decide +kernel
theorem dX12_told_103 : decode cX12_told 103 = .ok (.aload_n 0, 1) := by decide +kernel
theorem dX12_told_104 : decode cX12_told 104 = .ok (.getfield 94, 3) := by decide +kernel
theorem dX12_told_107 : decode cX12_told 107 = .ok (.iload 7, 2) := by decide +kernel
theorem dX12_told_109 : decode cX12_told 109 = .ok (.aload_n 0, 1) := by decide +kernel
theorem dX12_told_110 : decode cX12_told 110 = .ok (.iload_n 1, 1) := by decide +kernel
theorem dX12_told_111 : decode cX12_told 111 = .ok (.iload 5, 2) := by decide +kernel
theorem dX12_told_113 : decode cX12_told 113 = .ok (.iload 9, 2) := by decide +kernel
theorem dX12_told_115 : decode cX12_told 115 = .ok (.invokevirtual 368, 3) := by decide +kernel
theorem dX12_told_118 : decode cX12_told 118 = .ok (.iastore, 1) := by decide +kernel
theorem dX12_told_119 : decode cX12_told 119 = .ok (.iinc 7 1, 3) := by decide +kernel
theorem dX12_told_122 : decode cX12_told 122 = .ok (.goto 103, 3) := by decide +kernel
theorem dX12_told_125 : decode cX12_told 125 = .ok (.aload_n 0, 1) := by decide +kernel
theorem dX12_told_126 : decode cX12_told 126 = .ok (.getfield 94, 3) := by decide +kernel
theorem dX12_told_129 : decode cX12_told 129 = .ok (.iload 7, 2) := by decide +kernel
theorem dX12_told_131 : decode cX12_told 131 = .ok (.aload_n 0, 1) := by decide +kernel
theorem dX12_told_132 : decode cX12_told 132 = .ok (.iload_n 1, 1) := by decide +kernel
theorem dX12_told_133 : decode cX12_told 133 = .ok (.iconst 1, 1) := by decide +kernel
theorem dX12_told_134 : decode cX12_told 134 = .ok (.isub, 1) := by decide +kernel
theorem dX12_told_135 : decode cX12_told 135 = .ok (.iload 4, 2) := by decide +kernel
theorem dX12_told_137 : decode cX12_told 137 = .ok (.iload 9, 2) := by decide +kernel
theorem dX12_told_139 : decode cX12_told 139 = .ok (.invokevirtual 368, 3) := by decide +kernel
theorem dX12_told_142 : decode cX12_told 142 = .ok (.iastore, 1) := by decide +kernel
theorem dX12_told_143 : decode cX12_told 143 = .ok (.iinc 7 1, 3) := by decide +kernel
theorem dX12_told_146 : decode cX12_told 146 = .ok (.goto 79, 3) := by decide +kernel
theorem dX12_told_149 : decode cX12_told 149 = .ok (.aload_n 0, 1) := by decide +kernel
theorem dX12_told_150 : decode cX12_told 150 = .ok (.getfield 94, 3) := by decide +kernel
theorem dX12_told_153 : decode cX12_told 153 = .ok (.iload 7, 2) := by decide +kernel
theorem dX12_told_155 : decode cX12_told 155 = .ok (.iload 6, 2) := by decide +kernel
theorem dX12_told_157 : decode cX12_told 157 = .ok (.iastore, 1) := by decide +kernel
theorem dX12_told_158 : decode cX12_told 158 = .ok (.iinc 7 1, 3) := by decide +kernel
theorem dX12_told_161 : decode cX12_told 161 = .ok (.goto 64, 3) := by decide +kernel
theorem dX12_told_164 : decode cX12_told 164 = .ok (.aload_n 0, 1) := by decide +kernel
theorem dX12_told_165 : decode cX12_told 165 = .ok (.getfield 94, 3) := by decide +kernel
theorem dX12_told_168 : decode cX12_told 168 = .ok (.iload 7, 2) := by decide +kernel
theorem dX12_told_170 : decode cX12_told 170 = .ok (.iconst 1, 1) := by decide +kernel
theorem dX12_told_171 : decode cX12_told 171 = .ok (.isub, 1) := by decide +kernel
theorem dX12_told_172 : decode cX12_told 172 = .ok (.iconst 1, 1) := by decide +kernel
theorem dX12_told_173 : decode cX12_told 173 = .ok (.aload_n 0, 1) := by decide +kernel
theorem dX12_told_174 : decode cX12_told 174 = .ok (.getfield 94, 3) := by decide +kernel
theorem dX12_told_177 : decode cX12_told 177 = .ok (.iload 7, 2) := by decide +kernel
theorem dX12_told_179 : decode cX12_told 179 = .ok (.iconst 1, 1) := by decide +kernel
theorem dX12_told_180 : decode cX12_told 180 = .ok (.isub, 1) := by decide +kernel
theorem dX12_told_181 : decode cX12_told 181 = .ok (.iaload, 1) := by decide +kernel
theorem dX12_told_182 : decode cX12_told 182 = .ok (.isub, 1) := by decide +kernel
theorem dX12_told_183 : decode cX12_told 183 = .ok (.iastore, 1) := by decide +kernel
theorem dX12_told_184 : decode cX12_told 184 = .ok (.goto 41, 3) := by decide +kernel
theorem dX12_told_187 : decode cX12_told 187 = .ok (.iinc 7 (-1), 3) := by decide +kernel
theorem dX12_told_190 : decode cX12_told 190 = .ok (.aload_n 0, 1) := by decide +kernel
theorem dX12_told_191 : decode cX12_told 191 = .ok (.getfield 94, 3) := by decide +kernel
theorem dX12_told_194 : decode cX12_told 194 = .ok (.iload 7, 2) := by decide +kernel
theorem dX12_told_196 : decode cX12_told 196 = .ok (.iconst 1, 1) := by decide +kernel
theorem dX12_told_197 : decode cX12_told 197 = .ok (.isub, 1) := by decide +kernel
theorem dX12_told_198 : decode cX12_told 198 = .ok (.aload_n 0, 1) := by decide +kernel
theorem dX12_told_199 : decode cX12_told 199 = .ok (.getfield 88, 3) := by decide +kernel
theorem dX12_told_202 : decode cX12_told 202 = .ok (.iload 8, 2) := by decide +kernel
theorem dX12_told_204 : decode cX12_told 204 = .ok (.iaload, 1) := by decide +kernel
theorem dX12_told_205 : decode cX12_told 205 = .ok (.aload_n 0, 1) := by decide +kernel
theorem dX12_told_206 : decode cX12_told 206 = .ok (.getfield 94, 3) := by decide +kernel
theorem dX12_told_209 : decode cX12_told 209 = .ok (.iload 7, 2) := by decide +kernel
theorem dX12_told_211 : decode cX12_told 211 = .ok (.iconst 1, 1) := by decide +kernel
theorem dX12_told_212 : decode cX12_told 212 = .ok (.isub, 1) := by decide +kernel
theorem dX12_told_213 : decode cX12_told 213 = .ok (.iaload, 1) := by decide +kernel
theorem dX12_told_214 : decode cX12_told 214 = .ok (.aload_n 0, 1) := by decide +kernel
theorem dX12_told_215 : decode cX12_told 215 = .ok (.getfield 94, 3) := by decide +kernel
theorem dX12_told_218 : decode cX12_told 218 = .ok (.iload 7, 2) := by decide +kernel
theorem dX12_told_220 : decode cX12_told 220 = .ok (.iaload, 1) := by decide +kernel
theorem dX12_told_221 : decode cX12_told 221 = .ok (.invokestatic 372, 3) := by decide +kernel
theorem dX12_told_224 : decode cX12_told 224 = .ok (.iastore, 1) := by decide +kernel
theorem dX12_told_225 : decode cX12_told 225 = .ok (.iinc 8 1, 3) := by decide +kernel
theorem dX12_told_228 : decode cX12_told 228 = .ok (.goto (-222), 3) := by decide +kernel
theorem dX12_told_231 : decode cX12_told 231 = .ok (.aload_n 0, 1) := by decide +kernel
theorem dX12_told_232 : decode cX12_told 232 = .ok (.getfield 94, 3) := by decide +kernel
theorem dX12_told_235 : decode cX12_told 235 = .ok (.iconst 0, 1) := by decide +kernel
theorem dX12_told_236 : decode cX12_told 236 = .ok (.iaload, 1) := by decide +kernel
theorem dX12_told_237 : decode cX12_told 237 = .ok (.ireturn, 1) := by decide +kernel
theorem okX12_told_j187 {E : Ev} {X : Cx} {S : Sh} {Z : Option Nat} {Q : Int32 → Hp → Prop} {B6 : Hp → Int32 → Int32 → Prop} {h : Hp} {a0 : Nat} {x1 : Int32} {x3 : Int32} {x4 : Int32} {x5 : Int32} {x6 : Int32} {x7 : Int32} {x8 : Int32} (O : Ok E X yX12_told cX12_told 10 (some .int) 2 51 0 0 (qI S Z Q)) (hB6 : ∀ (h : Hp) (x7 : Int32) (x8 : Int32), B6 h x7 x8 → G E X 0 0 S Z h 6 [some (vr a0), some (vi x1), none, some (vi x3), some (vi x4), some (vi x5), some (vi x6), some (vi x7), some (vi x8), none] []) (hw : wX12_told_j187 S B6 h a0 x1 x3 x4 x5 x6 x7 x8 Q) : G E X 0 0 S Z h 187 [some (vr a0), some (vi x1), none, some (vi x3), some (vi x4), some (vi x5), some (vi x6), some (vi x7), some (vi x8), none] [] := by
  unfold wX12_told_j187 at hw
  refine g_iinc (lc' := [some (vr a0), some (vi x1), none, some (vi x3), some (vi x4), some (vi x5), some (vi x6), some (vi (x7 + (-1 : Int32))), some (vi x8), none]) O dX12_told_187 rfl kv_m1 rfl rfl ?_
  refine g_aload_n O dX12_told_190 rfl ?_
  obtain ⟨c191, hw⟩ := hw
  refine gf_X12_pile O dX12_told_191 fl_X12_94 c191 ?_
  refine g_iload O dX12_told_194 rfl ?_
  refine g_iconst O dX12_told_196 kv_1 ?_
  refine g_isub O dX12_told_197 ?_
  refine g_aload_n O dX12_told_198 rfl ?_
  refine gf_X12_what O dX12_told_199 fl_X12_88 c191 ?_
  refine g_iload O dX12_told_202 rfl ?_
  obtain ⟨c204, hw⟩ := hw
  refine g_iaload O dX12_told_204 c204.1 c204.2 ?_
  refine g_aload_n O dX12_told_205 rfl ?_
  refine gf_X12_pile O dX12_told_206 fl_X12_94 c191 ?_
  refine g_iload O dX12_told_209 rfl ?_
  refine g_iconst O dX12_told_211 kv_1 ?_
  refine g_isub O dX12_told_212 ?_
  obtain ⟨c213, hw⟩ := hw
  refine g_iaload O dX12_told_213 c213.1 c213.2 ?_
  refine g_aload_n O dX12_told_214 rfl ?_
  refine gf_X12_pile O dX12_told_215 fl_X12_94 c191 ?_
  refine g_iload O dX12_told_218 rfl ?_
  obtain ⟨c220, hw⟩ := hw
  refine g_iaload O dX12_told_220 c220.1 c220.2 ?_
  refine g_callS (As := [vi ((gI h (gR h a0 39) (ix x8))), vi ((gI h (gR h a0 46) (ix (((x7 + (-1 : Int32)) - (1 : Int32)))))), vi ((gI h (gR h a0 46) (ix ((x7 + (-1 : Int32))))))]) (rest := [vi (((x7 + (-1 : Int32)) - (1 : Int32))), vr (gR h a0 46)]) O dX12_told_221 ml_X12_372 st_yX12_joined ini_X12 co_yX12_joined yo_yX12_joined rfl rfl (Nat.le_of_ble_eq_true rfl) ⟨by decide, by decide, by decide, by decide⟩ (okX12_joined hw) (k_I fun r221 h221 hw => ?_)
  refine g_iastore O dX12_told_224 c213.1 c213.2 ?_
  refine g_iinc (lc' := [some (vr a0), some (vi x1), none, some (vi x3), some (vi x4), some (vi x5), some (vi x6), some (vi (x7 + (-1 : Int32))), some (vi (x8 + (1 : Int32))), none]) O dX12_told_225 rfl kv_1 rfl rfl ?_
  refine g_goto (tgt := 6) O dX12_told_228 rfl ?_
  exact hB6 _ _ _ hw
theorem okX12_told_6 {E : Ev} {X : Cx} {S : Sh} {Z : Option Nat} {Q : Int32 → Hp → Prop} {a0 : Nat} {x1 : Int32} {x3 : Int32} {x4 : Int32} {x5 : Int32} {x6 : Int32} (O : Ok E X yX12_told cX12_told 10 (some .int) 2 51 0 0 (qI S Z Q)) : ∀ (n : Nat) (h : Hp) (x7 : Int32) (x8 : Int32), wX12_told_6 S a0 x1 x3 x4 x5 x6 Q n h x7 x8 → G E X 0 0 S Z h 6 [some (vr a0), some (vi x1), none, some (vi x3), some (vi x4), some (vi x5), some (vi x6), some (vi x7), some (vi x8), none] [] := by
  intro n
  induction n with
  | zero => intro h x7 x8 hw; exact hw.elim
  | succ n hB6 =>
    intro h x7 x8 hw
    have hw : wX12_told_6b S a0 x1 x3 x4 x5 x6 Q (wX12_told_6 S a0 x1 x3 x4 x5 x6 Q n) h x7 x8 := hw
    unfold wX12_told_6b at hw
    refine g_iload O dX12_told_6 rfl ?_
    refine g_iload_n O dX12_told_8 rfl ?_
    refine g_icmp_ge (tgt := 231) O dX12_told_9 rfl (fun q9 => ?_) (fun q9 => ?_)
    · have hw := hw.1 q9
      refine g_aload_n O dX12_told_231 rfl ?_
      obtain ⟨c232, hw⟩ := hw
      refine gf_X12_pile O dX12_told_232 fl_X12_94 c232 ?_
      refine g_iconst O dX12_told_235 kv_0 ?_
      obtain ⟨c236, hw⟩ := hw
      refine g_iaload O dX12_told_236 c236.1 c236.2 ?_
      exact g_ireturn O dX12_told_237 ⟨rfl, rfl, _, rfl, hw⟩
    · have hw := hw.2 q9
      refine g_aload_n O dX12_told_12 rfl ?_
      obtain ⟨c13, hw⟩ := hw
      refine gf_X12_which O dX12_told_13 fl_X12_91 c13 ?_
      refine g_iload O dX12_told_16 rfl ?_
      obtain ⟨c18, hw⟩ := hw
      refine g_iaload O dX12_told_18 c18.1 c18.2 ?_
      refine g_nmI (fun xv19 e19 => ?_)
      have hw := hw xv19 e19
      refine g_istore (lc' := [some (vr a0), some (vi x1), none, some (vi x3), some (vi x4), some (vi x5), some (vi x6), some (vi x7), some (vi x8), some (vi xv19)]) O dX12_told_19 rfl (Nat.le_of_ble_eq_true rfl) rfl ?_
      refine g_aload_n O dX12_told_21 rfl ?_
      refine gf_X12_what O dX12_told_22 fl_X12_88 c13 ?_
      refine g_iload O dX12_told_25 rfl ?_
      obtain ⟨c27, hw⟩ := hw
      refine g_iaload O dX12_told_27 c27.1 c27.2 ?_
      refine g_tsw O dX12_told_28 (by decide) (by decide) (fun t28 ht => ?_)
      rcases ht with ⟨hx28, ht⟩ | ⟨hx28, ht⟩
      · obtain rfl : t28 = 88 := by have e : (28 : Int) + (60) = (t28 : Int) := ht; omega
        have hw := hw.1 (Int32.toInt_inj.mp hx28)
        refine g_aload_n O dX12_told_88 rfl ?_
        refine gf_X12_pile O dX12_told_89 fl_X12_94 c13 ?_
        refine g_iload O dX12_told_92 rfl ?_
        refine g_iload O dX12_told_94 rfl ?_
        obtain ⟨c96, hw⟩ := hw
        refine g_iastore O dX12_told_96 c96.1 c96.2 ?_
        refine g_iinc (lc' := [some (vr a0), some (vi x1), none, some (vi x3), some (vi x4), some (vi x5), some (vi x6), some (vi (x7 + (1 : Int32))), some (vi x8), some (vi xv19)]) O dX12_told_97 rfl kv_1 rfl rfl ?_
        refine g_goto (tgt := 225) O dX12_told_100 rfl ?_
        refine g_iinc (lc' := [some (vr a0), some (vi x1), none, some (vi x3), some (vi x4), some (vi x5), some (vi x6), some (vi (x7 + (1 : Int32))), some (vi (x8 + (1 : Int32))), some (vi xv19)]) O dX12_told_225 rfl kv_1 rfl rfl ?_
        refine g_goto (tgt := 6) O dX12_told_228 rfl ?_
        refine g_mask [true, true, false, true, true, true, true, true, true, false] rfl rfl ?_
        exact hB6 _ _ _ hw
      · have hw := hw.2 (fun q => hx28 (by rw [q]; rfl))
        rcases ht with ⟨hx28, ht⟩ | ⟨hx28, ht⟩
        · obtain rfl : t28 = 103 := by have e : (28 : Int) + (75) = (t28 : Int) := ht; omega
          have hw := hw.1 (Int32.toInt_inj.mp hx28)
          refine g_aload_n O dX12_told_103 rfl ?_
          refine gf_X12_pile O dX12_told_104 fl_X12_94 c13 ?_
          refine g_iload O dX12_told_107 rfl ?_
          refine g_aload_n O dX12_told_109 rfl ?_
          refine g_iload_n O dX12_told_110 rfl ?_
          refine g_iload O dX12_told_111 rfl ?_
          refine g_iload O dX12_told_113 rfl ?_
          refine g_callV (As := [vi x1, vi x5, vi xv19]) (rest := [vi x7, vr (gR h a0 46)]) O ci_12 rfl dX12_told_115 ml_X12_368 im_yX12_valueOf se_yX12_valueOf ini_X12 co_yX12_valueOf yo_yX12_valueOf c13 rfl rfl (Nat.le_of_ble_eq_true rfl) ⟨by decide, by decide, by decide, by decide⟩ (okX12_valueOf hw) (k_I fun r115 h115 hw => ?_)
          obtain ⟨c118, hw⟩ := hw
          refine g_iastore O dX12_told_118 c118.1 c118.2 ?_
          refine g_iinc (lc' := [some (vr a0), some (vi x1), none, some (vi x3), some (vi x4), some (vi x5), some (vi x6), some (vi (x7 + (1 : Int32))), some (vi x8), some (vi xv19)]) O dX12_told_119 rfl kv_1 rfl rfl ?_
          refine g_goto (tgt := 225) O dX12_told_122 rfl ?_
          refine g_iinc (lc' := [some (vr a0), some (vi x1), none, some (vi x3), some (vi x4), some (vi x5), some (vi x6), some (vi (x7 + (1 : Int32))), some (vi (x8 + (1 : Int32))), some (vi xv19)]) O dX12_told_225 rfl kv_1 rfl rfl ?_
          refine g_goto (tgt := 6) O dX12_told_228 rfl ?_
          refine g_mask [true, true, false, true, true, true, true, true, true, false] rfl rfl ?_
          exact hB6 _ _ _ hw
        · have hw := hw.2 (fun q => hx28 (by rw [q]; rfl))
          rcases ht with ⟨hx28, ht⟩ | ⟨hx28, ht⟩
          · obtain rfl : t28 = 125 := by have e : (28 : Int) + (97) = (t28 : Int) := ht; omega
            have hw := hw.1 (Int32.toInt_inj.mp hx28)
            refine g_aload_n O dX12_told_125 rfl ?_
            refine gf_X12_pile O dX12_told_126 fl_X12_94 c13 ?_
            refine g_iload O dX12_told_129 rfl ?_
            refine g_aload_n O dX12_told_131 rfl ?_
            refine g_iload_n O dX12_told_132 rfl ?_
            refine g_iconst O dX12_told_133 kv_1 ?_
            refine g_isub O dX12_told_134 ?_
            refine g_iload O dX12_told_135 rfl ?_
            refine g_iload O dX12_told_137 rfl ?_
            refine g_callV (As := [vi ((x1 - (1 : Int32))), vi x4, vi xv19]) (rest := [vi x7, vr (gR h a0 46)]) O ci_12 rfl dX12_told_139 ml_X12_368 im_yX12_valueOf se_yX12_valueOf ini_X12 co_yX12_valueOf yo_yX12_valueOf c13 rfl rfl (Nat.le_of_ble_eq_true rfl) ⟨by decide, by decide, by decide, by decide⟩ (okX12_valueOf hw) (k_I fun r139 h139 hw => ?_)
            obtain ⟨c142, hw⟩ := hw
            refine g_iastore O dX12_told_142 c142.1 c142.2 ?_
            refine g_iinc (lc' := [some (vr a0), some (vi x1), none, some (vi x3), some (vi x4), some (vi x5), some (vi x6), some (vi (x7 + (1 : Int32))), some (vi x8), some (vi xv19)]) O dX12_told_143 rfl kv_1 rfl rfl ?_
            refine g_goto (tgt := 225) O dX12_told_146 rfl ?_
            refine g_iinc (lc' := [some (vr a0), some (vi x1), none, some (vi x3), some (vi x4), some (vi x5), some (vi x6), some (vi (x7 + (1 : Int32))), some (vi (x8 + (1 : Int32))), some (vi xv19)]) O dX12_told_225 rfl kv_1 rfl rfl ?_
            refine g_goto (tgt := 6) O dX12_told_228 rfl ?_
            refine g_mask [true, true, false, true, true, true, true, true, true, false] rfl rfl ?_
            exact hB6 _ _ _ hw
          · have hw := hw.2 (fun q => hx28 (by rw [q]; rfl))
            rcases ht with ⟨hx28, ht⟩ | ⟨hx28, ht⟩
            · obtain rfl : t28 = 149 := by have e : (28 : Int) + (121) = (t28 : Int) := ht; omega
              have hw := hw.1 (Int32.toInt_inj.mp hx28)
              refine g_aload_n O dX12_told_149 rfl ?_
              refine gf_X12_pile O dX12_told_150 fl_X12_94 c13 ?_
              refine g_iload O dX12_told_153 rfl ?_
              refine g_iload O dX12_told_155 rfl ?_
              obtain ⟨c157, hw⟩ := hw
              refine g_iastore O dX12_told_157 c157.1 c157.2 ?_
              refine g_iinc (lc' := [some (vr a0), some (vi x1), none, some (vi x3), some (vi x4), some (vi x5), some (vi x6), some (vi (x7 + (1 : Int32))), some (vi x8), some (vi xv19)]) O dX12_told_158 rfl kv_1 rfl rfl ?_
              refine g_goto (tgt := 225) O dX12_told_161 rfl ?_
              refine g_iinc (lc' := [some (vr a0), some (vi x1), none, some (vi x3), some (vi x4), some (vi x5), some (vi x6), some (vi (x7 + (1 : Int32))), some (vi (x8 + (1 : Int32))), some (vi xv19)]) O dX12_told_225 rfl kv_1 rfl rfl ?_
              refine g_goto (tgt := 6) O dX12_told_228 rfl ?_
              refine g_mask [true, true, false, true, true, true, true, true, true, false] rfl rfl ?_
              exact hB6 _ _ _ hw
            · have hw := hw.2 (fun q => hx28 (by rw [q]; rfl))
              rcases ht with ⟨hx28, ht⟩ | ⟨hx28, ht⟩
              · obtain rfl : t28 = 187 := by have e : (28 : Int) + (159) = (t28 : Int) := ht; omega
                have hw := hw.1 (Int32.toInt_inj.mp hx28)
                refine g_mask [true, true, false, true, true, true, true, true, true, false] rfl rfl ?_
                exact okX12_told_j187 O hB6 hw
              · have hw := hw.2 (fun q => hx28 (by rw [q]; rfl))
                rcases ht with ⟨hx28, ht⟩ | ⟨hx28, ht⟩
                · obtain rfl : t28 = 187 := by have e : (28 : Int) + (159) = (t28 : Int) := ht; omega
                  have hw := hw.1 (Int32.toInt_inj.mp hx28)
                  refine g_mask [true, true, false, true, true, true, true, true, true, false] rfl rfl ?_
                  exact okX12_told_j187 O hB6 hw
                · have hw := hw.2 (fun q => hx28 (by rw [q]; rfl))
                  rcases ht with ⟨hx28, ht⟩ | ⟨hx28, ht⟩
                  · obtain rfl : t28 = 187 := by have e : (28 : Int) + (159) = (t28 : Int) := ht; omega
                    have hw := hw.1 (Int32.toInt_inj.mp hx28)
                    refine g_mask [true, true, false, true, true, true, true, true, true, false] rfl rfl ?_
                    exact okX12_told_j187 O hB6 hw
                  · have hw := hw.2 (fun q => hx28 (by rw [q]; rfl))
                    rcases ht with ⟨hx28, ht⟩ | ⟨hx28, ht⟩
                    · obtain rfl : t28 = 187 := by have e : (28 : Int) + (159) = (t28 : Int) := ht; omega
                      have hw := hw.1 (Int32.toInt_inj.mp hx28)
                      refine g_mask [true, true, false, true, true, true, true, true, true, false] rfl rfl ?_
                      exact okX12_told_j187 O hB6 hw
                    · have hw := hw.2 (fun q => hx28 (by rw [q]; rfl))
                      rcases ht with ⟨hx28, ht⟩ | ⟨hx28, ht⟩
                      · obtain rfl : t28 = 187 := by have e : (28 : Int) + (159) = (t28 : Int) := ht; omega
                        have hw := hw.1 (Int32.toInt_inj.mp hx28)
                        refine g_mask [true, true, false, true, true, true, true, true, true, false] rfl rfl ?_
                        exact okX12_told_j187 O hB6 hw
                      · have hw := hw.2 (fun q => hx28 (by rw [q]; rfl))
                        rcases ht with ⟨hx28, ht⟩ | ⟨hx28, ht⟩
                        · obtain rfl : t28 = 187 := by have e : (28 : Int) + (159) = (t28 : Int) := ht; omega
                          have hw := hw.1 (Int32.toInt_inj.mp hx28)
                          refine g_mask [true, true, false, true, true, true, true, true, true, false] rfl rfl ?_
                          exact okX12_told_j187 O hB6 hw
                        · have hw := hw.2 (fun q => hx28 (by rw [q]; rfl))
                          rcases ht with ⟨hx28, ht⟩ | ⟨hx28, ht⟩
                          · obtain rfl : t28 = 164 := by have e : (28 : Int) + (136) = (t28 : Int) := ht; omega
                            have hw := hw.1 (Int32.toInt_inj.mp hx28)
                            refine g_aload_n O dX12_told_164 rfl ?_
                            refine gf_X12_pile O dX12_told_165 fl_X12_94 c13 ?_
                            refine g_iload O dX12_told_168 rfl ?_
                            refine g_iconst O dX12_told_170 kv_1 ?_
                            refine g_isub O dX12_told_171 ?_
                            refine g_iconst O dX12_told_172 kv_1 ?_
                            refine g_aload_n O dX12_told_173 rfl ?_
                            refine gf_X12_pile O dX12_told_174 fl_X12_94 c13 ?_
                            refine g_iload O dX12_told_177 rfl ?_
                            refine g_iconst O dX12_told_179 kv_1 ?_
                            refine g_isub O dX12_told_180 ?_
                            obtain ⟨c181, hw⟩ := hw
                            refine g_iaload O dX12_told_181 c181.1 c181.2 ?_
                            refine g_isub O dX12_told_182 ?_
                            refine g_iastore O dX12_told_183 c181.1 c181.2 ?_
                            refine g_goto (tgt := 225) O dX12_told_184 rfl ?_
                            refine g_iinc (lc' := [some (vr a0), some (vi x1), none, some (vi x3), some (vi x4), some (vi x5), some (vi x6), some (vi x7), some (vi (x8 + (1 : Int32))), some (vi xv19)]) O dX12_told_225 rfl kv_1 rfl rfl ?_
                            refine g_goto (tgt := 6) O dX12_told_228 rfl ?_
                            refine g_mask [true, true, false, true, true, true, true, true, true, false] rfl rfl ?_
                            exact hB6 _ _ _ hw
                          · have hw := hw.2 (fun q => hx28 (by rw [q]; rfl))
                            obtain rfl : t28 = 187 := by have e : (28 : Int) + (159) = (t28 : Int) := ht; omega
                            refine g_mask [true, true, false, true, true, true, true, true, true, false] rfl rfl ?_
                            exact okX12_told_j187 O hB6 hw
theorem okX12_told {E : Ev} {S : Sh} {Z : Option Nat} {Q : Int32 → Hp → Prop} {h : Hp} {a0 : Nat} {x1 : Int32} {x2 : Int32} {x3 : Int32} {x4 : Int32} {x5 : Int32} {x6 : Int32} (hw : wX12_told S h a0 x1 x2 x3 x4 x5 x6 Q) : Ct E yX12_told cX12_told 10 (some .int) 2 51 0 0 S Z h [vr a0, vi x1, vi x2, vi x3, vi x4, vi x5, vi x6] (qI S Z Q) := by
  refine Ct.of (by decide) (lc := [some (vr a0), some (vi x1), some (vi x2), some (vi x3), some (vi x4), some (vi x5), some (vi x6), none, none, none]) (Nat.le_of_ble_eq_true rfl) rfl (fun X O => ?_)
  unfold wX12_told at hw
  refine g_iconst O dX12_told_0 kv_0 ?_
  refine g_istore (lc' := [some (vr a0), some (vi x1), some (vi x2), some (vi x3), some (vi x4), some (vi x5), some (vi x6), some (vi (0 : Int32)), none, none]) O dX12_told_1 rfl (Nat.le_of_ble_eq_true rfl) rfl ?_
  refine g_iload_n O dX12_told_3 rfl ?_
  refine g_istore (lc' := [some (vr a0), some (vi x1), some (vi x2), some (vi x3), some (vi x4), some (vi x5), some (vi x6), some (vi (0 : Int32)), some (vi x2), none]) O dX12_told_4 rfl (Nat.le_of_ble_eq_true rfl) rfl ?_
  refine g_mask [true, true, false, true, true, true, true, true, true, false] rfl rfl ?_
  obtain ⟨n6, hw⟩ := hw
  exact okX12_told_6 O n6 _ _ _ hw
theorem dX12_canBe_0 : decode cX12_canBe 0 = .ok (.iconst 4, 1) := by decide +kernel
theorem dX12_canBe_1 : decode cX12_canBe 1 = .ok (.iload_n 1, 1) := by decide +kernel
theorem dX12_canBe_2 : decode cX12_canBe 2 = .ok (.imul, 1) := by decide +kernel
theorem dX12_canBe_3 : decode cX12_canBe 3 = .ok (.iload_n 2, 1) := by decide +kernel
theorem dX12_canBe_4 : decode cX12_canBe 4 = .ok (.iadd, 1) := by decide +kernel
theorem dX12_canBe_5 : decode cX12_canBe 5 = .ok (.istore 5, 2) := by decide +kernel
theorem dX12_canBe_7 : decode cX12_canBe 7 = .ok (.aload_n 0, 1) := by decide +kernel
theorem dX12_canBe_8 : decode cX12_canBe 8 = .ok (.getfield 84, 3) := by decide +kernel
theorem dX12_canBe_11 : decode cX12_canBe 11 = .ok (.iload 5, 2) := by decide +kernel
theorem dX12_canBe_13 : decode cX12_canBe 13 = .ok (.baload, 1) := by decide +kernel
theorem dX12_canBe_14 : decode cX12_canBe 14 = .ok (.ifCond .ne 34, 3) := by decide +kernel
theorem dX12_canBe_17 : decode cX12_canBe 17 = .ok (.aload_n 0, 1) := by decide +kernel
theorem dX12_canBe_18 : decode cX12_canBe 18 = .ok (.iload_n 1, 1) := by decide +kernel
theorem dX12_canBe_19 : decode cX12_canBe 19 = .ok (.aload_n 0, 1) := by decide +kernel
theorem dX12_canBe_20 : decode cX12_canBe 20 = .ok (.getfield 69, 3) := by decide +kernel
theorem dX12_canBe_23 : decode cX12_canBe 23 = .ok (.iload 5, 2) := by decide +kernel
theorem dX12_canBe_25 : decode cX12_canBe 25 = .ok (.iaload, 1) := by decide +kernel
theorem dX12_canBe_26 : decode cX12_canBe 26 = .ok (.aload_n 0, 1) := by decide +kernel
theorem dX12_canBe_27 : decode cX12_canBe 27 = .ok (.getfield 72, 3) := by decide +kernel
theorem dX12_canBe_30 : decode cX12_canBe 30 = .ok (.iload 5, 2) := by decide +kernel
theorem dX12_canBe_32 : decode cX12_canBe 32 = .ok (.iaload, 1) := by decide +kernel
theorem dX12_canBe_33 : decode cX12_canBe 33 = .ok (.iconst 0, 1) := by decide +kernel
theorem dX12_canBe_34 : decode cX12_canBe 34 = .ok (.iload_n 3, 1) := by decide +kernel
theorem dX12_canBe_35 : decode cX12_canBe 35 = .ok (.iload 4, 2) := by decide +kernel
theorem dX12_canBe_37 : decode cX12_canBe 37 = .ok (.invokevirtual 375, 3) := by decide +kernel
theorem dX12_canBe_40 : decode cX12_canBe 40 = .ok (.iconst 1, 1) := by decide +kernel
theorem dX12_canBe_41 : decode cX12_canBe 41 = .ok (.if_icmp .ne 7, 3) := by decide +kernel
theorem dX12_canBe_44 : decode cX12_canBe 44 = .ok (.iconst 1, 1) := by decide +kernel
theorem dX12_canBe_45 : decode cX12_canBe 45 = .ok (.goto 4, 3) := by decide +kernel
theorem dX12_canBe_48 : decode cX12_canBe 48 = .ok (.iconst 0, 1) := by decide +kernel
theorem dX12_canBe_49 : decode cX12_canBe 49 = .ok (.ireturn, 1) := by decide +kernel
theorem okX12_canBe {E : Ev} {S : Sh} {Z : Option Nat} {Q : Int32 → Hp → Prop} {h : Hp} {a0 : Nat} {x1 : Int32} {x2 : Int32} {x3 : Int32} {x4 : Int32} (hw : wX12_canBe S h a0 x1 x2 x3 x4 Q) : Ct E yX12_canBe cX12_canBe 6 (some .boolean) 3 80 0 0 S Z h [vr a0, vi x1, vi x2, vi x3, vi x4] (qI S Z Q) := by
  refine Ct.of (by decide) (lc := [some (vr a0), some (vi x1), some (vi x2), some (vi x3), some (vi x4), none]) (Nat.le_of_ble_eq_true rfl) rfl (fun X O => ?_)
  unfold wX12_canBe at hw
  refine g_iconst O dX12_canBe_0 kv_4 ?_
  refine g_iload_n O dX12_canBe_1 rfl ?_
  refine g_imul O dX12_canBe_2 ?_
  refine g_iload_n O dX12_canBe_3 rfl ?_
  refine g_iadd O dX12_canBe_4 ?_
  refine g_nmI (fun xv5 e5 => ?_)
  have hw := hw xv5 e5
  refine g_istore (lc' := [some (vr a0), some (vi x1), some (vi x2), some (vi x3), some (vi x4), some (vi xv5)]) O dX12_canBe_5 rfl (Nat.le_of_ble_eq_true rfl) rfl ?_
  refine g_aload_n O dX12_canBe_7 rfl ?_
  obtain ⟨c8, hw⟩ := hw
  refine gf_X12_isAside O dX12_canBe_8 fl_X12_84 c8 ?_
  refine g_iload O dX12_canBe_11 rfl ?_
  obtain ⟨c13, hw⟩ := hw
  refine g_zaload O dX12_canBe_13 c13.1 c13.2 ?_
  refine g_if_ne (tgt := 48) O dX12_canBe_14 rfl (fun q14 => ?_) (fun q14 => ?_)
  · have hw := hw.1 q14
    refine g_iconst O dX12_canBe_48 kv_0 ?_
    exact g_zreturn O dX12_canBe_49 (by decide) ⟨rfl, rfl, _, rfl, hw⟩
  · have hw := hw.2 q14
    refine g_aload_n O dX12_canBe_17 rfl ?_
    refine g_iload_n O dX12_canBe_18 rfl ?_
    refine g_aload_n O dX12_canBe_19 rfl ?_
    refine gf_X12_guardFrom O dX12_canBe_20 fl_X12_69 c8 ?_
    refine g_iload O dX12_canBe_23 rfl ?_
    obtain ⟨c25, hw⟩ := hw
    refine g_iaload O dX12_canBe_25 c25.1 c25.2 ?_
    refine g_aload_n O dX12_canBe_26 rfl ?_
    refine gf_X12_guardTo O dX12_canBe_27 fl_X12_72 c8 ?_
    refine g_iload O dX12_canBe_30 rfl ?_
    obtain ⟨c32, hw⟩ := hw
    refine g_iaload O dX12_canBe_32 c32.1 c32.2 ?_
    refine g_iconst O dX12_canBe_33 kv_0 ?_
    refine g_iload_n O dX12_canBe_34 rfl ?_
    refine g_iload O dX12_canBe_35 rfl ?_
    refine g_callV (As := [vi x1, vi ((gI h (gR h a0 31) (ix xv5))), vi ((gI h (gR h a0 32) (ix xv5))), vi (0 : Int32), vi x3, vi x4]) (rest := []) O ci_12 rfl dX12_canBe_37 ml_X12_375 im_yX12_told se_yX12_told ini_X12 co_yX12_told yo_yX12_told c8 rfl rfl (Nat.le_of_ble_eq_true rfl) ⟨by decide, by decide, by decide, by decide⟩ (okX12_told hw) (k_I fun r37 h37 hw => ?_)
    refine g_iconst O dX12_canBe_40 kv_1 ?_
    refine g_icmp_ne (tgt := 48) O dX12_canBe_41 rfl (fun q41 => ?_) (fun q41 => ?_)
    · have hw := hw.1 q41
      refine g_iconst O dX12_canBe_48 kv_0 ?_
      exact g_zreturn O dX12_canBe_49 (by decide) ⟨rfl, rfl, _, rfl, hw⟩
    · have hw := hw.2 q41
      refine g_iconst O dX12_canBe_44 kv_1 ?_
      refine g_goto (tgt := 49) O dX12_canBe_45 rfl ?_
      exact g_zreturn O dX12_canBe_49 (by decide) ⟨rfl, rfl, _, rfl, hw⟩
theorem dX12_isPick_0 : decode cX12_isPick 0 = .ok (.iload_n 3, 1) := by decide +kernel
theorem dX12_isPick_1 : decode cX12_isPick 1 = .ok (.aload_n 0, 1) := by decide +kernel
theorem dX12_isPick_2 : decode cX12_isPick 2 = .ok (.getfield 63, 3) := by decide +kernel
theorem dX12_isPick_5 : decode cX12_isPick 5 = .ok (.iconst 4, 1) := by decide +kernel
theorem dX12_isPick_6 : decode cX12_isPick 6 = .ok (.iload_n 1, 1) := by decide +kernel
theorem dX12_isPick_7 : decode cX12_isPick 7 = .ok (.imul, 1) := by decide +kernel
theorem dX12_isPick_8 : decode cX12_isPick 8 = .ok (.iload_n 2, 1) := by decide +kernel
theorem dX12_isPick_9 : decode cX12_isPick 9 = .ok (.iadd, 1) := by decide +kernel
theorem dX12_isPick_10 : decode cX12_isPick 10 = .ok (.iaload, 1) := by decide +kernel
theorem dX12_isPick_11 : decode cX12_isPick 11 = .ok (.aload_n 0, 1) := by decide +kernel
theorem dX12_isPick_12 : decode cX12_isPick 12 = .ok (.getfield 66, 3) := by decide +kernel
theorem dX12_isPick_15 : decode cX12_isPick 15 = .ok (.iconst 4, 1) := by decide +kernel
theorem dX12_isPick_16 : decode cX12_isPick 16 = .ok (.iload_n 1, 1) := by decide +kernel
theorem dX12_isPick_17 : decode cX12_isPick 17 = .ok (.imul, 1) := by decide +kernel
theorem dX12_isPick_18 : decode cX12_isPick 18 = .ok (.iload_n 2, 1) := by decide +kernel
theorem dX12_isPick_19 : decode cX12_isPick 19 = .ok (.iadd, 1) := by decide +kernel
theorem dX12_isPick_20 : decode cX12_isPick 20 = .ok (.iaload, 1) := by decide +kernel
theorem dX12_isPick_21 : decode cX12_isPick 21 = .ok (.invokestatic 142, 3) := by decide +kernel
theorem dX12_isPick_24 : decode cX12_isPick 24 = .ok (.ireturn, 1) := by decide +kernel
theorem okX12_isPick {E : Ev} {S : Sh} {Z : Option Nat} {Q : Int32 → Hp → Prop} {h : Hp} {a0 : Nat} {x1 : Int32} {x2 : Int32} {x3 : Int32} (hw : wX12_isPick S h a0 x1 x2 x3 Q) : Ct E yX12_isPick cX12_isPick 4 (some .boolean) 2 46 0 0 S Z h [vr a0, vi x1, vi x2, vi x3] (qI S Z Q) := by
  refine Ct.of (by decide) (lc := [some (vr a0), some (vi x1), some (vi x2), some (vi x3)]) (Nat.le_of_ble_eq_true rfl) rfl (fun X O => ?_)
  unfold wX12_isPick at hw
  refine g_iload_n O dX12_isPick_0 rfl ?_
  refine g_aload_n O dX12_isPick_1 rfl ?_
  obtain ⟨c2, hw⟩ := hw
  refine gf_X12_firstPick O dX12_isPick_2 fl_X12_63 c2 ?_
  refine g_iconst O dX12_isPick_5 kv_4 ?_
  refine g_iload_n O dX12_isPick_6 rfl ?_
  refine g_imul O dX12_isPick_7 ?_
  refine g_iload_n O dX12_isPick_8 rfl ?_
  refine g_iadd O dX12_isPick_9 ?_
  obtain ⟨c10, hw⟩ := hw
  refine g_iaload O dX12_isPick_10 c10.1 c10.2 ?_
  refine g_aload_n O dX12_isPick_11 rfl ?_
  refine gf_X12_lastPick O dX12_isPick_12 fl_X12_66 c2 ?_
  refine g_iconst O dX12_isPick_15 kv_4 ?_
  refine g_iload_n O dX12_isPick_16 rfl ?_
  refine g_imul O dX12_isPick_17 ?_
  refine g_iload_n O dX12_isPick_18 rfl ?_
  refine g_iadd O dX12_isPick_19 ?_
  obtain ⟨c20, hw⟩ := hw
  refine g_iaload O dX12_isPick_20 c20.1 c20.2 ?_
  refine g_callS (As := [vi x3, vi ((gI h (gR h a0 29) (ix ((((4 : Int32) * x1) + x2))))), vi ((gI h (gR h a0 30) (ix ((((4 : Int32) * x1) + x2)))))]) (rest := []) O dX12_isPick_21 ml_X12_142 st_yX12_in ini_X12 co_yX12_in yo_yX12_in rfl rfl (Nat.le_of_ble_eq_true rfl) ⟨by decide, by decide, by decide, by decide⟩ (okX12_in hw) (k_I fun r21 h21 hw => ?_)
  obtain ⟨c24z, hw⟩ := hw
  exact g_zreturn O dX12_isPick_24 c24z ⟨rfl, rfl, _, rfl, hw⟩
theorem dX12_can_0 : decode cX12_can 0 = .ok (.aload_n 0, 1) := by decide +kernel
theorem dX12_can_1 : decode cX12_can 1 = .ok (.iconst 0, 1) := by decide +kernel
theorem dX12_can_2 : decode cX12_can 2 = .ok (.putfield 121, 3) := by decide +kernel
theorem dX12_can_5 : decode cX12_can 5 = .ok (.aload_n 0, 1) := by decide +kernel
theorem dX12_can_6 : decode cX12_can 6 = .ok (.iload_n 1, 1) := by decide +kernel
theorem dX12_can_7 : decode cX12_can 7 = .ok (.iload_n 2, 1) := by decide +kernel
theorem dX12_can_8 : decode cX12_can 8 = .ok (.invokevirtual 402, 3) := by decide +kernel
theorem dX12_can_11 : decode cX12_can 11 = .ok (.ifCond .eq 12, 3) := by decide +kernel
theorem dX12_can_14 : decode cX12_can 14 = .ok (.aload_n 0, 1) := by decide +kernel
theorem dX12_can_15 : decode cX12_can 15 = .ok (.iload_n 1, 1) := by decide +kernel
theorem dX12_can_16 : decode cX12_can 16 = .ok (.iload_n 3, 1) := by decide +kernel
theorem dX12_can_17 : decode cX12_can 17 = .ok (.invokevirtual 405, 3) := by decide +kernel
theorem dX12_can_20 : decode cX12_can 20 = .ok (.ifCond .ne 9, 3) := by decide +kernel
theorem dX12_can_23 : decode cX12_can 23 = .ok (.aload_n 0, 1) := by decide +kernel
theorem dX12_can_24 : decode cX12_can 24 = .ok (.iconst 1, 1) := by decide +kernel
theorem dX12_can_25 : decode cX12_can 25 = .ok (.invokevirtual 350, 3) := by decide +kernel
theorem dX12_can_28 : decode cX12_can 28 = .ok (.ireturn, 1) := by decide +kernel
theorem dX12_can_29 : decode cX12_can 29 = .ok (.aload_n 0, 1) := by decide +kernel
theorem dX12_can_30 : decode cX12_can 30 = .ok (.iload_n 1, 1) := by decide +kernel
theorem dX12_can_31 : decode cX12_can 31 = .ok (.iload_n 2, 1) := by decide +kernel
theorem dX12_can_32 : decode cX12_can 32 = .ok (.iload 4, 2) := by decide +kernel
theorem dX12_can_34 : decode cX12_can 34 = .ok (.invokevirtual 408, 3) := by decide +kernel
theorem dX12_can_37 : decode cX12_can 37 = .ok (.ifCond .ne 9, 3) := by decide +kernel
theorem dX12_can_40 : decode cX12_can 40 = .ok (.aload_n 0, 1) := by decide +kernel
theorem dX12_can_41 : decode cX12_can 41 = .ok (.iconst 2, 1) := by decide +kernel
theorem dX12_can_42 : decode cX12_can 42 = .ok (.invokevirtual 350, 3) := by decide +kernel
theorem dX12_can_45 : decode cX12_can 45 = .ok (.ireturn, 1) := by decide +kernel
theorem dX12_can_46 : decode cX12_can 46 = .ok (.aload_n 0, 1) := by decide +kernel
theorem dX12_can_47 : decode cX12_can 47 = .ok (.aload_n 0, 1) := by decide +kernel
theorem dX12_can_48 : decode cX12_can 48 = .ok (.iload_n 1, 1) := by decide +kernel
theorem dX12_can_49 : decode cX12_can 49 = .ok (.iload_n 2, 1) := by decide +kernel
theorem dX12_can_50 : decode cX12_can 50 = .ok (.iload_n 3, 1) := by decide +kernel
theorem dX12_can_51 : decode cX12_can 51 = .ok (.iload 4, 2) := by decide +kernel
theorem dX12_can_53 : decode cX12_can 53 = .ok (.invokevirtual 385, 3) := by decide +kernel
theorem dX12_can_56 : decode cX12_can 56 = .ok (.ifCond .eq 7, 3) := by decide +kernel
theorem dX12_can_59 : decode cX12_can 59 = .ok (.iconst 1, 1) := by decide +kernel
theorem dX12_can_60 : decode cX12_can 60 = .ok (.goto 4, 3) := by decide +kernel
theorem dX12_can_63 : decode cX12_can 63 = .ok (.iconst 0, 1) := by decide +kernel
theorem dX12_can_64 : decode cX12_can 64 = .ok (.invokevirtual 365, 3) := by decide +kernel
theorem dX12_can_67 : decode cX12_can 67 = .ok (.ireturn, 1) := by decide +kernel
theorem okX12_can {E : Ev} {S : Sh} {Z : Option Nat} {Q : Int32 → Hp → Prop} {h : Hp} {a0 : Nat} {x1 : Int32} {x2 : Int32} {x3 : Int32} {x4 : Int32} (hw : wX12_can S h a0 x1 x2 x3 x4 Q) : Ct E yX12_can cX12_can 5 (some .int) 4 105 0 0 S Z h [vr a0, vi x1, vi x2, vi x3, vi x4] (qI S Z Q) := by
  refine Ct.of (by decide) (lc := [some (vr a0), some (vi x1), some (vi x2), some (vi x3), some (vi x4)]) (Nat.le_of_ble_eq_true rfl) rfl (fun X O => ?_)
  unfold wX12_can at hw
  refine g_aload_n O dX12_can_0 rfl ?_
  refine g_iconst O dX12_can_1 kv_0 ?_
  obtain ⟨c2, hw⟩ := hw
  refine pf_X12_thrown O dX12_can_2 fl_X12_121 c2 ?_
  refine g_aload_n O dX12_can_5 rfl ?_
  refine g_iload_n O dX12_can_6 rfl ?_
  refine g_iload_n O dX12_can_7 rfl ?_
  refine g_callV (As := [vi x1, vi x2]) (rest := []) O ci_12 rfl dX12_can_8 ml_X12_402 im_yX12_isEvent se_yX12_isEvent ini_X12 co_yX12_isEvent yo_yX12_isEvent c2 rfl rfl (Nat.le_of_ble_eq_true rfl) ⟨by decide, by decide, by decide, by decide⟩ (okX12_isEvent hw) (k_I fun r8 h8 hw => ?_)
  refine g_if_eq (tgt := 23) O dX12_can_11 rfl (fun q11 => ?_) (fun q11 => ?_)
  · have hw := hw.1 q11
    refine g_aload_n O dX12_can_23 rfl ?_
    refine g_iconst O dX12_can_24 kv_1 ?_
    refine g_callV (As := [vi (1 : Int32)]) (rest := []) O ci_12 rfl dX12_can_25 ml_X12_350 im_yX12_refused se_yX12_refused ini_X12 co_yX12_refused yo_yX12_refused c2 rfl rfl (Nat.le_of_ble_eq_true rfl) ⟨by decide, by decide, by decide, by decide⟩ (okX12_refused hw) (k_I fun r25 h25 hw => ?_)
    exact g_ireturn O dX12_can_28 ⟨rfl, rfl, _, rfl, hw⟩
  · have hw := hw.2 q11
    refine g_aload_n O dX12_can_14 rfl ?_
    refine g_iload_n O dX12_can_15 rfl ?_
    refine g_iload_n O dX12_can_16 rfl ?_
    refine g_callV (As := [vi x1, vi x3]) (rest := []) O ci_12 rfl dX12_can_17 ml_X12_405 im_yX12_isState se_yX12_isState ini_X12 co_yX12_isState yo_yX12_isState c2 rfl rfl (Nat.le_of_ble_eq_true rfl) ⟨by decide, by decide, by decide, by decide⟩ (okX12_isState hw) (k_I fun r17 h17 hw => ?_)
    refine g_if_ne (tgt := 29) O dX12_can_20 rfl (fun q20 => ?_) (fun q20 => ?_)
    · have hw := hw.1 q20
      refine g_aload_n O dX12_can_29 rfl ?_
      refine g_iload_n O dX12_can_30 rfl ?_
      refine g_iload_n O dX12_can_31 rfl ?_
      refine g_iload O dX12_can_32 rfl ?_
      refine g_callV (As := [vi x1, vi x2, vi x4]) (rest := []) O ci_12 rfl dX12_can_34 ml_X12_408 im_yX12_isPick se_yX12_isPick ini_X12 co_yX12_isPick yo_yX12_isPick c2 rfl rfl (Nat.le_of_ble_eq_true rfl) ⟨by decide, by decide, by decide, by decide⟩ (okX12_isPick hw) (k_I fun r34 h34 hw => ?_)
      refine g_if_ne (tgt := 46) O dX12_can_37 rfl (fun q37 => ?_) (fun q37 => ?_)
      · have hw := hw.1 q37
        refine g_aload_n O dX12_can_46 rfl ?_
        refine g_aload_n O dX12_can_47 rfl ?_
        refine g_iload_n O dX12_can_48 rfl ?_
        refine g_iload_n O dX12_can_49 rfl ?_
        refine g_iload_n O dX12_can_50 rfl ?_
        refine g_iload O dX12_can_51 rfl ?_
        refine g_callV (As := [vi x1, vi x2, vi x3, vi x4]) (rest := [vr a0]) O ci_12 rfl dX12_can_53 ml_X12_385 im_yX12_canBe se_yX12_canBe ini_X12 co_yX12_canBe yo_yX12_canBe c2 rfl rfl (Nat.le_of_ble_eq_true rfl) ⟨by decide, by decide, by decide, by decide⟩ (okX12_canBe hw) (k_I fun r53 h53 hw => ?_)
        refine g_if_eq (tgt := 63) O dX12_can_56 rfl (fun q56 => ?_) (fun q56 => ?_)
        · have hw := hw.1 q56
          refine g_iconst O dX12_can_63 kv_0 ?_
          refine g_callV (As := [vi (0 : Int32)]) (rest := []) O ci_12 rfl dX12_can_64 ml_X12_365 im_yX12_good se_yX12_good ini_X12 co_yX12_good yo_yX12_good c2 rfl rfl (Nat.le_of_ble_eq_true rfl) ⟨by decide, by decide, by decide, by decide⟩ (okX12_good hw) (k_I fun r64 h64 hw => ?_)
          exact g_ireturn O dX12_can_67 ⟨rfl, rfl, _, rfl, hw⟩
        · have hw := hw.2 q56
          refine g_iconst O dX12_can_59 kv_1 ?_
          refine g_goto (tgt := 64) O dX12_can_60 rfl ?_
          refine g_callV (As := [vi (1 : Int32)]) (rest := []) O ci_12 rfl dX12_can_64 ml_X12_365 im_yX12_good se_yX12_good ini_X12 co_yX12_good yo_yX12_good c2 rfl rfl (Nat.le_of_ble_eq_true rfl) ⟨by decide, by decide, by decide, by decide⟩ (okX12_good hw) (k_I fun r64 h64 hw => ?_)
          exact g_ireturn O dX12_can_67 ⟨rfl, rfl, _, rfl, hw⟩
      · have hw := hw.2 q37
        refine g_aload_n O dX12_can_40 rfl ?_
        refine g_iconst O dX12_can_41 kv_2 ?_
        refine g_callV (As := [vi (2 : Int32)]) (rest := []) O ci_12 rfl dX12_can_42 ml_X12_350 im_yX12_refused se_yX12_refused ini_X12 co_yX12_refused yo_yX12_refused c2 rfl rfl (Nat.le_of_ble_eq_true rfl) ⟨by decide, by decide, by decide, by decide⟩ (okX12_refused hw) (k_I fun r42 h42 hw => ?_)
        exact g_ireturn O dX12_can_45 ⟨rfl, rfl, _, rfl, hw⟩
    · have hw := hw.2 q20
      refine g_aload_n O dX12_can_23 rfl ?_
      refine g_iconst O dX12_can_24 kv_1 ?_
      refine g_callV (As := [vi (1 : Int32)]) (rest := []) O ci_12 rfl dX12_can_25 ml_X12_350 im_yX12_refused se_yX12_refused ini_X12 co_yX12_refused yo_yX12_refused c2 rfl rfl (Nat.le_of_ble_eq_true rfl) ⟨by decide, by decide, by decide, by decide⟩ (okX12_refused hw) (k_I fun r25 h25 hw => ?_)
      exact g_ireturn O dX12_can_28 ⟨rfl, rfl, _, rfl, hw⟩
theorem dX12_canBeAny_0 : decode cX12_canBeAny 0 = .ok (.aload_n 0, 1) := by decide +kernel
theorem dX12_canBeAny_1 : decode cX12_canBeAny 1 = .ok (.getfield 63, 3) := by decide +kernel
theorem dX12_canBeAny_4 : decode cX12_canBeAny 4 = .ok (.iconst 4, 1) := by decide +kernel
theorem dX12_canBeAny_5 : decode cX12_canBeAny 5 = .ok (.iload_n 1, 1) := by decide +kernel
theorem dX12_canBeAny_6 : decode cX12_canBeAny 6 = .ok (.imul, 1) := by decide +kernel
theorem dX12_canBeAny_7 : decode cX12_canBeAny 7 = .ok (.iload_n 2, 1) := by decide +kernel
theorem dX12_canBeAny_8 : decode cX12_canBeAny 8 = .ok (.iadd, 1) := by decide +kernel
theorem dX12_canBeAny_9 : decode cX12_canBeAny 9 = .ok (.iaload, 1) := by decide +kernel
theorem dX12_canBeAny_10 : decode cX12_canBeAny 10 = .ok (.istore 4, 2) := by decide +kernel
theorem dX12_canBeAny_12 : decode cX12_canBeAny 12 = .ok (.iload 4, 2) := by decide +kernel
theorem dX12_canBeAny_14 : decode cX12_canBeAny 14 = .ok (.aload_n 0, 1) := by decide +kernel
theorem dX12_canBeAny_15 : decode cX12_canBeAny 15 = .ok (.getfield 66, 3) := by decide +kernel
theorem dX12_canBeAny_18 : decode cX12_canBeAny 18 = .ok (.iconst 4, 1) := by decide +kernel
theorem dX12_canBeAny_19 : decode cX12_canBeAny 19 = .ok (.iload_n 1, 1) := by decide +kernel
theorem dX12_canBeAny_20 : decode cX12_canBeAny 20 = .ok (.imul, 1) := by decide +kernel
theorem dX12_canBeAny_21 : decode cX12_canBeAny 21 = .ok (.iload_n 2, 1) := by decide +kernel
theorem dX12_canBeAny_22 : decode cX12_canBeAny 22 = .ok (.iadd, 1) := by decide +kernel
theorem dX12_canBeAny_23 : decode cX12_canBeAny 23 = .ok (.iaload, 1) := by decide +kernel
theorem dX12_canBeAny_24 : decode cX12_canBeAny 24 = .ok (.if_icmp .gt 23, 3) := by decide +kernel
theorem dX12_canBeAny_27 : decode cX12_canBeAny 27 = .ok (.aload_n 0, 1) := by decide +kernel
theorem dX12_canBeAny_28 : decode cX12_canBeAny 28 = .ok (.iload_n 1, 1) := by decide +kernel
theorem dX12_canBeAny_29 : decode cX12_canBeAny 29 = .ok (.iload_n 2, 1) := by decide +kernel
theorem dX12_canBeAny_30 : decode cX12_canBeAny 30 = .ok (.iload_n 3, 1) := by decide +kernel
theorem dX12_canBeAny_31 : decode cX12_canBeAny 31 = .ok (.iload 4, 2) := by decide +kernel
theorem dX12_canBeAny_33 : decode cX12_canBeAny 33 = .ok (.invokevirtual 385, 3) := by decide +kernel
theorem dX12_canBeAny_36 : decode cX12_canBeAny 36 = .ok (.ifCond .eq 5, 3) := by decide +kernel
theorem dX12_canBeAny_39 : decode cX12_canBeAny 39 = .ok (.iconst 1, 1) := by decide +kernel
theorem dX12_canBeAny_40 : decode cX12_canBeAny 40 = .ok (.ireturn, 1) := by decide +kernel
theorem dX12_canBeAny_41 : decode cX12_canBeAny 41 = .ok (.iinc 4 1, 3) := by decide +kernel
theorem dX12_canBeAny_44 : decode cX12_canBeAny 44 = .ok (.goto (-32), 3) := by decide +kernel
theorem dX12_canBeAny_47 : decode cX12_canBeAny 47 = .ok (.iconst 0, 1) := by decide +kernel
theorem dX12_canBeAny_48 : decode cX12_canBeAny 48 = .ok (.ireturn, 1) := by decide +kernel
theorem okX12_canBeAny_12 {E : Ev} {X : Cx} {S : Sh} {Z : Option Nat} {Q : Int32 → Hp → Prop} {a0 : Nat} {x1 : Int32} {x2 : Int32} {x3 : Int32} (O : Ok E X yX12_canBeAny cX12_canBeAny 5 (some .boolean) 4 105 0 0 (qI S Z Q)) : ∀ (n : Nat) (h : Hp) (x4 : Int32), wX12_canBeAny_12 S a0 x1 x2 x3 Q n h x4 → G E X 0 0 S Z h 12 [some (vr a0), some (vi x1), some (vi x2), some (vi x3), some (vi x4)] [] := by
  intro n
  induction n with
  | zero => intro h x4 hw; exact hw.elim
  | succ n hB12 =>
    intro h x4 hw
    have hw : wX12_canBeAny_12b S a0 x1 x2 x3 Q (wX12_canBeAny_12 S a0 x1 x2 x3 Q n) h x4 := hw
    unfold wX12_canBeAny_12b at hw
    refine g_iload O dX12_canBeAny_12 rfl ?_
    refine g_aload_n O dX12_canBeAny_14 rfl ?_
    obtain ⟨c15, hw⟩ := hw
    refine gf_X12_lastPick O dX12_canBeAny_15 fl_X12_66 c15 ?_
    refine g_iconst O dX12_canBeAny_18 kv_4 ?_
    refine g_iload_n O dX12_canBeAny_19 rfl ?_
    refine g_imul O dX12_canBeAny_20 ?_
    refine g_iload_n O dX12_canBeAny_21 rfl ?_
    refine g_iadd O dX12_canBeAny_22 ?_
    obtain ⟨c23, hw⟩ := hw
    refine g_iaload O dX12_canBeAny_23 c23.1 c23.2 ?_
    refine g_icmp_gt (tgt := 47) O dX12_canBeAny_24 rfl (fun q24 => ?_) (fun q24 => ?_)
    · have hw := hw.1 q24
      refine g_iconst O dX12_canBeAny_47 kv_0 ?_
      exact g_zreturn O dX12_canBeAny_48 (by decide) ⟨rfl, rfl, _, rfl, hw⟩
    · have hw := hw.2 q24
      refine g_aload_n O dX12_canBeAny_27 rfl ?_
      refine g_iload_n O dX12_canBeAny_28 rfl ?_
      refine g_iload_n O dX12_canBeAny_29 rfl ?_
      refine g_iload_n O dX12_canBeAny_30 rfl ?_
      refine g_iload O dX12_canBeAny_31 rfl ?_
      refine g_callV (As := [vi x1, vi x2, vi x3, vi x4]) (rest := []) O ci_12 rfl dX12_canBeAny_33 ml_X12_385 im_yX12_canBe se_yX12_canBe ini_X12 co_yX12_canBe yo_yX12_canBe c15 rfl rfl (Nat.le_of_ble_eq_true rfl) ⟨by decide, by decide, by decide, by decide⟩ (okX12_canBe hw) (k_I fun r33 h33 hw => ?_)
      refine g_if_eq (tgt := 41) O dX12_canBeAny_36 rfl (fun q36 => ?_) (fun q36 => ?_)
      · have hw := hw.1 q36
        refine g_iinc (lc' := [some (vr a0), some (vi x1), some (vi x2), some (vi x3), some (vi (x4 + (1 : Int32)))]) O dX12_canBeAny_41 rfl kv_1 rfl rfl ?_
        refine g_goto (tgt := 12) O dX12_canBeAny_44 rfl ?_
        exact hB12 _ _ hw
      · have hw := hw.2 q36
        refine g_iconst O dX12_canBeAny_39 kv_1 ?_
        exact g_zreturn O dX12_canBeAny_40 (by decide) ⟨rfl, rfl, _, rfl, hw⟩
theorem okX12_canBeAny {E : Ev} {S : Sh} {Z : Option Nat} {Q : Int32 → Hp → Prop} {h : Hp} {a0 : Nat} {x1 : Int32} {x2 : Int32} {x3 : Int32} (hw : wX12_canBeAny S h a0 x1 x2 x3 Q) : Ct E yX12_canBeAny cX12_canBeAny 5 (some .boolean) 4 105 0 0 S Z h [vr a0, vi x1, vi x2, vi x3] (qI S Z Q) := by
  refine Ct.of (by decide) (lc := [some (vr a0), some (vi x1), some (vi x2), some (vi x3), none]) (Nat.le_of_ble_eq_true rfl) rfl (fun X O => ?_)
  unfold wX12_canBeAny at hw
  refine g_aload_n O dX12_canBeAny_0 rfl ?_
  obtain ⟨c1, hw⟩ := hw
  refine gf_X12_firstPick O dX12_canBeAny_1 fl_X12_63 c1 ?_
  refine g_iconst O dX12_canBeAny_4 kv_4 ?_
  refine g_iload_n O dX12_canBeAny_5 rfl ?_
  refine g_imul O dX12_canBeAny_6 ?_
  refine g_iload_n O dX12_canBeAny_7 rfl ?_
  refine g_iadd O dX12_canBeAny_8 ?_
  obtain ⟨c9, hw⟩ := hw
  refine g_iaload O dX12_canBeAny_9 c9.1 c9.2 ?_
  refine g_nmI (fun xv10 e10 => ?_)
  have hw := hw xv10 e10
  refine g_istore (lc' := [some (vr a0), some (vi x1), some (vi x2), some (vi x3), some (vi xv10)]) O dX12_canBeAny_10 rfl (Nat.le_of_ble_eq_true rfl) rfl ?_
  obtain ⟨n12, hw⟩ := hw
  exact okX12_canBeAny_12 O n12 _ _ hw
theorem dX12_canGoOn_0 : decode cX12_canGoOn 0 = .ok (.iconst 0, 1) := by decide +kernel
theorem dX12_canGoOn_1 : decode cX12_canGoOn 1 = .ok (.istore_n 3, 1) := by decide +kernel
theorem dX12_canGoOn_2 : decode cX12_canGoOn 2 = .ok (.iload_n 3, 1) := by decide +kernel
theorem dX12_canGoOn_3 : decode cX12_canGoOn 3 = .ok (.aload_n 0, 1) := by decide +kernel
theorem dX12_canGoOn_4 : decode cX12_canGoOn 4 = .ok (.getfield 33, 3) := by decide +kernel
theorem dX12_canGoOn_7 : decode cX12_canGoOn 7 = .ok (.iload_n 1, 1) := by decide +kernel
theorem dX12_canGoOn_8 : decode cX12_canGoOn 8 = .ok (.iaload, 1) := by decide +kernel
theorem dX12_canGoOn_9 : decode cX12_canGoOn 9 = .ok (.if_icmp .ge 21, 3) := by decide +kernel
theorem dX12_canGoOn_12 : decode cX12_canGoOn 12 = .ok (.aload_n 0, 1) := by decide +kernel
theorem dX12_canGoOn_13 : decode cX12_canGoOn 13 = .ok (.iload_n 1, 1) := by decide +kernel
theorem dX12_canGoOn_14 : decode cX12_canGoOn 14 = .ok (.iload_n 3, 1) := by decide +kernel
theorem dX12_canGoOn_15 : decode cX12_canGoOn 15 = .ok (.iload_n 2, 1) := by decide +kernel
theorem dX12_canGoOn_16 : decode cX12_canGoOn 16 = .ok (.invokevirtual 418, 3) := by decide +kernel
theorem dX12_canGoOn_19 : decode cX12_canGoOn 19 = .ok (.ifCond .eq 5, 3) := by decide +kernel
theorem dX12_canGoOn_22 : decode cX12_canGoOn 22 = .ok (.iconst 1, 1) := by decide +kernel
theorem dX12_canGoOn_23 : decode cX12_canGoOn 23 = .ok (.ireturn, 1) := by decide +kernel
theorem dX12_canGoOn_24 : decode cX12_canGoOn 24 = .ok (.iinc 3 1, 3) := by decide +kernel
theorem dX12_canGoOn_27 : decode cX12_canGoOn 27 = .ok (.goto (-25), 3) := by decide +kernel
theorem dX12_canGoOn_30 : decode cX12_canGoOn 30 = .ok (.iconst 0, 1) := by decide +kernel
theorem dX12_canGoOn_31 : decode cX12_canGoOn 31 = .ok (.ireturn, 1) := by decide +kernel
theorem okX12_canGoOn_2 {E : Ev} {X : Cx} {S : Sh} {Z : Option Nat} {Q : Int32 → Hp → Prop} {a0 : Nat} {x1 : Int32} {x2 : Int32} (O : Ok E X yX12_canGoOn cX12_canGoOn 4 (some .boolean) 5 129 0 0 (qI S Z Q)) : ∀ (n : Nat) (h : Hp) (x3 : Int32), wX12_canGoOn_2 S a0 x1 x2 Q n h x3 → G E X 0 0 S Z h 2 [some (vr a0), some (vi x1), some (vi x2), some (vi x3)] [] := by
  intro n
  induction n with
  | zero => intro h x3 hw; exact hw.elim
  | succ n hB2 =>
    intro h x3 hw
    have hw : wX12_canGoOn_2b S a0 x1 x2 Q (wX12_canGoOn_2 S a0 x1 x2 Q n) h x3 := hw
    unfold wX12_canGoOn_2b at hw
    refine g_iload_n O dX12_canGoOn_2 rfl ?_
    refine g_aload_n O dX12_canGoOn_3 rfl ?_
    obtain ⟨c4, hw⟩ := hw
    refine gf_X12_eventMany O dX12_canGoOn_4 fl_X12_33 c4 ?_
    refine g_iload_n O dX12_canGoOn_7 rfl ?_
    obtain ⟨c8, hw⟩ := hw
    refine g_iaload O dX12_canGoOn_8 c8.1 c8.2 ?_
    refine g_icmp_ge (tgt := 30) O dX12_canGoOn_9 rfl (fun q9 => ?_) (fun q9 => ?_)
    · have hw := hw.1 q9
      refine g_iconst O dX12_canGoOn_30 kv_0 ?_
      exact g_zreturn O dX12_canGoOn_31 (by decide) ⟨rfl, rfl, _, rfl, hw⟩
    · have hw := hw.2 q9
      refine g_aload_n O dX12_canGoOn_12 rfl ?_
      refine g_iload_n O dX12_canGoOn_13 rfl ?_
      refine g_iload_n O dX12_canGoOn_14 rfl ?_
      refine g_iload_n O dX12_canGoOn_15 rfl ?_
      refine g_callV (As := [vi x1, vi x3, vi x2]) (rest := []) O ci_12 rfl dX12_canGoOn_16 ml_X12_418 im_yX12_canBeAny se_yX12_canBeAny ini_X12 co_yX12_canBeAny yo_yX12_canBeAny c4 rfl rfl (Nat.le_of_ble_eq_true rfl) ⟨by decide, by decide, by decide, by decide⟩ (okX12_canBeAny hw) (k_I fun r16 h16 hw => ?_)
      refine g_if_eq (tgt := 24) O dX12_canGoOn_19 rfl (fun q19 => ?_) (fun q19 => ?_)
      · have hw := hw.1 q19
        refine g_iinc (lc' := [some (vr a0), some (vi x1), some (vi x2), some (vi (x3 + (1 : Int32)))]) O dX12_canGoOn_24 rfl kv_1 rfl rfl ?_
        refine g_goto (tgt := 2) O dX12_canGoOn_27 rfl ?_
        exact hB2 _ _ hw
      · have hw := hw.2 q19
        refine g_iconst O dX12_canGoOn_22 kv_1 ?_
        exact g_zreturn O dX12_canGoOn_23 (by decide) ⟨rfl, rfl, _, rfl, hw⟩
theorem okX12_canGoOn {E : Ev} {S : Sh} {Z : Option Nat} {Q : Int32 → Hp → Prop} {h : Hp} {a0 : Nat} {x1 : Int32} {x2 : Int32} (hw : wX12_canGoOn S h a0 x1 x2 Q) : Ct E yX12_canGoOn cX12_canGoOn 4 (some .boolean) 5 129 0 0 S Z h [vr a0, vi x1, vi x2] (qI S Z Q) := by
  refine Ct.of (by decide) (lc := [some (vr a0), some (vi x1), some (vi x2), none]) (Nat.le_of_ble_eq_true rfl) rfl (fun X O => ?_)
  unfold wX12_canGoOn at hw
  refine g_iconst O dX12_canGoOn_0 kv_0 ?_
  refine g_istore_n (lc' := [some (vr a0), some (vi x1), some (vi x2), some (vi (0 : Int32))]) O dX12_canGoOn_1 rfl (Nat.le_of_ble_eq_true rfl) rfl ?_
  obtain ⟨n2, hw⟩ := hw
  exact okX12_canGoOn_2 O n2 _ _ hw
theorem dX12_givenBy_0 : decode cX12_givenBy 0 = .ok (.iconst 4, 1) := by decide +kernel
theorem dX12_givenBy_1 : decode cX12_givenBy 1 = .ok (.iload_n 1, 1) := by decide +kernel
theorem dX12_givenBy_2 : decode cX12_givenBy 2 = .ok (.imul, 1) := by decide +kernel
theorem dX12_givenBy_3 : decode cX12_givenBy 3 = .ok (.iload_n 2, 1) := by decide +kernel
theorem dX12_givenBy_4 : decode cX12_givenBy 4 = .ok (.iadd, 1) := by decide +kernel
theorem dX12_givenBy_5 : decode cX12_givenBy 5 = .ok (.istore 5, 2) := by decide +kernel
theorem dX12_givenBy_7 : decode cX12_givenBy 7 = .ok (.iconst 0, 1) := by decide +kernel
theorem dX12_givenBy_8 : decode cX12_givenBy 8 = .ok (.istore 6, 2) := by decide +kernel
theorem dX12_givenBy_10 : decode cX12_givenBy 10 = .ok (.iconst 0, 1) := by decide +kernel
theorem dX12_givenBy_11 : decode cX12_givenBy 11 = .ok (.istore 7, 2) := by decide +kernel
theorem dX12_givenBy_13 : decode cX12_givenBy 13 = .ok (.iload 7, 2) := by decide +kernel
theorem dX12_givenBy_15 : decode cX12_givenBy 15 = .ok (.aload_n 0, 1) := by decide +kernel
theorem dX12_givenBy_16 : decode cX12_givenBy 16 = .ok (.getfield 27, 3) := by decide +kernel
theorem dX12_givenBy_19 : decode cX12_givenBy 19 = .ok (.iload_n 1, 1) := by decide +kernel
theorem dX12_givenBy_20 : decode cX12_givenBy 20 = .ok (.iaload, 1) := by decide +kernel
theorem dX12_givenBy_21 : decode cX12_givenBy 21 = .ok (.if_icmp .ge 142, 3) := by decide +kernel
theorem dX12_givenBy_24 : decode cX12_givenBy 24 = .ok (.aload_n 0, 1) := by decide +kernel
theorem dX12_givenBy_25 : decode cX12_givenBy 25 = .ok (.getfield 45, 3) := by decide +kernel
theorem dX12_givenBy_28 : decode cX12_givenBy 28 = .ok (.iconst 3, 1) := by decide +kernel
theorem dX12_givenBy_29 : decode cX12_givenBy 29 = .ok (.iload_n 1, 1) := by decide +kernel
theorem dX12_givenBy_30 : decode cX12_givenBy 30 = .ok (.imul, 1) := by decide +kernel
theorem dX12_givenBy_31 : decode cX12_givenBy 31 = .ok (.iload 7, 2) := by decide +kernel
theorem dX12_givenBy_33 : decode cX12_givenBy 33 = .ok (.iadd, 1) := by decide +kernel
theorem dX12_givenBy_34 : decode cX12_givenBy 34 = .ok (.iaload, 1) := by decide +kernel
theorem dX12_givenBy_35 : decode cX12_givenBy 35 = .ok (.istore 8, 2) := by decide +kernel
theorem dX12_givenBy_37 : decode cX12_givenBy 37 = .ok (.aload_n 0, 1) := by decide +kernel
theorem dX12_givenBy_38 : decode cX12_givenBy 38 = .ok (.getfield 48, 3) := by decide +kernel
theorem dX12_givenBy_41 : decode cX12_givenBy 41 = .ok (.iconst 3, 1) := by decide +kernel
theorem dX12_givenBy_42 : decode cX12_givenBy 42 = .ok (.iload_n 1, 1) := by decide +kernel
theorem dX12_givenBy_43 : decode cX12_givenBy 43 = .ok (.imul, 1) := by decide +kernel
theorem dX12_givenBy_44 : decode cX12_givenBy 44 = .ok (.iload 7, 2) := by decide +kernel
theorem dX12_givenBy_46 : decode cX12_givenBy 46 = .ok (.iadd, 1) := by decide +kernel
theorem dX12_givenBy_47 : decode cX12_givenBy 47 = .ok (.iaload, 1) := by decide +kernel
theorem dX12_givenBy_48 : decode cX12_givenBy 48 = .ok (.istore 9, 2) := by decide +kernel
theorem dX12_givenBy_50 : decode cX12_givenBy 50 = .ok (.aload_n 0, 1) := by decide +kernel
theorem dX12_givenBy_51 : decode cX12_givenBy 51 = .ok (.getfield 75, 3) := by decide +kernel
theorem dX12_givenBy_54 : decode cX12_givenBy 54 = .ok (.iload 5, 2) := by decide +kernel
theorem dX12_givenBy_56 : decode cX12_givenBy 56 = .ok (.iaload, 1) := by decide +kernel
theorem dX12_givenBy_57 : decode cX12_givenBy 57 = .ok (.iload 7, 2) := by decide +kernel
theorem dX12_givenBy_59 : decode cX12_givenBy 59 = .ok (.ishr, 1) := by decide +kernel
theorem dX12_givenBy_60 : decode cX12_givenBy 60 = .ok (.iconst 1, 1) := by decide +kernel
theorem dX12_givenBy_61 : decode cX12_givenBy 61 = .ok (.iand, 1) := by decide +kernel
theorem dX12_givenBy_62 : decode cX12_givenBy 62 = .ok (.iconst 1, 1) := by decide +kernel
theorem dX12_givenBy_63 : decode cX12_givenBy 63 = .ok (.if_icmp .ne 7, 3) := by decide +kernel
theorem dX12_givenBy_66 : decode cX12_givenBy 66 = .ok (.iconst 1, 1) := by decide +kernel
theorem dX12_givenBy_67 : decode cX12_givenBy 67 = .ok (.goto 4, 3) := by decide +kernel
theorem dX12_givenBy_70 : decode cX12_givenBy 70 = .ok (.iconst 0, 1) := by decide +kernel
theorem dX12_givenBy_71 : decode cX12_givenBy 71 = .ok (.istore 10, 2) := by decide +kernel
theorem dX12_givenBy_73 : decode cX12_givenBy 73 = .ok (.iload 10, 2) := by decide +kernel
theorem dX12_givenBy_75 : decode cX12_givenBy 75 = .ok (.ifCond .eq 39, 3) := by decide +kernel
theorem dX12_givenBy_78 : decode cX12_givenBy 78 = .ok (.aload_n 0, 1) := by decide +kernel
theorem dX12_givenBy_79 : decode cX12_givenBy 79 = .ok (.iload_n 1, 1) := by decide +kernel
theorem dX12_givenBy_80 : decode cX12_givenBy 80 = .ok (.aload_n 0, 1) := by decide +kernel
theorem dX12_givenBy_81 : decode cX12_givenBy 81 = .ok (.getfield 78, 3) := by decide +kernel
theorem dX12_givenBy_84 : decode cX12_givenBy 84 = .ok (.iconst 3, 1) := by decide +kernel
theorem dX12_givenBy_85 : decode cX12_givenBy 85 = .ok (.iload 5, 2) := by decide +kernel
theorem dX12_givenBy_87 : decode cX12_givenBy 87 = .ok (.imul, 1) := by decide +kernel
theorem dX12_givenBy_88 : decode cX12_givenBy 88 = .ok (.iload 7, 2) := by decide +kernel
theorem dX12_givenBy_90 : decode cX12_givenBy 90 = .ok (.iadd, 1) := by decide +kernel
theorem dX12_givenBy_91 : decode cX12_givenBy 91 = .ok (.iaload, 1) := by decide +kernel
theorem dX12_givenBy_92 : decode cX12_givenBy 92 = .ok (.aload_n 0, 1) := by decide +kernel
theorem dX12_givenBy_93 : decode cX12_givenBy 93 = .ok (.getfield 81, 3) := by decide +kernel
theorem dX12_givenBy_96 : decode cX12_givenBy 96 = .ok (.iconst 3, 1) := by decide +kernel
theorem dX12_givenBy_97 : decode cX12_givenBy 97 = .ok (.iload 5, 2) := by decide +kernel
theorem dX12_givenBy_99 : decode cX12_givenBy 99 = .ok (.imul, 1) := by decide +kernel
theorem dX12_givenBy_100 : decode cX12_givenBy 100 = .ok (.iload 7, 2) := by decide +kernel
theorem dX12_givenBy_102 : decode cX12_givenBy 102 = .ok (.iadd, 1) := by decide +kernel
theorem dX12_givenBy_103 : decode cX12_givenBy 103 = .ok (.iaload, 1) := by decide +kernel
theorem dX12_givenBy_104 : decode cX12_givenBy 104 = .ok (.iconst 0, 1) := by decide +kernel
theorem dX12_givenBy_105 : decode cX12_givenBy 105 = .ok (.iload_n 3, 1) := by decide +kernel
theorem dX12_givenBy_106 : decode cX12_givenBy 106 = .ok (.iload 4, 2) := by decide +kernel
theorem dX12_givenBy_108 : decode cX12_givenBy 108 = .ok (.invokevirtual 375, 3) := by decide +kernel
theorem dX12_givenBy_111 : decode cX12_givenBy 111 = .ok (.goto 11, 3) := by decide +kernel
theorem dX12_givenBy_114 : decode cX12_givenBy 114 = .ok (.aload_n 0, 1) := by decide +kernel
theorem dX12_givenBy_115 : decode cX12_givenBy 115 = .ok (.iload_n 1, 1) := by decide +kernel
theorem dX12_givenBy_116 : decode cX12_givenBy 116 = .ok (.iload_n 3, 1) := by decide +kernel
theorem dX12_givenBy_117 : decode cX12_givenBy 117 = .ok (.iload 7, 2) := by decide +kernel
theorem dX12_givenBy_119 : decode cX12_givenBy 119 = .ok (.invokevirtual 368, 3) := by decide +kernel
theorem dX12_givenBy_122 : decode cX12_givenBy 122 = .ok (.istore 11, 2) := by decide +kernel
theorem dX12_givenBy_124 : decode cX12_givenBy 124 = .ok (.iload 11, 2) := by decide +kernel
theorem dX12_givenBy_126 : decode cX12_givenBy 126 = .ok (.iload 8, 2) := by decide +kernel
theorem dX12_givenBy_128 : decode cX12_givenBy 128 = .ok (.iload 9, 2) := by decide +kernel
theorem dX12_givenBy_130 : decode cX12_givenBy 130 = .ok (.invokestatic 142, 3) := by decide +kernel
theorem dX12_givenBy_133 : decode cX12_givenBy 133 = .ok (.ifCond .ne 6, 3) := by decide +kernel
theorem dX12_givenBy_136 : decode cX12_givenBy 136 = .ok (.bipush (-2), 2) := by decide +kernel
theorem dX12_givenBy_138 : decode cX12_givenBy 138 = .ok (.ireturn, 1) := by decide +kernel
theorem dX12_givenBy_139 : decode cX12_givenBy 139 = .ok (.iload 6, 2) := by decide +kernel
theorem dX12_givenBy_141 : decode cX12_givenBy 141 = .ok (.iload 9, 2) := by decide +kernel
theorem dX12_givenBy_143 : decode cX12_givenBy 143 = .ok (.iload 8, 2) := by decide +kernel
theorem dX12_givenBy_145 : decode cX12_givenBy 145 = .ok (.isub, 1) := by decide +kernel
theorem dX12_givenBy_146 : decode cX12_givenBy 146 = .ok (.iconst 1, 1) := by decide +kernel
theorem dX12_givenBy_147 : decode cX12_givenBy 147 = .ok (.iadd, 1) := by decide +kernel
theorem dX12_givenBy_148 : decode cX12_givenBy 148 = .ok (.imul, 1) := by decide +kernel
theorem dX12_givenBy_149 : decode cX12_givenBy 149 = .ok (.iload 11, 2) := by decide +kernel
theorem dX12_givenBy_151 : decode cX12_givenBy 151 = .ok (.iadd, 1) := by decide +kernel
theorem dX12_givenBy_152 : decode cX12_givenBy 152 = .ok (.iload 8, 2) := by decide +kernel
theorem dX12_givenBy_154 : decode cX12_givenBy 154 = .ok (.isub, 1) := by decide +kernel
theorem dX12_givenBy_155 : decode cX12_givenBy 155 = .ok (.istore 6, 2) := by decide +kernel
theorem dX12_givenBy_157 : decode cX12_givenBy 157 = .ok (.iinc 7 1, 3) := by decide +kernel
theorem dX12_givenBy_160 : decode cX12_givenBy 160 = .ok (.goto (-147), 3) := by decide +kernel
theorem dX12_givenBy_163 : decode cX12_givenBy 163 = .ok (.iload 6, 2) := by decide +kernel
theorem dX12_givenBy_165 : decode cX12_givenBy 165 = .ok (.ireturn, 1) := by decide +kernel
theorem okX12_givenBy_j122 {E : Ev} {X : Cx} {S : Sh} {Z : Option Nat} {Q : Int32 → Hp → Prop} {B13 : Hp → Int32 → Int32 → Prop} {h : Hp} {a0 : Nat} {x1 : Int32} {x3 : Int32} {x4 : Int32} {x5 : Int32} {x6 : Int32} {x7 : Int32} {x8 : Int32} {x9 : Int32} {s0 : Int32} (O : Ok E X yX12_givenBy cX12_givenBy 12 (some .int) 3 80 0 0 (qI S Z Q)) (hB13 : ∀ (h : Hp) (x6 : Int32) (x7 : Int32), B13 h x6 x7 → G E X 0 0 S Z h 13 [some (vr a0), some (vi x1), none, some (vi x3), some (vi x4), some (vi x5), some (vi x6), some (vi x7), none, none, none, none] []) (hw : wX12_givenBy_j122 S B13 h a0 x1 x3 x4 x5 x6 x7 x8 x9 s0 Q) : G E X 0 0 S Z h 122 [some (vr a0), some (vi x1), none, some (vi x3), some (vi x4), some (vi x5), some (vi x6), some (vi x7), some (vi x8), some (vi x9), none, none] [vi s0] := by
  unfold wX12_givenBy_j122 at hw
  refine g_istore (lc' := [some (vr a0), some (vi x1), none, some (vi x3), some (vi x4), some (vi x5), some (vi x6), some (vi x7), some (vi x8), some (vi x9), none, some (vi s0)]) O dX12_givenBy_122 rfl (Nat.le_of_ble_eq_true rfl) rfl ?_
  refine g_iload O dX12_givenBy_124 rfl ?_
  refine g_iload O dX12_givenBy_126 rfl ?_
  refine g_iload O dX12_givenBy_128 rfl ?_
  refine g_callS (As := [vi s0, vi x8, vi x9]) (rest := []) O dX12_givenBy_130 ml_X12_142 st_yX12_in ini_X12 co_yX12_in yo_yX12_in rfl rfl (Nat.le_of_ble_eq_true rfl) ⟨by decide, by decide, by decide, by decide⟩ (okX12_in hw) (k_I fun r130 h130 hw => ?_)
  refine g_if_ne (tgt := 139) O dX12_givenBy_133 rfl (fun q133 => ?_) (fun q133 => ?_)
  · have hw := hw.1 q133
    refine g_iload O dX12_givenBy_139 rfl ?_
    refine g_iload O dX12_givenBy_141 rfl ?_
    refine g_iload O dX12_givenBy_143 rfl ?_
    refine g_isub O dX12_givenBy_145 ?_
    refine g_iconst O dX12_givenBy_146 kv_1 ?_
    refine g_iadd O dX12_givenBy_147 ?_
    refine g_imul O dX12_givenBy_148 ?_
    refine g_iload O dX12_givenBy_149 rfl ?_
    refine g_iadd O dX12_givenBy_151 ?_
    refine g_iload O dX12_givenBy_152 rfl ?_
    refine g_isub O dX12_givenBy_154 ?_
    refine g_nmI (fun xv155 e155 => ?_)
    have hw := hw xv155 e155
    refine g_istore (lc' := [some (vr a0), some (vi x1), none, some (vi x3), some (vi x4), some (vi x5), some (vi xv155), some (vi x7), some (vi x8), some (vi x9), none, some (vi s0)]) O dX12_givenBy_155 rfl (Nat.le_of_ble_eq_true rfl) rfl ?_
    refine g_iinc (lc' := [some (vr a0), some (vi x1), none, some (vi x3), some (vi x4), some (vi x5), some (vi xv155), some (vi (x7 + (1 : Int32))), some (vi x8), some (vi x9), none, some (vi s0)]) O dX12_givenBy_157 rfl kv_1 rfl rfl ?_
    refine g_goto (tgt := 13) O dX12_givenBy_160 rfl ?_
    refine g_mask [true, true, false, true, true, true, true, true, false, false, false, false] rfl rfl ?_
    exact hB13 _ _ _ hw
  · have hw := hw.2 q133
    refine g_bipush O dX12_givenBy_136 kb_m2 ?_
    exact g_ireturn O dX12_givenBy_138 ⟨rfl, rfl, _, rfl, hw⟩
theorem okX12_givenBy_j71 {E : Ev} {X : Cx} {S : Sh} {Z : Option Nat} {Q : Int32 → Hp → Prop} {B13 : Hp → Int32 → Int32 → Prop} {h : Hp} {a0 : Nat} {x1 : Int32} {x3 : Int32} {x4 : Int32} {x5 : Int32} {x6 : Int32} {x7 : Int32} {x8 : Int32} {x9 : Int32} {s0 : Int32} (O : Ok E X yX12_givenBy cX12_givenBy 12 (some .int) 3 80 0 0 (qI S Z Q)) (hB13 : ∀ (h : Hp) (x6 : Int32) (x7 : Int32), B13 h x6 x7 → G E X 0 0 S Z h 13 [some (vr a0), some (vi x1), none, some (vi x3), some (vi x4), some (vi x5), some (vi x6), some (vi x7), none, none, none, none] []) (hw : wX12_givenBy_j71 S B13 h a0 x1 x3 x4 x5 x6 x7 x8 x9 s0 Q) : G E X 0 0 S Z h 71 [some (vr a0), some (vi x1), none, some (vi x3), some (vi x4), some (vi x5), some (vi x6), some (vi x7), some (vi x8), some (vi x9), none, none] [vi s0] := by
  unfold wX12_givenBy_j71 at hw
  refine g_istore (lc' := [some (vr a0), some (vi x1), none, some (vi x3), some (vi x4), some (vi x5), some (vi x6), some (vi x7), some (vi x8), some (vi x9), some (vi s0), none]) O dX12_givenBy_71 rfl (Nat.le_of_ble_eq_true rfl) rfl ?_
  refine g_iload O dX12_givenBy_73 rfl ?_
  refine g_if_eq (tgt := 114) O dX12_givenBy_75 rfl (fun q75 => ?_) (fun q75 => ?_)
  · have hw := hw.1 q75
    refine g_aload_n O dX12_givenBy_114 rfl ?_
    refine g_iload_n O dX12_givenBy_115 rfl ?_
    refine g_iload_n O dX12_givenBy_116 rfl ?_
    refine g_iload O dX12_givenBy_117 rfl ?_
    obtain ⟨c119, hw⟩ := hw
    refine g_callV (As := [vi x1, vi x3, vi x7]) (rest := []) O ci_12 rfl dX12_givenBy_119 ml_X12_368 im_yX12_valueOf se_yX12_valueOf ini_X12 co_yX12_valueOf yo_yX12_valueOf c119 rfl rfl (Nat.le_of_ble_eq_true rfl) ⟨by decide, by decide, by decide, by decide⟩ (okX12_valueOf hw) (k_I fun r119 h119 hw => ?_)
    refine g_mask [true, true, false, true, true, true, true, true, true, true, false, false] rfl rfl ?_
    exact okX12_givenBy_j122 O hB13 hw
  · have hw := hw.2 q75
    refine g_aload_n O dX12_givenBy_78 rfl ?_
    refine g_iload_n O dX12_givenBy_79 rfl ?_
    refine g_aload_n O dX12_givenBy_80 rfl ?_
    obtain ⟨c81, hw⟩ := hw
    refine gf_X12_sumFrom O dX12_givenBy_81 fl_X12_78 c81 ?_
    refine g_iconst O dX12_givenBy_84 kv_3 ?_
    refine g_iload O dX12_givenBy_85 rfl ?_
    refine g_imul O dX12_givenBy_87 ?_
    refine g_iload O dX12_givenBy_88 rfl ?_
    refine g_iadd O dX12_givenBy_90 ?_
    obtain ⟨c91, hw⟩ := hw
    refine g_iaload O dX12_givenBy_91 c91.1 c91.2 ?_
    refine g_aload_n O dX12_givenBy_92 rfl ?_
    refine gf_X12_sumTo O dX12_givenBy_93 fl_X12_81 c81 ?_
    refine g_iconst O dX12_givenBy_96 kv_3 ?_
    refine g_iload O dX12_givenBy_97 rfl ?_
    refine g_imul O dX12_givenBy_99 ?_
    refine g_iload O dX12_givenBy_100 rfl ?_
    refine g_iadd O dX12_givenBy_102 ?_
    obtain ⟨c103, hw⟩ := hw
    refine g_iaload O dX12_givenBy_103 c103.1 c103.2 ?_
    refine g_iconst O dX12_givenBy_104 kv_0 ?_
    refine g_iload_n O dX12_givenBy_105 rfl ?_
    refine g_iload O dX12_givenBy_106 rfl ?_
    refine g_callV (As := [vi x1, vi ((gI h (gR h a0 34) (ix ((((3 : Int32) * x5) + x7))))), vi ((gI h (gR h a0 35) (ix ((((3 : Int32) * x5) + x7))))), vi (0 : Int32), vi x3, vi x4]) (rest := []) O ci_12 rfl dX12_givenBy_108 ml_X12_375 im_yX12_told se_yX12_told ini_X12 co_yX12_told yo_yX12_told c81 rfl rfl (Nat.le_of_ble_eq_true rfl) ⟨by decide, by decide, by decide, by decide⟩ (okX12_told hw) (k_I fun r108 h108 hw => ?_)
    refine g_goto (tgt := 122) O dX12_givenBy_111 rfl ?_
    refine g_mask [true, true, false, true, true, true, true, true, true, true, false, false] rfl rfl ?_
    exact okX12_givenBy_j122 O hB13 hw
theorem okX12_givenBy_13 {E : Ev} {X : Cx} {S : Sh} {Z : Option Nat} {Q : Int32 → Hp → Prop} {a0 : Nat} {x1 : Int32} {x3 : Int32} {x4 : Int32} {x5 : Int32} (O : Ok E X yX12_givenBy cX12_givenBy 12 (some .int) 3 80 0 0 (qI S Z Q)) : ∀ (n : Nat) (h : Hp) (x6 : Int32) (x7 : Int32), wX12_givenBy_13 S a0 x1 x3 x4 x5 Q n h x6 x7 → G E X 0 0 S Z h 13 [some (vr a0), some (vi x1), none, some (vi x3), some (vi x4), some (vi x5), some (vi x6), some (vi x7), none, none, none, none] [] := by
  intro n
  induction n with
  | zero => intro h x6 x7 hw; exact hw.elim
  | succ n hB13 =>
    intro h x6 x7 hw
    have hw : wX12_givenBy_13b S a0 x1 x3 x4 x5 Q (wX12_givenBy_13 S a0 x1 x3 x4 x5 Q n) h x6 x7 := hw
    unfold wX12_givenBy_13b at hw
    refine g_iload O dX12_givenBy_13 rfl ?_
    refine g_aload_n O dX12_givenBy_15 rfl ?_
    obtain ⟨c16, hw⟩ := hw
    refine gf_X12_varMany O dX12_givenBy_16 fl_X12_27 c16 ?_
    refine g_iload_n O dX12_givenBy_19 rfl ?_
    obtain ⟨c20, hw⟩ := hw
    refine g_iaload O dX12_givenBy_20 c20.1 c20.2 ?_
    refine g_icmp_ge (tgt := 163) O dX12_givenBy_21 rfl (fun q21 => ?_) (fun q21 => ?_)
    · have hw := hw.1 q21
      refine g_iload O dX12_givenBy_163 rfl ?_
      exact g_ireturn O dX12_givenBy_165 ⟨rfl, rfl, _, rfl, hw⟩
    · have hw := hw.2 q21
      refine g_aload_n O dX12_givenBy_24 rfl ?_
      refine gf_X12_varLow O dX12_givenBy_25 fl_X12_45 c16 ?_
      refine g_iconst O dX12_givenBy_28 kv_3 ?_
      refine g_iload_n O dX12_givenBy_29 rfl ?_
      refine g_imul O dX12_givenBy_30 ?_
      refine g_iload O dX12_givenBy_31 rfl ?_
      refine g_iadd O dX12_givenBy_33 ?_
      obtain ⟨c34, hw⟩ := hw
      refine g_iaload O dX12_givenBy_34 c34.1 c34.2 ?_
      refine g_nmI (fun xv35 e35 => ?_)
      have hw := hw xv35 e35
      refine g_istore (lc' := [some (vr a0), some (vi x1), none, some (vi x3), some (vi x4), some (vi x5), some (vi x6), some (vi x7), some (vi xv35), none, none, none]) O dX12_givenBy_35 rfl (Nat.le_of_ble_eq_true rfl) rfl ?_
      refine g_aload_n O dX12_givenBy_37 rfl ?_
      refine gf_X12_varHigh O dX12_givenBy_38 fl_X12_48 c16 ?_
      refine g_iconst O dX12_givenBy_41 kv_3 ?_
      refine g_iload_n O dX12_givenBy_42 rfl ?_
      refine g_imul O dX12_givenBy_43 ?_
      refine g_iload O dX12_givenBy_44 rfl ?_
      refine g_iadd O dX12_givenBy_46 ?_
      obtain ⟨c47, hw⟩ := hw
      refine g_iaload O dX12_givenBy_47 c47.1 c47.2 ?_
      refine g_nmI (fun xv48 e48 => ?_)
      have hw := hw xv48 e48
      refine g_istore (lc' := [some (vr a0), some (vi x1), none, some (vi x3), some (vi x4), some (vi x5), some (vi x6), some (vi x7), some (vi xv35), some (vi xv48), none, none]) O dX12_givenBy_48 rfl (Nat.le_of_ble_eq_true rfl) rfl ?_
      refine g_aload_n O dX12_givenBy_50 rfl ?_
      refine gf_X12_givenBits O dX12_givenBy_51 fl_X12_75 c16 ?_
      refine g_iload O dX12_givenBy_54 rfl ?_
      obtain ⟨c56, hw⟩ := hw
      refine g_iaload O dX12_givenBy_56 c56.1 c56.2 ?_
      refine g_iload O dX12_givenBy_57 rfl ?_
      refine g_ishr O dX12_givenBy_59 ?_
      refine g_iconst O dX12_givenBy_60 kv_1 ?_
      refine g_iand O dX12_givenBy_61 ?_
      refine g_iconst O dX12_givenBy_62 kv_1 ?_
      refine g_icmp_ne (tgt := 70) O dX12_givenBy_63 rfl (fun q63 => ?_) (fun q63 => ?_)
      · have hw := hw.1 q63
        refine g_iconst O dX12_givenBy_70 kv_0 ?_
        exact okX12_givenBy_j71 O hB13 hw
      · have hw := hw.2 q63
        refine g_iconst O dX12_givenBy_66 kv_1 ?_
        refine g_goto (tgt := 71) O dX12_givenBy_67 rfl ?_
        exact okX12_givenBy_j71 O hB13 hw
theorem okX12_givenBy {E : Ev} {S : Sh} {Z : Option Nat} {Q : Int32 → Hp → Prop} {h : Hp} {a0 : Nat} {x1 : Int32} {x2 : Int32} {x3 : Int32} {x4 : Int32} (hw : wX12_givenBy S h a0 x1 x2 x3 x4 Q) : Ct E yX12_givenBy cX12_givenBy 12 (some .int) 3 80 0 0 S Z h [vr a0, vi x1, vi x2, vi x3, vi x4] (qI S Z Q) := by
  refine Ct.of (by decide) (lc := [some (vr a0), some (vi x1), some (vi x2), some (vi x3), some (vi x4), none, none, none, none, none, none, none]) (Nat.le_of_ble_eq_true rfl) rfl (fun X O => ?_)
  unfold wX12_givenBy at hw
  refine g_iconst O dX12_givenBy_0 kv_4 ?_
  refine g_iload_n O dX12_givenBy_1 rfl ?_
  refine g_imul O dX12_givenBy_2 ?_
  refine g_iload_n O dX12_givenBy_3 rfl ?_
  refine g_iadd O dX12_givenBy_4 ?_
  refine g_nmI (fun xv5 e5 => ?_)
  have hw := hw xv5 e5
  refine g_istore (lc' := [some (vr a0), some (vi x1), some (vi x2), some (vi x3), some (vi x4), some (vi xv5), none, none, none, none, none, none]) O dX12_givenBy_5 rfl (Nat.le_of_ble_eq_true rfl) rfl ?_
  refine g_iconst O dX12_givenBy_7 kv_0 ?_
  refine g_istore (lc' := [some (vr a0), some (vi x1), some (vi x2), some (vi x3), some (vi x4), some (vi xv5), some (vi (0 : Int32)), none, none, none, none, none]) O dX12_givenBy_8 rfl (Nat.le_of_ble_eq_true rfl) rfl ?_
  refine g_iconst O dX12_givenBy_10 kv_0 ?_
  refine g_istore (lc' := [some (vr a0), some (vi x1), some (vi x2), some (vi x3), some (vi x4), some (vi xv5), some (vi (0 : Int32)), some (vi (0 : Int32)), none, none, none, none]) O dX12_givenBy_11 rfl (Nat.le_of_ble_eq_true rfl) rfl ?_
  refine g_mask [true, true, false, true, true, true, true, true, false, false, false, false] rfl rfl ?_
  obtain ⟨n13, hw⟩ := hw
  exact okX12_givenBy_13 O n13 _ _ _ hw
theorem dX12_isAnswered_0 : decode cX12_isAnswered 0 = .ok (.aload_n 0, 1) := by decide +kernel
theorem dX12_isAnswered_1 : decode cX12_isAnswered 1 = .ok (.getfield 63, 3) := by decide +kernel
theorem dX12_isAnswered_4 : decode cX12_isAnswered 4 = .ok (.iconst 4, 1) := by decide +kernel
theorem dX12_isAnswered_5 : decode cX12_isAnswered 5 = .ok (.iload_n 1, 1) := by decide +kernel
theorem dX12_isAnswered_6 : decode cX12_isAnswered 6 = .ok (.iconst 1, 1) := by decide +kernel
theorem dX12_isAnswered_7 : decode cX12_isAnswered 7 = .ok (.isub, 1) := by decide +kernel
theorem dX12_isAnswered_8 : decode cX12_isAnswered 8 = .ok (.imul, 1) := by decide +kernel
theorem dX12_isAnswered_9 : decode cX12_isAnswered 9 = .ok (.iload_n 2, 1) := by decide +kernel
theorem dX12_isAnswered_10 : decode cX12_isAnswered 10 = .ok (.iadd, 1) := by decide +kernel
theorem dX12_isAnswered_11 : decode cX12_isAnswered 11 = .ok (.iaload, 1) := by decide +kernel
theorem dX12_isAnswered_12 : decode cX12_isAnswered 12 = .ok (.istore 5, 2) := by decide +kernel
theorem dX12_isAnswered_14 : decode cX12_isAnswered 14 = .ok (.iload 5, 2) := by decide +kernel
theorem dX12_isAnswered_16 : decode cX12_isAnswered 16 = .ok (.aload_n 0, 1) := by decide +kernel
theorem dX12_isAnswered_17 : decode cX12_isAnswered 17 = .ok (.getfield 66, 3) := by decide +kernel
theorem dX12_isAnswered_20 : decode cX12_isAnswered 20 = .ok (.iconst 4, 1) := by decide +kernel
theorem dX12_isAnswered_21 : decode cX12_isAnswered 21 = .ok (.iload_n 1, 1) := by decide +kernel
theorem dX12_isAnswered_22 : decode cX12_isAnswered 22 = .ok (.iconst 1, 1) := by decide +kernel
theorem dX12_isAnswered_23 : decode cX12_isAnswered 23 = .ok (.isub, 1) := by decide +kernel
theorem dX12_isAnswered_24 : decode cX12_isAnswered 24 = .ok (.imul, 1) := by decide +kernel
theorem dX12_isAnswered_25 : decode cX12_isAnswered 25 = .ok (.iload_n 2, 1) := by decide +kernel
theorem dX12_isAnswered_26 : decode cX12_isAnswered 26 = .ok (.iadd, 1) := by decide +kernel
theorem dX12_isAnswered_27 : decode cX12_isAnswered 27 = .ok (.iaload, 1) := by decide +kernel
theorem dX12_isAnswered_28 : decode cX12_isAnswered 28 = .ok (.if_icmp .gt 64, 3) := by decide +kernel
theorem dX12_isAnswered_31 : decode cX12_isAnswered 31 = .ok (.aload_n 0, 1) := by decide +kernel
theorem dX12_isAnswered_32 : decode cX12_isAnswered 32 = .ok (.iload_n 1, 1) := by decide +kernel
theorem dX12_isAnswered_33 : decode cX12_isAnswered 33 = .ok (.iconst 1, 1) := by decide +kernel
theorem dX12_isAnswered_34 : decode cX12_isAnswered 34 = .ok (.isub, 1) := by decide +kernel
theorem dX12_isAnswered_35 : decode cX12_isAnswered 35 = .ok (.iload_n 2, 1) := by decide +kernel
theorem dX12_isAnswered_36 : decode cX12_isAnswered 36 = .ok (.iload_n 3, 1) := by decide +kernel
theorem dX12_isAnswered_37 : decode cX12_isAnswered 37 = .ok (.iload 5, 2) := by decide +kernel
theorem dX12_isAnswered_39 : decode cX12_isAnswered 39 = .ok (.invokevirtual 385, 3) := by decide +kernel
theorem dX12_isAnswered_42 : decode cX12_isAnswered 42 = .ok (.ifCond .ne 6, 3) := by decide +kernel
theorem dX12_isAnswered_45 : decode cX12_isAnswered 45 = .ok (.goto 41, 3) := by decide +kernel
theorem dX12_isAnswered_48 : decode cX12_isAnswered 48 = .ok (.aload_n 0, 1) := by decide +kernel
theorem dX12_isAnswered_49 : decode cX12_isAnswered 49 = .ok (.iload_n 1, 1) := by decide +kernel
theorem dX12_isAnswered_50 : decode cX12_isAnswered 50 = .ok (.iconst 1, 1) := by decide +kernel
theorem dX12_isAnswered_51 : decode cX12_isAnswered 51 = .ok (.isub, 1) := by decide +kernel
theorem dX12_isAnswered_52 : decode cX12_isAnswered 52 = .ok (.iload_n 2, 1) := by decide +kernel
theorem dX12_isAnswered_53 : decode cX12_isAnswered 53 = .ok (.iload_n 3, 1) := by decide +kernel
theorem dX12_isAnswered_54 : decode cX12_isAnswered 54 = .ok (.iload 5, 2) := by decide +kernel
theorem dX12_isAnswered_56 : decode cX12_isAnswered 56 = .ok (.invokevirtual 411, 3) := by decide +kernel
theorem dX12_isAnswered_59 : decode cX12_isAnswered 59 = .ok (.istore 6, 2) := by decide +kernel
theorem dX12_isAnswered_61 : decode cX12_isAnswered 61 = .ok (.iload 6, 2) := by decide +kernel
theorem dX12_isAnswered_63 : decode cX12_isAnswered 63 = .ok (.bipush (-2), 2) := by decide +kernel
theorem dX12_isAnswered_65 : decode cX12_isAnswered 65 = .ok (.if_icmp .eq 21, 3) := by decide +kernel
theorem dX12_isAnswered_68 : decode cX12_isAnswered 68 = .ok (.aload_n 0, 1) := by decide +kernel
theorem dX12_isAnswered_69 : decode cX12_isAnswered 69 = .ok (.getfield 100, 3) := by decide +kernel
theorem dX12_isAnswered_72 : decode cX12_isAnswered 72 = .ok (.iload_n 1, 1) := by decide +kernel
theorem dX12_isAnswered_73 : decode cX12_isAnswered 73 = .ok (.iload 6, 2) := by decide +kernel
theorem dX12_isAnswered_75 : decode cX12_isAnswered 75 = .ok (.iload 4, 2) := by decide +kernel
theorem dX12_isAnswered_77 : decode cX12_isAnswered 77 = .ok (.invokestatic 382, 3) := by decide +kernel
theorem dX12_isAnswered_80 : decode cX12_isAnswered 80 = .ok (.baload, 1) := by decide +kernel
theorem dX12_isAnswered_81 : decode cX12_isAnswered 81 = .ok (.ifCond .eq 5, 3) := by decide +kernel
theorem dX12_isAnswered_84 : decode cX12_isAnswered 84 = .ok (.iconst 1, 1) := by decide +kernel
theorem dX12_isAnswered_85 : decode cX12_isAnswered 85 = .ok (.ireturn, 1) := by decide +kernel
theorem dX12_isAnswered_86 : decode cX12_isAnswered 86 = .ok (.iinc 5 1, 3) := by decide +kernel
theorem dX12_isAnswered_89 : decode cX12_isAnswered 89 = .ok (.goto (-75), 3) := by decide +kernel
theorem dX12_isAnswered_92 : decode cX12_isAnswered 92 = .ok (.iconst 0, 1) := by decide +kernel
theorem dX12_isAnswered_93 : decode cX12_isAnswered 93 = .ok (.ireturn, 1) := by decide +kernel
theorem okX12_isAnswered_14 {E : Ev} {X : Cx} {S : Sh} {Z : Option Nat} {Q : Int32 → Hp → Prop} {a0 : Nat} {x1 : Int32} {x2 : Int32} {x3 : Int32} {x4 : Int32} (O : Ok E X yX12_isAnswered cX12_isAnswered 7 (some .boolean) 4 111 0 0 (qI S Z Q)) : ∀ (n : Nat) (h : Hp) (x5 : Int32), wX12_isAnswered_14 S a0 x1 x2 x3 x4 Q n h x5 → G E X 0 0 S Z h 14 [some (vr a0), some (vi x1), some (vi x2), some (vi x3), some (vi x4), some (vi x5), none] [] := by
  intro n
  induction n with
  | zero => intro h x5 hw; exact hw.elim
  | succ n hB14 =>
    intro h x5 hw
    have hw : wX12_isAnswered_14b S a0 x1 x2 x3 x4 Q (wX12_isAnswered_14 S a0 x1 x2 x3 x4 Q n) h x5 := hw
    unfold wX12_isAnswered_14b at hw
    refine g_iload O dX12_isAnswered_14 rfl ?_
    refine g_aload_n O dX12_isAnswered_16 rfl ?_
    obtain ⟨c17, hw⟩ := hw
    refine gf_X12_lastPick O dX12_isAnswered_17 fl_X12_66 c17 ?_
    refine g_iconst O dX12_isAnswered_20 kv_4 ?_
    refine g_iload_n O dX12_isAnswered_21 rfl ?_
    refine g_iconst O dX12_isAnswered_22 kv_1 ?_
    refine g_isub O dX12_isAnswered_23 ?_
    refine g_imul O dX12_isAnswered_24 ?_
    refine g_iload_n O dX12_isAnswered_25 rfl ?_
    refine g_iadd O dX12_isAnswered_26 ?_
    obtain ⟨c27, hw⟩ := hw
    refine g_iaload O dX12_isAnswered_27 c27.1 c27.2 ?_
    refine g_icmp_gt (tgt := 92) O dX12_isAnswered_28 rfl (fun q28 => ?_) (fun q28 => ?_)
    · have hw := hw.1 q28
      refine g_iconst O dX12_isAnswered_92 kv_0 ?_
      exact g_zreturn O dX12_isAnswered_93 (by decide) ⟨rfl, rfl, _, rfl, hw⟩
    · have hw := hw.2 q28
      refine g_aload_n O dX12_isAnswered_31 rfl ?_
      refine g_iload_n O dX12_isAnswered_32 rfl ?_
      refine g_iconst O dX12_isAnswered_33 kv_1 ?_
      refine g_isub O dX12_isAnswered_34 ?_
      refine g_iload_n O dX12_isAnswered_35 rfl ?_
      refine g_iload_n O dX12_isAnswered_36 rfl ?_
      refine g_iload O dX12_isAnswered_37 rfl ?_
      refine g_callV (As := [vi ((x1 - (1 : Int32))), vi x2, vi x3, vi x5]) (rest := []) O ci_12 rfl dX12_isAnswered_39 ml_X12_385 im_yX12_canBe se_yX12_canBe ini_X12 co_yX12_canBe yo_yX12_canBe c17 rfl rfl (Nat.le_of_ble_eq_true rfl) ⟨by decide, by decide, by decide, by decide⟩ (okX12_canBe hw) (k_I fun r39 h39 hw => ?_)
      refine g_if_ne (tgt := 48) O dX12_isAnswered_42 rfl (fun q42 => ?_) (fun q42 => ?_)
      · have hw := hw.1 q42
        refine g_aload_n O dX12_isAnswered_48 rfl ?_
        refine g_iload_n O dX12_isAnswered_49 rfl ?_
        refine g_iconst O dX12_isAnswered_50 kv_1 ?_
        refine g_isub O dX12_isAnswered_51 ?_
        refine g_iload_n O dX12_isAnswered_52 rfl ?_
        refine g_iload_n O dX12_isAnswered_53 rfl ?_
        refine g_iload O dX12_isAnswered_54 rfl ?_
        refine g_callV (As := [vi ((x1 - (1 : Int32))), vi x2, vi x3, vi x5]) (rest := []) O ci_12 rfl dX12_isAnswered_56 ml_X12_411 im_yX12_givenBy se_yX12_givenBy ini_X12 co_yX12_givenBy yo_yX12_givenBy c17 rfl rfl (Nat.le_of_ble_eq_true rfl) ⟨by decide, by decide, by decide, by decide⟩ (okX12_givenBy hw) (k_I fun r56 h56 hw => ?_)
        refine g_istore (lc' := [some (vr a0), some (vi x1), some (vi x2), some (vi x3), some (vi x4), some (vi x5), some (vi r56)]) O dX12_isAnswered_59 rfl (Nat.le_of_ble_eq_true rfl) rfl ?_
        refine g_iload O dX12_isAnswered_61 rfl ?_
        refine g_bipush O dX12_isAnswered_63 kb_m2 ?_
        refine g_icmp_eq (tgt := 86) O dX12_isAnswered_65 rfl (fun q65 => ?_) (fun q65 => ?_)
        · have hw := hw.1 q65
          refine g_iinc (lc' := [some (vr a0), some (vi x1), some (vi x2), some (vi x3), some (vi x4), some (vi (x5 + (1 : Int32))), some (vi r56)]) O dX12_isAnswered_86 rfl kv_1 rfl rfl ?_
          refine g_goto (tgt := 14) O dX12_isAnswered_89 rfl ?_
          refine g_mask [true, true, true, true, true, true, false] rfl rfl ?_
          exact hB14 _ _ hw
        · have hw := hw.2 q65
          refine g_aload_n O dX12_isAnswered_68 rfl ?_
          refine gf_X12_isGlued O dX12_isAnswered_69 fl_X12_100 c17 ?_
          refine g_iload_n O dX12_isAnswered_72 rfl ?_
          refine g_iload O dX12_isAnswered_73 rfl ?_
          refine g_iload O dX12_isAnswered_75 rfl ?_
          refine g_callS (As := [vi x1, vi r56, vi x4]) (rest := [vr (gR h56 a0 48)]) O dX12_isAnswered_77 ml_X12_382 st_yX12_pair ini_X12 co_yX12_pair yo_yX12_pair rfl rfl (Nat.le_of_ble_eq_true rfl) ⟨by decide, by decide, by decide, by decide⟩ (okX12_pair hw) (k_I fun r77 h77 hw => ?_)
          obtain ⟨c80, hw⟩ := hw
          refine g_zaload O dX12_isAnswered_80 c80.1 c80.2 ?_
          refine g_if_eq (tgt := 86) O dX12_isAnswered_81 rfl (fun q81 => ?_) (fun q81 => ?_)
          · have hw := hw.1 q81
            refine g_iinc (lc' := [some (vr a0), some (vi x1), some (vi x2), some (vi x3), some (vi x4), some (vi (x5 + (1 : Int32))), some (vi r56)]) O dX12_isAnswered_86 rfl kv_1 rfl rfl ?_
            refine g_goto (tgt := 14) O dX12_isAnswered_89 rfl ?_
            refine g_mask [true, true, true, true, true, true, false] rfl rfl ?_
            exact hB14 _ _ hw
          · have hw := hw.2 q81
            refine g_iconst O dX12_isAnswered_84 kv_1 ?_
            exact g_zreturn O dX12_isAnswered_85 (by decide) ⟨rfl, rfl, _, rfl, hw⟩
      · have hw := hw.2 q42
        refine g_goto (tgt := 86) O dX12_isAnswered_45 rfl ?_
        refine g_iinc (lc' := [some (vr a0), some (vi x1), some (vi x2), some (vi x3), some (vi x4), some (vi (x5 + (1 : Int32))), none]) O dX12_isAnswered_86 rfl kv_1 rfl rfl ?_
        refine g_goto (tgt := 14) O dX12_isAnswered_89 rfl ?_
        exact hB14 _ _ hw
theorem okX12_isAnswered {E : Ev} {S : Sh} {Z : Option Nat} {Q : Int32 → Hp → Prop} {h : Hp} {a0 : Nat} {x1 : Int32} {x2 : Int32} {x3 : Int32} {x4 : Int32} (hw : wX12_isAnswered S h a0 x1 x2 x3 x4 Q) : Ct E yX12_isAnswered cX12_isAnswered 7 (some .boolean) 4 111 0 0 S Z h [vr a0, vi x1, vi x2, vi x3, vi x4] (qI S Z Q) := by
  refine Ct.of (by decide) (lc := [some (vr a0), some (vi x1), some (vi x2), some (vi x3), some (vi x4), none, none]) (Nat.le_of_ble_eq_true rfl) rfl (fun X O => ?_)
  unfold wX12_isAnswered at hw
  refine g_aload_n O dX12_isAnswered_0 rfl ?_
  obtain ⟨c1, hw⟩ := hw
  refine gf_X12_firstPick O dX12_isAnswered_1 fl_X12_63 c1 ?_
  refine g_iconst O dX12_isAnswered_4 kv_4 ?_
  refine g_iload_n O dX12_isAnswered_5 rfl ?_
  refine g_iconst O dX12_isAnswered_6 kv_1 ?_
  refine g_isub O dX12_isAnswered_7 ?_
  refine g_imul O dX12_isAnswered_8 ?_
  refine g_iload_n O dX12_isAnswered_9 rfl ?_
  refine g_iadd O dX12_isAnswered_10 ?_
  obtain ⟨c11, hw⟩ := hw
  refine g_iaload O dX12_isAnswered_11 c11.1 c11.2 ?_
  refine g_nmI (fun xv12 e12 => ?_)
  have hw := hw xv12 e12
  refine g_istore (lc' := [some (vr a0), some (vi x1), some (vi x2), some (vi x3), some (vi x4), some (vi xv12), none]) O dX12_isAnswered_12 rfl (Nat.le_of_ble_eq_true rfl) rfl ?_
  obtain ⟨n14, hw⟩ := hw
  exact okX12_isAnswered_14 O n14 _ _ hw
theorem dX12_variantOf_0 : decode cX12_variantOf 0 = .ok (.aload_n 0, 1) := by decide +kernel
theorem dX12_variantOf_1 : decode cX12_variantOf 1 = .ok (.iload_n 1, 1) := by decide +kernel
theorem dX12_variantOf_2 : decode cX12_variantOf 2 = .ok (.aload_n 0, 1) := by decide +kernel
theorem dX12_variantOf_3 : decode cX12_variantOf 3 = .ok (.getfield 39, 3) := by decide +kernel
theorem dX12_variantOf_6 : decode cX12_variantOf 6 = .ok (.iload_n 1, 1) := by decide +kernel
theorem dX12_variantOf_7 : decode cX12_variantOf 7 = .ok (.iaload, 1) := by decide +kernel
theorem dX12_variantOf_8 : decode cX12_variantOf 8 = .ok (.aload_n 0, 1) := by decide +kernel
theorem dX12_variantOf_9 : decode cX12_variantOf 9 = .ok (.getfield 42, 3) := by decide +kernel
theorem dX12_variantOf_12 : decode cX12_variantOf 12 = .ok (.iload_n 1, 1) := by decide +kernel
theorem dX12_variantOf_13 : decode cX12_variantOf 13 = .ok (.iaload, 1) := by decide +kernel
theorem dX12_variantOf_14 : decode cX12_variantOf 14 = .ok (.iconst 0, 1) := by decide +kernel
theorem dX12_variantOf_15 : decode cX12_variantOf 15 = .ok (.iload_n 2, 1) := by decide +kernel
theorem dX12_variantOf_16 : decode cX12_variantOf 16 = .ok (.iconst 0, 1) := by decide +kernel
theorem dX12_variantOf_17 : decode cX12_variantOf 17 = .ok (.invokevirtual 375, 3) := by decide +kernel
theorem dX12_variantOf_20 : decode cX12_variantOf 20 = .ok (.ireturn, 1) := by decide +kernel
theorem okX12_variantOf {E : Ev} {S : Sh} {Z : Option Nat} {Q : Int32 → Hp → Prop} {h : Hp} {a0 : Nat} {x1 : Int32} {x2 : Int32} (hw : wX12_variantOf S h a0 x1 x2 Q) : Ct E yX12_variantOf cX12_variantOf 3 (some .int) 3 80 0 0 S Z h [vr a0, vi x1, vi x2] (qI S Z Q) := by
  refine Ct.of (by decide) (lc := [some (vr a0), some (vi x1), some (vi x2)]) (Nat.le_of_ble_eq_true rfl) rfl (fun X O => ?_)
  unfold wX12_variantOf at hw
  refine g_aload_n O dX12_variantOf_0 rfl ?_
  refine g_iload_n O dX12_variantOf_1 rfl ?_
  refine g_aload_n O dX12_variantOf_2 rfl ?_
  obtain ⟨c3, hw⟩ := hw
  refine gf_X12_variantFrom O dX12_variantOf_3 fl_X12_39 c3 ?_
  refine g_iload_n O dX12_variantOf_6 rfl ?_
  obtain ⟨c7, hw⟩ := hw
  refine g_iaload O dX12_variantOf_7 c7.1 c7.2 ?_
  refine g_aload_n O dX12_variantOf_8 rfl ?_
  refine gf_X12_variantTo O dX12_variantOf_9 fl_X12_42 c3 ?_
  refine g_iload_n O dX12_variantOf_12 rfl ?_
  obtain ⟨c13, hw⟩ := hw
  refine g_iaload O dX12_variantOf_13 c13.1 c13.2 ?_
  refine g_iconst O dX12_variantOf_14 kv_0 ?_
  refine g_iload_n O dX12_variantOf_15 rfl ?_
  refine g_iconst O dX12_variantOf_16 kv_0 ?_
  refine g_callV (As := [vi x1, vi ((gI h (gR h a0 21) (ix x1))), vi ((gI h (gR h a0 22) (ix x1))), vi (0 : Int32), vi x2, vi (0 : Int32)]) (rest := []) O ci_12 rfl dX12_variantOf_17 ml_X12_375 im_yX12_told se_yX12_told ini_X12 co_yX12_told yo_yX12_told c3 rfl rfl (Nat.le_of_ble_eq_true rfl) ⟨by decide, by decide, by decide, by decide⟩ (okX12_told hw) (k_I fun r17 h17 hw => ?_)
  exact g_ireturn O dX12_variantOf_20 ⟨rfl, rfl, _, rfl, hw⟩
theorem dX12_fails_0 : decode cX12_fails 0 = .ok (.aload_n 0, 1) := by decide +kernel
theorem dX12_fails_1 : decode cX12_fails 1 = .ok (.getfield 60, 3) := by decide +kernel
theorem dX12_fails_4 : decode cX12_fails 4 = .ok (.iconst 4, 1) := by decide +kernel
theorem dX12_fails_5 : decode cX12_fails 5 = .ok (.iload_n 1, 1) := by decide +kernel
theorem dX12_fails_6 : decode cX12_fails 6 = .ok (.imul, 1) := by decide +kernel
theorem dX12_fails_7 : decode cX12_fails 7 = .ok (.iload_n 2, 1) := by decide +kernel
theorem dX12_fails_8 : decode cX12_fails 8 = .ok (.iadd, 1) := by decide +kernel
theorem dX12_fails_9 : decode cX12_fails 9 = .ok (.iaload, 1) := by decide +kernel
theorem dX12_fails_10 : decode cX12_fails 10 = .ok (.istore 7, 2) := by decide +kernel
theorem dX12_fails_12 : decode cX12_fails 12 = .ok (.aload_n 0, 1) := by decide +kernel
theorem dX12_fails_13 : decode cX12_fails 13 = .ok (.iload_n 1, 1) := by decide +kernel
theorem dX12_fails_14 : decode cX12_fails 14 = .ok (.iload_n 2, 1) := by decide +kernel
theorem dX12_fails_15 : decode cX12_fails 15 = .ok (.iload 5, 2) := by decide +kernel
theorem dX12_fails_17 : decode cX12_fails 17 = .ok (.iload 6, 2) := by decide +kernel
theorem dX12_fails_19 : decode cX12_fails 19 = .ok (.invokevirtual 411, 3) := by decide +kernel
theorem dX12_fails_22 : decode cX12_fails 22 = .ok (.istore 8, 2) := by decide +kernel
theorem dX12_fails_24 : decode cX12_fails 24 = .ok (.iload_n 3, 1) := by decide +kernel
theorem dX12_fails_25 : decode cX12_fails 25 = .ok (.iconst 1, 1) := by decide +kernel
theorem dX12_fails_26 : decode cX12_fails 26 = .ok (.if_icmp .ne 30, 3) := by decide +kernel
theorem dX12_fails_29 : decode cX12_fails 29 = .ok (.iload 7, 2) := by decide +kernel
theorem dX12_fails_31 : decode cX12_fails 31 = .ok (.bipush (-2), 2) := by decide +kernel
theorem dX12_fails_33 : decode cX12_fails 33 = .ok (.if_icmp .eq 21, 3) := by decide +kernel
theorem dX12_fails_36 : decode cX12_fails 36 = .ok (.aload_n 0, 1) := by decide +kernel
theorem dX12_fails_37 : decode cX12_fails 37 = .ok (.iload_n 1, 1) := by decide +kernel
theorem dX12_fails_38 : decode cX12_fails 38 = .ok (.iconst 1, 1) := by decide +kernel
theorem dX12_fails_39 : decode cX12_fails 39 = .ok (.isub, 1) := by decide +kernel
theorem dX12_fails_40 : decode cX12_fails 40 = .ok (.iload 7, 2) := by decide +kernel
theorem dX12_fails_42 : decode cX12_fails 42 = .ok (.iload 4, 2) := by decide +kernel
theorem dX12_fails_44 : decode cX12_fails 44 = .ok (.invokevirtual 418, 3) := by decide +kernel
theorem dX12_fails_47 : decode cX12_fails 47 = .ok (.ifCond .ne 7, 3) := by decide +kernel
theorem dX12_fails_50 : decode cX12_fails 50 = .ok (.iconst 1, 1) := by decide +kernel
theorem dX12_fails_51 : decode cX12_fails 51 = .ok (.goto 4, 3) := by decide +kernel
theorem dX12_fails_54 : decode cX12_fails 54 = .ok (.iconst 0, 1) := by decide +kernel
theorem dX12_fails_55 : decode cX12_fails 55 = .ok (.ireturn, 1) := by decide +kernel
theorem dX12_fails_56 : decode cX12_fails 56 = .ok (.iload_n 3, 1) := by decide +kernel
theorem dX12_fails_57 : decode cX12_fails 57 = .ok (.iconst 2, 1) := by decide +kernel
theorem dX12_fails_58 : decode cX12_fails 58 = .ok (.if_icmp .ne 66, 3) := by decide +kernel
theorem dX12_fails_61 : decode cX12_fails 61 = .ok (.iload_n 1, 1) := by decide +kernel
theorem dX12_fails_62 : decode cX12_fails 62 = .ok (.ifCond .eq 10, 3) := by decide +kernel
theorem dX12_fails_65 : decode cX12_fails 65 = .ok (.iload 7, 2) := by decide +kernel
theorem dX12_fails_67 : decode cX12_fails 67 = .ok (.bipush (-2), 2) := by decide +kernel
theorem dX12_fails_69 : decode cX12_fails 69 = .ok (.if_icmp .eq 5, 3) := by decide +kernel
theorem dX12_fails_72 : decode cX12_fails 72 = .ok (.iconst 0, 1) := by decide +kernel
theorem dX12_fails_73 : decode cX12_fails 73 = .ok (.ireturn, 1) := by decide +kernel
theorem dX12_fails_74 : decode cX12_fails 74 = .ok (.aload_n 0, 1) := by decide +kernel
theorem dX12_fails_75 : decode cX12_fails 75 = .ok (.getfield 39, 3) := by decide +kernel
theorem dX12_fails_78 : decode cX12_fails 78 = .ok (.iload_n 1, 1) := by decide +kernel
theorem dX12_fails_79 : decode cX12_fails 79 = .ok (.iaload, 1) := by decide +kernel
theorem dX12_fails_80 : decode cX12_fails 80 = .ok (.iconst (-1), 1) := by decide +kernel
theorem dX12_fails_81 : decode cX12_fails 81 = .ok (.if_icmp .eq 37, 3) := by decide +kernel
theorem dX12_fails_84 : decode cX12_fails 84 = .ok (.iload 8, 2) := by decide +kernel
theorem dX12_fails_86 : decode cX12_fails 86 = .ok (.bipush (-2), 2) := by decide +kernel
theorem dX12_fails_88 : decode cX12_fails 88 = .ok (.if_icmp .eq 30, 3) := by decide +kernel
theorem dX12_fails_91 : decode cX12_fails 91 = .ok (.aload_n 0, 1) := by decide +kernel
theorem dX12_fails_92 : decode cX12_fails 92 = .ok (.iload_n 1, 1) := by decide +kernel
theorem dX12_fails_93 : decode cX12_fails 93 = .ok (.iload 8, 2) := by decide +kernel
theorem dX12_fails_95 : decode cX12_fails 95 = .ok (.invokevirtual 415, 3) := by decide +kernel
theorem dX12_fails_98 : decode cX12_fails 98 = .ok (.ifCond .lt 20, 3) := by decide +kernel
theorem dX12_fails_101 : decode cX12_fails 101 = .ok (.aload_n 0, 1) := by decide +kernel
theorem dX12_fails_102 : decode cX12_fails 102 = .ok (.iload_n 1, 1) := by decide +kernel
theorem dX12_fails_103 : decode cX12_fails 103 = .ok (.iload 8, 2) := by decide +kernel
theorem dX12_fails_105 : decode cX12_fails 105 = .ok (.invokevirtual 415, 3) := by decide +kernel
theorem dX12_fails_108 : decode cX12_fails 108 = .ok (.aload_n 0, 1) := by decide +kernel
theorem dX12_fails_109 : decode cX12_fails 109 = .ok (.iload_n 1, 1) := by decide +kernel
theorem dX12_fails_110 : decode cX12_fails 110 = .ok (.iload 5, 2) := by decide +kernel
theorem dX12_fails_112 : decode cX12_fails 112 = .ok (.invokevirtual 415, 3) := by decide +kernel
theorem dX12_fails_115 : decode cX12_fails 115 = .ok (.if_icmp .lt 7, 3) := by decide +kernel
theorem dX12_fails_118 : decode cX12_fails 118 = .ok (.iconst 1, 1) := by decide +kernel
theorem dX12_fails_119 : decode cX12_fails 119 = .ok (.goto 4, 3) := by decide +kernel
theorem dX12_fails_122 : decode cX12_fails 122 = .ok (.iconst 0, 1) := by decide +kernel
theorem dX12_fails_123 : decode cX12_fails 123 = .ok (.ireturn, 1) := by decide +kernel
theorem dX12_fails_124 : decode cX12_fails 124 = .ok (.iload 8, 2) := by decide +kernel
theorem dX12_fails_126 : decode cX12_fails 126 = .ok (.bipush (-2), 2) := by decide +kernel
theorem dX12_fails_128 : decode cX12_fails 128 = .ok (.if_icmp .ne 5, 3) := by decide +kernel
theorem dX12_fails_131 : decode cX12_fails 131 = .ok (.iconst 1, 1) := by decide +kernel
theorem dX12_fails_132 : decode cX12_fails 132 = .ok (.ireturn, 1) := by decide +kernel
theorem dX12_fails_133 : decode cX12_fails 133 = .ok (.iload_n 1, 1) := by decide +kernel
theorem dX12_fails_134 : decode cX12_fails 134 = .ok (.ifCond .ne 19, 3) := by decide +kernel
theorem dX12_fails_137 : decode cX12_fails 137 = .ok (.aload_n 0, 1) := by decide +kernel
theorem dX12_fails_138 : decode cX12_fails 138 = .ok (.getfield 97, 3) := by decide +kernel
theorem dX12_fails_141 : decode cX12_fails 141 = .ok (.iload 8, 2) := by decide +kernel
theorem dX12_fails_143 : decode cX12_fails 143 = .ok (.baload, 1) := by decide +kernel
theorem dX12_fails_144 : decode cX12_fails 144 = .ok (.ifCond .ne 7, 3) := by decide +kernel
theorem dX12_fails_147 : decode cX12_fails 147 = .ok (.iconst 1, 1) := by decide +kernel
theorem dX12_fails_148 : decode cX12_fails 148 = .ok (.goto 4, 3) := by decide +kernel
theorem dX12_fails_151 : decode cX12_fails 151 = .ok (.iconst 0, 1) := by decide +kernel
theorem dX12_fails_152 : decode cX12_fails 152 = .ok (.ireturn, 1) := by decide +kernel
theorem dX12_fails_153 : decode cX12_fails 153 = .ok (.iload 7, 2) := by decide +kernel
theorem dX12_fails_155 : decode cX12_fails 155 = .ok (.bipush (-2), 2) := by decide +kernel
theorem dX12_fails_157 : decode cX12_fails 157 = .ok (.if_icmp .ne 27, 3) := by decide +kernel
theorem dX12_fails_160 : decode cX12_fails 160 = .ok (.aload_n 0, 1) := by decide +kernel
theorem dX12_fails_161 : decode cX12_fails 161 = .ok (.getfield 100, 3) := by decide +kernel
theorem dX12_fails_164 : decode cX12_fails 164 = .ok (.iload_n 1, 1) := by decide +kernel
theorem dX12_fails_165 : decode cX12_fails 165 = .ok (.iload 4, 2) := by decide +kernel
theorem dX12_fails_167 : decode cX12_fails 167 = .ok (.iload 8, 2) := by decide +kernel
theorem dX12_fails_169 : decode cX12_fails 169 = .ok (.invokestatic 382, 3) := by decide +kernel
theorem dX12_fails_172 : decode cX12_fails 172 = .ok (.baload, 1) := by decide +kernel
theorem dX12_fails_173 : decode cX12_fails 173 = .ok (.ifCond .ne 7, 3) := by decide +kernel
theorem dX12_fails_176 : decode cX12_fails 176 = .ok (.iconst 1, 1) := by decide +kernel
theorem dX12_fails_177 : decode cX12_fails 177 = .ok (.goto 26, 3) := by decide +kernel
theorem dX12_fails_180 : decode cX12_fails 180 = .ok (.iconst 0, 1) := by decide +kernel
theorem dX12_fails_181 : decode cX12_fails 181 = .ok (.goto 22, 3) := by decide +kernel
theorem dX12_fails_184 : decode cX12_fails 184 = .ok (.aload_n 0, 1) := by decide +kernel
theorem dX12_fails_185 : decode cX12_fails 185 = .ok (.iload_n 1, 1) := by decide +kernel
theorem dX12_fails_186 : decode cX12_fails 186 = .ok (.iload 7, 2) := by decide +kernel
theorem dX12_fails_188 : decode cX12_fails 188 = .ok (.iload 4, 2) := by decide +kernel
theorem dX12_fails_190 : decode cX12_fails 190 = .ok (.iload 8, 2) := by decide +kernel
theorem dX12_fails_192 : decode cX12_fails 192 = .ok (.invokevirtual 421, 3) := by decide +kernel
theorem dX12_fails_195 : decode cX12_fails 195 = .ok (.ifCond .ne 7, 3) := by decide +kernel
theorem dX12_fails_198 : decode cX12_fails 198 = .ok (.iconst 1, 1) := by decide +kernel
theorem dX12_fails_199 : decode cX12_fails 199 = .ok (.goto 4, 3) := by decide +kernel
theorem dX12_fails_202 : decode cX12_fails 202 = .ok (.iconst 0, 1) := by decide +kernel
theorem dX12_fails_203 : decode cX12_fails 203 = .ok (.ireturn, 1) := by decide +kernel
theorem okX12_fails_j118 {E : Ev} {X : Cx} {S : Sh} {Z : Option Nat} {Q : Int32 → Hp → Prop} {h : Hp} (O : Ok E X yX12_fails cX12_fails 9 (some .boolean) 5 137 0 0 (qI S Z Q)) (hw : wX12_fails_j118 S h Q) : G E X 0 0 S Z h 118 [none, none, none, none, none, none, none, none, none] [] := by
  unfold wX12_fails_j118 at hw
  refine g_iconst O dX12_fails_118 kv_1 ?_
  refine g_goto (tgt := 123) O dX12_fails_119 rfl ?_
  exact g_zreturn O dX12_fails_123 (by decide) ⟨rfl, rfl, _, rfl, hw⟩
theorem okX12_fails {E : Ev} {S : Sh} {Z : Option Nat} {Q : Int32 → Hp → Prop} {h : Hp} {a0 : Nat} {x1 : Int32} {x2 : Int32} {x3 : Int32} {x4 : Int32} {x5 : Int32} {x6 : Int32} (hw : wX12_fails S h a0 x1 x2 x3 x4 x5 x6 Q) : Ct E yX12_fails cX12_fails 9 (some .boolean) 5 137 0 0 S Z h [vr a0, vi x1, vi x2, vi x3, vi x4, vi x5, vi x6] (qI S Z Q) := by
  refine Ct.of (by decide) (lc := [some (vr a0), some (vi x1), some (vi x2), some (vi x3), some (vi x4), some (vi x5), some (vi x6), none, none]) (Nat.le_of_ble_eq_true rfl) rfl (fun X O => ?_)
  unfold wX12_fails at hw
  refine g_aload_n O dX12_fails_0 rfl ?_
  obtain ⟨c1, hw⟩ := hw
  refine gf_X12_eventOf O dX12_fails_1 fl_X12_60 c1 ?_
  refine g_iconst O dX12_fails_4 kv_4 ?_
  refine g_iload_n O dX12_fails_5 rfl ?_
  refine g_imul O dX12_fails_6 ?_
  refine g_iload_n O dX12_fails_7 rfl ?_
  refine g_iadd O dX12_fails_8 ?_
  obtain ⟨c9, hw⟩ := hw
  refine g_iaload O dX12_fails_9 c9.1 c9.2 ?_
  refine g_nmI (fun xv10 e10 => ?_)
  have hw := hw xv10 e10
  refine g_istore (lc' := [some (vr a0), some (vi x1), some (vi x2), some (vi x3), some (vi x4), some (vi x5), some (vi x6), some (vi xv10), none]) O dX12_fails_10 rfl (Nat.le_of_ble_eq_true rfl) rfl ?_
  refine g_aload_n O dX12_fails_12 rfl ?_
  refine g_iload_n O dX12_fails_13 rfl ?_
  refine g_iload_n O dX12_fails_14 rfl ?_
  refine g_iload O dX12_fails_15 rfl ?_
  refine g_iload O dX12_fails_17 rfl ?_
  refine g_callV (As := [vi x1, vi x2, vi x5, vi x6]) (rest := []) O ci_12 rfl dX12_fails_19 ml_X12_411 im_yX12_givenBy se_yX12_givenBy ini_X12 co_yX12_givenBy yo_yX12_givenBy c1 rfl rfl (Nat.le_of_ble_eq_true rfl) ⟨by decide, by decide, by decide, by decide⟩ (okX12_givenBy hw) (k_I fun r19 h19 hw => ?_)
  refine g_istore (lc' := [some (vr a0), some (vi x1), some (vi x2), some (vi x3), some (vi x4), some (vi x5), some (vi x6), some (vi xv10), some (vi r19)]) O dX12_fails_22 rfl (Nat.le_of_ble_eq_true rfl) rfl ?_
  refine g_iload_n O dX12_fails_24 rfl ?_
  refine g_iconst O dX12_fails_25 kv_1 ?_
  refine g_icmp_ne (tgt := 56) O dX12_fails_26 rfl (fun q26 => ?_) (fun q26 => ?_)
  · have hw := hw.1 q26
    refine g_iload_n O dX12_fails_56 rfl ?_
    refine g_iconst O dX12_fails_57 kv_2 ?_
    refine g_icmp_ne (tgt := 124) O dX12_fails_58 rfl (fun q58 => ?_) (fun q58 => ?_)
    · have hw := hw.1 q58
      refine g_iload O dX12_fails_124 rfl ?_
      refine g_bipush O dX12_fails_126 kb_m2 ?_
      refine g_icmp_ne (tgt := 133) O dX12_fails_128 rfl (fun q128 => ?_) (fun q128 => ?_)
      · have hw := hw.1 q128
        refine g_iload_n O dX12_fails_133 rfl ?_
        refine g_if_ne (tgt := 153) O dX12_fails_134 rfl (fun q134 => ?_) (fun q134 => ?_)
        · have hw := hw.1 q134
          refine g_iload O dX12_fails_153 rfl ?_
          refine g_bipush O dX12_fails_155 kb_m2 ?_
          refine g_icmp_ne (tgt := 184) O dX12_fails_157 rfl (fun q157 => ?_) (fun q157 => ?_)
          · have hw := hw.1 q157
            refine g_aload_n O dX12_fails_184 rfl ?_
            refine g_iload_n O dX12_fails_185 rfl ?_
            refine g_iload O dX12_fails_186 rfl ?_
            refine g_iload O dX12_fails_188 rfl ?_
            refine g_iload O dX12_fails_190 rfl ?_
            refine g_callV (As := [vi x1, vi xv10, vi x4, vi r19]) (rest := []) O ci_12 rfl dX12_fails_192 ml_X12_421 im_yX12_isAnswered se_yX12_isAnswered ini_X12 co_yX12_isAnswered yo_yX12_isAnswered c1 rfl rfl (Nat.le_of_ble_eq_true rfl) ⟨by decide, by decide, by decide, by decide⟩ (okX12_isAnswered hw) (k_I fun r192 h192 hw => ?_)
            refine g_if_ne (tgt := 202) O dX12_fails_195 rfl (fun q195 => ?_) (fun q195 => ?_)
            · have hw := hw.1 q195
              refine g_iconst O dX12_fails_202 kv_0 ?_
              exact g_zreturn O dX12_fails_203 (by decide) ⟨rfl, rfl, _, rfl, hw⟩
            · have hw := hw.2 q195
              refine g_iconst O dX12_fails_198 kv_1 ?_
              refine g_goto (tgt := 203) O dX12_fails_199 rfl ?_
              exact g_zreturn O dX12_fails_203 (by decide) ⟨rfl, rfl, _, rfl, hw⟩
          · have hw := hw.2 q157
            refine g_aload_n O dX12_fails_160 rfl ?_
            refine gf_X12_isGlued O dX12_fails_161 fl_X12_100 c1 ?_
            refine g_iload_n O dX12_fails_164 rfl ?_
            refine g_iload O dX12_fails_165 rfl ?_
            refine g_iload O dX12_fails_167 rfl ?_
            refine g_callS (As := [vi x1, vi x4, vi r19]) (rest := [vr (gR h19 a0 48)]) O dX12_fails_169 ml_X12_382 st_yX12_pair ini_X12 co_yX12_pair yo_yX12_pair rfl rfl (Nat.le_of_ble_eq_true rfl) ⟨by decide, by decide, by decide, by decide⟩ (okX12_pair hw) (k_I fun r169 h169 hw => ?_)
            obtain ⟨c172, hw⟩ := hw
            refine g_zaload O dX12_fails_172 c172.1 c172.2 ?_
            refine g_if_ne (tgt := 180) O dX12_fails_173 rfl (fun q173 => ?_) (fun q173 => ?_)
            · have hw := hw.1 q173
              refine g_iconst O dX12_fails_180 kv_0 ?_
              refine g_goto (tgt := 203) O dX12_fails_181 rfl ?_
              exact g_zreturn O dX12_fails_203 (by decide) ⟨rfl, rfl, _, rfl, hw⟩
            · have hw := hw.2 q173
              refine g_iconst O dX12_fails_176 kv_1 ?_
              refine g_goto (tgt := 203) O dX12_fails_177 rfl ?_
              exact g_zreturn O dX12_fails_203 (by decide) ⟨rfl, rfl, _, rfl, hw⟩
        · have hw := hw.2 q134
          refine g_aload_n O dX12_fails_137 rfl ?_
          refine gf_X12_isSound O dX12_fails_138 fl_X12_97 c1 ?_
          refine g_iload O dX12_fails_141 rfl ?_
          obtain ⟨c143, hw⟩ := hw
          refine g_zaload O dX12_fails_143 c143.1 c143.2 ?_
          refine g_if_ne (tgt := 151) O dX12_fails_144 rfl (fun q144 => ?_) (fun q144 => ?_)
          · have hw := hw.1 q144
            refine g_iconst O dX12_fails_151 kv_0 ?_
            exact g_zreturn O dX12_fails_152 (by decide) ⟨rfl, rfl, _, rfl, hw⟩
          · have hw := hw.2 q144
            refine g_iconst O dX12_fails_147 kv_1 ?_
            refine g_goto (tgt := 152) O dX12_fails_148 rfl ?_
            exact g_zreturn O dX12_fails_152 (by decide) ⟨rfl, rfl, _, rfl, hw⟩
      · have hw := hw.2 q128
        refine g_iconst O dX12_fails_131 kv_1 ?_
        exact g_zreturn O dX12_fails_132 (by decide) ⟨rfl, rfl, _, rfl, hw⟩
    · have hw := hw.2 q58
      refine g_iload_n O dX12_fails_61 rfl ?_
      refine g_if_eq (tgt := 72) O dX12_fails_62 rfl (fun q62 => ?_) (fun q62 => ?_)
      · have hw := hw.1 q62
        refine g_iconst O dX12_fails_72 kv_0 ?_
        exact g_zreturn O dX12_fails_73 (by decide) ⟨rfl, rfl, _, rfl, hw⟩
      · have hw := hw.2 q62
        refine g_iload O dX12_fails_65 rfl ?_
        refine g_bipush O dX12_fails_67 kb_m2 ?_
        refine g_icmp_eq (tgt := 74) O dX12_fails_69 rfl (fun q69 => ?_) (fun q69 => ?_)
        · have hw := hw.1 q69
          refine g_aload_n O dX12_fails_74 rfl ?_
          refine gf_X12_variantFrom O dX12_fails_75 fl_X12_39 c1 ?_
          refine g_iload_n O dX12_fails_78 rfl ?_
          obtain ⟨c79, hw⟩ := hw
          refine g_iaload O dX12_fails_79 c79.1 c79.2 ?_
          refine g_iconst O dX12_fails_80 kv_m1 ?_
          refine g_icmp_eq (tgt := 118) O dX12_fails_81 rfl (fun q81 => ?_) (fun q81 => ?_)
          · have hw := hw.1 q81
            refine g_mask [false, false, false, false, false, false, false, false, false] rfl rfl ?_
            exact okX12_fails_j118 O hw
          · have hw := hw.2 q81
            refine g_iload O dX12_fails_84 rfl ?_
            refine g_bipush O dX12_fails_86 kb_m2 ?_
            refine g_icmp_eq (tgt := 118) O dX12_fails_88 rfl (fun q88 => ?_) (fun q88 => ?_)
            · have hw := hw.1 q88
              refine g_mask [false, false, false, false, false, false, false, false, false] rfl rfl ?_
              exact okX12_fails_j118 O hw
            · have hw := hw.2 q88
              refine g_aload_n O dX12_fails_91 rfl ?_
              refine g_iload_n O dX12_fails_92 rfl ?_
              refine g_iload O dX12_fails_93 rfl ?_
              refine g_callV (As := [vi x1, vi r19]) (rest := []) O ci_12 rfl dX12_fails_95 ml_X12_415 im_yX12_variantOf se_yX12_variantOf ini_X12 co_yX12_variantOf yo_yX12_variantOf c1 rfl rfl (Nat.le_of_ble_eq_true rfl) ⟨by decide, by decide, by decide, by decide⟩ (okX12_variantOf hw) (k_I fun r95 h95 hw => ?_)
              refine g_if_lt (tgt := 118) O dX12_fails_98 rfl (fun q98 => ?_) (fun q98 => ?_)
              · have hw := hw.1 q98
                refine g_mask [false, false, false, false, false, false, false, false, false] rfl rfl ?_
                exact okX12_fails_j118 O hw
              · have hw := hw.2 q98
                refine g_aload_n O dX12_fails_101 rfl ?_
                refine g_iload_n O dX12_fails_102 rfl ?_
                refine g_iload O dX12_fails_103 rfl ?_
                refine g_callV (As := [vi x1, vi r19]) (rest := []) O ci_12 rfl dX12_fails_105 ml_X12_415 im_yX12_variantOf se_yX12_variantOf ini_X12 co_yX12_variantOf yo_yX12_variantOf c1 rfl rfl (Nat.le_of_ble_eq_true rfl) ⟨by decide, by decide, by decide, by decide⟩ (okX12_variantOf hw) (k_I fun r105 h105 hw => ?_)
                refine g_aload_n O dX12_fails_108 rfl ?_
                refine g_iload_n O dX12_fails_109 rfl ?_
                refine g_iload O dX12_fails_110 rfl ?_
                refine g_callV (As := [vi x1, vi x5]) (rest := [vi r105]) O ci_12 rfl dX12_fails_112 ml_X12_415 im_yX12_variantOf se_yX12_variantOf ini_X12 co_yX12_variantOf yo_yX12_variantOf c1 rfl rfl (Nat.le_of_ble_eq_true rfl) ⟨by decide, by decide, by decide, by decide⟩ (okX12_variantOf hw) (k_I fun r112 h112 hw => ?_)
                refine g_icmp_lt (tgt := 122) O dX12_fails_115 rfl (fun q115 => ?_) (fun q115 => ?_)
                · have hw := hw.1 q115
                  refine g_iconst O dX12_fails_122 kv_0 ?_
                  exact g_zreturn O dX12_fails_123 (by decide) ⟨rfl, rfl, _, rfl, hw⟩
                · have hw := hw.2 q115
                  refine g_mask [false, false, false, false, false, false, false, false, false] rfl rfl ?_
                  exact okX12_fails_j118 O hw
        · have hw := hw.2 q69
          refine g_iconst O dX12_fails_72 kv_0 ?_
          exact g_zreturn O dX12_fails_73 (by decide) ⟨rfl, rfl, _, rfl, hw⟩
  · have hw := hw.2 q26
    refine g_iload O dX12_fails_29 rfl ?_
    refine g_bipush O dX12_fails_31 kb_m2 ?_
    refine g_icmp_eq (tgt := 54) O dX12_fails_33 rfl (fun q33 => ?_) (fun q33 => ?_)
    · have hw := hw.1 q33
      refine g_iconst O dX12_fails_54 kv_0 ?_
      exact g_zreturn O dX12_fails_55 (by decide) ⟨rfl, rfl, _, rfl, hw⟩
    · have hw := hw.2 q33
      refine g_aload_n O dX12_fails_36 rfl ?_
      refine g_iload_n O dX12_fails_37 rfl ?_
      refine g_iconst O dX12_fails_38 kv_1 ?_
      refine g_isub O dX12_fails_39 ?_
      refine g_iload O dX12_fails_40 rfl ?_
      refine g_iload O dX12_fails_42 rfl ?_
      refine g_callV (As := [vi ((x1 - (1 : Int32))), vi xv10, vi x4]) (rest := []) O ci_12 rfl dX12_fails_44 ml_X12_418 im_yX12_canBeAny se_yX12_canBeAny ini_X12 co_yX12_canBeAny yo_yX12_canBeAny c1 rfl rfl (Nat.le_of_ble_eq_true rfl) ⟨by decide, by decide, by decide, by decide⟩ (okX12_canBeAny hw) (k_I fun r44 h44 hw => ?_)
      refine g_if_ne (tgt := 54) O dX12_fails_47 rfl (fun q47 => ?_) (fun q47 => ?_)
      · have hw := hw.1 q47
        refine g_iconst O dX12_fails_54 kv_0 ?_
        exact g_zreturn O dX12_fails_55 (by decide) ⟨rfl, rfl, _, rfl, hw⟩
      · have hw := hw.2 q47
        refine g_iconst O dX12_fails_50 kv_1 ?_
        refine g_goto (tgt := 55) O dX12_fails_51 rfl ?_
        exact g_zreturn O dX12_fails_55 (by decide) ⟨rfl, rfl, _, rfl, hw⟩
theorem dX12_failing_0 : decode cX12_failing 0 = .ok (.iconst 0, 1) := by decide +kernel
theorem dX12_failing_1 : decode cX12_failing 1 = .ok (.istore 5, 2) := by decide +kernel
theorem dX12_failing_3 : decode cX12_failing 3 = .ok (.iconst 0, 1) := by decide +kernel
theorem dX12_failing_4 : decode cX12_failing 4 = .ok (.istore 6, 2) := by decide +kernel
theorem dX12_failing_6 : decode cX12_failing 6 = .ok (.iload 6, 2) := by decide +kernel
theorem dX12_failing_8 : decode cX12_failing 8 = .ok (.iload_n 1, 1) := by decide +kernel
theorem dX12_failing_9 : decode cX12_failing 9 = .ok (.ifCond .ne 7, 3) := by decide +kernel
theorem dX12_failing_12 : decode cX12_failing 12 = .ok (.iconst 1, 1) := by decide +kernel
theorem dX12_failing_13 : decode cX12_failing 13 = .ok (.goto 11, 3) := by decide +kernel
theorem dX12_failing_16 : decode cX12_failing 16 = .ok (.aload_n 0, 1) := by decide +kernel
theorem dX12_failing_17 : decode cX12_failing 17 = .ok (.getfield 36, 3) := by decide +kernel
theorem dX12_failing_20 : decode cX12_failing 20 = .ok (.iload_n 1, 1) := by decide +kernel
theorem dX12_failing_21 : decode cX12_failing 21 = .ok (.iconst 1, 1) := by decide +kernel
theorem dX12_failing_22 : decode cX12_failing 22 = .ok (.isub, 1) := by decide +kernel
theorem dX12_failing_23 : decode cX12_failing 23 = .ok (.iaload, 1) := by decide +kernel
theorem dX12_failing_24 : decode cX12_failing 24 = .ok (.if_icmp .ge 154, 3) := by decide +kernel
theorem dX12_failing_27 : decode cX12_failing 27 = .ok (.iconst 0, 1) := by decide +kernel
theorem dX12_failing_28 : decode cX12_failing 28 = .ok (.istore 7, 2) := by decide +kernel
theorem dX12_failing_30 : decode cX12_failing 30 = .ok (.iload 7, 2) := by decide +kernel
theorem dX12_failing_32 : decode cX12_failing 32 = .ok (.aload_n 0, 1) := by decide +kernel
theorem dX12_failing_33 : decode cX12_failing 33 = .ok (.getfield 36, 3) := by decide +kernel
theorem dX12_failing_36 : decode cX12_failing 36 = .ok (.iload_n 1, 1) := by decide +kernel
theorem dX12_failing_37 : decode cX12_failing 37 = .ok (.iaload, 1) := by decide +kernel
theorem dX12_failing_38 : decode cX12_failing 38 = .ok (.if_icmp .ge 134, 3) := by decide +kernel
theorem dX12_failing_41 : decode cX12_failing 41 = .ok (.iload_n 1, 1) := by decide +kernel
theorem dX12_failing_42 : decode cX12_failing 42 = .ok (.ifCond .ne 16, 3) := by decide +kernel
theorem dX12_failing_45 : decode cX12_failing 45 = .ok (.aload_n 0, 1) := by decide +kernel
theorem dX12_failing_46 : decode cX12_failing 46 = .ok (.getfield 97, 3) := by decide +kernel
theorem dX12_failing_49 : decode cX12_failing 49 = .ok (.iload 7, 2) := by decide +kernel
theorem dX12_failing_51 : decode cX12_failing 51 = .ok (.baload, 1) := by decide +kernel
theorem dX12_failing_52 : decode cX12_failing 52 = .ok (.ifCond .ne 25, 3) := by decide +kernel
theorem dX12_failing_55 : decode cX12_failing 55 = .ok (.goto 111, 3) := by decide +kernel
theorem dX12_failing_58 : decode cX12_failing 58 = .ok (.aload_n 0, 1) := by decide +kernel
theorem dX12_failing_59 : decode cX12_failing 59 = .ok (.getfield 100, 3) := by decide +kernel
theorem dX12_failing_62 : decode cX12_failing 62 = .ok (.iload_n 1, 1) := by decide +kernel
theorem dX12_failing_63 : decode cX12_failing 63 = .ok (.iload 6, 2) := by decide +kernel
theorem dX12_failing_65 : decode cX12_failing 65 = .ok (.iload 7, 2) := by decide +kernel
theorem dX12_failing_67 : decode cX12_failing 67 = .ok (.invokestatic 382, 3) := by decide +kernel
theorem dX12_failing_70 : decode cX12_failing 70 = .ok (.baload, 1) := by decide +kernel
theorem dX12_failing_71 : decode cX12_failing 71 = .ok (.ifCond .ne 6, 3) := by decide +kernel
theorem dX12_failing_74 : decode cX12_failing 74 = .ok (.goto 92, 3) := by decide +kernel
theorem dX12_failing_77 : decode cX12_failing 77 = .ok (.aload_n 0, 1) := by decide +kernel
theorem dX12_failing_78 : decode cX12_failing 78 = .ok (.getfield 63, 3) := by decide +kernel
theorem dX12_failing_81 : decode cX12_failing 81 = .ok (.iconst 4, 1) := by decide +kernel
theorem dX12_failing_82 : decode cX12_failing 82 = .ok (.iload_n 1, 1) := by decide +kernel
theorem dX12_failing_83 : decode cX12_failing 83 = .ok (.imul, 1) := by decide +kernel
theorem dX12_failing_84 : decode cX12_failing 84 = .ok (.iload_n 2, 1) := by decide +kernel
theorem dX12_failing_85 : decode cX12_failing 85 = .ok (.iadd, 1) := by decide +kernel
theorem dX12_failing_86 : decode cX12_failing 86 = .ok (.iaload, 1) := by decide +kernel
theorem dX12_failing_87 : decode cX12_failing 87 = .ok (.istore 8, 2) := by decide +kernel
theorem dX12_failing_89 : decode cX12_failing 89 = .ok (.iload 8, 2) := by decide +kernel
theorem dX12_failing_91 : decode cX12_failing 91 = .ok (.aload_n 0, 1) := by decide +kernel
theorem dX12_failing_92 : decode cX12_failing 92 = .ok (.getfield 66, 3) := by decide +kernel
theorem dX12_failing_95 : decode cX12_failing 95 = .ok (.iconst 4, 1) := by decide +kernel
theorem dX12_failing_96 : decode cX12_failing 96 = .ok (.iload_n 1, 1) := by decide +kernel
theorem dX12_failing_97 : decode cX12_failing 97 = .ok (.imul, 1) := by decide +kernel
theorem dX12_failing_98 : decode cX12_failing 98 = .ok (.iload_n 2, 1) := by decide +kernel
theorem dX12_failing_99 : decode cX12_failing 99 = .ok (.iadd, 1) := by decide +kernel
theorem dX12_failing_100 : decode cX12_failing 100 = .ok (.iaload, 1) := by decide +kernel
theorem dX12_failing_101 : decode cX12_failing 101 = .ok (.if_icmp .gt 65, 3) := by decide +kernel
theorem dX12_failing_104 : decode cX12_failing 104 = .ok (.aload_n 0, 1) := by decide +kernel
theorem dX12_failing_105 : decode cX12_failing 105 = .ok (.iload_n 1, 1) := by decide +kernel
theorem dX12_failing_106 : decode cX12_failing 106 = .ok (.iload_n 2, 1) := by decide +kernel
theorem dX12_failing_107 : decode cX12_failing 107 = .ok (.iload 7, 2) := by decide +kernel
theorem dX12_failing_109 : decode cX12_failing 109 = .ok (.iload 8, 2) := by decide +kernel
theorem dX12_failing_111 : decode cX12_failing 111 = .ok (.invokevirtual 385, 3) := by decide +kernel
theorem dX12_failing_114 : decode cX12_failing 114 = .ok (.ifCond .eq 46, 3) := by decide +kernel
theorem dX12_failing_117 : decode cX12_failing 117 = .ok (.aload_n 0, 1) := by decide +kernel
theorem dX12_failing_118 : decode cX12_failing 118 = .ok (.iload_n 1, 1) := by decide +kernel
theorem dX12_failing_119 : decode cX12_failing 119 = .ok (.iload_n 2, 1) := by decide +kernel
theorem dX12_failing_120 : decode cX12_failing 120 = .ok (.iload_n 3, 1) := by decide +kernel
theorem dX12_failing_121 : decode cX12_failing 121 = .ok (.iload 6, 2) := by decide +kernel
theorem dX12_failing_123 : decode cX12_failing 123 = .ok (.iload 7, 2) := by decide +kernel
theorem dX12_failing_125 : decode cX12_failing 125 = .ok (.iload 8, 2) := by decide +kernel
theorem dX12_failing_127 : decode cX12_failing 127 = .ok (.invokevirtual 424, 3) := by decide +kernel
theorem dX12_failing_130 : decode cX12_failing 130 = .ok (.ifCond .ne 6, 3) := by decide +kernel
theorem dX12_failing_133 : decode cX12_failing 133 = .ok (.goto 27, 3) := by decide +kernel
theorem dX12_failing_136 : decode cX12_failing 136 = .ok (.iload 5, 2) := by decide +kernel
theorem dX12_failing_138 : decode cX12_failing 138 = .ok (.ifCond .ne 19, 3) := by decide +kernel
theorem dX12_failing_141 : decode cX12_failing 141 = .ok (.iload 4, 2) := by decide +kernel
theorem dX12_failing_143 : decode cX12_failing 143 = .ok (.ifCond .eq 14, 3) := by decide +kernel
theorem dX12_failing_146 : decode cX12_failing 146 = .ok (.aload_n 0, 1) := by decide +kernel
theorem dX12_failing_147 : decode cX12_failing 147 = .ok (.iload_n 1, 1) := by decide +kernel
theorem dX12_failing_148 : decode cX12_failing 148 = .ok (.iload 6, 2) := by decide +kernel
theorem dX12_failing_150 : decode cX12_failing 150 = .ok (.iload 7, 2) := by decide +kernel
theorem dX12_failing_152 : decode cX12_failing 152 = .ok (.iload 8, 2) := by decide +kernel
theorem dX12_failing_154 : decode cX12_failing 154 = .ok (.invokevirtual 428, 3) := by decide +kernel
theorem dX12_failing_157 : decode cX12_failing 157 = .ok (.iinc 5 1, 3) := by decide +kernel
theorem dX12_failing_160 : decode cX12_failing 160 = .ok (.iinc 8 1, 3) := by decide +kernel
theorem dX12_failing_163 : decode cX12_failing 163 = .ok (.goto (-74), 3) := by decide +kernel
theorem dX12_failing_166 : decode cX12_failing 166 = .ok (.iinc 7 1, 3) := by decide +kernel
theorem dX12_failing_169 : decode cX12_failing 169 = .ok (.goto (-139), 3) := by decide +kernel
theorem dX12_failing_172 : decode cX12_failing 172 = .ok (.iinc 6 1, 3) := by decide +kernel
theorem dX12_failing_175 : decode cX12_failing 175 = .ok (.goto (-169), 3) := by decide +kernel
theorem dX12_failing_178 : decode cX12_failing 178 = .ok (.iload 5, 2) := by decide +kernel
theorem dX12_failing_180 : decode cX12_failing 180 = .ok (.ireturn, 1) := by decide +kernel
theorem okX12_failing_89 {E : Ev} {X : Cx} {S : Sh} {Z : Option Nat} {Q : Int32 → Hp → Prop} {B6 : Hp → Int32 → Int32 → Prop} {B30 : Hp → Int32 → Int32 → Prop} {a0 : Nat} {x1 : Int32} {x2 : Int32} {x3 : Int32} {x4 : Int32} {x6 : Int32} {x7 : Int32} (O : Ok E X yX12_failing cX12_failing 9 (some .int) 6 165 0 0 (qI S Z Q)) (hB6 : ∀ (h : Hp) (x5 : Int32) (x6 : Int32), B6 h x5 x6 → G E X 0 0 S Z h 6 [some (vr a0), some (vi x1), some (vi x2), some (vi x3), some (vi x4), some (vi x5), some (vi x6), none, none] []) (hB30 : ∀ (h : Hp) (x5 : Int32) (x7 : Int32), B30 h x5 x7 → G E X 0 0 S Z h 30 [some (vr a0), some (vi x1), some (vi x2), some (vi x3), some (vi x4), some (vi x5), some (vi x6), some (vi x7), none] []) : ∀ (n : Nat) (h : Hp) (x5 : Int32) (x8 : Int32), wX12_failing_89 S B6 B30 a0 x1 x2 x3 x4 x6 x7 Q n h x5 x8 → G E X 0 0 S Z h 89 [some (vr a0), some (vi x1), some (vi x2), some (vi x3), some (vi x4), some (vi x5), some (vi x6), some (vi x7), some (vi x8)] [] := by
  intro n
  induction n with
  | zero => intro h x5 x8 hw; exact hw.elim
  | succ n hB89 =>
    intro h x5 x8 hw
    have hw : wX12_failing_89b S B6 B30 a0 x1 x2 x3 x4 x6 x7 Q (wX12_failing_89 S B6 B30 a0 x1 x2 x3 x4 x6 x7 Q n) h x5 x8 := hw
    unfold wX12_failing_89b at hw
    refine g_iload O dX12_failing_89 rfl ?_
    refine g_aload_n O dX12_failing_91 rfl ?_
    obtain ⟨c92, hw⟩ := hw
    refine gf_X12_lastPick O dX12_failing_92 fl_X12_66 c92 ?_
    refine g_iconst O dX12_failing_95 kv_4 ?_
    refine g_iload_n O dX12_failing_96 rfl ?_
    refine g_imul O dX12_failing_97 ?_
    refine g_iload_n O dX12_failing_98 rfl ?_
    refine g_iadd O dX12_failing_99 ?_
    obtain ⟨c100, hw⟩ := hw
    refine g_iaload O dX12_failing_100 c100.1 c100.2 ?_
    refine g_icmp_gt (tgt := 166) O dX12_failing_101 rfl (fun q101 => ?_) (fun q101 => ?_)
    · have hw := hw.1 q101
      refine g_iinc (lc' := [some (vr a0), some (vi x1), some (vi x2), some (vi x3), some (vi x4), some (vi x5), some (vi x6), some (vi (x7 + (1 : Int32))), some (vi x8)]) O dX12_failing_166 rfl kv_1 rfl rfl ?_
      refine g_goto (tgt := 30) O dX12_failing_169 rfl ?_
      refine g_mask [true, true, true, true, true, true, true, true, false] rfl rfl ?_
      exact hB30 _ _ _ hw
    · have hw := hw.2 q101
      refine g_aload_n O dX12_failing_104 rfl ?_
      refine g_iload_n O dX12_failing_105 rfl ?_
      refine g_iload_n O dX12_failing_106 rfl ?_
      refine g_iload O dX12_failing_107 rfl ?_
      refine g_iload O dX12_failing_109 rfl ?_
      refine g_callV (As := [vi x1, vi x2, vi x7, vi x8]) (rest := []) O ci_12 rfl dX12_failing_111 ml_X12_385 im_yX12_canBe se_yX12_canBe ini_X12 co_yX12_canBe yo_yX12_canBe c92 rfl rfl (Nat.le_of_ble_eq_true rfl) ⟨by decide, by decide, by decide, by decide⟩ (okX12_canBe hw) (k_I fun r111 h111 hw => ?_)
      refine g_if_eq (tgt := 160) O dX12_failing_114 rfl (fun q114 => ?_) (fun q114 => ?_)
      · have hw := hw.1 q114
        refine g_iinc (lc' := [some (vr a0), some (vi x1), some (vi x2), some (vi x3), some (vi x4), some (vi x5), some (vi x6), some (vi x7), some (vi (x8 + (1 : Int32)))]) O dX12_failing_160 rfl kv_1 rfl rfl ?_
        refine g_goto (tgt := 89) O dX12_failing_163 rfl ?_
        exact hB89 _ _ _ hw
      · have hw := hw.2 q114
        refine g_aload_n O dX12_failing_117 rfl ?_
        refine g_iload_n O dX12_failing_118 rfl ?_
        refine g_iload_n O dX12_failing_119 rfl ?_
        refine g_iload_n O dX12_failing_120 rfl ?_
        refine g_iload O dX12_failing_121 rfl ?_
        refine g_iload O dX12_failing_123 rfl ?_
        refine g_iload O dX12_failing_125 rfl ?_
        refine g_callV (As := [vi x1, vi x2, vi x3, vi x6, vi x7, vi x8]) (rest := []) O ci_12 rfl dX12_failing_127 ml_X12_424 im_yX12_fails se_yX12_fails ini_X12 co_yX12_fails yo_yX12_fails c92 rfl rfl (Nat.le_of_ble_eq_true rfl) ⟨by decide, by decide, by decide, by decide⟩ (okX12_fails hw) (k_I fun r127 h127 hw => ?_)
        refine g_if_ne (tgt := 136) O dX12_failing_130 rfl (fun q130 => ?_) (fun q130 => ?_)
        · have hw := hw.1 q130
          refine g_iload O dX12_failing_136 rfl ?_
          refine g_if_ne (tgt := 157) O dX12_failing_138 rfl (fun q138 => ?_) (fun q138 => ?_)
          · have hw := hw.1 q138
            refine g_iinc (lc' := [some (vr a0), some (vi x1), some (vi x2), some (vi x3), some (vi x4), some (vi (x5 + (1 : Int32))), some (vi x6), some (vi x7), some (vi x8)]) O dX12_failing_157 rfl kv_1 rfl rfl ?_
            refine g_iinc (lc' := [some (vr a0), some (vi x1), some (vi x2), some (vi x3), some (vi x4), some (vi (x5 + (1 : Int32))), some (vi x6), some (vi x7), some (vi (x8 + (1 : Int32)))]) O dX12_failing_160 rfl kv_1 rfl rfl ?_
            refine g_goto (tgt := 89) O dX12_failing_163 rfl ?_
            exact hB89 _ _ _ hw
          · have hw := hw.2 q138
            refine g_iload O dX12_failing_141 rfl ?_
            refine g_if_eq (tgt := 157) O dX12_failing_143 rfl (fun q143 => ?_) (fun q143 => ?_)
            · have hw := hw.1 q143
              refine g_iinc (lc' := [some (vr a0), some (vi x1), some (vi x2), some (vi x3), some (vi x4), some (vi (x5 + (1 : Int32))), some (vi x6), some (vi x7), some (vi x8)]) O dX12_failing_157 rfl kv_1 rfl rfl ?_
              refine g_iinc (lc' := [some (vr a0), some (vi x1), some (vi x2), some (vi x3), some (vi x4), some (vi (x5 + (1 : Int32))), some (vi x6), some (vi x7), some (vi (x8 + (1 : Int32)))]) O dX12_failing_160 rfl kv_1 rfl rfl ?_
              refine g_goto (tgt := 89) O dX12_failing_163 rfl ?_
              exact hB89 _ _ _ hw
            · have hw := hw.2 q143
              refine g_aload_n O dX12_failing_146 rfl ?_
              refine g_iload_n O dX12_failing_147 rfl ?_
              refine g_iload O dX12_failing_148 rfl ?_
              refine g_iload O dX12_failing_150 rfl ?_
              refine g_iload O dX12_failing_152 rfl ?_
              refine g_callV (As := [vi x1, vi x6, vi x7, vi x8]) (rest := []) O ci_12 rfl dX12_failing_154 ml_X12_428 im_yX12_shows se_yX12_shows ini_X12 co_yX12_shows yo_yX12_shows c92 rfl rfl (Nat.le_of_ble_eq_true rfl) ⟨by decide, by decide, by decide, by decide⟩ (okX12_shows hw) (k_V fun h154 hw => ?_)
              refine g_iinc (lc' := [some (vr a0), some (vi x1), some (vi x2), some (vi x3), some (vi x4), some (vi (x5 + (1 : Int32))), some (vi x6), some (vi x7), some (vi x8)]) O dX12_failing_157 rfl kv_1 rfl rfl ?_
              refine g_iinc (lc' := [some (vr a0), some (vi x1), some (vi x2), some (vi x3), some (vi x4), some (vi (x5 + (1 : Int32))), some (vi x6), some (vi x7), some (vi (x8 + (1 : Int32)))]) O dX12_failing_160 rfl kv_1 rfl rfl ?_
              refine g_goto (tgt := 89) O dX12_failing_163 rfl ?_
              exact hB89 _ _ _ hw
        · have hw := hw.2 q130
          refine g_goto (tgt := 160) O dX12_failing_133 rfl ?_
          refine g_iinc (lc' := [some (vr a0), some (vi x1), some (vi x2), some (vi x3), some (vi x4), some (vi x5), some (vi x6), some (vi x7), some (vi (x8 + (1 : Int32)))]) O dX12_failing_160 rfl kv_1 rfl rfl ?_
          refine g_goto (tgt := 89) O dX12_failing_163 rfl ?_
          exact hB89 _ _ _ hw
theorem okX12_failing_j77 {E : Ev} {X : Cx} {S : Sh} {Z : Option Nat} {Q : Int32 → Hp → Prop} {B6 : Hp → Int32 → Int32 → Prop} {B30 : Hp → Int32 → Int32 → Prop} {h : Hp} {a0 : Nat} {x1 : Int32} {x2 : Int32} {x3 : Int32} {x4 : Int32} {x5 : Int32} {x6 : Int32} {x7 : Int32} (O : Ok E X yX12_failing cX12_failing 9 (some .int) 6 165 0 0 (qI S Z Q)) (hB6 : ∀ (h : Hp) (x5 : Int32) (x6 : Int32), B6 h x5 x6 → G E X 0 0 S Z h 6 [some (vr a0), some (vi x1), some (vi x2), some (vi x3), some (vi x4), some (vi x5), some (vi x6), none, none] []) (hB30 : ∀ (h : Hp) (x5 : Int32) (x7 : Int32), B30 h x5 x7 → G E X 0 0 S Z h 30 [some (vr a0), some (vi x1), some (vi x2), some (vi x3), some (vi x4), some (vi x5), some (vi x6), some (vi x7), none] []) (hw : wX12_failing_j77 S B6 B30 h a0 x1 x2 x3 x4 x5 x6 x7 Q) : G E X 0 0 S Z h 77 [some (vr a0), some (vi x1), some (vi x2), some (vi x3), some (vi x4), some (vi x5), some (vi x6), some (vi x7), none] [] := by
  unfold wX12_failing_j77 at hw
  refine g_aload_n O dX12_failing_77 rfl ?_
  obtain ⟨c78, hw⟩ := hw
  refine gf_X12_firstPick O dX12_failing_78 fl_X12_63 c78 ?_
  refine g_iconst O dX12_failing_81 kv_4 ?_
  refine g_iload_n O dX12_failing_82 rfl ?_
  refine g_imul O dX12_failing_83 ?_
  refine g_iload_n O dX12_failing_84 rfl ?_
  refine g_iadd O dX12_failing_85 ?_
  obtain ⟨c86, hw⟩ := hw
  refine g_iaload O dX12_failing_86 c86.1 c86.2 ?_
  refine g_nmI (fun xv87 e87 => ?_)
  have hw := hw xv87 e87
  refine g_istore (lc' := [some (vr a0), some (vi x1), some (vi x2), some (vi x3), some (vi x4), some (vi x5), some (vi x6), some (vi x7), some (vi xv87)]) O dX12_failing_87 rfl (Nat.le_of_ble_eq_true rfl) rfl ?_
  obtain ⟨n89, hw⟩ := hw
  exact okX12_failing_89 O hB6 hB30 n89 _ _ _ hw
theorem okX12_failing_30 {E : Ev} {X : Cx} {S : Sh} {Z : Option Nat} {Q : Int32 → Hp → Prop} {B6 : Hp → Int32 → Int32 → Prop} {a0 : Nat} {x1 : Int32} {x2 : Int32} {x3 : Int32} {x4 : Int32} {x6 : Int32} (O : Ok E X yX12_failing cX12_failing 9 (some .int) 6 165 0 0 (qI S Z Q)) (hB6 : ∀ (h : Hp) (x5 : Int32) (x6 : Int32), B6 h x5 x6 → G E X 0 0 S Z h 6 [some (vr a0), some (vi x1), some (vi x2), some (vi x3), some (vi x4), some (vi x5), some (vi x6), none, none] []) : ∀ (n : Nat) (h : Hp) (x5 : Int32) (x7 : Int32), wX12_failing_30 S B6 a0 x1 x2 x3 x4 x6 Q n h x5 x7 → G E X 0 0 S Z h 30 [some (vr a0), some (vi x1), some (vi x2), some (vi x3), some (vi x4), some (vi x5), some (vi x6), some (vi x7), none] [] := by
  intro n
  induction n with
  | zero => intro h x5 x7 hw; exact hw.elim
  | succ n hB30 =>
    intro h x5 x7 hw
    have hw : wX12_failing_30b S B6 a0 x1 x2 x3 x4 x6 Q (wX12_failing_30 S B6 a0 x1 x2 x3 x4 x6 Q n) h x5 x7 := hw
    unfold wX12_failing_30b at hw
    refine g_iload O dX12_failing_30 rfl ?_
    refine g_aload_n O dX12_failing_32 rfl ?_
    obtain ⟨c33, hw⟩ := hw
    refine gf_X12_sizes O dX12_failing_33 fl_X12_36 c33 ?_
    refine g_iload_n O dX12_failing_36 rfl ?_
    obtain ⟨c37, hw⟩ := hw
    refine g_iaload O dX12_failing_37 c37.1 c37.2 ?_
    refine g_icmp_ge (tgt := 172) O dX12_failing_38 rfl (fun q38 => ?_) (fun q38 => ?_)
    · have hw := hw.1 q38
      refine g_iinc (lc' := [some (vr a0), some (vi x1), some (vi x2), some (vi x3), some (vi x4), some (vi x5), some (vi (x6 + (1 : Int32))), some (vi x7), none]) O dX12_failing_172 rfl kv_1 rfl rfl ?_
      refine g_goto (tgt := 6) O dX12_failing_175 rfl ?_
      refine g_mask [true, true, true, true, true, true, true, false, false] rfl rfl ?_
      exact hB6 _ _ _ hw
    · have hw := hw.2 q38
      refine g_iload_n O dX12_failing_41 rfl ?_
      refine g_if_ne (tgt := 58) O dX12_failing_42 rfl (fun q42 => ?_) (fun q42 => ?_)
      · have hw := hw.1 q42
        refine g_aload_n O dX12_failing_58 rfl ?_
        refine gf_X12_isGlued O dX12_failing_59 fl_X12_100 c33 ?_
        refine g_iload_n O dX12_failing_62 rfl ?_
        refine g_iload O dX12_failing_63 rfl ?_
        refine g_iload O dX12_failing_65 rfl ?_
        refine g_callS (As := [vi x1, vi x6, vi x7]) (rest := [vr (gR h a0 48)]) O dX12_failing_67 ml_X12_382 st_yX12_pair ini_X12 co_yX12_pair yo_yX12_pair rfl rfl (Nat.le_of_ble_eq_true rfl) ⟨by decide, by decide, by decide, by decide⟩ (okX12_pair hw) (k_I fun r67 h67 hw => ?_)
        obtain ⟨c70, hw⟩ := hw
        refine g_zaload O dX12_failing_70 c70.1 c70.2 ?_
        refine g_if_ne (tgt := 77) O dX12_failing_71 rfl (fun q71 => ?_) (fun q71 => ?_)
        · have hw := hw.1 q71
          exact okX12_failing_j77 O hB6 hB30 hw
        · have hw := hw.2 q71
          refine g_goto (tgt := 166) O dX12_failing_74 rfl ?_
          refine g_iinc (lc' := [some (vr a0), some (vi x1), some (vi x2), some (vi x3), some (vi x4), some (vi x5), some (vi x6), some (vi (x7 + (1 : Int32))), none]) O dX12_failing_166 rfl kv_1 rfl rfl ?_
          refine g_goto (tgt := 30) O dX12_failing_169 rfl ?_
          exact hB30 _ _ _ hw
      · have hw := hw.2 q42
        refine g_aload_n O dX12_failing_45 rfl ?_
        refine gf_X12_isSound O dX12_failing_46 fl_X12_97 c33 ?_
        refine g_iload O dX12_failing_49 rfl ?_
        obtain ⟨c51, hw⟩ := hw
        refine g_zaload O dX12_failing_51 c51.1 c51.2 ?_
        refine g_if_ne (tgt := 77) O dX12_failing_52 rfl (fun q52 => ?_) (fun q52 => ?_)
        · have hw := hw.1 q52
          exact okX12_failing_j77 O hB6 hB30 hw
        · have hw := hw.2 q52
          refine g_goto (tgt := 166) O dX12_failing_55 rfl ?_
          refine g_iinc (lc' := [some (vr a0), some (vi x1), some (vi x2), some (vi x3), some (vi x4), some (vi x5), some (vi x6), some (vi (x7 + (1 : Int32))), none]) O dX12_failing_166 rfl kv_1 rfl rfl ?_
          refine g_goto (tgt := 30) O dX12_failing_169 rfl ?_
          exact hB30 _ _ _ hw
theorem okX12_failing_j24 {E : Ev} {X : Cx} {S : Sh} {Z : Option Nat} {Q : Int32 → Hp → Prop} {B6 : Hp → Int32 → Int32 → Prop} {h : Hp} {a0 : Nat} {x1 : Int32} {x2 : Int32} {x3 : Int32} {x4 : Int32} {x5 : Int32} {x6 : Int32} {s0 : Int32} {s1 : Int32} (O : Ok E X yX12_failing cX12_failing 9 (some .int) 6 165 0 0 (qI S Z Q)) (hB6 : ∀ (h : Hp) (x5 : Int32) (x6 : Int32), B6 h x5 x6 → G E X 0 0 S Z h 6 [some (vr a0), some (vi x1), some (vi x2), some (vi x3), some (vi x4), some (vi x5), some (vi x6), none, none] []) (hw : wX12_failing_j24 S B6 h a0 x1 x2 x3 x4 x5 x6 s0 s1 Q) : G E X 0 0 S Z h 24 [some (vr a0), some (vi x1), some (vi x2), some (vi x3), some (vi x4), some (vi x5), some (vi x6), none, none] [vi s1, vi s0] := by
  unfold wX12_failing_j24 at hw
  refine g_icmp_ge (tgt := 178) O dX12_failing_24 rfl (fun q24 => ?_) (fun q24 => ?_)
  · have hw := hw.1 q24
    refine g_iload O dX12_failing_178 rfl ?_
    exact g_ireturn O dX12_failing_180 ⟨rfl, rfl, _, rfl, hw⟩
  · have hw := hw.2 q24
    refine g_iconst O dX12_failing_27 kv_0 ?_
    refine g_istore (lc' := [some (vr a0), some (vi x1), some (vi x2), some (vi x3), some (vi x4), some (vi x5), some (vi x6), some (vi (0 : Int32)), none]) O dX12_failing_28 rfl (Nat.le_of_ble_eq_true rfl) rfl ?_
    obtain ⟨n30, hw⟩ := hw
    exact okX12_failing_30 O hB6 n30 _ _ _ hw
theorem okX12_failing_6 {E : Ev} {X : Cx} {S : Sh} {Z : Option Nat} {Q : Int32 → Hp → Prop} {a0 : Nat} {x1 : Int32} {x2 : Int32} {x3 : Int32} {x4 : Int32} (O : Ok E X yX12_failing cX12_failing 9 (some .int) 6 165 0 0 (qI S Z Q)) : ∀ (n : Nat) (h : Hp) (x5 : Int32) (x6 : Int32), wX12_failing_6 S a0 x1 x2 x3 x4 Q n h x5 x6 → G E X 0 0 S Z h 6 [some (vr a0), some (vi x1), some (vi x2), some (vi x3), some (vi x4), some (vi x5), some (vi x6), none, none] [] := by
  intro n
  induction n with
  | zero => intro h x5 x6 hw; exact hw.elim
  | succ n hB6 =>
    intro h x5 x6 hw
    have hw : wX12_failing_6b S a0 x1 x2 x3 x4 Q (wX12_failing_6 S a0 x1 x2 x3 x4 Q n) h x5 x6 := hw
    unfold wX12_failing_6b at hw
    refine g_iload O dX12_failing_6 rfl ?_
    refine g_iload_n O dX12_failing_8 rfl ?_
    refine g_if_ne (tgt := 16) O dX12_failing_9 rfl (fun q9 => ?_) (fun q9 => ?_)
    · have hw := hw.1 q9
      refine g_aload_n O dX12_failing_16 rfl ?_
      obtain ⟨c17, hw⟩ := hw
      refine gf_X12_sizes O dX12_failing_17 fl_X12_36 c17 ?_
      refine g_iload_n O dX12_failing_20 rfl ?_
      refine g_iconst O dX12_failing_21 kv_1 ?_
      refine g_isub O dX12_failing_22 ?_
      obtain ⟨c23, hw⟩ := hw
      refine g_iaload O dX12_failing_23 c23.1 c23.2 ?_
      exact okX12_failing_j24 O hB6 hw
    · have hw := hw.2 q9
      refine g_iconst O dX12_failing_12 kv_1 ?_
      refine g_goto (tgt := 24) O dX12_failing_13 rfl ?_
      exact okX12_failing_j24 O hB6 hw
theorem okX12_failing {E : Ev} {S : Sh} {Z : Option Nat} {Q : Int32 → Hp → Prop} {h : Hp} {a0 : Nat} {x1 : Int32} {x2 : Int32} {x3 : Int32} {x4 : Int32} (hw : wX12_failing S h a0 x1 x2 x3 x4 Q) : Ct E yX12_failing cX12_failing 9 (some .int) 6 165 0 0 S Z h [vr a0, vi x1, vi x2, vi x3, vi x4] (qI S Z Q) := by
  refine Ct.of (by decide) (lc := [some (vr a0), some (vi x1), some (vi x2), some (vi x3), some (vi x4), none, none, none, none]) (Nat.le_of_ble_eq_true rfl) rfl (fun X O => ?_)
  unfold wX12_failing at hw
  refine g_iconst O dX12_failing_0 kv_0 ?_
  refine g_istore (lc' := [some (vr a0), some (vi x1), some (vi x2), some (vi x3), some (vi x4), some (vi (0 : Int32)), none, none, none]) O dX12_failing_1 rfl (Nat.le_of_ble_eq_true rfl) rfl ?_
  refine g_iconst O dX12_failing_3 kv_0 ?_
  refine g_istore (lc' := [some (vr a0), some (vi x1), some (vi x2), some (vi x3), some (vi x4), some (vi (0 : Int32)), some (vi (0 : Int32)), none, none]) O dX12_failing_4 rfl (Nat.le_of_ble_eq_true rfl) rfl ?_
  obtain ⟨n6, hw⟩ := hw
  exact okX12_failing_6 O n6 _ _ _ hw
theorem dX12_cases_0 : decode cX12_cases 0 = .ok (.aload_n 0, 1) := by decide +kernel
theorem dX12_cases_1 : decode cX12_cases 1 = .ok (.iconst 0, 1) := by decide +kernel
theorem dX12_cases_2 : decode cX12_cases 2 = .ok (.putfield 121, 3) := by decide +kernel
theorem dX12_cases_5 : decode cX12_cases 5 = .ok (.aload_n 0, 1) := by decide +kernel
theorem dX12_cases_6 : decode cX12_cases 6 = .ok (.iload_n 1, 1) := by decide +kernel
theorem dX12_cases_7 : decode cX12_cases 7 = .ok (.iload_n 2, 1) := by decide +kernel
theorem dX12_cases_8 : decode cX12_cases 8 = .ok (.invokevirtual 402, 3) := by decide +kernel
theorem dX12_cases_11 : decode cX12_cases 11 = .ok (.ifCond .eq 27, 3) := by decide +kernel
theorem dX12_cases_14 : decode cX12_cases 14 = .ok (.iload_n 3, 1) := by decide +kernel
theorem dX12_cases_15 : decode cX12_cases 15 = .ok (.iconst 0, 1) := by decide +kernel
theorem dX12_cases_16 : decode cX12_cases 16 = .ok (.iconst 2, 1) := by decide +kernel
theorem dX12_cases_17 : decode cX12_cases 17 = .ok (.invokestatic 142, 3) := by decide +kernel
theorem dX12_cases_20 : decode cX12_cases 20 = .ok (.ifCond .eq 18, 3) := by decide +kernel
theorem dX12_cases_23 : decode cX12_cases 23 = .ok (.aload_n 0, 1) := by decide +kernel
theorem dX12_cases_24 : decode cX12_cases 24 = .ok (.aload_n 0, 1) := by decide +kernel
theorem dX12_cases_25 : decode cX12_cases 25 = .ok (.iload_n 1, 1) := by decide +kernel
theorem dX12_cases_26 : decode cX12_cases 26 = .ok (.iload_n 2, 1) := by decide +kernel
theorem dX12_cases_27 : decode cX12_cases 27 = .ok (.iload_n 3, 1) := by decide +kernel
theorem dX12_cases_28 : decode cX12_cases 28 = .ok (.iconst 0, 1) := by decide +kernel
theorem dX12_cases_29 : decode cX12_cases 29 = .ok (.invokevirtual 453, 3) := by decide +kernel
theorem dX12_cases_32 : decode cX12_cases 32 = .ok (.invokevirtual 365, 3) := by decide +kernel
theorem dX12_cases_35 : decode cX12_cases 35 = .ok (.goto 8, 3) := by decide +kernel
theorem dX12_cases_38 : decode cX12_cases 38 = .ok (.aload_n 0, 1) := by decide +kernel
theorem dX12_cases_39 : decode cX12_cases 39 = .ok (.iconst 1, 1) := by decide +kernel
theorem dX12_cases_40 : decode cX12_cases 40 = .ok (.invokevirtual 350, 3) := by decide +kernel
theorem dX12_cases_43 : decode cX12_cases 43 = .ok (.ireturn, 1) := by decide +kernel
theorem okX12_cases {E : Ev} {S : Sh} {Z : Option Nat} {Q : Int32 → Hp → Prop} {h : Hp} {a0 : Nat} {x1 : Int32} {x2 : Int32} {x3 : Int32} (hw : wX12_cases S h a0 x1 x2 x3 Q) : Ct E yX12_cases cX12_cases 4 (some .int) 7 193 0 0 S Z h [vr a0, vi x1, vi x2, vi x3] (qI S Z Q) := by
  refine Ct.of (by decide) (lc := [some (vr a0), some (vi x1), some (vi x2), some (vi x3)]) (Nat.le_of_ble_eq_true rfl) rfl (fun X O => ?_)
  unfold wX12_cases at hw
  refine g_aload_n O dX12_cases_0 rfl ?_
  refine g_iconst O dX12_cases_1 kv_0 ?_
  obtain ⟨c2, hw⟩ := hw
  refine pf_X12_thrown O dX12_cases_2 fl_X12_121 c2 ?_
  refine g_aload_n O dX12_cases_5 rfl ?_
  refine g_iload_n O dX12_cases_6 rfl ?_
  refine g_iload_n O dX12_cases_7 rfl ?_
  refine g_callV (As := [vi x1, vi x2]) (rest := []) O ci_12 rfl dX12_cases_8 ml_X12_402 im_yX12_isEvent se_yX12_isEvent ini_X12 co_yX12_isEvent yo_yX12_isEvent c2 rfl rfl (Nat.le_of_ble_eq_true rfl) ⟨by decide, by decide, by decide, by decide⟩ (okX12_isEvent hw) (k_I fun r8 h8 hw => ?_)
  refine g_if_eq (tgt := 38) O dX12_cases_11 rfl (fun q11 => ?_) (fun q11 => ?_)
  · have hw := hw.1 q11
    refine g_aload_n O dX12_cases_38 rfl ?_
    refine g_iconst O dX12_cases_39 kv_1 ?_
    refine g_callV (As := [vi (1 : Int32)]) (rest := []) O ci_12 rfl dX12_cases_40 ml_X12_350 im_yX12_refused se_yX12_refused ini_X12 co_yX12_refused yo_yX12_refused c2 rfl rfl (Nat.le_of_ble_eq_true rfl) ⟨by decide, by decide, by decide, by decide⟩ (okX12_refused hw) (k_I fun r40 h40 hw => ?_)
    exact g_ireturn O dX12_cases_43 ⟨rfl, rfl, _, rfl, hw⟩
  · have hw := hw.2 q11
    refine g_iload_n O dX12_cases_14 rfl ?_
    refine g_iconst O dX12_cases_15 kv_0 ?_
    refine g_iconst O dX12_cases_16 kv_2 ?_
    refine g_callS (As := [vi x3, vi (0 : Int32), vi (2 : Int32)]) (rest := []) O dX12_cases_17 ml_X12_142 st_yX12_in ini_X12 co_yX12_in yo_yX12_in rfl rfl (Nat.le_of_ble_eq_true rfl) ⟨by decide, by decide, by decide, by decide⟩ (okX12_in hw) (k_I fun r17 h17 hw => ?_)
    refine g_if_eq (tgt := 38) O dX12_cases_20 rfl (fun q20 => ?_) (fun q20 => ?_)
    · have hw := hw.1 q20
      refine g_aload_n O dX12_cases_38 rfl ?_
      refine g_iconst O dX12_cases_39 kv_1 ?_
      refine g_callV (As := [vi (1 : Int32)]) (rest := []) O ci_12 rfl dX12_cases_40 ml_X12_350 im_yX12_refused se_yX12_refused ini_X12 co_yX12_refused yo_yX12_refused c2 rfl rfl (Nat.le_of_ble_eq_true rfl) ⟨by decide, by decide, by decide, by decide⟩ (okX12_refused hw) (k_I fun r40 h40 hw => ?_)
      exact g_ireturn O dX12_cases_43 ⟨rfl, rfl, _, rfl, hw⟩
    · have hw := hw.2 q20
      refine g_aload_n O dX12_cases_23 rfl ?_
      refine g_aload_n O dX12_cases_24 rfl ?_
      refine g_iload_n O dX12_cases_25 rfl ?_
      refine g_iload_n O dX12_cases_26 rfl ?_
      refine g_iload_n O dX12_cases_27 rfl ?_
      refine g_iconst O dX12_cases_28 kv_0 ?_
      refine g_callV (As := [vi x1, vi x2, vi x3, vi (0 : Int32)]) (rest := [vr a0]) O ci_12 rfl dX12_cases_29 ml_X12_453 im_yX12_failing se_yX12_failing ini_X12 co_yX12_failing yo_yX12_failing c2 rfl rfl (Nat.le_of_ble_eq_true rfl) ⟨by decide, by decide, by decide, by decide⟩ (okX12_failing hw) (k_I fun r29 h29 hw => ?_)
      refine g_callV (As := [vi r29]) (rest := []) O ci_12 rfl dX12_cases_32 ml_X12_365 im_yX12_good se_yX12_good ini_X12 co_yX12_good yo_yX12_good c2 rfl rfl (Nat.le_of_ble_eq_true rfl) ⟨by decide, by decide, by decide, by decide⟩ (okX12_good hw) (k_I fun r32 h32 hw => ?_)
      refine g_goto (tgt := 43) O dX12_cases_35 rfl ?_
      exact g_ireturn O dX12_cases_43 ⟨rfl, rfl, _, rfl, hw⟩
theorem dX12_draw_0 : decode cX12_draw 0 = .ok (.aload_n 0, 1) := by decide +kernel
theorem dX12_draw_1 : decode cX12_draw 1 = .ok (.ldc2_w 494, 3) := by decide +kernel
theorem dX12_draw_4 : decode cX12_draw 4 = .ok (.aload_n 0, 1) := by decide +kernel
theorem dX12_draw_5 : decode cX12_draw 5 = .ok (.getfield 496, 3) := by decide +kernel
theorem dX12_draw_8 : decode cX12_draw 8 = .ok (.lmul, 1) := by decide +kernel
theorem dX12_draw_9 : decode cX12_draw 9 = .ok (.ldc2_w 499, 3) := by decide +kernel
theorem dX12_draw_12 : decode cX12_draw 12 = .ok (.ladd, 1) := by decide +kernel
theorem dX12_draw_13 : decode cX12_draw 13 = .ok (.ldc2_w 501, 3) := by decide +kernel
theorem dX12_draw_16 : decode cX12_draw 16 = .ok (.lrem, 1) := by decide +kernel
theorem dX12_draw_17 : decode cX12_draw 17 = .ok (.putfield 496, 3) := by decide +kernel
theorem dX12_draw_20 : decode cX12_draw 20 = .ok (.aload_n 0, 1) := by decide +kernel
theorem dX12_draw_21 : decode cX12_draw 21 = .ok (.getfield 496, 3) := by decide +kernel
theorem dX12_draw_24 : decode cX12_draw 24 = .ok (.ldc2_w 503, 3) := by decide +kernel
theorem dX12_draw_27 : decode cX12_draw 27 = .ok (.ldiv, 1) := by decide +kernel
theorem dX12_draw_28 : decode cX12_draw 28 = .ok (.iload_n 1, 1) := by decide +kernel
theorem dX12_draw_29 : decode cX12_draw 29 = .ok (.i2l, 1) := by decide +kernel
theorem dX12_draw_30 : decode cX12_draw 30 = .ok (.lrem, 1) := by decide +kernel
theorem dX12_draw_31 : decode cX12_draw 31 = .ok (.l2i, 1) := by decide +kernel
theorem dX12_draw_32 : decode cX12_draw 32 = .ok (.ireturn, 1) := by decide +kernel
theorem okX12_draw {E : Ev} {S : Sh} {Z : Option Nat} {Q : Int32 → Hp → Prop} {h : Hp} {a0 : Nat} {x1 : Int32} (hw : wX12_draw S h a0 x1 Q) : Ct E yX12_draw cX12_draw 2 (some .int) 1 24 0 0 S Z h [vr a0, vi x1] (qI S Z Q) := by
  refine Ct.of (by decide) (lc := [some (vr a0), some (vi x1)]) (Nat.le_of_ble_eq_true rfl) rfl (fun X O => ?_)
  unfold wX12_draw at hw
  refine g_aload_n O dX12_draw_0 rfl ?_
  refine g_ldc2 O dX12_draw_1 kl_X12_494 ?_
  refine g_aload_n O dX12_draw_4 rfl ?_
  obtain ⟨c5, hw⟩ := hw
  refine gf_X12_seed O dX12_draw_5 fl_X12_496 c5 ?_
  refine g_lmul O dX12_draw_8 ?_
  refine g_ldc2 O dX12_draw_9 kl_X12_499 ?_
  refine g_ladd O dX12_draw_12 ?_
  refine g_ldc2 O dX12_draw_13 kl_X12_501 ?_
  obtain ⟨c16, hw⟩ := hw
  refine g_lrem O dX12_draw_16 c16 ?_
  refine pf_X12_seed O dX12_draw_17 fl_X12_496 c5 ?_
  refine g_nmH (fun h17 e17 => ?_)
  have hw := hw h17 e17
  refine g_aload_n O dX12_draw_20 rfl ?_
  refine gf_X12_seed O dX12_draw_21 fl_X12_496 c5 ?_
  refine g_ldc2 O dX12_draw_24 kl_X12_503 ?_
  obtain ⟨c27, hw⟩ := hw
  refine g_ldiv O dX12_draw_27 c27 ?_
  refine g_iload_n O dX12_draw_28 rfl ?_
  refine g_i2l O dX12_draw_29 ?_
  obtain ⟨c30, hw⟩ := hw
  refine g_lrem O dX12_draw_30 c30 ?_
  refine g_l2i O dX12_draw_31 ?_
  exact g_ireturn O dX12_draw_32 ⟨rfl, rfl, _, rfl, hw⟩
theorem dX12_goes_0 : decode cX12_goes 0 = .ok (.aload_n 0, 1) := by decide +kernel
theorem dX12_goes_1 : decode cX12_goes 1 = .ok (.iload_n 1, 1) := by decide +kernel
theorem dX12_goes_2 : decode cX12_goes 2 = .ok (.iload_n 2, 1) := by decide +kernel
theorem dX12_goes_3 : decode cX12_goes 3 = .ok (.iload_n 3, 1) := by decide +kernel
theorem dX12_goes_4 : decode cX12_goes 4 = .ok (.iload 4, 2) := by decide +kernel
theorem dX12_goes_6 : decode cX12_goes 6 = .ok (.invokevirtual 385, 3) := by decide +kernel
theorem dX12_goes_9 : decode cX12_goes 9 = .ok (.ifCond .eq 21, 3) := by decide +kernel
theorem dX12_goes_12 : decode cX12_goes 12 = .ok (.aload_n 0, 1) := by decide +kernel
theorem dX12_goes_13 : decode cX12_goes 13 = .ok (.iload_n 1, 1) := by decide +kernel
theorem dX12_goes_14 : decode cX12_goes 14 = .ok (.iload_n 2, 1) := by decide +kernel
theorem dX12_goes_15 : decode cX12_goes 15 = .ok (.iload_n 3, 1) := by decide +kernel
theorem dX12_goes_16 : decode cX12_goes 16 = .ok (.iload 4, 2) := by decide +kernel
theorem dX12_goes_18 : decode cX12_goes 18 = .ok (.invokevirtual 411, 3) := by decide +kernel
theorem dX12_goes_21 : decode cX12_goes 21 = .ok (.bipush (-2), 2) := by decide +kernel
theorem dX12_goes_23 : decode cX12_goes 23 = .ok (.if_icmp .eq 7, 3) := by decide +kernel
theorem dX12_goes_26 : decode cX12_goes 26 = .ok (.iconst 1, 1) := by decide +kernel
theorem dX12_goes_27 : decode cX12_goes 27 = .ok (.goto 4, 3) := by decide +kernel
theorem dX12_goes_30 : decode cX12_goes 30 = .ok (.iconst 0, 1) := by decide +kernel
theorem dX12_goes_31 : decode cX12_goes 31 = .ok (.ireturn, 1) := by decide +kernel
theorem okX12_goes {E : Ev} {S : Sh} {Z : Option Nat} {Q : Int32 → Hp → Prop} {h : Hp} {a0 : Nat} {x1 : Int32} {x2 : Int32} {x3 : Int32} {x4 : Int32} (hw : wX12_goes S h a0 x1 x2 x3 x4 Q) : Ct E yX12_goes cX12_goes 5 (some .boolean) 4 111 0 0 S Z h [vr a0, vi x1, vi x2, vi x3, vi x4] (qI S Z Q) := by
  refine Ct.of (by decide) (lc := [some (vr a0), some (vi x1), some (vi x2), some (vi x3), some (vi x4)]) (Nat.le_of_ble_eq_true rfl) rfl (fun X O => ?_)
  unfold wX12_goes at hw
  refine g_aload_n O dX12_goes_0 rfl ?_
  refine g_iload_n O dX12_goes_1 rfl ?_
  refine g_iload_n O dX12_goes_2 rfl ?_
  refine g_iload_n O dX12_goes_3 rfl ?_
  refine g_iload O dX12_goes_4 rfl ?_
  obtain ⟨c6, hw⟩ := hw
  refine g_callV (As := [vi x1, vi x2, vi x3, vi x4]) (rest := []) O ci_12 rfl dX12_goes_6 ml_X12_385 im_yX12_canBe se_yX12_canBe ini_X12 co_yX12_canBe yo_yX12_canBe c6 rfl rfl (Nat.le_of_ble_eq_true rfl) ⟨by decide, by decide, by decide, by decide⟩ (okX12_canBe hw) (k_I fun r6 h6 hw => ?_)
  refine g_if_eq (tgt := 30) O dX12_goes_9 rfl (fun q9 => ?_) (fun q9 => ?_)
  · have hw := hw.1 q9
    refine g_iconst O dX12_goes_30 kv_0 ?_
    exact g_zreturn O dX12_goes_31 (by decide) ⟨rfl, rfl, _, rfl, hw⟩
  · have hw := hw.2 q9
    refine g_aload_n O dX12_goes_12 rfl ?_
    refine g_iload_n O dX12_goes_13 rfl ?_
    refine g_iload_n O dX12_goes_14 rfl ?_
    refine g_iload_n O dX12_goes_15 rfl ?_
    refine g_iload O dX12_goes_16 rfl ?_
    refine g_callV (As := [vi x1, vi x2, vi x3, vi x4]) (rest := []) O ci_12 rfl dX12_goes_18 ml_X12_411 im_yX12_givenBy se_yX12_givenBy ini_X12 co_yX12_givenBy yo_yX12_givenBy c6 rfl rfl (Nat.le_of_ble_eq_true rfl) ⟨by decide, by decide, by decide, by decide⟩ (okX12_givenBy hw) (k_I fun r18 h18 hw => ?_)
    refine g_bipush O dX12_goes_21 kb_m2 ?_
    refine g_icmp_eq (tgt := 30) O dX12_goes_23 rfl (fun q23 => ?_) (fun q23 => ?_)
    · have hw := hw.1 q23
      refine g_iconst O dX12_goes_30 kv_0 ?_
      exact g_zreturn O dX12_goes_31 (by decide) ⟨rfl, rfl, _, rfl, hw⟩
    · have hw := hw.2 q23
      refine g_iconst O dX12_goes_26 kv_1 ?_
      refine g_goto (tgt := 31) O dX12_goes_27 rfl ?_
      exact g_zreturn O dX12_goes_31 (by decide) ⟨rfl, rfl, _, rfl, hw⟩
theorem dX12_follows_0 : decode cX12_follows 0 = .ok (.aload_n 0, 1) := by decide +kernel
theorem dX12_follows_1 : decode cX12_follows 1 = .ok (.getfield 106, 3) := by decide +kernel
theorem dX12_follows_4 : decode cX12_follows 4 = .ok (.istore_n 3, 1) := by decide +kernel
theorem dX12_follows_5 : decode cX12_follows 5 = .ok (.iload_n 3, 1) := by decide +kernel
theorem dX12_follows_6 : decode cX12_follows 6 = .ok (.ifCond .ne 4, 3) := by decide +kernel
theorem dX12_follows_9 : decode cX12_follows 9 = .ok (.return_, 1) := by decide +kernel
theorem dX12_follows_10 : decode cX12_follows 10 = .ok (.aload_n 0, 1) := by decide +kernel
theorem dX12_follows_11 : decode cX12_follows 11 = .ok (.getfield 60, 3) := by decide +kernel
theorem dX12_follows_14 : decode cX12_follows 14 = .ok (.iconst 4, 1) := by decide +kernel
theorem dX12_follows_15 : decode cX12_follows 15 = .ok (.iload_n 3, 1) := by decide +kernel
theorem dX12_follows_16 : decode cX12_follows 16 = .ok (.imul, 1) := by decide +kernel
theorem dX12_follows_17 : decode cX12_follows 17 = .ok (.iload_n 1, 1) := by decide +kernel
theorem dX12_follows_18 : decode cX12_follows 18 = .ok (.iadd, 1) := by decide +kernel
theorem dX12_follows_19 : decode cX12_follows 19 = .ok (.iaload, 1) := by decide +kernel
theorem dX12_follows_20 : decode cX12_follows 20 = .ok (.istore 4, 2) := by decide +kernel
theorem dX12_follows_22 : decode cX12_follows 22 = .ok (.iconst 0, 1) := by decide +kernel
theorem dX12_follows_23 : decode cX12_follows 23 = .ok (.istore 5, 2) := by decide +kernel
theorem dX12_follows_25 : decode cX12_follows 25 = .ok (.iload 5, 2) := by decide +kernel
theorem dX12_follows_27 : decode cX12_follows 27 = .ok (.bipush 100, 2) := by decide +kernel
theorem dX12_follows_29 : decode cX12_follows 29 = .ok (.if_icmp .ge 31, 3) := by decide +kernel
theorem dX12_follows_32 : decode cX12_follows 32 = .ok (.aload_n 0, 1) := by decide +kernel
theorem dX12_follows_33 : decode cX12_follows 33 = .ok (.getfield 112, 3) := by decide +kernel
theorem dX12_follows_36 : decode cX12_follows 36 = .ok (.iload 5, 2) := by decide +kernel
theorem dX12_follows_38 : decode cX12_follows 38 = .ok (.aload_n 0, 1) := by decide +kernel
theorem dX12_follows_39 : decode cX12_follows 39 = .ok (.getfield 109, 3) := by decide +kernel
theorem dX12_follows_42 : decode cX12_follows 42 = .ok (.iload 5, 2) := by decide +kernel
theorem dX12_follows_44 : decode cX12_follows 44 = .ok (.baload, 1) := by decide +kernel
theorem dX12_follows_45 : decode cX12_follows 45 = .ok (.bastore, 1) := by decide +kernel
theorem dX12_follows_46 : decode cX12_follows 46 = .ok (.aload_n 0, 1) := by decide +kernel
theorem dX12_follows_47 : decode cX12_follows 47 = .ok (.getfield 109, 3) := by decide +kernel
theorem dX12_follows_50 : decode cX12_follows 50 = .ok (.iload 5, 2) := by decide +kernel
theorem dX12_follows_52 : decode cX12_follows 52 = .ok (.iconst 0, 1) := by decide +kernel
theorem dX12_follows_53 : decode cX12_follows 53 = .ok (.bastore, 1) := by decide +kernel
theorem dX12_follows_54 : decode cX12_follows 54 = .ok (.iinc 5 1, 3) := by decide +kernel
theorem dX12_follows_57 : decode cX12_follows 57 = .ok (.goto (-32), 3) := by decide +kernel
theorem dX12_follows_60 : decode cX12_follows 60 = .ok (.iconst 0, 1) := by decide +kernel
theorem dX12_follows_61 : decode cX12_follows 61 = .ok (.istore 5, 2) := by decide +kernel
theorem dX12_follows_63 : decode cX12_follows 63 = .ok (.iload 5, 2) := by decide +kernel
theorem dX12_follows_65 : decode cX12_follows 65 = .ok (.aload_n 0, 1) := by decide +kernel
theorem dX12_follows_66 : decode cX12_follows 66 = .ok (.getfield 36, 3) := by decide +kernel
theorem dX12_follows_69 : decode cX12_follows 69 = .ok (.iload_n 3, 1) := by decide +kernel
theorem dX12_follows_70 : decode cX12_follows 70 = .ok (.iconst 1, 1) := by decide +kernel
theorem dX12_follows_71 : decode cX12_follows 71 = .ok (.isub, 1) := by decide +kernel
theorem dX12_follows_72 : decode cX12_follows 72 = .ok (.iaload, 1) := by decide +kernel
theorem dX12_follows_73 : decode cX12_follows 73 = .ok (.if_icmp .ge 160, 3) := by decide +kernel
theorem dX12_follows_76 : decode cX12_follows 76 = .ok (.aload_n 0, 1) := by decide +kernel
theorem dX12_follows_77 : decode cX12_follows 77 = .ok (.getfield 112, 3) := by decide +kernel
theorem dX12_follows_80 : decode cX12_follows 80 = .ok (.iload 5, 2) := by decide +kernel
theorem dX12_follows_82 : decode cX12_follows 82 = .ok (.baload, 1) := by decide +kernel
theorem dX12_follows_83 : decode cX12_follows 83 = .ok (.ifCond .ne 6, 3) := by decide +kernel
theorem dX12_follows_86 : decode cX12_follows 86 = .ok (.goto 141, 3) := by decide +kernel
theorem dX12_follows_89 : decode cX12_follows 89 = .ok (.iload 4, 2) := by decide +kernel
theorem dX12_follows_91 : decode cX12_follows 91 = .ok (.bipush (-2), 2) := by decide +kernel
theorem dX12_follows_93 : decode cX12_follows 93 = .ok (.if_icmp .ne 29, 3) := by decide +kernel
theorem dX12_follows_96 : decode cX12_follows 96 = .ok (.aload_n 0, 1) := by decide +kernel
theorem dX12_follows_97 : decode cX12_follows 97 = .ok (.getfield 100, 3) := by decide +kernel
theorem dX12_follows_100 : decode cX12_follows 100 = .ok (.iload_n 3, 1) := by decide +kernel
theorem dX12_follows_101 : decode cX12_follows 101 = .ok (.iload 5, 2) := by decide +kernel
theorem dX12_follows_103 : decode cX12_follows 103 = .ok (.iload_n 2, 1) := by decide +kernel
theorem dX12_follows_104 : decode cX12_follows 104 = .ok (.invokestatic 382, 3) := by decide +kernel
theorem dX12_follows_107 : decode cX12_follows 107 = .ok (.baload, 1) := by decide +kernel
theorem dX12_follows_108 : decode cX12_follows 108 = .ok (.ifCond .eq 119, 3) := by decide +kernel
theorem dX12_follows_111 : decode cX12_follows 111 = .ok (.aload_n 0, 1) := by decide +kernel
theorem dX12_follows_112 : decode cX12_follows 112 = .ok (.getfield 109, 3) := by decide +kernel
theorem dX12_follows_115 : decode cX12_follows 115 = .ok (.iload 5, 2) := by decide +kernel
theorem dX12_follows_117 : decode cX12_follows 117 = .ok (.iconst 1, 1) := by decide +kernel
theorem dX12_follows_118 : decode cX12_follows 118 = .ok (.bastore, 1) := by decide +kernel
theorem dX12_follows_119 : decode cX12_follows 119 = .ok (.goto 108, 3) := by decide +kernel
theorem dX12_follows_122 : decode cX12_follows 122 = .ok (.aload_n 0, 1) := by decide +kernel
theorem dX12_follows_123 : decode cX12_follows 123 = .ok (.getfield 63, 3) := by decide +kernel
theorem dX12_follows_126 : decode cX12_follows 126 = .ok (.iconst 4, 1) := by decide +kernel
theorem dX12_follows_127 : decode cX12_follows 127 = .ok (.iload_n 3, 1) := by decide +kernel
theorem dX12_follows_128 : decode cX12_follows 128 = .ok (.iconst 1, 1) := by decide +kernel
theorem dX12_follows_129 : decode cX12_follows 129 = .ok (.isub, 1) := by decide +kernel
theorem dX12_follows_130 : decode cX12_follows 130 = .ok (.imul, 1) := by decide +kernel
theorem dX12_follows_131 : decode cX12_follows 131 = .ok (.iload 4, 2) := by decide +kernel
theorem dX12_follows_133 : decode cX12_follows 133 = .ok (.iadd, 1) := by decide +kernel
theorem dX12_follows_134 : decode cX12_follows 134 = .ok (.iaload, 1) := by decide +kernel
theorem dX12_follows_135 : decode cX12_follows 135 = .ok (.istore 6, 2) := by decide +kernel
theorem dX12_follows_137 : decode cX12_follows 137 = .ok (.iload 6, 2) := by decide +kernel
theorem dX12_follows_139 : decode cX12_follows 139 = .ok (.aload_n 0, 1) := by decide +kernel
theorem dX12_follows_140 : decode cX12_follows 140 = .ok (.getfield 66, 3) := by decide +kernel
theorem dX12_follows_143 : decode cX12_follows 143 = .ok (.iconst 4, 1) := by decide +kernel
theorem dX12_follows_144 : decode cX12_follows 144 = .ok (.iload_n 3, 1) := by decide +kernel
theorem dX12_follows_145 : decode cX12_follows 145 = .ok (.iconst 1, 1) := by decide +kernel
theorem dX12_follows_146 : decode cX12_follows 146 = .ok (.isub, 1) := by decide +kernel
theorem dX12_follows_147 : decode cX12_follows 147 = .ok (.imul, 1) := by decide +kernel
theorem dX12_follows_148 : decode cX12_follows 148 = .ok (.iload 4, 2) := by decide +kernel
theorem dX12_follows_150 : decode cX12_follows 150 = .ok (.iadd, 1) := by decide +kernel
theorem dX12_follows_151 : decode cX12_follows 151 = .ok (.iaload, 1) := by decide +kernel
theorem dX12_follows_152 : decode cX12_follows 152 = .ok (.if_icmp .gt 75, 3) := by decide +kernel
theorem dX12_follows_155 : decode cX12_follows 155 = .ok (.aload_n 0, 1) := by decide +kernel
theorem dX12_follows_156 : decode cX12_follows 156 = .ok (.iload_n 3, 1) := by decide +kernel
theorem dX12_follows_157 : decode cX12_follows 157 = .ok (.iconst 1, 1) := by decide +kernel
theorem dX12_follows_158 : decode cX12_follows 158 = .ok (.isub, 1) := by decide +kernel
theorem dX12_follows_159 : decode cX12_follows 159 = .ok (.iload 4, 2) := by decide +kernel
theorem dX12_follows_161 : decode cX12_follows 161 = .ok (.iload 5, 2) := by decide +kernel
theorem dX12_follows_163 : decode cX12_follows 163 = .ok (.iload 6, 2) := by decide +kernel
theorem dX12_follows_165 : decode cX12_follows 165 = .ok (.invokevirtual 385, 3) := by decide +kernel
theorem dX12_follows_168 : decode cX12_follows 168 = .ok (.ifCond .eq 19, 3) := by decide +kernel
theorem dX12_follows_171 : decode cX12_follows 171 = .ok (.aload_n 0, 1) := by decide +kernel
theorem dX12_follows_172 : decode cX12_follows 172 = .ok (.iload_n 3, 1) := by decide +kernel
theorem dX12_follows_173 : decode cX12_follows 173 = .ok (.iconst 1, 1) := by decide +kernel
theorem dX12_follows_174 : decode cX12_follows 174 = .ok (.isub, 1) := by decide +kernel
theorem dX12_follows_175 : decode cX12_follows 175 = .ok (.iload 4, 2) := by decide +kernel
theorem dX12_follows_177 : decode cX12_follows 177 = .ok (.iload 5, 2) := by decide +kernel
theorem dX12_follows_179 : decode cX12_follows 179 = .ok (.iload 6, 2) := by decide +kernel
theorem dX12_follows_181 : decode cX12_follows 181 = .ok (.invokevirtual 411, 3) := by decide +kernel
theorem dX12_follows_184 : decode cX12_follows 184 = .ok (.goto 5, 3) := by decide +kernel
theorem dX12_follows_187 : decode cX12_follows 187 = .ok (.bipush (-2), 2) := by decide +kernel
theorem dX12_follows_189 : decode cX12_follows 189 = .ok (.istore 7, 2) := by decide +kernel
theorem dX12_follows_191 : decode cX12_follows 191 = .ok (.iload 7, 2) := by decide +kernel
theorem dX12_follows_193 : decode cX12_follows 193 = .ok (.bipush (-2), 2) := by decide +kernel
theorem dX12_follows_195 : decode cX12_follows 195 = .ok (.if_icmp .eq 26, 3) := by decide +kernel
theorem dX12_follows_198 : decode cX12_follows 198 = .ok (.aload_n 0, 1) := by decide +kernel
theorem dX12_follows_199 : decode cX12_follows 199 = .ok (.getfield 100, 3) := by decide +kernel
theorem dX12_follows_202 : decode cX12_follows 202 = .ok (.iload_n 3, 1) := by decide +kernel
theorem dX12_follows_203 : decode cX12_follows 203 = .ok (.iload 7, 2) := by decide +kernel
theorem dX12_follows_205 : decode cX12_follows 205 = .ok (.iload_n 2, 1) := by decide +kernel
theorem dX12_follows_206 : decode cX12_follows 206 = .ok (.invokestatic 382, 3) := by decide +kernel
theorem dX12_follows_209 : decode cX12_follows 209 = .ok (.baload, 1) := by decide +kernel
theorem dX12_follows_210 : decode cX12_follows 210 = .ok (.ifCond .eq 11, 3) := by decide +kernel
theorem dX12_follows_213 : decode cX12_follows 213 = .ok (.aload_n 0, 1) := by decide +kernel
theorem dX12_follows_214 : decode cX12_follows 214 = .ok (.getfield 109, 3) := by decide +kernel
theorem dX12_follows_217 : decode cX12_follows 217 = .ok (.iload 7, 2) := by decide +kernel
theorem dX12_follows_219 : decode cX12_follows 219 = .ok (.iconst 1, 1) := by decide +kernel
theorem dX12_follows_220 : decode cX12_follows 220 = .ok (.bastore, 1) := by decide +kernel
theorem dX12_follows_221 : decode cX12_follows 221 = .ok (.iinc 6 1, 3) := by decide +kernel
theorem dX12_follows_224 : decode cX12_follows 224 = .ok (.goto (-87), 3) := by decide +kernel
theorem dX12_follows_227 : decode cX12_follows 227 = .ok (.iinc 5 1, 3) := by decide +kernel
theorem dX12_follows_230 : decode cX12_follows 230 = .ok (.goto (-167), 3) := by decide +kernel
theorem dX12_follows_233 : decode cX12_follows 233 = .ok (.return_, 1) := by decide +kernel
theorem okX12_follows_j189 {E : Ev} {X : Cx} {S : Sh} {Z : Option Nat} {Q : Hp → Prop} {B63 : Hp → Int32 → Prop} {B137 : Hp → Int32 → Prop} {h : Hp} {a0 : Nat} {x2 : Int32} {x3 : Int32} {x4 : Int32} {x5 : Int32} {x6 : Int32} {s0 : Int32} (O : Ok E X yX12_follows cX12_follows 8 none 4 111 0 0 (qV S Z Q)) (hB63 : ∀ (h : Hp) (x5 : Int32), B63 h x5 → G E X 0 0 S Z h 63 [some (vr a0), none, some (vi x2), some (vi x3), some (vi x4), some (vi x5), none, none] []) (hB137 : ∀ (h : Hp) (x6 : Int32), B137 h x6 → G E X 0 0 S Z h 137 [some (vr a0), none, some (vi x2), some (vi x3), some (vi x4), some (vi x5), some (vi x6), none] []) (hw : wX12_follows_j189 S B63 B137 h a0 x2 x3 x4 x5 x6 s0 Q) : G E X 0 0 S Z h 189 [some (vr a0), none, some (vi x2), some (vi x3), some (vi x4), some (vi x5), some (vi x6), none] [vi s0] := by
  unfold wX12_follows_j189 at hw
  refine g_istore (lc' := [some (vr a0), none, some (vi x2), some (vi x3), some (vi x4), some (vi x5), some (vi x6), some (vi s0)]) O dX12_follows_189 rfl (Nat.le_of_ble_eq_true rfl) rfl ?_
  refine g_iload O dX12_follows_191 rfl ?_
  refine g_bipush O dX12_follows_193 kb_m2 ?_
  refine g_icmp_eq (tgt := 221) O dX12_follows_195 rfl (fun q195 => ?_) (fun q195 => ?_)
  · have hw := hw.1 q195
    refine g_iinc (lc' := [some (vr a0), none, some (vi x2), some (vi x3), some (vi x4), some (vi x5), some (vi (x6 + (1 : Int32))), some (vi s0)]) O dX12_follows_221 rfl kv_1 rfl rfl ?_
    refine g_goto (tgt := 137) O dX12_follows_224 rfl ?_
    refine g_mask [true, false, true, true, true, true, true, false] rfl rfl ?_
    exact hB137 _ _ hw
  · have hw := hw.2 q195
    refine g_aload_n O dX12_follows_198 rfl ?_
    obtain ⟨c199, hw⟩ := hw
    refine gf_X12_isGlued O dX12_follows_199 fl_X12_100 c199 ?_
    refine g_iload_n O dX12_follows_202 rfl ?_
    refine g_iload O dX12_follows_203 rfl ?_
    refine g_iload_n O dX12_follows_205 rfl ?_
    refine g_callS (As := [vi x3, vi s0, vi x2]) (rest := [vr (gR h a0 48)]) O dX12_follows_206 ml_X12_382 st_yX12_pair ini_X12 co_yX12_pair yo_yX12_pair rfl rfl (Nat.le_of_ble_eq_true rfl) ⟨by decide, by decide, by decide, by decide⟩ (okX12_pair hw) (k_I fun r206 h206 hw => ?_)
    obtain ⟨c209, hw⟩ := hw
    refine g_zaload O dX12_follows_209 c209.1 c209.2 ?_
    refine g_if_eq (tgt := 221) O dX12_follows_210 rfl (fun q210 => ?_) (fun q210 => ?_)
    · have hw := hw.1 q210
      refine g_iinc (lc' := [some (vr a0), none, some (vi x2), some (vi x3), some (vi x4), some (vi x5), some (vi (x6 + (1 : Int32))), some (vi s0)]) O dX12_follows_221 rfl kv_1 rfl rfl ?_
      refine g_goto (tgt := 137) O dX12_follows_224 rfl ?_
      refine g_mask [true, false, true, true, true, true, true, false] rfl rfl ?_
      exact hB137 _ _ hw
    · have hw := hw.2 q210
      refine g_aload_n O dX12_follows_213 rfl ?_
      refine gf_X12_isBeside O dX12_follows_214 fl_X12_109 c199 ?_
      refine g_iload O dX12_follows_217 rfl ?_
      refine g_iconst O dX12_follows_219 kv_1 ?_
      obtain ⟨c220, hw⟩ := hw
      refine g_zastore O dX12_follows_220 c220.1 c220.2 ?_
      refine g_iinc (lc' := [some (vr a0), none, some (vi x2), some (vi x3), some (vi x4), some (vi x5), some (vi (x6 + (1 : Int32))), some (vi s0)]) O dX12_follows_221 rfl kv_1 rfl rfl ?_
      refine g_goto (tgt := 137) O dX12_follows_224 rfl ?_
      refine g_mask [true, false, true, true, true, true, true, false] rfl rfl ?_
      exact hB137 _ _ hw
theorem okX12_follows_137 {E : Ev} {X : Cx} {S : Sh} {Z : Option Nat} {Q : Hp → Prop} {B63 : Hp → Int32 → Prop} {a0 : Nat} {x2 : Int32} {x3 : Int32} {x4 : Int32} {x5 : Int32} (O : Ok E X yX12_follows cX12_follows 8 none 4 111 0 0 (qV S Z Q)) (hB63 : ∀ (h : Hp) (x5 : Int32), B63 h x5 → G E X 0 0 S Z h 63 [some (vr a0), none, some (vi x2), some (vi x3), some (vi x4), some (vi x5), none, none] []) : ∀ (n : Nat) (h : Hp) (x6 : Int32), wX12_follows_137 S B63 a0 x2 x3 x4 x5 Q n h x6 → G E X 0 0 S Z h 137 [some (vr a0), none, some (vi x2), some (vi x3), some (vi x4), some (vi x5), some (vi x6), none] [] := by
  intro n
  induction n with
  | zero => intro h x6 hw; exact hw.elim
  | succ n hB137 =>
    intro h x6 hw
    have hw : wX12_follows_137b S B63 a0 x2 x3 x4 x5 Q (wX12_follows_137 S B63 a0 x2 x3 x4 x5 Q n) h x6 := hw
    unfold wX12_follows_137b at hw
    refine g_iload O dX12_follows_137 rfl ?_
    refine g_aload_n O dX12_follows_139 rfl ?_
    obtain ⟨c140, hw⟩ := hw
    refine gf_X12_lastPick O dX12_follows_140 fl_X12_66 c140 ?_
    refine g_iconst O dX12_follows_143 kv_4 ?_
    refine g_iload_n O dX12_follows_144 rfl ?_
    refine g_iconst O dX12_follows_145 kv_1 ?_
    refine g_isub O dX12_follows_146 ?_
    refine g_imul O dX12_follows_147 ?_
    refine g_iload O dX12_follows_148 rfl ?_
    refine g_iadd O dX12_follows_150 ?_
    obtain ⟨c151, hw⟩ := hw
    refine g_iaload O dX12_follows_151 c151.1 c151.2 ?_
    refine g_icmp_gt (tgt := 227) O dX12_follows_152 rfl (fun q152 => ?_) (fun q152 => ?_)
    · have hw := hw.1 q152
      refine g_iinc (lc' := [some (vr a0), none, some (vi x2), some (vi x3), some (vi x4), some (vi (x5 + (1 : Int32))), some (vi x6), none]) O dX12_follows_227 rfl kv_1 rfl rfl ?_
      refine g_goto (tgt := 63) O dX12_follows_230 rfl ?_
      refine g_mask [true, false, true, true, true, true, false, false] rfl rfl ?_
      exact hB63 _ _ hw
    · have hw := hw.2 q152
      refine g_aload_n O dX12_follows_155 rfl ?_
      refine g_iload_n O dX12_follows_156 rfl ?_
      refine g_iconst O dX12_follows_157 kv_1 ?_
      refine g_isub O dX12_follows_158 ?_
      refine g_iload O dX12_follows_159 rfl ?_
      refine g_iload O dX12_follows_161 rfl ?_
      refine g_iload O dX12_follows_163 rfl ?_
      refine g_callV (As := [vi ((x3 - (1 : Int32))), vi x4, vi x5, vi x6]) (rest := []) O ci_12 rfl dX12_follows_165 ml_X12_385 im_yX12_canBe se_yX12_canBe ini_X12 co_yX12_canBe yo_yX12_canBe c140 rfl rfl (Nat.le_of_ble_eq_true rfl) ⟨by decide, by decide, by decide, by decide⟩ (okX12_canBe hw) (k_I fun r165 h165 hw => ?_)
      refine g_if_eq (tgt := 187) O dX12_follows_168 rfl (fun q168 => ?_) (fun q168 => ?_)
      · have hw := hw.1 q168
        refine g_bipush O dX12_follows_187 kb_m2 ?_
        exact okX12_follows_j189 O hB63 hB137 hw
      · have hw := hw.2 q168
        refine g_aload_n O dX12_follows_171 rfl ?_
        refine g_iload_n O dX12_follows_172 rfl ?_
        refine g_iconst O dX12_follows_173 kv_1 ?_
        refine g_isub O dX12_follows_174 ?_
        refine g_iload O dX12_follows_175 rfl ?_
        refine g_iload O dX12_follows_177 rfl ?_
        refine g_iload O dX12_follows_179 rfl ?_
        refine g_callV (As := [vi ((x3 - (1 : Int32))), vi x4, vi x5, vi x6]) (rest := []) O ci_12 rfl dX12_follows_181 ml_X12_411 im_yX12_givenBy se_yX12_givenBy ini_X12 co_yX12_givenBy yo_yX12_givenBy c140 rfl rfl (Nat.le_of_ble_eq_true rfl) ⟨by decide, by decide, by decide, by decide⟩ (okX12_givenBy hw) (k_I fun r181 h181 hw => ?_)
        refine g_goto (tgt := 189) O dX12_follows_184 rfl ?_
        exact okX12_follows_j189 O hB63 hB137 hw
theorem okX12_follows_63 {E : Ev} {X : Cx} {S : Sh} {Z : Option Nat} {Q : Hp → Prop} {a0 : Nat} {x2 : Int32} {x3 : Int32} {x4 : Int32} (O : Ok E X yX12_follows cX12_follows 8 none 4 111 0 0 (qV S Z Q)) : ∀ (n : Nat) (h : Hp) (x5 : Int32), wX12_follows_63 S a0 x2 x3 x4 Q n h x5 → G E X 0 0 S Z h 63 [some (vr a0), none, some (vi x2), some (vi x3), some (vi x4), some (vi x5), none, none] [] := by
  intro n
  induction n with
  | zero => intro h x5 hw; exact hw.elim
  | succ n hB63 =>
    intro h x5 hw
    have hw : wX12_follows_63b S a0 x2 x3 x4 Q (wX12_follows_63 S a0 x2 x3 x4 Q n) h x5 := hw
    unfold wX12_follows_63b at hw
    refine g_iload O dX12_follows_63 rfl ?_
    refine g_aload_n O dX12_follows_65 rfl ?_
    obtain ⟨c66, hw⟩ := hw
    refine gf_X12_sizes O dX12_follows_66 fl_X12_36 c66 ?_
    refine g_iload_n O dX12_follows_69 rfl ?_
    refine g_iconst O dX12_follows_70 kv_1 ?_
    refine g_isub O dX12_follows_71 ?_
    obtain ⟨c72, hw⟩ := hw
    refine g_iaload O dX12_follows_72 c72.1 c72.2 ?_
    refine g_icmp_ge (tgt := 233) O dX12_follows_73 rfl (fun q73 => ?_) (fun q73 => ?_)
    · have hw := hw.1 q73
      exact g_return O dX12_follows_233 ⟨rfl, rfl, rfl, hw⟩
    · have hw := hw.2 q73
      refine g_aload_n O dX12_follows_76 rfl ?_
      refine gf_X12_wasBeside O dX12_follows_77 fl_X12_112 c66 ?_
      refine g_iload O dX12_follows_80 rfl ?_
      obtain ⟨c82, hw⟩ := hw
      refine g_zaload O dX12_follows_82 c82.1 c82.2 ?_
      refine g_if_ne (tgt := 89) O dX12_follows_83 rfl (fun q83 => ?_) (fun q83 => ?_)
      · have hw := hw.1 q83
        refine g_iload O dX12_follows_89 rfl ?_
        refine g_bipush O dX12_follows_91 kb_m2 ?_
        refine g_icmp_ne (tgt := 122) O dX12_follows_93 rfl (fun q93 => ?_) (fun q93 => ?_)
        · have hw := hw.1 q93
          refine g_aload_n O dX12_follows_122 rfl ?_
          refine gf_X12_firstPick O dX12_follows_123 fl_X12_63 c66 ?_
          refine g_iconst O dX12_follows_126 kv_4 ?_
          refine g_iload_n O dX12_follows_127 rfl ?_
          refine g_iconst O dX12_follows_128 kv_1 ?_
          refine g_isub O dX12_follows_129 ?_
          refine g_imul O dX12_follows_130 ?_
          refine g_iload O dX12_follows_131 rfl ?_
          refine g_iadd O dX12_follows_133 ?_
          obtain ⟨c134, hw⟩ := hw
          refine g_iaload O dX12_follows_134 c134.1 c134.2 ?_
          refine g_nmI (fun xv135 e135 => ?_)
          have hw := hw xv135 e135
          refine g_istore (lc' := [some (vr a0), none, some (vi x2), some (vi x3), some (vi x4), some (vi x5), some (vi xv135), none]) O dX12_follows_135 rfl (Nat.le_of_ble_eq_true rfl) rfl ?_
          obtain ⟨n137, hw⟩ := hw
          exact okX12_follows_137 O hB63 n137 _ _ hw
        · have hw := hw.2 q93
          refine g_aload_n O dX12_follows_96 rfl ?_
          refine gf_X12_isGlued O dX12_follows_97 fl_X12_100 c66 ?_
          refine g_iload_n O dX12_follows_100 rfl ?_
          refine g_iload O dX12_follows_101 rfl ?_
          refine g_iload_n O dX12_follows_103 rfl ?_
          refine g_callS (As := [vi x3, vi x5, vi x2]) (rest := [vr (gR h a0 48)]) O dX12_follows_104 ml_X12_382 st_yX12_pair ini_X12 co_yX12_pair yo_yX12_pair rfl rfl (Nat.le_of_ble_eq_true rfl) ⟨by decide, by decide, by decide, by decide⟩ (okX12_pair hw) (k_I fun r104 h104 hw => ?_)
          obtain ⟨c107, hw⟩ := hw
          refine g_zaload O dX12_follows_107 c107.1 c107.2 ?_
          refine g_if_eq (tgt := 227) O dX12_follows_108 rfl (fun q108 => ?_) (fun q108 => ?_)
          · have hw := hw.1 q108
            refine g_iinc (lc' := [some (vr a0), none, some (vi x2), some (vi x3), some (vi x4), some (vi (x5 + (1 : Int32))), none, none]) O dX12_follows_227 rfl kv_1 rfl rfl ?_
            refine g_goto (tgt := 63) O dX12_follows_230 rfl ?_
            exact hB63 _ _ hw
          · have hw := hw.2 q108
            refine g_aload_n O dX12_follows_111 rfl ?_
            refine gf_X12_isBeside O dX12_follows_112 fl_X12_109 c66 ?_
            refine g_iload O dX12_follows_115 rfl ?_
            refine g_iconst O dX12_follows_117 kv_1 ?_
            obtain ⟨c118, hw⟩ := hw
            refine g_zastore O dX12_follows_118 c118.1 c118.2 ?_
            refine g_goto (tgt := 227) O dX12_follows_119 rfl ?_
            refine g_iinc (lc' := [some (vr a0), none, some (vi x2), some (vi x3), some (vi x4), some (vi (x5 + (1 : Int32))), none, none]) O dX12_follows_227 rfl kv_1 rfl rfl ?_
            refine g_goto (tgt := 63) O dX12_follows_230 rfl ?_
            exact hB63 _ _ hw
      · have hw := hw.2 q83
        refine g_goto (tgt := 227) O dX12_follows_86 rfl ?_
        refine g_iinc (lc' := [some (vr a0), none, some (vi x2), some (vi x3), some (vi x4), some (vi (x5 + (1 : Int32))), none, none]) O dX12_follows_227 rfl kv_1 rfl rfl ?_
        refine g_goto (tgt := 63) O dX12_follows_230 rfl ?_
        exact hB63 _ _ hw
theorem okX12_follows_j60 {E : Ev} {X : Cx} {S : Sh} {Z : Option Nat} {Q : Hp → Prop} {h : Hp} {a0 : Nat} {x2 : Int32} {x3 : Int32} {x4 : Int32} (O : Ok E X yX12_follows cX12_follows 8 none 4 111 0 0 (qV S Z Q)) (hw : wX12_follows_j60 S h a0 x2 x3 x4 Q) : G E X 0 0 S Z h 60 [some (vr a0), none, some (vi x2), some (vi x3), some (vi x4), none, none, none] [] := by
  unfold wX12_follows_j60 at hw
  refine g_iconst O dX12_follows_60 kv_0 ?_
  refine g_istore (lc' := [some (vr a0), none, some (vi x2), some (vi x3), some (vi x4), some (vi (0 : Int32)), none, none]) O dX12_follows_61 rfl (Nat.le_of_ble_eq_true rfl) rfl ?_
  obtain ⟨n63, hw⟩ := hw
  exact okX12_follows_63 O n63 _ _ hw
theorem okX12_follows_25 {E : Ev} {X : Cx} {S : Sh} {Z : Option Nat} {Q : Hp → Prop} {a0 : Nat} {x2 : Int32} {x3 : Int32} {x4 : Int32} (O : Ok E X yX12_follows cX12_follows 8 none 4 111 0 0 (qV S Z Q)) : ∀ (n : Nat) (h : Hp) (x5 : Int32), wX12_follows_25 S a0 x2 x3 x4 Q n h x5 → G E X 0 0 S Z h 25 [some (vr a0), none, some (vi x2), some (vi x3), some (vi x4), some (vi x5), none, none] [] := by
  intro n
  induction n with
  | zero => intro h x5 hw; exact hw.elim
  | succ n hB25 =>
    intro h x5 hw
    have hw : wX12_follows_25b S a0 x2 x3 x4 Q (wX12_follows_25 S a0 x2 x3 x4 Q n) h x5 := hw
    unfold wX12_follows_25b at hw
    refine g_iload O dX12_follows_25 rfl ?_
    refine g_bipush O dX12_follows_27 kb_100 ?_
    refine g_icmp_ge (tgt := 60) O dX12_follows_29 rfl (fun q29 => ?_) (fun q29 => ?_)
    · have hw := hw.1 q29
      refine g_mask [true, false, true, true, true, false, false, false] rfl rfl ?_
      exact okX12_follows_j60 O hw
    · have hw := hw.2 q29
      refine g_aload_n O dX12_follows_32 rfl ?_
      obtain ⟨c33, hw⟩ := hw
      refine gf_X12_wasBeside O dX12_follows_33 fl_X12_112 c33 ?_
      refine g_iload O dX12_follows_36 rfl ?_
      refine g_aload_n O dX12_follows_38 rfl ?_
      refine gf_X12_isBeside O dX12_follows_39 fl_X12_109 c33 ?_
      refine g_iload O dX12_follows_42 rfl ?_
      obtain ⟨c44, hw⟩ := hw
      refine g_zaload O dX12_follows_44 c44.1 c44.2 ?_
      obtain ⟨c45, hw⟩ := hw
      refine g_zastore O dX12_follows_45 c45.1 c45.2 ?_
      refine g_nmH (fun h45 e45 => ?_)
      have hw := hw h45 e45
      refine g_aload_n O dX12_follows_46 rfl ?_
      refine gf_X12_isBeside O dX12_follows_47 fl_X12_109 c33 ?_
      refine g_iload O dX12_follows_50 rfl ?_
      refine g_iconst O dX12_follows_52 kv_0 ?_
      obtain ⟨c53, hw⟩ := hw
      refine g_zastore O dX12_follows_53 c53.1 c53.2 ?_
      refine g_iinc (lc' := [some (vr a0), none, some (vi x2), some (vi x3), some (vi x4), some (vi (x5 + (1 : Int32))), none, none]) O dX12_follows_54 rfl kv_1 rfl rfl ?_
      refine g_goto (tgt := 25) O dX12_follows_57 rfl ?_
      exact hB25 _ _ hw
theorem okX12_follows {E : Ev} {S : Sh} {Z : Option Nat} {Q : Hp → Prop} {h : Hp} {a0 : Nat} {x1 : Int32} {x2 : Int32} (hw : wX12_follows S h a0 x1 x2 Q) : Ct E yX12_follows cX12_follows 8 none 4 111 0 0 S Z h [vr a0, vi x1, vi x2] (qV S Z Q) := by
  refine Ct.of (by decide) (lc := [some (vr a0), some (vi x1), some (vi x2), none, none, none, none, none]) (Nat.le_of_ble_eq_true rfl) rfl (fun X O => ?_)
  unfold wX12_follows at hw
  refine g_aload_n O dX12_follows_0 rfl ?_
  obtain ⟨c1, hw⟩ := hw
  refine gf_X12_runOf O dX12_follows_1 fl_X12_106 c1 ?_
  refine g_istore_n (lc' := [some (vr a0), some (vi x1), some (vi x2), some (vi (gI h a0 56)), none, none, none, none]) O dX12_follows_4 rfl (Nat.le_of_ble_eq_true rfl) rfl ?_
  refine g_iload_n O dX12_follows_5 rfl ?_
  refine g_if_ne (tgt := 10) O dX12_follows_6 rfl (fun q6 => ?_) (fun q6 => ?_)
  · have hw := hw.1 q6
    refine g_aload_n O dX12_follows_10 rfl ?_
    refine gf_X12_eventOf O dX12_follows_11 fl_X12_60 c1 ?_
    refine g_iconst O dX12_follows_14 kv_4 ?_
    refine g_iload_n O dX12_follows_15 rfl ?_
    refine g_imul O dX12_follows_16 ?_
    refine g_iload_n O dX12_follows_17 rfl ?_
    refine g_iadd O dX12_follows_18 ?_
    obtain ⟨c19, hw⟩ := hw
    refine g_iaload O dX12_follows_19 c19.1 c19.2 ?_
    refine g_nmI (fun xv20 e20 => ?_)
    have hw := hw xv20 e20
    refine g_istore (lc' := [some (vr a0), some (vi x1), some (vi x2), some (vi (gI h a0 56)), some (vi xv20), none, none, none]) O dX12_follows_20 rfl (Nat.le_of_ble_eq_true rfl) rfl ?_
    refine g_iconst O dX12_follows_22 kv_0 ?_
    refine g_istore (lc' := [some (vr a0), some (vi x1), some (vi x2), some (vi (gI h a0 56)), some (vi xv20), some (vi (0 : Int32)), none, none]) O dX12_follows_23 rfl (Nat.le_of_ble_eq_true rfl) rfl ?_
    refine g_mask [true, false, true, true, true, true, false, false] rfl rfl ?_
    obtain ⟨n25, hw⟩ := hw
    exact okX12_follows_25 O n25 _ _ hw
  · have hw := hw.2 q6
    exact g_return O dX12_follows_9 ⟨rfl, rfl, rfl, hw⟩
theorem dX12_makes_0 : decode cX12_makes 0 = .ok (.aload_n 0, 1) := by decide +kernel
theorem dX12_makes_1 : decode cX12_makes 1 = .ok (.aload_n 0, 1) := by decide +kernel
theorem dX12_makes_2 : decode cX12_makes 2 = .ok (.getfield 106, 3) := by decide +kernel
theorem dX12_makes_5 : decode cX12_makes 5 = .ok (.iload_n 1, 1) := by decide +kernel
theorem dX12_makes_6 : decode cX12_makes 6 = .ok (.aload_n 0, 1) := by decide +kernel
theorem dX12_makes_7 : decode cX12_makes 7 = .ok (.getfield 473, 3) := by decide +kernel
theorem dX12_makes_10 : decode cX12_makes 10 = .ok (.iload_n 2, 1) := by decide +kernel
theorem dX12_makes_11 : decode cX12_makes 11 = .ok (.invokevirtual 411, 3) := by decide +kernel
theorem dX12_makes_14 : decode cX12_makes 14 = .ok (.istore_n 3, 1) := by decide +kernel
theorem dX12_makes_15 : decode cX12_makes 15 = .ok (.aload_n 0, 1) := by decide +kernel
theorem dX12_makes_16 : decode cX12_makes 16 = .ok (.iload_n 1, 1) := by decide +kernel
theorem dX12_makes_17 : decode cX12_makes 17 = .ok (.iload_n 3, 1) := by decide +kernel
theorem dX12_makes_18 : decode cX12_makes 18 = .ok (.invokevirtual 479, 3) := by decide +kernel
theorem dX12_makes_21 : decode cX12_makes 21 = .ok (.aload_n 0, 1) := by decide +kernel
theorem dX12_makes_22 : decode cX12_makes 22 = .ok (.iload_n 3, 1) := by decide +kernel
theorem dX12_makes_23 : decode cX12_makes 23 = .ok (.putfield 473, 3) := by decide +kernel
theorem dX12_makes_26 : decode cX12_makes 26 = .ok (.aload_n 0, 1) := by decide +kernel
theorem dX12_makes_27 : decode cX12_makes 27 = .ok (.dup, 1) := by decide +kernel
theorem dX12_makes_28 : decode cX12_makes 28 = .ok (.getfield 476, 3) := by decide +kernel
theorem dX12_makes_31 : decode cX12_makes 31 = .ok (.iconst 1, 1) := by decide +kernel
theorem dX12_makes_32 : decode cX12_makes 32 = .ok (.iadd, 1) := by decide +kernel
theorem dX12_makes_33 : decode cX12_makes 33 = .ok (.putfield 476, 3) := by decide +kernel
theorem dX12_makes_36 : decode cX12_makes 36 = .ok (.return_, 1) := by decide +kernel
theorem okX12_makes {E : Ev} {S : Sh} {Z : Option Nat} {Q : Hp → Prop} {h : Hp} {a0 : Nat} {x1 : Int32} {x2 : Int32} (hw : wX12_makes S h a0 x1 x2 Q) : Ct E yX12_makes cX12_makes 4 none 5 138 0 0 S Z h [vr a0, vi x1, vi x2] (qV S Z Q) := by
  refine Ct.of (by decide) (lc := [some (vr a0), some (vi x1), some (vi x2), none]) (Nat.le_of_ble_eq_true rfl) rfl (fun X O => ?_)
  unfold wX12_makes at hw
  refine g_aload_n O dX12_makes_0 rfl ?_
  refine g_aload_n O dX12_makes_1 rfl ?_
  obtain ⟨c2, hw⟩ := hw
  refine gf_X12_runOf O dX12_makes_2 fl_X12_106 c2 ?_
  refine g_iload_n O dX12_makes_5 rfl ?_
  refine g_aload_n O dX12_makes_6 rfl ?_
  refine gf_X12_runState O dX12_makes_7 fl_X12_473 c2 ?_
  refine g_iload_n O dX12_makes_10 rfl ?_
  refine g_callV (As := [vi (gI h a0 56), vi x1, vi (gI h a0 57), vi x2]) (rest := []) O ci_12 rfl dX12_makes_11 ml_X12_411 im_yX12_givenBy se_yX12_givenBy ini_X12 co_yX12_givenBy yo_yX12_givenBy c2 rfl rfl (Nat.le_of_ble_eq_true rfl) ⟨by decide, by decide, by decide, by decide⟩ (okX12_givenBy hw) (k_I fun r11 h11 hw => ?_)
  refine g_istore_n (lc' := [some (vr a0), some (vi x1), some (vi x2), some (vi r11)]) O dX12_makes_14 rfl (Nat.le_of_ble_eq_true rfl) rfl ?_
  refine g_aload_n O dX12_makes_15 rfl ?_
  refine g_iload_n O dX12_makes_16 rfl ?_
  refine g_iload_n O dX12_makes_17 rfl ?_
  refine g_callV (As := [vi x1, vi r11]) (rest := []) O ci_12 rfl dX12_makes_18 ml_X12_479 im_yX12_follows se_yX12_follows ini_X12 co_yX12_follows yo_yX12_follows c2 rfl rfl (Nat.le_of_ble_eq_true rfl) ⟨by decide, by decide, by decide, by decide⟩ (okX12_follows hw) (k_V fun h18 hw => ?_)
  refine g_aload_n O dX12_makes_21 rfl ?_
  refine g_iload_n O dX12_makes_22 rfl ?_
  refine pf_X12_runState O dX12_makes_23 fl_X12_473 c2 ?_
  refine g_nmH (fun h23 e23 => ?_)
  have hw := hw h23 e23
  refine g_aload_n O dX12_makes_26 rfl ?_
  refine g_dup O dX12_makes_27 rfl ?_
  refine gf_X12_runMany O dX12_makes_28 fl_X12_476 c2 ?_
  refine g_iconst O dX12_makes_31 kv_1 ?_
  refine g_iadd O dX12_makes_32 ?_
  refine pf_X12_runMany O dX12_makes_33 fl_X12_476 c2 ?_
  exact g_return O dX12_makes_36 ⟨rfl, rfl, rfl, hw⟩
