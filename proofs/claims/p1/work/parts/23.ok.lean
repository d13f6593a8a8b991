theorem dX8_familyOf_0 : decode cX8_familyOf 0 = .ok (.iload_n 0, 1) := by decide +kernel
theorem dX8_familyOf_1 : decode cX8_familyOf 1 = .ok (.bipush 97, 2) := by decide +kernel
theorem dX8_familyOf_3 : decode cX8_familyOf 3 = .ok (.if_icmp .lt 13, 3) := by decide +kernel
theorem dX8_familyOf_6 : decode cX8_familyOf 6 = .ok (.iload_n 0, 1) := by decide +kernel
theorem dX8_familyOf_7 : decode cX8_familyOf 7 = .ok (.bipush 122, 2) := by decide +kernel
theorem dX8_familyOf_9 : decode cX8_familyOf 9 = .ok (.if_icmp .gt 7, 3) := by decide +kernel
theorem dX8_familyOf_12 : decode cX8_familyOf 12 = .ok (.sipush 302, 3) := by decide +kernel
theorem dX8_familyOf_15 : decode cX8_familyOf 15 = .ok (.ireturn, 1) := by decide +kernel
theorem dX8_familyOf_16 : decode cX8_familyOf 16 = .ok (.iload_n 0, 1) := by decide +kernel
theorem dX8_familyOf_17 : decode cX8_familyOf 17 = .ok (.bipush 48, 2) := by decide +kernel
theorem dX8_familyOf_19 : decode cX8_familyOf 19 = .ok (.if_icmp .lt 13, 3) := by decide +kernel
theorem dX8_familyOf_22 : decode cX8_familyOf 22 = .ok (.iload_n 0, 1) := by decide +kernel
theorem dX8_familyOf_23 : decode cX8_familyOf 23 = .ok (.bipush 57, 2) := by decide +kernel
theorem dX8_familyOf_25 : decode cX8_familyOf 25 = .ok (.if_icmp .gt 7, 3) := by decide +kernel
theorem dX8_familyOf_28 : decode cX8_familyOf 28 = .ok (.sipush 303, 3) := by decide +kernel
theorem dX8_familyOf_31 : decode cX8_familyOf 31 = .ok (.ireturn, 1) := by decide +kernel
theorem dX8_familyOf_32 : decode cX8_familyOf 32 = .ok (.iload_n 0, 1) := by decide +kernel
theorem dX8_familyOf_33 : decode cX8_familyOf 33 = .ok (.lookupswitch 121 #[(32, 115), (40, 119), (41, 119), (42, 119), (43, 119), (44, 119), (45, 119), (59, 119), (60, 119), (61, 119), (62, 119), (91, 119), (93, 119)], 115) := by decide +kernel
theorem dX8_familyOf_148 : decode cX8_familyOf 148 = .ok (.sipush 304, 3) := by decide +kernel
theorem dX8_familyOf_151 : decode cX8_familyOf 151 = .ok (.ireturn, 1) := by decide +kernel
theorem dX8_familyOf_152 : decode cX8_familyOf 152 = .ok (.iload_n 0, 1) := by decide +kernel
theorem dX8_familyOf_153 : decode cX8_familyOf 153 = .ok (.ireturn, 1) := by decide +kernel
theorem dX8_familyOf_154 : decode cX8_familyOf 154 = .ok (.sipush 301, 3) := by decide +kernel
theorem dX8_familyOf_157 : decode cX8_familyOf 157 = .ok (.ireturn, 1) := by decide +kernel
theorem okX8_familyOf_j32 {E : Ev} {X : Cx} {S : Sh} {Z : Option Nat} {Q : Int32 → Hp → Prop} {h : Hp} {x0 : Int32} (O : Ok E X yX8_familyOf cX8_familyOf 1 (some .int) 1 24 0 0 (qI S Z Q)) (hw : wX8_familyOf_j32 S h x0 Q) : G E X 0 0 S Z h 32 [some (vi x0)] [] := by
  unfold wX8_familyOf_j32 at hw
  refine g_iload_n O dX8_familyOf_32 rfl ?_
  refine g_lsw O dX8_familyOf_33 (by decide) (fun z => by simp only [Op.lookupswitch.offset_cons, lsw_nil]; (repeat' split) <;> decide) (fun t33 ht => ?_)
  rcases ht with ⟨hx33, ht⟩ | ⟨hx33, ht⟩
  · obtain rfl : t33 = 148 := by have e : (33 : Int) + (115) = (t33 : Int) := ht; omega
    have hw := hw.1 (Int32.toInt_inj.mp hx33)
    refine g_sipush O dX8_familyOf_148 ks_304 ?_
    exact g_ireturn O dX8_familyOf_151 ⟨rfl, rfl, _, rfl, hw⟩
  · have hw := hw.2 (fun q => hx33 (by rw [q]; rfl))
    rcases ht with ⟨hx33, ht⟩ | ⟨hx33, ht⟩
    · obtain rfl : t33 = 152 := by have e : (33 : Int) + (119) = (t33 : Int) := ht; omega
      have hw := hw.1 (Int32.toInt_inj.mp hx33)
      refine g_iload_n O dX8_familyOf_152 rfl ?_
      exact g_ireturn O dX8_familyOf_153 ⟨rfl, rfl, _, rfl, hw⟩
    · have hw := hw.2 (fun q => hx33 (by rw [q]; rfl))
      rcases ht with ⟨hx33, ht⟩ | ⟨hx33, ht⟩
      · obtain rfl : t33 = 152 := by have e : (33 : Int) + (119) = (t33 : Int) := ht; omega
        have hw := hw.1 (Int32.toInt_inj.mp hx33)
        refine g_iload_n O dX8_familyOf_152 rfl ?_
        exact g_ireturn O dX8_familyOf_153 ⟨rfl, rfl, _, rfl, hw⟩
      · have hw := hw.2 (fun q => hx33 (by rw [q]; rfl))
        rcases ht with ⟨hx33, ht⟩ | ⟨hx33, ht⟩
        · obtain rfl : t33 = 152 := by have e : (33 : Int) + (119) = (t33 : Int) := ht; omega
          have hw := hw.1 (Int32.toInt_inj.mp hx33)
          refine g_iload_n O dX8_familyOf_152 rfl ?_
          exact g_ireturn O dX8_familyOf_153 ⟨rfl, rfl, _, rfl, hw⟩
        · have hw := hw.2 (fun q => hx33 (by rw [q]; rfl))
          rcases ht with ⟨hx33, ht⟩ | ⟨hx33, ht⟩
          · obtain rfl : t33 = 152 := by have e : (33 : Int) + (119) = (t33 : Int) := ht; omega
            have hw := hw.1 (Int32.toInt_inj.mp hx33)
            refine g_iload_n O dX8_familyOf_152 rfl ?_
            exact g_ireturn O dX8_familyOf_153 ⟨rfl, rfl, _, rfl, hw⟩
          · have hw := hw.2 (fun q => hx33 (by rw [q]; rfl))
            rcases ht with ⟨hx33, ht⟩ | ⟨hx33, ht⟩
            · obtain rfl : t33 = 152 := by have e : (33 : Int) + (119) = (t33 : Int) := ht; omega
              have hw := hw.1 (Int32.toInt_inj.mp hx33)
              refine g_iload_n O dX8_familyOf_152 rfl ?_
              exact g_ireturn O dX8_familyOf_153 ⟨rfl, rfl, _, rfl, hw⟩
            · have hw := hw.2 (fun q => hx33 (by rw [q]; rfl))
              rcases ht with ⟨hx33, ht⟩ | ⟨hx33, ht⟩
              · obtain rfl : t33 = 152 := by have e : (33 : Int) + (119) = (t33 : Int) := ht; omega
                have hw := hw.1 (Int32.toInt_inj.mp hx33)
                refine g_iload_n O dX8_familyOf_152 rfl ?_
                exact g_ireturn O dX8_familyOf_153 ⟨rfl, rfl, _, rfl, hw⟩
              · have hw := hw.2 (fun q => hx33 (by rw [q]; rfl))
                rcases ht with ⟨hx33, ht⟩ | ⟨hx33, ht⟩
                · obtain rfl : t33 = 152 := by have e : (33 : Int) + (119) = (t33 : Int) := ht; omega
                  have hw := hw.1 (Int32.toInt_inj.mp hx33)
                  refine g_iload_n O dX8_familyOf_152 rfl ?_
                  exact g_ireturn O dX8_familyOf_153 ⟨rfl, rfl, _, rfl, hw⟩
                · have hw := hw.2 (fun q => hx33 (by rw [q]; rfl))
                  rcases ht with ⟨hx33, ht⟩ | ⟨hx33, ht⟩
                  · obtain rfl : t33 = 152 := by have e : (33 : Int) + (119) = (t33 : Int) := ht; omega
                    have hw := hw.1 (Int32.toInt_inj.mp hx33)
                    refine g_iload_n O dX8_familyOf_152 rfl ?_
                    exact g_ireturn O dX8_familyOf_153 ⟨rfl, rfl, _, rfl, hw⟩
                  · have hw := hw.2 (fun q => hx33 (by rw [q]; rfl))
                    rcases ht with ⟨hx33, ht⟩ | ⟨hx33, ht⟩
                    · obtain rfl : t33 = 152 := by have e : (33 : Int) + (119) = (t33 : Int) := ht; omega
                      have hw := hw.1 (Int32.toInt_inj.mp hx33)
                      refine g_iload_n O dX8_familyOf_152 rfl ?_
                      exact g_ireturn O dX8_familyOf_153 ⟨rfl, rfl, _, rfl, hw⟩
                    · have hw := hw.2 (fun q => hx33 (by rw [q]; rfl))
                      rcases ht with ⟨hx33, ht⟩ | ⟨hx33, ht⟩
                      · obtain rfl : t33 = 152 := by have e : (33 : Int) + (119) = (t33 : Int) := ht; omega
                        have hw := hw.1 (Int32.toInt_inj.mp hx33)
                        refine g_iload_n O dX8_familyOf_152 rfl ?_
                        exact g_ireturn O dX8_familyOf_153 ⟨rfl, rfl, _, rfl, hw⟩
                      · have hw := hw.2 (fun q => hx33 (by rw [q]; rfl))
                        rcases ht with ⟨hx33, ht⟩ | ⟨hx33, ht⟩
                        · obtain rfl : t33 = 152 := by have e : (33 : Int) + (119) = (t33 : Int) := ht; omega
                          have hw := hw.1 (Int32.toInt_inj.mp hx33)
                          refine g_iload_n O dX8_familyOf_152 rfl ?_
                          exact g_ireturn O dX8_familyOf_153 ⟨rfl, rfl, _, rfl, hw⟩
                        · have hw := hw.2 (fun q => hx33 (by rw [q]; rfl))
                          rcases ht with ⟨hx33, ht⟩ | ⟨hx33, ht⟩
                          · obtain rfl : t33 = 152 := by have e : (33 : Int) + (119) = (t33 : Int) := ht; omega
                            have hw := hw.1 (Int32.toInt_inj.mp hx33)
                            refine g_iload_n O dX8_familyOf_152 rfl ?_
                            exact g_ireturn O dX8_familyOf_153 ⟨rfl, rfl, _, rfl, hw⟩
                          · have hw := hw.2 (fun q => hx33 (by rw [q]; rfl))
                            obtain rfl : t33 = 154 := by have e : (33 : Int) + (121) = (t33 : Int) := ht; omega
                            refine g_sipush O dX8_familyOf_154 ks_301 ?_
                            exact g_ireturn O dX8_familyOf_157 ⟨rfl, rfl, _, rfl, hw⟩
theorem okX8_familyOf_j16 {E : Ev} {X : Cx} {S : Sh} {Z : Option Nat} {Q : Int32 → Hp → Prop} {h : Hp} {x0 : Int32} (O : Ok E X yX8_familyOf cX8_familyOf 1 (some .int) 1 24 0 0 (qI S Z Q)) (hw : wX8_familyOf_j16 S h x0 Q) : G E X 0 0 S Z h 16 [some (vi x0)] [] := by
  unfold wX8_familyOf_j16 at hw
  refine g_iload_n O dX8_familyOf_16 rfl ?_
  refine g_bipush O dX8_familyOf_17 kb_48 ?_
  refine g_icmp_lt (tgt := 32) O dX8_familyOf_19 rfl (fun q19 => ?_) (fun q19 => ?_)
  · have hw := hw.1 q19
    exact okX8_familyOf_j32 O hw
  · have hw := hw.2 q19
    refine g_iload_n O dX8_familyOf_22 rfl ?_
    refine g_bipush O dX8_familyOf_23 kb_57 ?_
    refine g_icmp_gt (tgt := 32) O dX8_familyOf_25 rfl (fun q25 => ?_) (fun q25 => ?_)
    · have hw := hw.1 q25
      exact okX8_familyOf_j32 O hw
    · have hw := hw.2 q25
      refine g_sipush O dX8_familyOf_28 ks_303 ?_
      exact g_ireturn O dX8_familyOf_31 ⟨rfl, rfl, _, rfl, hw⟩
theorem okX8_familyOf {E : Ev} {S : Sh} {Z : Option Nat} {Q : Int32 → Hp → Prop} {h : Hp} {x0 : Int32} (hw : wX8_familyOf S h x0 Q) : Ct E yX8_familyOf cX8_familyOf 1 (some .int) 1 24 0 0 S Z h [vi x0] (qI S Z Q) := by
  refine Ct.of (by decide) (lc := [some (vi x0)]) (Nat.le_of_ble_eq_true rfl) rfl (fun X O => ?_)
  unfold wX8_familyOf at hw
  refine g_iload_n O dX8_familyOf_0 rfl ?_
  refine g_bipush O dX8_familyOf_1 kb_97 ?_
  refine g_icmp_lt (tgt := 16) O dX8_familyOf_3 rfl (fun q3 => ?_) (fun q3 => ?_)
  · have hw := hw.1 q3
    exact okX8_familyOf_j16 O hw
  · have hw := hw.2 q3
    refine g_iload_n O dX8_familyOf_6 rfl ?_
    refine g_bipush O dX8_familyOf_7 kb_122 ?_
    refine g_icmp_gt (tgt := 16) O dX8_familyOf_9 rfl (fun q9 => ?_) (fun q9 => ?_)
    · have hw := hw.1 q9
      exact okX8_familyOf_j16 O hw
    · have hw := hw.2 q9
      refine g_sipush O dX8_familyOf_12 ks_302 ?_
      exact g_ireturn O dX8_familyOf_15 ⟨rfl, rfl, _, rfl, hw⟩
theorem dX8_kindOfWord_0 : decode cX8_kindOfWord 0 = .ok (.iconst 0, 1) := by decide +kernel
theorem dX8_kindOfWord_1 : decode cX8_kindOfWord 1 = .ok (.istore_n 3, 1) := by decide +kernel
theorem dX8_kindOfWord_2 : decode cX8_kindOfWord 2 = .ok (.iload_n 3, 1) := by decide +kernel
theorem dX8_kindOfWord_3 : decode cX8_kindOfWord 3 = .ok (.bipush 16, 2) := by decide +kernel
theorem dX8_kindOfWord_5 : decode cX8_kindOfWord 5 = .ok (.if_icmp .ge 26, 3) := by decide +kernel
theorem dX8_kindOfWord_8 : decode cX8_kindOfWord 8 = .ok (.aload_n 0, 1) := by decide +kernel
theorem dX8_kindOfWord_9 : decode cX8_kindOfWord 9 = .ok (.getfield 22, 3) := by decide +kernel
theorem dX8_kindOfWord_12 : decode cX8_kindOfWord 12 = .ok (.iload_n 3, 1) := by decide +kernel
theorem dX8_kindOfWord_13 : decode cX8_kindOfWord 13 = .ok (.laload, 1) := by decide +kernel
theorem dX8_kindOfWord_14 : decode cX8_kindOfWord 14 = .ok (.lload_n 1, 1) := by decide +kernel
theorem dX8_kindOfWord_15 : decode cX8_kindOfWord 15 = .ok (.lcmp, 1) := by decide +kernel
theorem dX8_kindOfWord_16 : decode cX8_kindOfWord 16 = .ok (.ifCond .ne 9, 3) := by decide +kernel
theorem dX8_kindOfWord_19 : decode cX8_kindOfWord 19 = .ok (.sipush 400, 3) := by decide +kernel
theorem dX8_kindOfWord_22 : decode cX8_kindOfWord 22 = .ok (.iload_n 3, 1) := by decide +kernel
theorem dX8_kindOfWord_23 : decode cX8_kindOfWord 23 = .ok (.iadd, 1) := by decide +kernel
theorem dX8_kindOfWord_24 : decode cX8_kindOfWord 24 = .ok (.ireturn, 1) := by decide +kernel
theorem dX8_kindOfWord_25 : decode cX8_kindOfWord 25 = .ok (.iinc 3 1, 3) := by decide +kernel
theorem dX8_kindOfWord_28 : decode cX8_kindOfWord 28 = .ok (.goto (-26), 3) := by decide +kernel
theorem dX8_kindOfWord_31 : decode cX8_kindOfWord 31 = .ok (.sipush 302, 3) := by decide +kernel
theorem dX8_kindOfWord_34 : decode cX8_kindOfWord 34 = .ok (.ireturn, 1) := by decide +kernel
theorem okX8_kindOfWord_2 {E : Ev} {X : Cx} {S : Sh} {Z : Option Nat} {Q : Int32 → Hp → Prop} {a0 : Nat} {j1 : Int64} (O : Ok E X yX8_kindOfWord cX8_kindOfWord 4 (some .int) 1 24 0 0 (qI S Z Q)) : ∀ (n : Nat) (h : Hp) (x3 : Int32), wX8_kindOfWord_2 S a0 j1 Q n h x3 → G E X 0 0 S Z h 2 [some (vr a0), some (vj j1), none, some (vi x3)] [] := by
  intro n
  induction n with
  | zero => intro h x3 hw; exact hw.elim
  | succ n hB2 =>
    intro h x3 hw
    have hw : wX8_kindOfWord_2b S a0 j1 Q (wX8_kindOfWord_2 S a0 j1 Q n) h x3 := hw
    unfold wX8_kindOfWord_2b at hw
    refine g_iload_n O dX8_kindOfWord_2 rfl ?_
    refine g_bipush O dX8_kindOfWord_3 kb_16 ?_
    refine g_icmp_ge (tgt := 31) O dX8_kindOfWord_5 rfl (fun q5 => ?_) (fun q5 => ?_)
    · have hw := hw.1 q5
      refine g_sipush O dX8_kindOfWord_31 ks_302 ?_
      exact g_ireturn O dX8_kindOfWord_34 ⟨rfl, rfl, _, rfl, hw⟩
    · have hw := hw.2 q5
      refine g_aload_n O dX8_kindOfWord_8 rfl ?_
      obtain ⟨c9, hw⟩ := hw
      refine gf_X8_reserved O dX8_kindOfWord_9 fl_X8_22 c9 ?_
      refine g_iload_n O dX8_kindOfWord_12 rfl ?_
      obtain ⟨c13, hw⟩ := hw
      refine g_laload O dX8_kindOfWord_13 c13.1 c13.2 ?_
      refine g_lload_n O dX8_kindOfWord_14 rfl ?_
      refine g_lcmp O dX8_kindOfWord_15 ?_
      refine g_if_ne (tgt := 25) O dX8_kindOfWord_16 rfl (fun q16 => ?_) (fun q16 => ?_)
      · have hw := hw.1 q16
        refine g_iinc (lc' := [some (vr a0), some (vj j1), none, some (vi (x3 + (1 : Int32)))]) O dX8_kindOfWord_25 rfl kv_1 rfl rfl ?_
        refine g_goto (tgt := 2) O dX8_kindOfWord_28 rfl ?_
        exact hB2 _ _ hw
      · have hw := hw.2 q16
        refine g_sipush O dX8_kindOfWord_19 ks_400 ?_
        refine g_iload_n O dX8_kindOfWord_22 rfl ?_
        refine g_iadd O dX8_kindOfWord_23 ?_
        exact g_ireturn O dX8_kindOfWord_24 ⟨rfl, rfl, _, rfl, hw⟩
theorem okX8_kindOfWord {E : Ev} {S : Sh} {Z : Option Nat} {Q : Int32 → Hp → Prop} {h : Hp} {a0 : Nat} {j1 : Int64} (hw : wX8_kindOfWord S h a0 j1 Q) : Ct E yX8_kindOfWord cX8_kindOfWord 4 (some .int) 1 24 0 0 S Z h [vr a0, vj j1] (qI S Z Q) := by
  refine Ct.of (by decide) (lc := [some (vr a0), some (vj j1), none, none]) (Nat.le_of_ble_eq_true rfl) rfl (fun X O => ?_)
  unfold wX8_kindOfWord at hw
  refine g_iconst O dX8_kindOfWord_0 kv_0 ?_
  refine g_istore_n (lc' := [some (vr a0), some (vj j1), none, some (vi (0 : Int32))]) O dX8_kindOfWord_1 rfl (Nat.le_of_ble_eq_true rfl) rfl ?_
  obtain ⟨n2, hw⟩ := hw
  exact okX8_kindOfWord_2 O n2 _ _ hw
theorem dX8_lengthen_0 : decode cX8_lengthen 0 = .ok (.aload_n 0, 1) := by decide +kernel
theorem dX8_lengthen_1 : decode cX8_lengthen 1 = .ok (.getfield 37, 3) := by decide +kernel
theorem dX8_lengthen_4 : decode cX8_lengthen 4 = .ok (.iconst 1, 1) := by decide +kernel
theorem dX8_lengthen_5 : decode cX8_lengthen 5 = .ok (.isub, 1) := by decide +kernel
theorem dX8_lengthen_6 : decode cX8_lengthen 6 = .ok (.istore_n 3, 1) := by decide +kernel
theorem dX8_lengthen_7 : decode cX8_lengthen 7 = .ok (.aload_n 0, 1) := by decide +kernel
theorem dX8_lengthen_8 : decode cX8_lengthen 8 = .ok (.dup, 1) := by decide +kernel
theorem dX8_lengthen_9 : decode cX8_lengthen 9 = .ok (.getfield 57, 3) := by decide +kernel
theorem dX8_lengthen_12 : decode cX8_lengthen 12 = .ok (.iconst 1, 1) := by decide +kernel
theorem dX8_lengthen_13 : decode cX8_lengthen 13 = .ok (.iadd, 1) := by decide +kernel
theorem dX8_lengthen_14 : decode cX8_lengthen 14 = .ok (.putfield 57, 3) := by decide +kernel
theorem dX8_lengthen_17 : decode cX8_lengthen 17 = .ok (.iload_n 3, 1) := by decide +kernel
theorem dX8_lengthen_18 : decode cX8_lengthen 18 = .ok (.ifCond .ge 4, 3) := by decide +kernel
theorem dX8_lengthen_21 : decode cX8_lengthen 21 = .ok (.return_, 1) := by decide +kernel
theorem dX8_lengthen_22 : decode cX8_lengthen 22 = .ok (.iload_n 1, 1) := by decide +kernel
theorem dX8_lengthen_23 : decode cX8_lengthen 23 = .ok (.sipush 302, 3) := by decide +kernel
theorem dX8_lengthen_26 : decode cX8_lengthen 26 = .ok (.if_icmp .ne 37, 3) := by decide +kernel
theorem dX8_lengthen_29 : decode cX8_lengthen 29 = .ok (.aload_n 0, 1) := by decide +kernel
theorem dX8_lengthen_30 : decode cX8_lengthen 30 = .ok (.getfield 57, 3) := by decide +kernel
theorem dX8_lengthen_33 : decode cX8_lengthen 33 = .ok (.bipush 7, 2) := by decide +kernel
theorem dX8_lengthen_35 : decode cX8_lengthen 35 = .ok (.if_icmp .gt 28, 3) := by decide +kernel
theorem dX8_lengthen_38 : decode cX8_lengthen 38 = .ok (.aload_n 0, 1) := by decide +kernel
theorem dX8_lengthen_39 : decode cX8_lengthen 39 = .ok (.getfield 18, 3) := by decide +kernel
theorem dX8_lengthen_42 : decode cX8_lengthen 42 = .ok (.iload_n 3, 1) := by decide +kernel
theorem dX8_lengthen_43 : decode cX8_lengthen 43 = .ok (.aload_n 0, 1) := by decide +kernel
theorem dX8_lengthen_44 : decode cX8_lengthen 44 = .ok (.getfield 18, 3) := by decide +kernel
theorem dX8_lengthen_47 : decode cX8_lengthen 47 = .ok (.iload_n 3, 1) := by decide +kernel
theorem dX8_lengthen_48 : decode cX8_lengthen 48 = .ok (.laload, 1) := by decide +kernel
theorem dX8_lengthen_49 : decode cX8_lengthen 49 = .ok (.iconst 5, 1) := by decide +kernel
theorem dX8_lengthen_50 : decode cX8_lengthen 50 = .ok (.lshl, 1) := by decide +kernel
theorem dX8_lengthen_51 : decode cX8_lengthen 51 = .ok (.iload_n 2, 1) := by decide +kernel
theorem dX8_lengthen_52 : decode cX8_lengthen 52 = .ok (.bipush 97, 2) := by decide +kernel
theorem dX8_lengthen_54 : decode cX8_lengthen 54 = .ok (.isub, 1) := by decide +kernel
theorem dX8_lengthen_55 : decode cX8_lengthen 55 = .ok (.iconst 1, 1) := by decide +kernel
theorem dX8_lengthen_56 : decode cX8_lengthen 56 = .ok (.iadd, 1) := by decide +kernel
theorem dX8_lengthen_57 : decode cX8_lengthen 57 = .ok (.i2l, 1) := by decide +kernel
theorem dX8_lengthen_58 : decode cX8_lengthen 58 = .ok (.lor, 1) := by decide +kernel
theorem dX8_lengthen_59 : decode cX8_lengthen 59 = .ok (.lastore, 1) := by decide +kernel
theorem dX8_lengthen_60 : decode cX8_lengthen 60 = .ok (.goto 66, 3) := by decide +kernel
theorem dX8_lengthen_63 : decode cX8_lengthen 63 = .ok (.iload_n 1, 1) := by decide +kernel
theorem dX8_lengthen_64 : decode cX8_lengthen 64 = .ok (.sipush 303, 3) := by decide +kernel
theorem dX8_lengthen_67 : decode cX8_lengthen 67 = .ok (.if_icmp .ne 36, 3) := by decide +kernel
theorem dX8_lengthen_70 : decode cX8_lengthen 70 = .ok (.aload_n 0, 1) := by decide +kernel
theorem dX8_lengthen_71 : decode cX8_lengthen 71 = .ok (.getfield 57, 3) := by decide +kernel
theorem dX8_lengthen_74 : decode cX8_lengthen 74 = .ok (.iconst 3, 1) := by decide +kernel
theorem dX8_lengthen_75 : decode cX8_lengthen 75 = .ok (.if_icmp .gt 28, 3) := by decide +kernel
theorem dX8_lengthen_78 : decode cX8_lengthen 78 = .ok (.aload_n 0, 1) := by decide +kernel
theorem dX8_lengthen_79 : decode cX8_lengthen 79 = .ok (.getfield 18, 3) := by decide +kernel
theorem dX8_lengthen_82 : decode cX8_lengthen 82 = .ok (.iload_n 3, 1) := by decide +kernel
theorem dX8_lengthen_83 : decode cX8_lengthen 83 = .ok (.aload_n 0, 1) := by decide +kernel
theorem dX8_lengthen_84 : decode cX8_lengthen 84 = .ok (.getfield 18, 3) := by decide +kernel
theorem dX8_lengthen_87 : decode cX8_lengthen 87 = .ok (.iload_n 3, 1) := by decide +kernel
theorem dX8_lengthen_88 : decode cX8_lengthen 88 = .ok (.laload, 1) := by decide +kernel
theorem dX8_lengthen_89 : decode cX8_lengthen 89 = .ok (.ldc2_w 59, 3) := by decide +kernel
theorem dX8_lengthen_92 : decode cX8_lengthen 92 = .ok (.lmul, 1) := by decide +kernel
theorem dX8_lengthen_93 : decode cX8_lengthen 93 = .ok (.iload_n 2, 1) := by decide +kernel
theorem dX8_lengthen_94 : decode cX8_lengthen 94 = .ok (.bipush 48, 2) := by decide +kernel
theorem dX8_lengthen_96 : decode cX8_lengthen 96 = .ok (.isub, 1) := by decide +kernel
theorem dX8_lengthen_97 : decode cX8_lengthen 97 = .ok (.i2l, 1) := by decide +kernel
theorem dX8_lengthen_98 : decode cX8_lengthen 98 = .ok (.ladd, 1) := by decide +kernel
theorem dX8_lengthen_99 : decode cX8_lengthen 99 = .ok (.lastore, 1) := by decide +kernel
theorem dX8_lengthen_100 : decode cX8_lengthen 100 = .ok (.goto 26, 3) := by decide +kernel
theorem dX8_lengthen_103 : decode cX8_lengthen 103 = .ok (.iload_n 1, 1) := by decide +kernel
theorem dX8_lengthen_104 : decode cX8_lengthen 104 = .ok (.sipush 302, 3) := by decide +kernel
theorem dX8_lengthen_107 : decode cX8_lengthen 107 = .ok (.if_icmp .eq 10, 3) := by decide +kernel
theorem dX8_lengthen_110 : decode cX8_lengthen 110 = .ok (.iload_n 1, 1) := by decide +kernel
theorem dX8_lengthen_111 : decode cX8_lengthen 111 = .ok (.sipush 303, 3) := by decide +kernel
theorem dX8_lengthen_114 : decode cX8_lengthen 114 = .ok (.if_icmp .ne 12, 3) := by decide +kernel
theorem dX8_lengthen_117 : decode cX8_lengthen 117 = .ok (.aload_n 0, 1) := by decide +kernel
theorem dX8_lengthen_118 : decode cX8_lengthen 118 = .ok (.getfield 9, 3) := by decide +kernel
theorem dX8_lengthen_121 : decode cX8_lengthen 121 = .ok (.iload_n 3, 1) := by decide +kernel
theorem dX8_lengthen_122 : decode cX8_lengthen 122 = .ok (.sipush 301, 3) := by decide +kernel
theorem dX8_lengthen_125 : decode cX8_lengthen 125 = .ok (.iastore, 1) := by decide +kernel
theorem dX8_lengthen_126 : decode cX8_lengthen 126 = .ok (.return_, 1) := by decide +kernel
theorem okX8_lengthen_j103 {E : Ev} {X : Cx} {S : Sh} {Z : Option Nat} {Q : Hp → Prop} {h : Hp} {a0 : Nat} {x1 : Int32} {x3 : Int32} (O : Ok E X yX8_lengthen cX8_lengthen 4 none 1 24 0 0 (qV S Z Q)) (hw : wX8_lengthen_j103 S h a0 x1 x3 Q) : G E X 0 0 S Z h 103 [some (vr a0), some (vi x1), none, some (vi x3)] [] := by
  unfold wX8_lengthen_j103 at hw
  refine g_iload_n O dX8_lengthen_103 rfl ?_
  refine g_sipush O dX8_lengthen_104 ks_302 ?_
  refine g_icmp_eq (tgt := 117) O dX8_lengthen_107 rfl (fun q107 => ?_) (fun q107 => ?_)
  · have hw := hw.1 q107
    refine g_aload_n O dX8_lengthen_117 rfl ?_
    obtain ⟨c118, hw⟩ := hw
    refine gf_X8_kinds O dX8_lengthen_118 fl_X8_9 c118 ?_
    refine g_iload_n O dX8_lengthen_121 rfl ?_
    refine g_sipush O dX8_lengthen_122 ks_301 ?_
    obtain ⟨c125, hw⟩ := hw
    refine g_iastore O dX8_lengthen_125 c125.1 c125.2 ?_
    exact g_return O dX8_lengthen_126 ⟨rfl, rfl, rfl, hw⟩
  · have hw := hw.2 q107
    refine g_iload_n O dX8_lengthen_110 rfl ?_
    refine g_sipush O dX8_lengthen_111 ks_303 ?_
    refine g_icmp_ne (tgt := 126) O dX8_lengthen_114 rfl (fun q114 => ?_) (fun q114 => ?_)
    · have hw := hw.1 q114
      exact g_return O dX8_lengthen_126 ⟨rfl, rfl, rfl, hw⟩
    · have hw := hw.2 q114
      refine g_aload_n O dX8_lengthen_117 rfl ?_
      obtain ⟨c118, hw⟩ := hw
      refine gf_X8_kinds O dX8_lengthen_118 fl_X8_9 c118 ?_
      refine g_iload_n O dX8_lengthen_121 rfl ?_
      refine g_sipush O dX8_lengthen_122 ks_301 ?_
      obtain ⟨c125, hw⟩ := hw
      refine g_iastore O dX8_lengthen_125 c125.1 c125.2 ?_
      exact g_return O dX8_lengthen_126 ⟨rfl, rfl, rfl, hw⟩
theorem okX8_lengthen_j63 {E : Ev} {X : Cx} {S : Sh} {Z : Option Nat} {Q : Hp → Prop} {h : Hp} {a0 : Nat} {x1 : Int32} {x2 : Int32} {x3 : Int32} (O : Ok E X yX8_lengthen cX8_lengthen 4 none 1 24 0 0 (qV S Z Q)) (hw : wX8_lengthen_j63 S h a0 x1 x2 x3 Q) : G E X 0 0 S Z h 63 [some (vr a0), some (vi x1), some (vi x2), some (vi x3)] [] := by
  unfold wX8_lengthen_j63 at hw
  refine g_iload_n O dX8_lengthen_63 rfl ?_
  refine g_sipush O dX8_lengthen_64 ks_303 ?_
  refine g_icmp_ne (tgt := 103) O dX8_lengthen_67 rfl (fun q67 => ?_) (fun q67 => ?_)
  · have hw := hw.1 q67
    refine g_mask [true, true, false, true] rfl rfl ?_
    exact okX8_lengthen_j103 O hw
  · have hw := hw.2 q67
    refine g_aload_n O dX8_lengthen_70 rfl ?_
    obtain ⟨c71, hw⟩ := hw
    refine gf_X8_length O dX8_lengthen_71 fl_X8_57 c71 ?_
    refine g_iconst O dX8_lengthen_74 kv_3 ?_
    refine g_icmp_gt (tgt := 103) O dX8_lengthen_75 rfl (fun q75 => ?_) (fun q75 => ?_)
    · have hw := hw.1 q75
      refine g_mask [true, true, false, true] rfl rfl ?_
      exact okX8_lengthen_j103 O hw
    · have hw := hw.2 q75
      refine g_aload_n O dX8_lengthen_78 rfl ?_
      refine gf_X8_codes O dX8_lengthen_79 fl_X8_18 c71 ?_
      refine g_iload_n O dX8_lengthen_82 rfl ?_
      refine g_aload_n O dX8_lengthen_83 rfl ?_
      refine gf_X8_codes O dX8_lengthen_84 fl_X8_18 c71 ?_
      refine g_iload_n O dX8_lengthen_87 rfl ?_
      obtain ⟨c88, hw⟩ := hw
      refine g_laload O dX8_lengthen_88 c88.1 c88.2 ?_
      refine g_ldc2 O dX8_lengthen_89 kl_X8_59 ?_
      refine g_lmul O dX8_lengthen_92 ?_
      refine g_iload_n O dX8_lengthen_93 rfl ?_
      refine g_bipush O dX8_lengthen_94 kb_48 ?_
      refine g_isub O dX8_lengthen_96 ?_
      refine g_i2l O dX8_lengthen_97 ?_
      refine g_ladd O dX8_lengthen_98 ?_
      refine g_lastore O dX8_lengthen_99 c88.1 c88.2 ?_
      refine g_goto (tgt := 126) O dX8_lengthen_100 rfl ?_
      exact g_return O dX8_lengthen_126 ⟨rfl, rfl, rfl, hw⟩
theorem okX8_lengthen {E : Ev} {S : Sh} {Z : Option Nat} {Q : Hp → Prop} {h : Hp} {a0 : Nat} {x1 : Int32} {x2 : Int32} (hw : wX8_lengthen S h a0 x1 x2 Q) : Ct E yX8_lengthen cX8_lengthen 4 none 1 24 0 0 S Z h [vr a0, vi x1, vi x2] (qV S Z Q) := by
  refine Ct.of (by decide) (lc := [some (vr a0), some (vi x1), some (vi x2), none]) (Nat.le_of_ble_eq_true rfl) rfl (fun X O => ?_)
  unfold wX8_lengthen at hw
  refine g_aload_n O dX8_lengthen_0 rfl ?_
  obtain ⟨c1, hw⟩ := hw
  refine gf_X8_count O dX8_lengthen_1 fl_X8_37 c1 ?_
  refine g_iconst O dX8_lengthen_4 kv_1 ?_
  refine g_isub O dX8_lengthen_5 ?_
  refine g_nmI (fun xv6 e6 => ?_)
  have hw := hw xv6 e6
  refine g_istore_n (lc' := [some (vr a0), some (vi x1), some (vi x2), some (vi xv6)]) O dX8_lengthen_6 rfl (Nat.le_of_ble_eq_true rfl) rfl ?_
  refine g_aload_n O dX8_lengthen_7 rfl ?_
  refine g_dup O dX8_lengthen_8 rfl ?_
  refine gf_X8_length O dX8_lengthen_9 fl_X8_57 c1 ?_
  refine g_iconst O dX8_lengthen_12 kv_1 ?_
  refine g_iadd O dX8_lengthen_13 ?_
  refine pf_X8_length O dX8_lengthen_14 fl_X8_57 c1 ?_
  refine g_nmH (fun h14 e14 => ?_)
  have hw := hw h14 e14
  refine g_iload_n O dX8_lengthen_17 rfl ?_
  refine g_if_ge (tgt := 22) O dX8_lengthen_18 rfl (fun q18 => ?_) (fun q18 => ?_)
  · have hw := hw.1 q18
    refine g_iload_n O dX8_lengthen_22 rfl ?_
    refine g_sipush O dX8_lengthen_23 ks_302 ?_
    refine g_icmp_ne (tgt := 63) O dX8_lengthen_26 rfl (fun q26 => ?_) (fun q26 => ?_)
    · have hw := hw.1 q26
      exact okX8_lengthen_j63 O hw
    · have hw := hw.2 q26
      refine g_aload_n O dX8_lengthen_29 rfl ?_
      refine gf_X8_length O dX8_lengthen_30 fl_X8_57 c1 ?_
      refine g_bipush O dX8_lengthen_33 kb_7 ?_
      refine g_icmp_gt (tgt := 63) O dX8_lengthen_35 rfl (fun q35 => ?_) (fun q35 => ?_)
      · have hw := hw.1 q35
        exact okX8_lengthen_j63 O hw
      · have hw := hw.2 q35
        refine g_aload_n O dX8_lengthen_38 rfl ?_
        refine gf_X8_codes O dX8_lengthen_39 fl_X8_18 c1 ?_
        refine g_iload_n O dX8_lengthen_42 rfl ?_
        refine g_aload_n O dX8_lengthen_43 rfl ?_
        refine gf_X8_codes O dX8_lengthen_44 fl_X8_18 c1 ?_
        refine g_iload_n O dX8_lengthen_47 rfl ?_
        obtain ⟨c48, hw⟩ := hw
        refine g_laload O dX8_lengthen_48 c48.1 c48.2 ?_
        refine g_iconst O dX8_lengthen_49 kv_5 ?_
        refine g_lshl O dX8_lengthen_50 ?_
        refine g_iload_n O dX8_lengthen_51 rfl ?_
        refine g_bipush O dX8_lengthen_52 kb_97 ?_
        refine g_isub O dX8_lengthen_54 ?_
        refine g_iconst O dX8_lengthen_55 kv_1 ?_
        refine g_iadd O dX8_lengthen_56 ?_
        refine g_i2l O dX8_lengthen_57 ?_
        refine g_lor O dX8_lengthen_58 ?_
        refine g_lastore O dX8_lengthen_59 c48.1 c48.2 ?_
        refine g_goto (tgt := 126) O dX8_lengthen_60 rfl ?_
        exact g_return O dX8_lengthen_126 ⟨rfl, rfl, rfl, hw⟩
  · have hw := hw.2 q18
    exact g_return O dX8_lengthen_21 ⟨rfl, rfl, rfl, hw⟩
theorem dX8_startToken_0 : decode cX8_startToken 0 = .ok (.aload_n 0, 1) := by decide +kernel
theorem dX8_startToken_1 : decode cX8_startToken 1 = .ok (.getfield 9, 3) := by decide +kernel
theorem dX8_startToken_4 : decode cX8_startToken 4 = .ok (.aload_n 0, 1) := by decide +kernel
theorem dX8_startToken_5 : decode cX8_startToken 5 = .ok (.getfield 37, 3) := by decide +kernel
theorem dX8_startToken_8 : decode cX8_startToken 8 = .ok (.iload_n 1, 1) := by decide +kernel
theorem dX8_startToken_9 : decode cX8_startToken 9 = .ok (.iastore, 1) := by decide +kernel
theorem dX8_startToken_10 : decode cX8_startToken 10 = .ok (.aload_n 0, 1) := by decide +kernel
theorem dX8_startToken_11 : decode cX8_startToken 11 = .ok (.getfield 15, 3) := by decide +kernel
theorem dX8_startToken_14 : decode cX8_startToken 14 = .ok (.aload_n 0, 1) := by decide +kernel
theorem dX8_startToken_15 : decode cX8_startToken 15 = .ok (.getfield 37, 3) := by decide +kernel
theorem dX8_startToken_18 : decode cX8_startToken 18 = .ok (.iload_n 3, 1) := by decide +kernel
theorem dX8_startToken_19 : decode cX8_startToken 19 = .ok (.iastore, 1) := by decide +kernel
theorem dX8_startToken_20 : decode cX8_startToken 20 = .ok (.aload_n 0, 1) := by decide +kernel
theorem dX8_startToken_21 : decode cX8_startToken 21 = .ok (.getfield 18, 3) := by decide +kernel
theorem dX8_startToken_24 : decode cX8_startToken 24 = .ok (.aload_n 0, 1) := by decide +kernel
theorem dX8_startToken_25 : decode cX8_startToken 25 = .ok (.getfield 37, 3) := by decide +kernel
theorem dX8_startToken_28 : decode cX8_startToken 28 = .ok (.lconst 0, 1) := by decide +kernel
theorem dX8_startToken_29 : decode cX8_startToken 29 = .ok (.lastore, 1) := by decide +kernel
theorem dX8_startToken_30 : decode cX8_startToken 30 = .ok (.aload_n 0, 1) := by decide +kernel
theorem dX8_startToken_31 : decode cX8_startToken 31 = .ok (.iconst 0, 1) := by decide +kernel
theorem dX8_startToken_32 : decode cX8_startToken 32 = .ok (.putfield 57, 3) := by decide +kernel
theorem dX8_startToken_35 : decode cX8_startToken 35 = .ok (.aload_n 0, 1) := by decide +kernel
theorem dX8_startToken_36 : decode cX8_startToken 36 = .ok (.dup, 1) := by decide +kernel
theorem dX8_startToken_37 : decode cX8_startToken 37 = .ok (.getfield 37, 3) := by decide +kernel
theorem dX8_startToken_40 : decode cX8_startToken 40 = .ok (.iconst 1, 1) := by decide +kernel
theorem dX8_startToken_41 : decode cX8_startToken 41 = .ok (.iadd, 1) := by decide +kernel
theorem dX8_startToken_42 : decode cX8_startToken 42 = .ok (.putfield 37, 3) := by decide +kernel
theorem dX8_startToken_45 : decode cX8_startToken 45 = .ok (.aload_n 0, 1) := by decide +kernel
theorem dX8_startToken_46 : decode cX8_startToken 46 = .ok (.iload_n 1, 1) := by decide +kernel
theorem dX8_startToken_47 : decode cX8_startToken 47 = .ok (.iload_n 2, 1) := by decide +kernel
theorem dX8_startToken_48 : decode cX8_startToken 48 = .ok (.invokevirtual 45, 3) := by decide +kernel
theorem dX8_startToken_51 : decode cX8_startToken 51 = .ok (.return_, 1) := by decide +kernel
theorem okX8_startToken {E : Ev} {S : Sh} {Z : Option Nat} {Q : Hp → Prop} {h : Hp} {a0 : Nat} {x1 : Int32} {x2 : Int32} {x3 : Int32} (hw : wX8_startToken S h a0 x1 x2 x3 Q) : Ct E yX8_startToken cX8_startToken 4 none 2 47 0 0 S Z h [vr a0, vi x1, vi x2, vi x3] (qV S Z Q) := by
  refine Ct.of (by decide) (lc := [some (vr a0), some (vi x1), some (vi x2), some (vi x3)]) (Nat.le_of_ble_eq_true rfl) rfl (fun X O => ?_)
  unfold wX8_startToken at hw
  refine g_aload_n O dX8_startToken_0 rfl ?_
  obtain ⟨c1, hw⟩ := hw
  refine gf_X8_kinds O dX8_startToken_1 fl_X8_9 c1 ?_
  refine g_aload_n O dX8_startToken_4 rfl ?_
  refine gf_X8_count O dX8_startToken_5 fl_X8_37 c1 ?_
  refine g_iload_n O dX8_startToken_8 rfl ?_
  obtain ⟨c9, hw⟩ := hw
  refine g_iastore O dX8_startToken_9 c9.1 c9.2 ?_
  refine g_nmH (fun h9 e9 => ?_)
  have hw := hw h9 e9
  refine g_aload_n O dX8_startToken_10 rfl ?_
  refine gf_X8_places O dX8_startToken_11 fl_X8_15 c1 ?_
  refine g_aload_n O dX8_startToken_14 rfl ?_
  refine gf_X8_count O dX8_startToken_15 fl_X8_37 c1 ?_
  refine g_iload_n O dX8_startToken_18 rfl ?_
  obtain ⟨c19, hw⟩ := hw
  refine g_iastore O dX8_startToken_19 c19.1 c19.2 ?_
  refine g_nmH (fun h19 e19 => ?_)
  have hw := hw h19 e19
  refine g_aload_n O dX8_startToken_20 rfl ?_
  refine gf_X8_codes O dX8_startToken_21 fl_X8_18 c1 ?_
  refine g_aload_n O dX8_startToken_24 rfl ?_
  refine gf_X8_count O dX8_startToken_25 fl_X8_37 c1 ?_
  refine g_lconst O dX8_startToken_28 kl_0 ?_
  obtain ⟨c29, hw⟩ := hw
  refine g_lastore O dX8_startToken_29 c29.1 c29.2 ?_
  refine g_nmH (fun h29 e29 => ?_)
  have hw := hw h29 e29
  refine g_aload_n O dX8_startToken_30 rfl ?_
  refine g_iconst O dX8_startToken_31 kv_0 ?_
  refine pf_X8_length O dX8_startToken_32 fl_X8_57 c1 ?_
  refine g_nmH (fun h32 e32 => ?_)
  have hw := hw h32 e32
  refine g_aload_n O dX8_startToken_35 rfl ?_
  refine g_dup O dX8_startToken_36 rfl ?_
  refine gf_X8_count O dX8_startToken_37 fl_X8_37 c1 ?_
  refine g_iconst O dX8_startToken_40 kv_1 ?_
  refine g_iadd O dX8_startToken_41 ?_
  refine pf_X8_count O dX8_startToken_42 fl_X8_37 c1 ?_
  refine g_aload_n O dX8_startToken_45 rfl ?_
  refine g_iload_n O dX8_startToken_46 rfl ?_
  refine g_iload_n O dX8_startToken_47 rfl ?_
  refine g_callV (As := [vi x1, vi x2]) (rest := []) O ci_8 rfl dX8_startToken_48 ml_X8_45 im_yX8_lengthen se_yX8_lengthen ini_X8 co_yX8_lengthen yo_yX8_lengthen c1 rfl rfl (Nat.le_of_ble_eq_true rfl) ⟨by decide, by decide, by decide, by decide⟩ (okX8_lengthen hw) (k_V fun h48 hw => ?_)
  exact g_return O dX8_startToken_51 ⟨rfl, rfl, rfl, hw⟩
theorem dX8_cut_0 : decode cX8_cut 0 = .ok (.aload_n 0, 1) := by decide +kernel
theorem dX8_cut_1 : decode cX8_cut 1 = .ok (.iconst 0, 1) := by decide +kernel
theorem dX8_cut_2 : decode cX8_cut 2 = .ok (.putfield 37, 3) := by decide +kernel
theorem dX8_cut_5 : decode cX8_cut 5 = .ok (.sipush 304, 3) := by decide +kernel
theorem dX8_cut_8 : decode cX8_cut 8 = .ok (.istore_n 3, 1) := by decide +kernel
theorem dX8_cut_9 : decode cX8_cut 9 = .ok (.iconst 0, 1) := by decide +kernel
theorem dX8_cut_10 : decode cX8_cut 10 = .ok (.istore 4, 2) := by decide +kernel
theorem dX8_cut_12 : decode cX8_cut 12 = .ok (.iload 4, 2) := by decide +kernel
theorem dX8_cut_14 : decode cX8_cut 14 = .ok (.iload_n 2, 1) := by decide +kernel
theorem dX8_cut_15 : decode cX8_cut 15 = .ok (.if_icmp .ge 96, 3) := by decide +kernel
theorem dX8_cut_18 : decode cX8_cut 18 = .ok (.iload 4, 2) := by decide +kernel
theorem dX8_cut_20 : decode cX8_cut 20 = .ok (.sipush 600, 3) := by decide +kernel
theorem dX8_cut_23 : decode cX8_cut 23 = .ok (.if_icmp .ge 88, 3) := by decide +kernel
theorem dX8_cut_26 : decode cX8_cut 26 = .ok (.aload_n 1, 1) := by decide +kernel
theorem dX8_cut_27 : decode cX8_cut 27 = .ok (.iload 4, 2) := by decide +kernel
theorem dX8_cut_29 : decode cX8_cut 29 = .ok (.baload, 1) := by decide +kernel
theorem dX8_cut_30 : decode cX8_cut 30 = .ok (.istore 5, 2) := by decide +kernel
theorem dX8_cut_32 : decode cX8_cut 32 = .ok (.iload 5, 2) := by decide +kernel
theorem dX8_cut_34 : decode cX8_cut 34 = .ok (.invokestatic 41, 3) := by decide +kernel
theorem dX8_cut_37 : decode cX8_cut 37 = .ok (.istore 6, 2) := by decide +kernel
theorem dX8_cut_39 : decode cX8_cut 39 = .ok (.iload 6, 2) := by decide +kernel
theorem dX8_cut_41 : decode cX8_cut 41 = .ok (.iload_n 3, 1) := by decide +kernel
theorem dX8_cut_42 : decode cX8_cut 42 = .ok (.if_icmp .ne 23, 3) := by decide +kernel
theorem dX8_cut_45 : decode cX8_cut 45 = .ok (.iload 6, 2) := by decide +kernel
theorem dX8_cut_47 : decode cX8_cut 47 = .ok (.sipush 302, 3) := by decide +kernel
theorem dX8_cut_50 : decode cX8_cut 50 = .ok (.if_icmp .eq 11, 3) := by decide +kernel
theorem dX8_cut_53 : decode cX8_cut 53 = .ok (.iload 6, 2) := by decide +kernel
theorem dX8_cut_55 : decode cX8_cut 55 = .ok (.sipush 303, 3) := by decide +kernel
theorem dX8_cut_58 : decode cX8_cut 58 = .ok (.if_icmp .ne 7, 3) := by decide +kernel
theorem dX8_cut_61 : decode cX8_cut 61 = .ok (.iconst 1, 1) := by decide +kernel
theorem dX8_cut_62 : decode cX8_cut 62 = .ok (.goto 4, 3) := by decide +kernel
theorem dX8_cut_65 : decode cX8_cut 65 = .ok (.iconst 0, 1) := by decide +kernel
theorem dX8_cut_66 : decode cX8_cut 66 = .ok (.istore 7, 2) := by decide +kernel
theorem dX8_cut_68 : decode cX8_cut 68 = .ok (.iload 7, 2) := by decide +kernel
theorem dX8_cut_70 : decode cX8_cut 70 = .ok (.ifCond .eq 14, 3) := by decide +kernel
theorem dX8_cut_73 : decode cX8_cut 73 = .ok (.aload_n 0, 1) := by decide +kernel
theorem dX8_cut_74 : decode cX8_cut 74 = .ok (.iload 6, 2) := by decide +kernel
theorem dX8_cut_76 : decode cX8_cut 76 = .ok (.iload 5, 2) := by decide +kernel
theorem dX8_cut_78 : decode cX8_cut 78 = .ok (.invokevirtual 45, 3) := by decide +kernel
theorem dX8_cut_81 : decode cX8_cut 81 = .ok (.goto 21, 3) := by decide +kernel
theorem dX8_cut_84 : decode cX8_cut 84 = .ok (.iload 6, 2) := by decide +kernel
theorem dX8_cut_86 : decode cX8_cut 86 = .ok (.sipush 304, 3) := by decide +kernel
theorem dX8_cut_89 : decode cX8_cut 89 = .ok (.if_icmp .eq 13, 3) := by decide +kernel
theorem dX8_cut_92 : decode cX8_cut 92 = .ok (.aload_n 0, 1) := by decide +kernel
theorem dX8_cut_93 : decode cX8_cut 93 = .ok (.iload 6, 2) := by decide +kernel
theorem dX8_cut_95 : decode cX8_cut 95 = .ok (.iload 5, 2) := by decide +kernel
theorem dX8_cut_97 : decode cX8_cut 97 = .ok (.iload 4, 2) := by decide +kernel
theorem dX8_cut_99 : decode cX8_cut 99 = .ok (.invokevirtual 49, 3) := by decide +kernel
theorem dX8_cut_102 : decode cX8_cut 102 = .ok (.iload 6, 2) := by decide +kernel
theorem dX8_cut_104 : decode cX8_cut 104 = .ok (.istore_n 3, 1) := by decide +kernel
theorem dX8_cut_105 : decode cX8_cut 105 = .ok (.iinc 4 1, 3) := by decide +kernel
theorem dX8_cut_108 : decode cX8_cut 108 = .ok (.goto (-96), 3) := by decide +kernel
theorem dX8_cut_111 : decode cX8_cut 111 = .ok (.iconst 0, 1) := by decide +kernel
theorem dX8_cut_112 : decode cX8_cut 112 = .ok (.istore 4, 2) := by decide +kernel
theorem dX8_cut_114 : decode cX8_cut 114 = .ok (.iload 4, 2) := by decide +kernel
theorem dX8_cut_116 : decode cX8_cut 116 = .ok (.aload_n 0, 1) := by decide +kernel
theorem dX8_cut_117 : decode cX8_cut 117 = .ok (.getfield 37, 3) := by decide +kernel
theorem dX8_cut_120 : decode cX8_cut 120 = .ok (.if_icmp .ge 40, 3) := by decide +kernel
theorem dX8_cut_123 : decode cX8_cut 123 = .ok (.aload_n 0, 1) := by decide +kernel
theorem dX8_cut_124 : decode cX8_cut 124 = .ok (.getfield 9, 3) := by decide +kernel
theorem dX8_cut_127 : decode cX8_cut 127 = .ok (.iload 4, 2) := by decide +kernel
theorem dX8_cut_129 : decode cX8_cut 129 = .ok (.iaload, 1) := by decide +kernel
theorem dX8_cut_130 : decode cX8_cut 130 = .ok (.sipush 302, 3) := by decide +kernel
theorem dX8_cut_133 : decode cX8_cut 133 = .ok (.if_icmp .ne 21, 3) := by decide +kernel
theorem dX8_cut_136 : decode cX8_cut 136 = .ok (.aload_n 0, 1) := by decide +kernel
theorem dX8_cut_137 : decode cX8_cut 137 = .ok (.getfield 9, 3) := by decide +kernel
theorem dX8_cut_140 : decode cX8_cut 140 = .ok (.iload 4, 2) := by decide +kernel
theorem dX8_cut_142 : decode cX8_cut 142 = .ok (.aload_n 0, 1) := by decide +kernel
theorem dX8_cut_143 : decode cX8_cut 143 = .ok (.aload_n 0, 1) := by decide +kernel
theorem dX8_cut_144 : decode cX8_cut 144 = .ok (.getfield 18, 3) := by decide +kernel
theorem dX8_cut_147 : decode cX8_cut 147 = .ok (.iload 4, 2) := by decide +kernel
theorem dX8_cut_149 : decode cX8_cut 149 = .ok (.laload, 1) := by decide +kernel
theorem dX8_cut_150 : decode cX8_cut 150 = .ok (.invokevirtual 53, 3) := by decide +kernel
theorem dX8_cut_153 : decode cX8_cut 153 = .ok (.iastore, 1) := by decide +kernel
theorem dX8_cut_154 : decode cX8_cut 154 = .ok (.iinc 4 1, 3) := by decide +kernel
theorem dX8_cut_157 : decode cX8_cut 157 = .ok (.goto (-43), 3) := by decide +kernel
theorem dX8_cut_160 : decode cX8_cut 160 = .ok (.aload_n 0, 1) := by decide +kernel
theorem dX8_cut_161 : decode cX8_cut 161 = .ok (.getfield 9, 3) := by decide +kernel
theorem dX8_cut_164 : decode cX8_cut 164 = .ok (.aload_n 0, 1) := by decide +kernel
theorem dX8_cut_165 : decode cX8_cut 165 = .ok (.getfield 37, 3) := by decide +kernel
theorem dX8_cut_168 : decode cX8_cut 168 = .ok (.sipush 300, 3) := by decide +kernel
theorem dX8_cut_171 : decode cX8_cut 171 = .ok (.iastore, 1) := by decide +kernel
theorem dX8_cut_172 : decode cX8_cut 172 = .ok (.aload_n 0, 1) := by decide +kernel
theorem dX8_cut_173 : decode cX8_cut 173 = .ok (.getfield 15, 3) := by decide +kernel
theorem dX8_cut_176 : decode cX8_cut 176 = .ok (.aload_n 0, 1) := by decide +kernel
theorem dX8_cut_177 : decode cX8_cut 177 = .ok (.getfield 37, 3) := by decide +kernel
theorem dX8_cut_180 : decode cX8_cut 180 = .ok (.iload_n 2, 1) := by decide +kernel
theorem dX8_cut_181 : decode cX8_cut 181 = .ok (.iastore, 1) := by decide +kernel
theorem dX8_cut_182 : decode cX8_cut 182 = .ok (.return_, 1) := by decide +kernel
theorem okX8_cut_j160 {E : Ev} {X : Cx} {S : Sh} {Z : Option Nat} {Q : Hp → Prop} {h : Hp} {a0 : Nat} {x2 : Int32} (O : Ok E X yX8_cut cX8_cut 8 none 3 70 0 0 (qV S Z Q)) (hw : wX8_cut_j160 S h a0 x2 Q) : G E X 0 0 S Z h 160 [some (vr a0), none, some (vi x2), none, none, none, none, none] [] := by
  unfold wX8_cut_j160 at hw
  refine g_aload_n O dX8_cut_160 rfl ?_
  obtain ⟨c161, hw⟩ := hw
  refine gf_X8_kinds O dX8_cut_161 fl_X8_9 c161 ?_
  refine g_aload_n O dX8_cut_164 rfl ?_
  refine gf_X8_count O dX8_cut_165 fl_X8_37 c161 ?_
  refine g_sipush O dX8_cut_168 ks_300 ?_
  obtain ⟨c171, hw⟩ := hw
  refine g_iastore O dX8_cut_171 c171.1 c171.2 ?_
  refine g_nmH (fun h171 e171 => ?_)
  have hw := hw h171 e171
  refine g_aload_n O dX8_cut_172 rfl ?_
  refine gf_X8_places O dX8_cut_173 fl_X8_15 c161 ?_
  refine g_aload_n O dX8_cut_176 rfl ?_
  refine gf_X8_count O dX8_cut_177 fl_X8_37 c161 ?_
  refine g_iload_n O dX8_cut_180 rfl ?_
  obtain ⟨c181, hw⟩ := hw
  refine g_iastore O dX8_cut_181 c181.1 c181.2 ?_
  exact g_return O dX8_cut_182 ⟨rfl, rfl, rfl, hw⟩
theorem okX8_cut_114 {E : Ev} {X : Cx} {S : Sh} {Z : Option Nat} {Q : Hp → Prop} {a0 : Nat} {x2 : Int32} (O : Ok E X yX8_cut cX8_cut 8 none 3 70 0 0 (qV S Z Q)) : ∀ (n : Nat) (h : Hp) (x4 : Int32), wX8_cut_114 S a0 x2 Q n h x4 → G E X 0 0 S Z h 114 [some (vr a0), none, some (vi x2), none, some (vi x4), none, none, none] [] := by
  intro n
  induction n with
  | zero => intro h x4 hw; exact hw.elim
  | succ n hB114 =>
    intro h x4 hw
    have hw : wX8_cut_114b S a0 x2 Q (wX8_cut_114 S a0 x2 Q n) h x4 := hw
    unfold wX8_cut_114b at hw
    refine g_iload O dX8_cut_114 rfl ?_
    refine g_aload_n O dX8_cut_116 rfl ?_
    obtain ⟨c117, hw⟩ := hw
    refine gf_X8_count O dX8_cut_117 fl_X8_37 c117 ?_
    refine g_icmp_ge (tgt := 160) O dX8_cut_120 rfl (fun q120 => ?_) (fun q120 => ?_)
    · have hw := hw.1 q120
      refine g_mask [true, false, true, false, false, false, false, false] rfl rfl ?_
      exact okX8_cut_j160 O hw
    · have hw := hw.2 q120
      refine g_aload_n O dX8_cut_123 rfl ?_
      refine gf_X8_kinds O dX8_cut_124 fl_X8_9 c117 ?_
      refine g_iload O dX8_cut_127 rfl ?_
      obtain ⟨c129, hw⟩ := hw
      refine g_iaload O dX8_cut_129 c129.1 c129.2 ?_
      refine g_sipush O dX8_cut_130 ks_302 ?_
      refine g_icmp_ne (tgt := 154) O dX8_cut_133 rfl (fun q133 => ?_) (fun q133 => ?_)
      · have hw := hw.1 q133
        refine g_iinc (lc' := [some (vr a0), none, some (vi x2), none, some (vi (x4 + (1 : Int32))), none, none, none]) O dX8_cut_154 rfl kv_1 rfl rfl ?_
        refine g_goto (tgt := 114) O dX8_cut_157 rfl ?_
        exact hB114 _ _ hw
      · have hw := hw.2 q133
        refine g_aload_n O dX8_cut_136 rfl ?_
        refine gf_X8_kinds O dX8_cut_137 fl_X8_9 c117 ?_
        refine g_iload O dX8_cut_140 rfl ?_
        refine g_aload_n O dX8_cut_142 rfl ?_
        refine g_aload_n O dX8_cut_143 rfl ?_
        refine gf_X8_codes O dX8_cut_144 fl_X8_18 c117 ?_
        refine g_iload O dX8_cut_147 rfl ?_
        obtain ⟨c149, hw⟩ := hw
        refine g_laload O dX8_cut_149 c149.1 c149.2 ?_
        refine g_callV (As := [vj ((gJ h (gR h a0 2) (ix x4)))]) (rest := [vi x4, vr (gR h a0 0)]) O ci_8 rfl dX8_cut_150 ml_X8_53 im_yX8_kindOfWord se_yX8_kindOfWord ini_X8 co_yX8_kindOfWord yo_yX8_kindOfWord c117 rfl rfl (Nat.le_of_ble_eq_true rfl) ⟨by decide, by decide, by decide, by decide⟩ (okX8_kindOfWord hw) (k_I fun r150 h150 hw => ?_)
        refine g_iastore O dX8_cut_153 c129.1 c129.2 ?_
        refine g_iinc (lc' := [some (vr a0), none, some (vi x2), none, some (vi (x4 + (1 : Int32))), none, none, none]) O dX8_cut_154 rfl kv_1 rfl rfl ?_
        refine g_goto (tgt := 114) O dX8_cut_157 rfl ?_
        exact hB114 _ _ hw
theorem okX8_cut_j111 {E : Ev} {X : Cx} {S : Sh} {Z : Option Nat} {Q : Hp → Prop} {h : Hp} {a0 : Nat} {x2 : Int32} (O : Ok E X yX8_cut cX8_cut 8 none 3 70 0 0 (qV S Z Q)) (hw : wX8_cut_j111 S h a0 x2 Q) : G E X 0 0 S Z h 111 [some (vr a0), none, some (vi x2), none, none, none, none, none] [] := by
  unfold wX8_cut_j111 at hw
  refine g_iconst O dX8_cut_111 kv_0 ?_
  refine g_istore (lc' := [some (vr a0), none, some (vi x2), none, some (vi (0 : Int32)), none, none, none]) O dX8_cut_112 rfl (Nat.le_of_ble_eq_true rfl) rfl ?_
  obtain ⟨n114, hw⟩ := hw
  exact okX8_cut_114 O n114 _ _ hw
theorem okX8_cut_j66 {E : Ev} {X : Cx} {S : Sh} {Z : Option Nat} {Q : Hp → Prop} {B12 : Hp → Int32 → Int32 → Prop} {h : Hp} {a0 : Nat} {a1 : Nat} {x2 : Int32} {x4 : Int32} {x5 : Int32} {x6 : Int32} {s0 : Int32} (O : Ok E X yX8_cut cX8_cut 8 none 3 70 0 0 (qV S Z Q)) (hB12 : ∀ (h : Hp) (x3 : Int32) (x4 : Int32), B12 h x3 x4 → G E X 0 0 S Z h 12 [some (vr a0), some (vr a1), some (vi x2), some (vi x3), some (vi x4), none, none, none] []) (hw : wX8_cut_j66 S B12 h a0 a1 x2 x4 x5 x6 s0 Q) : G E X 0 0 S Z h 66 [some (vr a0), some (vr a1), some (vi x2), none, some (vi x4), some (vi x5), some (vi x6), none] [vi s0] := by
  unfold wX8_cut_j66 at hw
  refine g_istore (lc' := [some (vr a0), some (vr a1), some (vi x2), none, some (vi x4), some (vi x5), some (vi x6), some (vi s0)]) O dX8_cut_66 rfl (Nat.le_of_ble_eq_true rfl) rfl ?_
  refine g_iload O dX8_cut_68 rfl ?_
  refine g_if_eq (tgt := 84) O dX8_cut_70 rfl (fun q70 => ?_) (fun q70 => ?_)
  · have hw := hw.1 q70
    refine g_iload O dX8_cut_84 rfl ?_
    refine g_sipush O dX8_cut_86 ks_304 ?_
    refine g_icmp_eq (tgt := 102) O dX8_cut_89 rfl (fun q89 => ?_) (fun q89 => ?_)
    · have hw := hw.1 q89
      refine g_iload O dX8_cut_102 rfl ?_
      refine g_istore_n (lc' := [some (vr a0), some (vr a1), some (vi x2), some (vi x6), some (vi x4), some (vi x5), some (vi x6), some (vi s0)]) O dX8_cut_104 rfl (Nat.le_of_ble_eq_true rfl) rfl ?_
      refine g_iinc (lc' := [some (vr a0), some (vr a1), some (vi x2), some (vi x6), some (vi (x4 + (1 : Int32))), some (vi x5), some (vi x6), some (vi s0)]) O dX8_cut_105 rfl kv_1 rfl rfl ?_
      refine g_goto (tgt := 12) O dX8_cut_108 rfl ?_
      refine g_mask [true, true, true, true, true, false, false, false] rfl rfl ?_
      exact hB12 _ _ _ hw
    · have hw := hw.2 q89
      refine g_aload_n O dX8_cut_92 rfl ?_
      refine g_iload O dX8_cut_93 rfl ?_
      refine g_iload O dX8_cut_95 rfl ?_
      refine g_iload O dX8_cut_97 rfl ?_
      obtain ⟨c99, hw⟩ := hw
      refine g_callV (As := [vi x6, vi x5, vi x4]) (rest := []) O ci_8 rfl dX8_cut_99 ml_X8_49 im_yX8_startToken se_yX8_startToken ini_X8 co_yX8_startToken yo_yX8_startToken c99 rfl rfl (Nat.le_of_ble_eq_true rfl) ⟨by decide, by decide, by decide, by decide⟩ (okX8_startToken hw) (k_V fun h99 hw => ?_)
      refine g_iload O dX8_cut_102 rfl ?_
      refine g_istore_n (lc' := [some (vr a0), some (vr a1), some (vi x2), some (vi x6), some (vi x4), some (vi x5), some (vi x6), some (vi s0)]) O dX8_cut_104 rfl (Nat.le_of_ble_eq_true rfl) rfl ?_
      refine g_iinc (lc' := [some (vr a0), some (vr a1), some (vi x2), some (vi x6), some (vi (x4 + (1 : Int32))), some (vi x5), some (vi x6), some (vi s0)]) O dX8_cut_105 rfl kv_1 rfl rfl ?_
      refine g_goto (tgt := 12) O dX8_cut_108 rfl ?_
      refine g_mask [true, true, true, true, true, false, false, false] rfl rfl ?_
      exact hB12 _ _ _ hw
  · have hw := hw.2 q70
    refine g_aload_n O dX8_cut_73 rfl ?_
    refine g_iload O dX8_cut_74 rfl ?_
    refine g_iload O dX8_cut_76 rfl ?_
    obtain ⟨c78, hw⟩ := hw
    refine g_callV (As := [vi x6, vi x5]) (rest := []) O ci_8 rfl dX8_cut_78 ml_X8_45 im_yX8_lengthen se_yX8_lengthen ini_X8 co_yX8_lengthen yo_yX8_lengthen c78 rfl rfl (Nat.le_of_ble_eq_true rfl) ⟨by decide, by decide, by decide, by decide⟩ (okX8_lengthen hw) (k_V fun h78 hw => ?_)
    refine g_goto (tgt := 102) O dX8_cut_81 rfl ?_
    refine g_iload O dX8_cut_102 rfl ?_
    refine g_istore_n (lc' := [some (vr a0), some (vr a1), some (vi x2), some (vi x6), some (vi x4), some (vi x5), some (vi x6), some (vi s0)]) O dX8_cut_104 rfl (Nat.le_of_ble_eq_true rfl) rfl ?_
    refine g_iinc (lc' := [some (vr a0), some (vr a1), some (vi x2), some (vi x6), some (vi (x4 + (1 : Int32))), some (vi x5), some (vi x6), some (vi s0)]) O dX8_cut_105 rfl kv_1 rfl rfl ?_
    refine g_goto (tgt := 12) O dX8_cut_108 rfl ?_
    refine g_mask [true, true, true, true, true, false, false, false] rfl rfl ?_
    exact hB12 _ _ _ hw
theorem okX8_cut_j65 {E : Ev} {X : Cx} {S : Sh} {Z : Option Nat} {Q : Hp → Prop} {B12 : Hp → Int32 → Int32 → Prop} {h : Hp} {a0 : Nat} {a1 : Nat} {x2 : Int32} {x4 : Int32} {x5 : Int32} {x6 : Int32} (O : Ok E X yX8_cut cX8_cut 8 none 3 70 0 0 (qV S Z Q)) (hB12 : ∀ (h : Hp) (x3 : Int32) (x4 : Int32), B12 h x3 x4 → G E X 0 0 S Z h 12 [some (vr a0), some (vr a1), some (vi x2), some (vi x3), some (vi x4), none, none, none] []) (hw : wX8_cut_j65 S B12 h a0 a1 x2 x4 x5 x6 Q) : G E X 0 0 S Z h 65 [some (vr a0), some (vr a1), some (vi x2), none, some (vi x4), some (vi x5), some (vi x6), none] [] := by
  unfold wX8_cut_j65 at hw
  refine g_iconst O dX8_cut_65 kv_0 ?_
  exact okX8_cut_j66 O hB12 hw
theorem okX8_cut_j61 {E : Ev} {X : Cx} {S : Sh} {Z : Option Nat} {Q : Hp → Prop} {B12 : Hp → Int32 → Int32 → Prop} {h : Hp} {a0 : Nat} {a1 : Nat} {x2 : Int32} {x4 : Int32} {x5 : Int32} {x6 : Int32} (O : Ok E X yX8_cut cX8_cut 8 none 3 70 0 0 (qV S Z Q)) (hB12 : ∀ (h : Hp) (x3 : Int32) (x4 : Int32), B12 h x3 x4 → G E X 0 0 S Z h 12 [some (vr a0), some (vr a1), some (vi x2), some (vi x3), some (vi x4), none, none, none] []) (hw : wX8_cut_j61 S B12 h a0 a1 x2 x4 x5 x6 Q) : G E X 0 0 S Z h 61 [some (vr a0), some (vr a1), some (vi x2), none, some (vi x4), some (vi x5), some (vi x6), none] [] := by
  unfold wX8_cut_j61 at hw
  refine g_iconst O dX8_cut_61 kv_1 ?_
  refine g_goto (tgt := 66) O dX8_cut_62 rfl ?_
  exact okX8_cut_j66 O hB12 hw
theorem okX8_cut_12 {E : Ev} {X : Cx} {S : Sh} {Z : Option Nat} {Q : Hp → Prop} {a0 : Nat} {a1 : Nat} {x2 : Int32} (O : Ok E X yX8_cut cX8_cut 8 none 3 70 0 0 (qV S Z Q)) : ∀ (n : Nat) (h : Hp) (x3 : Int32) (x4 : Int32), wX8_cut_12 S a0 a1 x2 Q n h x3 x4 → G E X 0 0 S Z h 12 [some (vr a0), some (vr a1), some (vi x2), some (vi x3), some (vi x4), none, none, none] [] := by
  intro n
  induction n with
  | zero => intro h x3 x4 hw; exact hw.elim
  | succ n hB12 =>
    intro h x3 x4 hw
    have hw : wX8_cut_12b S a0 a1 x2 Q (wX8_cut_12 S a0 a1 x2 Q n) h x3 x4 := hw
    unfold wX8_cut_12b at hw
    refine g_iload O dX8_cut_12 rfl ?_
    refine g_iload_n O dX8_cut_14 rfl ?_
    refine g_icmp_ge (tgt := 111) O dX8_cut_15 rfl (fun q15 => ?_) (fun q15 => ?_)
    · have hw := hw.1 q15
      refine g_mask [true, false, true, false, false, false, false, false] rfl rfl ?_
      exact okX8_cut_j111 O hw
    · have hw := hw.2 q15
      refine g_iload O dX8_cut_18 rfl ?_
      refine g_sipush O dX8_cut_20 ks_600 ?_
      refine g_icmp_ge (tgt := 111) O dX8_cut_23 rfl (fun q23 => ?_) (fun q23 => ?_)
      · have hw := hw.1 q23
        refine g_mask [true, false, true, false, false, false, false, false] rfl rfl ?_
        exact okX8_cut_j111 O hw
      · have hw := hw.2 q23
        refine g_aload_n O dX8_cut_26 rfl ?_
        refine g_iload O dX8_cut_27 rfl ?_
        obtain ⟨c29, hw⟩ := hw
        refine g_baload O dX8_cut_29 c29.1 c29.2 ?_
        refine g_istore (lc' := [some (vr a0), some (vr a1), some (vi x2), some (vi x3), some (vi x4), some (vi (gI h a1 (ix x4))), none, none]) O dX8_cut_30 rfl (Nat.le_of_ble_eq_true rfl) rfl ?_
        refine g_iload O dX8_cut_32 rfl ?_
        refine g_callS (As := [vi ((gI h a1 (ix x4)))]) (rest := []) O dX8_cut_34 ml_X8_41 st_yX8_familyOf ini_X8 co_yX8_familyOf yo_yX8_familyOf rfl rfl (Nat.le_of_ble_eq_true rfl) ⟨by decide, by decide, by decide, by decide⟩ (okX8_familyOf hw) (k_I fun r34 h34 hw => ?_)
        refine g_istore (lc' := [some (vr a0), some (vr a1), some (vi x2), some (vi x3), some (vi x4), some (vi (gI h a1 (ix x4))), some (vi r34), none]) O dX8_cut_37 rfl (Nat.le_of_ble_eq_true rfl) rfl ?_
        refine g_iload O dX8_cut_39 rfl ?_
        refine g_iload_n O dX8_cut_41 rfl ?_
        refine g_icmp_ne (tgt := 65) O dX8_cut_42 rfl (fun q42 => ?_) (fun q42 => ?_)
        · have hw := hw.1 q42
          refine g_mask [true, true, true, false, true, true, true, false] rfl rfl ?_
          exact okX8_cut_j65 O hB12 hw
        · have hw := hw.2 q42
          refine g_iload O dX8_cut_45 rfl ?_
          refine g_sipush O dX8_cut_47 ks_302 ?_
          refine g_icmp_eq (tgt := 61) O dX8_cut_50 rfl (fun q50 => ?_) (fun q50 => ?_)
          · have hw := hw.1 q50
            refine g_mask [true, true, true, false, true, true, true, false] rfl rfl ?_
            exact okX8_cut_j61 O hB12 hw
          · have hw := hw.2 q50
            refine g_iload O dX8_cut_53 rfl ?_
            refine g_sipush O dX8_cut_55 ks_303 ?_
            refine g_icmp_ne (tgt := 65) O dX8_cut_58 rfl (fun q58 => ?_) (fun q58 => ?_)
            · have hw := hw.1 q58
              refine g_mask [true, true, true, false, true, true, true, false] rfl rfl ?_
              exact okX8_cut_j65 O hB12 hw
            · have hw := hw.2 q58
              refine g_mask [true, true, true, false, true, true, true, false] rfl rfl ?_
              exact okX8_cut_j61 O hB12 hw
theorem okX8_cut {E : Ev} {S : Sh} {Z : Option Nat} {Q : Hp → Prop} {h : Hp} {a0 : Nat} {a1 : Nat} {x2 : Int32} (hw : wX8_cut S h a0 a1 x2 Q) : Ct E yX8_cut cX8_cut 8 none 3 70 0 0 S Z h [vr a0, vr a1, vi x2] (qV S Z Q) := by
  refine Ct.of (by decide) (lc := [some (vr a0), some (vr a1), some (vi x2), none, none, none, none, none]) (Nat.le_of_ble_eq_true rfl) rfl (fun X O => ?_)
  unfold wX8_cut at hw
  refine g_aload_n O dX8_cut_0 rfl ?_
  refine g_iconst O dX8_cut_1 kv_0 ?_
  obtain ⟨c2, hw⟩ := hw
  refine pf_X8_count O dX8_cut_2 fl_X8_37 c2 ?_
  refine g_sipush O dX8_cut_5 ks_304 ?_
  refine g_istore_n (lc' := [some (vr a0), some (vr a1), some (vi x2), some (vi (304 : Int32)), none, none, none, none]) O dX8_cut_8 rfl (Nat.le_of_ble_eq_true rfl) rfl ?_
  refine g_iconst O dX8_cut_9 kv_0 ?_
  refine g_istore (lc' := [some (vr a0), some (vr a1), some (vi x2), some (vi (304 : Int32)), some (vi (0 : Int32)), none, none, none]) O dX8_cut_10 rfl (Nat.le_of_ble_eq_true rfl) rfl ?_
  obtain ⟨n12, hw⟩ := hw
  exact okX8_cut_12 O n12 _ _ _ hw
theorem dX5_start_0 : decode cX5_start 0 = .ok (.aload_n 0, 1) := by decide +kernel
theorem dX5_start_1 : decode cX5_start 1 = .ok (.getfield 12, 3) := by decide +kernel
theorem dX5_start_4 : decode cX5_start 4 = .ok (.aload_n 1, 1) := by decide +kernel
theorem dX5_start_5 : decode cX5_start 5 = .ok (.iload_n 2, 1) := by decide +kernel
theorem dX5_start_6 : decode cX5_start 6 = .ok (.invokevirtual 22, 3) := by decide +kernel
theorem dX5_start_9 : decode cX5_start 9 = .ok (.aload_n 3, 1) := by decide +kernel
theorem dX5_start_10 : decode cX5_start 10 = .ok (.invokevirtual 26, 3) := by decide +kernel
theorem dX5_start_13 : decode cX5_start 13 = .ok (.aload_n 0, 1) := by decide +kernel
theorem dX5_start_14 : decode cX5_start 14 = .ok (.aload_n 3, 1) := by decide +kernel
theorem dX5_start_15 : decode cX5_start 15 = .ok (.putfield 31, 3) := by decide +kernel
theorem dX5_start_18 : decode cX5_start 18 = .ok (.aload_n 0, 1) := by decide +kernel
theorem dX5_start_19 : decode cX5_start 19 = .ok (.aload_n 3, 1) := by decide +kernel
theorem dX5_start_20 : decode cX5_start 20 = .ok (.getfield 35, 3) := by decide +kernel
theorem dX5_start_23 : decode cX5_start 23 = .ok (.iconst 0, 1) := by decide +kernel
theorem dX5_start_24 : decode cX5_start 24 = .ok (.aaload, 1) := by decide +kernel
theorem dX5_start_25 : decode cX5_start 25 = .ok (.putfield 39, 3) := by decide +kernel
theorem dX5_start_28 : decode cX5_start 28 = .ok (.aload_n 0, 1) := by decide +kernel
theorem dX5_start_29 : decode cX5_start 29 = .ok (.aload_n 0, 1) := by decide +kernel
theorem dX5_start_30 : decode cX5_start 30 = .ok (.getfield 39, 3) := by decide +kernel
theorem dX5_start_33 : decode cX5_start 33 = .ok (.getfield 43, 3) := by decide +kernel
theorem dX5_start_36 : decode cX5_start 36 = .ok (.iconst 0, 1) := by decide +kernel
theorem dX5_start_37 : decode cX5_start 37 = .ok (.aaload, 1) := by decide +kernel
theorem dX5_start_38 : decode cX5_start 38 = .ok (.putfield 49, 3) := by decide +kernel
theorem dX5_start_41 : decode cX5_start 41 = .ok (.aload_n 0, 1) := by decide +kernel
theorem dX5_start_42 : decode cX5_start 42 = .ok (.iconst 0, 1) := by decide +kernel
theorem dX5_start_43 : decode cX5_start 43 = .ok (.putfield 52, 3) := by decide +kernel
theorem dX5_start_46 : decode cX5_start 46 = .ok (.aload_n 0, 1) := by decide +kernel
theorem dX5_start_47 : decode cX5_start 47 = .ok (.iconst 0, 1) := by decide +kernel
theorem dX5_start_48 : decode cX5_start 48 = .ok (.putfield 56, 3) := by decide +kernel
theorem dX5_start_51 : decode cX5_start 51 = .ok (.aload_n 0, 1) := by decide +kernel
theorem dX5_start_52 : decode cX5_start 52 = .ok (.iconst 0, 1) := by decide +kernel
theorem dX5_start_53 : decode cX5_start 53 = .ok (.putfield 59, 3) := by decide +kernel
theorem dX5_start_56 : decode cX5_start 56 = .ok (.aload_n 0, 1) := by decide +kernel
theorem dX5_start_57 : decode cX5_start 57 = .ok (.iconst (-1), 1) := by decide +kernel
theorem dX5_start_58 : decode cX5_start 58 = .ok (.putfield 62, 3) := by decide +kernel
theorem dX5_start_61 : decode cX5_start 61 = .ok (.return_, 1) := by decide +kernel
theorem okX5_start {E : Ev} {S : Sh} {Z : Option Nat} {Q : Hp → Prop} {h : Hp} {a0 : Nat} {a1 : Nat} {x2 : Int32} {a3 : Nat} (hw : wX5_start S h a0 a1 x2 a3 Q) : Ct E yX5_start cX5_start 4 none 4 97 0 0 S Z h [vr a0, vr a1, vi x2, vr a3] (qV S Z Q) := by
  refine Ct.of (by decide) (lc := [some (vr a0), some (vr a1), some (vi x2), some (vr a3)]) (Nat.le_of_ble_eq_true rfl) rfl (fun X O => ?_)
  unfold wX5_start at hw
  refine g_aload_n O dX5_start_0 rfl ?_
  obtain ⟨c1, hw⟩ := hw
  refine gf_X5_tokens O dX5_start_1 fl_X5_12 c1 ?_
  refine g_aload_n O dX5_start_4 rfl ?_
  refine g_iload_n O dX5_start_5 rfl ?_
  obtain ⟨c6, hw⟩ := hw
  refine g_callV (As := [vr a1, vi x2]) (rest := []) O ci_8 rfl dX5_start_6 ml_X5_22 im_yX8_cut se_yX8_cut ini_X8 co_yX8_cut yo_yX8_cut c6 rfl rfl (Nat.le_of_ble_eq_true rfl) ⟨by decide, by decide, by decide, by decide⟩ (okX8_cut hw) (k_V fun h6 hw => ?_)
  refine g_aload_n O dX5_start_9 rfl ?_
  obtain ⟨c10, hw⟩ := hw
  refine g_callV (As := []) (rest := []) O ci_3 rfl dX5_start_10 ml_X5_26 im_yX3_clear se_yX3_clear ini_X3 co_yX3_clear yo_yX3_clear c10 rfl rfl (Nat.le_of_ble_eq_true rfl) ⟨by decide, by decide, by decide, by decide⟩ (okX3_clear hw) (k_V fun h10 hw => ?_)
  refine g_aload_n O dX5_start_13 rfl ?_
  refine g_aload_n O dX5_start_14 rfl ?_
  refine pf_X5_model O dX5_start_15 fl_X5_31 c1 ?_
  refine g_nmH (fun h15 e15 => ?_)
  have hw := hw h15 e15
  refine g_aload_n O dX5_start_18 rfl ?_
  refine g_aload_n O dX5_start_19 rfl ?_
  refine gf_X3_machines O dX5_start_20 fl_X5_35 c10 ?_
  refine g_iconst O dX5_start_23 kv_0 ?_
  obtain ⟨c24, hw⟩ := hw
  refine g_aaload (t := 1) (C := "FinerSteps$Machine") O rfl dX5_start_24 c24.1 c24.2 ?_
  refine pf_X5_machine O dX5_start_25 fl_X5_39 c1 ?_
  refine g_nmH (fun h25 e25 => ?_)
  have hw := hw h25 e25
  refine g_aload_n O dX5_start_28 rfl ?_
  refine g_aload_n O dX5_start_29 rfl ?_
  refine gf_X5_machine O dX5_start_30 fl_X5_39 c1 ?_
  obtain ⟨c33, hw⟩ := hw
  refine gf_X2_event O dX5_start_33 fl_X5_43 c33 ?_
  refine g_iconst O dX5_start_36 kv_0 ?_
  obtain ⟨c37, hw⟩ := hw
  refine g_aaload (t := 0) (C := "FinerSteps$Event") O rfl dX5_start_37 c37.1 c37.2 ?_
  refine pf_X5_event O dX5_start_38 fl_X5_49 c1 ?_
  refine g_nmH (fun h38 e38 => ?_)
  have hw := hw h38 e38
  refine g_aload_n O dX5_start_41 rfl ?_
  refine g_iconst O dX5_start_42 kv_0 ?_
  refine pf_X5_toldCount O dX5_start_43 fl_X5_52 c1 ?_
  refine g_nmH (fun h43 e43 => ?_)
  have hw := hw h43 e43
  refine g_aload_n O dX5_start_46 rfl ?_
  refine g_iconst O dX5_start_47 kv_0 ?_
  refine pf_X5_at O dX5_start_48 fl_X5_56 c1 ?_
  refine g_nmH (fun h48 e48 => ?_)
  have hw := hw h48 e48
  refine g_aload_n O dX5_start_51 rfl ?_
  refine g_iconst O dX5_start_52 kv_0 ?_
  refine pf_X5_faultMet O dX5_start_53 fl_X5_59 c1 ?_
  refine g_nmH (fun h53 e53 => ?_)
  have hw := hw h53 e53
  refine g_aload_n O dX5_start_56 rfl ?_
  refine g_iconst O dX5_start_57 kv_m1 ?_
  refine pf_X5_faultAt O dX5_start_58 fl_X5_62 c1 ?_
  exact g_return O dX5_start_61 ⟨rfl, rfl, rfl, hw⟩
theorem dX6_clear_0 : decode cX6_clear 0 = .ok (.aload_n 0, 1) := by decide +kernel
theorem dX6_clear_1 : decode cX6_clear 1 = .ok (.iconst 0, 1) := by decide +kernel
theorem dX6_clear_2 : decode cX6_clear 2 = .ok (.putfield 15, 3) := by decide +kernel
theorem dX6_clear_5 : decode cX6_clear 5 = .ok (.return_, 1) := by decide +kernel
theorem okX6_clear {E : Ev} {S : Sh} {Z : Option Nat} {Q : Hp → Prop} {h : Hp} {a0 : Nat} (hw : wX6_clear S h a0 Q) : Ct E yX6_clear cX6_clear 1 none 1 24 0 0 S Z h [vr a0] (qV S Z Q) := by
  refine Ct.of (by decide) (lc := [some (vr a0)]) (Nat.le_of_ble_eq_true rfl) rfl (fun X O => ?_)
  unfold wX6_clear at hw
  refine g_aload_n O dX6_clear_0 rfl ?_
  refine g_iconst O dX6_clear_1 kv_0 ?_
  obtain ⟨c2, hw⟩ := hw
  refine pf_X6_count O dX6_clear_2 fl_X6_15 c2 ?_
  exact g_return O dX6_clear_5 ⟨rfl, rfl, rfl, hw⟩
theorem dX6_init_0 : decode cX6_init 0 = .ok (.aload_n 0, 1) := by decide +kernel
theorem dX6_init_1 : decode cX6_init 1 = .ok (.invokespecial 3, 3) := by decide +kernel
theorem dX6_init_4 : decode cX6_init 4 = .ok (.aload_n 0, 1) := by decide +kernel
theorem dX6_init_5 : decode cX6_init 5 = .ok (.bipush 68, 2) := by decide +kernel
theorem dX6_init_7 : decode cX6_init 7 = .ok (.newarray .byte, 2) := by decide +kernel
theorem dX6_init_9 : decode cX6_init 9 = .ok (.putfield 9, 3) := by decide +kernel
theorem dX6_init_12 : decode cX6_init 12 = .ok (.return_, 1) := by decide +kernel
theorem okX6_init {E : Ev} {Q : Sh → Nat → Hp → Prop} {S : Sh} {z : Nat} {h : Hp} {a0 : Nat} (hw : wX6_init S z h a0 Q) : Ct E yX6_init cX6_init 1 none 1 24 1 68 S (some z) h [vr a0] (qA Q) := by
  refine Ct.of (by decide) (lc := [some (vr a0)]) (Nat.le_of_ble_eq_true rfl) rfl (fun X O => ?_)
  unfold wX6_init at hw
  refine g_aload_n O dX6_init_0 rfl ?_
  obtain ⟨c1, hw⟩ := hw
  refine g_objInit O dX6_init_1 ml_X6_3 c1 rfl rfl (Nat.le_of_ble_eq_true rfl) ⟨by decide, by decide⟩ ?_
  refine g_aload_n O dX6_init_4 rfl ?_
  refine g_bipush O dX6_init_5 kb_68 ?_
  obtain ⟨c7a, hw⟩ := hw
  obtain ⟨c7b, c7c, hw⟩ := hw
  refine g_newarray (atype := .byte) (t := 1) (N := 68) O rfl (fun I J R j h1 h2 h3 => by simp [aval, h1, h2, newarray.typeOf, defaultValue]) (fun U cA q => q) dX6_init_7 ac_byte (by decide) (by decide) (by decide) c7a c7b c7c ?_
  obtain ⟨c9, hw⟩ := hw
  refine pf_X6_bytes O rfl rfl dX6_init_9 fl_X6_9 c9 ?_
  obtain ⟨c12a, c12b, hw⟩ := hw
  exact g_widen c12a c12b (g_return O dX6_init_12 ⟨_, rfl, rfl, hw⟩)
theorem dX6_put_0 : decode cX6_put 0 = .ok (.aload_n 0, 1) := by decide +kernel
theorem dX6_put_1 : decode cX6_put 1 = .ok (.getfield 15, 3) := by decide +kernel
theorem dX6_put_4 : decode cX6_put 4 = .ok (.aload_n 0, 1) := by decide +kernel
theorem dX6_put_5 : decode cX6_put 5 = .ok (.getfield 9, 3) := by decide +kernel
theorem dX6_put_8 : decode cX6_put 8 = .ok (.arraylength, 1) := by decide +kernel
theorem dX6_put_9 : decode cX6_put 9 = .ok (.if_icmp .ge 24, 3) := by decide +kernel
theorem dX6_put_12 : decode cX6_put 12 = .ok (.aload_n 0, 1) := by decide +kernel
theorem dX6_put_13 : decode cX6_put 13 = .ok (.getfield 9, 3) := by decide +kernel
theorem dX6_put_16 : decode cX6_put 16 = .ok (.aload_n 0, 1) := by decide +kernel
theorem dX6_put_17 : decode cX6_put 17 = .ok (.getfield 15, 3) := by decide +kernel
theorem dX6_put_20 : decode cX6_put 20 = .ok (.iload_n 1, 1) := by decide +kernel
theorem dX6_put_21 : decode cX6_put 21 = .ok (.i2b, 1) := by decide +kernel
theorem dX6_put_22 : decode cX6_put 22 = .ok (.bastore, 1) := by decide +kernel
theorem dX6_put_23 : decode cX6_put 23 = .ok (.aload_n 0, 1) := by decide +kernel
theorem dX6_put_24 : decode cX6_put 24 = .ok (.dup, 1) := by decide +kernel
theorem dX6_put_25 : decode cX6_put 25 = .ok (.getfield 15, 3) := by decide +kernel
theorem dX6_put_28 : decode cX6_put 28 = .ok (.iconst 1, 1) := by decide +kernel
theorem dX6_put_29 : decode cX6_put 29 = .ok (.iadd, 1) := by decide +kernel
theorem dX6_put_30 : decode cX6_put 30 = .ok (.putfield 15, 3) := by decide +kernel
theorem dX6_put_33 : decode cX6_put 33 = .ok (.return_, 1) := by decide +kernel
theorem okX6_put {E : Ev} {S : Sh} {Z : Option Nat} {Q : Hp → Prop} {h : Hp} {a0 : Nat} {x1 : Int32} (hw : wX6_put S h a0 x1 Q) : Ct E yX6_put cX6_put 2 none 1 24 0 0 S Z h [vr a0, vi x1] (qV S Z Q) := by
  refine Ct.of (by decide) (lc := [some (vr a0), some (vi x1)]) (Nat.le_of_ble_eq_true rfl) rfl (fun X O => ?_)
  unfold wX6_put at hw
  refine g_aload_n O dX6_put_0 rfl ?_
  obtain ⟨c1, hw⟩ := hw
  refine gf_X6_count O dX6_put_1 fl_X6_15 c1 ?_
  refine g_aload_n O dX6_put_4 rfl ?_
  refine gf_X6_bytes O dX6_put_5 fl_X6_9 c1 ?_
  obtain ⟨c8, hw⟩ := hw
  refine g_alen (t := 1) O rfl dX6_put_8 c8 ?_
  refine g_icmp_ge (tgt := 33) O dX6_put_9 rfl (fun q9 => ?_) (fun q9 => ?_)
  · have hw := hw.1 q9
    exact g_return O dX6_put_33 ⟨rfl, rfl, rfl, hw⟩
  · have hw := hw.2 q9
    refine g_aload_n O dX6_put_12 rfl ?_
    refine gf_X6_bytes O dX6_put_13 fl_X6_9 c1 ?_
    refine g_aload_n O dX6_put_16 rfl ?_
    refine gf_X6_count O dX6_put_17 fl_X6_15 c1 ?_
    refine g_iload_n O dX6_put_20 rfl ?_
    refine g_i2b O dX6_put_21 ?_
    obtain ⟨c22, hw⟩ := hw
    refine g_bastore O dX6_put_22 c22.1 c22.2 ?_
    refine g_nmH (fun h22 e22 => ?_)
    have hw := hw h22 e22
    refine g_aload_n O dX6_put_23 rfl ?_
    refine g_dup O dX6_put_24 rfl ?_
    refine gf_X6_count O dX6_put_25 fl_X6_15 c1 ?_
    refine g_iconst O dX6_put_28 kv_1 ?_
    refine g_iadd O dX6_put_29 ?_
    refine pf_X6_count O dX6_put_30 fl_X6_15 c1 ?_
    exact g_return O dX6_put_33 ⟨rfl, rfl, rfl, hw⟩
theorem dX6_putNumber_0 : decode cX6_putNumber 0 = .ok (.iload_n 1, 1) := by decide +kernel
theorem dX6_putNumber_1 : decode cX6_putNumber 1 = .ok (.bipush 9, 2) := by decide +kernel
theorem dX6_putNumber_3 : decode cX6_putNumber 3 = .ok (.if_icmp .le 18, 3) := by decide +kernel
theorem dX6_putNumber_6 : decode cX6_putNumber 6 = .ok (.aload_n 0, 1) := by decide +kernel
theorem dX6_putNumber_7 : decode cX6_putNumber 7 = .ok (.bipush 48, 2) := by decide +kernel
theorem dX6_putNumber_9 : decode cX6_putNumber 9 = .ok (.iload_n 1, 1) := by decide +kernel
theorem dX6_putNumber_10 : decode cX6_putNumber 10 = .ok (.bipush 10, 2) := by decide +kernel
theorem dX6_putNumber_12 : decode cX6_putNumber 12 = .ok (.idiv, 1) := by decide +kernel
theorem dX6_putNumber_13 : decode cX6_putNumber 13 = .ok (.bipush 10, 2) := by decide +kernel
theorem dX6_putNumber_15 : decode cX6_putNumber 15 = .ok (.irem, 1) := by decide +kernel
theorem dX6_putNumber_16 : decode cX6_putNumber 16 = .ok (.iadd, 1) := by decide +kernel
theorem dX6_putNumber_17 : decode cX6_putNumber 17 = .ok (.i2c, 1) := by decide +kernel
theorem dX6_putNumber_18 : decode cX6_putNumber 18 = .ok (.invokevirtual 36, 3) := by decide +kernel
theorem dX6_putNumber_21 : decode cX6_putNumber 21 = .ok (.aload_n 0, 1) := by decide +kernel
theorem dX6_putNumber_22 : decode cX6_putNumber 22 = .ok (.bipush 48, 2) := by decide +kernel
theorem dX6_putNumber_24 : decode cX6_putNumber 24 = .ok (.iload_n 1, 1) := by decide +kernel
theorem dX6_putNumber_25 : decode cX6_putNumber 25 = .ok (.bipush 10, 2) := by decide +kernel
theorem dX6_putNumber_27 : decode cX6_putNumber 27 = .ok (.irem, 1) := by decide +kernel
theorem dX6_putNumber_28 : decode cX6_putNumber 28 = .ok (.iadd, 1) := by decide +kernel
theorem dX6_putNumber_29 : decode cX6_putNumber 29 = .ok (.i2c, 1) := by decide +kernel
theorem dX6_putNumber_30 : decode cX6_putNumber 30 = .ok (.invokevirtual 36, 3) := by decide +kernel
theorem dX6_putNumber_33 : decode cX6_putNumber 33 = .ok (.return_, 1) := by decide +kernel
theorem okX6_putNumber {E : Ev} {S : Sh} {Z : Option Nat} {Q : Hp → Prop} {h : Hp} {a0 : Nat} {x1 : Int32} (hw : wX6_putNumber S h a0 x1 Q) : Ct E yX6_putNumber cX6_putNumber 2 none 2 45 0 0 S Z h [vr a0, vi x1] (qV S Z Q) := by
  refine Ct.of (by decide) (lc := [some (vr a0), some (vi x1)]) (Nat.le_of_ble_eq_true rfl) rfl (fun X O => ?_)
  unfold wX6_putNumber at hw
  refine g_iload_n O dX6_putNumber_0 rfl ?_
  refine g_bipush O dX6_putNumber_1 kb_9 ?_
  refine g_icmp_le (tgt := 21) O dX6_putNumber_3 rfl (fun q3 => ?_) (fun q3 => ?_)
  · have hw := hw.1 q3
    refine g_aload_n O dX6_putNumber_21 rfl ?_
    refine g_bipush O dX6_putNumber_22 kb_48 ?_
    refine g_iload_n O dX6_putNumber_24 rfl ?_
    refine g_bipush O dX6_putNumber_25 kb_10 ?_
    obtain ⟨c27, hw⟩ := hw
    refine g_irem O dX6_putNumber_27 c27 ?_
    refine g_iadd O dX6_putNumber_28 ?_
    refine g_i2c O dX6_putNumber_29 ?_
    obtain ⟨c30, hw⟩ := hw
    refine g_callV (As := [vi ((i2c (((48 : Int32) + (rem32 x1 (10 : Int32))))))]) (rest := []) O ci_6 rfl dX6_putNumber_30 ml_X6_36 im_yX6_put se_yX6_put ini_X6 co_yX6_put yo_yX6_put c30 rfl rfl (Nat.le_of_ble_eq_true rfl) ⟨by decide, by decide, by decide, by decide⟩ (okX6_put hw) (k_V fun h30 hw => ?_)
    exact g_return O dX6_putNumber_33 ⟨rfl, rfl, rfl, hw⟩
  · have hw := hw.2 q3
    refine g_aload_n O dX6_putNumber_6 rfl ?_
    refine g_bipush O dX6_putNumber_7 kb_48 ?_
    refine g_iload_n O dX6_putNumber_9 rfl ?_
    refine g_bipush O dX6_putNumber_10 kb_10 ?_
    obtain ⟨c12, hw⟩ := hw
    refine g_idiv O dX6_putNumber_12 c12 ?_
    refine g_bipush O dX6_putNumber_13 kb_10 ?_
    refine g_irem O dX6_putNumber_15 c12 ?_
    refine g_iadd O dX6_putNumber_16 ?_
    refine g_i2c O dX6_putNumber_17 ?_
    obtain ⟨c18, hw⟩ := hw
    refine g_callV (As := [vi ((i2c (((48 : Int32) + (rem32 ((x1 / (10 : Int32))) (10 : Int32))))))]) (rest := []) O ci_6 rfl dX6_putNumber_18 ml_X6_36 im_yX6_put se_yX6_put ini_X6 co_yX6_put yo_yX6_put c18 rfl rfl (Nat.le_of_ble_eq_true rfl) ⟨by decide, by decide, by decide, by decide⟩ (okX6_put hw) (k_V fun h18 hw => ?_)
    refine g_aload_n O dX6_putNumber_21 rfl ?_
    refine g_bipush O dX6_putNumber_22 kb_48 ?_
    refine g_iload_n O dX6_putNumber_24 rfl ?_
    refine g_bipush O dX6_putNumber_25 kb_10 ?_
    refine g_irem O dX6_putNumber_27 c12 ?_
    refine g_iadd O dX6_putNumber_28 ?_
    refine g_i2c O dX6_putNumber_29 ?_
    refine g_callV (As := [vi ((i2c (((48 : Int32) + (rem32 x1 (10 : Int32))))))]) (rest := []) O ci_6 rfl dX6_putNumber_30 ml_X6_36 im_yX6_put se_yX6_put ini_X6 co_yX6_put yo_yX6_put c18 rfl rfl (Nat.le_of_ble_eq_true rfl) ⟨by decide, by decide, by decide, by decide⟩ (okX6_put hw) (k_V fun h30 hw => ?_)
    exact g_return O dX6_putNumber_33 ⟨rfl, rfl, rfl, hw⟩
theorem dX11_lengthOf_0 : decode cX11_lengthOf 0 = .ok (.iconst 0, 1) := by decide +kernel
theorem dX11_lengthOf_1 : decode cX11_lengthOf 1 = .ok (.istore_n 2, 1) := by decide +kernel
theorem dX11_lengthOf_2 : decode cX11_lengthOf 2 = .ok (.iconst 0, 1) := by decide +kernel
theorem dX11_lengthOf_3 : decode cX11_lengthOf 3 = .ok (.istore_n 3, 1) := by decide +kernel
theorem dX11_lengthOf_4 : decode cX11_lengthOf 4 = .ok (.iload_n 3, 1) := by decide +kernel
theorem dX11_lengthOf_5 : decode cX11_lengthOf 5 = .ok (.bipush 7, 2) := by decide +kernel
theorem dX11_lengthOf_7 : decode cX11_lengthOf 7 = .ok (.if_icmp .ge 22, 3) := by decide +kernel
theorem dX11_lengthOf_10 : decode cX11_lengthOf 10 = .ok (.lload_n 0, 1) := by decide +kernel
theorem dX11_lengthOf_11 : decode cX11_lengthOf 11 = .ok (.iconst 5, 1) := by decide +kernel
theorem dX11_lengthOf_12 : decode cX11_lengthOf 12 = .ok (.iload_n 3, 1) := by decide +kernel
theorem dX11_lengthOf_13 : decode cX11_lengthOf 13 = .ok (.imul, 1) := by decide +kernel
theorem dX11_lengthOf_14 : decode cX11_lengthOf 14 = .ok (.lshr, 1) := by decide +kernel
theorem dX11_lengthOf_15 : decode cX11_lengthOf 15 = .ok (.lconst 0, 1) := by decide +kernel
theorem dX11_lengthOf_16 : decode cX11_lengthOf 16 = .ok (.lcmp, 1) := by decide +kernel
theorem dX11_lengthOf_17 : decode cX11_lengthOf 17 = .ok (.ifCond .eq 6, 3) := by decide +kernel
theorem dX11_lengthOf_20 : decode cX11_lengthOf 20 = .ok (.iinc 2 1, 3) := by decide +kernel
theorem dX11_lengthOf_23 : decode cX11_lengthOf 23 = .ok (.iinc 3 1, 3) := by decide +kernel
theorem dX11_lengthOf_26 : decode cX11_lengthOf 26 = .ok (.goto (-22), 3) := by decide +kernel
theorem dX11_lengthOf_29 : decode cX11_lengthOf 29 = .ok (.iload_n 2, 1) := by decide +kernel
theorem dX11_lengthOf_30 : decode cX11_lengthOf 30 = .ok (.ireturn, 1) := by decide +kernel
theorem okX11_lengthOf_4 {E : Ev} {X : Cx} {S : Sh} {Z : Option Nat} {Q : Int32 → Hp → Prop} {j0 : Int64} (O : Ok E X yX11_lengthOf cX11_lengthOf 4 (some .int) 1 24 0 0 (qI S Z Q)) : ∀ (n : Nat) (h : Hp) (x2 : Int32) (x3 : Int32), wX11_lengthOf_4 S j0 Q n h x2 x3 → G E X 0 0 S Z h 4 [some (vj j0), none, some (vi x2), some (vi x3)] [] := by
  intro n
  induction n with
  | zero => intro h x2 x3 hw; exact hw.elim
  | succ n hB4 =>
    intro h x2 x3 hw
    have hw : wX11_lengthOf_4b S j0 Q (wX11_lengthOf_4 S j0 Q n) h x2 x3 := hw
    unfold wX11_lengthOf_4b at hw
    refine g_iload_n O dX11_lengthOf_4 rfl ?_
    refine g_bipush O dX11_lengthOf_5 kb_7 ?_
    refine g_icmp_ge (tgt := 29) O dX11_lengthOf_7 rfl (fun q7 => ?_) (fun q7 => ?_)
    · have hw := hw.1 q7
      refine g_iload_n O dX11_lengthOf_29 rfl ?_
      exact g_ireturn O dX11_lengthOf_30 ⟨rfl, rfl, _, rfl, hw⟩
    · have hw := hw.2 q7
      refine g_lload_n O dX11_lengthOf_10 rfl ?_
      refine g_iconst O dX11_lengthOf_11 kv_5 ?_
      refine g_iload_n O dX11_lengthOf_12 rfl ?_
      refine g_imul O dX11_lengthOf_13 ?_
      refine g_lshr O dX11_lengthOf_14 ?_
      refine g_lconst O dX11_lengthOf_15 kl_0 ?_
      refine g_lcmp O dX11_lengthOf_16 ?_
      refine g_if_eq (tgt := 23) O dX11_lengthOf_17 rfl (fun q17 => ?_) (fun q17 => ?_)
      · have hw := hw.1 q17
        refine g_iinc (lc' := [some (vj j0), none, some (vi x2), some (vi (x3 + (1 : Int32)))]) O dX11_lengthOf_23 rfl kv_1 rfl rfl ?_
        refine g_goto (tgt := 4) O dX11_lengthOf_26 rfl ?_
        exact hB4 _ _ _ hw
      · have hw := hw.2 q17
        refine g_iinc (lc' := [some (vj j0), none, some (vi (x2 + (1 : Int32))), some (vi x3)]) O dX11_lengthOf_20 rfl kv_1 rfl rfl ?_
        refine g_iinc (lc' := [some (vj j0), none, some (vi (x2 + (1 : Int32))), some (vi (x3 + (1 : Int32)))]) O dX11_lengthOf_23 rfl kv_1 rfl rfl ?_
        refine g_goto (tgt := 4) O dX11_lengthOf_26 rfl ?_
        exact hB4 _ _ _ hw
theorem okX11_lengthOf {E : Ev} {S : Sh} {Z : Option Nat} {Q : Int32 → Hp → Prop} {h : Hp} {j0 : Int64} (hw : wX11_lengthOf S h j0 Q) : Ct E yX11_lengthOf cX11_lengthOf 4 (some .int) 1 24 0 0 S Z h [vj j0] (qI S Z Q) := by
  refine Ct.of (by decide) (lc := [some (vj j0), none, none, none]) (Nat.le_of_ble_eq_true rfl) rfl (fun X O => ?_)
  unfold wX11_lengthOf at hw
  refine g_iconst O dX11_lengthOf_0 kv_0 ?_
  refine g_istore_n (lc' := [some (vj j0), none, some (vi (0 : Int32)), none]) O dX11_lengthOf_1 rfl (Nat.le_of_ble_eq_true rfl) rfl ?_
  refine g_iconst O dX11_lengthOf_2 kv_0 ?_
  refine g_istore_n (lc' := [some (vj j0), none, some (vi (0 : Int32)), some (vi (0 : Int32))]) O dX11_lengthOf_3 rfl (Nat.le_of_ble_eq_true rfl) rfl ?_
  obtain ⟨n4, hw⟩ := hw
  exact okX11_lengthOf_4 O n4 _ _ _ hw
theorem dX11_letterOf_0 : decode cX11_letterOf 0 = .ok (.lload_n 0, 1) := by decide +kernel
theorem dX11_letterOf_1 : decode cX11_letterOf 1 = .ok (.invokestatic 304, 3) := by decide +kernel
theorem dX11_letterOf_4 : decode cX11_letterOf 4 = .ok (.iconst 1, 1) := by decide +kernel
theorem dX11_letterOf_5 : decode cX11_letterOf 5 = .ok (.isub, 1) := by decide +kernel
theorem dX11_letterOf_6 : decode cX11_letterOf 6 = .ok (.iload_n 2, 1) := by decide +kernel
theorem dX11_letterOf_7 : decode cX11_letterOf 7 = .ok (.isub, 1) := by decide +kernel
theorem dX11_letterOf_8 : decode cX11_letterOf 8 = .ok (.istore_n 3, 1) := by decide +kernel
theorem dX11_letterOf_9 : decode cX11_letterOf 9 = .ok (.lload_n 0, 1) := by decide +kernel
theorem dX11_letterOf_10 : decode cX11_letterOf 10 = .ok (.iconst 5, 1) := by decide +kernel
theorem dX11_letterOf_11 : decode cX11_letterOf 11 = .ok (.iload_n 3, 1) := by decide +kernel
theorem dX11_letterOf_12 : decode cX11_letterOf 12 = .ok (.imul, 1) := by decide +kernel
theorem dX11_letterOf_13 : decode cX11_letterOf 13 = .ok (.lshr, 1) := by decide +kernel
theorem dX11_letterOf_14 : decode cX11_letterOf 14 = .ok (.ldc2_w 321, 3) := by decide +kernel
theorem dX11_letterOf_17 : decode cX11_letterOf 17 = .ok (.land, 1) := by decide +kernel
theorem dX11_letterOf_18 : decode cX11_letterOf 18 = .ok (.l2i, 1) := by decide +kernel
theorem dX11_letterOf_19 : decode cX11_letterOf 19 = .ok (.iconst 1, 1) := by decide +kernel
theorem dX11_letterOf_20 : decode cX11_letterOf 20 = .ok (.isub, 1) := by decide +kernel
theorem dX11_letterOf_21 : decode cX11_letterOf 21 = .ok (.ireturn, 1) := by decide +kernel
theorem okX11_letterOf {E : Ev} {S : Sh} {Z : Option Nat} {Q : Int32 → Hp → Prop} {h : Hp} {j0 : Int64} {x2 : Int32} (hw : wX11_letterOf S h j0 x2 Q) : Ct E yX11_letterOf cX11_letterOf 4 (some .int) 2 47 0 0 S Z h [vj j0, vi x2] (qI S Z Q) := by
  refine Ct.of (by decide) (lc := [some (vj j0), none, some (vi x2), none]) (Nat.le_of_ble_eq_true rfl) rfl (fun X O => ?_)
  unfold wX11_letterOf at hw
  refine g_lload_n O dX11_letterOf_0 rfl ?_
  refine g_callS (As := [vj j0]) (rest := []) O dX11_letterOf_1 ml_X11_304 st_yX11_lengthOf ini_X11 co_yX11_lengthOf yo_yX11_lengthOf rfl rfl (Nat.le_of_ble_eq_true rfl) ⟨by decide, by decide, by decide, by decide⟩ (okX11_lengthOf hw) (k_I fun r1 h1 hw => ?_)
  refine g_iconst O dX11_letterOf_4 kv_1 ?_
  refine g_isub O dX11_letterOf_5 ?_
  refine g_iload_n O dX11_letterOf_6 rfl ?_
  refine g_isub O dX11_letterOf_7 ?_
  refine g_nmI (fun xv8 e8 => ?_)
  have hw := hw xv8 e8
  refine g_istore_n (lc' := [some (vj j0), none, some (vi x2), some (vi xv8)]) O dX11_letterOf_8 rfl (Nat.le_of_ble_eq_true rfl) rfl ?_
  refine g_lload_n O dX11_letterOf_9 rfl ?_
  refine g_iconst O dX11_letterOf_10 kv_5 ?_
  refine g_iload_n O dX11_letterOf_11 rfl ?_
  refine g_imul O dX11_letterOf_12 ?_
  refine g_lshr O dX11_letterOf_13 ?_
  refine g_ldc2 O dX11_letterOf_14 kl_X11_321 ?_
  refine g_land O dX11_letterOf_17 ?_
  refine g_l2i O dX11_letterOf_18 ?_
  refine g_iconst O dX11_letterOf_19 kv_1 ?_
  refine g_isub O dX11_letterOf_20 ?_
  exact g_ireturn O dX11_letterOf_21 ⟨rfl, rfl, _, rfl, hw⟩
theorem dX6_putState_0 : decode cX6_putState 0 = .ok (.iconst 0, 1) := by decide +kernel
theorem dX6_putState_1 : decode cX6_putState 1 = .ok (.istore_n 3, 1) := by decide +kernel
theorem dX6_putState_2 : decode cX6_putState 2 = .ok (.iload_n 3, 1) := by decide +kernel
theorem dX6_putState_3 : decode cX6_putState 3 = .ok (.aload_n 1, 1) := by decide +kernel
theorem dX6_putState_4 : decode cX6_putState 4 = .ok (.getfield 19, 3) := by decide +kernel
theorem dX6_putState_7 : decode cX6_putState 7 = .ok (.if_icmp .ge 77, 3) := by decide +kernel
theorem dX6_putState_10 : decode cX6_putState 10 = .ok (.aload_n 1, 1) := by decide +kernel
theorem dX6_putState_11 : decode cX6_putState 11 = .ok (.getfield 24, 3) := by decide +kernel
theorem dX6_putState_14 : decode cX6_putState 14 = .ok (.iload_n 3, 1) := by decide +kernel
theorem dX6_putState_15 : decode cX6_putState 15 = .ok (.laload, 1) := by decide +kernel
theorem dX6_putState_16 : decode cX6_putState 16 = .ok (.lstore 4, 2) := by decide +kernel
theorem dX6_putState_18 : decode cX6_putState 18 = .ok (.lload 4, 2) := by decide +kernel
theorem dX6_putState_20 : decode cX6_putState 20 = .ok (.invokestatic 28, 3) := by decide +kernel
theorem dX6_putState_23 : decode cX6_putState 23 = .ok (.istore 6, 2) := by decide +kernel
theorem dX6_putState_25 : decode cX6_putState 25 = .ok (.iconst 0, 1) := by decide +kernel
theorem dX6_putState_26 : decode cX6_putState 26 = .ok (.istore 7, 2) := by decide +kernel
theorem dX6_putState_28 : decode cX6_putState 28 = .ok (.iload 7, 2) := by decide +kernel
theorem dX6_putState_30 : decode cX6_putState 30 = .ok (.iload 6, 2) := by decide +kernel
theorem dX6_putState_32 : decode cX6_putState 32 = .ok (.if_icmp .ge 24, 3) := by decide +kernel
theorem dX6_putState_35 : decode cX6_putState 35 = .ok (.aload_n 0, 1) := by decide +kernel
theorem dX6_putState_36 : decode cX6_putState 36 = .ok (.bipush 97, 2) := by decide +kernel
theorem dX6_putState_38 : decode cX6_putState 38 = .ok (.lload 4, 2) := by decide +kernel
theorem dX6_putState_40 : decode cX6_putState 40 = .ok (.iload 7, 2) := by decide +kernel
theorem dX6_putState_42 : decode cX6_putState 42 = .ok (.invokestatic 32, 3) := by decide +kernel
theorem dX6_putState_45 : decode cX6_putState 45 = .ok (.iadd, 1) := by decide +kernel
theorem dX6_putState_46 : decode cX6_putState 46 = .ok (.i2c, 1) := by decide +kernel
theorem dX6_putState_47 : decode cX6_putState 47 = .ok (.invokevirtual 36, 3) := by decide +kernel
theorem dX6_putState_50 : decode cX6_putState 50 = .ok (.iinc 7 1, 3) := by decide +kernel
theorem dX6_putState_53 : decode cX6_putState 53 = .ok (.goto (-25), 3) := by decide +kernel
theorem dX6_putState_56 : decode cX6_putState 56 = .ok (.aload_n 0, 1) := by decide +kernel
theorem dX6_putState_57 : decode cX6_putState 57 = .ok (.bipush 61, 2) := by decide +kernel
theorem dX6_putState_59 : decode cX6_putState 59 = .ok (.invokevirtual 36, 3) := by decide +kernel
theorem dX6_putState_62 : decode cX6_putState 62 = .ok (.aload_n 0, 1) := by decide +kernel
theorem dX6_putState_63 : decode cX6_putState 63 = .ok (.aload_n 1, 1) := by decide +kernel
theorem dX6_putState_64 : decode cX6_putState 64 = .ok (.iload_n 2, 1) := by decide +kernel
theorem dX6_putState_65 : decode cX6_putState 65 = .ok (.iload_n 3, 1) := by decide +kernel
theorem dX6_putState_66 : decode cX6_putState 66 = .ok (.invokevirtual 40, 3) := by decide +kernel
theorem dX6_putState_69 : decode cX6_putState 69 = .ok (.invokevirtual 44, 3) := by decide +kernel
theorem dX6_putState_72 : decode cX6_putState 72 = .ok (.aload_n 0, 1) := by decide +kernel
theorem dX6_putState_73 : decode cX6_putState 73 = .ok (.bipush 32, 2) := by decide +kernel
theorem dX6_putState_75 : decode cX6_putState 75 = .ok (.invokevirtual 36, 3) := by decide +kernel
theorem dX6_putState_78 : decode cX6_putState 78 = .ok (.iinc 3 1, 3) := by decide +kernel
theorem dX6_putState_81 : decode cX6_putState 81 = .ok (.goto (-79), 3) := by decide +kernel
theorem dX6_putState_84 : decode cX6_putState 84 = .ok (.return_, 1) := by decide +kernel
theorem okX6_putState_j56 {E : Ev} {X : Cx} {S : Sh} {Z : Option Nat} {Q : Hp → Prop} {B2 : Hp → Int32 → Prop} {h : Hp} {a0 : Nat} {a1 : Nat} {x2 : Int32} {x3 : Int32} (O : Ok E X yX6_putState cX6_putState 8 none 3 70 0 0 (qV S Z Q)) (hB2 : ∀ (h : Hp) (x3 : Int32), B2 h x3 → G E X 0 0 S Z h 2 [some (vr a0), some (vr a1), some (vi x2), some (vi x3), none, none, none, none] []) (hw : wX6_putState_j56 S B2 h a0 a1 x2 x3 Q) : G E X 0 0 S Z h 56 [some (vr a0), some (vr a1), some (vi x2), some (vi x3), none, none, none, none] [] := by
  unfold wX6_putState_j56 at hw
  refine g_aload_n O dX6_putState_56 rfl ?_
  refine g_bipush O dX6_putState_57 kb_61 ?_
  obtain ⟨c59, hw⟩ := hw
  refine g_callV (As := [vi (61 : Int32)]) (rest := []) O ci_6 rfl dX6_putState_59 ml_X6_36 im_yX6_put se_yX6_put ini_X6 co_yX6_put yo_yX6_put c59 rfl rfl (Nat.le_of_ble_eq_true rfl) ⟨by decide, by decide, by decide, by decide⟩ (okX6_put hw) (k_V fun h59 hw => ?_)
  refine g_aload_n O dX6_putState_62 rfl ?_
  refine g_aload_n O dX6_putState_63 rfl ?_
  refine g_iload_n O dX6_putState_64 rfl ?_
  refine g_iload_n O dX6_putState_65 rfl ?_
  obtain ⟨c66, hw⟩ := hw
  refine g_callV (As := [vi x2, vi x3]) (rest := [vr a0]) O ci_2 rfl dX6_putState_66 ml_X6_40 im_yX2_number se_yX2_number ini_X2 co_yX2_number yo_yX2_number c66 rfl rfl (Nat.le_of_ble_eq_true rfl) ⟨by decide, by decide, by decide, by decide⟩ (okX2_number hw) (k_I fun r66 h66 hw => ?_)
  refine g_callV (As := [vi r66]) (rest := []) O ci_6 rfl dX6_putState_69 ml_X6_44 im_yX6_putNumber se_yX6_putNumber ini_X6 co_yX6_putNumber yo_yX6_putNumber c59 rfl rfl (Nat.le_of_ble_eq_true rfl) ⟨by decide, by decide, by decide, by decide⟩ (okX6_putNumber hw) (k_V fun h69 hw => ?_)
  refine g_aload_n O dX6_putState_72 rfl ?_
  refine g_bipush O dX6_putState_73 kb_32 ?_
  refine g_callV (As := [vi (32 : Int32)]) (rest := []) O ci_6 rfl dX6_putState_75 ml_X6_36 im_yX6_put se_yX6_put ini_X6 co_yX6_put yo_yX6_put c59 rfl rfl (Nat.le_of_ble_eq_true rfl) ⟨by decide, by decide, by decide, by decide⟩ (okX6_put hw) (k_V fun h75 hw => ?_)
  refine g_iinc (lc' := [some (vr a0), some (vr a1), some (vi x2), some (vi (x3 + (1 : Int32))), none, none, none, none]) O dX6_putState_78 rfl kv_1 rfl rfl ?_
  refine g_goto (tgt := 2) O dX6_putState_81 rfl ?_
  exact hB2 _ _ hw
theorem okX6_putState_28 {E : Ev} {X : Cx} {S : Sh} {Z : Option Nat} {Q : Hp → Prop} {B2 : Hp → Int32 → Prop} {a0 : Nat} {a1 : Nat} {x2 : Int32} {x3 : Int32} {j4 : Int64} {x6 : Int32} (O : Ok E X yX6_putState cX6_putState 8 none 3 70 0 0 (qV S Z Q)) (hB2 : ∀ (h : Hp) (x3 : Int32), B2 h x3 → G E X 0 0 S Z h 2 [some (vr a0), some (vr a1), some (vi x2), some (vi x3), none, none, none, none] []) : ∀ (n : Nat) (h : Hp) (x7 : Int32), wX6_putState_28 S B2 a0 a1 x2 x3 j4 x6 Q n h x7 → G E X 0 0 S Z h 28 [some (vr a0), some (vr a1), some (vi x2), some (vi x3), some (vj j4), none, some (vi x6), some (vi x7)] [] := by
  intro n
  induction n with
  | zero => intro h x7 hw; exact hw.elim
  | succ n hB28 =>
    intro h x7 hw
    have hw : wX6_putState_28b S B2 a0 a1 x2 x3 j4 x6 Q (wX6_putState_28 S B2 a0 a1 x2 x3 j4 x6 Q n) h x7 := hw
    unfold wX6_putState_28b at hw
    refine g_iload O dX6_putState_28 rfl ?_
    refine g_iload O dX6_putState_30 rfl ?_
    refine g_icmp_ge (tgt := 56) O dX6_putState_32 rfl (fun q32 => ?_) (fun q32 => ?_)
    · have hw := hw.1 q32
      refine g_mask [true, true, true, true, false, false, false, false] rfl rfl ?_
      exact okX6_putState_j56 O hB2 hw
    · have hw := hw.2 q32
      refine g_aload_n O dX6_putState_35 rfl ?_
      refine g_bipush O dX6_putState_36 kb_97 ?_
      refine g_lload O dX6_putState_38 rfl ?_
      refine g_iload O dX6_putState_40 rfl ?_
      refine g_callSN (As := [vj j4, vi x7]) (rest := [vi (97 : Int32), vr a0]) O dX6_putState_42 xw_X6_32 st_yX11_letterOf ini_X11 co_yX11_letterOf yo_yX11_letterOf rfl rfl (Nat.le_of_ble_eq_true rfl) ⟨by decide, by decide, by decide, by decide⟩ (okX11_letterOf hw) (k_I fun r42 h42 hw => ?_)
      refine g_iadd O dX6_putState_45 ?_
      refine g_i2c O dX6_putState_46 ?_
      obtain ⟨c47, hw⟩ := hw
      refine g_callV (As := [vi ((i2c (((97 : Int32) + r42))))]) (rest := []) O ci_6 rfl dX6_putState_47 ml_X6_36 im_yX6_put se_yX6_put ini_X6 co_yX6_put yo_yX6_put c47 rfl rfl (Nat.le_of_ble_eq_true rfl) ⟨by decide, by decide, by decide, by decide⟩ (okX6_put hw) (k_V fun h47 hw => ?_)
      refine g_iinc (lc' := [some (vr a0), some (vr a1), some (vi x2), some (vi x3), some (vj j4), none, some (vi x6), some (vi (x7 + (1 : Int32)))]) O dX6_putState_50 rfl kv_1 rfl rfl ?_
      refine g_goto (tgt := 28) O dX6_putState_53 rfl ?_
      exact hB28 _ _ hw
theorem okX6_putState_2 {E : Ev} {X : Cx} {S : Sh} {Z : Option Nat} {Q : Hp → Prop} {a0 : Nat} {a1 : Nat} {x2 : Int32} (O : Ok E X yX6_putState cX6_putState 8 none 3 70 0 0 (qV S Z Q)) : ∀ (n : Nat) (h : Hp) (x3 : Int32), wX6_putState_2 S a0 a1 x2 Q n h x3 → G E X 0 0 S Z h 2 [some (vr a0), some (vr a1), some (vi x2), some (vi x3), none, none, none, none] [] := by
  intro n
  induction n with
  | zero => intro h x3 hw; exact hw.elim
  | succ n hB2 =>
    intro h x3 hw
    have hw : wX6_putState_2b S a0 a1 x2 Q (wX6_putState_2 S a0 a1 x2 Q n) h x3 := hw
    unfold wX6_putState_2b at hw
    refine g_iload_n O dX6_putState_2 rfl ?_
    refine g_aload_n O dX6_putState_3 rfl ?_
    obtain ⟨c4, hw⟩ := hw
    refine gf_X2_variables O dX6_putState_4 fl_X6_19 c4 ?_
    refine g_icmp_ge (tgt := 84) O dX6_putState_7 rfl (fun q7 => ?_) (fun q7 => ?_)
    · have hw := hw.1 q7
      exact g_return O dX6_putState_84 ⟨rfl, rfl, rfl, hw⟩
    · have hw := hw.2 q7
      refine g_aload_n O dX6_putState_10 rfl ?_
      refine gf_X2_names O dX6_putState_11 fl_X6_24 c4 ?_
      refine g_iload_n O dX6_putState_14 rfl ?_
      obtain ⟨c15, hw⟩ := hw
      refine g_laload O dX6_putState_15 c15.1 c15.2 ?_
      refine g_nmJ (fun jv16 e16 => ?_)
      have hw := hw jv16 e16
      refine g_lstore (lc' := [some (vr a0), some (vr a1), some (vi x2), some (vi x3), some (vj jv16), none, none, none]) O dX6_putState_16 rfl (Nat.le_of_ble_eq_true rfl) rfl ?_
      refine g_lload O dX6_putState_18 rfl ?_
      refine g_callSN (As := [vj jv16]) (rest := []) O dX6_putState_20 xw_X6_28 st_yX11_lengthOf ini_X11 co_yX11_lengthOf yo_yX11_lengthOf rfl rfl (Nat.le_of_ble_eq_true rfl) ⟨by decide, by decide, by decide, by decide⟩ (okX11_lengthOf hw) (k_I fun r20 h20 hw => ?_)
      refine g_istore (lc' := [some (vr a0), some (vr a1), some (vi x2), some (vi x3), some (vj jv16), none, some (vi r20), none]) O dX6_putState_23 rfl (Nat.le_of_ble_eq_true rfl) rfl ?_
      refine g_iconst O dX6_putState_25 kv_0 ?_
      refine g_istore (lc' := [some (vr a0), some (vr a1), some (vi x2), some (vi x3), some (vj jv16), none, some (vi r20), some (vi (0 : Int32))]) O dX6_putState_26 rfl (Nat.le_of_ble_eq_true rfl) rfl ?_
      obtain ⟨n28, hw⟩ := hw
      exact okX6_putState_28 O hB2 n28 _ _ hw
theorem okX6_putState {E : Ev} {S : Sh} {Z : Option Nat} {Q : Hp → Prop} {h : Hp} {a0 : Nat} {a1 : Nat} {x2 : Int32} (hw : wX6_putState S h a0 a1 x2 Q) : Ct E yX6_putState cX6_putState 8 none 3 70 0 0 S Z h [vr a0, vr a1, vi x2] (qV S Z Q) := by
  refine Ct.of (by decide) (lc := [some (vr a0), some (vr a1), some (vi x2), none, none, none, none, none]) (Nat.le_of_ble_eq_true rfl) rfl (fun X O => ?_)
  unfold wX6_putState at hw
  refine g_iconst O dX6_putState_0 kv_0 ?_
  refine g_istore_n (lc' := [some (vr a0), some (vr a1), some (vi x2), some (vi (0 : Int32)), none, none, none, none]) O dX6_putState_1 rfl (Nat.le_of_ble_eq_true rfl) rfl ?_
  obtain ⟨n2, hw⟩ := hw
  exact okX6_putState_2 O n2 _ _ hw
theorem dX6_putText_0 : decode cX6_putText 0 = .ok (.iconst 0, 1) := by decide +kernel
theorem dX6_putText_1 : decode cX6_putText 1 = .ok (.istore_n 2, 1) := by decide +kernel
theorem dX6_putText_2 : decode cX6_putText 2 = .ok (.iload_n 2, 1) := by decide +kernel
theorem dX6_putText_3 : decode cX6_putText 3 = .ok (.aload_n 1, 1) := by decide +kernel
theorem dX6_putText_4 : decode cX6_putText 4 = .ok (.invokevirtual 48, 3) := by decide +kernel
theorem dX6_putText_7 : decode cX6_putText 7 = .ok (.if_icmp .ge 18, 3) := by decide +kernel
theorem dX6_putText_10 : decode cX6_putText 10 = .ok (.aload_n 0, 1) := by decide +kernel
theorem dX6_putText_11 : decode cX6_putText 11 = .ok (.aload_n 1, 1) := by decide +kernel
theorem dX6_putText_12 : decode cX6_putText 12 = .ok (.iload_n 2, 1) := by decide +kernel
theorem dX6_putText_13 : decode cX6_putText 13 = .ok (.invokevirtual 54, 3) := by decide +kernel
theorem dX6_putText_16 : decode cX6_putText 16 = .ok (.invokevirtual 36, 3) := by decide +kernel
theorem dX6_putText_19 : decode cX6_putText 19 = .ok (.iinc 2 1, 3) := by decide +kernel
theorem dX6_putText_22 : decode cX6_putText 22 = .ok (.goto (-20), 3) := by decide +kernel
theorem dX6_putText_25 : decode cX6_putText 25 = .ok (.return_, 1) := by decide +kernel
theorem okX6_putText_2 {E : Ev} {X : Cx} {S : Sh} {Z : Option Nat} {Q : Hp → Prop} {a0 : Nat} {a1 : Nat} (O : Ok E X yX6_putText cX6_putText 3 none 7 281 0 0 (qV S Z Q)) : ∀ (n : Nat) (h : Hp) (x2 : Int32), wX6_putText_2 S (fun i => E.2.2.2.2.1 i + 1) a0 a1 Q n h x2 → G E X 0 0 S Z h 2 [some (vr a0), some (vr a1), some (vi x2)] [] := by
  intro n
  induction n with
  | zero => intro h x2 hw; exact hw.elim
  | succ n hB2 =>
    intro h x2 hw
    have hw : wX6_putText_2b S (fun i => E.2.2.2.2.1 i + 1) a0 a1 Q (wX6_putText_2 S (fun i => E.2.2.2.2.1 i + 1) a0 a1 Q n) h x2 := hw
    unfold wX6_putText_2b at hw
    refine g_iload_n O dX6_putText_2 rfl ?_
    refine g_aload_n O dX6_putText_3 rfl ?_
    refine g_callStr (As := []) (rest := [vi x2]) O dX6_putText_4 ml_X6_48 im_yJ0_length_8abf5 se_yJ0_length_8abf5 ini_J0 co_yJ0_length_8abf5 yo_yJ0_length_8abf5 (okJ0_length_8abf5_i hw) rfl rfl (Nat.le_of_ble_eq_true rfl) ⟨by decide, by decide, by decide, by decide⟩ (okJ0_length_8abf5 hw) (k_I fun r4 h4 hw => ?_)
    refine g_icmp_ge (tgt := 25) O dX6_putText_7 rfl (fun q7 => ?_) (fun q7 => ?_)
    · have hw := hw.1 q7
      exact g_return O dX6_putText_25 ⟨rfl, rfl, rfl, hw⟩
    · have hw := hw.2 q7
      refine g_aload_n O dX6_putText_10 rfl ?_
      refine g_aload_n O dX6_putText_11 rfl ?_
      refine g_iload_n O dX6_putText_12 rfl ?_
      refine g_callStr (As := [vi x2]) (rest := [vr a0]) O dX6_putText_13 ml_X6_54 im_yJ0_charAt_5068e se_yJ0_charAt_5068e ini_J0 co_yJ0_charAt_5068e yo_yJ0_charAt_5068e (okJ0_charAt_5068e_i hw) rfl rfl (Nat.le_of_ble_eq_true rfl) ⟨by decide, by decide, by decide, by decide⟩ (okJ0_charAt_5068e hw) (k_I fun r13 h13 hw => ?_)
      obtain ⟨c16, hw⟩ := hw
      refine g_callV (As := [vi r13]) (rest := []) O ci_6 rfl dX6_putText_16 ml_X6_36 im_yX6_put se_yX6_put ini_X6 co_yX6_put yo_yX6_put c16 rfl rfl (Nat.le_of_ble_eq_true rfl) ⟨by decide, by decide, by decide, by decide⟩ (okX6_put hw) (k_V fun h16 hw => ?_)
      refine g_iinc (lc' := [some (vr a0), some (vr a1), some (vi (x2 + (1 : Int32)))]) O dX6_putText_19 rfl kv_1 rfl rfl ?_
      refine g_goto (tgt := 2) O dX6_putText_22 rfl ?_
      exact hB2 _ _ hw
theorem okX6_putText {E : Ev} {S : Sh} {Z : Option Nat} {Q : Hp → Prop} {h : Hp} {a0 : Nat} {a1 : Nat} (hw : wX6_putText S (fun i => E.2.2.2.2.1 i + 1) h a0 a1 Q) : Ct E yX6_putText cX6_putText 3 none 7 281 0 0 S Z h [vr a0, vr a1] (qV S Z Q) := by
  refine Ct.of (by decide) (lc := [some (vr a0), some (vr a1), none]) (Nat.le_of_ble_eq_true rfl) rfl (fun X O => ?_)
  unfold wX6_putText at hw
  refine g_iconst O dX6_putText_0 kv_0 ?_
  refine g_istore_n (lc' := [some (vr a0), some (vr a1), some (vi (0 : Int32))]) O dX6_putText_1 rfl (Nat.le_of_ble_eq_true rfl) rfl ?_
  obtain ⟨n2, hw⟩ := hw
  exact okX6_putText_2 O n2 _ _ hw
theorem dX7_copy_0 : decode cX7_copy 0 = .ok (.aload_n 0, 1) := by decide +kernel
theorem dX7_copy_1 : decode cX7_copy 1 = .ok (.aload_n 1, 1) := by decide +kernel
theorem dX7_copy_2 : decode cX7_copy 2 = .ok (.getfield 9, 3) := by decide +kernel
theorem dX7_copy_5 : decode cX7_copy 5 = .ok (.putfield 9, 3) := by decide +kernel
theorem dX7_copy_8 : decode cX7_copy 8 = .ok (.aload_n 0, 1) := by decide +kernel
theorem dX7_copy_9 : decode cX7_copy 9 = .ok (.aload_n 1, 1) := by decide +kernel
theorem dX7_copy_10 : decode cX7_copy 10 = .ok (.getfield 15, 3) := by decide +kernel
theorem dX7_copy_13 : decode cX7_copy 13 = .ok (.putfield 15, 3) := by decide +kernel
theorem dX7_copy_16 : decode cX7_copy 16 = .ok (.return_, 1) := by decide +kernel
theorem okX7_copy {E : Ev} {S : Sh} {Z : Option Nat} {Q : Hp → Prop} {h : Hp} {a0 : Nat} {a1 : Nat} (hw : wX7_copy S h a0 a1 Q) : Ct E yX7_copy cX7_copy 2 none 1 24 0 0 S Z h [vr a0, vr a1] (qV S Z Q) := by
  refine Ct.of (by decide) (lc := [some (vr a0), some (vr a1)]) (Nat.le_of_ble_eq_true rfl) rfl (fun X O => ?_)
  unfold wX7_copy at hw
  refine g_aload_n O dX7_copy_0 rfl ?_
  refine g_aload_n O dX7_copy_1 rfl ?_
  obtain ⟨c2, hw⟩ := hw
  refine gf_X7_low O dX7_copy_2 fl_X7_9 c2 ?_
  obtain ⟨c5, hw⟩ := hw
  refine pf_X7_low O dX7_copy_5 fl_X7_9 c5 ?_
  refine g_nmH (fun h5 e5 => ?_)
  have hw := hw h5 e5
  refine g_aload_n O dX7_copy_8 rfl ?_
  refine g_aload_n O dX7_copy_9 rfl ?_
  refine gf_X7_high O dX7_copy_10 fl_X7_15 c2 ?_
  refine pf_X7_high O dX7_copy_13 fl_X7_15 c5 ?_
  exact g_return O dX7_copy_16 ⟨rfl, rfl, rfl, hw⟩
theorem dX7_keepOnly_0 : decode cX7_keepOnly 0 = .ok (.aload_n 0, 1) := by decide +kernel
theorem dX7_keepOnly_1 : decode cX7_keepOnly 1 = .ok (.dup, 1) := by decide +kernel
theorem dX7_keepOnly_2 : decode cX7_keepOnly 2 = .ok (.getfield 9, 3) := by decide +kernel
theorem dX7_keepOnly_5 : decode cX7_keepOnly 5 = .ok (.aload_n 1, 1) := by decide +kernel
theorem dX7_keepOnly_6 : decode cX7_keepOnly 6 = .ok (.getfield 9, 3) := by decide +kernel
theorem dX7_keepOnly_9 : decode cX7_keepOnly 9 = .ok (.land, 1) := by decide +kernel
theorem dX7_keepOnly_10 : decode cX7_keepOnly 10 = .ok (.putfield 9, 3) := by decide +kernel
theorem dX7_keepOnly_13 : decode cX7_keepOnly 13 = .ok (.aload_n 0, 1) := by decide +kernel
theorem dX7_keepOnly_14 : decode cX7_keepOnly 14 = .ok (.dup, 1) := by decide +kernel
theorem dX7_keepOnly_15 : decode cX7_keepOnly 15 = .ok (.getfield 15, 3) := by decide +kernel
theorem dX7_keepOnly_18 : decode cX7_keepOnly 18 = .ok (.aload_n 1, 1) := by decide +kernel
theorem dX7_keepOnly_19 : decode cX7_keepOnly 19 = .ok (.getfield 15, 3) := by decide +kernel
theorem dX7_keepOnly_22 : decode cX7_keepOnly 22 = .ok (.land, 1) := by decide +kernel
theorem dX7_keepOnly_23 : decode cX7_keepOnly 23 = .ok (.putfield 15, 3) := by decide +kernel
theorem dX7_keepOnly_26 : decode cX7_keepOnly 26 = .ok (.return_, 1) := by decide +kernel
theorem okX7_keepOnly {E : Ev} {S : Sh} {Z : Option Nat} {Q : Hp → Prop} {h : Hp} {a0 : Nat} {a1 : Nat} (hw : wX7_keepOnly S h a0 a1 Q) : Ct E yX7_keepOnly cX7_keepOnly 2 none 1 24 0 0 S Z h [vr a0, vr a1] (qV S Z Q) := by
  refine Ct.of (by decide) (lc := [some (vr a0), some (vr a1)]) (Nat.le_of_ble_eq_true rfl) rfl (fun X O => ?_)
  unfold wX7_keepOnly at hw
  refine g_aload_n O dX7_keepOnly_0 rfl ?_
  refine g_dup O dX7_keepOnly_1 rfl ?_
  obtain ⟨c2, hw⟩ := hw
  refine gf_X7_low O dX7_keepOnly_2 fl_X7_9 c2 ?_
  refine g_aload_n O dX7_keepOnly_5 rfl ?_
  obtain ⟨c6, hw⟩ := hw
  refine gf_X7_low O dX7_keepOnly_6 fl_X7_9 c6 ?_
  refine g_land O dX7_keepOnly_9 ?_
  refine pf_X7_low O dX7_keepOnly_10 fl_X7_9 c2 ?_
  refine g_nmH (fun h10 e10 => ?_)
  have hw := hw h10 e10
  refine g_aload_n O dX7_keepOnly_13 rfl ?_
  refine g_dup O dX7_keepOnly_14 rfl ?_
  refine gf_X7_high O dX7_keepOnly_15 fl_X7_15 c2 ?_
  refine g_aload_n O dX7_keepOnly_18 rfl ?_
  refine gf_X7_high O dX7_keepOnly_19 fl_X7_15 c6 ?_
  refine g_land O dX7_keepOnly_22 ?_
  refine pf_X7_high O dX7_keepOnly_23 fl_X7_15 c2 ?_
  exact g_return O dX7_keepOnly_26 ⟨rfl, rfl, rfl, hw⟩
theorem dX7_member_0 : decode cX7_member 0 = .ok (.iload_n 1, 1) := by decide +kernel
theorem dX7_member_1 : decode cX7_member 1 = .ok (.istore_n 2, 1) := by decide +kernel
theorem dX7_member_2 : decode cX7_member 2 = .ok (.iconst 0, 1) := by decide +kernel
theorem dX7_member_3 : decode cX7_member 3 = .ok (.istore_n 3, 1) := by decide +kernel
theorem dX7_member_4 : decode cX7_member 4 = .ok (.iload_n 3, 1) := by decide +kernel
theorem dX7_member_5 : decode cX7_member 5 = .ok (.bipush 100, 2) := by decide +kernel
theorem dX7_member_7 : decode cX7_member 7 = .ok (.if_icmp .ge 26, 3) := by decide +kernel
theorem dX7_member_10 : decode cX7_member 10 = .ok (.aload_n 0, 1) := by decide +kernel
theorem dX7_member_11 : decode cX7_member 11 = .ok (.iload_n 3, 1) := by decide +kernel
theorem dX7_member_12 : decode cX7_member 12 = .ok (.invokevirtual 24, 3) := by decide +kernel
theorem dX7_member_15 : decode cX7_member 15 = .ok (.ifCond .eq 12, 3) := by decide +kernel
theorem dX7_member_18 : decode cX7_member 18 = .ok (.iload_n 2, 1) := by decide +kernel
theorem dX7_member_19 : decode cX7_member 19 = .ok (.ifCond .ne 5, 3) := by decide +kernel
theorem dX7_member_22 : decode cX7_member 22 = .ok (.iload_n 3, 1) := by decide +kernel
theorem dX7_member_23 : decode cX7_member 23 = .ok (.ireturn, 1) := by decide +kernel
theorem dX7_member_24 : decode cX7_member 24 = .ok (.iinc 2 (-1), 3) := by decide +kernel
theorem dX7_member_27 : decode cX7_member 27 = .ok (.iinc 3 1, 3) := by decide +kernel
theorem dX7_member_30 : decode cX7_member 30 = .ok (.goto (-26), 3) := by decide +kernel
theorem dX7_member_33 : decode cX7_member 33 = .ok (.bipush (-2), 2) := by decide +kernel
theorem dX7_member_35 : decode cX7_member 35 = .ok (.ireturn, 1) := by decide +kernel
theorem okX7_member_4 {E : Ev} {X : Cx} {S : Sh} {Z : Option Nat} {Q : Int32 → Hp → Prop} {a0 : Nat} (O : Ok E X yX7_member cX7_member 4 (some .int) 2 47 0 0 (qI S Z Q)) : ∀ (n : Nat) (h : Hp) (x2 : Int32) (x3 : Int32), wX7_member_4 S a0 Q n h x2 x3 → G E X 0 0 S Z h 4 [some (vr a0), none, some (vi x2), some (vi x3)] [] := by
  intro n
  induction n with
  | zero => intro h x2 x3 hw; exact hw.elim
  | succ n hB4 =>
    intro h x2 x3 hw
    have hw : wX7_member_4b S a0 Q (wX7_member_4 S a0 Q n) h x2 x3 := hw
    unfold wX7_member_4b at hw
    refine g_iload_n O dX7_member_4 rfl ?_
    refine g_bipush O dX7_member_5 kb_100 ?_
    refine g_icmp_ge (tgt := 33) O dX7_member_7 rfl (fun q7 => ?_) (fun q7 => ?_)
    · have hw := hw.1 q7
      refine g_bipush O dX7_member_33 kb_m2 ?_
      exact g_ireturn O dX7_member_35 ⟨rfl, rfl, _, rfl, hw⟩
    · have hw := hw.2 q7
      refine g_aload_n O dX7_member_10 rfl ?_
      refine g_iload_n O dX7_member_11 rfl ?_
      obtain ⟨c12, hw⟩ := hw
      refine g_callV (As := [vi x3]) (rest := []) O ci_7 rfl dX7_member_12 ml_X7_24 im_yX7_has se_yX7_has ini_X7 co_yX7_has yo_yX7_has c12 rfl rfl (Nat.le_of_ble_eq_true rfl) ⟨by decide, by decide, by decide, by decide⟩ (okX7_has hw) (k_I fun r12 h12 hw => ?_)
      refine g_if_eq (tgt := 27) O dX7_member_15 rfl (fun q15 => ?_) (fun q15 => ?_)
      · have hw := hw.1 q15
        refine g_iinc (lc' := [some (vr a0), none, some (vi x2), some (vi (x3 + (1 : Int32)))]) O dX7_member_27 rfl kv_1 rfl rfl ?_
        refine g_goto (tgt := 4) O dX7_member_30 rfl ?_
        exact hB4 _ _ _ hw
      · have hw := hw.2 q15
        refine g_iload_n O dX7_member_18 rfl ?_
        refine g_if_ne (tgt := 24) O dX7_member_19 rfl (fun q19 => ?_) (fun q19 => ?_)
        · have hw := hw.1 q19
          refine g_iinc (lc' := [some (vr a0), none, some (vi (x2 + (-1 : Int32))), some (vi x3)]) O dX7_member_24 rfl kv_m1 rfl rfl ?_
          refine g_iinc (lc' := [some (vr a0), none, some (vi (x2 + (-1 : Int32))), some (vi (x3 + (1 : Int32)))]) O dX7_member_27 rfl kv_1 rfl rfl ?_
          refine g_goto (tgt := 4) O dX7_member_30 rfl ?_
          exact hB4 _ _ _ hw
        · have hw := hw.2 q19
          refine g_iload_n O dX7_member_22 rfl ?_
          exact g_ireturn O dX7_member_23 ⟨rfl, rfl, _, rfl, hw⟩
theorem okX7_member {E : Ev} {S : Sh} {Z : Option Nat} {Q : Int32 → Hp → Prop} {h : Hp} {a0 : Nat} {x1 : Int32} (hw : wX7_member S h a0 x1 Q) : Ct E yX7_member cX7_member 4 (some .int) 2 47 0 0 S Z h [vr a0, vi x1] (qI S Z Q) := by
  refine Ct.of (by decide) (lc := [some (vr a0), some (vi x1), none, none]) (Nat.le_of_ble_eq_true rfl) rfl (fun X O => ?_)
  unfold wX7_member at hw
  refine g_iload_n O dX7_member_0 rfl ?_
  refine g_istore_n (lc' := [some (vr a0), some (vi x1), some (vi x1), none]) O dX7_member_1 rfl (Nat.le_of_ble_eq_true rfl) rfl ?_
  refine g_iconst O dX7_member_2 kv_0 ?_
  refine g_istore_n (lc' := [some (vr a0), some (vi x1), some (vi x1), some (vi (0 : Int32))]) O dX7_member_3 rfl (Nat.le_of_ble_eq_true rfl) rfl ?_
  refine g_mask [true, false, true, true] rfl rfl ?_
  obtain ⟨n4, hw⟩ := hw
  exact okX7_member_4 O n4 _ _ _ hw
theorem dX10_begin_0 : decode cX10_begin 0 = .ok (.aload_n 0, 1) := by decide +kernel
theorem dX10_begin_1 : decode cX10_begin 1 = .ok (.iload_n 2, 1) := by decide +kernel
theorem dX10_begin_2 : decode cX10_begin 2 = .ok (.putfield 21, 3) := by decide +kernel
theorem dX10_begin_5 : decode cX10_begin 5 = .ok (.aload_n 0, 1) := by decide +kernel
theorem dX10_begin_6 : decode cX10_begin 6 = .ok (.aload_n 1, 1) := by decide +kernel
theorem dX10_begin_7 : decode cX10_begin 7 = .ok (.getfield 25, 3) := by decide +kernel
theorem dX10_begin_10 : decode cX10_begin 10 = .ok (.iload_n 2, 1) := by decide +kernel
theorem dX10_begin_11 : decode cX10_begin 11 = .ok (.aaload, 1) := by decide +kernel
theorem dX10_begin_12 : decode cX10_begin 12 = .ok (.invokevirtual 31, 3) := by decide +kernel
theorem dX10_begin_15 : decode cX10_begin 15 = .ok (.putfield 37, 3) := by decide +kernel
theorem dX10_begin_18 : decode cX10_begin 18 = .ok (.aload_n 0, 1) := by decide +kernel
theorem dX10_begin_19 : decode cX10_begin 19 = .ok (.iconst 0, 1) := by decide +kernel
theorem dX10_begin_20 : decode cX10_begin 20 = .ok (.putfield 40, 3) := by decide +kernel
theorem dX10_begin_23 : decode cX10_begin 23 = .ok (.aload_n 0, 1) := by decide +kernel
theorem dX10_begin_24 : decode cX10_begin 24 = .ok (.getfield 12, 3) := by decide +kernel
theorem dX10_begin_27 : decode cX10_begin 27 = .ok (.invokevirtual 43, 3) := by decide +kernel
theorem dX10_begin_30 : decode cX10_begin 30 = .ok (.iload_n 2, 1) := by decide +kernel
theorem dX10_begin_31 : decode cX10_begin 31 = .ok (.ifCond .le 42, 3) := by decide +kernel
theorem dX10_begin_34 : decode cX10_begin 34 = .ok (.aload_n 0, 1) := by decide +kernel
theorem dX10_begin_35 : decode cX10_begin 35 = .ok (.getfield 12, 3) := by decide +kernel
theorem dX10_begin_38 : decode cX10_begin 38 = .ok (.aload_n 1, 1) := by decide +kernel
theorem dX10_begin_39 : decode cX10_begin 39 = .ok (.getfield 25, 3) := by decide +kernel
theorem dX10_begin_42 : decode cX10_begin 42 = .ok (.iload_n 2, 1) := by decide +kernel
theorem dX10_begin_43 : decode cX10_begin 43 = .ok (.iconst 1, 1) := by decide +kernel
theorem dX10_begin_44 : decode cX10_begin 44 = .ok (.isub, 1) := by decide +kernel
theorem dX10_begin_45 : decode cX10_begin 45 = .ok (.aaload, 1) := by decide +kernel
theorem dX10_begin_46 : decode cX10_begin 46 = .ok (.invokevirtual 31, 3) := by decide +kernel
theorem dX10_begin_49 : decode cX10_begin 49 = .ok (.invokevirtual 46, 3) := by decide +kernel
theorem dX10_begin_52 : decode cX10_begin 52 = .ok (.aload_n 0, 1) := by decide +kernel
theorem dX10_begin_53 : decode cX10_begin 53 = .ok (.getfield 12, 3) := by decide +kernel
theorem dX10_begin_56 : decode cX10_begin 56 = .ok (.aload_n 1, 1) := by decide +kernel
theorem dX10_begin_57 : decode cX10_begin 57 = .ok (.getfield 25, 3) := by decide +kernel
theorem dX10_begin_60 : decode cX10_begin 60 = .ok (.iload_n 2, 1) := by decide +kernel
theorem dX10_begin_61 : decode cX10_begin 61 = .ok (.aaload, 1) := by decide +kernel
theorem dX10_begin_62 : decode cX10_begin 62 = .ok (.getfield 50, 3) := by decide +kernel
theorem dX10_begin_65 : decode cX10_begin 65 = .ok (.aload_n 0, 1) := by decide +kernel
theorem dX10_begin_66 : decode cX10_begin 66 = .ok (.getfield 37, 3) := by decide +kernel
theorem dX10_begin_69 : decode cX10_begin 69 = .ok (.aaload, 1) := by decide +kernel
theorem dX10_begin_70 : decode cX10_begin 70 = .ok (.invokevirtual 54, 3) := by decide +kernel
theorem dX10_begin_73 : decode cX10_begin 73 = .ok (.return_, 1) := by decide +kernel
theorem okX10_begin {E : Ev} {S : Sh} {Z : Option Nat} {Q : Hp → Prop} {h : Hp} {a0 : Nat} {a1 : Nat} {x2 : Int32} (hw : wX10_begin S h a0 a1 x2 Q) : Ct E yX10_begin cX10_begin 3 none 4 90 0 0 S Z h [vr a0, vr a1, vi x2] (qV S Z Q) := by
  refine Ct.of (by decide) (lc := [some (vr a0), some (vr a1), some (vi x2)]) (Nat.le_of_ble_eq_true rfl) rfl (fun X O => ?_)
  unfold wX10_begin at hw
  refine g_aload_n O dX10_begin_0 rfl ?_
  refine g_iload_n O dX10_begin_1 rfl ?_
  obtain ⟨c2, hw⟩ := hw
  refine pf_X10_number O dX10_begin_2 fl_X10_21 c2 ?_
  refine g_nmH (fun h2 e2 => ?_)
  have hw := hw h2 e2
  refine g_aload_n O dX10_begin_5 rfl ?_
  refine g_aload_n O dX10_begin_6 rfl ?_
  obtain ⟨c7, hw⟩ := hw
  refine gf_X3_machines O dX10_begin_7 fl_X10_25 c7 ?_
  refine g_iload_n O dX10_begin_10 rfl ?_
  obtain ⟨c11, hw⟩ := hw
  refine g_aaload (t := 1) (C := "FinerSteps$Machine") O rfl dX10_begin_11 c11.1 c11.2 ?_
  obtain ⟨c12, hw⟩ := hw
  refine g_callV (As := []) (rest := [vr a0]) O ci_2 rfl dX10_begin_12 ml_X10_31 im_yX2_beginState se_yX2_beginState ini_X2 co_yX2_beginState yo_yX2_beginState c12 rfl rfl (Nat.le_of_ble_eq_true rfl) ⟨by decide, by decide, by decide, by decide⟩ (okX2_beginState hw) (k_I fun r12 h12 hw => ?_)
  refine pf_X10_state O dX10_begin_15 fl_X10_37 c2 ?_
  refine g_nmH (fun h15 e15 => ?_)
  have hw := hw h15 e15
  refine g_aload_n O dX10_begin_18 rfl ?_
  refine g_iconst O dX10_begin_19 kv_0 ?_
  refine pf_X10_made O dX10_begin_20 fl_X10_40 c2 ?_
  refine g_nmH (fun h20 e20 => ?_)
  have hw := hw h20 e20
  refine g_aload_n O dX10_begin_23 rfl ?_
  refine gf_X10_near O dX10_begin_24 fl_X10_12 c2 ?_
  obtain ⟨c27, hw⟩ := hw
  refine g_callV (As := []) (rest := []) O ci_7 rfl dX10_begin_27 ml_X10_43 im_yX7_clear se_yX7_clear ini_X7 co_yX7_clear yo_yX7_clear c27 rfl rfl (Nat.le_of_ble_eq_true rfl) ⟨by decide, by decide, by decide, by decide⟩ (okX7_clear hw) (k_V fun h27 hw => ?_)
  refine g_iload_n O dX10_begin_30 rfl ?_
  refine g_if_le (tgt := 73) O dX10_begin_31 rfl (fun q31 => ?_) (fun q31 => ?_)
  · have hw := hw.1 q31
    exact g_return O dX10_begin_73 ⟨rfl, rfl, rfl, hw⟩
  · have hw := hw.2 q31
    refine g_aload_n O dX10_begin_34 rfl ?_
    refine gf_X10_near O dX10_begin_35 fl_X10_12 c2 ?_
    refine g_aload_n O dX10_begin_38 rfl ?_
    refine gf_X3_machines O dX10_begin_39 fl_X10_25 c7 ?_
    refine g_iload_n O dX10_begin_42 rfl ?_
    refine g_iconst O dX10_begin_43 kv_1 ?_
    refine g_isub O dX10_begin_44 ?_
    obtain ⟨c45, hw⟩ := hw
    refine g_aaload (t := 1) (C := "FinerSteps$Machine") O rfl dX10_begin_45 c45.1 c45.2 ?_
    obtain ⟨c46, hw⟩ := hw
    refine g_callV (As := []) (rest := [vr (gR h27 a0 0)]) O ci_2 rfl dX10_begin_46 ml_X10_31 im_yX2_beginState se_yX2_beginState ini_X2 co_yX2_beginState yo_yX2_beginState c46 rfl rfl (Nat.le_of_ble_eq_true rfl) ⟨by decide, by decide, by decide, by decide⟩ (okX2_beginState hw) (k_I fun r46 h46 hw => ?_)
    obtain ⟨c49, hw⟩ := hw
    refine g_callV (As := [vi r46]) (rest := []) O ci_7 rfl dX10_begin_49 ml_X10_46 im_yX7_put se_yX7_put ini_X7 co_yX7_put yo_yX7_put c49 rfl rfl (Nat.le_of_ble_eq_true rfl) ⟨by decide, by decide, by decide, by decide⟩ (okX7_put hw) (k_V fun h49 hw => ?_)
    refine g_aload_n O dX10_begin_52 rfl ?_
    refine gf_X10_near O dX10_begin_53 fl_X10_12 c2 ?_
    refine g_aload_n O dX10_begin_56 rfl ?_
    refine gf_X3_machines O dX10_begin_57 fl_X10_25 c7 ?_
    refine g_iload_n O dX10_begin_60 rfl ?_
    obtain ⟨c61, hw⟩ := hw
    refine g_aaload (t := 1) (C := "FinerSteps$Machine") O rfl dX10_begin_61 c61.1 c61.2 ?_
    obtain ⟨c62, hw⟩ := hw
    refine gf_X2_glue O dX10_begin_62 fl_X10_50 c62 ?_
    refine g_aload_n O dX10_begin_65 rfl ?_
    refine gf_X10_state O dX10_begin_66 fl_X10_37 c2 ?_
    obtain ⟨c69, hw⟩ := hw
    refine g_aaload (t := 2) (C := "FinerSteps$StateSet") O rfl dX10_begin_69 c69.1 c69.2 ?_
    obtain ⟨c70, hw⟩ := hw
    refine g_callV (As := [vr ((gR h49 ((gR h49 ((gR h49 (gR h49 a1 0) (ix x2))) 7)) (ix (gI h49 a0 3))))]) (rest := []) O ci_7 rfl dX10_begin_70 ml_X10_54 im_yX7_keepOnly se_yX7_keepOnly ini_X7 co_yX7_keepOnly yo_yX7_keepOnly c70 rfl rfl (Nat.le_of_ble_eq_true rfl) ⟨by decide, by decide, by decide, by decide⟩ (okX7_keepOnly hw) (k_V fun h70 hw => ?_)
    exact g_return O dX10_begin_73 ⟨rfl, rfl, rfl, hw⟩
theorem dX10_countChoices_0 : decode cX10_countChoices 0 = .ok (.iconst 0, 1) := by decide +kernel
theorem dX10_countChoices_1 : decode cX10_countChoices 1 = .ok (.istore_n 2, 1) := by decide +kernel
theorem dX10_countChoices_2 : decode cX10_countChoices 2 = .ok (.iconst 0, 1) := by decide +kernel
theorem dX10_countChoices_3 : decode cX10_countChoices 3 = .ok (.istore_n 3, 1) := by decide +kernel
theorem dX10_countChoices_4 : decode cX10_countChoices 4 = .ok (.iload_n 3, 1) := by decide +kernel
theorem dX10_countChoices_5 : decode cX10_countChoices 5 = .ok (.aload_n 1, 1) := by decide +kernel
theorem dX10_countChoices_6 : decode cX10_countChoices 6 = .ok (.getfield 101, 3) := by decide +kernel
theorem dX10_countChoices_9 : decode cX10_countChoices 9 = .ok (.if_icmp .ge 28, 3) := by decide +kernel
theorem dX10_countChoices_12 : decode cX10_countChoices 12 = .ok (.iload_n 2, 1) := by decide +kernel
theorem dX10_countChoices_13 : decode cX10_countChoices 13 = .ok (.aload_n 1, 1) := by decide +kernel
theorem dX10_countChoices_14 : decode cX10_countChoices 14 = .ok (.getfield 58, 3) := by decide +kernel
theorem dX10_countChoices_17 : decode cX10_countChoices 17 = .ok (.iload_n 3, 1) := by decide +kernel
theorem dX10_countChoices_18 : decode cX10_countChoices 18 = .ok (.aaload, 1) := by decide +kernel
theorem dX10_countChoices_19 : decode cX10_countChoices 19 = .ok (.aload_n 0, 1) := by decide +kernel
theorem dX10_countChoices_20 : decode cX10_countChoices 20 = .ok (.getfield 37, 3) := by decide +kernel
theorem dX10_countChoices_23 : decode cX10_countChoices 23 = .ok (.invokevirtual 104, 3) := by decide +kernel
theorem dX10_countChoices_26 : decode cX10_countChoices 26 = .ok (.invokestatic 108, 3) := by decide +kernel
theorem dX10_countChoices_29 : decode cX10_countChoices 29 = .ok (.iadd, 1) := by decide +kernel
theorem dX10_countChoices_30 : decode cX10_countChoices 30 = .ok (.istore_n 2, 1) := by decide +kernel
theorem dX10_countChoices_31 : decode cX10_countChoices 31 = .ok (.iinc 3 1, 3) := by decide +kernel
theorem dX10_countChoices_34 : decode cX10_countChoices 34 = .ok (.goto (-30), 3) := by decide +kernel
theorem dX10_countChoices_37 : decode cX10_countChoices 37 = .ok (.iload_n 2, 1) := by decide +kernel
theorem dX10_countChoices_38 : decode cX10_countChoices 38 = .ok (.ireturn, 1) := by decide +kernel
theorem okX10_countChoices_4 {E : Ev} {X : Cx} {S : Sh} {Z : Option Nat} {Q : Int32 → Hp → Prop} {a0 : Nat} {a1 : Nat} (O : Ok E X yX10_countChoices cX10_countChoices 4 (some .int) 2 45 0 0 (qI S Z Q)) : ∀ (n : Nat) (h : Hp) (x2 : Int32) (x3 : Int32), wX10_countChoices_4 S a0 a1 Q n h x2 x3 → G E X 0 0 S Z h 4 [some (vr a0), some (vr a1), some (vi x2), some (vi x3)] [] := by
  intro n
  induction n with
  | zero => intro h x2 x3 hw; exact hw.elim
  | succ n hB4 =>
    intro h x2 x3 hw
    have hw : wX10_countChoices_4b S a0 a1 Q (wX10_countChoices_4 S a0 a1 Q n) h x2 x3 := hw
    unfold wX10_countChoices_4b at hw
    refine g_iload_n O dX10_countChoices_4 rfl ?_
    refine g_aload_n O dX10_countChoices_5 rfl ?_
    obtain ⟨c6, hw⟩ := hw
    refine gf_X2_events O dX10_countChoices_6 fl_X10_101 c6 ?_
    refine g_icmp_ge (tgt := 37) O dX10_countChoices_9 rfl (fun q9 => ?_) (fun q9 => ?_)
    · have hw := hw.1 q9
      refine g_iload_n O dX10_countChoices_37 rfl ?_
      exact g_ireturn O dX10_countChoices_38 ⟨rfl, rfl, _, rfl, hw⟩
    · have hw := hw.2 q9
      refine g_iload_n O dX10_countChoices_12 rfl ?_
      refine g_aload_n O dX10_countChoices_13 rfl ?_
      refine gf_X2_event O dX10_countChoices_14 fl_X10_58 c6 ?_
      refine g_iload_n O dX10_countChoices_17 rfl ?_
      obtain ⟨c18, hw⟩ := hw
      refine g_aaload (t := 0) (C := "FinerSteps$Event") O rfl dX10_countChoices_18 c18.1 c18.2 ?_
      refine g_aload_n O dX10_countChoices_19 rfl ?_
      obtain ⟨c20, hw⟩ := hw
      refine gf_X10_state O dX10_countChoices_20 fl_X10_37 c20 ?_
      obtain ⟨c23, hw⟩ := hw
      refine g_callV (As := [vi (gI h a0 3)]) (rest := [vi x2]) O ci_0 rfl dX10_countChoices_23 ml_X10_104 im_yX0_stepsAt se_yX0_stepsAt ini_X0 co_yX0_stepsAt yo_yX0_stepsAt c23 rfl rfl (Nat.le_of_ble_eq_true rfl) ⟨by decide, by decide, by decide, by decide⟩ (okX0_stepsAt hw) (k_I fun r23 h23 hw => ?_)
      refine g_callS (As := [vi r23]) (rest := [vi x2]) O dX10_countChoices_26 ml_X10_108 st_yJ6_bitCount_0f7a4 ini_J6 co_yJ6_bitCount_0f7a4 yo_yJ6_bitCount_0f7a4 rfl rfl (Nat.le_of_ble_eq_true rfl) ⟨by decide, by decide, by decide, by decide⟩ (okJ6_bitCount_0f7a4 hw) (k_I fun r26 h26 hw => ?_)
      refine g_iadd O dX10_countChoices_29 ?_
      refine g_istore_n (lc' := [some (vr a0), some (vr a1), some (vi (x2 + r26)), some (vi x3)]) O dX10_countChoices_30 rfl (Nat.le_of_ble_eq_true rfl) rfl ?_
      refine g_iinc (lc' := [some (vr a0), some (vr a1), some (vi (x2 + r26)), some (vi (x3 + (1 : Int32)))]) O dX10_countChoices_31 rfl kv_1 rfl rfl ?_
      refine g_goto (tgt := 4) O dX10_countChoices_34 rfl ?_
      exact hB4 _ _ _ hw
theorem okX10_countChoices {E : Ev} {S : Sh} {Z : Option Nat} {Q : Int32 → Hp → Prop} {h : Hp} {a0 : Nat} {a1 : Nat} (hw : wX10_countChoices S h a0 a1 Q) : Ct E yX10_countChoices cX10_countChoices 4 (some .int) 2 45 0 0 S Z h [vr a0, vr a1] (qI S Z Q) := by
  refine Ct.of (by decide) (lc := [some (vr a0), some (vr a1), none, none]) (Nat.le_of_ble_eq_true rfl) rfl (fun X O => ?_)
  unfold wX10_countChoices at hw
  refine g_iconst O dX10_countChoices_0 kv_0 ?_
  refine g_istore_n (lc' := [some (vr a0), some (vr a1), some (vi (0 : Int32)), none]) O dX10_countChoices_1 rfl (Nat.le_of_ble_eq_true rfl) rfl ?_
  refine g_iconst O dX10_countChoices_2 kv_0 ?_
  refine g_istore_n (lc' := [some (vr a0), some (vr a1), some (vi (0 : Int32)), some (vi (0 : Int32))]) O dX10_countChoices_3 rfl (Nat.le_of_ble_eq_true rfl) rfl ?_
  obtain ⟨n4, hw⟩ := hw
  exact okX10_countChoices_4 O n4 _ _ _ hw
theorem dX10_end_0 : decode cX10_end 0 = .ok (.aload_n 0, 1) := by decide +kernel
theorem dX10_end_1 : decode cX10_end 1 = .ok (.iconst (-1), 1) := by decide +kernel
theorem dX10_end_2 : decode cX10_end 2 = .ok (.putfield 21, 3) := by decide +kernel
theorem dX10_end_5 : decode cX10_end 5 = .ok (.return_, 1) := by decide +kernel
theorem okX10_end {E : Ev} {S : Sh} {Z : Option Nat} {Q : Hp → Prop} {h : Hp} {a0 : Nat} (hw : wX10_end S h a0 Q) : Ct E yX10_end cX10_end 1 none 1 24 0 0 S Z h [vr a0] (qV S Z Q) := by
  refine Ct.of (by decide) (lc := [some (vr a0)]) (Nat.le_of_ble_eq_true rfl) rfl (fun X O => ?_)
  unfold wX10_end at hw
  refine g_aload_n O dX10_end_0 rfl ?_
  refine g_iconst O dX10_end_1 kv_m1 ?_
  obtain ⟨c2, hw⟩ := hw
  refine pf_X10_number O dX10_end_2 fl_X10_21 c2 ?_
  exact g_return O dX10_end_5 ⟨rfl, rfl, rfl, hw⟩
theorem dX10_init_0 : decode cX10_init 0 = .ok (.aload_n 0, 1) := by decide +kernel
theorem dX10_init_1 : decode cX10_init 1 = .ok (.invokespecial 3, 3) := by decide +kernel
theorem dX10_init_4 : decode cX10_init 4 = .ok (.aload_n 0, 1) := by decide +kernel
theorem dX10_init_5 : decode cX10_init 5 = .ok (.new 9, 3) := by decide +kernel
theorem dX10_init_8 : decode cX10_init 8 = .ok (.dup, 1) := by decide +kernel
theorem dX10_init_9 : decode cX10_init 9 = .ok (.invokespecial 11, 3) := by decide +kernel
theorem dX10_init_12 : decode cX10_init 12 = .ok (.putfield 12, 3) := by decide +kernel
theorem dX10_init_15 : decode cX10_init 15 = .ok (.aload_n 0, 1) := by decide +kernel
theorem dX10_init_16 : decode cX10_init 16 = .ok (.new 9, 3) := by decide +kernel
theorem dX10_init_19 : decode cX10_init 19 = .ok (.dup, 1) := by decide +kernel
theorem dX10_init_20 : decode cX10_init 20 = .ok (.invokespecial 11, 3) := by decide +kernel
theorem dX10_init_23 : decode cX10_init 23 = .ok (.putfield 18, 3) := by decide +kernel
theorem dX10_init_26 : decode cX10_init 26 = .ok (.aload_n 0, 1) := by decide +kernel
theorem dX10_init_27 : decode cX10_init 27 = .ok (.iconst (-1), 1) := by decide +kernel
theorem dX10_init_28 : decode cX10_init 28 = .ok (.putfield 21, 3) := by decide +kernel
theorem dX10_init_31 : decode cX10_init 31 = .ok (.return_, 1) := by decide +kernel
theorem okX10_init {E : Ev} {Q : Sh → Nat → Hp → Prop} {S : Sh} {z : Nat} {h : Hp} {a0 : Nat} (hw : wX10_init S z h a0 Q) : Ct E yX10_init cX10_init 1 none 2 44 2 4 S (some z) h [vr a0] (qA Q) := by
  refine Ct.of (by decide) (lc := [some (vr a0)]) (Nat.le_of_ble_eq_true rfl) rfl (fun X O => ?_)
  unfold wX10_init at hw
  refine g_aload_n O dX10_init_0 rfl ?_
  obtain ⟨c1, hw⟩ := hw
  refine g_objInit O dX10_init_1 ml_X10_3 c1 rfl rfl (Nat.le_of_ble_eq_true rfl) ⟨by decide, by decide⟩ ?_
  refine g_aload_n O dX10_init_4 rfl ?_
  obtain ⟨c5a, hw⟩ := hw
  obtain ⟨c5b, c5c, hw⟩ := hw
  refine g_new O ci_7 fd_X7 dX10_init_5 cl_X10_9 ins_X7 ini_X7 c5a c5b c5c ?_
  refine g_dup O dX10_init_8 rfl ?_
  obtain ⟨c9m, hw⟩ := hw
  obtain ⟨c9n, hw⟩ := hw
  obtain ⟨c9, hw⟩ := hw
  refine g_callIN (As := []) (rest := [vr z, vr a0]) O rfl dX10_init_9 xw_X10_11 im_yX7_init ini_X7 co_yX7_init yo_yX7_init c9 rfl rfl (Nat.le_of_ble_eq_true rfl) ⟨by decide, by decide, c9m, c9n⟩ (okX7_init hw) (k_V fun h9 hw => ?_)
  obtain ⟨c12, hw⟩ := hw
  refine pf_X10_near O rfl rfl dX10_init_12 fl_X10_12 c12 ?_
  refine g_nmH (fun h12 e12 => ?_)
  have hw := hw h12 e12
  refine g_aload_n O dX10_init_15 rfl ?_
  obtain ⟨c16a, hw⟩ := hw
  obtain ⟨c16b, c16c, hw⟩ := hw
  refine g_new O ci_7 fd_X7 dX10_init_16 cl_X10_9 ins_X7 ini_X7 c16a c16b c16c ?_
  refine g_dup O dX10_init_19 rfl ?_
  obtain ⟨c20m, hw⟩ := hw
  obtain ⟨c20n, hw⟩ := hw
  obtain ⟨c20, hw⟩ := hw
  refine g_callIN (As := []) (rest := [vr (z + 1), vr a0]) O rfl dX10_init_20 xw_X10_11 im_yX7_init ini_X7 co_yX7_init yo_yX7_init c20 rfl rfl (Nat.le_of_ble_eq_true rfl) ⟨by decide, by decide, c20m, c20n⟩ (okX7_init hw) (k_V fun h20 hw => ?_)
  obtain ⟨c23, hw⟩ := hw
  refine pf_X10_image O rfl rfl dX10_init_23 fl_X10_18 c23 ?_
  refine g_nmH (fun h23 e23 => ?_)
  have hw := hw h23 e23
  refine g_aload_n O dX10_init_26 rfl ?_
  refine g_iconst O dX10_init_27 kv_m1 ?_
  refine pf_X10_number O dX10_init_28 fl_X10_21 c23 ?_
  obtain ⟨c31a, c31b, hw⟩ := hw
  exact g_widen c31a c31b (g_return O dX10_init_31 ⟨_, rfl, rfl, hw⟩)
theorem dX10_move_0 : decode cX10_move 0 = .ok (.aload_n 1, 1) := by decide +kernel
theorem dX10_move_1 : decode cX10_move 1 = .ok (.getfield 25, 3) := by decide +kernel
theorem dX10_move_4 : decode cX10_move 4 = .ok (.aload_n 0, 1) := by decide +kernel
theorem dX10_move_5 : decode cX10_move 5 = .ok (.getfield 21, 3) := by decide +kernel
theorem dX10_move_8 : decode cX10_move 8 = .ok (.aaload, 1) := by decide +kernel
theorem dX10_move_9 : decode cX10_move 9 = .ok (.astore 4, 2) := by decide +kernel
theorem dX10_move_11 : decode cX10_move 11 = .ok (.aload 4, 2) := by decide +kernel
theorem dX10_move_13 : decode cX10_move 13 = .ok (.getfield 58, 3) := by decide +kernel
theorem dX10_move_16 : decode cX10_move 16 = .ok (.iload_n 2, 1) := by decide +kernel
theorem dX10_move_17 : decode cX10_move 17 = .ok (.aaload, 1) := by decide +kernel
theorem dX10_move_18 : decode cX10_move 18 = .ok (.astore 5, 2) := by decide +kernel
theorem dX10_move_20 : decode cX10_move 20 = .ok (.aload_n 0, 1) := by decide +kernel
theorem dX10_move_21 : decode cX10_move 21 = .ok (.aload 5, 2) := by decide +kernel
theorem dX10_move_23 : decode cX10_move 23 = .ok (.aload_n 0, 1) := by decide +kernel
theorem dX10_move_24 : decode cX10_move 24 = .ok (.getfield 37, 3) := by decide +kernel
theorem dX10_move_27 : decode cX10_move 27 = .ok (.iload_n 3, 1) := by decide +kernel
theorem dX10_move_28 : decode cX10_move 28 = .ok (.invokevirtual 62, 3) := by decide +kernel
theorem dX10_move_31 : decode cX10_move 31 = .ok (.putfield 37, 3) := by decide +kernel
theorem dX10_move_34 : decode cX10_move 34 = .ok (.aload_n 0, 1) := by decide +kernel
theorem dX10_move_35 : decode cX10_move 35 = .ok (.dup, 1) := by decide +kernel
theorem dX10_move_36 : decode cX10_move 36 = .ok (.getfield 40, 3) := by decide +kernel
theorem dX10_move_39 : decode cX10_move 39 = .ok (.iconst 1, 1) := by decide +kernel
theorem dX10_move_40 : decode cX10_move 40 = .ok (.iadd, 1) := by decide +kernel
theorem dX10_move_41 : decode cX10_move 41 = .ok (.putfield 40, 3) := by decide +kernel
theorem dX10_move_44 : decode cX10_move 44 = .ok (.aload_n 0, 1) := by decide +kernel
theorem dX10_move_45 : decode cX10_move 45 = .ok (.getfield 21, 3) := by decide +kernel
theorem dX10_move_48 : decode cX10_move 48 = .ok (.ifCond .ne 4, 3) := by decide +kernel
theorem dX10_move_51 : decode cX10_move 51 = .ok (.return_, 1) := by decide +kernel
theorem dX10_move_52 : decode cX10_move 52 = .ok (.aload 5, 2) := by decide +kernel
theorem dX10_move_54 : decode cX10_move 54 = .ok (.getfield 68, 3) := by decide +kernel
theorem dX10_move_57 : decode cX10_move 57 = .ok (.bipush (-2), 2) := by decide +kernel
theorem dX10_move_59 : decode cX10_move 59 = .ok (.if_icmp .eq 85, 3) := by decide +kernel
theorem dX10_move_62 : decode cX10_move 62 = .ok (.aload_n 1, 1) := by decide +kernel
theorem dX10_move_63 : decode cX10_move 63 = .ok (.getfield 25, 3) := by decide +kernel
theorem dX10_move_66 : decode cX10_move 66 = .ok (.aload_n 0, 1) := by decide +kernel
theorem dX10_move_67 : decode cX10_move 67 = .ok (.getfield 21, 3) := by decide +kernel
theorem dX10_move_70 : decode cX10_move 70 = .ok (.iconst 1, 1) := by decide +kernel
theorem dX10_move_71 : decode cX10_move 71 = .ok (.isub, 1) := by decide +kernel
theorem dX10_move_72 : decode cX10_move 72 = .ok (.aaload, 1) := by decide +kernel
theorem dX10_move_73 : decode cX10_move 73 = .ok (.astore 6, 2) := by decide +kernel
theorem dX10_move_75 : decode cX10_move 75 = .ok (.aload_n 0, 1) := by decide +kernel
theorem dX10_move_76 : decode cX10_move 76 = .ok (.getfield 18, 3) := by decide +kernel
theorem dX10_move_79 : decode cX10_move 79 = .ok (.invokevirtual 43, 3) := by decide +kernel
theorem dX10_move_82 : decode cX10_move 82 = .ok (.iconst 0, 1) := by decide +kernel
theorem dX10_move_83 : decode cX10_move 83 = .ok (.istore 7, 2) := by decide +kernel
theorem dX10_move_85 : decode cX10_move 85 = .ok (.iload 7, 2) := by decide +kernel
theorem dX10_move_87 : decode cX10_move 87 = .ok (.aload 6, 2) := by decide +kernel
theorem dX10_move_89 : decode cX10_move 89 = .ok (.getfield 71, 3) := by decide +kernel
theorem dX10_move_92 : decode cX10_move 92 = .ok (.if_icmp .ge 41, 3) := by decide +kernel
theorem dX10_move_95 : decode cX10_move 95 = .ok (.aload_n 0, 1) := by decide +kernel
theorem dX10_move_96 : decode cX10_move 96 = .ok (.getfield 12, 3) := by decide +kernel
theorem dX10_move_99 : decode cX10_move 99 = .ok (.iload 7, 2) := by decide +kernel
theorem dX10_move_101 : decode cX10_move 101 = .ok (.invokevirtual 74, 3) := by decide +kernel
theorem dX10_move_104 : decode cX10_move 104 = .ok (.ifCond .eq 23, 3) := by decide +kernel
theorem dX10_move_107 : decode cX10_move 107 = .ok (.aload 6, 2) := by decide +kernel
theorem dX10_move_109 : decode cX10_move 109 = .ok (.getfield 58, 3) := by decide +kernel
theorem dX10_move_112 : decode cX10_move 112 = .ok (.aload 5, 2) := by decide +kernel
theorem dX10_move_114 : decode cX10_move 114 = .ok (.getfield 68, 3) := by decide +kernel
theorem dX10_move_117 : decode cX10_move 117 = .ok (.aaload, 1) := by decide +kernel
theorem dX10_move_118 : decode cX10_move 118 = .ok (.iload 7, 2) := by decide +kernel
theorem dX10_move_120 : decode cX10_move 120 = .ok (.aload_n 0, 1) := by decide +kernel
theorem dX10_move_121 : decode cX10_move 121 = .ok (.getfield 18, 3) := by decide +kernel
theorem dX10_move_124 : decode cX10_move 124 = .ok (.invokevirtual 78, 3) := by decide +kernel
theorem dX10_move_127 : decode cX10_move 127 = .ok (.iinc 7 1, 3) := by decide +kernel
theorem dX10_move_130 : decode cX10_move 130 = .ok (.goto (-45), 3) := by decide +kernel
theorem dX10_move_133 : decode cX10_move 133 = .ok (.aload_n 0, 1) := by decide +kernel
theorem dX10_move_134 : decode cX10_move 134 = .ok (.getfield 12, 3) := by decide +kernel
theorem dX10_move_137 : decode cX10_move 137 = .ok (.aload_n 0, 1) := by decide +kernel
theorem dX10_move_138 : decode cX10_move 138 = .ok (.getfield 18, 3) := by decide +kernel
theorem dX10_move_141 : decode cX10_move 141 = .ok (.invokevirtual 82, 3) := by decide +kernel
theorem dX10_move_144 : decode cX10_move 144 = .ok (.aload_n 0, 1) := by decide +kernel
theorem dX10_move_145 : decode cX10_move 145 = .ok (.getfield 12, 3) := by decide +kernel
theorem dX10_move_148 : decode cX10_move 148 = .ok (.aload 4, 2) := by decide +kernel
theorem dX10_move_150 : decode cX10_move 150 = .ok (.getfield 50, 3) := by decide +kernel
theorem dX10_move_153 : decode cX10_move 153 = .ok (.aload_n 0, 1) := by decide +kernel
theorem dX10_move_154 : decode cX10_move 154 = .ok (.getfield 37, 3) := by decide +kernel
theorem dX10_move_157 : decode cX10_move 157 = .ok (.aaload, 1) := by decide +kernel
theorem dX10_move_158 : decode cX10_move 158 = .ok (.invokevirtual 54, 3) := by decide +kernel
theorem dX10_move_161 : decode cX10_move 161 = .ok (.return_, 1) := by decide +kernel
theorem okX10_move_j133 {E : Ev} {X : Cx} {S : Sh} {Z : Option Nat} {Q : Hp → Prop} {h : Hp} {a0 : Nat} {a4 : Nat} (O : Ok E X yX10_move cX10_move 8 none 3 70 0 0 (qV S Z Q)) (hw : wX10_move_j133 S h a0 a4 Q) : G E X 0 0 S Z h 133 [some (vr a0), none, none, none, some (vr a4), none, none, none] [] := by
  unfold wX10_move_j133 at hw
  refine g_aload_n O dX10_move_133 rfl ?_
  obtain ⟨c134, hw⟩ := hw
  refine gf_X10_near O dX10_move_134 fl_X10_12 c134 ?_
  refine g_aload_n O dX10_move_137 rfl ?_
  refine gf_X10_image O dX10_move_138 fl_X10_18 c134 ?_
  obtain ⟨c141, hw⟩ := hw
  refine g_callV (As := [vr (gR h a0 1)]) (rest := []) O ci_7 rfl dX10_move_141 ml_X10_82 im_yX7_copy se_yX7_copy ini_X7 co_yX7_copy yo_yX7_copy c141 rfl rfl (Nat.le_of_ble_eq_true rfl) ⟨by decide, by decide, by decide, by decide⟩ (okX7_copy hw) (k_V fun h141 hw => ?_)
  refine g_aload_n O dX10_move_144 rfl ?_
  refine gf_X10_near O dX10_move_145 fl_X10_12 c134 ?_
  refine g_aload O dX10_move_148 rfl ?_
  obtain ⟨c150, hw⟩ := hw
  refine gf_X2_glue O dX10_move_150 fl_X10_50 c150 ?_
  refine g_aload_n O dX10_move_153 rfl ?_
  refine gf_X10_state O dX10_move_154 fl_X10_37 c134 ?_
  obtain ⟨c157, hw⟩ := hw
  refine g_aaload (t := 2) (C := "FinerSteps$StateSet") O rfl dX10_move_157 c157.1 c157.2 ?_
  obtain ⟨c158, hw⟩ := hw
  refine g_callV (As := [vr ((gR h141 (gR h141 a4 7) (ix (gI h141 a0 3))))]) (rest := []) O ci_7 rfl dX10_move_158 ml_X10_54 im_yX7_keepOnly se_yX7_keepOnly ini_X7 co_yX7_keepOnly yo_yX7_keepOnly c158 rfl rfl (Nat.le_of_ble_eq_true rfl) ⟨by decide, by decide, by decide, by decide⟩ (okX7_keepOnly hw) (k_V fun h158 hw => ?_)
  exact g_return O dX10_move_161 ⟨rfl, rfl, rfl, hw⟩
theorem okX10_move_85 {E : Ev} {X : Cx} {S : Sh} {Z : Option Nat} {Q : Hp → Prop} {a0 : Nat} {a4 : Nat} {a5 : Nat} {a6 : Nat} (O : Ok E X yX10_move cX10_move 8 none 3 70 0 0 (qV S Z Q)) : ∀ (n : Nat) (h : Hp) (x7 : Int32), wX10_move_85 S a0 a4 a5 a6 Q n h x7 → G E X 0 0 S Z h 85 [some (vr a0), none, none, none, some (vr a4), some (vr a5), some (vr a6), some (vi x7)] [] := by
  intro n
  induction n with
  | zero => intro h x7 hw; exact hw.elim
  | succ n hB85 =>
    intro h x7 hw
    have hw : wX10_move_85b S a0 a4 a5 a6 Q (wX10_move_85 S a0 a4 a5 a6 Q n) h x7 := hw
    unfold wX10_move_85b at hw
    refine g_iload O dX10_move_85 rfl ?_
    refine g_aload O dX10_move_87 rfl ?_
    obtain ⟨c89, hw⟩ := hw
    refine gf_X2_states O dX10_move_89 fl_X10_71 c89 ?_
    refine g_icmp_ge (tgt := 133) O dX10_move_92 rfl (fun q92 => ?_) (fun q92 => ?_)
    · have hw := hw.1 q92
      refine g_mask [true, false, false, false, true, false, false, false] rfl rfl ?_
      exact okX10_move_j133 O hw
    · have hw := hw.2 q92
      refine g_aload_n O dX10_move_95 rfl ?_
      obtain ⟨c96, hw⟩ := hw
      refine gf_X10_near O dX10_move_96 fl_X10_12 c96 ?_
      refine g_iload O dX10_move_99 rfl ?_
      obtain ⟨c101, hw⟩ := hw
      refine g_callV (As := [vi x7]) (rest := []) O ci_7 rfl dX10_move_101 ml_X10_74 im_yX7_has se_yX7_has ini_X7 co_yX7_has yo_yX7_has c101 rfl rfl (Nat.le_of_ble_eq_true rfl) ⟨by decide, by decide, by decide, by decide⟩ (okX7_has hw) (k_I fun r101 h101 hw => ?_)
      refine g_if_eq (tgt := 127) O dX10_move_104 rfl (fun q104 => ?_) (fun q104 => ?_)
      · have hw := hw.1 q104
        refine g_iinc (lc' := [some (vr a0), none, none, none, some (vr a4), some (vr a5), some (vr a6), some (vi (x7 + (1 : Int32)))]) O dX10_move_127 rfl kv_1 rfl rfl ?_
        refine g_goto (tgt := 85) O dX10_move_130 rfl ?_
        exact hB85 _ _ hw
      · have hw := hw.2 q104
        refine g_aload O dX10_move_107 rfl ?_
        refine gf_X2_event O dX10_move_109 fl_X10_58 c89 ?_
        refine g_aload O dX10_move_112 rfl ?_
        obtain ⟨c114, hw⟩ := hw
        refine gf_X0_of O dX10_move_114 fl_X10_68 c114 ?_
        obtain ⟨c117, hw⟩ := hw
        refine g_aaload (t := 0) (C := "FinerSteps$Event") O rfl dX10_move_117 c117.1 c117.2 ?_
        refine g_iload O dX10_move_118 rfl ?_
        refine g_aload_n O dX10_move_120 rfl ?_
        refine gf_X10_image O dX10_move_121 fl_X10_18 c96 ?_
        obtain ⟨c124, hw⟩ := hw
        refine g_callV (As := [vi x7, vr (gR h101 a0 1)]) (rest := []) O ci_0 rfl dX10_move_124 ml_X10_78 im_yX0_putGiven se_yX0_putGiven ini_X0 co_yX0_putGiven yo_yX0_putGiven c124 rfl rfl (Nat.le_of_ble_eq_true rfl) ⟨by decide, by decide, by decide, by decide⟩ (okX0_putGiven hw) (k_V fun h124 hw => ?_)
        refine g_iinc (lc' := [some (vr a0), none, none, none, some (vr a4), some (vr a5), some (vr a6), some (vi (x7 + (1 : Int32)))]) O dX10_move_127 rfl kv_1 rfl rfl ?_
        refine g_goto (tgt := 85) O dX10_move_130 rfl ?_
        exact hB85 _ _ hw
theorem okX10_move {E : Ev} {S : Sh} {Z : Option Nat} {Q : Hp → Prop} {h : Hp} {a0 : Nat} {a1 : Nat} {x2 : Int32} {x3 : Int32} (hw : wX10_move S h a0 a1 x2 x3 Q) : Ct E yX10_move cX10_move 8 none 3 70 0 0 S Z h [vr a0, vr a1, vi x2, vi x3] (qV S Z Q) := by
  refine Ct.of (by decide) (lc := [some (vr a0), some (vr a1), some (vi x2), some (vi x3), none, none, none, none]) (Nat.le_of_ble_eq_true rfl) rfl (fun X O => ?_)
  unfold wX10_move at hw
  refine g_aload_n O dX10_move_0 rfl ?_
  obtain ⟨c1, hw⟩ := hw
  refine gf_X3_machines O dX10_move_1 fl_X10_25 c1 ?_
  refine g_aload_n O dX10_move_4 rfl ?_
  obtain ⟨c5, hw⟩ := hw
  refine gf_X10_number O dX10_move_5 fl_X10_21 c5 ?_
  obtain ⟨c8, hw⟩ := hw
  refine g_aaload (t := 1) (C := "FinerSteps$Machine") O rfl dX10_move_8 c8.1 c8.2 ?_
  refine g_nmR (fun av9 e9 => ?_)
  have hw := hw av9 e9
  refine g_astore (lc' := [some (vr a0), some (vr a1), some (vi x2), some (vi x3), some (vr av9), none, none, none]) O dX10_move_9 rfl (Nat.le_of_ble_eq_true rfl) rfl ?_
  refine g_aload O dX10_move_11 rfl ?_
  obtain ⟨c13, hw⟩ := hw
  refine gf_X2_event O dX10_move_13 fl_X10_58 c13 ?_
  refine g_iload_n O dX10_move_16 rfl ?_
  obtain ⟨c17, hw⟩ := hw
  refine g_aaload (t := 0) (C := "FinerSteps$Event") O rfl dX10_move_17 c17.1 c17.2 ?_
  refine g_nmR (fun av18 e18 => ?_)
  have hw := hw av18 e18
  refine g_astore (lc' := [some (vr a0), some (vr a1), some (vi x2), some (vi x3), some (vr av9), some (vr av18), none, none]) O dX10_move_18 rfl (Nat.le_of_ble_eq_true rfl) rfl ?_
  refine g_aload_n O dX10_move_20 rfl ?_
  refine g_aload O dX10_move_21 rfl ?_
  refine g_aload_n O dX10_move_23 rfl ?_
  refine gf_X10_state O dX10_move_24 fl_X10_37 c5 ?_
  refine g_iload_n O dX10_move_27 rfl ?_
  obtain ⟨c28, hw⟩ := hw
  refine g_callV (As := [vi (gI h a0 3), vi x3]) (rest := [vr a0]) O ci_0 rfl dX10_move_28 ml_X10_62 im_yX0_after se_yX0_after ini_X0 co_yX0_after yo_yX0_after c28 rfl rfl (Nat.le_of_ble_eq_true rfl) ⟨by decide, by decide, by decide, by decide⟩ (okX0_after hw) (k_I fun r28 h28 hw => ?_)
  refine pf_X10_state O dX10_move_31 fl_X10_37 c5 ?_
  refine g_nmH (fun h31 e31 => ?_)
  have hw := hw h31 e31
  refine g_aload_n O dX10_move_34 rfl ?_
  refine g_dup O dX10_move_35 rfl ?_
  refine gf_X10_made O dX10_move_36 fl_X10_40 c5 ?_
  refine g_iconst O dX10_move_39 kv_1 ?_
  refine g_iadd O dX10_move_40 ?_
  refine pf_X10_made O dX10_move_41 fl_X10_40 c5 ?_
  refine g_nmH (fun h41 e41 => ?_)
  have hw := hw h41 e41
  refine g_aload_n O dX10_move_44 rfl ?_
  refine gf_X10_number O dX10_move_45 fl_X10_21 c5 ?_
  refine g_if_ne (tgt := 52) O dX10_move_48 rfl (fun q48 => ?_) (fun q48 => ?_)
  · have hw := hw.1 q48
    refine g_aload O dX10_move_52 rfl ?_
    refine gf_X0_of O dX10_move_54 fl_X10_68 c28 ?_
    refine g_bipush O dX10_move_57 kb_m2 ?_
    refine g_icmp_eq (tgt := 144) O dX10_move_59 rfl (fun q59 => ?_) (fun q59 => ?_)
    · have hw := hw.1 q59
      refine g_aload_n O dX10_move_144 rfl ?_
      refine gf_X10_near O dX10_move_145 fl_X10_12 c5 ?_
      refine g_aload O dX10_move_148 rfl ?_
      refine gf_X2_glue O dX10_move_150 fl_X10_50 c13 ?_
      refine g_aload_n O dX10_move_153 rfl ?_
      refine gf_X10_state O dX10_move_154 fl_X10_37 c5 ?_
      obtain ⟨c157, hw⟩ := hw
      refine g_aaload (t := 2) (C := "FinerSteps$StateSet") O rfl dX10_move_157 c157.1 c157.2 ?_
      obtain ⟨c158, hw⟩ := hw
      refine g_callV (As := [vr ((gR h41 (gR h41 av9 7) (ix (gI h41 a0 3))))]) (rest := []) O ci_7 rfl dX10_move_158 ml_X10_54 im_yX7_keepOnly se_yX7_keepOnly ini_X7 co_yX7_keepOnly yo_yX7_keepOnly c158 rfl rfl (Nat.le_of_ble_eq_true rfl) ⟨by decide, by decide, by decide, by decide⟩ (okX7_keepOnly hw) (k_V fun h158 hw => ?_)
      exact g_return O dX10_move_161 ⟨rfl, rfl, rfl, hw⟩
    · have hw := hw.2 q59
      refine g_aload_n O dX10_move_62 rfl ?_
      refine gf_X3_machines O dX10_move_63 fl_X10_25 c1 ?_
      refine g_aload_n O dX10_move_66 rfl ?_
      refine gf_X10_number O dX10_move_67 fl_X10_21 c5 ?_
      refine g_iconst O dX10_move_70 kv_1 ?_
      refine g_isub O dX10_move_71 ?_
      obtain ⟨c72, hw⟩ := hw
      refine g_aaload (t := 1) (C := "FinerSteps$Machine") O rfl dX10_move_72 c72.1 c72.2 ?_
      refine g_nmR (fun av73 e73 => ?_)
      have hw := hw av73 e73
      refine g_astore (lc' := [some (vr a0), some (vr a1), some (vi x2), some (vi x3), some (vr av9), some (vr av18), some (vr av73), none]) O dX10_move_73 rfl (Nat.le_of_ble_eq_true rfl) rfl ?_
      refine g_aload_n O dX10_move_75 rfl ?_
      refine gf_X10_image O dX10_move_76 fl_X10_18 c5 ?_
      obtain ⟨c79, hw⟩ := hw
      refine g_callV (As := []) (rest := []) O ci_7 rfl dX10_move_79 ml_X10_43 im_yX7_clear se_yX7_clear ini_X7 co_yX7_clear yo_yX7_clear c79 rfl rfl (Nat.le_of_ble_eq_true rfl) ⟨by decide, by decide, by decide, by decide⟩ (okX7_clear hw) (k_V fun h79 hw => ?_)
      refine g_iconst O dX10_move_82 kv_0 ?_
      refine g_istore (lc' := [some (vr a0), some (vr a1), some (vi x2), some (vi x3), some (vr av9), some (vr av18), some (vr av73), some (vi (0 : Int32))]) O dX10_move_83 rfl (Nat.le_of_ble_eq_true rfl) rfl ?_
      refine g_mask [true, false, false, false, true, true, true, true] rfl rfl ?_
      obtain ⟨n85, hw⟩ := hw
      exact okX10_move_85 O n85 _ _ hw
  · have hw := hw.2 q48
    exact g_return O dX10_move_51 ⟨rfl, rfl, rfl, hw⟩
theorem dX10_take_0 : decode cX10_take 0 = .ok (.aload_n 1, 1) := by decide +kernel
theorem dX10_take_1 : decode cX10_take 1 = .ok (.getfield 25, 3) := by decide +kernel
theorem dX10_take_4 : decode cX10_take 4 = .ok (.aload_n 0, 1) := by decide +kernel
theorem dX10_take_5 : decode cX10_take 5 = .ok (.getfield 21, 3) := by decide +kernel
theorem dX10_take_8 : decode cX10_take 8 = .ok (.aaload, 1) := by decide +kernel
theorem dX10_take_9 : decode cX10_take 9 = .ok (.astore_n 3, 1) := by decide +kernel
theorem dX10_take_10 : decode cX10_take 10 = .ok (.iload_n 2, 1) := by decide +kernel
theorem dX10_take_11 : decode cX10_take 11 = .ok (.istore 4, 2) := by decide +kernel
theorem dX10_take_13 : decode cX10_take 13 = .ok (.iconst 0, 1) := by decide +kernel
theorem dX10_take_14 : decode cX10_take 14 = .ok (.istore 5, 2) := by decide +kernel
theorem dX10_take_16 : decode cX10_take 16 = .ok (.iload 5, 2) := by decide +kernel
theorem dX10_take_18 : decode cX10_take 18 = .ok (.aload_n 3, 1) := by decide +kernel
theorem dX10_take_19 : decode cX10_take 19 = .ok (.getfield 101, 3) := by decide +kernel
theorem dX10_take_22 : decode cX10_take 22 = .ok (.if_icmp .ge 72, 3) := by decide +kernel
theorem dX10_take_25 : decode cX10_take 25 = .ok (.aload_n 3, 1) := by decide +kernel
theorem dX10_take_26 : decode cX10_take 26 = .ok (.getfield 58, 3) := by decide +kernel
theorem dX10_take_29 : decode cX10_take 29 = .ok (.iload 5, 2) := by decide +kernel
theorem dX10_take_31 : decode cX10_take 31 = .ok (.aaload, 1) := by decide +kernel
theorem dX10_take_32 : decode cX10_take 32 = .ok (.aload_n 0, 1) := by decide +kernel
theorem dX10_take_33 : decode cX10_take 33 = .ok (.getfield 37, 3) := by decide +kernel
theorem dX10_take_36 : decode cX10_take 36 = .ok (.invokevirtual 104, 3) := by decide +kernel
theorem dX10_take_39 : decode cX10_take 39 = .ok (.istore 6, 2) := by decide +kernel
theorem dX10_take_41 : decode cX10_take 41 = .ok (.iconst 0, 1) := by decide +kernel
theorem dX10_take_42 : decode cX10_take 42 = .ok (.istore 7, 2) := by decide +kernel
theorem dX10_take_44 : decode cX10_take 44 = .ok (.iload 7, 2) := by decide +kernel
theorem dX10_take_46 : decode cX10_take 46 = .ok (.bipush 10, 2) := by decide +kernel
theorem dX10_take_48 : decode cX10_take 48 = .ok (.if_icmp .ge 40, 3) := by decide +kernel
theorem dX10_take_51 : decode cX10_take 51 = .ok (.iload 6, 2) := by decide +kernel
theorem dX10_take_53 : decode cX10_take 53 = .ok (.iload 7, 2) := by decide +kernel
theorem dX10_take_55 : decode cX10_take 55 = .ok (.ishr, 1) := by decide +kernel
theorem dX10_take_56 : decode cX10_take 56 = .ok (.iconst 1, 1) := by decide +kernel
theorem dX10_take_57 : decode cX10_take 57 = .ok (.iand, 1) := by decide +kernel
theorem dX10_take_58 : decode cX10_take 58 = .ok (.ifCond .ne 6, 3) := by decide +kernel
theorem dX10_take_61 : decode cX10_take 61 = .ok (.goto 21, 3) := by decide +kernel
theorem dX10_take_64 : decode cX10_take 64 = .ok (.iload 4, 2) := by decide +kernel
theorem dX10_take_66 : decode cX10_take 66 = .ok (.ifCond .ne 13, 3) := by decide +kernel
theorem dX10_take_69 : decode cX10_take 69 = .ok (.aload_n 0, 1) := by decide +kernel
theorem dX10_take_70 : decode cX10_take 70 = .ok (.aload_n 1, 1) := by decide +kernel
theorem dX10_take_71 : decode cX10_take 71 = .ok (.iload 5, 2) := by decide +kernel
theorem dX10_take_73 : decode cX10_take 73 = .ok (.iload 7, 2) := by decide +kernel
theorem dX10_take_75 : decode cX10_take 75 = .ok (.invokevirtual 113, 3) := by decide +kernel
theorem dX10_take_78 : decode cX10_take 78 = .ok (.return_, 1) := by decide +kernel
theorem dX10_take_79 : decode cX10_take 79 = .ok (.iinc 4 (-1), 3) := by decide +kernel
theorem dX10_take_82 : decode cX10_take 82 = .ok (.iinc 7 1, 3) := by decide +kernel
theorem dX10_take_85 : decode cX10_take 85 = .ok (.goto (-41), 3) := by decide +kernel
theorem dX10_take_88 : decode cX10_take 88 = .ok (.iinc 5 1, 3) := by decide +kernel
theorem dX10_take_91 : decode cX10_take 91 = .ok (.goto (-75), 3) := by decide +kernel
theorem dX10_take_94 : decode cX10_take 94 = .ok (.return_, 1) := by decide +kernel
theorem okX10_take_44 {E : Ev} {X : Cx} {S : Sh} {Z : Option Nat} {Q : Hp → Prop} {B16 : Hp → Int32 → Int32 → Prop} {a0 : Nat} {a1 : Nat} {a3 : Nat} {x5 : Int32} {x6 : Int32} (O : Ok E X yX10_take cX10_take 8 none 4 97 0 0 (qV S Z Q)) (hB16 : ∀ (h : Hp) (x4 : Int32) (x5 : Int32), B16 h x4 x5 → G E X 0 0 S Z h 16 [some (vr a0), some (vr a1), none, some (vr a3), some (vi x4), some (vi x5), none, none] []) : ∀ (n : Nat) (h : Hp) (x4 : Int32) (x7 : Int32), wX10_take_44 S B16 a0 a1 a3 x5 x6 Q n h x4 x7 → G E X 0 0 S Z h 44 [some (vr a0), some (vr a1), none, some (vr a3), some (vi x4), some (vi x5), some (vi x6), some (vi x7)] [] := by
  intro n
  induction n with
  | zero => intro h x4 x7 hw; exact hw.elim
  | succ n hB44 =>
    intro h x4 x7 hw
    have hw : wX10_take_44b S B16 a0 a1 a3 x5 x6 Q (wX10_take_44 S B16 a0 a1 a3 x5 x6 Q n) h x4 x7 := hw
    unfold wX10_take_44b at hw
    refine g_iload O dX10_take_44 rfl ?_
    refine g_bipush O dX10_take_46 kb_10 ?_
    refine g_icmp_ge (tgt := 88) O dX10_take_48 rfl (fun q48 => ?_) (fun q48 => ?_)
    · have hw := hw.1 q48
      refine g_iinc (lc' := [some (vr a0), some (vr a1), none, some (vr a3), some (vi x4), some (vi (x5 + (1 : Int32))), some (vi x6), some (vi x7)]) O dX10_take_88 rfl kv_1 rfl rfl ?_
      refine g_goto (tgt := 16) O dX10_take_91 rfl ?_
      refine g_mask [true, true, false, true, true, true, false, false] rfl rfl ?_
      exact hB16 _ _ _ hw
    · have hw := hw.2 q48
      refine g_iload O dX10_take_51 rfl ?_
      refine g_iload O dX10_take_53 rfl ?_
      refine g_ishr O dX10_take_55 ?_
      refine g_iconst O dX10_take_56 kv_1 ?_
      refine g_iand O dX10_take_57 ?_
      refine g_if_ne (tgt := 64) O dX10_take_58 rfl (fun q58 => ?_) (fun q58 => ?_)
      · have hw := hw.1 q58
        refine g_iload O dX10_take_64 rfl ?_
        refine g_if_ne (tgt := 79) O dX10_take_66 rfl (fun q66 => ?_) (fun q66 => ?_)
        · have hw := hw.1 q66
          refine g_iinc (lc' := [some (vr a0), some (vr a1), none, some (vr a3), some (vi (x4 + (-1 : Int32))), some (vi x5), some (vi x6), some (vi x7)]) O dX10_take_79 rfl kv_m1 rfl rfl ?_
          refine g_iinc (lc' := [some (vr a0), some (vr a1), none, some (vr a3), some (vi (x4 + (-1 : Int32))), some (vi x5), some (vi x6), some (vi (x7 + (1 : Int32)))]) O dX10_take_82 rfl kv_1 rfl rfl ?_
          refine g_goto (tgt := 44) O dX10_take_85 rfl ?_
          exact hB44 _ _ _ hw
        · have hw := hw.2 q66
          refine g_aload_n O dX10_take_69 rfl ?_
          refine g_aload_n O dX10_take_70 rfl ?_
          refine g_iload O dX10_take_71 rfl ?_
          refine g_iload O dX10_take_73 rfl ?_
          obtain ⟨c75, hw⟩ := hw
          refine g_callV (As := [vr a1, vi x5, vi x7]) (rest := []) O ci_10 rfl dX10_take_75 ml_X10_113 im_yX10_move se_yX10_move ini_X10 co_yX10_move yo_yX10_move c75 rfl rfl (Nat.le_of_ble_eq_true rfl) ⟨by decide, by decide, by decide, by decide⟩ (okX10_move hw) (k_V fun h75 hw => ?_)
          exact g_return O dX10_take_78 ⟨rfl, rfl, rfl, hw⟩
      · have hw := hw.2 q58
        refine g_goto (tgt := 82) O dX10_take_61 rfl ?_
        refine g_iinc (lc' := [some (vr a0), some (vr a1), none, some (vr a3), some (vi x4), some (vi x5), some (vi x6), some (vi (x7 + (1 : Int32)))]) O dX10_take_82 rfl kv_1 rfl rfl ?_
        refine g_goto (tgt := 44) O dX10_take_85 rfl ?_
        exact hB44 _ _ _ hw
theorem okX10_take_16 {E : Ev} {X : Cx} {S : Sh} {Z : Option Nat} {Q : Hp → Prop} {a0 : Nat} {a1 : Nat} {a3 : Nat} (O : Ok E X yX10_take cX10_take 8 none 4 97 0 0 (qV S Z Q)) : ∀ (n : Nat) (h : Hp) (x4 : Int32) (x5 : Int32), wX10_take_16 S a0 a1 a3 Q n h x4 x5 → G E X 0 0 S Z h 16 [some (vr a0), some (vr a1), none, some (vr a3), some (vi x4), some (vi x5), none, none] [] := by
  intro n
  induction n with
  | zero => intro h x4 x5 hw; exact hw.elim
  | succ n hB16 =>
    intro h x4 x5 hw
    have hw : wX10_take_16b S a0 a1 a3 Q (wX10_take_16 S a0 a1 a3 Q n) h x4 x5 := hw
    unfold wX10_take_16b at hw
    refine g_iload O dX10_take_16 rfl ?_
    refine g_aload_n O dX10_take_18 rfl ?_
    obtain ⟨c19, hw⟩ := hw
    refine gf_X2_events O dX10_take_19 fl_X10_101 c19 ?_
    refine g_icmp_ge (tgt := 94) O dX10_take_22 rfl (fun q22 => ?_) (fun q22 => ?_)
    · have hw := hw.1 q22
      exact g_return O dX10_take_94 ⟨rfl, rfl, rfl, hw⟩
    · have hw := hw.2 q22
      refine g_aload_n O dX10_take_25 rfl ?_
      refine gf_X2_event O dX10_take_26 fl_X10_58 c19 ?_
      refine g_iload O dX10_take_29 rfl ?_
      obtain ⟨c31, hw⟩ := hw
      refine g_aaload (t := 0) (C := "FinerSteps$Event") O rfl dX10_take_31 c31.1 c31.2 ?_
      refine g_aload_n O dX10_take_32 rfl ?_
      obtain ⟨c33, hw⟩ := hw
      refine gf_X10_state O dX10_take_33 fl_X10_37 c33 ?_
      obtain ⟨c36, hw⟩ := hw
      refine g_callV (As := [vi (gI h a0 3)]) (rest := []) O ci_0 rfl dX10_take_36 ml_X10_104 im_yX0_stepsAt se_yX0_stepsAt ini_X0 co_yX0_stepsAt yo_yX0_stepsAt c36 rfl rfl (Nat.le_of_ble_eq_true rfl) ⟨by decide, by decide, by decide, by decide⟩ (okX0_stepsAt hw) (k_I fun r36 h36 hw => ?_)
      refine g_istore (lc' := [some (vr a0), some (vr a1), none, some (vr a3), some (vi x4), some (vi x5), some (vi r36), none]) O dX10_take_39 rfl (Nat.le_of_ble_eq_true rfl) rfl ?_
      refine g_iconst O dX10_take_41 kv_0 ?_
      refine g_istore (lc' := [some (vr a0), some (vr a1), none, some (vr a3), some (vi x4), some (vi x5), some (vi r36), some (vi (0 : Int32))]) O dX10_take_42 rfl (Nat.le_of_ble_eq_true rfl) rfl ?_
      obtain ⟨n44, hw⟩ := hw
      exact okX10_take_44 O hB16 n44 _ _ _ hw
theorem okX10_take {E : Ev} {S : Sh} {Z : Option Nat} {Q : Hp → Prop} {h : Hp} {a0 : Nat} {a1 : Nat} {x2 : Int32} (hw : wX10_take S h a0 a1 x2 Q) : Ct E yX10_take cX10_take 8 none 4 97 0 0 S Z h [vr a0, vr a1, vi x2] (qV S Z Q) := by
  refine Ct.of (by decide) (lc := [some (vr a0), some (vr a1), some (vi x2), none, none, none, none, none]) (Nat.le_of_ble_eq_true rfl) rfl (fun X O => ?_)
  unfold wX10_take at hw
  refine g_aload_n O dX10_take_0 rfl ?_
  obtain ⟨c1, hw⟩ := hw
  refine gf_X3_machines O dX10_take_1 fl_X10_25 c1 ?_
  refine g_aload_n O dX10_take_4 rfl ?_
  obtain ⟨c5, hw⟩ := hw
  refine gf_X10_number O dX10_take_5 fl_X10_21 c5 ?_
  obtain ⟨c8, hw⟩ := hw
  refine g_aaload (t := 1) (C := "FinerSteps$Machine") O rfl dX10_take_8 c8.1 c8.2 ?_
  refine g_nmR (fun av9 e9 => ?_)
  have hw := hw av9 e9
  refine g_astore_n (lc' := [some (vr a0), some (vr a1), some (vi x2), some (vr av9), none, none, none, none]) O dX10_take_9 rfl (Nat.le_of_ble_eq_true rfl) rfl ?_
  refine g_iload_n O dX10_take_10 rfl ?_
  refine g_istore (lc' := [some (vr a0), some (vr a1), some (vi x2), some (vr av9), some (vi x2), none, none, none]) O dX10_take_11 rfl (Nat.le_of_ble_eq_true rfl) rfl ?_
  refine g_iconst O dX10_take_13 kv_0 ?_
  refine g_istore (lc' := [some (vr a0), some (vr a1), some (vi x2), some (vr av9), some (vi x2), some (vi (0 : Int32)), none, none]) O dX10_take_14 rfl (Nat.le_of_ble_eq_true rfl) rfl ?_
  refine g_mask [true, true, false, true, true, true, false, false] rfl rfl ?_
  obtain ⟨n16, hw⟩ := hw
  exact okX10_take_16 O n16 _ _ _ hw
theorem dX10_wander_0 : decode cX10_wander 0 = .ok (.iload_n 3, 1) := by decide +kernel
theorem dX10_wander_1 : decode cX10_wander 1 = .ok (.i2l, 1) := by decide +kernel
theorem dX10_wander_2 : decode cX10_wander 2 = .ok (.lstore 4, 2) := by decide +kernel
theorem dX10_wander_4 : decode cX10_wander 4 = .ok (.iconst 0, 1) := by decide +kernel
theorem dX10_wander_5 : decode cX10_wander 5 = .ok (.istore 6, 2) := by decide +kernel
theorem dX10_wander_7 : decode cX10_wander 7 = .ok (.iload 6, 2) := by decide +kernel
theorem dX10_wander_9 : decode cX10_wander 9 = .ok (.iload_n 2, 1) := by decide +kernel
theorem dX10_wander_10 : decode cX10_wander 10 = .ok (.if_icmp .ge 64, 3) := by decide +kernel
theorem dX10_wander_13 : decode cX10_wander 13 = .ok (.aload_n 0, 1) := by decide +kernel
theorem dX10_wander_14 : decode cX10_wander 14 = .ok (.aload_n 1, 1) := by decide +kernel
theorem dX10_wander_15 : decode cX10_wander 15 = .ok (.getfield 25, 3) := by decide +kernel
theorem dX10_wander_18 : decode cX10_wander 18 = .ok (.aload_n 0, 1) := by decide +kernel
theorem dX10_wander_19 : decode cX10_wander 19 = .ok (.getfield 21, 3) := by decide +kernel
theorem dX10_wander_22 : decode cX10_wander 22 = .ok (.aaload, 1) := by decide +kernel
theorem dX10_wander_23 : decode cX10_wander 23 = .ok (.invokevirtual 85, 3) := by decide +kernel
theorem dX10_wander_26 : decode cX10_wander 26 = .ok (.istore 7, 2) := by decide +kernel
theorem dX10_wander_28 : decode cX10_wander 28 = .ok (.iload 7, 2) := by decide +kernel
theorem dX10_wander_30 : decode cX10_wander 30 = .ok (.ifCond .gt 6, 3) := by decide +kernel
theorem dX10_wander_33 : decode cX10_wander 33 = .ok (.iload 6, 2) := by decide +kernel
theorem dX10_wander_35 : decode cX10_wander 35 = .ok (.ireturn, 1) := by decide +kernel
theorem dX10_wander_36 : decode cX10_wander 36 = .ok (.ldc2_w 89, 3) := by decide +kernel
theorem dX10_wander_39 : decode cX10_wander 39 = .ok (.lload 4, 2) := by decide +kernel
theorem dX10_wander_41 : decode cX10_wander 41 = .ok (.lmul, 1) := by decide +kernel
theorem dX10_wander_42 : decode cX10_wander 42 = .ok (.ldc2_w 91, 3) := by decide +kernel
theorem dX10_wander_45 : decode cX10_wander 45 = .ok (.ladd, 1) := by decide +kernel
theorem dX10_wander_46 : decode cX10_wander 46 = .ok (.ldc2_w 93, 3) := by decide +kernel
theorem dX10_wander_49 : decode cX10_wander 49 = .ok (.lrem, 1) := by decide +kernel
theorem dX10_wander_50 : decode cX10_wander 50 = .ok (.lstore 4, 2) := by decide +kernel
theorem dX10_wander_52 : decode cX10_wander 52 = .ok (.aload_n 0, 1) := by decide +kernel
theorem dX10_wander_53 : decode cX10_wander 53 = .ok (.aload_n 1, 1) := by decide +kernel
theorem dX10_wander_54 : decode cX10_wander 54 = .ok (.lload 4, 2) := by decide +kernel
theorem dX10_wander_56 : decode cX10_wander 56 = .ok (.ldc2_w 95, 3) := by decide +kernel
theorem dX10_wander_59 : decode cX10_wander 59 = .ok (.ldiv, 1) := by decide +kernel
theorem dX10_wander_60 : decode cX10_wander 60 = .ok (.iload 7, 2) := by decide +kernel
theorem dX10_wander_62 : decode cX10_wander 62 = .ok (.i2l, 1) := by decide +kernel
theorem dX10_wander_63 : decode cX10_wander 63 = .ok (.lrem, 1) := by decide +kernel
theorem dX10_wander_64 : decode cX10_wander 64 = .ok (.l2i, 1) := by decide +kernel
theorem dX10_wander_65 : decode cX10_wander 65 = .ok (.invokevirtual 97, 3) := by decide +kernel
theorem dX10_wander_68 : decode cX10_wander 68 = .ok (.iinc 6 1, 3) := by decide +kernel
theorem dX10_wander_71 : decode cX10_wander 71 = .ok (.goto (-64), 3) := by decide +kernel
theorem dX10_wander_74 : decode cX10_wander 74 = .ok (.iload_n 2, 1) := by decide +kernel
theorem dX10_wander_75 : decode cX10_wander 75 = .ok (.ireturn, 1) := by decide +kernel
theorem okX10_wander_7 {E : Ev} {X : Cx} {S : Sh} {Z : Option Nat} {Q : Int32 → Hp → Prop} {a0 : Nat} {a1 : Nat} {x2 : Int32} (O : Ok E X yX10_wander cX10_wander 8 (some .int) 5 124 0 0 (qI S Z Q)) : ∀ (n : Nat) (h : Hp) (j4 : Int64) (x6 : Int32), wX10_wander_7 S a0 a1 x2 Q n h j4 x6 → G E X 0 0 S Z h 7 [some (vr a0), some (vr a1), some (vi x2), none, some (vj j4), none, some (vi x6), none] [] := by
  intro n
  induction n with
  | zero => intro h j4 x6 hw; exact hw.elim
  | succ n hB7 =>
    intro h j4 x6 hw
    have hw : wX10_wander_7b S a0 a1 x2 Q (wX10_wander_7 S a0 a1 x2 Q n) h j4 x6 := hw
    unfold wX10_wander_7b at hw
    refine g_iload O dX10_wander_7 rfl ?_
    refine g_iload_n O dX10_wander_9 rfl ?_
    refine g_icmp_ge (tgt := 74) O dX10_wander_10 rfl (fun q10 => ?_) (fun q10 => ?_)
    · have hw := hw.1 q10
      refine g_iload_n O dX10_wander_74 rfl ?_
      exact g_ireturn O dX10_wander_75 ⟨rfl, rfl, _, rfl, hw⟩
    · have hw := hw.2 q10
      refine g_aload_n O dX10_wander_13 rfl ?_
      refine g_aload_n O dX10_wander_14 rfl ?_
      obtain ⟨c15, hw⟩ := hw
      refine gf_X3_machines O dX10_wander_15 fl_X10_25 c15 ?_
      refine g_aload_n O dX10_wander_18 rfl ?_
      obtain ⟨c19, hw⟩ := hw
      refine gf_X10_number O dX10_wander_19 fl_X10_21 c19 ?_
      obtain ⟨c22, hw⟩ := hw
      refine g_aaload (t := 1) (C := "FinerSteps$Machine") O rfl dX10_wander_22 c22.1 c22.2 ?_
      refine g_callV (As := [vr ((gR h (gR h a1 0) (ix (gI h a0 2))))]) (rest := []) O ci_10 rfl dX10_wander_23 ml_X10_85 im_yX10_countChoices se_yX10_countChoices ini_X10 co_yX10_countChoices yo_yX10_countChoices c19 rfl rfl (Nat.le_of_ble_eq_true rfl) ⟨by decide, by decide, by decide, by decide⟩ (okX10_countChoices hw) (k_I fun r23 h23 hw => ?_)
      refine g_istore (lc' := [some (vr a0), some (vr a1), some (vi x2), none, some (vj j4), none, some (vi x6), some (vi r23)]) O dX10_wander_26 rfl (Nat.le_of_ble_eq_true rfl) rfl ?_
      refine g_iload O dX10_wander_28 rfl ?_
      refine g_if_gt (tgt := 36) O dX10_wander_30 rfl (fun q30 => ?_) (fun q30 => ?_)
      · have hw := hw.1 q30
        refine g_ldc2 O dX10_wander_36 kl_X10_89 ?_
        refine g_lload O dX10_wander_39 rfl ?_
        refine g_lmul O dX10_wander_41 ?_
        refine g_ldc2 O dX10_wander_42 kl_X10_91 ?_
        refine g_ladd O dX10_wander_45 ?_
        refine g_ldc2 O dX10_wander_46 kl_X10_93 ?_
        obtain ⟨c49, hw⟩ := hw
        refine g_lrem O dX10_wander_49 c49 ?_
        refine g_nmJ (fun jv50 e50 => ?_)
        have hw := hw jv50 e50
        refine g_lstore (lc' := [some (vr a0), some (vr a1), some (vi x2), none, some (vj jv50), none, some (vi x6), some (vi r23)]) O dX10_wander_50 rfl (Nat.le_of_ble_eq_true rfl) rfl ?_
        refine g_aload_n O dX10_wander_52 rfl ?_
        refine g_aload_n O dX10_wander_53 rfl ?_
        refine g_lload O dX10_wander_54 rfl ?_
        refine g_ldc2 O dX10_wander_56 kl_X10_95 ?_
        obtain ⟨c59, hw⟩ := hw
        refine g_ldiv O dX10_wander_59 c59 ?_
        refine g_iload O dX10_wander_60 rfl ?_
        refine g_i2l O dX10_wander_62 ?_
        obtain ⟨c63, hw⟩ := hw
        refine g_lrem O dX10_wander_63 c63 ?_
        refine g_l2i O dX10_wander_64 ?_
        refine g_callV (As := [vr a1, vi ((((rem64 ((jv50 / (65536 : Int64))) (r23.toInt64))).toInt32))]) (rest := []) O ci_10 rfl dX10_wander_65 ml_X10_97 im_yX10_take se_yX10_take ini_X10 co_yX10_take yo_yX10_take c19 rfl rfl (Nat.le_of_ble_eq_true rfl) ⟨by decide, by decide, by decide, by decide⟩ (okX10_take hw) (k_V fun h65 hw => ?_)
        refine g_iinc (lc' := [some (vr a0), some (vr a1), some (vi x2), none, some (vj jv50), none, some (vi (x6 + (1 : Int32))), some (vi r23)]) O dX10_wander_68 rfl kv_1 rfl rfl ?_
        refine g_goto (tgt := 7) O dX10_wander_71 rfl ?_
        refine g_mask [true, true, true, false, true, false, true, false] rfl rfl ?_
        exact hB7 _ _ _ hw
      · have hw := hw.2 q30
        refine g_iload O dX10_wander_33 rfl ?_
        exact g_ireturn O dX10_wander_35 ⟨rfl, rfl, _, rfl, hw⟩
theorem okX10_wander {E : Ev} {S : Sh} {Z : Option Nat} {Q : Int32 → Hp → Prop} {h : Hp} {a0 : Nat} {a1 : Nat} {x2 : Int32} {x3 : Int32} (hw : wX10_wander S h a0 a1 x2 x3 Q) : Ct E yX10_wander cX10_wander 8 (some .int) 5 124 0 0 S Z h [vr a0, vr a1, vi x2, vi x3] (qI S Z Q) := by
  refine Ct.of (by decide) (lc := [some (vr a0), some (vr a1), some (vi x2), some (vi x3), none, none, none, none]) (Nat.le_of_ble_eq_true rfl) rfl (fun X O => ?_)
  unfold wX10_wander at hw
  refine g_iload_n O dX10_wander_0 rfl ?_
  refine g_i2l O dX10_wander_1 ?_
  refine g_lstore (lc' := [some (vr a0), some (vr a1), some (vi x2), some (vi x3), some (vj (x3.toInt64)), none, none, none]) O dX10_wander_2 rfl (Nat.le_of_ble_eq_true rfl) rfl ?_
  refine g_iconst O dX10_wander_4 kv_0 ?_
  refine g_istore (lc' := [some (vr a0), some (vr a1), some (vi x2), some (vi x3), some (vj (x3.toInt64)), none, some (vi (0 : Int32)), none]) O dX10_wander_5 rfl (Nat.le_of_ble_eq_true rfl) rfl ?_
  refine g_mask [true, true, true, false, true, false, true, false] rfl rfl ?_
  obtain ⟨n7, hw⟩ := hw
  exact okX10_wander_7 O n7 _ _ _ hw
theorem dX11_answer_0 : decode cX11_answer 0 = .ok (.aload_n 0, 1) := by decide +kernel
theorem dX11_answer_1 : decode cX11_answer 1 = .ok (.iconst 0, 1) := by decide +kernel
theorem dX11_answer_2 : decode cX11_answer 2 = .ok (.putfield 69, 3) := by decide +kernel
theorem dX11_answer_5 : decode cX11_answer 5 = .ok (.iload_n 1, 1) := by decide +kernel
theorem dX11_answer_6 : decode cX11_answer 6 = .ok (.ireturn, 1) := by decide +kernel
theorem okX11_answer {E : Ev} {S : Sh} {Z : Option Nat} {Q : Int32 → Hp → Prop} {h : Hp} {a0 : Nat} {x1 : Int32} (hw : wX11_answer S h a0 x1 Q) : Ct E yX11_answer cX11_answer 2 (some .int) 1 24 0 0 S Z h [vr a0, vi x1] (qI S Z Q) := by
  refine Ct.of (by decide) (lc := [some (vr a0), some (vi x1)]) (Nat.le_of_ble_eq_true rfl) rfl (fun X O => ?_)
  unfold wX11_answer at hw
  refine g_aload_n O dX11_answer_0 rfl ?_
  refine g_iconst O dX11_answer_1 kv_0 ?_
  obtain ⟨c2, hw⟩ := hw
  refine pf_X11_lastTrouble O dX11_answer_2 fl_X11_69 c2 ?_
  refine g_iload_n O dX11_answer_5 rfl ?_
  exact g_ireturn O dX11_answer_6 ⟨rfl, rfl, _, rfl, hw⟩
theorem dX11_isMachine_0 : decode cX11_isMachine 0 = .ok (.iload_n 1, 1) := by decide +kernel
theorem dX11_isMachine_1 : decode cX11_isMachine 1 = .ok (.ifCond .lt 18, 3) := by decide +kernel
theorem dX11_isMachine_4 : decode cX11_isMachine 4 = .ok (.iload_n 1, 1) := by decide +kernel
theorem dX11_isMachine_5 : decode cX11_isMachine 5 = .ok (.aload_n 0, 1) := by decide +kernel
theorem dX11_isMachine_6 : decode cX11_isMachine 6 = .ok (.getfield 55, 3) := by decide +kernel
theorem dX11_isMachine_9 : decode cX11_isMachine 9 = .ok (.getfield 106, 3) := by decide +kernel
theorem dX11_isMachine_12 : decode cX11_isMachine 12 = .ok (.if_icmp .ge 7, 3) := by decide +kernel
theorem dX11_isMachine_15 : decode cX11_isMachine 15 = .ok (.iconst 1, 1) := by decide +kernel
theorem dX11_isMachine_16 : decode cX11_isMachine 16 = .ok (.goto 4, 3) := by decide +kernel
theorem dX11_isMachine_19 : decode cX11_isMachine 19 = .ok (.iconst 0, 1) := by decide +kernel
theorem dX11_isMachine_20 : decode cX11_isMachine 20 = .ok (.ireturn, 1) := by decide +kernel
theorem okX11_isMachine {E : Ev} {S : Sh} {Z : Option Nat} {Q : Int32 → Hp → Prop} {h : Hp} {a0 : Nat} {x1 : Int32} (hw : wX11_isMachine S h a0 x1 Q) : Ct E yX11_isMachine cX11_isMachine 2 (some .boolean) 1 24 0 0 S Z h [vr a0, vi x1] (qI S Z Q) := by
  refine Ct.of (by decide) (lc := [some (vr a0), some (vi x1)]) (Nat.le_of_ble_eq_true rfl) rfl (fun X O => ?_)
  unfold wX11_isMachine at hw
  refine g_iload_n O dX11_isMachine_0 rfl ?_
  refine g_if_lt (tgt := 19) O dX11_isMachine_1 rfl (fun q1 => ?_) (fun q1 => ?_)
  · have hw := hw.1 q1
    refine g_iconst O dX11_isMachine_19 kv_0 ?_
    exact g_zreturn O dX11_isMachine_20 (by decide) ⟨rfl, rfl, _, rfl, hw⟩
  · have hw := hw.2 q1
    refine g_iload_n O dX11_isMachine_4 rfl ?_
    refine g_aload_n O dX11_isMachine_5 rfl ?_
    obtain ⟨c6, hw⟩ := hw
    refine gf_X11_model O dX11_isMachine_6 fl_X11_55 c6 ?_
    obtain ⟨c9, hw⟩ := hw
    refine gf_X3_count O dX11_isMachine_9 fl_X11_106 c9 ?_
    refine g_icmp_ge (tgt := 19) O dX11_isMachine_12 rfl (fun q12 => ?_) (fun q12 => ?_)
    · have hw := hw.1 q12
      refine g_iconst O dX11_isMachine_19 kv_0 ?_
      exact g_zreturn O dX11_isMachine_20 (by decide) ⟨rfl, rfl, _, rfl, hw⟩
    · have hw := hw.2 q12
      refine g_iconst O dX11_isMachine_15 kv_1 ?_
      refine g_goto (tgt := 20) O dX11_isMachine_16 rfl ?_
      exact g_zreturn O dX11_isMachine_20 (by decide) ⟨rfl, rfl, _, rfl, hw⟩
theorem dX11_isEvent_0 : decode cX11_isEvent 0 = .ok (.aload_n 0, 1) := by decide +kernel
theorem dX11_isEvent_1 : decode cX11_isEvent 1 = .ok (.iload_n 1, 1) := by decide +kernel
theorem dX11_isEvent_2 : decode cX11_isEvent 2 = .ok (.invokevirtual 112, 3) := by decide +kernel
theorem dX11_isEvent_5 : decode cX11_isEvent 5 = .ok (.ifCond .eq 27, 3) := by decide +kernel
theorem dX11_isEvent_8 : decode cX11_isEvent 8 = .ok (.iload_n 2, 1) := by decide +kernel
theorem dX11_isEvent_9 : decode cX11_isEvent 9 = .ok (.ifCond .lt 23, 3) := by decide +kernel
theorem dX11_isEvent_12 : decode cX11_isEvent 12 = .ok (.iload_n 2, 1) := by decide +kernel
theorem dX11_isEvent_13 : decode cX11_isEvent 13 = .ok (.aload_n 0, 1) := by decide +kernel
theorem dX11_isEvent_14 : decode cX11_isEvent 14 = .ok (.getfield 55, 3) := by decide +kernel
theorem dX11_isEvent_17 : decode cX11_isEvent 17 = .ok (.getfield 116, 3) := by decide +kernel
theorem dX11_isEvent_20 : decode cX11_isEvent 20 = .ok (.iload_n 1, 1) := by decide +kernel
theorem dX11_isEvent_21 : decode cX11_isEvent 21 = .ok (.aaload, 1) := by decide +kernel
theorem dX11_isEvent_22 : decode cX11_isEvent 22 = .ok (.getfield 315, 3) := by decide +kernel
theorem dX11_isEvent_25 : decode cX11_isEvent 25 = .ok (.if_icmp .ge 7, 3) := by decide +kernel
theorem dX11_isEvent_28 : decode cX11_isEvent 28 = .ok (.iconst 1, 1) := by decide +kernel
theorem dX11_isEvent_29 : decode cX11_isEvent 29 = .ok (.goto 4, 3) := by decide +kernel
theorem dX11_isEvent_32 : decode cX11_isEvent 32 = .ok (.iconst 0, 1) := by decide +kernel
theorem dX11_isEvent_33 : decode cX11_isEvent 33 = .ok (.ireturn, 1) := by decide +kernel
theorem okX11_isEvent {E : Ev} {S : Sh} {Z : Option Nat} {Q : Int32 → Hp → Prop} {h : Hp} {a0 : Nat} {x1 : Int32} {x2 : Int32} (hw : wX11_isEvent S h a0 x1 x2 Q) : Ct E yX11_isEvent cX11_isEvent 3 (some .boolean) 2 45 0 0 S Z h [vr a0, vi x1, vi x2] (qI S Z Q) := by
  refine Ct.of (by decide) (lc := [some (vr a0), some (vi x1), some (vi x2)]) (Nat.le_of_ble_eq_true rfl) rfl (fun X O => ?_)
  unfold wX11_isEvent at hw
  refine g_aload_n O dX11_isEvent_0 rfl ?_
  refine g_iload_n O dX11_isEvent_1 rfl ?_
  obtain ⟨c2, hw⟩ := hw
  refine g_callV (As := [vi x1]) (rest := []) O ci_11 rfl dX11_isEvent_2 ml_X11_112 im_yX11_isMachine se_yX11_isMachine ini_X11 co_yX11_isMachine yo_yX11_isMachine c2 rfl rfl (Nat.le_of_ble_eq_true rfl) ⟨by decide, by decide, by decide, by decide⟩ (okX11_isMachine hw) (k_I fun r2 h2 hw => ?_)
  refine g_if_eq (tgt := 32) O dX11_isEvent_5 rfl (fun q5 => ?_) (fun q5 => ?_)
  · have hw := hw.1 q5
    refine g_iconst O dX11_isEvent_32 kv_0 ?_
    exact g_zreturn O dX11_isEvent_33 (by decide) ⟨rfl, rfl, _, rfl, hw⟩
  · have hw := hw.2 q5
    refine g_iload_n O dX11_isEvent_8 rfl ?_
    refine g_if_lt (tgt := 32) O dX11_isEvent_9 rfl (fun q9 => ?_) (fun q9 => ?_)
    · have hw := hw.1 q9
      refine g_iconst O dX11_isEvent_32 kv_0 ?_
      exact g_zreturn O dX11_isEvent_33 (by decide) ⟨rfl, rfl, _, rfl, hw⟩
    · have hw := hw.2 q9
      refine g_iload_n O dX11_isEvent_12 rfl ?_
      refine g_aload_n O dX11_isEvent_13 rfl ?_
      refine gf_X11_model O dX11_isEvent_14 fl_X11_55 c2 ?_
      obtain ⟨c17, hw⟩ := hw
      refine gf_X3_machines O dX11_isEvent_17 fl_X11_116 c17 ?_
      refine g_iload_n O dX11_isEvent_20 rfl ?_
      obtain ⟨c21, hw⟩ := hw
      refine g_aaload (t := 1) (C := "FinerSteps$Machine") O rfl dX11_isEvent_21 c21.1 c21.2 ?_
      obtain ⟨c22, hw⟩ := hw
      refine gf_X2_events O dX11_isEvent_22 fl_X11_315 c22 ?_
      refine g_icmp_ge (tgt := 32) O dX11_isEvent_25 rfl (fun q25 => ?_) (fun q25 => ?_)
      · have hw := hw.1 q25
        refine g_iconst O dX11_isEvent_32 kv_0 ?_
        exact g_zreturn O dX11_isEvent_33 (by decide) ⟨rfl, rfl, _, rfl, hw⟩
      · have hw := hw.2 q25
        refine g_iconst O dX11_isEvent_28 kv_1 ?_
        refine g_goto (tgt := 33) O dX11_isEvent_29 rfl ?_
        exact g_zreturn O dX11_isEvent_33 (by decide) ⟨rfl, rfl, _, rfl, hw⟩
theorem dX11_refuse_0 : decode cX11_refuse 0 = .ok (.aload_n 0, 1) := by decide +kernel
theorem dX11_refuse_1 : decode cX11_refuse 1 = .ok (.iload_n 1, 1) := by decide +kernel
theorem dX11_refuse_2 : decode cX11_refuse 2 = .ok (.putfield 69, 3) := by decide +kernel
theorem dX11_refuse_5 : decode cX11_refuse 5 = .ok (.iconst (-1), 1) := by decide +kernel
theorem dX11_refuse_6 : decode cX11_refuse 6 = .ok (.ireturn, 1) := by decide +kernel
theorem okX11_refuse {E : Ev} {S : Sh} {Z : Option Nat} {Q : Int32 → Hp → Prop} {h : Hp} {a0 : Nat} {x1 : Int32} (hw : wX11_refuse S h a0 x1 Q) : Ct E yX11_refuse cX11_refuse 2 (some .int) 1 24 0 0 S Z h [vr a0, vi x1] (qI S Z Q) := by
  refine Ct.of (by decide) (lc := [some (vr a0), some (vi x1)]) (Nat.le_of_ble_eq_true rfl) rfl (fun X O => ?_)
  unfold wX11_refuse at hw
  refine g_aload_n O dX11_refuse_0 rfl ?_
  refine g_iload_n O dX11_refuse_1 rfl ?_
  obtain ⟨c2, hw⟩ := hw
  refine pf_X11_lastTrouble O dX11_refuse_2 fl_X11_69 c2 ?_
  refine g_iconst O dX11_refuse_5 kv_m1 ?_
  exact g_ireturn O dX11_refuse_6 ⟨rfl, rfl, _, rfl, hw⟩
theorem dX11_aside_0 : decode cX11_aside 0 = .ok (.aload_n 0, 1) := by decide +kernel
theorem dX11_aside_1 : decode cX11_aside 1 = .ok (.iload_n 1, 1) := by decide +kernel
theorem dX11_aside_2 : decode cX11_aside 2 = .ok (.iload_n 2, 1) := by decide +kernel
theorem dX11_aside_3 : decode cX11_aside 3 = .ok (.invokevirtual 138, 3) := by decide +kernel
theorem dX11_aside_6 : decode cX11_aside 6 = .ok (.ifCond .ne 9, 3) := by decide +kernel
theorem dX11_aside_9 : decode cX11_aside 9 = .ok (.aload_n 0, 1) := by decide +kernel
theorem dX11_aside_10 : decode cX11_aside 10 = .ok (.iconst 1, 1) := by decide +kernel
theorem dX11_aside_11 : decode cX11_aside 11 = .ok (.invokevirtual 82, 3) := by decide +kernel
theorem dX11_aside_14 : decode cX11_aside 14 = .ok (.ireturn, 1) := by decide +kernel
theorem dX11_aside_15 : decode cX11_aside 15 = .ok (.aload_n 0, 1) := by decide +kernel
theorem dX11_aside_16 : decode cX11_aside 16 = .ok (.getfield 55, 3) := by decide +kernel
theorem dX11_aside_19 : decode cX11_aside 19 = .ok (.getfield 116, 3) := by decide +kernel
theorem dX11_aside_22 : decode cX11_aside 22 = .ok (.iload_n 1, 1) := by decide +kernel
theorem dX11_aside_23 : decode cX11_aside 23 = .ok (.aaload, 1) := by decide +kernel
theorem dX11_aside_24 : decode cX11_aside 24 = .ok (.astore 4, 2) := by decide +kernel
theorem dX11_aside_26 : decode cX11_aside 26 = .ok (.aload 4, 2) := by decide +kernel
theorem dX11_aside_28 : decode cX11_aside 28 = .ok (.getfield 141, 3) := by decide +kernel
theorem dX11_aside_31 : decode cX11_aside 31 = .ok (.iload_n 2, 1) := by decide +kernel
theorem dX11_aside_32 : decode cX11_aside 32 = .ok (.aaload, 1) := by decide +kernel
theorem dX11_aside_33 : decode cX11_aside 33 = .ok (.getfield 283, 3) := by decide +kernel
theorem dX11_aside_36 : decode cX11_aside 36 = .ok (.iload_n 3, 1) := by decide +kernel
theorem dX11_aside_37 : decode cX11_aside 37 = .ok (.if_icmp .ne 9, 3) := by decide +kernel
theorem dX11_aside_40 : decode cX11_aside 40 = .ok (.aload_n 0, 1) := by decide +kernel
theorem dX11_aside_41 : decode cX11_aside 41 = .ok (.iconst 5, 1) := by decide +kernel
theorem dX11_aside_42 : decode cX11_aside 42 = .ok (.invokevirtual 82, 3) := by decide +kernel
theorem dX11_aside_45 : decode cX11_aside 45 = .ok (.ireturn, 1) := by decide +kernel
theorem dX11_aside_46 : decode cX11_aside 46 = .ok (.aload 4, 2) := by decide +kernel
theorem dX11_aside_48 : decode cX11_aside 48 = .ok (.getfield 141, 3) := by decide +kernel
theorem dX11_aside_51 : decode cX11_aside 51 = .ok (.iload_n 2, 1) := by decide +kernel
theorem dX11_aside_52 : decode cX11_aside 52 = .ok (.aaload, 1) := by decide +kernel
theorem dX11_aside_53 : decode cX11_aside 53 = .ok (.iload_n 3, 1) := by decide +kernel
theorem dX11_aside_54 : decode cX11_aside 54 = .ok (.putfield 283, 3) := by decide +kernel
theorem dX11_aside_57 : decode cX11_aside 57 = .ok (.aload_n 0, 1) := by decide +kernel
theorem dX11_aside_58 : decode cX11_aside 58 = .ok (.getfield 55, 3) := by decide +kernel
theorem dX11_aside_61 : decode cX11_aside 61 = .ok (.invokevirtual 287, 3) := by decide +kernel
theorem dX11_aside_64 : decode cX11_aside 64 = .ok (.aload_n 0, 1) := by decide +kernel
theorem dX11_aside_65 : decode cX11_aside 65 = .ok (.aload 4, 2) := by decide +kernel
theorem dX11_aside_67 : decode cX11_aside 67 = .ok (.invokevirtual 290, 3) := by decide +kernel
theorem dX11_aside_70 : decode cX11_aside 70 = .ok (.invokevirtual 109, 3) := by decide +kernel
theorem dX11_aside_73 : decode cX11_aside 73 = .ok (.ireturn, 1) := by decide +kernel
theorem okX11_aside {E : Ev} {S : Sh} {Z : Option Nat} {Q : Int32 → Hp → Prop} {h : Hp} {a0 : Nat} {x1 : Int32} {x2 : Int32} {x3 : Int32} (hw : wX11_aside S h a0 x1 x2 x3 Q) : Ct E yX11_aside cX11_aside 5 (some .int) 3 67 0 0 S Z h [vr a0, vi x1, vi x2, vi x3] (qI S Z Q) := by
  refine Ct.of (by decide) (lc := [some (vr a0), some (vi x1), some (vi x2), some (vi x3), none]) (Nat.le_of_ble_eq_true rfl) rfl (fun X O => ?_)
  unfold wX11_aside at hw
  refine g_aload_n O dX11_aside_0 rfl ?_
  refine g_iload_n O dX11_aside_1 rfl ?_
  refine g_iload_n O dX11_aside_2 rfl ?_
  obtain ⟨c3, hw⟩ := hw
  refine g_callV (As := [vi x1, vi x2]) (rest := []) O ci_11 rfl dX11_aside_3 ml_X11_138 im_yX11_isEvent se_yX11_isEvent ini_X11 co_yX11_isEvent yo_yX11_isEvent c3 rfl rfl (Nat.le_of_ble_eq_true rfl) ⟨by decide, by decide, by decide, by decide⟩ (okX11_isEvent hw) (k_I fun r3 h3 hw => ?_)
  refine g_if_ne (tgt := 15) O dX11_aside_6 rfl (fun q6 => ?_) (fun q6 => ?_)
  · have hw := hw.1 q6
    refine g_aload_n O dX11_aside_15 rfl ?_
    refine gf_X11_model O dX11_aside_16 fl_X11_55 c3 ?_
    obtain ⟨c19, hw⟩ := hw
    refine gf_X3_machines O dX11_aside_19 fl_X11_116 c19 ?_
    refine g_iload_n O dX11_aside_22 rfl ?_
    obtain ⟨c23, hw⟩ := hw
    refine g_aaload (t := 1) (C := "FinerSteps$Machine") O rfl dX11_aside_23 c23.1 c23.2 ?_
    refine g_nmR (fun av24 e24 => ?_)
    have hw := hw av24 e24
    refine g_astore (lc' := [some (vr a0), some (vi x1), some (vi x2), some (vi x3), some (vr av24)]) O dX11_aside_24 rfl (Nat.le_of_ble_eq_true rfl) rfl ?_
    refine g_aload O dX11_aside_26 rfl ?_
    obtain ⟨c28, hw⟩ := hw
    refine gf_X2_event O dX11_aside_28 fl_X11_141 c28 ?_
    refine g_iload_n O dX11_aside_31 rfl ?_
    obtain ⟨c32, hw⟩ := hw
    refine g_aaload (t := 0) (C := "FinerSteps$Event") O rfl dX11_aside_32 c32.1 c32.2 ?_
    obtain ⟨c33, hw⟩ := hw
    refine gf_X0_aside O dX11_aside_33 fl_X11_283 c33 ?_
    refine g_iload_n O dX11_aside_36 rfl ?_
    refine g_icmp_ne (tgt := 46) O dX11_aside_37 rfl (fun q37 => ?_) (fun q37 => ?_)
    · have hw := hw.1 q37
      refine g_aload O dX11_aside_46 rfl ?_
      refine gf_X2_event O dX11_aside_48 fl_X11_141 c28 ?_
      refine g_iload_n O dX11_aside_51 rfl ?_
      refine g_aaload (t := 0) (C := "FinerSteps$Event") O rfl dX11_aside_52 c32.1 c32.2 ?_
      refine g_iload_n O dX11_aside_53 rfl ?_
      obtain ⟨c54z, hw⟩ := hw
      refine pf_X0_aside O dX11_aside_54 fl_X11_283 c33 c54z ?_
      refine g_nmH (fun h54 e54 => ?_)
      have hw := hw h54 e54
      refine g_aload_n O dX11_aside_57 rfl ?_
      refine gf_X11_model O dX11_aside_58 fl_X11_55 c3 ?_
      obtain ⟨c61, hw⟩ := hw
      refine g_callV (As := []) (rest := []) O ci_3 rfl dX11_aside_61 ml_X11_287 im_yX3_forgetVerdicts se_yX3_forgetVerdicts ini_X3 co_yX3_forgetVerdicts yo_yX3_forgetVerdicts c61 rfl rfl (Nat.le_of_ble_eq_true rfl) ⟨by decide, by decide, by decide, by decide⟩ (okX3_forgetVerdicts hw) (k_V fun h61 hw => ?_)
      refine g_aload_n O dX11_aside_64 rfl ?_
      refine g_aload O dX11_aside_65 rfl ?_
      refine g_callV (As := []) (rest := [vr a0]) O ci_2 rfl dX11_aside_67 ml_X11_290 im_yX2_countAside se_yX2_countAside ini_X2 co_yX2_countAside yo_yX2_countAside c28 rfl rfl (Nat.le_of_ble_eq_true rfl) ⟨by decide, by decide, by decide, by decide⟩ (okX2_countAside hw) (k_I fun r67 h67 hw => ?_)
      refine g_callV (As := [vi r67]) (rest := []) O ci_11 rfl dX11_aside_70 ml_X11_109 im_yX11_answer se_yX11_answer ini_X11 co_yX11_answer yo_yX11_answer c3 rfl rfl (Nat.le_of_ble_eq_true rfl) ⟨by decide, by decide, by decide, by decide⟩ (okX11_answer hw) (k_I fun r70 h70 hw => ?_)
      exact g_ireturn O dX11_aside_73 ⟨rfl, rfl, _, rfl, hw⟩
    · have hw := hw.2 q37
      refine g_aload_n O dX11_aside_40 rfl ?_
      refine g_iconst O dX11_aside_41 kv_5 ?_
      refine g_callV (As := [vi (5 : Int32)]) (rest := []) O ci_11 rfl dX11_aside_42 ml_X11_82 im_yX11_refuse se_yX11_refuse ini_X11 co_yX11_refuse yo_yX11_refuse c3 rfl rfl (Nat.le_of_ble_eq_true rfl) ⟨by decide, by decide, by decide, by decide⟩ (okX11_refuse hw) (k_I fun r42 h42 hw => ?_)
      exact g_ireturn O dX11_aside_45 ⟨rfl, rfl, _, rfl, hw⟩
  · have hw := hw.2 q6
    refine g_aload_n O dX11_aside_9 rfl ?_
    refine g_iconst O dX11_aside_10 kv_1 ?_
    refine g_callV (As := [vi (1 : Int32)]) (rest := []) O ci_11 rfl dX11_aside_11 ml_X11_82 im_yX11_refuse se_yX11_refuse ini_X11 co_yX11_refuse yo_yX11_refuse c3 rfl rfl (Nat.le_of_ble_eq_true rfl) ⟨by decide, by decide, by decide, by decide⟩ (okX11_refuse hw) (k_I fun r11 h11 hw => ?_)
    exact g_ireturn O dX11_aside_14 ⟨rfl, rfl, _, rfl, hw⟩
theorem dX11_isState_0 : decode cX11_isState 0 = .ok (.aload_n 0, 1) := by decide +kernel
theorem dX11_isState_1 : decode cX11_isState 1 = .ok (.iload_n 1, 1) := by decide +kernel
theorem dX11_isState_2 : decode cX11_isState 2 = .ok (.invokevirtual 112, 3) := by decide +kernel
theorem dX11_isState_5 : decode cX11_isState 5 = .ok (.ifCond .eq 27, 3) := by decide +kernel
theorem dX11_isState_8 : decode cX11_isState 8 = .ok (.iload_n 2, 1) := by decide +kernel
theorem dX11_isState_9 : decode cX11_isState 9 = .ok (.ifCond .lt 23, 3) := by decide +kernel
theorem dX11_isState_12 : decode cX11_isState 12 = .ok (.iload_n 2, 1) := by decide +kernel
theorem dX11_isState_13 : decode cX11_isState 13 = .ok (.aload_n 0, 1) := by decide +kernel
theorem dX11_isState_14 : decode cX11_isState 14 = .ok (.getfield 55, 3) := by decide +kernel
theorem dX11_isState_17 : decode cX11_isState 17 = .ok (.getfield 116, 3) := by decide +kernel
theorem dX11_isState_20 : decode cX11_isState 20 = .ok (.iload_n 1, 1) := by decide +kernel
theorem dX11_isState_21 : decode cX11_isState 21 = .ok (.aaload, 1) := by decide +kernel
theorem dX11_isState_22 : decode cX11_isState 22 = .ok (.getfield 318, 3) := by decide +kernel
theorem dX11_isState_25 : decode cX11_isState 25 = .ok (.if_icmp .ge 7, 3) := by decide +kernel
theorem dX11_isState_28 : decode cX11_isState 28 = .ok (.iconst 1, 1) := by decide +kernel
theorem dX11_isState_29 : decode cX11_isState 29 = .ok (.goto 4, 3) := by decide +kernel
theorem dX11_isState_32 : decode cX11_isState 32 = .ok (.iconst 0, 1) := by decide +kernel
theorem dX11_isState_33 : decode cX11_isState 33 = .ok (.ireturn, 1) := by decide +kernel
theorem okX11_isState {E : Ev} {S : Sh} {Z : Option Nat} {Q : Int32 → Hp → Prop} {h : Hp} {a0 : Nat} {x1 : Int32} {x2 : Int32} (hw : wX11_isState S h a0 x1 x2 Q) : Ct E yX11_isState cX11_isState 3 (some .boolean) 2 45 0 0 S Z h [vr a0, vi x1, vi x2] (qI S Z Q) := by
  refine Ct.of (by decide) (lc := [some (vr a0), some (vi x1), some (vi x2)]) (Nat.le_of_ble_eq_true rfl) rfl (fun X O => ?_)
  unfold wX11_isState at hw
  refine g_aload_n O dX11_isState_0 rfl ?_
  refine g_iload_n O dX11_isState_1 rfl ?_
  obtain ⟨c2, hw⟩ := hw
  refine g_callV (As := [vi x1]) (rest := []) O ci_11 rfl dX11_isState_2 ml_X11_112 im_yX11_isMachine se_yX11_isMachine ini_X11 co_yX11_isMachine yo_yX11_isMachine c2 rfl rfl (Nat.le_of_ble_eq_true rfl) ⟨by decide, by decide, by decide, by decide⟩ (okX11_isMachine hw) (k_I fun r2 h2 hw => ?_)
  refine g_if_eq (tgt := 32) O dX11_isState_5 rfl (fun q5 => ?_) (fun q5 => ?_)
  · have hw := hw.1 q5
    refine g_iconst O dX11_isState_32 kv_0 ?_
    exact g_zreturn O dX11_isState_33 (by decide) ⟨rfl, rfl, _, rfl, hw⟩
  · have hw := hw.2 q5
    refine g_iload_n O dX11_isState_8 rfl ?_
    refine g_if_lt (tgt := 32) O dX11_isState_9 rfl (fun q9 => ?_) (fun q9 => ?_)
    · have hw := hw.1 q9
      refine g_iconst O dX11_isState_32 kv_0 ?_
      exact g_zreturn O dX11_isState_33 (by decide) ⟨rfl, rfl, _, rfl, hw⟩
    · have hw := hw.2 q9
      refine g_iload_n O dX11_isState_12 rfl ?_
      refine g_aload_n O dX11_isState_13 rfl ?_
      refine gf_X11_model O dX11_isState_14 fl_X11_55 c2 ?_
      obtain ⟨c17, hw⟩ := hw
      refine gf_X3_machines O dX11_isState_17 fl_X11_116 c17 ?_
      refine g_iload_n O dX11_isState_20 rfl ?_
      obtain ⟨c21, hw⟩ := hw
      refine g_aaload (t := 1) (C := "FinerSteps$Machine") O rfl dX11_isState_21 c21.1 c21.2 ?_
      obtain ⟨c22, hw⟩ := hw
      refine gf_X2_states O dX11_isState_22 fl_X11_318 c22 ?_
      refine g_icmp_ge (tgt := 32) O dX11_isState_25 rfl (fun q25 => ?_) (fun q25 => ?_)
      · have hw := hw.1 q25
        refine g_iconst O dX11_isState_32 kv_0 ?_
        exact g_zreturn O dX11_isState_33 (by decide) ⟨rfl, rfl, _, rfl, hw⟩
      · have hw := hw.2 q25
        refine g_iconst O dX11_isState_28 kv_1 ?_
        refine g_goto (tgt := 33) O dX11_isState_29 rfl ?_
        exact g_zreturn O dX11_isState_33 (by decide) ⟨rfl, rfl, _, rfl, hw⟩
theorem dX11_beneath_0 : decode cX11_beneath 0 = .ok (.iload_n 1, 1) := by decide +kernel
theorem dX11_beneath_1 : decode cX11_beneath 1 = .ok (.iconst 1, 1) := by decide +kernel
theorem dX11_beneath_2 : decode cX11_beneath 2 = .ok (.if_icmp .lt 16, 3) := by decide +kernel
theorem dX11_beneath_5 : decode cX11_beneath 5 = .ok (.aload_n 0, 1) := by decide +kernel
theorem dX11_beneath_6 : decode cX11_beneath 6 = .ok (.iload_n 1, 1) := by decide +kernel
theorem dX11_beneath_7 : decode cX11_beneath 7 = .ok (.iload_n 2, 1) := by decide +kernel
theorem dX11_beneath_8 : decode cX11_beneath 8 = .ok (.invokevirtual 148, 3) := by decide +kernel
theorem dX11_beneath_11 : decode cX11_beneath 11 = .ok (.ifCond .eq 7, 3) := by decide +kernel
theorem dX11_beneath_14 : decode cX11_beneath 14 = .ok (.iload_n 3, 1) := by decide +kernel
theorem dX11_beneath_15 : decode cX11_beneath 15 = .ok (.ifCond .ge 9, 3) := by decide +kernel
theorem dX11_beneath_18 : decode cX11_beneath 18 = .ok (.aload_n 0, 1) := by decide +kernel
theorem dX11_beneath_19 : decode cX11_beneath 19 = .ok (.iconst 1, 1) := by decide +kernel
theorem dX11_beneath_20 : decode cX11_beneath 20 = .ok (.invokevirtual 82, 3) := by decide +kernel
theorem dX11_beneath_23 : decode cX11_beneath 23 = .ok (.ireturn, 1) := by decide +kernel
theorem dX11_beneath_24 : decode cX11_beneath 24 = .ok (.aload_n 0, 1) := by decide +kernel
theorem dX11_beneath_25 : decode cX11_beneath 25 = .ok (.aload_n 0, 1) := by decide +kernel
theorem dX11_beneath_26 : decode cX11_beneath 26 = .ok (.getfield 55, 3) := by decide +kernel
theorem dX11_beneath_29 : decode cX11_beneath 29 = .ok (.getfield 116, 3) := by decide +kernel
theorem dX11_beneath_32 : decode cX11_beneath 32 = .ok (.iload_n 1, 1) := by decide +kernel
theorem dX11_beneath_33 : decode cX11_beneath 33 = .ok (.aaload, 1) := by decide +kernel
theorem dX11_beneath_34 : decode cX11_beneath 34 = .ok (.getfield 159, 3) := by decide +kernel
theorem dX11_beneath_37 : decode cX11_beneath 37 = .ok (.iload_n 2, 1) := by decide +kernel
theorem dX11_beneath_38 : decode cX11_beneath 38 = .ok (.aaload, 1) := by decide +kernel
theorem dX11_beneath_39 : decode cX11_beneath 39 = .ok (.iload_n 3, 1) := by decide +kernel
theorem dX11_beneath_40 : decode cX11_beneath 40 = .ok (.invokevirtual 168, 3) := by decide +kernel
theorem dX11_beneath_43 : decode cX11_beneath 43 = .ok (.invokevirtual 109, 3) := by decide +kernel
theorem dX11_beneath_46 : decode cX11_beneath 46 = .ok (.ireturn, 1) := by decide +kernel
theorem okX11_beneath {E : Ev} {S : Sh} {Z : Option Nat} {Q : Int32 → Hp → Prop} {h : Hp} {a0 : Nat} {x1 : Int32} {x2 : Int32} {x3 : Int32} (hw : wX11_beneath S h a0 x1 x2 x3 Q) : Ct E yX11_beneath cX11_beneath 4 (some .int) 3 70 0 0 S Z h [vr a0, vi x1, vi x2, vi x3] (qI S Z Q) := by
  refine Ct.of (by decide) (lc := [some (vr a0), some (vi x1), some (vi x2), some (vi x3)]) (Nat.le_of_ble_eq_true rfl) rfl (fun X O => ?_)
  unfold wX11_beneath at hw
  refine g_iload_n O dX11_beneath_0 rfl ?_
  refine g_iconst O dX11_beneath_1 kv_1 ?_
  refine g_icmp_lt (tgt := 18) O dX11_beneath_2 rfl (fun q2 => ?_) (fun q2 => ?_)
  · have hw := hw.1 q2
    refine g_aload_n O dX11_beneath_18 rfl ?_
    refine g_iconst O dX11_beneath_19 kv_1 ?_
    obtain ⟨c20, hw⟩ := hw
    refine g_callV (As := [vi (1 : Int32)]) (rest := []) O ci_11 rfl dX11_beneath_20 ml_X11_82 im_yX11_refuse se_yX11_refuse ini_X11 co_yX11_refuse yo_yX11_refuse c20 rfl rfl (Nat.le_of_ble_eq_true rfl) ⟨by decide, by decide, by decide, by decide⟩ (okX11_refuse hw) (k_I fun r20 h20 hw => ?_)
    exact g_ireturn O dX11_beneath_23 ⟨rfl, rfl, _, rfl, hw⟩
  · have hw := hw.2 q2
    refine g_aload_n O dX11_beneath_5 rfl ?_
    refine g_iload_n O dX11_beneath_6 rfl ?_
    refine g_iload_n O dX11_beneath_7 rfl ?_
    obtain ⟨c8, hw⟩ := hw
    refine g_callV (As := [vi x1, vi x2]) (rest := []) O ci_11 rfl dX11_beneath_8 ml_X11_148 im_yX11_isState se_yX11_isState ini_X11 co_yX11_isState yo_yX11_isState c8 rfl rfl (Nat.le_of_ble_eq_true rfl) ⟨by decide, by decide, by decide, by decide⟩ (okX11_isState hw) (k_I fun r8 h8 hw => ?_)
    refine g_if_eq (tgt := 18) O dX11_beneath_11 rfl (fun q11 => ?_) (fun q11 => ?_)
    · have hw := hw.1 q11
      refine g_aload_n O dX11_beneath_18 rfl ?_
      refine g_iconst O dX11_beneath_19 kv_1 ?_
      refine g_callV (As := [vi (1 : Int32)]) (rest := []) O ci_11 rfl dX11_beneath_20 ml_X11_82 im_yX11_refuse se_yX11_refuse ini_X11 co_yX11_refuse yo_yX11_refuse c8 rfl rfl (Nat.le_of_ble_eq_true rfl) ⟨by decide, by decide, by decide, by decide⟩ (okX11_refuse hw) (k_I fun r20 h20 hw => ?_)
      exact g_ireturn O dX11_beneath_23 ⟨rfl, rfl, _, rfl, hw⟩
    · have hw := hw.2 q11
      refine g_iload_n O dX11_beneath_14 rfl ?_
      refine g_if_ge (tgt := 24) O dX11_beneath_15 rfl (fun q15 => ?_) (fun q15 => ?_)
      · have hw := hw.1 q15
        refine g_aload_n O dX11_beneath_24 rfl ?_
        refine g_aload_n O dX11_beneath_25 rfl ?_
        refine gf_X11_model O dX11_beneath_26 fl_X11_55 c8 ?_
        obtain ⟨c29, hw⟩ := hw
        refine gf_X3_machines O dX11_beneath_29 fl_X11_116 c29 ?_
        refine g_iload_n O dX11_beneath_32 rfl ?_
        obtain ⟨c33, hw⟩ := hw
        refine g_aaload (t := 1) (C := "FinerSteps$Machine") O rfl dX11_beneath_33 c33.1 c33.2 ?_
        obtain ⟨c34, hw⟩ := hw
        refine gf_X2_glue O dX11_beneath_34 fl_X11_159 c34 ?_
        refine g_iload_n O dX11_beneath_37 rfl ?_
        obtain ⟨c38, hw⟩ := hw
        refine g_aaload (t := 2) (C := "FinerSteps$StateSet") O rfl dX11_beneath_38 c38.1 c38.2 ?_
        refine g_iload_n O dX11_beneath_39 rfl ?_
        obtain ⟨c40, hw⟩ := hw
        refine g_callV (As := [vi x3]) (rest := [vr a0]) O ci_7 rfl dX11_beneath_40 ml_X11_168 im_yX7_member se_yX7_member ini_X7 co_yX7_member yo_yX7_member c40 rfl rfl (Nat.le_of_ble_eq_true rfl) ⟨by decide, by decide, by decide, by decide⟩ (okX7_member hw) (k_I fun r40 h40 hw => ?_)
        refine g_callV (As := [vi r40]) (rest := []) O ci_11 rfl dX11_beneath_43 ml_X11_109 im_yX11_answer se_yX11_answer ini_X11 co_yX11_answer yo_yX11_answer c8 rfl rfl (Nat.le_of_ble_eq_true rfl) ⟨by decide, by decide, by decide, by decide⟩ (okX11_answer hw) (k_I fun r43 h43 hw => ?_)
        exact g_ireturn O dX11_beneath_46 ⟨rfl, rfl, _, rfl, hw⟩
      · have hw := hw.2 q15
        refine g_aload_n O dX11_beneath_18 rfl ?_
        refine g_iconst O dX11_beneath_19 kv_1 ?_
        refine g_callV (As := [vi (1 : Int32)]) (rest := []) O ci_11 rfl dX11_beneath_20 ml_X11_82 im_yX11_refuse se_yX11_refuse ini_X11 co_yX11_refuse yo_yX11_refuse c8 rfl rfl (Nat.le_of_ble_eq_true rfl) ⟨by decide, by decide, by decide, by decide⟩ (okX11_refuse hw) (k_I fun r20 h20 hw => ?_)
        exact g_ireturn O dX11_beneath_23 ⟨rfl, rfl, _, rfl, hw⟩
theorem dX11_beside_0 : decode cX11_beside 0 = .ok (.aload_n 0, 1) := by decide +kernel
theorem dX11_beside_1 : decode cX11_beside 1 = .ok (.aload_n 0, 1) := by decide +kernel
theorem dX11_beside_2 : decode cX11_beside 2 = .ok (.getfield 30, 3) := by decide +kernel
theorem dX11_beside_5 : decode cX11_beside 5 = .ok (.getfield 240, 3) := by decide +kernel
theorem dX11_beside_8 : decode cX11_beside 8 = .ok (.invokevirtual 112, 3) := by decide +kernel
theorem dX11_beside_11 : decode cX11_beside 11 = .ok (.ifCond .eq 7, 3) := by decide +kernel
theorem dX11_beside_14 : decode cX11_beside 14 = .ok (.iload_n 1, 1) := by decide +kernel
theorem dX11_beside_15 : decode cX11_beside 15 = .ok (.ifCond .ge 9, 3) := by decide +kernel
theorem dX11_beside_18 : decode cX11_beside 18 = .ok (.aload_n 0, 1) := by decide +kernel
theorem dX11_beside_19 : decode cX11_beside 19 = .ok (.iconst 1, 1) := by decide +kernel
theorem dX11_beside_20 : decode cX11_beside 20 = .ok (.invokevirtual 82, 3) := by decide +kernel
theorem dX11_beside_23 : decode cX11_beside 23 = .ok (.ireturn, 1) := by decide +kernel
theorem dX11_beside_24 : decode cX11_beside 24 = .ok (.aload_n 0, 1) := by decide +kernel
theorem dX11_beside_25 : decode cX11_beside 25 = .ok (.aload_n 0, 1) := by decide +kernel
theorem dX11_beside_26 : decode cX11_beside 26 = .ok (.getfield 30, 3) := by decide +kernel
theorem dX11_beside_29 : decode cX11_beside 29 = .ok (.getfield 252, 3) := by decide +kernel
theorem dX11_beside_32 : decode cX11_beside 32 = .ok (.iload_n 1, 1) := by decide +kernel
theorem dX11_beside_33 : decode cX11_beside 33 = .ok (.invokevirtual 168, 3) := by decide +kernel
theorem dX11_beside_36 : decode cX11_beside 36 = .ok (.invokevirtual 109, 3) := by decide +kernel
theorem dX11_beside_39 : decode cX11_beside 39 = .ok (.ireturn, 1) := by decide +kernel
theorem okX11_beside {E : Ev} {S : Sh} {Z : Option Nat} {Q : Int32 → Hp → Prop} {h : Hp} {a0 : Nat} {x1 : Int32} (hw : wX11_beside S h a0 x1 Q) : Ct E yX11_beside cX11_beside 2 (some .int) 3 70 0 0 S Z h [vr a0, vi x1] (qI S Z Q) := by
  refine Ct.of (by decide) (lc := [some (vr a0), some (vi x1)]) (Nat.le_of_ble_eq_true rfl) rfl (fun X O => ?_)
  unfold wX11_beside at hw
  refine g_aload_n O dX11_beside_0 rfl ?_
  refine g_aload_n O dX11_beside_1 rfl ?_
  obtain ⟨c2, hw⟩ := hw
  refine gf_X11_walk O dX11_beside_2 fl_X11_30 c2 ?_
  obtain ⟨c5, hw⟩ := hw
  refine gf_X10_number O dX11_beside_5 fl_X11_240 c5 ?_
  refine g_callV (As := [vi ((gI h (gR h a0 3) 2))]) (rest := []) O ci_11 rfl dX11_beside_8 ml_X11_112 im_yX11_isMachine se_yX11_isMachine ini_X11 co_yX11_isMachine yo_yX11_isMachine c2 rfl rfl (Nat.le_of_ble_eq_true rfl) ⟨by decide, by decide, by decide, by decide⟩ (okX11_isMachine hw) (k_I fun r8 h8 hw => ?_)
  refine g_if_eq (tgt := 18) O dX11_beside_11 rfl (fun q11 => ?_) (fun q11 => ?_)
  · have hw := hw.1 q11
    refine g_aload_n O dX11_beside_18 rfl ?_
    refine g_iconst O dX11_beside_19 kv_1 ?_
    refine g_callV (As := [vi (1 : Int32)]) (rest := []) O ci_11 rfl dX11_beside_20 ml_X11_82 im_yX11_refuse se_yX11_refuse ini_X11 co_yX11_refuse yo_yX11_refuse c2 rfl rfl (Nat.le_of_ble_eq_true rfl) ⟨by decide, by decide, by decide, by decide⟩ (okX11_refuse hw) (k_I fun r20 h20 hw => ?_)
    exact g_ireturn O dX11_beside_23 ⟨rfl, rfl, _, rfl, hw⟩
  · have hw := hw.2 q11
    refine g_iload_n O dX11_beside_14 rfl ?_
    refine g_if_ge (tgt := 24) O dX11_beside_15 rfl (fun q15 => ?_) (fun q15 => ?_)
    · have hw := hw.1 q15
      refine g_aload_n O dX11_beside_24 rfl ?_
      refine g_aload_n O dX11_beside_25 rfl ?_
      refine gf_X11_walk O dX11_beside_26 fl_X11_30 c2 ?_
      obtain ⟨c29, hw⟩ := hw
      refine gf_X10_near O dX11_beside_29 fl_X11_252 c29 ?_
      refine g_iload_n O dX11_beside_32 rfl ?_
      obtain ⟨c33, hw⟩ := hw
      refine g_callV (As := [vi x1]) (rest := [vr a0]) O ci_7 rfl dX11_beside_33 ml_X11_168 im_yX7_member se_yX7_member ini_X7 co_yX7_member yo_yX7_member c33 rfl rfl (Nat.le_of_ble_eq_true rfl) ⟨by decide, by decide, by decide, by decide⟩ (okX7_member hw) (k_I fun r33 h33 hw => ?_)
      refine g_callV (As := [vi r33]) (rest := []) O ci_11 rfl dX11_beside_36 ml_X11_109 im_yX11_answer se_yX11_answer ini_X11 co_yX11_answer yo_yX11_answer c2 rfl rfl (Nat.le_of_ble_eq_true rfl) ⟨by decide, by decide, by decide, by decide⟩ (okX11_answer hw) (k_I fun r36 h36 hw => ?_)
      exact g_ireturn O dX11_beside_39 ⟨rfl, rfl, _, rfl, hw⟩
    · have hw := hw.2 q15
      refine g_aload_n O dX11_beside_18 rfl ?_
      refine g_iconst O dX11_beside_19 kv_1 ?_
      refine g_callV (As := [vi (1 : Int32)]) (rest := []) O ci_11 rfl dX11_beside_20 ml_X11_82 im_yX11_refuse se_yX11_refuse ini_X11 co_yX11_refuse yo_yX11_refuse c2 rfl rfl (Nat.le_of_ble_eq_true rfl) ⟨by decide, by decide, by decide, by decide⟩ (okX11_refuse hw) (k_I fun r20 h20 hw => ?_)
      exact g_ireturn O dX11_beside_23 ⟨rfl, rfl, _, rfl, hw⟩
theorem dX11_can_0 : decode cX11_can 0 = .ok (.aload_n 0, 1) := by decide +kernel
theorem dX11_can_1 : decode cX11_can 1 = .ok (.iload_n 1, 1) := by decide +kernel
theorem dX11_can_2 : decode cX11_can 2 = .ok (.iload_n 2, 1) := by decide +kernel
theorem dX11_can_3 : decode cX11_can 3 = .ok (.invokevirtual 138, 3) := by decide +kernel
theorem dX11_can_6 : decode cX11_can 6 = .ok (.ifCond .eq 12, 3) := by decide +kernel
theorem dX11_can_9 : decode cX11_can 9 = .ok (.aload_n 0, 1) := by decide +kernel
theorem dX11_can_10 : decode cX11_can 10 = .ok (.iload_n 1, 1) := by decide +kernel
theorem dX11_can_11 : decode cX11_can 11 = .ok (.iload_n 3, 1) := by decide +kernel
theorem dX11_can_12 : decode cX11_can 12 = .ok (.invokevirtual 148, 3) := by decide +kernel
theorem dX11_can_15 : decode cX11_can 15 = .ok (.ifCond .ne 9, 3) := by decide +kernel
theorem dX11_can_18 : decode cX11_can 18 = .ok (.aload_n 0, 1) := by decide +kernel
theorem dX11_can_19 : decode cX11_can 19 = .ok (.iconst 1, 1) := by decide +kernel
theorem dX11_can_20 : decode cX11_can 20 = .ok (.invokevirtual 82, 3) := by decide +kernel
theorem dX11_can_23 : decode cX11_can 23 = .ok (.ireturn, 1) := by decide +kernel
theorem dX11_can_24 : decode cX11_can 24 = .ok (.aload_n 0, 1) := by decide +kernel
theorem dX11_can_25 : decode cX11_can 25 = .ok (.getfield 55, 3) := by decide +kernel
theorem dX11_can_28 : decode cX11_can 28 = .ok (.getfield 116, 3) := by decide +kernel
theorem dX11_can_31 : decode cX11_can 31 = .ok (.iload_n 1, 1) := by decide +kernel
theorem dX11_can_32 : decode cX11_can 32 = .ok (.aaload, 1) := by decide +kernel
theorem dX11_can_33 : decode cX11_can 33 = .ok (.getfield 141, 3) := by decide +kernel
theorem dX11_can_36 : decode cX11_can 36 = .ok (.iload_n 2, 1) := by decide +kernel
theorem dX11_can_37 : decode cX11_can 37 = .ok (.aaload, 1) := by decide +kernel
theorem dX11_can_38 : decode cX11_can 38 = .ok (.astore 5, 2) := by decide +kernel
theorem dX11_can_40 : decode cX11_can 40 = .ok (.aload 5, 2) := by decide +kernel
theorem dX11_can_42 : decode cX11_can 42 = .ok (.iload 4, 2) := by decide +kernel
theorem dX11_can_44 : decode cX11_can 44 = .ok (.invokevirtual 171, 3) := by decide +kernel
theorem dX11_can_47 : decode cX11_can 47 = .ok (.ifCond .ne 9, 3) := by decide +kernel
theorem dX11_can_50 : decode cX11_can 50 = .ok (.aload_n 0, 1) := by decide +kernel
theorem dX11_can_51 : decode cX11_can 51 = .ok (.iconst 2, 1) := by decide +kernel
theorem dX11_can_52 : decode cX11_can 52 = .ok (.invokevirtual 82, 3) := by decide +kernel
theorem dX11_can_55 : decode cX11_can 55 = .ok (.ireturn, 1) := by decide +kernel
theorem dX11_can_56 : decode cX11_can 56 = .ok (.aload_n 0, 1) := by decide +kernel
theorem dX11_can_57 : decode cX11_can 57 = .ok (.aload 5, 2) := by decide +kernel
theorem dX11_can_59 : decode cX11_can 59 = .ok (.iload_n 3, 1) := by decide +kernel
theorem dX11_can_60 : decode cX11_can 60 = .ok (.invokevirtual 174, 3) := by decide +kernel
theorem dX11_can_63 : decode cX11_can 63 = .ok (.iload 4, 2) := by decide +kernel
theorem dX11_can_65 : decode cX11_can 65 = .ok (.aload 5, 2) := by decide +kernel
theorem dX11_can_67 : decode cX11_can 67 = .ok (.getfield 177, 3) := by decide +kernel
theorem dX11_can_70 : decode cX11_can 70 = .ok (.isub, 1) := by decide +kernel
theorem dX11_can_71 : decode cX11_can 71 = .ok (.ishr, 1) := by decide +kernel
theorem dX11_can_72 : decode cX11_can 72 = .ok (.iconst 1, 1) := by decide +kernel
theorem dX11_can_73 : decode cX11_can 73 = .ok (.iand, 1) := by decide +kernel
theorem dX11_can_74 : decode cX11_can 74 = .ok (.invokevirtual 109, 3) := by decide +kernel
theorem dX11_can_77 : decode cX11_can 77 = .ok (.ireturn, 1) := by decide +kernel
theorem okX11_can {E : Ev} {S : Sh} {Z : Option Nat} {Q : Int32 → Hp → Prop} {h : Hp} {a0 : Nat} {x1 : Int32} {x2 : Int32} {x3 : Int32} {x4 : Int32} (hw : wX11_can S h a0 x1 x2 x3 x4 Q) : Ct E yX11_can cX11_can 6 (some .int) 3 67 0 0 S Z h [vr a0, vi x1, vi x2, vi x3, vi x4] (qI S Z Q) := by
  refine Ct.of (by decide) (lc := [some (vr a0), some (vi x1), some (vi x2), some (vi x3), some (vi x4), none]) (Nat.le_of_ble_eq_true rfl) rfl (fun X O => ?_)
  unfold wX11_can at hw
  refine g_aload_n O dX11_can_0 rfl ?_
  refine g_iload_n O dX11_can_1 rfl ?_
  refine g_iload_n O dX11_can_2 rfl ?_
  obtain ⟨c3, hw⟩ := hw
  refine g_callV (As := [vi x1, vi x2]) (rest := []) O ci_11 rfl dX11_can_3 ml_X11_138 im_yX11_isEvent se_yX11_isEvent ini_X11 co_yX11_isEvent yo_yX11_isEvent c3 rfl rfl (Nat.le_of_ble_eq_true rfl) ⟨by decide, by decide, by decide, by decide⟩ (okX11_isEvent hw) (k_I fun r3 h3 hw => ?_)
  refine g_if_eq (tgt := 18) O dX11_can_6 rfl (fun q6 => ?_) (fun q6 => ?_)
  · have hw := hw.1 q6
    refine g_aload_n O dX11_can_18 rfl ?_
    refine g_iconst O dX11_can_19 kv_1 ?_
    refine g_callV (As := [vi (1 : Int32)]) (rest := []) O ci_11 rfl dX11_can_20 ml_X11_82 im_yX11_refuse se_yX11_refuse ini_X11 co_yX11_refuse yo_yX11_refuse c3 rfl rfl (Nat.le_of_ble_eq_true rfl) ⟨by decide, by decide, by decide, by decide⟩ (okX11_refuse hw) (k_I fun r20 h20 hw => ?_)
    exact g_ireturn O dX11_can_23 ⟨rfl, rfl, _, rfl, hw⟩
  · have hw := hw.2 q6
    refine g_aload_n O dX11_can_9 rfl ?_
    refine g_iload_n O dX11_can_10 rfl ?_
    refine g_iload_n O dX11_can_11 rfl ?_
    refine g_callV (As := [vi x1, vi x3]) (rest := []) O ci_11 rfl dX11_can_12 ml_X11_148 im_yX11_isState se_yX11_isState ini_X11 co_yX11_isState yo_yX11_isState c3 rfl rfl (Nat.le_of_ble_eq_true rfl) ⟨by decide, by decide, by decide, by decide⟩ (okX11_isState hw) (k_I fun r12 h12 hw => ?_)
    refine g_if_ne (tgt := 24) O dX11_can_15 rfl (fun q15 => ?_) (fun q15 => ?_)
    · have hw := hw.1 q15
      refine g_aload_n O dX11_can_24 rfl ?_
      refine gf_X11_model O dX11_can_25 fl_X11_55 c3 ?_
      obtain ⟨c28, hw⟩ := hw
      refine gf_X3_machines O dX11_can_28 fl_X11_116 c28 ?_
      refine g_iload_n O dX11_can_31 rfl ?_
      obtain ⟨c32, hw⟩ := hw
      refine g_aaload (t := 1) (C := "FinerSteps$Machine") O rfl dX11_can_32 c32.1 c32.2 ?_
      obtain ⟨c33, hw⟩ := hw
      refine gf_X2_event O dX11_can_33 fl_X11_141 c33 ?_
      refine g_iload_n O dX11_can_36 rfl ?_
      obtain ⟨c37, hw⟩ := hw
      refine g_aaload (t := 0) (C := "FinerSteps$Event") O rfl dX11_can_37 c37.1 c37.2 ?_
      refine g_nmR (fun av38 e38 => ?_)
      have hw := hw av38 e38
      refine g_astore (lc' := [some (vr a0), some (vi x1), some (vi x2), some (vi x3), some (vi x4), some (vr av38)]) O dX11_can_38 rfl (Nat.le_of_ble_eq_true rfl) rfl ?_
      refine g_aload O dX11_can_40 rfl ?_
      refine g_iload O dX11_can_42 rfl ?_
      obtain ⟨c44, hw⟩ := hw
      refine g_callV (As := [vi x4]) (rest := []) O ci_0 rfl dX11_can_44 ml_X11_171 im_yX0_hasPick se_yX0_hasPick ini_X0 co_yX0_hasPick yo_yX0_hasPick c44 rfl rfl (Nat.le_of_ble_eq_true rfl) ⟨by decide, by decide, by decide, by decide⟩ (okX0_hasPick hw) (k_I fun r44 h44 hw => ?_)
      refine g_if_ne (tgt := 56) O dX11_can_47 rfl (fun q47 => ?_) (fun q47 => ?_)
      · have hw := hw.1 q47
        refine g_aload_n O dX11_can_56 rfl ?_
        refine g_aload O dX11_can_57 rfl ?_
        refine g_iload_n O dX11_can_59 rfl ?_
        refine g_callV (As := [vi x3]) (rest := [vr a0]) O ci_0 rfl dX11_can_60 ml_X11_174 im_yX0_picksAt se_yX0_picksAt ini_X0 co_yX0_picksAt yo_yX0_picksAt c44 rfl rfl (Nat.le_of_ble_eq_true rfl) ⟨by decide, by decide, by decide, by decide⟩ (okX0_picksAt hw) (k_I fun r60 h60 hw => ?_)
        refine g_iload O dX11_can_63 rfl ?_
        refine g_aload O dX11_can_65 rfl ?_
        refine gf_X0_first O dX11_can_67 fl_X11_177 c44 ?_
        refine g_isub O dX11_can_70 ?_
        refine g_ishr O dX11_can_71 ?_
        refine g_iconst O dX11_can_72 kv_1 ?_
        refine g_iand O dX11_can_73 ?_
        refine g_callV (As := [vi (((shr32 r60 ((x4 - (gI h60 av38 6)))) &&& (1 : Int32)))]) (rest := []) O ci_11 rfl dX11_can_74 ml_X11_109 im_yX11_answer se_yX11_answer ini_X11 co_yX11_answer yo_yX11_answer c3 rfl rfl (Nat.le_of_ble_eq_true rfl) ⟨by decide, by decide, by decide, by decide⟩ (okX11_answer hw) (k_I fun r74 h74 hw => ?_)
        exact g_ireturn O dX11_can_77 ⟨rfl, rfl, _, rfl, hw⟩
      · have hw := hw.2 q47
        refine g_aload_n O dX11_can_50 rfl ?_
        refine g_iconst O dX11_can_51 kv_2 ?_
        refine g_callV (As := [vi (2 : Int32)]) (rest := []) O ci_11 rfl dX11_can_52 ml_X11_82 im_yX11_refuse se_yX11_refuse ini_X11 co_yX11_refuse yo_yX11_refuse c3 rfl rfl (Nat.le_of_ble_eq_true rfl) ⟨by decide, by decide, by decide, by decide⟩ (okX11_refuse hw) (k_I fun r52 h52 hw => ?_)
        exact g_ireturn O dX11_can_55 ⟨rfl, rfl, _, rfl, hw⟩
    · have hw := hw.2 q15
      refine g_aload_n O dX11_can_18 rfl ?_
      refine g_iconst O dX11_can_19 kv_1 ?_
      refine g_callV (As := [vi (1 : Int32)]) (rest := []) O ci_11 rfl dX11_can_20 ml_X11_82 im_yX11_refuse se_yX11_refuse ini_X11 co_yX11_refuse yo_yX11_refuse c3 rfl rfl (Nat.le_of_ble_eq_true rfl) ⟨by decide, by decide, by decide, by decide⟩ (okX11_refuse hw) (k_I fun r20 h20 hw => ?_)
      exact g_ireturn O dX11_can_23 ⟨rfl, rfl, _, rfl, hw⟩
theorem dX11_isDuty_0 : decode cX11_isDuty 0 = .ok (.iload_n 3, 1) := by decide +kernel
theorem dX11_isDuty_1 : decode cX11_isDuty 1 = .ok (.iconst 3, 1) := by decide +kernel
theorem dX11_isDuty_2 : decode cX11_isDuty 2 = .ok (.if_icmp .eq 8, 3) := by decide +kernel
theorem dX11_isDuty_5 : decode cX11_isDuty 5 = .ok (.iload_n 3, 1) := by decide +kernel
theorem dX11_isDuty_6 : decode cX11_isDuty 6 = .ok (.iconst 4, 1) := by decide +kernel
theorem dX11_isDuty_7 : decode cX11_isDuty 7 = .ok (.if_icmp .ne 9, 3) := by decide +kernel
theorem dX11_isDuty_10 : decode cX11_isDuty 10 = .ok (.aload_n 0, 1) := by decide +kernel
theorem dX11_isDuty_11 : decode cX11_isDuty 11 = .ok (.iload_n 1, 1) := by decide +kernel
theorem dX11_isDuty_12 : decode cX11_isDuty 12 = .ok (.invokevirtual 112, 3) := by decide +kernel
theorem dX11_isDuty_15 : decode cX11_isDuty 15 = .ok (.ireturn, 1) := by decide +kernel
theorem dX11_isDuty_16 : decode cX11_isDuty 16 = .ok (.iload_n 3, 1) := by decide +kernel
theorem dX11_isDuty_17 : decode cX11_isDuty 17 = .ok (.ifCond .lt 21, 3) := by decide +kernel
theorem dX11_isDuty_20 : decode cX11_isDuty 20 = .ok (.iload_n 3, 1) := by decide +kernel
theorem dX11_isDuty_21 : decode cX11_isDuty 21 = .ok (.iconst 3, 1) := by decide +kernel
theorem dX11_isDuty_22 : decode cX11_isDuty 22 = .ok (.if_icmp .ge 16, 3) := by decide +kernel
theorem dX11_isDuty_25 : decode cX11_isDuty 25 = .ok (.aload_n 0, 1) := by decide +kernel
theorem dX11_isDuty_26 : decode cX11_isDuty 26 = .ok (.iload_n 1, 1) := by decide +kernel
theorem dX11_isDuty_27 : decode cX11_isDuty 27 = .ok (.iload_n 2, 1) := by decide +kernel
theorem dX11_isDuty_28 : decode cX11_isDuty 28 = .ok (.invokevirtual 138, 3) := by decide +kernel
theorem dX11_isDuty_31 : decode cX11_isDuty 31 = .ok (.ifCond .eq 7, 3) := by decide +kernel
theorem dX11_isDuty_34 : decode cX11_isDuty 34 = .ok (.iconst 1, 1) := by decide +kernel
theorem dX11_isDuty_35 : decode cX11_isDuty 35 = .ok (.goto 4, 3) := by decide +kernel
theorem dX11_isDuty_38 : decode cX11_isDuty 38 = .ok (.iconst 0, 1) := by decide +kernel
theorem dX11_isDuty_39 : decode cX11_isDuty 39 = .ok (.ireturn, 1) := by decide +kernel
theorem okX11_isDuty {E : Ev} {S : Sh} {Z : Option Nat} {Q : Int32 → Hp → Prop} {h : Hp} {a0 : Nat} {x1 : Int32} {x2 : Int32} {x3 : Int32} (hw : wX11_isDuty S h a0 x1 x2 x3 Q) : Ct E yX11_isDuty cX11_isDuty 4 (some .boolean) 3 67 0 0 S Z h [vr a0, vi x1, vi x2, vi x3] (qI S Z Q) := by
  refine Ct.of (by decide) (lc := [some (vr a0), some (vi x1), some (vi x2), some (vi x3)]) (Nat.le_of_ble_eq_true rfl) rfl (fun X O => ?_)
  unfold wX11_isDuty at hw
  refine g_iload_n O dX11_isDuty_0 rfl ?_
  refine g_iconst O dX11_isDuty_1 kv_3 ?_
  refine g_icmp_eq (tgt := 10) O dX11_isDuty_2 rfl (fun q2 => ?_) (fun q2 => ?_)
  · have hw := hw.1 q2
    refine g_aload_n O dX11_isDuty_10 rfl ?_
    refine g_iload_n O dX11_isDuty_11 rfl ?_
    obtain ⟨c12, hw⟩ := hw
    refine g_callV (As := [vi x1]) (rest := []) O ci_11 rfl dX11_isDuty_12 ml_X11_112 im_yX11_isMachine se_yX11_isMachine ini_X11 co_yX11_isMachine yo_yX11_isMachine c12 rfl rfl (Nat.le_of_ble_eq_true rfl) ⟨by decide, by decide, by decide, by decide⟩ (okX11_isMachine hw) (k_I fun r12 h12 hw => ?_)
    obtain ⟨c15z, hw⟩ := hw
    exact g_zreturn O dX11_isDuty_15 c15z ⟨rfl, rfl, _, rfl, hw⟩
  · have hw := hw.2 q2
    refine g_iload_n O dX11_isDuty_5 rfl ?_
    refine g_iconst O dX11_isDuty_6 kv_4 ?_
    refine g_icmp_ne (tgt := 16) O dX11_isDuty_7 rfl (fun q7 => ?_) (fun q7 => ?_)
    · have hw := hw.1 q7
      refine g_iload_n O dX11_isDuty_16 rfl ?_
      refine g_if_lt (tgt := 38) O dX11_isDuty_17 rfl (fun q17 => ?_) (fun q17 => ?_)
      · have hw := hw.1 q17
        refine g_iconst O dX11_isDuty_38 kv_0 ?_
        exact g_zreturn O dX11_isDuty_39 (by decide) ⟨rfl, rfl, _, rfl, hw⟩
      · have hw := hw.2 q17
        refine g_iload_n O dX11_isDuty_20 rfl ?_
        refine g_iconst O dX11_isDuty_21 kv_3 ?_
        refine g_icmp_ge (tgt := 38) O dX11_isDuty_22 rfl (fun q22 => ?_) (fun q22 => ?_)
        · have hw := hw.1 q22
          refine g_iconst O dX11_isDuty_38 kv_0 ?_
          exact g_zreturn O dX11_isDuty_39 (by decide) ⟨rfl, rfl, _, rfl, hw⟩
        · have hw := hw.2 q22
          refine g_aload_n O dX11_isDuty_25 rfl ?_
          refine g_iload_n O dX11_isDuty_26 rfl ?_
          refine g_iload_n O dX11_isDuty_27 rfl ?_
          obtain ⟨c28, hw⟩ := hw
          refine g_callV (As := [vi x1, vi x2]) (rest := []) O ci_11 rfl dX11_isDuty_28 ml_X11_138 im_yX11_isEvent se_yX11_isEvent ini_X11 co_yX11_isEvent yo_yX11_isEvent c28 rfl rfl (Nat.le_of_ble_eq_true rfl) ⟨by decide, by decide, by decide, by decide⟩ (okX11_isEvent hw) (k_I fun r28 h28 hw => ?_)
          refine g_if_eq (tgt := 38) O dX11_isDuty_31 rfl (fun q31 => ?_) (fun q31 => ?_)
          · have hw := hw.1 q31
            refine g_iconst O dX11_isDuty_38 kv_0 ?_
            exact g_zreturn O dX11_isDuty_39 (by decide) ⟨rfl, rfl, _, rfl, hw⟩
          · have hw := hw.2 q31
            refine g_iconst O dX11_isDuty_34 kv_1 ?_
            refine g_goto (tgt := 39) O dX11_isDuty_35 rfl ?_
            exact g_zreturn O dX11_isDuty_39 (by decide) ⟨rfl, rfl, _, rfl, hw⟩
    · have hw := hw.2 q7
      refine g_aload_n O dX11_isDuty_10 rfl ?_
      refine g_iload_n O dX11_isDuty_11 rfl ?_
      obtain ⟨c12, hw⟩ := hw
      refine g_callV (As := [vi x1]) (rest := []) O ci_11 rfl dX11_isDuty_12 ml_X11_112 im_yX11_isMachine se_yX11_isMachine ini_X11 co_yX11_isMachine yo_yX11_isMachine c12 rfl rfl (Nat.le_of_ble_eq_true rfl) ⟨by decide, by decide, by decide, by decide⟩ (okX11_isMachine hw) (k_I fun r12 h12 hw => ?_)
      obtain ⟨c15z, hw⟩ := hw
      exact g_zreturn O dX11_isDuty_15 c15z ⟨rfl, rfl, _, rfl, hw⟩
theorem dX11_cases_0 : decode cX11_cases 0 = .ok (.iload_n 3, 1) := by decide +kernel
theorem dX11_cases_1 : decode cX11_cases 1 = .ok (.iconst 3, 1) := by decide +kernel
theorem dX11_cases_2 : decode cX11_cases 2 = .ok (.if_icmp .ge 13, 3) := by decide +kernel
theorem dX11_cases_5 : decode cX11_cases 5 = .ok (.aload_n 0, 1) := by decide +kernel
theorem dX11_cases_6 : decode cX11_cases 6 = .ok (.iload_n 1, 1) := by decide +kernel
theorem dX11_cases_7 : decode cX11_cases 7 = .ok (.iload_n 2, 1) := by decide +kernel
theorem dX11_cases_8 : decode cX11_cases 8 = .ok (.iload_n 3, 1) := by decide +kernel
theorem dX11_cases_9 : decode cX11_cases 9 = .ok (.invokevirtual 189, 3) := by decide +kernel
theorem dX11_cases_12 : decode cX11_cases 12 = .ok (.ifCond .ne 9, 3) := by decide +kernel
theorem dX11_cases_15 : decode cX11_cases 15 = .ok (.aload_n 0, 1) := by decide +kernel
theorem dX11_cases_16 : decode cX11_cases 16 = .ok (.iconst 1, 1) := by decide +kernel
theorem dX11_cases_17 : decode cX11_cases 17 = .ok (.invokevirtual 82, 3) := by decide +kernel
theorem dX11_cases_20 : decode cX11_cases 20 = .ok (.ireturn, 1) := by decide +kernel
theorem dX11_cases_21 : decode cX11_cases 21 = .ok (.aload_n 0, 1) := by decide +kernel
theorem dX11_cases_22 : decode cX11_cases 22 = .ok (.aload_n 0, 1) := by decide +kernel
theorem dX11_cases_23 : decode cX11_cases 23 = .ok (.getfield 23, 3) := by decide +kernel
theorem dX11_cases_26 : decode cX11_cases 26 = .ok (.aload_n 0, 1) := by decide +kernel
theorem dX11_cases_27 : decode cX11_cases 27 = .ok (.getfield 55, 3) := by decide +kernel
theorem dX11_cases_30 : decode cX11_cases 30 = .ok (.iload_n 1, 1) := by decide +kernel
theorem dX11_cases_31 : decode cX11_cases 31 = .ok (.iload_n 2, 1) := by decide +kernel
theorem dX11_cases_32 : decode cX11_cases 32 = .ok (.iload_n 3, 1) := by decide +kernel
theorem dX11_cases_33 : decode cX11_cases 33 = .ok (.invokevirtual 193, 3) := by decide +kernel
theorem dX11_cases_36 : decode cX11_cases 36 = .ok (.getfield 197, 3) := by decide +kernel
theorem dX11_cases_39 : decode cX11_cases 39 = .ok (.invokevirtual 109, 3) := by decide +kernel
theorem dX11_cases_42 : decode cX11_cases 42 = .ok (.ireturn, 1) := by decide +kernel
theorem okX11_cases {E : Ev} {S : Sh} {Z : Option Nat} {Q : Int32 → Hp → Prop} {h : Hp} {a0 : Nat} {x1 : Int32} {x2 : Int32} {x3 : Int32} (hw : wX11_cases S h a0 x1 x2 x3 Q) : Ct E yX11_cases cX11_cases 4 (some .int) 7 170 0 0 S Z h [vr a0, vi x1, vi x2, vi x3] (qI S Z Q) := by
  refine Ct.of (by decide) (lc := [some (vr a0), some (vi x1), some (vi x2), some (vi x3)]) (Nat.le_of_ble_eq_true rfl) rfl (fun X O => ?_)
  unfold wX11_cases at hw
  refine g_iload_n O dX11_cases_0 rfl ?_
  refine g_iconst O dX11_cases_1 kv_3 ?_
  refine g_icmp_ge (tgt := 15) O dX11_cases_2 rfl (fun q2 => ?_) (fun q2 => ?_)
  · have hw := hw.1 q2
    refine g_aload_n O dX11_cases_15 rfl ?_
    refine g_iconst O dX11_cases_16 kv_1 ?_
    obtain ⟨c17, hw⟩ := hw
    refine g_callV (As := [vi (1 : Int32)]) (rest := []) O ci_11 rfl dX11_cases_17 ml_X11_82 im_yX11_refuse se_yX11_refuse ini_X11 co_yX11_refuse yo_yX11_refuse c17 rfl rfl (Nat.le_of_ble_eq_true rfl) ⟨by decide, by decide, by decide, by decide⟩ (okX11_refuse hw) (k_I fun r17 h17 hw => ?_)
    exact g_ireturn O dX11_cases_20 ⟨rfl, rfl, _, rfl, hw⟩
  · have hw := hw.2 q2
    refine g_aload_n O dX11_cases_5 rfl ?_
    refine g_iload_n O dX11_cases_6 rfl ?_
    refine g_iload_n O dX11_cases_7 rfl ?_
    refine g_iload_n O dX11_cases_8 rfl ?_
    obtain ⟨c9, hw⟩ := hw
    refine g_callV (As := [vi x1, vi x2, vi x3]) (rest := []) O ci_11 rfl dX11_cases_9 ml_X11_189 im_yX11_isDuty se_yX11_isDuty ini_X11 co_yX11_isDuty yo_yX11_isDuty c9 rfl rfl (Nat.le_of_ble_eq_true rfl) ⟨by decide, by decide, by decide, by decide⟩ (okX11_isDuty hw) (k_I fun r9 h9 hw => ?_)
    refine g_if_ne (tgt := 21) O dX11_cases_12 rfl (fun q12 => ?_) (fun q12 => ?_)
    · have hw := hw.1 q12
      refine g_aload_n O dX11_cases_21 rfl ?_
      refine g_aload_n O dX11_cases_22 rfl ?_
      refine gf_X11_judge O dX11_cases_23 fl_X11_23 c9 ?_
      refine g_aload_n O dX11_cases_26 rfl ?_
      refine gf_X11_model O dX11_cases_27 fl_X11_55 c9 ?_
      refine g_iload_n O dX11_cases_30 rfl ?_
      refine g_iload_n O dX11_cases_31 rfl ?_
      refine g_iload_n O dX11_cases_32 rfl ?_
      obtain ⟨c33, hw⟩ := hw
      refine g_callV (As := [vr (gR h9 a0 7), vi x1, vi x2, vi x3]) (rest := [vr a0]) O ci_1 rfl dX11_cases_33 ml_X11_193 im_yX1_verdictOn se_yX1_verdictOn ini_X1 co_yX1_verdictOn yo_yX1_verdictOn c33 rfl rfl (Nat.le_of_ble_eq_true rfl) ⟨by decide, by decide, by decide, by decide⟩ (okX1_verdictOn hw) (k_R fun r33 h33 hw => ?_)
      obtain ⟨c36, hw⟩ := hw
      refine gf_X9_failing O dX11_cases_36 fl_X11_197 c36 ?_
      refine g_callV (As := [vi (gI h33 r33 1)]) (rest := []) O ci_11 rfl dX11_cases_39 ml_X11_109 im_yX11_answer se_yX11_answer ini_X11 co_yX11_answer yo_yX11_answer c9 rfl rfl (Nat.le_of_ble_eq_true rfl) ⟨by decide, by decide, by decide, by decide⟩ (okX11_answer hw) (k_I fun r39 h39 hw => ?_)
      exact g_ireturn O dX11_cases_42 ⟨rfl, rfl, _, rfl, hw⟩
    · have hw := hw.2 q12
      refine g_aload_n O dX11_cases_15 rfl ?_
      refine g_iconst O dX11_cases_16 kv_1 ?_
      refine g_callV (As := [vi (1 : Int32)]) (rest := []) O ci_11 rfl dX11_cases_17 ml_X11_82 im_yX11_refuse se_yX11_refuse ini_X11 co_yX11_refuse yo_yX11_refuse c9 rfl rfl (Nat.le_of_ble_eq_true rfl) ⟨by decide, by decide, by decide, by decide⟩ (okX11_refuse hw) (k_I fun r17 h17 hw => ?_)
      exact g_ireturn O dX11_cases_20 ⟨rfl, rfl, _, rfl, hw⟩
theorem dX11_draws_0 : decode cX11_draws 0 = .ok (.aload_n 0, 1) := by decide +kernel
theorem dX11_draws_1 : decode cX11_draws 1 = .ok (.aload_n 0, 1) := by decide +kernel
theorem dX11_draws_2 : decode cX11_draws 2 = .ok (.getfield 30, 3) := by decide +kernel
theorem dX11_draws_5 : decode cX11_draws 5 = .ok (.getfield 240, 3) := by decide +kernel
theorem dX11_draws_8 : decode cX11_draws 8 = .ok (.invokevirtual 112, 3) := by decide +kernel
theorem dX11_draws_11 : decode cX11_draws 11 = .ok (.ifCond .ne 9, 3) := by decide +kernel
theorem dX11_draws_14 : decode cX11_draws 14 = .ok (.aload_n 0, 1) := by decide +kernel
theorem dX11_draws_15 : decode cX11_draws 15 = .ok (.iconst 1, 1) := by decide +kernel
theorem dX11_draws_16 : decode cX11_draws 16 = .ok (.invokevirtual 82, 3) := by decide +kernel
theorem dX11_draws_19 : decode cX11_draws 19 = .ok (.ireturn, 1) := by decide +kernel
theorem dX11_draws_20 : decode cX11_draws 20 = .ok (.iload_n 1, 1) := by decide +kernel
theorem dX11_draws_21 : decode cX11_draws 21 = .ok (.iconst 1, 1) := by decide +kernel
theorem dX11_draws_22 : decode cX11_draws 22 = .ok (.if_icmp .lt 13, 3) := by decide +kernel
theorem dX11_draws_25 : decode cX11_draws 25 = .ok (.iload_n 1, 1) := by decide +kernel
theorem dX11_draws_26 : decode cX11_draws 26 = .ok (.bipush 40, 2) := by decide +kernel
theorem dX11_draws_28 : decode cX11_draws 28 = .ok (.if_icmp .gt 7, 3) := by decide +kernel
theorem dX11_draws_31 : decode cX11_draws 31 = .ok (.iload_n 2, 1) := by decide +kernel
theorem dX11_draws_32 : decode cX11_draws 32 = .ok (.ifCond .ge 9, 3) := by decide +kernel
theorem dX11_draws_35 : decode cX11_draws 35 = .ok (.aload_n 0, 1) := by decide +kernel
theorem dX11_draws_36 : decode cX11_draws 36 = .ok (.iconst 2, 1) := by decide +kernel
theorem dX11_draws_37 : decode cX11_draws 37 = .ok (.invokevirtual 82, 3) := by decide +kernel
theorem dX11_draws_40 : decode cX11_draws 40 = .ok (.ireturn, 1) := by decide +kernel
theorem dX11_draws_41 : decode cX11_draws 41 = .ok (.aload_n 0, 1) := by decide +kernel
theorem dX11_draws_42 : decode cX11_draws 42 = .ok (.aload_n 0, 1) := by decide +kernel
theorem dX11_draws_43 : decode cX11_draws 43 = .ok (.getfield 30, 3) := by decide +kernel
theorem dX11_draws_46 : decode cX11_draws 46 = .ok (.aload_n 0, 1) := by decide +kernel
theorem dX11_draws_47 : decode cX11_draws 47 = .ok (.getfield 55, 3) := by decide +kernel
theorem dX11_draws_50 : decode cX11_draws 50 = .ok (.iload_n 1, 1) := by decide +kernel
theorem dX11_draws_51 : decode cX11_draws 51 = .ok (.iload_n 2, 1) := by decide +kernel
theorem dX11_draws_52 : decode cX11_draws 52 = .ok (.invokevirtual 262, 3) := by decide +kernel
theorem dX11_draws_55 : decode cX11_draws 55 = .ok (.invokevirtual 109, 3) := by decide +kernel
theorem dX11_draws_58 : decode cX11_draws 58 = .ok (.ireturn, 1) := by decide +kernel
theorem okX11_draws {E : Ev} {S : Sh} {Z : Option Nat} {Q : Int32 → Hp → Prop} {h : Hp} {a0 : Nat} {x1 : Int32} {x2 : Int32} (hw : wX11_draws S h a0 x1 x2 Q) : Ct E yX11_draws cX11_draws 3 (some .int) 6 151 0 0 S Z h [vr a0, vi x1, vi x2] (qI S Z Q) := by
  refine Ct.of (by decide) (lc := [some (vr a0), some (vi x1), some (vi x2)]) (Nat.le_of_ble_eq_true rfl) rfl (fun X O => ?_)
  unfold wX11_draws at hw
  refine g_aload_n O dX11_draws_0 rfl ?_
  refine g_aload_n O dX11_draws_1 rfl ?_
  obtain ⟨c2, hw⟩ := hw
  refine gf_X11_walk O dX11_draws_2 fl_X11_30 c2 ?_
  obtain ⟨c5, hw⟩ := hw
  refine gf_X10_number O dX11_draws_5 fl_X11_240 c5 ?_
  refine g_callV (As := [vi ((gI h (gR h a0 3) 2))]) (rest := []) O ci_11 rfl dX11_draws_8 ml_X11_112 im_yX11_isMachine se_yX11_isMachine ini_X11 co_yX11_isMachine yo_yX11_isMachine c2 rfl rfl (Nat.le_of_ble_eq_true rfl) ⟨by decide, by decide, by decide, by decide⟩ (okX11_isMachine hw) (k_I fun r8 h8 hw => ?_)
  refine g_if_ne (tgt := 20) O dX11_draws_11 rfl (fun q11 => ?_) (fun q11 => ?_)
  · have hw := hw.1 q11
    refine g_iload_n O dX11_draws_20 rfl ?_
    refine g_iconst O dX11_draws_21 kv_1 ?_
    refine g_icmp_lt (tgt := 35) O dX11_draws_22 rfl (fun q22 => ?_) (fun q22 => ?_)
    · have hw := hw.1 q22
      refine g_aload_n O dX11_draws_35 rfl ?_
      refine g_iconst O dX11_draws_36 kv_2 ?_
      refine g_callV (As := [vi (2 : Int32)]) (rest := []) O ci_11 rfl dX11_draws_37 ml_X11_82 im_yX11_refuse se_yX11_refuse ini_X11 co_yX11_refuse yo_yX11_refuse c2 rfl rfl (Nat.le_of_ble_eq_true rfl) ⟨by decide, by decide, by decide, by decide⟩ (okX11_refuse hw) (k_I fun r37 h37 hw => ?_)
      exact g_ireturn O dX11_draws_40 ⟨rfl, rfl, _, rfl, hw⟩
    · have hw := hw.2 q22
      refine g_iload_n O dX11_draws_25 rfl ?_
      refine g_bipush O dX11_draws_26 kb_40 ?_
      refine g_icmp_gt (tgt := 35) O dX11_draws_28 rfl (fun q28 => ?_) (fun q28 => ?_)
      · have hw := hw.1 q28
        refine g_aload_n O dX11_draws_35 rfl ?_
        refine g_iconst O dX11_draws_36 kv_2 ?_
        refine g_callV (As := [vi (2 : Int32)]) (rest := []) O ci_11 rfl dX11_draws_37 ml_X11_82 im_yX11_refuse se_yX11_refuse ini_X11 co_yX11_refuse yo_yX11_refuse c2 rfl rfl (Nat.le_of_ble_eq_true rfl) ⟨by decide, by decide, by decide, by decide⟩ (okX11_refuse hw) (k_I fun r37 h37 hw => ?_)
        exact g_ireturn O dX11_draws_40 ⟨rfl, rfl, _, rfl, hw⟩
      · have hw := hw.2 q28
        refine g_iload_n O dX11_draws_31 rfl ?_
        refine g_if_ge (tgt := 41) O dX11_draws_32 rfl (fun q32 => ?_) (fun q32 => ?_)
        · have hw := hw.1 q32
          refine g_aload_n O dX11_draws_41 rfl ?_
          refine g_aload_n O dX11_draws_42 rfl ?_
          refine gf_X11_walk O dX11_draws_43 fl_X11_30 c2 ?_
          refine g_aload_n O dX11_draws_46 rfl ?_
          refine gf_X11_model O dX11_draws_47 fl_X11_55 c2 ?_
          refine g_iload_n O dX11_draws_50 rfl ?_
          refine g_iload_n O dX11_draws_51 rfl ?_
          obtain ⟨c52, hw⟩ := hw
          refine g_callV (As := [vr (gR h8 a0 7), vi x1, vi x2]) (rest := [vr a0]) O ci_10 rfl dX11_draws_52 ml_X11_262 im_yX10_wander se_yX10_wander ini_X10 co_yX10_wander yo_yX10_wander c52 rfl rfl (Nat.le_of_ble_eq_true rfl) ⟨by decide, by decide, by decide, by decide⟩ (okX10_wander hw) (k_I fun r52 h52 hw => ?_)
          refine g_callV (As := [vi r52]) (rest := []) O ci_11 rfl dX11_draws_55 ml_X11_109 im_yX11_answer se_yX11_answer ini_X11 co_yX11_answer yo_yX11_answer c2 rfl rfl (Nat.le_of_ble_eq_true rfl) ⟨by decide, by decide, by decide, by decide⟩ (okX11_answer hw) (k_I fun r55 h55 hw => ?_)
          exact g_ireturn O dX11_draws_58 ⟨rfl, rfl, _, rfl, hw⟩
        · have hw := hw.2 q32
          refine g_aload_n O dX11_draws_35 rfl ?_
          refine g_iconst O dX11_draws_36 kv_2 ?_
          refine g_callV (As := [vi (2 : Int32)]) (rest := []) O ci_11 rfl dX11_draws_37 ml_X11_82 im_yX11_refuse se_yX11_refuse ini_X11 co_yX11_refuse yo_yX11_refuse c2 rfl rfl (Nat.le_of_ble_eq_true rfl) ⟨by decide, by decide, by decide, by decide⟩ (okX11_refuse hw) (k_I fun r37 h37 hw => ?_)
          exact g_ireturn O dX11_draws_40 ⟨rfl, rfl, _, rfl, hw⟩
  · have hw := hw.2 q11
    refine g_aload_n O dX11_draws_14 rfl ?_
    refine g_iconst O dX11_draws_15 kv_1 ?_
    refine g_callV (As := [vi (1 : Int32)]) (rest := []) O ci_11 rfl dX11_draws_16 ml_X11_82 im_yX11_refuse se_yX11_refuse ini_X11 co_yX11_refuse yo_yX11_refuse c2 rfl rfl (Nat.le_of_ble_eq_true rfl) ⟨by decide, by decide, by decide, by decide⟩ (okX11_refuse hw) (k_I fun r16 h16 hw => ?_)
    exact g_ireturn O dX11_draws_19 ⟨rfl, rfl, _, rfl, hw⟩
theorem dX11_duty_0 : decode cX11_duty 0 = .ok (.aload_n 0, 1) := by decide +kernel
theorem dX11_duty_1 : decode cX11_duty 1 = .ok (.iload_n 1, 1) := by decide +kernel
theorem dX11_duty_2 : decode cX11_duty 2 = .ok (.iload_n 2, 1) := by decide +kernel
theorem dX11_duty_3 : decode cX11_duty 3 = .ok (.iload_n 3, 1) := by decide +kernel
theorem dX11_duty_4 : decode cX11_duty 4 = .ok (.invokevirtual 189, 3) := by decide +kernel
theorem dX11_duty_7 : decode cX11_duty 7 = .ok (.ifCond .ne 9, 3) := by decide +kernel
theorem dX11_duty_10 : decode cX11_duty 10 = .ok (.aload_n 0, 1) := by decide +kernel
theorem dX11_duty_11 : decode cX11_duty 11 = .ok (.iconst 1, 1) := by decide +kernel
theorem dX11_duty_12 : decode cX11_duty 12 = .ok (.invokevirtual 82, 3) := by decide +kernel
theorem dX11_duty_15 : decode cX11_duty 15 = .ok (.ireturn, 1) := by decide +kernel
theorem dX11_duty_16 : decode cX11_duty 16 = .ok (.aload_n 0, 1) := by decide +kernel
theorem dX11_duty_17 : decode cX11_duty 17 = .ok (.getfield 23, 3) := by decide +kernel
theorem dX11_duty_20 : decode cX11_duty 20 = .ok (.aload_n 0, 1) := by decide +kernel
theorem dX11_duty_21 : decode cX11_duty 21 = .ok (.getfield 55, 3) := by decide +kernel
theorem dX11_duty_24 : decode cX11_duty 24 = .ok (.iload_n 1, 1) := by decide +kernel
theorem dX11_duty_25 : decode cX11_duty 25 = .ok (.iload_n 2, 1) := by decide +kernel
theorem dX11_duty_26 : decode cX11_duty 26 = .ok (.iload_n 3, 1) := by decide +kernel
theorem dX11_duty_27 : decode cX11_duty 27 = .ok (.invokevirtual 193, 3) := by decide +kernel
theorem dX11_duty_30 : decode cX11_duty 30 = .ok (.astore 4, 2) := by decide +kernel
theorem dX11_duty_32 : decode cX11_duty 32 = .ok (.aload 4, 2) := by decide +kernel
theorem dX11_duty_34 : decode cX11_duty 34 = .ok (.getfield 197, 3) := by decide +kernel
theorem dX11_duty_37 : decode cX11_duty 37 = .ok (.ifCond .ne 14, 3) := by decide +kernel
theorem dX11_duty_40 : decode cX11_duty 40 = .ok (.aload_n 0, 1) := by decide +kernel
theorem dX11_duty_41 : decode cX11_duty 41 = .ok (.iconst (-1), 1) := by decide +kernel
theorem dX11_duty_42 : decode cX11_duty 42 = .ok (.putfield 66, 3) := by decide +kernel
theorem dX11_duty_45 : decode cX11_duty 45 = .ok (.aload_n 0, 1) := by decide +kernel
theorem dX11_duty_46 : decode cX11_duty 46 = .ok (.iconst 1, 1) := by decide +kernel
theorem dX11_duty_47 : decode cX11_duty 47 = .ok (.invokevirtual 109, 3) := by decide +kernel
theorem dX11_duty_50 : decode cX11_duty 50 = .ok (.ireturn, 1) := by decide +kernel
theorem dX11_duty_51 : decode cX11_duty 51 = .ok (.aload_n 0, 1) := by decide +kernel
theorem dX11_duty_52 : decode cX11_duty 52 = .ok (.iload_n 1, 1) := by decide +kernel
theorem dX11_duty_53 : decode cX11_duty 53 = .ok (.putfield 66, 3) := by decide +kernel
theorem dX11_duty_56 : decode cX11_duty 56 = .ok (.aload_n 0, 1) := by decide +kernel
theorem dX11_duty_57 : decode cX11_duty 57 = .ok (.getfield 48, 3) := by decide +kernel
theorem dX11_duty_60 : decode cX11_duty 60 = .ok (.iconst 0, 1) := by decide +kernel
theorem dX11_duty_61 : decode cX11_duty 61 = .ok (.aload 4, 2) := by decide +kernel
theorem dX11_duty_63 : decode cX11_duty 63 = .ok (.getfield 202, 3) := by decide +kernel
theorem dX11_duty_66 : decode cX11_duty 66 = .ok (.iastore, 1) := by decide +kernel
theorem dX11_duty_67 : decode cX11_duty 67 = .ok (.aload_n 0, 1) := by decide +kernel
theorem dX11_duty_68 : decode cX11_duty 68 = .ok (.getfield 48, 3) := by decide +kernel
theorem dX11_duty_71 : decode cX11_duty 71 = .ok (.iconst 1, 1) := by decide +kernel
theorem dX11_duty_72 : decode cX11_duty 72 = .ok (.aload 4, 2) := by decide +kernel
theorem dX11_duty_74 : decode cX11_duty 74 = .ok (.getfield 205, 3) := by decide +kernel
theorem dX11_duty_77 : decode cX11_duty 77 = .ok (.iastore, 1) := by decide +kernel
theorem dX11_duty_78 : decode cX11_duty 78 = .ok (.aload_n 0, 1) := by decide +kernel
theorem dX11_duty_79 : decode cX11_duty 79 = .ok (.getfield 48, 3) := by decide +kernel
theorem dX11_duty_82 : decode cX11_duty 82 = .ok (.iconst 2, 1) := by decide +kernel
theorem dX11_duty_83 : decode cX11_duty 83 = .ok (.aload 4, 2) := by decide +kernel
theorem dX11_duty_85 : decode cX11_duty 85 = .ok (.getfield 208, 3) := by decide +kernel
theorem dX11_duty_88 : decode cX11_duty 88 = .ok (.iastore, 1) := by decide +kernel
theorem dX11_duty_89 : decode cX11_duty 89 = .ok (.aload_n 0, 1) := by decide +kernel
theorem dX11_duty_90 : decode cX11_duty 90 = .ok (.iconst 0, 1) := by decide +kernel
theorem dX11_duty_91 : decode cX11_duty 91 = .ok (.invokevirtual 109, 3) := by decide +kernel
theorem dX11_duty_94 : decode cX11_duty 94 = .ok (.ireturn, 1) := by decide +kernel
theorem okX11_duty {E : Ev} {S : Sh} {Z : Option Nat} {Q : Int32 → Hp → Prop} {h : Hp} {a0 : Nat} {x1 : Int32} {x2 : Int32} {x3 : Int32} (hw : wX11_duty S h a0 x1 x2 x3 Q) : Ct E yX11_duty cX11_duty 5 (some .int) 7 170 0 0 S Z h [vr a0, vi x1, vi x2, vi x3] (qI S Z Q) := by
  refine Ct.of (by decide) (lc := [some (vr a0), some (vi x1), some (vi x2), some (vi x3), none]) (Nat.le_of_ble_eq_true rfl) rfl (fun X O => ?_)
  unfold wX11_duty at hw
  refine g_aload_n O dX11_duty_0 rfl ?_
  refine g_iload_n O dX11_duty_1 rfl ?_
  refine g_iload_n O dX11_duty_2 rfl ?_
  refine g_iload_n O dX11_duty_3 rfl ?_
  obtain ⟨c4, hw⟩ := hw
  refine g_callV (As := [vi x1, vi x2, vi x3]) (rest := []) O ci_11 rfl dX11_duty_4 ml_X11_189 im_yX11_isDuty se_yX11_isDuty ini_X11 co_yX11_isDuty yo_yX11_isDuty c4 rfl rfl (Nat.le_of_ble_eq_true rfl) ⟨by decide, by decide, by decide, by decide⟩ (okX11_isDuty hw) (k_I fun r4 h4 hw => ?_)
  refine g_if_ne (tgt := 16) O dX11_duty_7 rfl (fun q7 => ?_) (fun q7 => ?_)
  · have hw := hw.1 q7
    refine g_aload_n O dX11_duty_16 rfl ?_
    refine gf_X11_judge O dX11_duty_17 fl_X11_23 c4 ?_
    refine g_aload_n O dX11_duty_20 rfl ?_
    refine gf_X11_model O dX11_duty_21 fl_X11_55 c4 ?_
    refine g_iload_n O dX11_duty_24 rfl ?_
    refine g_iload_n O dX11_duty_25 rfl ?_
    refine g_iload_n O dX11_duty_26 rfl ?_
    obtain ⟨c27, hw⟩ := hw
    refine g_callV (As := [vr (gR h4 a0 7), vi x1, vi x2, vi x3]) (rest := []) O ci_1 rfl dX11_duty_27 ml_X11_193 im_yX1_verdictOn se_yX1_verdictOn ini_X1 co_yX1_verdictOn yo_yX1_verdictOn c27 rfl rfl (Nat.le_of_ble_eq_true rfl) ⟨by decide, by decide, by decide, by decide⟩ (okX1_verdictOn hw) (k_R fun r27 h27 hw => ?_)
    refine g_astore (lc' := [some (vr a0), some (vi x1), some (vi x2), some (vi x3), some (vr r27)]) O dX11_duty_30 rfl (Nat.le_of_ble_eq_true rfl) rfl ?_
    refine g_aload O dX11_duty_32 rfl ?_
    obtain ⟨c34, hw⟩ := hw
    refine gf_X9_failing O dX11_duty_34 fl_X11_197 c34 ?_
    refine g_if_ne (tgt := 51) O dX11_duty_37 rfl (fun q37 => ?_) (fun q37 => ?_)
    · have hw := hw.1 q37
      refine g_aload_n O dX11_duty_51 rfl ?_
      refine g_iload_n O dX11_duty_52 rfl ?_
      refine pf_X11_shownMachine O dX11_duty_53 fl_X11_66 c4 ?_
      refine g_nmH (fun h53 e53 => ?_)
      have hw := hw h53 e53
      refine g_aload_n O dX11_duty_56 rfl ?_
      refine gf_X11_shownCase O dX11_duty_57 fl_X11_48 c4 ?_
      refine g_iconst O dX11_duty_60 kv_0 ?_
      refine g_aload O dX11_duty_61 rfl ?_
      refine gf_X9_ahead O dX11_duty_63 fl_X11_202 c34 ?_
      obtain ⟨c66, hw⟩ := hw
      refine g_iastore O dX11_duty_66 c66.1 c66.2 ?_
      refine g_nmH (fun h66 e66 => ?_)
      have hw := hw h66 e66
      refine g_aload_n O dX11_duty_67 rfl ?_
      refine gf_X11_shownCase O dX11_duty_68 fl_X11_48 c4 ?_
      refine g_iconst O dX11_duty_71 kv_1 ?_
      refine g_aload O dX11_duty_72 rfl ?_
      refine gf_X9_state O dX11_duty_74 fl_X11_205 c34 ?_
      obtain ⟨c77, hw⟩ := hw
      refine g_iastore O dX11_duty_77 c77.1 c77.2 ?_
      refine g_nmH (fun h77 e77 => ?_)
      have hw := hw h77 e77
      refine g_aload_n O dX11_duty_78 rfl ?_
      refine gf_X11_shownCase O dX11_duty_79 fl_X11_48 c4 ?_
      refine g_iconst O dX11_duty_82 kv_2 ?_
      refine g_aload O dX11_duty_83 rfl ?_
      refine gf_X9_pick O dX11_duty_85 fl_X11_208 c34 ?_
      obtain ⟨c88, hw⟩ := hw
      refine g_iastore O dX11_duty_88 c88.1 c88.2 ?_
      refine g_aload_n O dX11_duty_89 rfl ?_
      refine g_iconst O dX11_duty_90 kv_0 ?_
      refine g_callV (As := [vi (0 : Int32)]) (rest := []) O ci_11 rfl dX11_duty_91 ml_X11_109 im_yX11_answer se_yX11_answer ini_X11 co_yX11_answer yo_yX11_answer c4 rfl rfl (Nat.le_of_ble_eq_true rfl) ⟨by decide, by decide, by decide, by decide⟩ (okX11_answer hw) (k_I fun r91 h91 hw => ?_)
      exact g_ireturn O dX11_duty_94 ⟨rfl, rfl, _, rfl, hw⟩
    · have hw := hw.2 q37
      refine g_aload_n O dX11_duty_40 rfl ?_
      refine g_iconst O dX11_duty_41 kv_m1 ?_
      refine pf_X11_shownMachine O dX11_duty_42 fl_X11_66 c4 ?_
      refine g_aload_n O dX11_duty_45 rfl ?_
      refine g_iconst O dX11_duty_46 kv_1 ?_
      refine g_callV (As := [vi (1 : Int32)]) (rest := []) O ci_11 rfl dX11_duty_47 ml_X11_109 im_yX11_answer se_yX11_answer ini_X11 co_yX11_answer yo_yX11_answer c4 rfl rfl (Nat.le_of_ble_eq_true rfl) ⟨by decide, by decide, by decide, by decide⟩ (okX11_answer hw) (k_I fun r47 h47 hw => ?_)
      exact g_ireturn O dX11_duty_50 ⟨rfl, rfl, _, rfl, hw⟩
  · have hw := hw.2 q7
    refine g_aload_n O dX11_duty_10 rfl ?_
    refine g_iconst O dX11_duty_11 kv_1 ?_
    refine g_callV (As := [vi (1 : Int32)]) (rest := []) O ci_11 rfl dX11_duty_12 ml_X11_82 im_yX11_refuse se_yX11_refuse ini_X11 co_yX11_refuse yo_yX11_refuse c4 rfl rfl (Nat.le_of_ble_eq_true rfl) ⟨by decide, by decide, by decide, by decide⟩ (okX11_refuse hw) (k_I fun r12 h12 hw => ?_)
    exact g_ireturn O dX11_duty_15 ⟨rfl, rfl, _, rfl, hw⟩
theorem dX11_event_0 : decode cX11_event 0 = .ok (.aload_n 0, 1) := by decide +kernel
theorem dX11_event_1 : decode cX11_event 1 = .ok (.iload_n 1, 1) := by decide +kernel
theorem dX11_event_2 : decode cX11_event 2 = .ok (.iload_n 2, 1) := by decide +kernel
theorem dX11_event_3 : decode cX11_event 3 = .ok (.invokevirtual 138, 3) := by decide +kernel
theorem dX11_event_6 : decode cX11_event 6 = .ok (.ifCond .eq 12, 3) := by decide +kernel
theorem dX11_event_9 : decode cX11_event 9 = .ok (.iload_n 3, 1) := by decide +kernel
theorem dX11_event_10 : decode cX11_event 10 = .ok (.ifCond .lt 8, 3) := by decide +kernel
theorem dX11_event_13 : decode cX11_event 13 = .ok (.iload_n 3, 1) := by decide +kernel
theorem dX11_event_14 : decode cX11_event 14 = .ok (.iconst 4, 1) := by decide +kernel
theorem dX11_event_15 : decode cX11_event 15 = .ok (.if_icmp .le 9, 3) := by decide +kernel
theorem dX11_event_18 : decode cX11_event 18 = .ok (.aload_n 0, 1) := by decide +kernel
theorem dX11_event_19 : decode cX11_event 19 = .ok (.iconst 1, 1) := by decide +kernel
theorem dX11_event_20 : decode cX11_event 20 = .ok (.invokevirtual 82, 3) := by decide +kernel
theorem dX11_event_23 : decode cX11_event 23 = .ok (.ireturn, 1) := by decide +kernel
theorem dX11_event_24 : decode cX11_event 24 = .ok (.aload_n 0, 1) := by decide +kernel
theorem dX11_event_25 : decode cX11_event 25 = .ok (.aload_n 0, 1) := by decide +kernel
theorem dX11_event_26 : decode cX11_event 26 = .ok (.getfield 55, 3) := by decide +kernel
theorem dX11_event_29 : decode cX11_event 29 = .ok (.getfield 116, 3) := by decide +kernel
theorem dX11_event_32 : decode cX11_event 32 = .ok (.iload_n 1, 1) := by decide +kernel
theorem dX11_event_33 : decode cX11_event 33 = .ok (.aaload, 1) := by decide +kernel
theorem dX11_event_34 : decode cX11_event 34 = .ok (.getfield 141, 3) := by decide +kernel
theorem dX11_event_37 : decode cX11_event 37 = .ok (.iload_n 2, 1) := by decide +kernel
theorem dX11_event_38 : decode cX11_event 38 = .ok (.aaload, 1) := by decide +kernel
theorem dX11_event_39 : decode cX11_event 39 = .ok (.iload_n 3, 1) := by decide +kernel
theorem dX11_event_40 : decode cX11_event 40 = .ok (.invokevirtual 145, 3) := by decide +kernel
theorem dX11_event_43 : decode cX11_event 43 = .ok (.invokevirtual 109, 3) := by decide +kernel
theorem dX11_event_46 : decode cX11_event 46 = .ok (.ireturn, 1) := by decide +kernel
theorem okX11_event {E : Ev} {S : Sh} {Z : Option Nat} {Q : Int32 → Hp → Prop} {h : Hp} {a0 : Nat} {x1 : Int32} {x2 : Int32} {x3 : Int32} (hw : wX11_event S h a0 x1 x2 x3 Q) : Ct E yX11_event cX11_event 4 (some .int) 3 67 0 0 S Z h [vr a0, vi x1, vi x2, vi x3] (qI S Z Q) := by
  refine Ct.of (by decide) (lc := [some (vr a0), some (vi x1), some (vi x2), some (vi x3)]) (Nat.le_of_ble_eq_true rfl) rfl (fun X O => ?_)
  unfold wX11_event at hw
  refine g_aload_n O dX11_event_0 rfl ?_
  refine g_iload_n O dX11_event_1 rfl ?_
  refine g_iload_n O dX11_event_2 rfl ?_
  obtain ⟨c3, hw⟩ := hw
  refine g_callV (As := [vi x1, vi x2]) (rest := []) O ci_11 rfl dX11_event_3 ml_X11_138 im_yX11_isEvent se_yX11_isEvent ini_X11 co_yX11_isEvent yo_yX11_isEvent c3 rfl rfl (Nat.le_of_ble_eq_true rfl) ⟨by decide, by decide, by decide, by decide⟩ (okX11_isEvent hw) (k_I fun r3 h3 hw => ?_)
  refine g_if_eq (tgt := 18) O dX11_event_6 rfl (fun q6 => ?_) (fun q6 => ?_)
  · have hw := hw.1 q6
    refine g_aload_n O dX11_event_18 rfl ?_
    refine g_iconst O dX11_event_19 kv_1 ?_
    refine g_callV (As := [vi (1 : Int32)]) (rest := []) O ci_11 rfl dX11_event_20 ml_X11_82 im_yX11_refuse se_yX11_refuse ini_X11 co_yX11_refuse yo_yX11_refuse c3 rfl rfl (Nat.le_of_ble_eq_true rfl) ⟨by decide, by decide, by decide, by decide⟩ (okX11_refuse hw) (k_I fun r20 h20 hw => ?_)
    exact g_ireturn O dX11_event_23 ⟨rfl, rfl, _, rfl, hw⟩
  · have hw := hw.2 q6
    refine g_iload_n O dX11_event_9 rfl ?_
    refine g_if_lt (tgt := 18) O dX11_event_10 rfl (fun q10 => ?_) (fun q10 => ?_)
    · have hw := hw.1 q10
      refine g_aload_n O dX11_event_18 rfl ?_
      refine g_iconst O dX11_event_19 kv_1 ?_
      refine g_callV (As := [vi (1 : Int32)]) (rest := []) O ci_11 rfl dX11_event_20 ml_X11_82 im_yX11_refuse se_yX11_refuse ini_X11 co_yX11_refuse yo_yX11_refuse c3 rfl rfl (Nat.le_of_ble_eq_true rfl) ⟨by decide, by decide, by decide, by decide⟩ (okX11_refuse hw) (k_I fun r20 h20 hw => ?_)
      exact g_ireturn O dX11_event_23 ⟨rfl, rfl, _, rfl, hw⟩
    · have hw := hw.2 q10
      refine g_iload_n O dX11_event_13 rfl ?_
      refine g_iconst O dX11_event_14 kv_4 ?_
      refine g_icmp_le (tgt := 24) O dX11_event_15 rfl (fun q15 => ?_) (fun q15 => ?_)
      · have hw := hw.1 q15
        refine g_aload_n O dX11_event_24 rfl ?_
        refine g_aload_n O dX11_event_25 rfl ?_
        refine gf_X11_model O dX11_event_26 fl_X11_55 c3 ?_
        obtain ⟨c29, hw⟩ := hw
        refine gf_X3_machines O dX11_event_29 fl_X11_116 c29 ?_
        refine g_iload_n O dX11_event_32 rfl ?_
        obtain ⟨c33, hw⟩ := hw
        refine g_aaload (t := 1) (C := "FinerSteps$Machine") O rfl dX11_event_33 c33.1 c33.2 ?_
        obtain ⟨c34, hw⟩ := hw
        refine gf_X2_event O dX11_event_34 fl_X11_141 c34 ?_
        refine g_iload_n O dX11_event_37 rfl ?_
        obtain ⟨c38, hw⟩ := hw
        refine g_aaload (t := 0) (C := "FinerSteps$Event") O rfl dX11_event_38 c38.1 c38.2 ?_
        refine g_iload_n O dX11_event_39 rfl ?_
        obtain ⟨c40, hw⟩ := hw
        refine g_callV (As := [vi x3]) (rest := [vr a0]) O ci_0 rfl dX11_event_40 ml_X11_145 im_yX0_told se_yX0_told ini_X0 co_yX0_told yo_yX0_told c40 rfl rfl (Nat.le_of_ble_eq_true rfl) ⟨by decide, by decide, by decide, by decide⟩ (okX0_told hw) (k_I fun r40 h40 hw => ?_)
        refine g_callV (As := [vi r40]) (rest := []) O ci_11 rfl dX11_event_43 ml_X11_109 im_yX11_answer se_yX11_answer ini_X11 co_yX11_answer yo_yX11_answer c3 rfl rfl (Nat.le_of_ble_eq_true rfl) ⟨by decide, by decide, by decide, by decide⟩ (okX11_answer hw) (k_I fun r43 h43 hw => ?_)
        exact g_ireturn O dX11_event_46 ⟨rfl, rfl, _, rfl, hw⟩
      · have hw := hw.2 q15
        refine g_aload_n O dX11_event_18 rfl ?_
        refine g_iconst O dX11_event_19 kv_1 ?_
        refine g_callV (As := [vi (1 : Int32)]) (rest := []) O ci_11 rfl dX11_event_20 ml_X11_82 im_yX11_refuse se_yX11_refuse ini_X11 co_yX11_refuse yo_yX11_refuse c3 rfl rfl (Nat.le_of_ble_eq_true rfl) ⟨by decide, by decide, by decide, by decide⟩ (okX11_refuse hw) (k_I fun r20 h20 hw => ?_)
        exact g_ireturn O dX11_event_23 ⟨rfl, rfl, _, rfl, hw⟩
theorem dX11_fault_0 : decode cX11_fault 0 = .ok (.aload_n 0, 1) := by decide +kernel
theorem dX11_fault_1 : decode cX11_fault 1 = .ok (.getfield 72, 3) := by decide +kernel
theorem dX11_fault_4 : decode cX11_fault 4 = .ok (.ireturn, 1) := by decide +kernel
theorem okX11_fault {E : Ev} {S : Sh} {Z : Option Nat} {Q : Int32 → Hp → Prop} {h : Hp} {a0 : Nat} (hw : wX11_fault S h a0 Q) : Ct E yX11_fault cX11_fault 1 (some .int) 1 24 0 0 S Z h [vr a0] (qI S Z Q) := by
  refine Ct.of (by decide) (lc := [some (vr a0)]) (Nat.le_of_ble_eq_true rfl) rfl (fun X O => ?_)
  unfold wX11_fault at hw
  refine g_aload_n O dX11_fault_0 rfl ?_
  obtain ⟨c1, hw⟩ := hw
  refine gf_X11_lastFault O dX11_fault_1 fl_X11_72 c1 ?_
  exact g_ireturn O dX11_fault_4 ⟨rfl, rfl, _, rfl, hw⟩
theorem dX11_putBytes_0 : decode cX11_putBytes 0 = .ok (.bipush 24, 2) := by decide +kernel
theorem dX11_putBytes_2 : decode cX11_putBytes 2 = .ok (.istore_n 2, 1) := by decide +kernel
theorem dX11_putBytes_3 : decode cX11_putBytes 3 = .ok (.iload_n 2, 1) := by decide +kernel
theorem dX11_putBytes_4 : decode cX11_putBytes 4 = .ok (.ifCond .lt 42, 3) := by decide +kernel
theorem dX11_putBytes_7 : decode cX11_putBytes 7 = .ok (.aload_n 0, 1) := by decide +kernel
theorem dX11_putBytes_8 : decode cX11_putBytes 8 = .ok (.getfield 62, 3) := by decide +kernel
theorem dX11_putBytes_11 : decode cX11_putBytes 11 = .ok (.sipush 600, 3) := by decide +kernel
theorem dX11_putBytes_14 : decode cX11_putBytes 14 = .ok (.if_icmp .ge 32, 3) := by decide +kernel
theorem dX11_putBytes_17 : decode cX11_putBytes 17 = .ok (.aload_n 0, 1) := by decide +kernel
theorem dX11_putBytes_18 : decode cX11_putBytes 18 = .ok (.getfield 9, 3) := by decide +kernel
theorem dX11_putBytes_21 : decode cX11_putBytes 21 = .ok (.aload_n 0, 1) := by decide +kernel
theorem dX11_putBytes_22 : decode cX11_putBytes 22 = .ok (.getfield 62, 3) := by decide +kernel
theorem dX11_putBytes_25 : decode cX11_putBytes 25 = .ok (.iload_n 1, 1) := by decide +kernel
theorem dX11_putBytes_26 : decode cX11_putBytes 26 = .ok (.iload_n 2, 1) := by decide +kernel
theorem dX11_putBytes_27 : decode cX11_putBytes 27 = .ok (.ishr, 1) := by decide +kernel
theorem dX11_putBytes_28 : decode cX11_putBytes 28 = .ok (.i2b, 1) := by decide +kernel
theorem dX11_putBytes_29 : decode cX11_putBytes 29 = .ok (.bastore, 1) := by decide +kernel
theorem dX11_putBytes_30 : decode cX11_putBytes 30 = .ok (.aload_n 0, 1) := by decide +kernel
theorem dX11_putBytes_31 : decode cX11_putBytes 31 = .ok (.dup, 1) := by decide +kernel
theorem dX11_putBytes_32 : decode cX11_putBytes 32 = .ok (.getfield 62, 3) := by decide +kernel
theorem dX11_putBytes_35 : decode cX11_putBytes 35 = .ok (.iconst 1, 1) := by decide +kernel
theorem dX11_putBytes_36 : decode cX11_putBytes 36 = .ok (.iadd, 1) := by decide +kernel
theorem dX11_putBytes_37 : decode cX11_putBytes 37 = .ok (.putfield 62, 3) := by decide +kernel
theorem dX11_putBytes_40 : decode cX11_putBytes 40 = .ok (.iinc 2 (-8), 3) := by decide +kernel
theorem dX11_putBytes_43 : decode cX11_putBytes 43 = .ok (.goto (-40), 3) := by decide +kernel
theorem dX11_putBytes_46 : decode cX11_putBytes 46 = .ok (.return_, 1) := by decide +kernel
theorem okX11_putBytes_3 {E : Ev} {X : Cx} {S : Sh} {Z : Option Nat} {Q : Hp → Prop} {a0 : Nat} {x1 : Int32} (O : Ok E X yX11_putBytes cX11_putBytes 3 none 1 24 0 0 (qV S Z Q)) : ∀ (n : Nat) (h : Hp) (x2 : Int32), wX11_putBytes_3 S a0 x1 Q n h x2 → G E X 0 0 S Z h 3 [some (vr a0), some (vi x1), some (vi x2)] [] := by
  intro n
  induction n with
  | zero => intro h x2 hw; exact hw.elim
  | succ n hB3 =>
    intro h x2 hw
    have hw : wX11_putBytes_3b S a0 x1 Q (wX11_putBytes_3 S a0 x1 Q n) h x2 := hw
    unfold wX11_putBytes_3b at hw
    refine g_iload_n O dX11_putBytes_3 rfl ?_
    refine g_if_lt (tgt := 46) O dX11_putBytes_4 rfl (fun q4 => ?_) (fun q4 => ?_)
    · have hw := hw.1 q4
      exact g_return O dX11_putBytes_46 ⟨rfl, rfl, rfl, hw⟩
    · have hw := hw.2 q4
      refine g_aload_n O dX11_putBytes_7 rfl ?_
      obtain ⟨c8, hw⟩ := hw
      refine gf_X11_tapeSize O dX11_putBytes_8 fl_X11_62 c8 ?_
      refine g_sipush O dX11_putBytes_11 ks_600 ?_
      refine g_icmp_ge (tgt := 46) O dX11_putBytes_14 rfl (fun q14 => ?_) (fun q14 => ?_)
      · have hw := hw.1 q14
        exact g_return O dX11_putBytes_46 ⟨rfl, rfl, rfl, hw⟩
      · have hw := hw.2 q14
        refine g_aload_n O dX11_putBytes_17 rfl ?_
        refine gf_X11_tape O dX11_putBytes_18 fl_X11_9 c8 ?_
        refine g_aload_n O dX11_putBytes_21 rfl ?_
        refine gf_X11_tapeSize O dX11_putBytes_22 fl_X11_62 c8 ?_
        refine g_iload_n O dX11_putBytes_25 rfl ?_
        refine g_iload_n O dX11_putBytes_26 rfl ?_
        refine g_ishr O dX11_putBytes_27 ?_
        refine g_i2b O dX11_putBytes_28 ?_
        obtain ⟨c29, hw⟩ := hw
        refine g_bastore O dX11_putBytes_29 c29.1 c29.2 ?_
        refine g_nmH (fun h29 e29 => ?_)
        have hw := hw h29 e29
        refine g_aload_n O dX11_putBytes_30 rfl ?_
        refine g_dup O dX11_putBytes_31 rfl ?_
        refine gf_X11_tapeSize O dX11_putBytes_32 fl_X11_62 c8 ?_
        refine g_iconst O dX11_putBytes_35 kv_1 ?_
        refine g_iadd O dX11_putBytes_36 ?_
        refine pf_X11_tapeSize O dX11_putBytes_37 fl_X11_62 c8 ?_
        refine g_iinc (lc' := [some (vr a0), some (vi x1), some (vi (x2 + (-8 : Int32)))]) O dX11_putBytes_40 rfl kv_m8 rfl rfl ?_
        refine g_goto (tgt := 3) O dX11_putBytes_43 rfl ?_
        exact hB3 _ _ hw
theorem okX11_putBytes {E : Ev} {S : Sh} {Z : Option Nat} {Q : Hp → Prop} {h : Hp} {a0 : Nat} {x1 : Int32} (hw : wX11_putBytes S h a0 x1 Q) : Ct E yX11_putBytes cX11_putBytes 3 none 1 24 0 0 S Z h [vr a0, vi x1] (qV S Z Q) := by
  refine Ct.of (by decide) (lc := [some (vr a0), some (vi x1), none]) (Nat.le_of_ble_eq_true rfl) rfl (fun X O => ?_)
  unfold wX11_putBytes at hw
  refine g_bipush O dX11_putBytes_0 kb_24 ?_
  refine g_istore_n (lc' := [some (vr a0), some (vi x1), some (vi (24 : Int32))]) O dX11_putBytes_2 rfl (Nat.le_of_ble_eq_true rfl) rfl ?_
  obtain ⟨n3, hw⟩ := hw
  exact okX11_putBytes_3 O n3 _ _ hw
