theorem dX2_init_0 : decode cX2_init 0 = .ok (.aload_n 0, 1) := by decide +kernel
theorem dX2_init_1 : decode cX2_init 1 = .ok (.invokespecial 3, 3) := by decide +kernel
theorem dX2_init_4 : decode cX2_init 4 = .ok (.aload_n 0, 1) := by decide +kernel
theorem dX2_init_5 : decode cX2_init 5 = .ok (.iconst 3, 1) := by decide +kernel
theorem dX2_init_6 : decode cX2_init 6 = .ok (.newarray .long, 2) := by decide +kernel
theorem dX2_init_8 : decode cX2_init 8 = .ok (.putfield 9, 3) := by decide +kernel
theorem dX2_init_11 : decode cX2_init 11 = .ok (.aload_n 0, 1) := by decide +kernel
theorem dX2_init_12 : decode cX2_init 12 = .ok (.iconst 3, 1) := by decide +kernel
theorem dX2_init_13 : decode cX2_init 13 = .ok (.newarray .int, 2) := by decide +kernel
theorem dX2_init_15 : decode cX2_init 15 = .ok (.putfield 15, 3) := by decide +kernel
theorem dX2_init_18 : decode cX2_init 18 = .ok (.aload_n 0, 1) := by decide +kernel
theorem dX2_init_19 : decode cX2_init 19 = .ok (.iconst 3, 1) := by decide +kernel
theorem dX2_init_20 : decode cX2_init 20 = .ok (.newarray .int, 2) := by decide +kernel
theorem dX2_init_22 : decode cX2_init 22 = .ok (.putfield 19, 3) := by decide +kernel
theorem dX2_init_25 : decode cX2_init 25 = .ok (.aload_n 0, 1) := by decide +kernel
theorem dX2_init_26 : decode cX2_init 26 = .ok (.iconst 3, 1) := by decide +kernel
theorem dX2_init_27 : decode cX2_init 27 = .ok (.newarray .int, 2) := by decide +kernel
theorem dX2_init_29 : decode cX2_init 29 = .ok (.putfield 22, 3) := by decide +kernel
theorem dX2_init_32 : decode cX2_init 32 = .ok (.aload_n 0, 1) := by decide +kernel
theorem dX2_init_33 : decode cX2_init 33 = .ok (.iconst 4, 1) := by decide +kernel
theorem dX2_init_34 : decode cX2_init 34 = .ok (.newarray .int, 2) := by decide +kernel
theorem dX2_init_36 : decode cX2_init 36 = .ok (.putfield 25, 3) := by decide +kernel
theorem dX2_init_39 : decode cX2_init 39 = .ok (.aload_n 0, 1) := by decide +kernel
theorem dX2_init_40 : decode cX2_init 40 = .ok (.iconst 4, 1) := by decide +kernel
theorem dX2_init_41 : decode cX2_init 41 = .ok (.anewarray 28, 3) := by decide +kernel
theorem dX2_init_44 : decode cX2_init 44 = .ok (.putfield 30, 3) := by decide +kernel
theorem dX2_init_47 : decode cX2_init 47 = .ok (.aload_n 0, 1) := by decide +kernel
theorem dX2_init_48 : decode cX2_init 48 = .ok (.bipush 100, 2) := by decide +kernel
theorem dX2_init_50 : decode cX2_init 50 = .ok (.newarray .boolean, 2) := by decide +kernel
theorem dX2_init_52 : decode cX2_init 52 = .ok (.putfield 34, 3) := by decide +kernel
theorem dX2_init_55 : decode cX2_init 55 = .ok (.aload_n 0, 1) := by decide +kernel
theorem dX2_init_56 : decode cX2_init 56 = .ok (.bipush 100, 2) := by decide +kernel
theorem dX2_init_58 : decode cX2_init 58 = .ok (.anewarray 38, 3) := by decide +kernel
theorem dX2_init_61 : decode cX2_init 61 = .ok (.putfield 40, 3) := by decide +kernel
theorem dX2_init_64 : decode cX2_init 64 = .ok (.aload_n 0, 1) := by decide +kernel
theorem dX2_init_65 : decode cX2_init 65 = .ok (.bipush 100, 2) := by decide +kernel
theorem dX2_init_67 : decode cX2_init 67 = .ok (.newarray .int, 2) := by decide +kernel
theorem dX2_init_69 : decode cX2_init 69 = .ok (.putfield 44, 3) := by decide +kernel
theorem dX2_init_72 : decode cX2_init 72 = .ok (.aload_n 0, 1) := by decide +kernel
theorem dX2_init_73 : decode cX2_init 73 = .ok (.bipush 14, 2) := by decide +kernel
theorem dX2_init_75 : decode cX2_init 75 = .ok (.anewarray 47, 3) := by decide +kernel
theorem dX2_init_78 : decode cX2_init 78 = .ok (.putfield 49, 3) := by decide +kernel
theorem dX2_init_81 : decode cX2_init 81 = .ok (.iconst 0, 1) := by decide +kernel
theorem dX2_init_82 : decode cX2_init 82 = .ok (.istore_n 1, 1) := by decide +kernel
theorem dX2_init_83 : decode cX2_init 83 = .ok (.iload_n 1, 1) := by decide +kernel
theorem dX2_init_84 : decode cX2_init 84 = .ok (.iconst 4, 1) := by decide +kernel
theorem dX2_init_85 : decode cX2_init 85 = .ok (.if_icmp .ge 22, 3) := by decide +kernel
theorem dX2_init_88 : decode cX2_init 88 = .ok (.aload_n 0, 1) := by decide +kernel
theorem dX2_init_89 : decode cX2_init 89 = .ok (.getfield 30, 3) := by decide +kernel
theorem dX2_init_92 : decode cX2_init 92 = .ok (.iload_n 1, 1) := by decide +kernel
theorem dX2_init_93 : decode cX2_init 93 = .ok (.new 28, 3) := by decide +kernel
theorem dX2_init_96 : decode cX2_init 96 = .ok (.dup, 1) := by decide +kernel
theorem dX2_init_97 : decode cX2_init 97 = .ok (.invokespecial 53, 3) := by decide +kernel
theorem dX2_init_100 : decode cX2_init 100 = .ok (.aastore, 1) := by decide +kernel
theorem dX2_init_101 : decode cX2_init 101 = .ok (.iinc 1 1, 3) := by decide +kernel
theorem dX2_init_104 : decode cX2_init 104 = .ok (.goto (-21), 3) := by decide +kernel
theorem dX2_init_107 : decode cX2_init 107 = .ok (.iconst 0, 1) := by decide +kernel
theorem dX2_init_108 : decode cX2_init 108 = .ok (.istore_n 1, 1) := by decide +kernel
theorem dX2_init_109 : decode cX2_init 109 = .ok (.iload_n 1, 1) := by decide +kernel
theorem dX2_init_110 : decode cX2_init 110 = .ok (.bipush 100, 2) := by decide +kernel
theorem dX2_init_112 : decode cX2_init 112 = .ok (.if_icmp .ge 22, 3) := by decide +kernel
theorem dX2_init_115 : decode cX2_init 115 = .ok (.aload_n 0, 1) := by decide +kernel
theorem dX2_init_116 : decode cX2_init 116 = .ok (.getfield 40, 3) := by decide +kernel
theorem dX2_init_119 : decode cX2_init 119 = .ok (.iload_n 1, 1) := by decide +kernel
theorem dX2_init_120 : decode cX2_init 120 = .ok (.new 38, 3) := by decide +kernel
theorem dX2_init_123 : decode cX2_init 123 = .ok (.dup, 1) := by decide +kernel
theorem dX2_init_124 : decode cX2_init 124 = .ok (.invokespecial 54, 3) := by decide +kernel
theorem dX2_init_127 : decode cX2_init 127 = .ok (.aastore, 1) := by decide +kernel
theorem dX2_init_128 : decode cX2_init 128 = .ok (.iinc 1 1, 3) := by decide +kernel
theorem dX2_init_131 : decode cX2_init 131 = .ok (.goto (-22), 3) := by decide +kernel
theorem dX2_init_134 : decode cX2_init 134 = .ok (.iconst 0, 1) := by decide +kernel
theorem dX2_init_135 : decode cX2_init 135 = .ok (.istore_n 1, 1) := by decide +kernel
theorem dX2_init_136 : decode cX2_init 136 = .ok (.iload_n 1, 1) := by decide +kernel
theorem dX2_init_137 : decode cX2_init 137 = .ok (.bipush 14, 2) := by decide +kernel
theorem dX2_init_139 : decode cX2_init 139 = .ok (.if_icmp .ge 22, 3) := by decide +kernel
theorem dX2_init_142 : decode cX2_init 142 = .ok (.aload_n 0, 1) := by decide +kernel
theorem dX2_init_143 : decode cX2_init 143 = .ok (.getfield 49, 3) := by decide +kernel
theorem dX2_init_146 : decode cX2_init 146 = .ok (.iload_n 1, 1) := by decide +kernel
theorem dX2_init_147 : decode cX2_init 147 = .ok (.new 47, 3) := by decide +kernel
theorem dX2_init_150 : decode cX2_init 150 = .ok (.dup, 1) := by decide +kernel
theorem dX2_init_151 : decode cX2_init 151 = .ok (.invokespecial 55, 3) := by decide +kernel
theorem dX2_init_154 : decode cX2_init 154 = .ok (.aastore, 1) := by decide +kernel
theorem dX2_init_155 : decode cX2_init 155 = .ok (.iinc 1 1, 3) := by decide +kernel
theorem dX2_init_158 : decode cX2_init 158 = .ok (.goto (-22), 3) := by decide +kernel
theorem dX2_init_161 : decode cX2_init 161 = .ok (.return_, 1) := by decide +kernel
theorem okX2_init_136 {E : Ev} {X : Cx} {Q : Sh → Nat → Hp → Prop} {a0 : Nat} (O : Ok E X yX2_init cX2_init 2 none 2 44 144 5460 (qA Q)) : ∀ (n : Nat) (S : Sh) (z nc ns : Nat) (h : Hp) (x1 : Int32), wX2_init_136 a0 Q n S z nc ns h x1 → G E X nc ns S (some z) h 136 [some (vr a0), some (vi x1)] [] := by
  intro n
  induction n with
  | zero => intro S z nc ns h x1 hw; exact hw.elim
  | succ n hB136 =>
    intro S z nc ns h x1 hw
    have hw : wX2_init_136b a0 Q (wX2_init_136 a0 Q n) S z nc ns h x1 := hw
    unfold wX2_init_136b at hw
    refine g_iload_n O dX2_init_136 rfl ?_
    refine g_bipush O dX2_init_137 kb_14 ?_
    refine g_icmp_ge (tgt := 161) O dX2_init_139 rfl (fun q139 => ?_) (fun q139 => ?_)
    · have hw := hw.1 q139
      obtain ⟨c161a, c161b, hw⟩ := hw
      exact g_widen c161a c161b (g_return O dX2_init_161 ⟨_, rfl, rfl, hw⟩)
    · have hw := hw.2 q139
      refine g_aload_n O dX2_init_142 rfl ?_
      obtain ⟨c143, hw⟩ := hw
      refine gf_X2_verdicts O dX2_init_143 fl_X2_49 c143 ?_
      refine g_iload_n O dX2_init_146 rfl ?_
      obtain ⟨c147a, hw⟩ := hw
      obtain ⟨c147b, c147c, hw⟩ := hw
      refine g_new O ci_9 fd_X9 dX2_init_147 cl_X2_47 ins_X9 ini_X9 c147a c147b c147c ?_
      refine g_dup O dX2_init_150 rfl ?_
      obtain ⟨c151m, hw⟩ := hw
      obtain ⟨c151n, hw⟩ := hw
      obtain ⟨c151, hw⟩ := hw
      refine g_callIN (As := []) (rest := [vr z, vi x1, vr (gR h a0 9)]) O rfl dX2_init_151 xw_X2_55 im_yX9_init ini_X9 co_yX9_init yo_yX9_init c151 rfl rfl (Nat.le_of_ble_eq_true rfl) ⟨by decide, by decide, c151m, c151n⟩ (okX9_init hw) (k_V fun h151 hw => ?_)
      obtain ⟨c154, hw⟩ := hw
      obtain ⟨c154v, hw⟩ := hw
      refine g_aastore (t := 3) O ci_9 rfl dX2_init_154 c154.1 c154v c154.2 ?_
      refine g_iinc (lc' := [some (vr a0), some (vi (x1 + (1 : Int32)))]) O dX2_init_155 rfl kv_1 rfl rfl ?_
      refine g_goto (tgt := 136) O dX2_init_158 rfl ?_
      exact hB136 _ _ _ _ _ _ hw
theorem okX2_init_j134 {E : Ev} {X : Cx} {Q : Sh → Nat → Hp → Prop} {S : Sh} {z nc ns : Nat} {h : Hp} {a0 : Nat} (O : Ok E X yX2_init cX2_init 2 none 2 44 144 5460 (qA Q)) (hw : wX2_init_j134 S z nc ns h a0 Q) : G E X nc ns S (some z) h 134 [some (vr a0), none] [] := by
  unfold wX2_init_j134 at hw
  refine g_iconst O dX2_init_134 kv_0 ?_
  refine g_istore_n (lc' := [some (vr a0), some (vi (0 : Int32))]) O dX2_init_135 rfl (Nat.le_of_ble_eq_true rfl) rfl ?_
  obtain ⟨n136, hw⟩ := hw
  exact okX2_init_136 O n136 _ _ _ _ _ _ hw
theorem okX2_init_109 {E : Ev} {X : Cx} {Q : Sh → Nat → Hp → Prop} {a0 : Nat} (O : Ok E X yX2_init cX2_init 2 none 2 44 144 5460 (qA Q)) : ∀ (n : Nat) (S : Sh) (z nc ns : Nat) (h : Hp) (x1 : Int32), wX2_init_109 a0 Q n S z nc ns h x1 → G E X nc ns S (some z) h 109 [some (vr a0), some (vi x1)] [] := by
  intro n
  induction n with
  | zero => intro S z nc ns h x1 hw; exact hw.elim
  | succ n hB109 =>
    intro S z nc ns h x1 hw
    have hw : wX2_init_109b a0 Q (wX2_init_109 a0 Q n) S z nc ns h x1 := hw
    unfold wX2_init_109b at hw
    refine g_iload_n O dX2_init_109 rfl ?_
    refine g_bipush O dX2_init_110 kb_100 ?_
    refine g_icmp_ge (tgt := 134) O dX2_init_112 rfl (fun q112 => ?_) (fun q112 => ?_)
    · have hw := hw.1 q112
      refine g_mask [true, false] rfl rfl ?_
      exact okX2_init_j134 O hw
    · have hw := hw.2 q112
      refine g_aload_n O dX2_init_115 rfl ?_
      obtain ⟨c116, hw⟩ := hw
      refine gf_X2_glue O dX2_init_116 fl_X2_40 c116 ?_
      refine g_iload_n O dX2_init_119 rfl ?_
      obtain ⟨c120a, hw⟩ := hw
      obtain ⟨c120b, c120c, hw⟩ := hw
      refine g_new O ci_7 fd_X7 dX2_init_120 cl_X2_38 ins_X7 ini_X7 c120a c120b c120c ?_
      refine g_dup O dX2_init_123 rfl ?_
      obtain ⟨c124m, hw⟩ := hw
      obtain ⟨c124n, hw⟩ := hw
      obtain ⟨c124, hw⟩ := hw
      refine g_callIN (As := []) (rest := [vr z, vi x1, vr (gR h a0 7)]) O rfl dX2_init_124 xw_X2_54 im_yX7_init ini_X7 co_yX7_init yo_yX7_init c124 rfl rfl (Nat.le_of_ble_eq_true rfl) ⟨by decide, by decide, c124m, c124n⟩ (okX7_init hw) (k_V fun h124 hw => ?_)
      obtain ⟨c127, hw⟩ := hw
      obtain ⟨c127v, hw⟩ := hw
      refine g_aastore (t := 2) O ci_7 rfl dX2_init_127 c127.1 c127v c127.2 ?_
      refine g_iinc (lc' := [some (vr a0), some (vi (x1 + (1 : Int32)))]) O dX2_init_128 rfl kv_1 rfl rfl ?_
      refine g_goto (tgt := 109) O dX2_init_131 rfl ?_
      exact hB109 _ _ _ _ _ _ hw
theorem okX2_init_j107 {E : Ev} {X : Cx} {Q : Sh → Nat → Hp → Prop} {S : Sh} {z nc ns : Nat} {h : Hp} {a0 : Nat} (O : Ok E X yX2_init cX2_init 2 none 2 44 144 5460 (qA Q)) (hw : wX2_init_j107 S z nc ns h a0 Q) : G E X nc ns S (some z) h 107 [some (vr a0), none] [] := by
  unfold wX2_init_j107 at hw
  refine g_iconst O dX2_init_107 kv_0 ?_
  refine g_istore_n (lc' := [some (vr a0), some (vi (0 : Int32))]) O dX2_init_108 rfl (Nat.le_of_ble_eq_true rfl) rfl ?_
  obtain ⟨n109, hw⟩ := hw
  exact okX2_init_109 O n109 _ _ _ _ _ _ hw
theorem okX2_init_83 {E : Ev} {X : Cx} {Q : Sh → Nat → Hp → Prop} {a0 : Nat} (O : Ok E X yX2_init cX2_init 2 none 2 44 144 5460 (qA Q)) : ∀ (n : Nat) (S : Sh) (z nc ns : Nat) (h : Hp) (x1 : Int32), wX2_init_83 a0 Q n S z nc ns h x1 → G E X nc ns S (some z) h 83 [some (vr a0), some (vi x1)] [] := by
  intro n
  induction n with
  | zero => intro S z nc ns h x1 hw; exact hw.elim
  | succ n hB83 =>
    intro S z nc ns h x1 hw
    have hw : wX2_init_83b a0 Q (wX2_init_83 a0 Q n) S z nc ns h x1 := hw
    unfold wX2_init_83b at hw
    refine g_iload_n O dX2_init_83 rfl ?_
    refine g_iconst O dX2_init_84 kv_4 ?_
    refine g_icmp_ge (tgt := 107) O dX2_init_85 rfl (fun q85 => ?_) (fun q85 => ?_)
    · have hw := hw.1 q85
      refine g_mask [true, false] rfl rfl ?_
      exact okX2_init_j107 O hw
    · have hw := hw.2 q85
      refine g_aload_n O dX2_init_88 rfl ?_
      obtain ⟨c89, hw⟩ := hw
      refine gf_X2_event O dX2_init_89 fl_X2_30 c89 ?_
      refine g_iload_n O dX2_init_92 rfl ?_
      obtain ⟨c93a, hw⟩ := hw
      obtain ⟨c93b, c93c, hw⟩ := hw
      refine g_new O ci_0 fd_X0 dX2_init_93 cl_X2_28 ins_X0 ini_X0 c93a c93b c93c ?_
      refine g_dup O dX2_init_96 rfl ?_
      obtain ⟨c97b, c97c, hw⟩ := hw
      obtain ⟨c97, hw⟩ := hw
      refine g_callIN (As := []) (rest := [vr z, vi x1, vr (gR h a0 5)]) O rfl dX2_init_97 xw_X2_53 im_yX0_init ini_X0 co_yX0_init yo_yX0_init c97 rfl rfl (Nat.le_of_ble_eq_true rfl) ⟨by decide, by decide, c97b, c97c⟩ (okX0_init hw) (k_A fun S97 z97 h97 hw => ?_)
      obtain ⟨c100, hw⟩ := hw
      obtain ⟨c100v, hw⟩ := hw
      refine g_aastore (t := 0) O ci_0 rfl dX2_init_100 c100.1 c100v c100.2 ?_
      refine g_iinc (lc' := [some (vr a0), some (vi (x1 + (1 : Int32)))]) O dX2_init_101 rfl kv_1 rfl rfl ?_
      refine g_goto (tgt := 83) O dX2_init_104 rfl ?_
      exact hB83 _ _ _ _ _ _ hw
theorem okX2_init {E : Ev} {Q : Sh → Nat → Hp → Prop} {S : Sh} {z : Nat} {h : Hp} {a0 : Nat} (hw : wX2_init S z h a0 Q) : Ct E yX2_init cX2_init 2 none 2 44 144 5460 S (some z) h [vr a0] (qA Q) := by
  refine Ct.of (by decide) (lc := [some (vr a0), none]) (Nat.le_of_ble_eq_true rfl) rfl (fun X O => ?_)
  unfold wX2_init at hw
  refine g_aload_n O dX2_init_0 rfl ?_
  obtain ⟨c1, hw⟩ := hw
  refine g_objInit O dX2_init_1 ml_X2_3 c1 rfl rfl (Nat.le_of_ble_eq_true rfl) ⟨by decide, by decide⟩ ?_
  refine g_aload_n O dX2_init_4 rfl ?_
  refine g_iconst O dX2_init_5 kv_3 ?_
  obtain ⟨c6a, hw⟩ := hw
  obtain ⟨c6b, c6c, hw⟩ := hw
  refine g_newarray (atype := .long) (t := 3) (N := 3) O rfl (fun I J R j h1 h2 h3 => by simp [aval, h1, h2, newarray.typeOf, defaultValue]) (fun U cA q => q) dX2_init_6 ac_long (by decide) (by decide) (by decide) c6a c6b c6c ?_
  obtain ⟨c8, hw⟩ := hw
  refine pf_X2_names O rfl rfl dX2_init_8 fl_X2_9 c8 ?_
  refine g_nmH (fun h8 e8 => ?_)
  have hw := hw h8 e8
  refine g_aload_n O dX2_init_11 rfl ?_
  refine g_iconst O dX2_init_12 kv_3 ?_
  obtain ⟨c13a, hw⟩ := hw
  obtain ⟨c13b, c13c, hw⟩ := hw
  refine g_newarray (atype := .int) (t := 0) (N := 3) O rfl (fun I J R j h1 h2 h3 => by simp [aval, h1, h2, newarray.typeOf, defaultValue]) (fun U cA q => q) dX2_init_13 ac_int (by decide) (by decide) (by decide) c13a c13b c13c ?_
  obtain ⟨c15, hw⟩ := hw
  refine pf_X2_low O rfl rfl dX2_init_15 fl_X2_15 c15 ?_
  refine g_nmH (fun h15 e15 => ?_)
  have hw := hw h15 e15
  refine g_aload_n O dX2_init_18 rfl ?_
  refine g_iconst O dX2_init_19 kv_3 ?_
  obtain ⟨c20a, hw⟩ := hw
  obtain ⟨c20b, c20c, hw⟩ := hw
  refine g_newarray (atype := .int) (t := 0) (N := 3) O rfl (fun I J R j h1 h2 h3 => by simp [aval, h1, h2, newarray.typeOf, defaultValue]) (fun U cA q => q) dX2_init_20 ac_int (by decide) (by decide) (by decide) c20a c20b c20c ?_
  obtain ⟨c22, hw⟩ := hw
  refine pf_X2_high O rfl rfl dX2_init_22 fl_X2_19 c22 ?_
  refine g_nmH (fun h22 e22 => ?_)
  have hw := hw h22 e22
  refine g_aload_n O dX2_init_25 rfl ?_
  refine g_iconst O dX2_init_26 kv_3 ?_
  obtain ⟨c27a, hw⟩ := hw
  obtain ⟨c27b, c27c, hw⟩ := hw
  refine g_newarray (atype := .int) (t := 0) (N := 3) O rfl (fun I J R j h1 h2 h3 => by simp [aval, h1, h2, newarray.typeOf, defaultValue]) (fun U cA q => q) dX2_init_27 ac_int (by decide) (by decide) (by decide) c27a c27b c27c ?_
  obtain ⟨c29, hw⟩ := hw
  refine pf_X2_at O rfl rfl dX2_init_29 fl_X2_22 c29 ?_
  refine g_nmH (fun h29 e29 => ?_)
  have hw := hw h29 e29
  refine g_aload_n O dX2_init_32 rfl ?_
  refine g_iconst O dX2_init_33 kv_4 ?_
  obtain ⟨c34a, hw⟩ := hw
  obtain ⟨c34b, c34c, hw⟩ := hw
  refine g_newarray (atype := .int) (t := 0) (N := 4) O rfl (fun I J R j h1 h2 h3 => by simp [aval, h1, h2, newarray.typeOf, defaultValue]) (fun U cA q => q) dX2_init_34 ac_int (by decide) (by decide) (by decide) c34a c34b c34c ?_
  obtain ⟨c36, hw⟩ := hw
  refine pf_X2_lawCode O rfl rfl dX2_init_36 fl_X2_25 c36 ?_
  refine g_nmH (fun h36 e36 => ?_)
  have hw := hw h36 e36
  refine g_aload_n O dX2_init_39 rfl ?_
  refine g_iconst O dX2_init_40 kv_4 ?_
  obtain ⟨c41a, hw⟩ := hw
  obtain ⟨c41b, c41c, hw⟩ := hw
  refine g_anewarray (t := 0) (N := 4) O rfl (by decide) dX2_init_41 cl_X2_28 (by decide) (by decide) (by decide) c41a c41b c41c ?_
  obtain ⟨c44, hw⟩ := hw
  refine pf_X2_event O rfl rfl dX2_init_44 fl_X2_30 c44 ?_
  refine g_nmH (fun h44 e44 => ?_)
  have hw := hw h44 e44
  refine g_aload_n O dX2_init_47 rfl ?_
  refine g_bipush O dX2_init_48 kb_100 ?_
  obtain ⟨c50a, hw⟩ := hw
  obtain ⟨c50b, c50c, hw⟩ := hw
  refine g_newarray (atype := .boolean) (t := 2) (N := 100) O rfl (fun I J R j h1 h2 h3 => by simp [aval, h1, h2, newarray.typeOf, defaultValue]) (fun U cA q => q) dX2_init_50 ac_boolean (by decide) (by decide) (by decide) c50a c50b c50c ?_
  obtain ⟨c52, hw⟩ := hw
  refine pf_X2_sound O rfl rfl dX2_init_52 fl_X2_34 c52 ?_
  refine g_nmH (fun h52 e52 => ?_)
  have hw := hw h52 e52
  refine g_aload_n O dX2_init_55 rfl ?_
  refine g_bipush O dX2_init_56 kb_100 ?_
  obtain ⟨c58a, hw⟩ := hw
  obtain ⟨c58b, c58c, hw⟩ := hw
  refine g_anewarray (t := 2) (N := 100) O rfl (by decide) dX2_init_58 cl_X2_38 (by decide) (by decide) (by decide) c58a c58b c58c ?_
  obtain ⟨c61, hw⟩ := hw
  refine pf_X2_glue O rfl rfl dX2_init_61 fl_X2_40 c61 ?_
  refine g_nmH (fun h61 e61 => ?_)
  have hw := hw h61 e61
  refine g_aload_n O dX2_init_64 rfl ?_
  refine g_bipush O dX2_init_65 kb_100 ?_
  obtain ⟨c67a, hw⟩ := hw
  obtain ⟨c67b, c67c, hw⟩ := hw
  refine g_newarray (atype := .int) (t := 0) (N := 100) O rfl (fun I J R j h1 h2 h3 => by simp [aval, h1, h2, newarray.typeOf, defaultValue]) (fun U cA q => q) dX2_init_67 ac_int (by decide) (by decide) (by decide) c67a c67b c67c ?_
  obtain ⟨c69, hw⟩ := hw
  refine pf_X2_variants O rfl rfl dX2_init_69 fl_X2_44 c69 ?_
  refine g_nmH (fun h69 e69 => ?_)
  have hw := hw h69 e69
  refine g_aload_n O dX2_init_72 rfl ?_
  refine g_bipush O dX2_init_73 kb_14 ?_
  obtain ⟨c75a, hw⟩ := hw
  obtain ⟨c75b, c75c, hw⟩ := hw
  refine g_anewarray (t := 3) (N := 14) O rfl (by decide) dX2_init_75 cl_X2_47 (by decide) (by decide) (by decide) c75a c75b c75c ?_
  obtain ⟨c78, hw⟩ := hw
  refine pf_X2_verdicts O rfl rfl dX2_init_78 fl_X2_49 c78 ?_
  refine g_iconst O dX2_init_81 kv_0 ?_
  refine g_istore_n (lc' := [some (vr a0), some (vi (0 : Int32))]) O dX2_init_82 rfl (Nat.le_of_ble_eq_true rfl) rfl ?_
  obtain ⟨n83, hw⟩ := hw
  exact okX2_init_83 O n83 _ _ _ _ _ _ hw
theorem dX2_number_0 : decode cX2_number 0 = .ok (.iload_n 1, 1) := by decide +kernel
theorem dX2_number_1 : decode cX2_number 1 = .ok (.istore_n 3, 1) := by decide +kernel
theorem dX2_number_2 : decode cX2_number 2 = .ok (.aload_n 0, 1) := by decide +kernel
theorem dX2_number_3 : decode cX2_number 3 = .ok (.getfield 60, 3) := by decide +kernel
theorem dX2_number_6 : decode cX2_number 6 = .ok (.iconst 1, 1) := by decide +kernel
theorem dX2_number_7 : decode cX2_number 7 = .ok (.isub, 1) := by decide +kernel
theorem dX2_number_8 : decode cX2_number 8 = .ok (.istore 4, 2) := by decide +kernel
theorem dX2_number_10 : decode cX2_number 10 = .ok (.iload 4, 2) := by decide +kernel
theorem dX2_number_12 : decode cX2_number 12 = .ok (.iload_n 2, 1) := by decide +kernel
theorem dX2_number_13 : decode cX2_number 13 = .ok (.if_icmp .le 18, 3) := by decide +kernel
theorem dX2_number_16 : decode cX2_number 16 = .ok (.iload_n 3, 1) := by decide +kernel
theorem dX2_number_17 : decode cX2_number 17 = .ok (.aload_n 0, 1) := by decide +kernel
theorem dX2_number_18 : decode cX2_number 18 = .ok (.iload 4, 2) := by decide +kernel
theorem dX2_number_20 : decode cX2_number 20 = .ok (.invokevirtual 106, 3) := by decide +kernel
theorem dX2_number_23 : decode cX2_number 23 = .ok (.idiv, 1) := by decide +kernel
theorem dX2_number_24 : decode cX2_number 24 = .ok (.istore_n 3, 1) := by decide +kernel
theorem dX2_number_25 : decode cX2_number 25 = .ok (.iinc 4 (-1), 3) := by decide +kernel
theorem dX2_number_28 : decode cX2_number 28 = .ok (.goto (-18), 3) := by decide +kernel
theorem dX2_number_31 : decode cX2_number 31 = .ok (.aload_n 0, 1) := by decide +kernel
theorem dX2_number_32 : decode cX2_number 32 = .ok (.getfield 15, 3) := by decide +kernel
theorem dX2_number_35 : decode cX2_number 35 = .ok (.iload_n 2, 1) := by decide +kernel
theorem dX2_number_36 : decode cX2_number 36 = .ok (.iaload, 1) := by decide +kernel
theorem dX2_number_37 : decode cX2_number 37 = .ok (.iload_n 3, 1) := by decide +kernel
theorem dX2_number_38 : decode cX2_number 38 = .ok (.aload_n 0, 1) := by decide +kernel
theorem dX2_number_39 : decode cX2_number 39 = .ok (.iload_n 2, 1) := by decide +kernel
theorem dX2_number_40 : decode cX2_number 40 = .ok (.invokevirtual 106, 3) := by decide +kernel
theorem dX2_number_43 : decode cX2_number 43 = .ok (.irem, 1) := by decide +kernel
theorem dX2_number_44 : decode cX2_number 44 = .ok (.iadd, 1) := by decide +kernel
theorem dX2_number_45 : decode cX2_number 45 = .ok (.ireturn, 1) := by decide +kernel
theorem okX2_number_j31 {E : Ev} {X : Cx} {S : Sh} {Z : Option Nat} {Q : Int32 → Hp → Prop} {h : Hp} {a0 : Nat} {x2 : Int32} {x3 : Int32} (O : Ok E X yX2_number cX2_number 5 (some .int) 2 45 0 0 (qI S Z Q)) (hw : wX2_number_j31 S h a0 x2 x3 Q) : G E X 0 0 S Z h 31 [some (vr a0), none, some (vi x2), some (vi x3), none] [] := by
  unfold wX2_number_j31 at hw
  refine g_aload_n O dX2_number_31 rfl ?_
  obtain ⟨c32, hw⟩ := hw
  refine gf_X2_low O dX2_number_32 fl_X2_15 c32 ?_
  refine g_iload_n O dX2_number_35 rfl ?_
  obtain ⟨c36, hw⟩ := hw
  refine g_iaload O dX2_number_36 c36.1 c36.2 ?_
  refine g_iload_n O dX2_number_37 rfl ?_
  refine g_aload_n O dX2_number_38 rfl ?_
  refine g_iload_n O dX2_number_39 rfl ?_
  refine g_callV (As := [vi x2]) (rest := [vi x3, vi ((gI h (gR h a0 1) (ix x2)))]) O ci_2 rfl dX2_number_40 ml_X2_106 im_yX2_span se_yX2_span ini_X2 co_yX2_span yo_yX2_span c32 rfl rfl (Nat.le_of_ble_eq_true rfl) ⟨by decide, by decide, by decide, by decide⟩ (okX2_span hw) (k_I fun r40 h40 hw => ?_)
  obtain ⟨c43, hw⟩ := hw
  refine g_irem O dX2_number_43 c43 ?_
  refine g_iadd O dX2_number_44 ?_
  exact g_ireturn O dX2_number_45 ⟨rfl, rfl, _, rfl, hw⟩
theorem okX2_number_10 {E : Ev} {X : Cx} {S : Sh} {Z : Option Nat} {Q : Int32 → Hp → Prop} {a0 : Nat} {x2 : Int32} (O : Ok E X yX2_number cX2_number 5 (some .int) 2 45 0 0 (qI S Z Q)) : ∀ (n : Nat) (h : Hp) (x3 : Int32) (x4 : Int32), wX2_number_10 S a0 x2 Q n h x3 x4 → G E X 0 0 S Z h 10 [some (vr a0), none, some (vi x2), some (vi x3), some (vi x4)] [] := by
  intro n
  induction n with
  | zero => intro h x3 x4 hw; exact hw.elim
  | succ n hB10 =>
    intro h x3 x4 hw
    have hw : wX2_number_10b S a0 x2 Q (wX2_number_10 S a0 x2 Q n) h x3 x4 := hw
    unfold wX2_number_10b at hw
    refine g_iload O dX2_number_10 rfl ?_
    refine g_iload_n O dX2_number_12 rfl ?_
    refine g_icmp_le (tgt := 31) O dX2_number_13 rfl (fun q13 => ?_) (fun q13 => ?_)
    · have hw := hw.1 q13
      refine g_mask [true, false, true, true, false] rfl rfl ?_
      exact okX2_number_j31 O hw
    · have hw := hw.2 q13
      refine g_iload_n O dX2_number_16 rfl ?_
      refine g_aload_n O dX2_number_17 rfl ?_
      refine g_iload O dX2_number_18 rfl ?_
      obtain ⟨c20, hw⟩ := hw
      refine g_callV (As := [vi x4]) (rest := [vi x3]) O ci_2 rfl dX2_number_20 ml_X2_106 im_yX2_span se_yX2_span ini_X2 co_yX2_span yo_yX2_span c20 rfl rfl (Nat.le_of_ble_eq_true rfl) ⟨by decide, by decide, by decide, by decide⟩ (okX2_span hw) (k_I fun r20 h20 hw => ?_)
      obtain ⟨c23, hw⟩ := hw
      refine g_idiv O dX2_number_23 c23 ?_
      refine g_istore_n (lc' := [some (vr a0), none, some (vi x2), some (vi (x3 / r20)), some (vi x4)]) O dX2_number_24 rfl (Nat.le_of_ble_eq_true rfl) rfl ?_
      refine g_iinc (lc' := [some (vr a0), none, some (vi x2), some (vi (x3 / r20)), some (vi (x4 + (-1 : Int32)))]) O dX2_number_25 rfl kv_m1 rfl rfl ?_
      refine g_goto (tgt := 10) O dX2_number_28 rfl ?_
      exact hB10 _ _ _ hw
theorem okX2_number {E : Ev} {S : Sh} {Z : Option Nat} {Q : Int32 → Hp → Prop} {h : Hp} {a0 : Nat} {x1 : Int32} {x2 : Int32} (hw : wX2_number S h a0 x1 x2 Q) : Ct E yX2_number cX2_number 5 (some .int) 2 45 0 0 S Z h [vr a0, vi x1, vi x2] (qI S Z Q) := by
  refine Ct.of (by decide) (lc := [some (vr a0), some (vi x1), some (vi x2), none, none]) (Nat.le_of_ble_eq_true rfl) rfl (fun X O => ?_)
  unfold wX2_number at hw
  refine g_iload_n O dX2_number_0 rfl ?_
  refine g_istore_n (lc' := [some (vr a0), some (vi x1), some (vi x2), some (vi x1), none]) O dX2_number_1 rfl (Nat.le_of_ble_eq_true rfl) rfl ?_
  refine g_aload_n O dX2_number_2 rfl ?_
  obtain ⟨c3, hw⟩ := hw
  refine gf_X2_variables O dX2_number_3 fl_X2_60 c3 ?_
  refine g_iconst O dX2_number_6 kv_1 ?_
  refine g_isub O dX2_number_7 ?_
  refine g_nmI (fun xv8 e8 => ?_)
  have hw := hw xv8 e8
  refine g_istore (lc' := [some (vr a0), some (vi x1), some (vi x2), some (vi x1), some (vi xv8)]) O dX2_number_8 rfl (Nat.le_of_ble_eq_true rfl) rfl ?_
  refine g_mask [true, false, true, true, true] rfl rfl ?_
  obtain ⟨n10, hw⟩ := hw
  exact okX2_number_10 O n10 _ _ _ hw
theorem dX2_spread_0 : decode cX2_spread 0 = .ok (.iload_n 1, 1) := by decide +kernel
theorem dX2_spread_1 : decode cX2_spread 1 = .ok (.istore 4, 2) := by decide +kernel
theorem dX2_spread_3 : decode cX2_spread 3 = .ok (.aload_n 0, 1) := by decide +kernel
theorem dX2_spread_4 : decode cX2_spread 4 = .ok (.getfield 60, 3) := by decide +kernel
theorem dX2_spread_7 : decode cX2_spread 7 = .ok (.iconst 1, 1) := by decide +kernel
theorem dX2_spread_8 : decode cX2_spread 8 = .ok (.isub, 1) := by decide +kernel
theorem dX2_spread_9 : decode cX2_spread 9 = .ok (.istore 5, 2) := by decide +kernel
theorem dX2_spread_11 : decode cX2_spread 11 = .ok (.iload 5, 2) := by decide +kernel
theorem dX2_spread_13 : decode cX2_spread 13 = .ok (.ifCond .lt 43, 3) := by decide +kernel
theorem dX2_spread_16 : decode cX2_spread 16 = .ok (.aload_n 0, 1) := by decide +kernel
theorem dX2_spread_17 : decode cX2_spread 17 = .ok (.iload 5, 2) := by decide +kernel
theorem dX2_spread_19 : decode cX2_spread 19 = .ok (.invokevirtual 106, 3) := by decide +kernel
theorem dX2_spread_22 : decode cX2_spread 22 = .ok (.istore 6, 2) := by decide +kernel
theorem dX2_spread_24 : decode cX2_spread 24 = .ok (.aload_n 2, 1) := by decide +kernel
theorem dX2_spread_25 : decode cX2_spread 25 = .ok (.iload_n 3, 1) := by decide +kernel
theorem dX2_spread_26 : decode cX2_spread 26 = .ok (.iload 5, 2) := by decide +kernel
theorem dX2_spread_28 : decode cX2_spread 28 = .ok (.iadd, 1) := by decide +kernel
theorem dX2_spread_29 : decode cX2_spread 29 = .ok (.aload_n 0, 1) := by decide +kernel
theorem dX2_spread_30 : decode cX2_spread 30 = .ok (.getfield 15, 3) := by decide +kernel
theorem dX2_spread_33 : decode cX2_spread 33 = .ok (.iload 5, 2) := by decide +kernel
theorem dX2_spread_35 : decode cX2_spread 35 = .ok (.iaload, 1) := by decide +kernel
theorem dX2_spread_36 : decode cX2_spread 36 = .ok (.iload 4, 2) := by decide +kernel
theorem dX2_spread_38 : decode cX2_spread 38 = .ok (.iload 6, 2) := by decide +kernel
theorem dX2_spread_40 : decode cX2_spread 40 = .ok (.irem, 1) := by decide +kernel
theorem dX2_spread_41 : decode cX2_spread 41 = .ok (.iadd, 1) := by decide +kernel
theorem dX2_spread_42 : decode cX2_spread 42 = .ok (.iastore, 1) := by decide +kernel
theorem dX2_spread_43 : decode cX2_spread 43 = .ok (.iload 4, 2) := by decide +kernel
theorem dX2_spread_45 : decode cX2_spread 45 = .ok (.iload 6, 2) := by decide +kernel
theorem dX2_spread_47 : decode cX2_spread 47 = .ok (.idiv, 1) := by decide +kernel
theorem dX2_spread_48 : decode cX2_spread 48 = .ok (.istore 4, 2) := by decide +kernel
theorem dX2_spread_50 : decode cX2_spread 50 = .ok (.iinc 5 (-1), 3) := by decide +kernel
theorem dX2_spread_53 : decode cX2_spread 53 = .ok (.goto (-42), 3) := by decide +kernel
theorem dX2_spread_56 : decode cX2_spread 56 = .ok (.return_, 1) := by decide +kernel
theorem okX2_spread_11 {E : Ev} {X : Cx} {S : Sh} {Z : Option Nat} {Q : Hp → Prop} {a0 : Nat} {a2 : Nat} {x3 : Int32} (O : Ok E X yX2_spread cX2_spread 7 none 2 45 0 0 (qV S Z Q)) : ∀ (n : Nat) (h : Hp) (x4 : Int32) (x5 : Int32), wX2_spread_11 S a0 a2 x3 Q n h x4 x5 → G E X 0 0 S Z h 11 [some (vr a0), none, some (vr a2), some (vi x3), some (vi x4), some (vi x5), none] [] := by
  intro n
  induction n with
  | zero => intro h x4 x5 hw; exact hw.elim
  | succ n hB11 =>
    intro h x4 x5 hw
    have hw : wX2_spread_11b S a0 a2 x3 Q (wX2_spread_11 S a0 a2 x3 Q n) h x4 x5 := hw
    unfold wX2_spread_11b at hw
    refine g_iload O dX2_spread_11 rfl ?_
    refine g_if_lt (tgt := 56) O dX2_spread_13 rfl (fun q13 => ?_) (fun q13 => ?_)
    · have hw := hw.1 q13
      exact g_return O dX2_spread_56 ⟨rfl, rfl, rfl, hw⟩
    · have hw := hw.2 q13
      refine g_aload_n O dX2_spread_16 rfl ?_
      refine g_iload O dX2_spread_17 rfl ?_
      obtain ⟨c19, hw⟩ := hw
      refine g_callV (As := [vi x5]) (rest := []) O ci_2 rfl dX2_spread_19 ml_X2_106 im_yX2_span se_yX2_span ini_X2 co_yX2_span yo_yX2_span c19 rfl rfl (Nat.le_of_ble_eq_true rfl) ⟨by decide, by decide, by decide, by decide⟩ (okX2_span hw) (k_I fun r19 h19 hw => ?_)
      refine g_istore (lc' := [some (vr a0), none, some (vr a2), some (vi x3), some (vi x4), some (vi x5), some (vi r19)]) O dX2_spread_22 rfl (Nat.le_of_ble_eq_true rfl) rfl ?_
      refine g_aload_n O dX2_spread_24 rfl ?_
      refine g_iload_n O dX2_spread_25 rfl ?_
      refine g_iload O dX2_spread_26 rfl ?_
      refine g_iadd O dX2_spread_28 ?_
      refine g_aload_n O dX2_spread_29 rfl ?_
      refine gf_X2_low O dX2_spread_30 fl_X2_15 c19 ?_
      refine g_iload O dX2_spread_33 rfl ?_
      obtain ⟨c35, hw⟩ := hw
      refine g_iaload O dX2_spread_35 c35.1 c35.2 ?_
      refine g_iload O dX2_spread_36 rfl ?_
      refine g_iload O dX2_spread_38 rfl ?_
      obtain ⟨c40, hw⟩ := hw
      refine g_irem O dX2_spread_40 c40 ?_
      refine g_iadd O dX2_spread_41 ?_
      obtain ⟨c42, hw⟩ := hw
      refine g_iastore O dX2_spread_42 c42.1 c42.2 ?_
      refine g_iload O dX2_spread_43 rfl ?_
      refine g_iload O dX2_spread_45 rfl ?_
      refine g_idiv O dX2_spread_47 c40 ?_
      refine g_istore (lc' := [some (vr a0), none, some (vr a2), some (vi x3), some (vi (x4 / r19)), some (vi x5), some (vi r19)]) O dX2_spread_48 rfl (Nat.le_of_ble_eq_true rfl) rfl ?_
      refine g_iinc (lc' := [some (vr a0), none, some (vr a2), some (vi x3), some (vi (x4 / r19)), some (vi (x5 + (-1 : Int32))), some (vi r19)]) O dX2_spread_50 rfl kv_m1 rfl rfl ?_
      refine g_goto (tgt := 11) O dX2_spread_53 rfl ?_
      refine g_mask [true, false, true, true, true, true, false] rfl rfl ?_
      exact hB11 _ _ _ hw
theorem okX2_spread {E : Ev} {S : Sh} {Z : Option Nat} {Q : Hp → Prop} {h : Hp} {a0 : Nat} {x1 : Int32} {a2 : Nat} {x3 : Int32} (hw : wX2_spread S h a0 x1 a2 x3 Q) : Ct E yX2_spread cX2_spread 7 none 2 45 0 0 S Z h [vr a0, vi x1, vr a2, vi x3] (qV S Z Q) := by
  refine Ct.of (by decide) (lc := [some (vr a0), some (vi x1), some (vr a2), some (vi x3), none, none, none]) (Nat.le_of_ble_eq_true rfl) rfl (fun X O => ?_)
  unfold wX2_spread at hw
  refine g_iload_n O dX2_spread_0 rfl ?_
  refine g_istore (lc' := [some (vr a0), some (vi x1), some (vr a2), some (vi x3), some (vi x1), none, none]) O dX2_spread_1 rfl (Nat.le_of_ble_eq_true rfl) rfl ?_
  refine g_aload_n O dX2_spread_3 rfl ?_
  obtain ⟨c4, hw⟩ := hw
  refine gf_X2_variables O dX2_spread_4 fl_X2_60 c4 ?_
  refine g_iconst O dX2_spread_7 kv_1 ?_
  refine g_isub O dX2_spread_8 ?_
  refine g_nmI (fun xv9 e9 => ?_)
  have hw := hw xv9 e9
  refine g_istore (lc' := [some (vr a0), some (vi x1), some (vr a2), some (vi x3), some (vi x1), some (vi xv9), none]) O dX2_spread_9 rfl (Nat.le_of_ble_eq_true rfl) rfl ?_
  refine g_mask [true, false, true, true, true, true, false] rfl rfl ?_
  obtain ⟨n11, hw⟩ := hw
  exact okX2_spread_11 O n11 _ _ _ hw
theorem dX2_told_0 : decode cX2_told 0 = .ok (.iload_n 1, 1) := by decide +kernel
theorem dX2_told_1 : decode cX2_told 1 = .ok (.tableswitch 96 0 7 #[47, 52, 57, 62, 67, 72, 86, 91], 47) := by decide +kernel
theorem dX2_told_48 : decode cX2_told 48 = .ok (.aload_n 0, 1) := by decide +kernel
theorem dX2_told_49 : decode cX2_told 49 = .ok (.getfield 60, 3) := by decide +kernel
theorem dX2_told_52 : decode cX2_told 52 = .ok (.ireturn, 1) := by decide +kernel
theorem dX2_told_53 : decode cX2_told 53 = .ok (.aload_n 0, 1) := by decide +kernel
theorem dX2_told_54 : decode cX2_told 54 = .ok (.getfield 67, 3) := by decide +kernel
theorem dX2_told_57 : decode cX2_told 57 = .ok (.ireturn, 1) := by decide +kernel
theorem dX2_told_58 : decode cX2_told 58 = .ok (.aload_n 0, 1) := by decide +kernel
theorem dX2_told_59 : decode cX2_told 59 = .ok (.getfield 70, 3) := by decide +kernel
theorem dX2_told_62 : decode cX2_told 62 = .ok (.ireturn, 1) := by decide +kernel
theorem dX2_told_63 : decode cX2_told 63 = .ok (.aload_n 0, 1) := by decide +kernel
theorem dX2_told_64 : decode cX2_told 64 = .ok (.getfield 64, 3) := by decide +kernel
theorem dX2_told_67 : decode cX2_told 67 = .ok (.ireturn, 1) := by decide +kernel
theorem dX2_told_68 : decode cX2_told 68 = .ok (.aload_n 0, 1) := by decide +kernel
theorem dX2_told_69 : decode cX2_told 69 = .ok (.invokevirtual 76, 3) := by decide +kernel
theorem dX2_told_72 : decode cX2_told 72 = .ok (.ireturn, 1) := by decide +kernel
theorem dX2_told_73 : decode cX2_told 73 = .ok (.aload_n 0, 1) := by decide +kernel
theorem dX2_told_74 : decode cX2_told 74 = .ok (.getfield 73, 3) := by decide +kernel
theorem dX2_told_77 : decode cX2_told 77 = .ok (.iconst (-1), 1) := by decide +kernel
theorem dX2_told_78 : decode cX2_told 78 = .ok (.if_icmp .ne 7, 3) := by decide +kernel
theorem dX2_told_81 : decode cX2_told 81 = .ok (.iconst 0, 1) := by decide +kernel
theorem dX2_told_82 : decode cX2_told 82 = .ok (.goto 4, 3) := by decide +kernel
theorem dX2_told_85 : decode cX2_told 85 = .ok (.iconst 1, 1) := by decide +kernel
theorem dX2_told_86 : decode cX2_told 86 = .ok (.ireturn, 1) := by decide +kernel
theorem dX2_told_87 : decode cX2_told 87 = .ok (.aload_n 0, 1) := by decide +kernel
theorem dX2_told_88 : decode cX2_told 88 = .ok (.getfield 80, 3) := by decide +kernel
theorem dX2_told_91 : decode cX2_told 91 = .ok (.ireturn, 1) := by decide +kernel
theorem dX2_told_92 : decode cX2_told 92 = .ok (.aload_n 0, 1) := by decide +kernel
theorem dX2_told_93 : decode cX2_told 93 = .ok (.getfield 83, 3) := by decide +kernel
theorem dX2_told_96 : decode cX2_told 96 = .ok (.ireturn, 1) := by decide +kernel
theorem dX2_told_97 : decode cX2_told 97 = .ok (.aload_n 0, 1) := by decide +kernel
theorem dX2_told_98 : decode cX2_told 98 = .ok (.invokevirtual 86, 3) := by decide +kernel
theorem dX2_told_101 : decode cX2_told 101 = .ok (.ireturn, 1) := by decide +kernel
theorem okX2_told {E : Ev} {S : Sh} {Z : Option Nat} {Q : Int32 → Hp → Prop} {h : Hp} {a0 : Nat} {x1 : Int32} (hw : wX2_told S h a0 x1 Q) : Ct E yX2_told cX2_told 2 (some .int) 4 90 0 0 S Z h [vr a0, vi x1] (qI S Z Q) := by
  refine Ct.of (by decide) (lc := [some (vr a0), some (vi x1)]) (Nat.le_of_ble_eq_true rfl) rfl (fun X O => ?_)
  unfold wX2_told at hw
  refine g_iload_n O dX2_told_0 rfl ?_
  refine g_tsw O dX2_told_1 (by decide) (by decide) (fun t1 ht => ?_)
  rcases ht with ⟨hx1, ht⟩ | ⟨hx1, ht⟩
  · obtain rfl : t1 = 48 := by have e : (1 : Int) + (47) = (t1 : Int) := ht; omega
    have hw := hw.1 (Int32.toInt_inj.mp hx1)
    refine g_aload_n O dX2_told_48 rfl ?_
    obtain ⟨c49, hw⟩ := hw
    refine gf_X2_variables O dX2_told_49 fl_X2_60 c49 ?_
    exact g_ireturn O dX2_told_52 ⟨rfl, rfl, _, rfl, hw⟩
  · have hw := hw.2 (fun q => hx1 (by rw [q]; rfl))
    rcases ht with ⟨hx1, ht⟩ | ⟨hx1, ht⟩
    · obtain rfl : t1 = 53 := by have e : (1 : Int) + (52) = (t1 : Int) := ht; omega
      have hw := hw.1 (Int32.toInt_inj.mp hx1)
      refine g_aload_n O dX2_told_53 rfl ?_
      obtain ⟨c54, hw⟩ := hw
      refine gf_X2_laws O dX2_told_54 fl_X2_67 c54 ?_
      exact g_ireturn O dX2_told_57 ⟨rfl, rfl, _, rfl, hw⟩
    · have hw := hw.2 (fun q => hx1 (by rw [q]; rfl))
      rcases ht with ⟨hx1, ht⟩ | ⟨hx1, ht⟩
      · obtain rfl : t1 = 58 := by have e : (1 : Int) + (57) = (t1 : Int) := ht; omega
        have hw := hw.1 (Int32.toInt_inj.mp hx1)
        refine g_aload_n O dX2_told_58 rfl ?_
        obtain ⟨c59, hw⟩ := hw
        refine gf_X2_events O dX2_told_59 fl_X2_70 c59 ?_
        exact g_ireturn O dX2_told_62 ⟨rfl, rfl, _, rfl, hw⟩
      · have hw := hw.2 (fun q => hx1 (by rw [q]; rfl))
        rcases ht with ⟨hx1, ht⟩ | ⟨hx1, ht⟩
        · obtain rfl : t1 = 63 := by have e : (1 : Int) + (62) = (t1 : Int) := ht; omega
          have hw := hw.1 (Int32.toInt_inj.mp hx1)
          refine g_aload_n O dX2_told_63 rfl ?_
          obtain ⟨c64, hw⟩ := hw
          refine gf_X2_states O dX2_told_64 fl_X2_64 c64 ?_
          exact g_ireturn O dX2_told_67 ⟨rfl, rfl, _, rfl, hw⟩
        · have hw := hw.2 (fun q => hx1 (by rw [q]; rfl))
          rcases ht with ⟨hx1, ht⟩ | ⟨hx1, ht⟩
          · obtain rfl : t1 = 68 := by have e : (1 : Int) + (67) = (t1 : Int) := ht; omega
            have hw := hw.1 (Int32.toInt_inj.mp hx1)
            refine g_aload_n O dX2_told_68 rfl ?_
            obtain ⟨c69, hw⟩ := hw
            refine g_callV (As := []) (rest := []) O ci_2 rfl dX2_told_69 ml_X2_76 im_yX2_beginState se_yX2_beginState ini_X2 co_yX2_beginState yo_yX2_beginState c69 rfl rfl (Nat.le_of_ble_eq_true rfl) ⟨by decide, by decide, by decide, by decide⟩ (okX2_beginState hw) (k_I fun r69 h69 hw => ?_)
            exact g_ireturn O dX2_told_72 ⟨rfl, rfl, _, rfl, hw⟩
          · have hw := hw.2 (fun q => hx1 (by rw [q]; rfl))
            rcases ht with ⟨hx1, ht⟩ | ⟨hx1, ht⟩
            · obtain rfl : t1 = 73 := by have e : (1 : Int) + (72) = (t1 : Int) := ht; omega
              have hw := hw.1 (Int32.toInt_inj.mp hx1)
              refine g_aload_n O dX2_told_73 rfl ?_
              obtain ⟨c74, hw⟩ := hw
              refine gf_X2_variantCode O dX2_told_74 fl_X2_73 c74 ?_
              refine g_iconst O dX2_told_77 kv_m1 ?_
              refine g_icmp_ne (tgt := 85) O dX2_told_78 rfl (fun q78 => ?_) (fun q78 => ?_)
              · have hw := hw.1 q78
                refine g_iconst O dX2_told_85 kv_1 ?_
                exact g_ireturn O dX2_told_86 ⟨rfl, rfl, _, rfl, hw⟩
              · have hw := hw.2 q78
                refine g_iconst O dX2_told_81 kv_0 ?_
                refine g_goto (tgt := 86) O dX2_told_82 rfl ?_
                exact g_ireturn O dX2_told_86 ⟨rfl, rfl, _, rfl, hw⟩
            · have hw := hw.2 (fun q => hx1 (by rw [q]; rfl))
              rcases ht with ⟨hx1, ht⟩ | ⟨hx1, ht⟩
              · obtain rfl : t1 = 87 := by have e : (1 : Int) + (86) = (t1 : Int) := ht; omega
                have hw := hw.1 (Int32.toInt_inj.mp hx1)
                refine g_aload_n O dX2_told_87 rfl ?_
                obtain ⟨c88, hw⟩ := hw
                refine gf_X2_soundStates O dX2_told_88 fl_X2_80 c88 ?_
                exact g_ireturn O dX2_told_91 ⟨rfl, rfl, _, rfl, hw⟩
              · have hw := hw.2 (fun q => hx1 (by rw [q]; rfl))
                rcases ht with ⟨hx1, ht⟩ | ⟨hx1, ht⟩
                · obtain rfl : t1 = 92 := by have e : (1 : Int) + (91) = (t1 : Int) := ht; omega
                  have hw := hw.1 (Int32.toInt_inj.mp hx1)
                  refine g_aload_n O dX2_told_92 rfl ?_
                  obtain ⟨c93, hw⟩ := hw
                  refine gf_X2_pairs O dX2_told_93 fl_X2_83 c93 ?_
                  exact g_ireturn O dX2_told_96 ⟨rfl, rfl, _, rfl, hw⟩
                · have hw := hw.2 (fun q => hx1 (by rw [q]; rfl))
                  obtain rfl : t1 = 97 := by have e : (1 : Int) + (96) = (t1 : Int) := ht; omega
                  refine g_aload_n O dX2_told_97 rfl ?_
                  obtain ⟨c98, hw⟩ := hw
                  refine g_callV (As := []) (rest := []) O ci_2 rfl dX2_told_98 ml_X2_86 im_yX2_countNew se_yX2_countNew ini_X2 co_yX2_countNew yo_yX2_countNew c98 rfl rfl (Nat.le_of_ble_eq_true rfl) ⟨by decide, by decide, by decide, by decide⟩ (okX2_countNew hw) (k_I fun r98 h98 hw => ?_)
                  exact g_ireturn O dX2_told_101 ⟨rfl, rfl, _, rfl, hw⟩
theorem dX3_clear_0 : decode cX3_clear 0 = .ok (.aload_n 0, 1) := by decide +kernel
theorem dX3_clear_1 : decode cX3_clear 1 = .ok (.iconst 0, 1) := by decide +kernel
theorem dX3_clear_2 : decode cX3_clear 2 = .ok (.putfield 31, 3) := by decide +kernel
theorem dX3_clear_5 : decode cX3_clear 5 = .ok (.aload_n 0, 1) := by decide +kernel
theorem dX3_clear_6 : decode cX3_clear 6 = .ok (.iconst 0, 1) := by decide +kernel
theorem dX3_clear_7 : decode cX3_clear 7 = .ok (.putfield 35, 3) := by decide +kernel
theorem dX3_clear_10 : decode cX3_clear 10 = .ok (.iconst 0, 1) := by decide +kernel
theorem dX3_clear_11 : decode cX3_clear 11 = .ok (.istore_n 1, 1) := by decide +kernel
theorem dX3_clear_12 : decode cX3_clear 12 = .ok (.iload_n 1, 1) := by decide +kernel
theorem dX3_clear_13 : decode cX3_clear 13 = .ok (.iconst 3, 1) := by decide +kernel
theorem dX3_clear_14 : decode cX3_clear 14 = .ok (.if_icmp .ge 19, 3) := by decide +kernel
theorem dX3_clear_17 : decode cX3_clear 17 = .ok (.aload_n 0, 1) := by decide +kernel
theorem dX3_clear_18 : decode cX3_clear 18 = .ok (.getfield 11, 3) := by decide +kernel
theorem dX3_clear_21 : decode cX3_clear 21 = .ok (.iload_n 1, 1) := by decide +kernel
theorem dX3_clear_22 : decode cX3_clear 22 = .ok (.aaload, 1) := by decide +kernel
theorem dX3_clear_23 : decode cX3_clear 23 = .ok (.lconst 0, 1) := by decide +kernel
theorem dX3_clear_24 : decode cX3_clear 24 = .ok (.invokevirtual 38, 3) := by decide +kernel
theorem dX3_clear_27 : decode cX3_clear 27 = .ok (.iinc 1 1, 3) := by decide +kernel
theorem dX3_clear_30 : decode cX3_clear 30 = .ok (.goto (-18), 3) := by decide +kernel
theorem dX3_clear_33 : decode cX3_clear 33 = .ok (.return_, 1) := by decide +kernel
theorem okX3_clear_12 {E : Ev} {X : Cx} {S : Sh} {Z : Option Nat} {Q : Hp → Prop} {a0 : Nat} (O : Ok E X yX3_clear cX3_clear 2 none 2 46 0 0 (qV S Z Q)) : ∀ (n : Nat) (h : Hp) (x1 : Int32), wX3_clear_12 S a0 Q n h x1 → G E X 0 0 S Z h 12 [some (vr a0), some (vi x1)] [] := by
  intro n
  induction n with
  | zero => intro h x1 hw; exact hw.elim
  | succ n hB12 =>
    intro h x1 hw
    have hw : wX3_clear_12b S a0 Q (wX3_clear_12 S a0 Q n) h x1 := hw
    unfold wX3_clear_12b at hw
    refine g_iload_n O dX3_clear_12 rfl ?_
    refine g_iconst O dX3_clear_13 kv_3 ?_
    refine g_icmp_ge (tgt := 33) O dX3_clear_14 rfl (fun q14 => ?_) (fun q14 => ?_)
    · have hw := hw.1 q14
      exact g_return O dX3_clear_33 ⟨rfl, rfl, rfl, hw⟩
    · have hw := hw.2 q14
      refine g_aload_n O dX3_clear_17 rfl ?_
      obtain ⟨c18, hw⟩ := hw
      refine gf_X3_machines O dX3_clear_18 fl_X3_11 c18 ?_
      refine g_iload_n O dX3_clear_21 rfl ?_
      obtain ⟨c22, hw⟩ := hw
      refine g_aaload (t := 1) (C := "FinerSteps$Machine") O rfl dX3_clear_22 c22.1 c22.2 ?_
      refine g_lconst O dX3_clear_23 kl_0 ?_
      obtain ⟨c24, hw⟩ := hw
      refine g_callV (As := [vj (0 : Int64)]) (rest := []) O ci_2 rfl dX3_clear_24 ml_X3_38 im_yX2_clear se_yX2_clear ini_X2 co_yX2_clear yo_yX2_clear c24 rfl rfl (Nat.le_of_ble_eq_true rfl) ⟨by decide, by decide, by decide, by decide⟩ (okX2_clear hw) (k_V fun h24 hw => ?_)
      refine g_iinc (lc' := [some (vr a0), some (vi (x1 + (1 : Int32)))]) O dX3_clear_27 rfl kv_1 rfl rfl ?_
      refine g_goto (tgt := 12) O dX3_clear_30 rfl ?_
      exact hB12 _ _ hw
theorem okX3_clear {E : Ev} {S : Sh} {Z : Option Nat} {Q : Hp → Prop} {h : Hp} {a0 : Nat} (hw : wX3_clear S h a0 Q) : Ct E yX3_clear cX3_clear 2 none 2 46 0 0 S Z h [vr a0] (qV S Z Q) := by
  refine Ct.of (by decide) (lc := [some (vr a0), none]) (Nat.le_of_ble_eq_true rfl) rfl (fun X O => ?_)
  unfold wX3_clear at hw
  refine g_aload_n O dX3_clear_0 rfl ?_
  refine g_iconst O dX3_clear_1 kv_0 ?_
  obtain ⟨c2, hw⟩ := hw
  refine pf_X3_count O dX3_clear_2 fl_X3_31 c2 ?_
  refine g_nmH (fun h2 e2 => ?_)
  have hw := hw h2 e2
  refine g_aload_n O dX3_clear_5 rfl ?_
  refine g_iconst O dX3_clear_6 kv_0 ?_
  refine pf_X3_codeSize O dX3_clear_7 fl_X3_35 c2 ?_
  refine g_iconst O dX3_clear_10 kv_0 ?_
  refine g_istore_n (lc' := [some (vr a0), some (vi (0 : Int32))]) O dX3_clear_11 rfl (Nat.le_of_ble_eq_true rfl) rfl ?_
  obtain ⟨n12, hw⟩ := hw
  exact okX3_clear_12 O n12 _ _ hw
theorem dX3_emit_0 : decode cX3_emit 0 = .ok (.aload_n 0, 1) := by decide +kernel
theorem dX3_emit_1 : decode cX3_emit 1 = .ok (.getfield 35, 3) := by decide +kernel
theorem dX3_emit_4 : decode cX3_emit 4 = .ok (.aload_n 0, 1) := by decide +kernel
theorem dX3_emit_5 : decode cX3_emit 5 = .ok (.getfield 17, 3) := by decide +kernel
theorem dX3_emit_8 : decode cX3_emit 8 = .ok (.arraylength, 1) := by decide +kernel
theorem dX3_emit_9 : decode cX3_emit 9 = .ok (.if_icmp .ge 23, 3) := by decide +kernel
theorem dX3_emit_12 : decode cX3_emit 12 = .ok (.aload_n 0, 1) := by decide +kernel
theorem dX3_emit_13 : decode cX3_emit 13 = .ok (.getfield 17, 3) := by decide +kernel
theorem dX3_emit_16 : decode cX3_emit 16 = .ok (.aload_n 0, 1) := by decide +kernel
theorem dX3_emit_17 : decode cX3_emit 17 = .ok (.getfield 35, 3) := by decide +kernel
theorem dX3_emit_20 : decode cX3_emit 20 = .ok (.iload_n 1, 1) := by decide +kernel
theorem dX3_emit_21 : decode cX3_emit 21 = .ok (.iastore, 1) := by decide +kernel
theorem dX3_emit_22 : decode cX3_emit 22 = .ok (.aload_n 0, 1) := by decide +kernel
theorem dX3_emit_23 : decode cX3_emit 23 = .ok (.dup, 1) := by decide +kernel
theorem dX3_emit_24 : decode cX3_emit 24 = .ok (.getfield 35, 3) := by decide +kernel
theorem dX3_emit_27 : decode cX3_emit 27 = .ok (.iconst 1, 1) := by decide +kernel
theorem dX3_emit_28 : decode cX3_emit 28 = .ok (.iadd, 1) := by decide +kernel
theorem dX3_emit_29 : decode cX3_emit 29 = .ok (.putfield 35, 3) := by decide +kernel
theorem dX3_emit_32 : decode cX3_emit 32 = .ok (.return_, 1) := by decide +kernel
theorem okX3_emit {E : Ev} {S : Sh} {Z : Option Nat} {Q : Hp → Prop} {h : Hp} {a0 : Nat} {x1 : Int32} (hw : wX3_emit S h a0 x1 Q) : Ct E yX3_emit cX3_emit 2 none 1 24 0 0 S Z h [vr a0, vi x1] (qV S Z Q) := by
  refine Ct.of (by decide) (lc := [some (vr a0), some (vi x1)]) (Nat.le_of_ble_eq_true rfl) rfl (fun X O => ?_)
  unfold wX3_emit at hw
  refine g_aload_n O dX3_emit_0 rfl ?_
  obtain ⟨c1, hw⟩ := hw
  refine gf_X3_codeSize O dX3_emit_1 fl_X3_35 c1 ?_
  refine g_aload_n O dX3_emit_4 rfl ?_
  refine gf_X3_code O dX3_emit_5 fl_X3_17 c1 ?_
  obtain ⟨c8, hw⟩ := hw
  refine g_alen (t := 0) O rfl dX3_emit_8 c8 ?_
  refine g_icmp_ge (tgt := 32) O dX3_emit_9 rfl (fun q9 => ?_) (fun q9 => ?_)
  · have hw := hw.1 q9
    exact g_return O dX3_emit_32 ⟨rfl, rfl, rfl, hw⟩
  · have hw := hw.2 q9
    refine g_aload_n O dX3_emit_12 rfl ?_
    refine gf_X3_code O dX3_emit_13 fl_X3_17 c1 ?_
    refine g_aload_n O dX3_emit_16 rfl ?_
    refine gf_X3_codeSize O dX3_emit_17 fl_X3_35 c1 ?_
    refine g_iload_n O dX3_emit_20 rfl ?_
    obtain ⟨c21, hw⟩ := hw
    refine g_iastore O dX3_emit_21 c21.1 c21.2 ?_
    refine g_nmH (fun h21 e21 => ?_)
    have hw := hw h21 e21
    refine g_aload_n O dX3_emit_22 rfl ?_
    refine g_dup O dX3_emit_23 rfl ?_
    refine gf_X3_codeSize O dX3_emit_24 fl_X3_35 c1 ?_
    refine g_iconst O dX3_emit_27 kv_1 ?_
    refine g_iadd O dX3_emit_28 ?_
    refine pf_X3_codeSize O dX3_emit_29 fl_X3_35 c1 ?_
    exact g_return O dX3_emit_32 ⟨rfl, rfl, rfl, hw⟩
theorem dX3_forgetVerdicts_0 : decode cX3_forgetVerdicts 0 = .ok (.iconst 0, 1) := by decide +kernel
theorem dX3_forgetVerdicts_1 : decode cX3_forgetVerdicts 1 = .ok (.istore_n 1, 1) := by decide +kernel
theorem dX3_forgetVerdicts_2 : decode cX3_forgetVerdicts 2 = .ok (.iload_n 1, 1) := by decide +kernel
theorem dX3_forgetVerdicts_3 : decode cX3_forgetVerdicts 3 = .ok (.aload_n 0, 1) := by decide +kernel
theorem dX3_forgetVerdicts_4 : decode cX3_forgetVerdicts 4 = .ok (.getfield 31, 3) := by decide +kernel
theorem dX3_forgetVerdicts_7 : decode cX3_forgetVerdicts 7 = .ok (.if_icmp .ge 37, 3) := by decide +kernel
theorem dX3_forgetVerdicts_10 : decode cX3_forgetVerdicts 10 = .ok (.iconst 0, 1) := by decide +kernel
theorem dX3_forgetVerdicts_11 : decode cX3_forgetVerdicts 11 = .ok (.istore_n 2, 1) := by decide +kernel
theorem dX3_forgetVerdicts_12 : decode cX3_forgetVerdicts 12 = .ok (.iload_n 2, 1) := by decide +kernel
theorem dX3_forgetVerdicts_13 : decode cX3_forgetVerdicts 13 = .ok (.bipush 14, 2) := by decide +kernel
theorem dX3_forgetVerdicts_15 : decode cX3_forgetVerdicts 15 = .ok (.if_icmp .ge 23, 3) := by decide +kernel
theorem dX3_forgetVerdicts_18 : decode cX3_forgetVerdicts 18 = .ok (.aload_n 0, 1) := by decide +kernel
theorem dX3_forgetVerdicts_19 : decode cX3_forgetVerdicts 19 = .ok (.getfield 11, 3) := by decide +kernel
theorem dX3_forgetVerdicts_22 : decode cX3_forgetVerdicts 22 = .ok (.iload_n 1, 1) := by decide +kernel
theorem dX3_forgetVerdicts_23 : decode cX3_forgetVerdicts 23 = .ok (.aaload, 1) := by decide +kernel
theorem dX3_forgetVerdicts_24 : decode cX3_forgetVerdicts 24 = .ok (.getfield 67, 3) := by decide +kernel
theorem dX3_forgetVerdicts_27 : decode cX3_forgetVerdicts 27 = .ok (.iload_n 2, 1) := by decide +kernel
theorem dX3_forgetVerdicts_28 : decode cX3_forgetVerdicts 28 = .ok (.aaload, 1) := by decide +kernel
theorem dX3_forgetVerdicts_29 : decode cX3_forgetVerdicts 29 = .ok (.invokevirtual 71, 3) := by decide +kernel
theorem dX3_forgetVerdicts_32 : decode cX3_forgetVerdicts 32 = .ok (.iinc 2 1, 3) := by decide +kernel
theorem dX3_forgetVerdicts_35 : decode cX3_forgetVerdicts 35 = .ok (.goto (-23), 3) := by decide +kernel
theorem dX3_forgetVerdicts_38 : decode cX3_forgetVerdicts 38 = .ok (.iinc 1 1, 3) := by decide +kernel
theorem dX3_forgetVerdicts_41 : decode cX3_forgetVerdicts 41 = .ok (.goto (-39), 3) := by decide +kernel
theorem dX3_forgetVerdicts_44 : decode cX3_forgetVerdicts 44 = .ok (.return_, 1) := by decide +kernel
theorem okX3_forgetVerdicts_12 {E : Ev} {X : Cx} {S : Sh} {Z : Option Nat} {Q : Hp → Prop} {B2 : Hp → Int32 → Prop} {a0 : Nat} {x1 : Int32} (O : Ok E X yX3_forgetVerdicts cX3_forgetVerdicts 3 none 2 44 0 0 (qV S Z Q)) (hB2 : ∀ (h : Hp) (x1 : Int32), B2 h x1 → G E X 0 0 S Z h 2 [some (vr a0), some (vi x1), none] []) : ∀ (n : Nat) (h : Hp) (x2 : Int32), wX3_forgetVerdicts_12 S B2 a0 x1 Q n h x2 → G E X 0 0 S Z h 12 [some (vr a0), some (vi x1), some (vi x2)] [] := by
  intro n
  induction n with
  | zero => intro h x2 hw; exact hw.elim
  | succ n hB12 =>
    intro h x2 hw
    have hw : wX3_forgetVerdicts_12b S B2 a0 x1 Q (wX3_forgetVerdicts_12 S B2 a0 x1 Q n) h x2 := hw
    unfold wX3_forgetVerdicts_12b at hw
    refine g_iload_n O dX3_forgetVerdicts_12 rfl ?_
    refine g_bipush O dX3_forgetVerdicts_13 kb_14 ?_
    refine g_icmp_ge (tgt := 38) O dX3_forgetVerdicts_15 rfl (fun q15 => ?_) (fun q15 => ?_)
    · have hw := hw.1 q15
      refine g_iinc (lc' := [some (vr a0), some (vi (x1 + (1 : Int32))), some (vi x2)]) O dX3_forgetVerdicts_38 rfl kv_1 rfl rfl ?_
      refine g_goto (tgt := 2) O dX3_forgetVerdicts_41 rfl ?_
      refine g_mask [true, true, false] rfl rfl ?_
      exact hB2 _ _ hw
    · have hw := hw.2 q15
      refine g_aload_n O dX3_forgetVerdicts_18 rfl ?_
      obtain ⟨c19, hw⟩ := hw
      refine gf_X3_machines O dX3_forgetVerdicts_19 fl_X3_11 c19 ?_
      refine g_iload_n O dX3_forgetVerdicts_22 rfl ?_
      obtain ⟨c23, hw⟩ := hw
      refine g_aaload (t := 1) (C := "FinerSteps$Machine") O rfl dX3_forgetVerdicts_23 c23.1 c23.2 ?_
      obtain ⟨c24, hw⟩ := hw
      refine gf_X2_verdicts O dX3_forgetVerdicts_24 fl_X3_67 c24 ?_
      refine g_iload_n O dX3_forgetVerdicts_27 rfl ?_
      obtain ⟨c28, hw⟩ := hw
      refine g_aaload (t := 3) (C := "FinerSteps$Verdict") O rfl dX3_forgetVerdicts_28 c28.1 c28.2 ?_
      obtain ⟨c29, hw⟩ := hw
      refine g_callV (As := []) (rest := []) O ci_9 rfl dX3_forgetVerdicts_29 ml_X3_71 im_yX9_clear se_yX9_clear ini_X9 co_yX9_clear yo_yX9_clear c29 rfl rfl (Nat.le_of_ble_eq_true rfl) ⟨by decide, by decide, by decide, by decide⟩ (okX9_clear hw) (k_V fun h29 hw => ?_)
      refine g_iinc (lc' := [some (vr a0), some (vi x1), some (vi (x2 + (1 : Int32)))]) O dX3_forgetVerdicts_32 rfl kv_1 rfl rfl ?_
      refine g_goto (tgt := 12) O dX3_forgetVerdicts_35 rfl ?_
      exact hB12 _ _ hw
theorem okX3_forgetVerdicts_2 {E : Ev} {X : Cx} {S : Sh} {Z : Option Nat} {Q : Hp → Prop} {a0 : Nat} (O : Ok E X yX3_forgetVerdicts cX3_forgetVerdicts 3 none 2 44 0 0 (qV S Z Q)) : ∀ (n : Nat) (h : Hp) (x1 : Int32), wX3_forgetVerdicts_2 S a0 Q n h x1 → G E X 0 0 S Z h 2 [some (vr a0), some (vi x1), none] [] := by
  intro n
  induction n with
  | zero => intro h x1 hw; exact hw.elim
  | succ n hB2 =>
    intro h x1 hw
    have hw : wX3_forgetVerdicts_2b S a0 Q (wX3_forgetVerdicts_2 S a0 Q n) h x1 := hw
    unfold wX3_forgetVerdicts_2b at hw
    refine g_iload_n O dX3_forgetVerdicts_2 rfl ?_
    refine g_aload_n O dX3_forgetVerdicts_3 rfl ?_
    obtain ⟨c4, hw⟩ := hw
    refine gf_X3_count O dX3_forgetVerdicts_4 fl_X3_31 c4 ?_
    refine g_icmp_ge (tgt := 44) O dX3_forgetVerdicts_7 rfl (fun q7 => ?_) (fun q7 => ?_)
    · have hw := hw.1 q7
      exact g_return O dX3_forgetVerdicts_44 ⟨rfl, rfl, rfl, hw⟩
    · have hw := hw.2 q7
      refine g_iconst O dX3_forgetVerdicts_10 kv_0 ?_
      refine g_istore_n (lc' := [some (vr a0), some (vi x1), some (vi (0 : Int32))]) O dX3_forgetVerdicts_11 rfl (Nat.le_of_ble_eq_true rfl) rfl ?_
      obtain ⟨n12, hw⟩ := hw
      exact okX3_forgetVerdicts_12 O hB2 n12 _ _ hw
theorem okX3_forgetVerdicts {E : Ev} {S : Sh} {Z : Option Nat} {Q : Hp → Prop} {h : Hp} {a0 : Nat} (hw : wX3_forgetVerdicts S h a0 Q) : Ct E yX3_forgetVerdicts cX3_forgetVerdicts 3 none 2 44 0 0 S Z h [vr a0] (qV S Z Q) := by
  refine Ct.of (by decide) (lc := [some (vr a0), none, none]) (Nat.le_of_ble_eq_true rfl) rfl (fun X O => ?_)
  unfold wX3_forgetVerdicts at hw
  refine g_iconst O dX3_forgetVerdicts_0 kv_0 ?_
  refine g_istore_n (lc' := [some (vr a0), some (vi (0 : Int32)), none]) O dX3_forgetVerdicts_1 rfl (Nat.le_of_ble_eq_true rfl) rfl ?_
  obtain ⟨n2, hw⟩ := hw
  exact okX3_forgetVerdicts_2 O n2 _ _ hw
theorem dX3_init_0 : decode cX3_init 0 = .ok (.aload_n 0, 1) := by decide +kernel
theorem dX3_init_1 : decode cX3_init 1 = .ok (.invokespecial 3, 3) := by decide +kernel
theorem dX3_init_4 : decode cX3_init 4 = .ok (.aload_n 0, 1) := by decide +kernel
theorem dX3_init_5 : decode cX3_init 5 = .ok (.iconst 3, 1) := by decide +kernel
theorem dX3_init_6 : decode cX3_init 6 = .ok (.anewarray 9, 3) := by decide +kernel
theorem dX3_init_9 : decode cX3_init 9 = .ok (.putfield 11, 3) := by decide +kernel
theorem dX3_init_12 : decode cX3_init 12 = .ok (.aload_n 0, 1) := by decide +kernel
theorem dX3_init_13 : decode cX3_init 13 = .ok (.sipush 601, 3) := by decide +kernel
theorem dX3_init_16 : decode cX3_init 16 = .ok (.newarray .int, 2) := by decide +kernel
theorem dX3_init_18 : decode cX3_init 18 = .ok (.putfield 17, 3) := by decide +kernel
theorem dX3_init_21 : decode cX3_init 21 = .ok (.aload_n 0, 1) := by decide +kernel
theorem dX3_init_22 : decode cX3_init 22 = .ok (.bipush 7, 2) := by decide +kernel
theorem dX3_init_24 : decode cX3_init 24 = .ok (.newarray .int, 2) := by decide +kernel
theorem dX3_init_26 : decode cX3_init 26 = .ok (.putfield 21, 3) := by decide +kernel
theorem dX3_init_29 : decode cX3_init 29 = .ok (.aload_n 0, 1) := by decide +kernel
theorem dX3_init_30 : decode cX3_init 30 = .ok (.bipush 32, 2) := by decide +kernel
theorem dX3_init_32 : decode cX3_init 32 = .ok (.newarray .int, 2) := by decide +kernel
theorem dX3_init_34 : decode cX3_init 34 = .ok (.putfield 24, 3) := by decide +kernel
theorem dX3_init_37 : decode cX3_init 37 = .ok (.aload_n 0, 1) := by decide +kernel
theorem dX3_init_38 : decode cX3_init 38 = .ok (.iconst 3, 1) := by decide +kernel
theorem dX3_init_39 : decode cX3_init 39 = .ok (.newarray .int, 2) := by decide +kernel
theorem dX3_init_41 : decode cX3_init 41 = .ok (.putfield 27, 3) := by decide +kernel
theorem dX3_init_44 : decode cX3_init 44 = .ok (.iconst 0, 1) := by decide +kernel
theorem dX3_init_45 : decode cX3_init 45 = .ok (.istore_n 1, 1) := by decide +kernel
theorem dX3_init_46 : decode cX3_init 46 = .ok (.iload_n 1, 1) := by decide +kernel
theorem dX3_init_47 : decode cX3_init 47 = .ok (.iconst 3, 1) := by decide +kernel
theorem dX3_init_48 : decode cX3_init 48 = .ok (.if_icmp .ge 22, 3) := by decide +kernel
theorem dX3_init_51 : decode cX3_init 51 = .ok (.aload_n 0, 1) := by decide +kernel
theorem dX3_init_52 : decode cX3_init 52 = .ok (.getfield 11, 3) := by decide +kernel
theorem dX3_init_55 : decode cX3_init 55 = .ok (.iload_n 1, 1) := by decide +kernel
theorem dX3_init_56 : decode cX3_init 56 = .ok (.new 9, 3) := by decide +kernel
theorem dX3_init_59 : decode cX3_init 59 = .ok (.dup, 1) := by decide +kernel
theorem dX3_init_60 : decode cX3_init 60 = .ok (.invokespecial 30, 3) := by decide +kernel
theorem dX3_init_63 : decode cX3_init 63 = .ok (.aastore, 1) := by decide +kernel
theorem dX3_init_64 : decode cX3_init 64 = .ok (.iinc 1 1, 3) := by decide +kernel
theorem dX3_init_67 : decode cX3_init 67 = .ok (.goto (-21), 3) := by decide +kernel
theorem dX3_init_70 : decode cX3_init 70 = .ok (.return_, 1) := by decide +kernel
theorem okX3_init_46 {E : Ev} {X : Cx} {Q : Sh → Nat → Hp → Prop} {a0 : Nat} (O : Ok E X yX3_init cX3_init 2 none 3 65 440 17080 (qA Q)) : ∀ (n : Nat) (S : Sh) (z nc ns : Nat) (h : Hp) (x1 : Int32), wX3_init_46 a0 Q n S z nc ns h x1 → G E X nc ns S (some z) h 46 [some (vr a0), some (vi x1)] [] := by
  intro n
  induction n with
  | zero => intro S z nc ns h x1 hw; exact hw.elim
  | succ n hB46 =>
    intro S z nc ns h x1 hw
    have hw : wX3_init_46b a0 Q (wX3_init_46 a0 Q n) S z nc ns h x1 := hw
    unfold wX3_init_46b at hw
    refine g_iload_n O dX3_init_46 rfl ?_
    refine g_iconst O dX3_init_47 kv_3 ?_
    refine g_icmp_ge (tgt := 70) O dX3_init_48 rfl (fun q48 => ?_) (fun q48 => ?_)
    · have hw := hw.1 q48
      obtain ⟨c70a, c70b, hw⟩ := hw
      exact g_widen c70a c70b (g_return O dX3_init_70 ⟨_, rfl, rfl, hw⟩)
    · have hw := hw.2 q48
      refine g_aload_n O dX3_init_51 rfl ?_
      obtain ⟨c52, hw⟩ := hw
      refine gf_X3_machines O dX3_init_52 fl_X3_11 c52 ?_
      refine g_iload_n O dX3_init_55 rfl ?_
      obtain ⟨c56a, hw⟩ := hw
      obtain ⟨c56b, c56c, hw⟩ := hw
      refine g_new O ci_2 fd_X2 dX3_init_56 cl_X3_9 ins_X2 ini_X2 c56a c56b c56c ?_
      refine g_dup O dX3_init_59 rfl ?_
      obtain ⟨c60b, c60c, hw⟩ := hw
      obtain ⟨c60, hw⟩ := hw
      refine g_callI (As := []) (rest := [vr z, vi x1, vr (gR h a0 0)]) O rfl dX3_init_60 ml_X3_30 im_yX2_init ini_X2 co_yX2_init yo_yX2_init c60 rfl rfl (Nat.le_of_ble_eq_true rfl) ⟨by decide, by decide, c60b, c60c⟩ (okX2_init hw) (k_A fun S60 z60 h60 hw => ?_)
      obtain ⟨c63, hw⟩ := hw
      obtain ⟨c63v, hw⟩ := hw
      refine g_aastore (t := 1) O ci_2 rfl dX3_init_63 c63.1 c63v c63.2 ?_
      refine g_iinc (lc' := [some (vr a0), some (vi (x1 + (1 : Int32)))]) O dX3_init_64 rfl kv_1 rfl rfl ?_
      refine g_goto (tgt := 46) O dX3_init_67 rfl ?_
      exact hB46 _ _ _ _ _ _ hw
theorem okX3_init {E : Ev} {Q : Sh → Nat → Hp → Prop} {S : Sh} {z : Nat} {h : Hp} {a0 : Nat} (hw : wX3_init S z h a0 Q) : Ct E yX3_init cX3_init 2 none 3 65 440 17080 S (some z) h [vr a0] (qA Q) := by
  refine Ct.of (by decide) (lc := [some (vr a0), none]) (Nat.le_of_ble_eq_true rfl) rfl (fun X O => ?_)
  unfold wX3_init at hw
  refine g_aload_n O dX3_init_0 rfl ?_
  obtain ⟨c1, hw⟩ := hw
  refine g_objInit O dX3_init_1 ml_X3_3 c1 rfl rfl (Nat.le_of_ble_eq_true rfl) ⟨by decide, by decide⟩ ?_
  refine g_aload_n O dX3_init_4 rfl ?_
  refine g_iconst O dX3_init_5 kv_3 ?_
  obtain ⟨c6a, hw⟩ := hw
  obtain ⟨c6b, c6c, hw⟩ := hw
  refine g_anewarray (t := 1) (N := 3) O rfl (by decide) dX3_init_6 cl_X3_9 (by decide) (by decide) (by decide) c6a c6b c6c ?_
  obtain ⟨c9, hw⟩ := hw
  refine pf_X3_machines O rfl rfl dX3_init_9 fl_X3_11 c9 ?_
  refine g_nmH (fun h9 e9 => ?_)
  have hw := hw h9 e9
  refine g_aload_n O dX3_init_12 rfl ?_
  refine g_sipush O dX3_init_13 ks_601 ?_
  obtain ⟨c16a, hw⟩ := hw
  obtain ⟨c16b, c16c, hw⟩ := hw
  refine g_newarray (atype := .int) (t := 0) (N := 601) O rfl (fun I J R j h1 h2 h3 => by simp [aval, h1, h2, newarray.typeOf, defaultValue]) (fun U cA q => q) dX3_init_16 ac_int (by decide) (by decide) (by decide) c16a c16b c16c ?_
  obtain ⟨c18, hw⟩ := hw
  refine pf_X3_code O rfl rfl dX3_init_18 fl_X3_17 c18 ?_
  refine g_nmH (fun h18 e18 => ?_)
  have hw := hw h18 e18
  refine g_aload_n O dX3_init_21 rfl ?_
  refine g_bipush O dX3_init_22 kb_7 ?_
  obtain ⟨c24a, hw⟩ := hw
  obtain ⟨c24b, c24c, hw⟩ := hw
  refine g_newarray (atype := .int) (t := 0) (N := 7) O rfl (fun I J R j h1 h2 h3 => by simp [aval, h1, h2, newarray.typeOf, defaultValue]) (fun U cA q => q) dX3_init_24 ac_int (by decide) (by decide) (by decide) c24a c24b c24c ?_
  obtain ⟨c26, hw⟩ := hw
  refine pf_X3_scene O rfl rfl dX3_init_26 fl_X3_21 c26 ?_
  refine g_nmH (fun h26 e26 => ?_)
  have hw := hw h26 e26
  refine g_aload_n O dX3_init_29 rfl ?_
  refine g_bipush O dX3_init_30 kb_32 ?_
  obtain ⟨c32a, hw⟩ := hw
  obtain ⟨c32b, c32c, hw⟩ := hw
  refine g_newarray (atype := .int) (t := 0) (N := 32) O rfl (fun I J R j h1 h2 h3 => by simp [aval, h1, h2, newarray.typeOf, defaultValue]) (fun U cA q => q) dX3_init_32 ac_int (by decide) (by decide) (by decide) c32a c32b c32c ?_
  obtain ⟨c34, hw⟩ := hw
  refine pf_X3_stack O rfl rfl dX3_init_34 fl_X3_24 c34 ?_
  refine g_nmH (fun h34 e34 => ?_)
  have hw := hw h34 e34
  refine g_aload_n O dX3_init_37 rfl ?_
  refine g_iconst O dX3_init_38 kv_3 ?_
  obtain ⟨c39a, hw⟩ := hw
  obtain ⟨c39b, c39c, hw⟩ := hw
  refine g_newarray (atype := .int) (t := 0) (N := 3) O rfl (fun I J R j h1 h2 h3 => by simp [aval, h1, h2, newarray.typeOf, defaultValue]) (fun U cA q => q) dX3_init_39 ac_int (by decide) (by decide) (by decide) c39a c39b c39c ?_
  obtain ⟨c41, hw⟩ := hw
  refine pf_X3_nextRow O rfl rfl dX3_init_41 fl_X3_27 c41 ?_
  refine g_iconst O dX3_init_44 kv_0 ?_
  refine g_istore_n (lc' := [some (vr a0), some (vi (0 : Int32))]) O dX3_init_45 rfl (Nat.le_of_ble_eq_true rfl) rfl ?_
  obtain ⟨n46, hw⟩ := hw
  exact okX3_init_46 O n46 _ _ _ _ _ _ hw
theorem dX3_joined_0 : decode cX3_joined 0 = .ok (.iload_n 0, 1) := by decide +kernel
theorem dX3_joined_1 : decode cX3_joined 1 = .ok (.lookupswitch 116 #[(42, 75), (43, 67), (45, 71), (60, 79), (61, 101), (62, 90), (413, 112)], 67) := by decide +kernel
theorem dX3_joined_68 : decode cX3_joined 68 = .ok (.iload_n 1, 1) := by decide +kernel
theorem dX3_joined_69 : decode cX3_joined 69 = .ok (.iload_n 2, 1) := by decide +kernel
theorem dX3_joined_70 : decode cX3_joined 70 = .ok (.iadd, 1) := by decide +kernel
theorem dX3_joined_71 : decode cX3_joined 71 = .ok (.ireturn, 1) := by decide +kernel
theorem dX3_joined_72 : decode cX3_joined 72 = .ok (.iload_n 1, 1) := by decide +kernel
theorem dX3_joined_73 : decode cX3_joined 73 = .ok (.iload_n 2, 1) := by decide +kernel
theorem dX3_joined_74 : decode cX3_joined 74 = .ok (.isub, 1) := by decide +kernel
theorem dX3_joined_75 : decode cX3_joined 75 = .ok (.ireturn, 1) := by decide +kernel
theorem dX3_joined_76 : decode cX3_joined 76 = .ok (.iload_n 1, 1) := by decide +kernel
theorem dX3_joined_77 : decode cX3_joined 77 = .ok (.iload_n 2, 1) := by decide +kernel
theorem dX3_joined_78 : decode cX3_joined 78 = .ok (.imul, 1) := by decide +kernel
theorem dX3_joined_79 : decode cX3_joined 79 = .ok (.ireturn, 1) := by decide +kernel
theorem dX3_joined_80 : decode cX3_joined 80 = .ok (.iload_n 1, 1) := by decide +kernel
theorem dX3_joined_81 : decode cX3_joined 81 = .ok (.iload_n 2, 1) := by decide +kernel
theorem dX3_joined_82 : decode cX3_joined 82 = .ok (.if_icmp .ge 7, 3) := by decide +kernel
theorem dX3_joined_85 : decode cX3_joined 85 = .ok (.iconst 1, 1) := by decide +kernel
theorem dX3_joined_86 : decode cX3_joined 86 = .ok (.goto 4, 3) := by decide +kernel
theorem dX3_joined_89 : decode cX3_joined 89 = .ok (.iconst 0, 1) := by decide +kernel
theorem dX3_joined_90 : decode cX3_joined 90 = .ok (.ireturn, 1) := by decide +kernel
theorem dX3_joined_91 : decode cX3_joined 91 = .ok (.iload_n 1, 1) := by decide +kernel
theorem dX3_joined_92 : decode cX3_joined 92 = .ok (.iload_n 2, 1) := by decide +kernel
theorem dX3_joined_93 : decode cX3_joined 93 = .ok (.if_icmp .le 7, 3) := by decide +kernel
theorem dX3_joined_96 : decode cX3_joined 96 = .ok (.iconst 1, 1) := by decide +kernel
theorem dX3_joined_97 : decode cX3_joined 97 = .ok (.goto 4, 3) := by decide +kernel
theorem dX3_joined_100 : decode cX3_joined 100 = .ok (.iconst 0, 1) := by decide +kernel
theorem dX3_joined_101 : decode cX3_joined 101 = .ok (.ireturn, 1) := by decide +kernel
theorem dX3_joined_102 : decode cX3_joined 102 = .ok (.iload_n 1, 1) := by decide +kernel
theorem dX3_joined_103 : decode cX3_joined 103 = .ok (.iload_n 2, 1) := by decide +kernel
theorem dX3_joined_104 : decode cX3_joined 104 = .ok (.if_icmp .ne 7, 3) := by decide +kernel
theorem dX3_joined_107 : decode cX3_joined 107 = .ok (.iconst 1, 1) := by decide +kernel
theorem dX3_joined_108 : decode cX3_joined 108 = .ok (.goto 4, 3) := by decide +kernel
theorem dX3_joined_111 : decode cX3_joined 111 = .ok (.iconst 0, 1) := by decide +kernel
theorem dX3_joined_112 : decode cX3_joined 112 = .ok (.ireturn, 1) := by decide +kernel
theorem dX3_joined_113 : decode cX3_joined 113 = .ok (.iload_n 1, 1) := by decide +kernel
theorem dX3_joined_114 : decode cX3_joined 114 = .ok (.iload_n 2, 1) := by decide +kernel
theorem dX3_joined_115 : decode cX3_joined 115 = .ok (.iand, 1) := by decide +kernel
theorem dX3_joined_116 : decode cX3_joined 116 = .ok (.ireturn, 1) := by decide +kernel
theorem dX3_joined_117 : decode cX3_joined 117 = .ok (.iload_n 1, 1) := by decide +kernel
theorem dX3_joined_118 : decode cX3_joined 118 = .ok (.iload_n 2, 1) := by decide +kernel
theorem dX3_joined_119 : decode cX3_joined 119 = .ok (.ior, 1) := by decide +kernel
theorem dX3_joined_120 : decode cX3_joined 120 = .ok (.ireturn, 1) := by decide +kernel
theorem okX3_joined {E : Ev} {S : Sh} {Z : Option Nat} {Q : Int32 → Hp → Prop} {h : Hp} {x0 : Int32} {x1 : Int32} {x2 : Int32} (hw : wX3_joined S h x0 x1 x2 Q) : Ct E yX3_joined cX3_joined 3 (some .int) 1 24 0 0 S Z h [vi x0, vi x1, vi x2] (qI S Z Q) := by
  refine Ct.of (by decide) (lc := [some (vi x0), some (vi x1), some (vi x2)]) (Nat.le_of_ble_eq_true rfl) rfl (fun X O => ?_)
  unfold wX3_joined at hw
  refine g_iload_n O dX3_joined_0 rfl ?_
  refine g_lsw O dX3_joined_1 (by decide) (fun z => by simp only [Op.lookupswitch.offset_cons, lsw_nil]; (repeat' split) <;> decide) (fun t1 ht => ?_)
  rcases ht with ⟨hx1, ht⟩ | ⟨hx1, ht⟩
  · obtain rfl : t1 = 76 := by have e : (1 : Int) + (75) = (t1 : Int) := ht; omega
    have hw := hw.1 (Int32.toInt_inj.mp hx1)
    refine g_iload_n O dX3_joined_76 rfl ?_
    refine g_iload_n O dX3_joined_77 rfl ?_
    refine g_imul O dX3_joined_78 ?_
    exact g_ireturn O dX3_joined_79 ⟨rfl, rfl, _, rfl, hw⟩
  · have hw := hw.2 (fun q => hx1 (by rw [q]; rfl))
    rcases ht with ⟨hx1, ht⟩ | ⟨hx1, ht⟩
    · obtain rfl : t1 = 68 := by have e : (1 : Int) + (67) = (t1 : Int) := ht; omega
      have hw := hw.1 (Int32.toInt_inj.mp hx1)
      refine g_iload_n O dX3_joined_68 rfl ?_
      refine g_iload_n O dX3_joined_69 rfl ?_
      refine g_iadd O dX3_joined_70 ?_
      exact g_ireturn O dX3_joined_71 ⟨rfl, rfl, _, rfl, hw⟩
    · have hw := hw.2 (fun q => hx1 (by rw [q]; rfl))
      rcases ht with ⟨hx1, ht⟩ | ⟨hx1, ht⟩
      · obtain rfl : t1 = 72 := by have e : (1 : Int) + (71) = (t1 : Int) := ht; omega
        have hw := hw.1 (Int32.toInt_inj.mp hx1)
        refine g_iload_n O dX3_joined_72 rfl ?_
        refine g_iload_n O dX3_joined_73 rfl ?_
        refine g_isub O dX3_joined_74 ?_
        exact g_ireturn O dX3_joined_75 ⟨rfl, rfl, _, rfl, hw⟩
      · have hw := hw.2 (fun q => hx1 (by rw [q]; rfl))
        rcases ht with ⟨hx1, ht⟩ | ⟨hx1, ht⟩
        · obtain rfl : t1 = 80 := by have e : (1 : Int) + (79) = (t1 : Int) := ht; omega
          have hw := hw.1 (Int32.toInt_inj.mp hx1)
          refine g_iload_n O dX3_joined_80 rfl ?_
          refine g_iload_n O dX3_joined_81 rfl ?_
          refine g_icmp_ge (tgt := 89) O dX3_joined_82 rfl (fun q82 => ?_) (fun q82 => ?_)
          · have hw := hw.1 q82
            refine g_iconst O dX3_joined_89 kv_0 ?_
            exact g_ireturn O dX3_joined_90 ⟨rfl, rfl, _, rfl, hw⟩
          · have hw := hw.2 q82
            refine g_iconst O dX3_joined_85 kv_1 ?_
            refine g_goto (tgt := 90) O dX3_joined_86 rfl ?_
            exact g_ireturn O dX3_joined_90 ⟨rfl, rfl, _, rfl, hw⟩
        · have hw := hw.2 (fun q => hx1 (by rw [q]; rfl))
          rcases ht with ⟨hx1, ht⟩ | ⟨hx1, ht⟩
          · obtain rfl : t1 = 102 := by have e : (1 : Int) + (101) = (t1 : Int) := ht; omega
            have hw := hw.1 (Int32.toInt_inj.mp hx1)
            refine g_iload_n O dX3_joined_102 rfl ?_
            refine g_iload_n O dX3_joined_103 rfl ?_
            refine g_icmp_ne (tgt := 111) O dX3_joined_104 rfl (fun q104 => ?_) (fun q104 => ?_)
            · have hw := hw.1 q104
              refine g_iconst O dX3_joined_111 kv_0 ?_
              exact g_ireturn O dX3_joined_112 ⟨rfl, rfl, _, rfl, hw⟩
            · have hw := hw.2 q104
              refine g_iconst O dX3_joined_107 kv_1 ?_
              refine g_goto (tgt := 112) O dX3_joined_108 rfl ?_
              exact g_ireturn O dX3_joined_112 ⟨rfl, rfl, _, rfl, hw⟩
          · have hw := hw.2 (fun q => hx1 (by rw [q]; rfl))
            rcases ht with ⟨hx1, ht⟩ | ⟨hx1, ht⟩
            · obtain rfl : t1 = 91 := by have e : (1 : Int) + (90) = (t1 : Int) := ht; omega
              have hw := hw.1 (Int32.toInt_inj.mp hx1)
              refine g_iload_n O dX3_joined_91 rfl ?_
              refine g_iload_n O dX3_joined_92 rfl ?_
              refine g_icmp_le (tgt := 100) O dX3_joined_93 rfl (fun q93 => ?_) (fun q93 => ?_)
              · have hw := hw.1 q93
                refine g_iconst O dX3_joined_100 kv_0 ?_
                exact g_ireturn O dX3_joined_101 ⟨rfl, rfl, _, rfl, hw⟩
              · have hw := hw.2 q93
                refine g_iconst O dX3_joined_96 kv_1 ?_
                refine g_goto (tgt := 101) O dX3_joined_97 rfl ?_
                exact g_ireturn O dX3_joined_101 ⟨rfl, rfl, _, rfl, hw⟩
            · have hw := hw.2 (fun q => hx1 (by rw [q]; rfl))
              rcases ht with ⟨hx1, ht⟩ | ⟨hx1, ht⟩
              · obtain rfl : t1 = 113 := by have e : (1 : Int) + (112) = (t1 : Int) := ht; omega
                have hw := hw.1 (Int32.toInt_inj.mp hx1)
                refine g_iload_n O dX3_joined_113 rfl ?_
                refine g_iload_n O dX3_joined_114 rfl ?_
                refine g_iand O dX3_joined_115 ?_
                exact g_ireturn O dX3_joined_116 ⟨rfl, rfl, _, rfl, hw⟩
              · have hw := hw.2 (fun q => hx1 (by rw [q]; rfl))
                obtain rfl : t1 = 117 := by have e : (1 : Int) + (116) = (t1 : Int) := ht; omega
                refine g_iload_n O dX3_joined_117 rfl ?_
                refine g_iload_n O dX3_joined_118 rfl ?_
                refine g_ior O dX3_joined_119 ?_
                exact g_ireturn O dX3_joined_120 ⟨rfl, rfl, _, rfl, hw⟩
theorem dX3_worth_0 : decode cX3_worth 0 = .ok (.iconst 0, 1) := by decide +kernel
theorem dX3_worth_1 : decode cX3_worth 1 = .ok (.istore_n 2, 1) := by decide +kernel
theorem dX3_worth_2 : decode cX3_worth 2 = .ok (.iload_n 1, 1) := by decide +kernel
theorem dX3_worth_3 : decode cX3_worth 3 = .ok (.istore_n 3, 1) := by decide +kernel
theorem dX3_worth_4 : decode cX3_worth 4 = .ok (.iload_n 3, 1) := by decide +kernel
theorem dX3_worth_5 : decode cX3_worth 5 = .ok (.ifCond .lt 165, 3) := by decide +kernel
theorem dX3_worth_8 : decode cX3_worth 8 = .ok (.iload_n 3, 1) := by decide +kernel
theorem dX3_worth_9 : decode cX3_worth 9 = .ok (.aload_n 0, 1) := by decide +kernel
theorem dX3_worth_10 : decode cX3_worth 10 = .ok (.getfield 35, 3) := by decide +kernel
theorem dX3_worth_13 : decode cX3_worth 13 = .ok (.if_icmp .ge 157, 3) := by decide +kernel
theorem dX3_worth_16 : decode cX3_worth 16 = .ok (.aload_n 0, 1) := by decide +kernel
theorem dX3_worth_17 : decode cX3_worth 17 = .ok (.getfield 17, 3) := by decide +kernel
theorem dX3_worth_20 : decode cX3_worth 20 = .ok (.iload_n 3, 1) := by decide +kernel
theorem dX3_worth_21 : decode cX3_worth 21 = .ok (.iaload, 1) := by decide +kernel
theorem dX3_worth_22 : decode cX3_worth 22 = .ok (.sipush 3000, 3) := by decide +kernel
theorem dX3_worth_25 : decode cX3_worth 25 = .ok (.if_icmp .eq 145, 3) := by decide +kernel
theorem dX3_worth_28 : decode cX3_worth 28 = .ok (.aload_n 0, 1) := by decide +kernel
theorem dX3_worth_29 : decode cX3_worth 29 = .ok (.getfield 17, 3) := by decide +kernel
theorem dX3_worth_32 : decode cX3_worth 32 = .ok (.iload_n 3, 1) := by decide +kernel
theorem dX3_worth_33 : decode cX3_worth 33 = .ok (.iaload, 1) := by decide +kernel
theorem dX3_worth_34 : decode cX3_worth 34 = .ok (.istore 4, 2) := by decide +kernel
theorem dX3_worth_36 : decode cX3_worth 36 = .ok (.iload 4, 2) := by decide +kernel
theorem dX3_worth_38 : decode cX3_worth 38 = .ok (.sipush 2000, 3) := by decide +kernel
theorem dX3_worth_41 : decode cX3_worth 41 = .ok (.if_icmp .ge 50, 3) := by decide +kernel
theorem dX3_worth_44 : decode cX3_worth 44 = .ok (.iload_n 2, 1) := by decide +kernel
theorem dX3_worth_45 : decode cX3_worth 45 = .ok (.aload_n 0, 1) := by decide +kernel
theorem dX3_worth_46 : decode cX3_worth 46 = .ok (.getfield 24, 3) := by decide +kernel
theorem dX3_worth_49 : decode cX3_worth 49 = .ok (.arraylength, 1) := by decide +kernel
theorem dX3_worth_50 : decode cX3_worth 50 = .ok (.if_icmp .lt 5, 3) := by decide +kernel
theorem dX3_worth_53 : decode cX3_worth 53 = .ok (.iconst 0, 1) := by decide +kernel
theorem dX3_worth_54 : decode cX3_worth 54 = .ok (.ireturn, 1) := by decide +kernel
theorem dX3_worth_55 : decode cX3_worth 55 = .ok (.aload_n 0, 1) := by decide +kernel
theorem dX3_worth_56 : decode cX3_worth 56 = .ok (.getfield 24, 3) := by decide +kernel
theorem dX3_worth_59 : decode cX3_worth 59 = .ok (.iload_n 2, 1) := by decide +kernel
theorem dX3_worth_60 : decode cX3_worth 60 = .ok (.iload 4, 2) := by decide +kernel
theorem dX3_worth_62 : decode cX3_worth 62 = .ok (.sipush 1000, 3) := by decide +kernel
theorem dX3_worth_65 : decode cX3_worth 65 = .ok (.if_icmp .ge 8, 3) := by decide +kernel
theorem dX3_worth_68 : decode cX3_worth 68 = .ok (.iload 4, 2) := by decide +kernel
theorem dX3_worth_70 : decode cX3_worth 70 = .ok (.goto 14, 3) := by decide +kernel
theorem dX3_worth_73 : decode cX3_worth 73 = .ok (.aload_n 0, 1) := by decide +kernel
theorem dX3_worth_74 : decode cX3_worth 74 = .ok (.getfield 21, 3) := by decide +kernel
theorem dX3_worth_77 : decode cX3_worth 77 = .ok (.iload 4, 2) := by decide +kernel
theorem dX3_worth_79 : decode cX3_worth 79 = .ok (.sipush 1000, 3) := by decide +kernel
theorem dX3_worth_82 : decode cX3_worth 82 = .ok (.isub, 1) := by decide +kernel
theorem dX3_worth_83 : decode cX3_worth 83 = .ok (.iaload, 1) := by decide +kernel
theorem dX3_worth_84 : decode cX3_worth 84 = .ok (.iastore, 1) := by decide +kernel
theorem dX3_worth_85 : decode cX3_worth 85 = .ok (.iinc 2 1, 3) := by decide +kernel
theorem dX3_worth_88 : decode cX3_worth 88 = .ok (.goto 76, 3) := by decide +kernel
theorem dX3_worth_91 : decode cX3_worth 91 = .ok (.iload 4, 2) := by decide +kernel
theorem dX3_worth_93 : decode cX3_worth 93 = .ok (.sipush 2414, 3) := by decide +kernel
theorem dX3_worth_96 : decode cX3_worth 96 = .ok (.if_icmp .ne 29, 3) := by decide +kernel
theorem dX3_worth_99 : decode cX3_worth 99 = .ok (.iload_n 2, 1) := by decide +kernel
theorem dX3_worth_100 : decode cX3_worth 100 = .ok (.iconst 1, 1) := by decide +kernel
theorem dX3_worth_101 : decode cX3_worth 101 = .ok (.if_icmp .lt 24, 3) := by decide +kernel
theorem dX3_worth_104 : decode cX3_worth 104 = .ok (.aload_n 0, 1) := by decide +kernel
theorem dX3_worth_105 : decode cX3_worth 105 = .ok (.getfield 24, 3) := by decide +kernel
theorem dX3_worth_108 : decode cX3_worth 108 = .ok (.iload_n 2, 1) := by decide +kernel
theorem dX3_worth_109 : decode cX3_worth 109 = .ok (.iconst 1, 1) := by decide +kernel
theorem dX3_worth_110 : decode cX3_worth 110 = .ok (.isub, 1) := by decide +kernel
theorem dX3_worth_111 : decode cX3_worth 111 = .ok (.iconst 1, 1) := by decide +kernel
theorem dX3_worth_112 : decode cX3_worth 112 = .ok (.aload_n 0, 1) := by decide +kernel
theorem dX3_worth_113 : decode cX3_worth 113 = .ok (.getfield 24, 3) := by decide +kernel
theorem dX3_worth_116 : decode cX3_worth 116 = .ok (.iload_n 2, 1) := by decide +kernel
theorem dX3_worth_117 : decode cX3_worth 117 = .ok (.iconst 1, 1) := by decide +kernel
theorem dX3_worth_118 : decode cX3_worth 118 = .ok (.isub, 1) := by decide +kernel
theorem dX3_worth_119 : decode cX3_worth 119 = .ok (.iaload, 1) := by decide +kernel
theorem dX3_worth_120 : decode cX3_worth 120 = .ok (.isub, 1) := by decide +kernel
theorem dX3_worth_121 : decode cX3_worth 121 = .ok (.iastore, 1) := by decide +kernel
theorem dX3_worth_122 : decode cX3_worth 122 = .ok (.goto 42, 3) := by decide +kernel
theorem dX3_worth_125 : decode cX3_worth 125 = .ok (.iload_n 2, 1) := by decide +kernel
theorem dX3_worth_126 : decode cX3_worth 126 = .ok (.iconst 2, 1) := by decide +kernel
theorem dX3_worth_127 : decode cX3_worth 127 = .ok (.if_icmp .lt 37, 3) := by decide +kernel
theorem dX3_worth_130 : decode cX3_worth 130 = .ok (.iinc 2 (-1), 3) := by decide +kernel
theorem dX3_worth_133 : decode cX3_worth 133 = .ok (.aload_n 0, 1) := by decide +kernel
theorem dX3_worth_134 : decode cX3_worth 134 = .ok (.getfield 24, 3) := by decide +kernel
theorem dX3_worth_137 : decode cX3_worth 137 = .ok (.iload_n 2, 1) := by decide +kernel
theorem dX3_worth_138 : decode cX3_worth 138 = .ok (.iconst 1, 1) := by decide +kernel
theorem dX3_worth_139 : decode cX3_worth 139 = .ok (.isub, 1) := by decide +kernel
theorem dX3_worth_140 : decode cX3_worth 140 = .ok (.iload 4, 2) := by decide +kernel
theorem dX3_worth_142 : decode cX3_worth 142 = .ok (.sipush 2000, 3) := by decide +kernel
theorem dX3_worth_145 : decode cX3_worth 145 = .ok (.isub, 1) := by decide +kernel
theorem dX3_worth_146 : decode cX3_worth 146 = .ok (.aload_n 0, 1) := by decide +kernel
theorem dX3_worth_147 : decode cX3_worth 147 = .ok (.getfield 24, 3) := by decide +kernel
theorem dX3_worth_150 : decode cX3_worth 150 = .ok (.iload_n 2, 1) := by decide +kernel
theorem dX3_worth_151 : decode cX3_worth 151 = .ok (.iconst 1, 1) := by decide +kernel
theorem dX3_worth_152 : decode cX3_worth 152 = .ok (.isub, 1) := by decide +kernel
theorem dX3_worth_153 : decode cX3_worth 153 = .ok (.iaload, 1) := by decide +kernel
theorem dX3_worth_154 : decode cX3_worth 154 = .ok (.aload_n 0, 1) := by decide +kernel
theorem dX3_worth_155 : decode cX3_worth 155 = .ok (.getfield 24, 3) := by decide +kernel
theorem dX3_worth_158 : decode cX3_worth 158 = .ok (.iload_n 2, 1) := by decide +kernel
theorem dX3_worth_159 : decode cX3_worth 159 = .ok (.iaload, 1) := by decide +kernel
theorem dX3_worth_160 : decode cX3_worth 160 = .ok (.invokestatic 161, 3) := by decide +kernel
theorem dX3_worth_163 : decode cX3_worth 163 = .ok (.iastore, 1) := by decide +kernel
theorem dX3_worth_164 : decode cX3_worth 164 = .ok (.iinc 3 1, 3) := by decide +kernel
theorem dX3_worth_167 : decode cX3_worth 167 = .ok (.goto (-163), 3) := by decide +kernel
theorem dX3_worth_170 : decode cX3_worth 170 = .ok (.aload_n 0, 1) := by decide +kernel
theorem dX3_worth_171 : decode cX3_worth 171 = .ok (.getfield 24, 3) := by decide +kernel
theorem dX3_worth_174 : decode cX3_worth 174 = .ok (.iconst 0, 1) := by decide +kernel
theorem dX3_worth_175 : decode cX3_worth 175 = .ok (.iaload, 1) := by decide +kernel
theorem dX3_worth_176 : decode cX3_worth 176 = .ok (.ireturn, 1) := by decide +kernel
theorem okX3_worth_j125 {E : Ev} {X : Cx} {S : Sh} {Z : Option Nat} {Q : Int32 → Hp → Prop} {B4 : Hp → Int32 → Int32 → Prop} {h : Hp} {a0 : Nat} {x2 : Int32} {x3 : Int32} {x4 : Int32} (O : Ok E X yX3_worth cX3_worth 5 (some .int) 2 46 0 0 (qI S Z Q)) (hB4 : ∀ (h : Hp) (x2 : Int32) (x3 : Int32), B4 h x2 x3 → G E X 0 0 S Z h 4 [some (vr a0), none, some (vi x2), some (vi x3), none] []) (hw : wX3_worth_j125 S B4 h a0 x2 x3 x4 Q) : G E X 0 0 S Z h 125 [some (vr a0), none, some (vi x2), some (vi x3), some (vi x4)] [] := by
  unfold wX3_worth_j125 at hw
  refine g_iload_n O dX3_worth_125 rfl ?_
  refine g_iconst O dX3_worth_126 kv_2 ?_
  refine g_icmp_lt (tgt := 164) O dX3_worth_127 rfl (fun q127 => ?_) (fun q127 => ?_)
  · have hw := hw.1 q127
    refine g_iinc (lc' := [some (vr a0), none, some (vi x2), some (vi (x3 + (1 : Int32))), some (vi x4)]) O dX3_worth_164 rfl kv_1 rfl rfl ?_
    refine g_goto (tgt := 4) O dX3_worth_167 rfl ?_
    refine g_mask [true, false, true, true, false] rfl rfl ?_
    exact hB4 _ _ _ hw
  · have hw := hw.2 q127
    refine g_iinc (lc' := [some (vr a0), none, some (vi (x2 + (-1 : Int32))), some (vi x3), some (vi x4)]) O dX3_worth_130 rfl kv_m1 rfl rfl ?_
    refine g_aload_n O dX3_worth_133 rfl ?_
    obtain ⟨c134, hw⟩ := hw
    refine gf_X3_stack O dX3_worth_134 fl_X3_24 c134 ?_
    refine g_iload_n O dX3_worth_137 rfl ?_
    refine g_iconst O dX3_worth_138 kv_1 ?_
    refine g_isub O dX3_worth_139 ?_
    refine g_iload O dX3_worth_140 rfl ?_
    refine g_sipush O dX3_worth_142 ks_2000 ?_
    refine g_isub O dX3_worth_145 ?_
    refine g_aload_n O dX3_worth_146 rfl ?_
    refine gf_X3_stack O dX3_worth_147 fl_X3_24 c134 ?_
    refine g_iload_n O dX3_worth_150 rfl ?_
    refine g_iconst O dX3_worth_151 kv_1 ?_
    refine g_isub O dX3_worth_152 ?_
    obtain ⟨c153, hw⟩ := hw
    refine g_iaload O dX3_worth_153 c153.1 c153.2 ?_
    refine g_aload_n O dX3_worth_154 rfl ?_
    refine gf_X3_stack O dX3_worth_155 fl_X3_24 c134 ?_
    refine g_iload_n O dX3_worth_158 rfl ?_
    obtain ⟨c159, hw⟩ := hw
    refine g_iaload O dX3_worth_159 c159.1 c159.2 ?_
    refine g_callS (As := [vi ((x4 - (2000 : Int32))), vi ((gI h (gR h a0 3) (ix (((x2 + (-1 : Int32)) - (1 : Int32)))))), vi ((gI h (gR h a0 3) (ix ((x2 + (-1 : Int32))))))]) (rest := [vi (((x2 + (-1 : Int32)) - (1 : Int32))), vr (gR h a0 3)]) O dX3_worth_160 ml_X3_161 st_yX3_joined ini_X3 co_yX3_joined yo_yX3_joined rfl rfl (Nat.le_of_ble_eq_true rfl) ⟨by decide, by decide, by decide, by decide⟩ (okX3_joined hw) (k_I fun r160 h160 hw => ?_)
    refine g_iastore O dX3_worth_163 c153.1 c153.2 ?_
    refine g_iinc (lc' := [some (vr a0), none, some (vi (x2 + (-1 : Int32))), some (vi (x3 + (1 : Int32))), some (vi x4)]) O dX3_worth_164 rfl kv_1 rfl rfl ?_
    refine g_goto (tgt := 4) O dX3_worth_167 rfl ?_
    refine g_mask [true, false, true, true, false] rfl rfl ?_
    exact hB4 _ _ _ hw
theorem okX3_worth_j84 {E : Ev} {X : Cx} {S : Sh} {Z : Option Nat} {Q : Int32 → Hp → Prop} {B4 : Hp → Int32 → Int32 → Prop} {h : Hp} {a0 : Nat} {x2 : Int32} {x3 : Int32} {s0 : Nat} {s1 : Int32} {s2 : Int32} (O : Ok E X yX3_worth cX3_worth 5 (some .int) 2 46 0 0 (qI S Z Q)) (hB4 : ∀ (h : Hp) (x2 : Int32) (x3 : Int32), B4 h x2 x3 → G E X 0 0 S Z h 4 [some (vr a0), none, some (vi x2), some (vi x3), none] []) (hw : wX3_worth_j84 S B4 h a0 x2 x3 s0 s1 s2 Q) : G E X 0 0 S Z h 84 [some (vr a0), none, some (vi x2), some (vi x3), none] [vi s2, vi s1, vr s0] := by
  unfold wX3_worth_j84 at hw
  obtain ⟨c84, hw⟩ := hw
  refine g_iastore O dX3_worth_84 c84.1 c84.2 ?_
  refine g_iinc (lc' := [some (vr a0), none, some (vi (x2 + (1 : Int32))), some (vi x3), none]) O dX3_worth_85 rfl kv_1 rfl rfl ?_
  refine g_goto (tgt := 164) O dX3_worth_88 rfl ?_
  refine g_iinc (lc' := [some (vr a0), none, some (vi (x2 + (1 : Int32))), some (vi (x3 + (1 : Int32))), none]) O dX3_worth_164 rfl kv_1 rfl rfl ?_
  refine g_goto (tgt := 4) O dX3_worth_167 rfl ?_
  exact hB4 _ _ _ hw
theorem okX3_worth_4 {E : Ev} {X : Cx} {S : Sh} {Z : Option Nat} {Q : Int32 → Hp → Prop} {a0 : Nat} (O : Ok E X yX3_worth cX3_worth 5 (some .int) 2 46 0 0 (qI S Z Q)) : ∀ (n : Nat) (h : Hp) (x2 : Int32) (x3 : Int32), wX3_worth_4 S a0 Q n h x2 x3 → G E X 0 0 S Z h 4 [some (vr a0), none, some (vi x2), some (vi x3), none] [] := by
  intro n
  induction n with
  | zero => intro h x2 x3 hw; exact hw.elim
  | succ n hB4 =>
    intro h x2 x3 hw
    have hw : wX3_worth_4b S a0 Q (wX3_worth_4 S a0 Q n) h x2 x3 := hw
    unfold wX3_worth_4b at hw
    refine g_iload_n O dX3_worth_4 rfl ?_
    refine g_if_lt (tgt := 170) O dX3_worth_5 rfl (fun q5 => ?_) (fun q5 => ?_)
    · have hw := hw.1 q5
      refine g_aload_n O dX3_worth_170 rfl ?_
      obtain ⟨c171, hw⟩ := hw
      refine gf_X3_stack O dX3_worth_171 fl_X3_24 c171 ?_
      refine g_iconst O dX3_worth_174 kv_0 ?_
      obtain ⟨c175, hw⟩ := hw
      refine g_iaload O dX3_worth_175 c175.1 c175.2 ?_
      exact g_ireturn O dX3_worth_176 ⟨rfl, rfl, _, rfl, hw⟩
    · have hw := hw.2 q5
      refine g_iload_n O dX3_worth_8 rfl ?_
      refine g_aload_n O dX3_worth_9 rfl ?_
      obtain ⟨c10, hw⟩ := hw
      refine gf_X3_codeSize O dX3_worth_10 fl_X3_35 c10 ?_
      refine g_icmp_ge (tgt := 170) O dX3_worth_13 rfl (fun q13 => ?_) (fun q13 => ?_)
      · have hw := hw.1 q13
        refine g_aload_n O dX3_worth_170 rfl ?_
        refine gf_X3_stack O dX3_worth_171 fl_X3_24 c10 ?_
        refine g_iconst O dX3_worth_174 kv_0 ?_
        obtain ⟨c175, hw⟩ := hw
        refine g_iaload O dX3_worth_175 c175.1 c175.2 ?_
        exact g_ireturn O dX3_worth_176 ⟨rfl, rfl, _, rfl, hw⟩
      · have hw := hw.2 q13
        refine g_aload_n O dX3_worth_16 rfl ?_
        refine gf_X3_code O dX3_worth_17 fl_X3_17 c10 ?_
        refine g_iload_n O dX3_worth_20 rfl ?_
        obtain ⟨c21, hw⟩ := hw
        refine g_iaload O dX3_worth_21 c21.1 c21.2 ?_
        refine g_sipush O dX3_worth_22 ks_3000 ?_
        refine g_icmp_eq (tgt := 170) O dX3_worth_25 rfl (fun q25 => ?_) (fun q25 => ?_)
        · have hw := hw.1 q25
          refine g_aload_n O dX3_worth_170 rfl ?_
          refine gf_X3_stack O dX3_worth_171 fl_X3_24 c10 ?_
          refine g_iconst O dX3_worth_174 kv_0 ?_
          obtain ⟨c175, hw⟩ := hw
          refine g_iaload O dX3_worth_175 c175.1 c175.2 ?_
          exact g_ireturn O dX3_worth_176 ⟨rfl, rfl, _, rfl, hw⟩
        · have hw := hw.2 q25
          refine g_aload_n O dX3_worth_28 rfl ?_
          refine gf_X3_code O dX3_worth_29 fl_X3_17 c10 ?_
          refine g_iload_n O dX3_worth_32 rfl ?_
          refine g_iaload O dX3_worth_33 c21.1 c21.2 ?_
          refine g_nmI (fun xv34 e34 => ?_)
          have hw := hw xv34 e34
          refine g_istore (lc' := [some (vr a0), none, some (vi x2), some (vi x3), some (vi xv34)]) O dX3_worth_34 rfl (Nat.le_of_ble_eq_true rfl) rfl ?_
          refine g_iload O dX3_worth_36 rfl ?_
          refine g_sipush O dX3_worth_38 ks_2000 ?_
          refine g_icmp_ge (tgt := 91) O dX3_worth_41 rfl (fun q41 => ?_) (fun q41 => ?_)
          · have hw := hw.1 q41
            refine g_iload O dX3_worth_91 rfl ?_
            refine g_sipush O dX3_worth_93 ks_2414 ?_
            refine g_icmp_ne (tgt := 125) O dX3_worth_96 rfl (fun q96 => ?_) (fun q96 => ?_)
            · have hw := hw.1 q96
              exact okX3_worth_j125 O hB4 hw
            · have hw := hw.2 q96
              refine g_iload_n O dX3_worth_99 rfl ?_
              refine g_iconst O dX3_worth_100 kv_1 ?_
              refine g_icmp_lt (tgt := 125) O dX3_worth_101 rfl (fun q101 => ?_) (fun q101 => ?_)
              · have hw := hw.1 q101
                exact okX3_worth_j125 O hB4 hw
              · have hw := hw.2 q101
                refine g_aload_n O dX3_worth_104 rfl ?_
                refine gf_X3_stack O dX3_worth_105 fl_X3_24 c10 ?_
                refine g_iload_n O dX3_worth_108 rfl ?_
                refine g_iconst O dX3_worth_109 kv_1 ?_
                refine g_isub O dX3_worth_110 ?_
                refine g_iconst O dX3_worth_111 kv_1 ?_
                refine g_aload_n O dX3_worth_112 rfl ?_
                refine gf_X3_stack O dX3_worth_113 fl_X3_24 c10 ?_
                refine g_iload_n O dX3_worth_116 rfl ?_
                refine g_iconst O dX3_worth_117 kv_1 ?_
                refine g_isub O dX3_worth_118 ?_
                obtain ⟨c119, hw⟩ := hw
                refine g_iaload O dX3_worth_119 c119.1 c119.2 ?_
                refine g_isub O dX3_worth_120 ?_
                refine g_iastore O dX3_worth_121 c119.1 c119.2 ?_
                refine g_goto (tgt := 164) O dX3_worth_122 rfl ?_
                refine g_iinc (lc' := [some (vr a0), none, some (vi x2), some (vi (x3 + (1 : Int32))), some (vi xv34)]) O dX3_worth_164 rfl kv_1 rfl rfl ?_
                refine g_goto (tgt := 4) O dX3_worth_167 rfl ?_
                refine g_mask [true, false, true, true, false] rfl rfl ?_
                exact hB4 _ _ _ hw
          · have hw := hw.2 q41
            refine g_iload_n O dX3_worth_44 rfl ?_
            refine g_aload_n O dX3_worth_45 rfl ?_
            refine gf_X3_stack O dX3_worth_46 fl_X3_24 c10 ?_
            obtain ⟨c49, hw⟩ := hw
            refine g_alen (t := 0) O rfl dX3_worth_49 c49 ?_
            refine g_icmp_lt (tgt := 55) O dX3_worth_50 rfl (fun q50 => ?_) (fun q50 => ?_)
            · have hw := hw.1 q50
              refine g_aload_n O dX3_worth_55 rfl ?_
              refine gf_X3_stack O dX3_worth_56 fl_X3_24 c10 ?_
              refine g_iload_n O dX3_worth_59 rfl ?_
              refine g_iload O dX3_worth_60 rfl ?_
              refine g_sipush O dX3_worth_62 ks_1000 ?_
              refine g_icmp_ge (tgt := 73) O dX3_worth_65 rfl (fun q65 => ?_) (fun q65 => ?_)
              · have hw := hw.1 q65
                refine g_aload_n O dX3_worth_73 rfl ?_
                refine gf_X3_scene O dX3_worth_74 fl_X3_21 c10 ?_
                refine g_iload O dX3_worth_77 rfl ?_
                refine g_sipush O dX3_worth_79 ks_1000 ?_
                refine g_isub O dX3_worth_82 ?_
                obtain ⟨c83, hw⟩ := hw
                refine g_iaload O dX3_worth_83 c83.1 c83.2 ?_
                refine g_mask [true, false, true, true, false] rfl rfl ?_
                exact okX3_worth_j84 O hB4 hw
              · have hw := hw.2 q65
                refine g_iload O dX3_worth_68 rfl ?_
                refine g_goto (tgt := 84) O dX3_worth_70 rfl ?_
                refine g_mask [true, false, true, true, false] rfl rfl ?_
                exact okX3_worth_j84 O hB4 hw
            · have hw := hw.2 q50
              refine g_iconst O dX3_worth_53 kv_0 ?_
              exact g_ireturn O dX3_worth_54 ⟨rfl, rfl, _, rfl, hw⟩
theorem okX3_worth {E : Ev} {S : Sh} {Z : Option Nat} {Q : Int32 → Hp → Prop} {h : Hp} {a0 : Nat} {x1 : Int32} (hw : wX3_worth S h a0 x1 Q) : Ct E yX3_worth cX3_worth 5 (some .int) 2 46 0 0 S Z h [vr a0, vi x1] (qI S Z Q) := by
  refine Ct.of (by decide) (lc := [some (vr a0), some (vi x1), none, none, none]) (Nat.le_of_ble_eq_true rfl) rfl (fun X O => ?_)
  unfold wX3_worth at hw
  refine g_iconst O dX3_worth_0 kv_0 ?_
  refine g_istore_n (lc' := [some (vr a0), some (vi x1), some (vi (0 : Int32)), none, none]) O dX3_worth_1 rfl (Nat.le_of_ble_eq_true rfl) rfl ?_
  refine g_iload_n O dX3_worth_2 rfl ?_
  refine g_istore_n (lc' := [some (vr a0), some (vi x1), some (vi (0 : Int32)), some (vi x1), none]) O dX3_worth_3 rfl (Nat.le_of_ble_eq_true rfl) rfl ?_
  refine g_mask [true, false, true, true, false] rfl rfl ?_
  obtain ⟨n4, hw⟩ := hw
  exact okX3_worth_4 O n4 _ _ _ hw
theorem dX3_lawsHold_0 : decode cX3_lawsHold 0 = .ok (.iconst 0, 1) := by decide +kernel
theorem dX3_lawsHold_1 : decode cX3_lawsHold 1 = .ok (.istore_n 2, 1) := by decide +kernel
theorem dX3_lawsHold_2 : decode cX3_lawsHold 2 = .ok (.iload_n 2, 1) := by decide +kernel
theorem dX3_lawsHold_3 : decode cX3_lawsHold 3 = .ok (.aload_n 1, 1) := by decide +kernel
theorem dX3_lawsHold_4 : decode cX3_lawsHold 4 = .ok (.getfield 110, 3) := by decide +kernel
theorem dX3_lawsHold_7 : decode cX3_lawsHold 7 = .ok (.if_icmp .ge 24, 3) := by decide +kernel
theorem dX3_lawsHold_10 : decode cX3_lawsHold 10 = .ok (.aload_n 0, 1) := by decide +kernel
theorem dX3_lawsHold_11 : decode cX3_lawsHold 11 = .ok (.aload_n 1, 1) := by decide +kernel
theorem dX3_lawsHold_12 : decode cX3_lawsHold 12 = .ok (.getfield 113, 3) := by decide +kernel
theorem dX3_lawsHold_15 : decode cX3_lawsHold 15 = .ok (.iload_n 2, 1) := by decide +kernel
theorem dX3_lawsHold_16 : decode cX3_lawsHold 16 = .ok (.iaload, 1) := by decide +kernel
theorem dX3_lawsHold_17 : decode cX3_lawsHold 17 = .ok (.invokevirtual 116, 3) := by decide +kernel
theorem dX3_lawsHold_20 : decode cX3_lawsHold 20 = .ok (.ifCond .ne 5, 3) := by decide +kernel
theorem dX3_lawsHold_23 : decode cX3_lawsHold 23 = .ok (.iconst 0, 1) := by decide +kernel
theorem dX3_lawsHold_24 : decode cX3_lawsHold 24 = .ok (.ireturn, 1) := by decide +kernel
theorem dX3_lawsHold_25 : decode cX3_lawsHold 25 = .ok (.iinc 2 1, 3) := by decide +kernel
theorem dX3_lawsHold_28 : decode cX3_lawsHold 28 = .ok (.goto (-26), 3) := by decide +kernel
theorem dX3_lawsHold_31 : decode cX3_lawsHold 31 = .ok (.iconst 1, 1) := by decide +kernel
theorem dX3_lawsHold_32 : decode cX3_lawsHold 32 = .ok (.ireturn, 1) := by decide +kernel
theorem okX3_lawsHold_2 {E : Ev} {X : Cx} {S : Sh} {Z : Option Nat} {Q : Int32 → Hp → Prop} {a0 : Nat} {a1 : Nat} (O : Ok E X yX3_lawsHold cX3_lawsHold 3 (some .boolean) 3 70 0 0 (qI S Z Q)) : ∀ (n : Nat) (h : Hp) (x2 : Int32), wX3_lawsHold_2 S a0 a1 Q n h x2 → G E X 0 0 S Z h 2 [some (vr a0), some (vr a1), some (vi x2)] [] := by
  intro n
  induction n with
  | zero => intro h x2 hw; exact hw.elim
  | succ n hB2 =>
    intro h x2 hw
    have hw : wX3_lawsHold_2b S a0 a1 Q (wX3_lawsHold_2 S a0 a1 Q n) h x2 := hw
    unfold wX3_lawsHold_2b at hw
    refine g_iload_n O dX3_lawsHold_2 rfl ?_
    refine g_aload_n O dX3_lawsHold_3 rfl ?_
    obtain ⟨c4, hw⟩ := hw
    refine gf_X2_laws O dX3_lawsHold_4 fl_X3_110 c4 ?_
    refine g_icmp_ge (tgt := 31) O dX3_lawsHold_7 rfl (fun q7 => ?_) (fun q7 => ?_)
    · have hw := hw.1 q7
      refine g_iconst O dX3_lawsHold_31 kv_1 ?_
      exact g_zreturn O dX3_lawsHold_32 (by decide) ⟨rfl, rfl, _, rfl, hw⟩
    · have hw := hw.2 q7
      refine g_aload_n O dX3_lawsHold_10 rfl ?_
      refine g_aload_n O dX3_lawsHold_11 rfl ?_
      refine gf_X2_lawCode O dX3_lawsHold_12 fl_X3_113 c4 ?_
      refine g_iload_n O dX3_lawsHold_15 rfl ?_
      obtain ⟨c16, hw⟩ := hw
      refine g_iaload O dX3_lawsHold_16 c16.1 c16.2 ?_
      obtain ⟨c17, hw⟩ := hw
      refine g_callV (As := [vi ((gI h (gR h a1 4) (ix x2)))]) (rest := []) O ci_3 rfl dX3_lawsHold_17 ml_X3_116 im_yX3_worth se_yX3_worth ini_X3 co_yX3_worth yo_yX3_worth c17 rfl rfl (Nat.le_of_ble_eq_true rfl) ⟨by decide, by decide, by decide, by decide⟩ (okX3_worth hw) (k_I fun r17 h17 hw => ?_)
      refine g_if_ne (tgt := 25) O dX3_lawsHold_20 rfl (fun q20 => ?_) (fun q20 => ?_)
      · have hw := hw.1 q20
        refine g_iinc (lc' := [some (vr a0), some (vr a1), some (vi (x2 + (1 : Int32)))]) O dX3_lawsHold_25 rfl kv_1 rfl rfl ?_
        refine g_goto (tgt := 2) O dX3_lawsHold_28 rfl ?_
        exact hB2 _ _ hw
      · have hw := hw.2 q20
        refine g_iconst O dX3_lawsHold_23 kv_0 ?_
        exact g_zreturn O dX3_lawsHold_24 (by decide) ⟨rfl, rfl, _, rfl, hw⟩
theorem okX3_lawsHold {E : Ev} {S : Sh} {Z : Option Nat} {Q : Int32 → Hp → Prop} {h : Hp} {a0 : Nat} {a1 : Nat} (hw : wX3_lawsHold S h a0 a1 Q) : Ct E yX3_lawsHold cX3_lawsHold 3 (some .boolean) 3 70 0 0 S Z h [vr a0, vr a1] (qI S Z Q) := by
  refine Ct.of (by decide) (lc := [some (vr a0), some (vr a1), none]) (Nat.le_of_ble_eq_true rfl) rfl (fun X O => ?_)
  unfold wX3_lawsHold at hw
  refine g_iconst O dX3_lawsHold_0 kv_0 ?_
  refine g_istore_n (lc' := [some (vr a0), some (vr a1), some (vi (0 : Int32))]) O dX3_lawsHold_1 rfl (Nat.le_of_ble_eq_true rfl) rfl ?_
  obtain ⟨n2, hw⟩ := hw
  exact okX3_lawsHold_2 O n2 _ _ hw
theorem dX3_stateGiven_0 : decode cX3_stateGiven 0 = .ok (.iconst 0, 1) := by decide +kernel
theorem dX3_stateGiven_1 : decode cX3_stateGiven 1 = .ok (.istore_n 3, 1) := by decide +kernel
theorem dX3_stateGiven_2 : decode cX3_stateGiven 2 = .ok (.iload_n 3, 1) := by decide +kernel
theorem dX3_stateGiven_3 : decode cX3_stateGiven 3 = .ok (.aload_n 1, 1) := by decide +kernel
theorem dX3_stateGiven_4 : decode cX3_stateGiven 4 = .ok (.getfield 148, 3) := by decide +kernel
theorem dX3_stateGiven_7 : decode cX3_stateGiven 7 = .ok (.if_icmp .ge 57, 3) := by decide +kernel
theorem dX3_stateGiven_10 : decode cX3_stateGiven 10 = .ok (.aload_n 2, 1) := by decide +kernel
theorem dX3_stateGiven_11 : decode cX3_stateGiven 11 = .ok (.getfield 151, 3) := by decide +kernel
theorem dX3_stateGiven_14 : decode cX3_stateGiven 14 = .ok (.iload_n 3, 1) := by decide +kernel
theorem dX3_stateGiven_15 : decode cX3_stateGiven 15 = .ok (.ishr, 1) := by decide +kernel
theorem dX3_stateGiven_16 : decode cX3_stateGiven 16 = .ok (.iconst 1, 1) := by decide +kernel
theorem dX3_stateGiven_17 : decode cX3_stateGiven 17 = .ok (.iand, 1) := by decide +kernel
theorem dX3_stateGiven_18 : decode cX3_stateGiven 18 = .ok (.ifCond .eq 7, 3) := by decide +kernel
theorem dX3_stateGiven_21 : decode cX3_stateGiven 21 = .ok (.iconst 1, 1) := by decide +kernel
theorem dX3_stateGiven_22 : decode cX3_stateGiven 22 = .ok (.goto 4, 3) := by decide +kernel
theorem dX3_stateGiven_25 : decode cX3_stateGiven 25 = .ok (.iconst 0, 1) := by decide +kernel
theorem dX3_stateGiven_26 : decode cX3_stateGiven 26 = .ok (.istore 4, 2) := by decide +kernel
theorem dX3_stateGiven_28 : decode cX3_stateGiven 28 = .ok (.aload_n 0, 1) := by decide +kernel
theorem dX3_stateGiven_29 : decode cX3_stateGiven 29 = .ok (.getfield 27, 3) := by decide +kernel
theorem dX3_stateGiven_32 : decode cX3_stateGiven 32 = .ok (.iload_n 3, 1) := by decide +kernel
theorem dX3_stateGiven_33 : decode cX3_stateGiven 33 = .ok (.iload 4, 2) := by decide +kernel
theorem dX3_stateGiven_35 : decode cX3_stateGiven 35 = .ok (.ifCond .eq 16, 3) := by decide +kernel
theorem dX3_stateGiven_38 : decode cX3_stateGiven 38 = .ok (.aload_n 0, 1) := by decide +kernel
theorem dX3_stateGiven_39 : decode cX3_stateGiven 39 = .ok (.aload_n 2, 1) := by decide +kernel
theorem dX3_stateGiven_40 : decode cX3_stateGiven 40 = .ok (.getfield 154, 3) := by decide +kernel
theorem dX3_stateGiven_43 : decode cX3_stateGiven 43 = .ok (.iload_n 3, 1) := by decide +kernel
theorem dX3_stateGiven_44 : decode cX3_stateGiven 44 = .ok (.iaload, 1) := by decide +kernel
theorem dX3_stateGiven_45 : decode cX3_stateGiven 45 = .ok (.invokevirtual 116, 3) := by decide +kernel
theorem dX3_stateGiven_48 : decode cX3_stateGiven 48 = .ok (.goto 9, 3) := by decide +kernel
theorem dX3_stateGiven_51 : decode cX3_stateGiven 51 = .ok (.aload_n 0, 1) := by decide +kernel
theorem dX3_stateGiven_52 : decode cX3_stateGiven 52 = .ok (.getfield 21, 3) := by decide +kernel
theorem dX3_stateGiven_55 : decode cX3_stateGiven 55 = .ok (.iload_n 3, 1) := by decide +kernel
theorem dX3_stateGiven_56 : decode cX3_stateGiven 56 = .ok (.iaload, 1) := by decide +kernel
theorem dX3_stateGiven_57 : decode cX3_stateGiven 57 = .ok (.iastore, 1) := by decide +kernel
theorem dX3_stateGiven_58 : decode cX3_stateGiven 58 = .ok (.iinc 3 1, 3) := by decide +kernel
theorem dX3_stateGiven_61 : decode cX3_stateGiven 61 = .ok (.goto (-59), 3) := by decide +kernel
theorem dX3_stateGiven_64 : decode cX3_stateGiven 64 = .ok (.aload_n 1, 1) := by decide +kernel
theorem dX3_stateGiven_65 : decode cX3_stateGiven 65 = .ok (.aload_n 0, 1) := by decide +kernel
theorem dX3_stateGiven_66 : decode cX3_stateGiven 66 = .ok (.getfield 27, 3) := by decide +kernel
theorem dX3_stateGiven_69 : decode cX3_stateGiven 69 = .ok (.iconst 0, 1) := by decide +kernel
theorem dX3_stateGiven_70 : decode cX3_stateGiven 70 = .ok (.invokevirtual 157, 3) := by decide +kernel
theorem dX3_stateGiven_73 : decode cX3_stateGiven 73 = .ok (.ireturn, 1) := by decide +kernel
theorem okX3_stateGiven_j26 {E : Ev} {X : Cx} {S : Sh} {Z : Option Nat} {Q : Int32 → Hp → Prop} {B2 : Hp → Int32 → Prop} {h : Hp} {a0 : Nat} {a1 : Nat} {a2 : Nat} {x3 : Int32} {s0 : Int32} (O : Ok E X yX3_stateGiven cX3_stateGiven 5 (some .int) 3 70 0 0 (qI S Z Q)) (hB2 : ∀ (h : Hp) (x3 : Int32), B2 h x3 → G E X 0 0 S Z h 2 [some (vr a0), some (vr a1), some (vr a2), some (vi x3), none] []) (hw : wX3_stateGiven_j26 S B2 h a0 a1 a2 x3 s0 Q) : G E X 0 0 S Z h 26 [some (vr a0), some (vr a1), some (vr a2), some (vi x3), none] [vi s0] := by
  unfold wX3_stateGiven_j26 at hw
  refine g_istore (lc' := [some (vr a0), some (vr a1), some (vr a2), some (vi x3), some (vi s0)]) O dX3_stateGiven_26 rfl (Nat.le_of_ble_eq_true rfl) rfl ?_
  refine g_aload_n O dX3_stateGiven_28 rfl ?_
  obtain ⟨c29, hw⟩ := hw
  refine gf_X3_nextRow O dX3_stateGiven_29 fl_X3_27 c29 ?_
  refine g_iload_n O dX3_stateGiven_32 rfl ?_
  refine g_iload O dX3_stateGiven_33 rfl ?_
  refine g_if_eq (tgt := 51) O dX3_stateGiven_35 rfl (fun q35 => ?_) (fun q35 => ?_)
  · have hw := hw.1 q35
    refine g_aload_n O dX3_stateGiven_51 rfl ?_
    refine gf_X3_scene O dX3_stateGiven_52 fl_X3_21 c29 ?_
    refine g_iload_n O dX3_stateGiven_55 rfl ?_
    obtain ⟨c56, hw⟩ := hw
    refine g_iaload O dX3_stateGiven_56 c56.1 c56.2 ?_
    obtain ⟨c57, hw⟩ := hw
    refine g_iastore O dX3_stateGiven_57 c57.1 c57.2 ?_
    refine g_iinc (lc' := [some (vr a0), some (vr a1), some (vr a2), some (vi (x3 + (1 : Int32))), some (vi s0)]) O dX3_stateGiven_58 rfl kv_1 rfl rfl ?_
    refine g_goto (tgt := 2) O dX3_stateGiven_61 rfl ?_
    refine g_mask [true, true, true, true, false] rfl rfl ?_
    exact hB2 _ _ hw
  · have hw := hw.2 q35
    refine g_aload_n O dX3_stateGiven_38 rfl ?_
    refine g_aload_n O dX3_stateGiven_39 rfl ?_
    obtain ⟨c40, hw⟩ := hw
    refine gf_X0_giveCode O dX3_stateGiven_40 fl_X3_154 c40 ?_
    refine g_iload_n O dX3_stateGiven_43 rfl ?_
    obtain ⟨c44, hw⟩ := hw
    refine g_iaload O dX3_stateGiven_44 c44.1 c44.2 ?_
    refine g_callV (As := [vi ((gI h (gR h a2 0) (ix x3)))]) (rest := [vi x3, vr (gR h a0 4)]) O ci_3 rfl dX3_stateGiven_45 ml_X3_116 im_yX3_worth se_yX3_worth ini_X3 co_yX3_worth yo_yX3_worth c29 rfl rfl (Nat.le_of_ble_eq_true rfl) ⟨by decide, by decide, by decide, by decide⟩ (okX3_worth hw) (k_I fun r45 h45 hw => ?_)
    refine g_goto (tgt := 57) O dX3_stateGiven_48 rfl ?_
    obtain ⟨c57, hw⟩ := hw
    refine g_iastore O dX3_stateGiven_57 c57.1 c57.2 ?_
    refine g_iinc (lc' := [some (vr a0), some (vr a1), some (vr a2), some (vi (x3 + (1 : Int32))), some (vi s0)]) O dX3_stateGiven_58 rfl kv_1 rfl rfl ?_
    refine g_goto (tgt := 2) O dX3_stateGiven_61 rfl ?_
    refine g_mask [true, true, true, true, false] rfl rfl ?_
    exact hB2 _ _ hw
theorem okX3_stateGiven_2 {E : Ev} {X : Cx} {S : Sh} {Z : Option Nat} {Q : Int32 → Hp → Prop} {a0 : Nat} {a1 : Nat} {a2 : Nat} (O : Ok E X yX3_stateGiven cX3_stateGiven 5 (some .int) 3 70 0 0 (qI S Z Q)) : ∀ (n : Nat) (h : Hp) (x3 : Int32), wX3_stateGiven_2 S a0 a1 a2 Q n h x3 → G E X 0 0 S Z h 2 [some (vr a0), some (vr a1), some (vr a2), some (vi x3), none] [] := by
  intro n
  induction n with
  | zero => intro h x3 hw; exact hw.elim
  | succ n hB2 =>
    intro h x3 hw
    have hw : wX3_stateGiven_2b S a0 a1 a2 Q (wX3_stateGiven_2 S a0 a1 a2 Q n) h x3 := hw
    unfold wX3_stateGiven_2b at hw
    refine g_iload_n O dX3_stateGiven_2 rfl ?_
    refine g_aload_n O dX3_stateGiven_3 rfl ?_
    obtain ⟨c4, hw⟩ := hw
    refine gf_X2_variables O dX3_stateGiven_4 fl_X3_148 c4 ?_
    refine g_icmp_ge (tgt := 64) O dX3_stateGiven_7 rfl (fun q7 => ?_) (fun q7 => ?_)
    · have hw := hw.1 q7
      refine g_aload_n O dX3_stateGiven_64 rfl ?_
      refine g_aload_n O dX3_stateGiven_65 rfl ?_
      obtain ⟨c66, hw⟩ := hw
      refine gf_X3_nextRow O dX3_stateGiven_66 fl_X3_27 c66 ?_
      refine g_iconst O dX3_stateGiven_69 kv_0 ?_
      refine g_callV (As := [vr (gR h a0 4), vi (0 : Int32)]) (rest := []) O ci_2 rfl dX3_stateGiven_70 ml_X3_157 im_yX2_stateOf se_yX2_stateOf ini_X2 co_yX2_stateOf yo_yX2_stateOf c4 rfl rfl (Nat.le_of_ble_eq_true rfl) ⟨by decide, by decide, by decide, by decide⟩ (okX2_stateOf hw) (k_I fun r70 h70 hw => ?_)
      exact g_ireturn O dX3_stateGiven_73 ⟨rfl, rfl, _, rfl, hw⟩
    · have hw := hw.2 q7
      refine g_aload_n O dX3_stateGiven_10 rfl ?_
      obtain ⟨c11, hw⟩ := hw
      refine gf_X0_gives O dX3_stateGiven_11 fl_X3_151 c11 ?_
      refine g_iload_n O dX3_stateGiven_14 rfl ?_
      refine g_ishr O dX3_stateGiven_15 ?_
      refine g_iconst O dX3_stateGiven_16 kv_1 ?_
      refine g_iand O dX3_stateGiven_17 ?_
      refine g_if_eq (tgt := 25) O dX3_stateGiven_18 rfl (fun q18 => ?_) (fun q18 => ?_)
      · have hw := hw.1 q18
        refine g_iconst O dX3_stateGiven_25 kv_0 ?_
        exact okX3_stateGiven_j26 O hB2 hw
      · have hw := hw.2 q18
        refine g_iconst O dX3_stateGiven_21 kv_1 ?_
        refine g_goto (tgt := 26) O dX3_stateGiven_22 rfl ?_
        exact okX3_stateGiven_j26 O hB2 hw
theorem okX3_stateGiven {E : Ev} {S : Sh} {Z : Option Nat} {Q : Int32 → Hp → Prop} {h : Hp} {a0 : Nat} {a1 : Nat} {a2 : Nat} (hw : wX3_stateGiven S h a0 a1 a2 Q) : Ct E yX3_stateGiven cX3_stateGiven 5 (some .int) 3 70 0 0 S Z h [vr a0, vr a1, vr a2] (qI S Z Q) := by
  refine Ct.of (by decide) (lc := [some (vr a0), some (vr a1), some (vr a2), none, none]) (Nat.le_of_ble_eq_true rfl) rfl (fun X O => ?_)
  unfold wX3_stateGiven at hw
  refine g_iconst O dX3_stateGiven_0 kv_0 ?_
  refine g_istore_n (lc' := [some (vr a0), some (vr a1), some (vr a2), some (vi (0 : Int32)), none]) O dX3_stateGiven_1 rfl (Nat.le_of_ble_eq_true rfl) rfl ?_
  obtain ⟨n2, hw⟩ := hw
  exact okX3_stateGiven_2 O n2 _ _ hw
theorem dX3_settleEvent_0 : decode cX3_settleEvent 0 = .ok (.iconst 0, 1) := by decide +kernel
theorem dX3_settleEvent_1 : decode cX3_settleEvent 1 = .ok (.istore_n 3, 1) := by decide +kernel
theorem dX3_settleEvent_2 : decode cX3_settleEvent 2 = .ok (.iload_n 3, 1) := by decide +kernel
theorem dX3_settleEvent_3 : decode cX3_settleEvent 3 = .ok (.aload_n 1, 1) := by decide +kernel
theorem dX3_settleEvent_4 : decode cX3_settleEvent 4 = .ok (.getfield 81, 3) := by decide +kernel
theorem dX3_settleEvent_7 : decode cX3_settleEvent 7 = .ok (.if_icmp .ge 92, 3) := by decide +kernel
theorem dX3_settleEvent_10 : decode cX3_settleEvent 10 = .ok (.aload_n 2, 1) := by decide +kernel
theorem dX3_settleEvent_11 : decode cX3_settleEvent 11 = .ok (.iload_n 3, 1) := by decide +kernel
theorem dX3_settleEvent_12 : decode cX3_settleEvent 12 = .ok (.invokevirtual 126, 3) := by decide +kernel
theorem dX3_settleEvent_15 : decode cX3_settleEvent 15 = .ok (.aload_n 1, 1) := by decide +kernel
theorem dX3_settleEvent_16 : decode cX3_settleEvent 16 = .ok (.iload_n 3, 1) := by decide +kernel
theorem dX3_settleEvent_17 : decode cX3_settleEvent 17 = .ok (.aload_n 0, 1) := by decide +kernel
theorem dX3_settleEvent_18 : decode cX3_settleEvent 18 = .ok (.getfield 21, 3) := by decide +kernel
theorem dX3_settleEvent_21 : decode cX3_settleEvent 21 = .ok (.iconst 0, 1) := by decide +kernel
theorem dX3_settleEvent_22 : decode cX3_settleEvent 22 = .ok (.invokevirtual 84, 3) := by decide +kernel
theorem dX3_settleEvent_25 : decode cX3_settleEvent 25 = .ok (.aload_n 2, 1) := by decide +kernel
theorem dX3_settleEvent_26 : decode cX3_settleEvent 26 = .ok (.getfield 131, 3) := by decide +kernel
theorem dX3_settleEvent_29 : decode cX3_settleEvent 29 = .ok (.istore 4, 2) := by decide +kernel
theorem dX3_settleEvent_31 : decode cX3_settleEvent 31 = .ok (.iload 4, 2) := by decide +kernel
theorem dX3_settleEvent_33 : decode cX3_settleEvent 33 = .ok (.aload_n 2, 1) := by decide +kernel
theorem dX3_settleEvent_34 : decode cX3_settleEvent 34 = .ok (.getfield 134, 3) := by decide +kernel
theorem dX3_settleEvent_37 : decode cX3_settleEvent 37 = .ok (.if_icmp .gt 56, 3) := by decide +kernel
theorem dX3_settleEvent_40 : decode cX3_settleEvent 40 = .ok (.aload_n 0, 1) := by decide +kernel
theorem dX3_settleEvent_41 : decode cX3_settleEvent 41 = .ok (.getfield 21, 3) := by decide +kernel
theorem dX3_settleEvent_44 : decode cX3_settleEvent 44 = .ok (.bipush 6, 2) := by decide +kernel
theorem dX3_settleEvent_46 : decode cX3_settleEvent 46 = .ok (.iload 4, 2) := by decide +kernel
theorem dX3_settleEvent_48 : decode cX3_settleEvent 48 = .ok (.iastore, 1) := by decide +kernel
theorem dX3_settleEvent_49 : decode cX3_settleEvent 49 = .ok (.aload_n 0, 1) := by decide +kernel
theorem dX3_settleEvent_50 : decode cX3_settleEvent 50 = .ok (.aload_n 2, 1) := by decide +kernel
theorem dX3_settleEvent_51 : decode cX3_settleEvent 51 = .ok (.getfield 137, 3) := by decide +kernel
theorem dX3_settleEvent_54 : decode cX3_settleEvent 54 = .ok (.invokevirtual 116, 3) := by decide +kernel
theorem dX3_settleEvent_57 : decode cX3_settleEvent 57 = .ok (.ifCond .eq 7, 3) := by decide +kernel
theorem dX3_settleEvent_60 : decode cX3_settleEvent 60 = .ok (.iconst 1, 1) := by decide +kernel
theorem dX3_settleEvent_61 : decode cX3_settleEvent 61 = .ok (.goto 4, 3) := by decide +kernel
theorem dX3_settleEvent_64 : decode cX3_settleEvent 64 = .ok (.iconst 0, 1) := by decide +kernel
theorem dX3_settleEvent_65 : decode cX3_settleEvent 65 = .ok (.istore 5, 2) := by decide +kernel
theorem dX3_settleEvent_67 : decode cX3_settleEvent 67 = .ok (.aload_n 2, 1) := by decide +kernel
theorem dX3_settleEvent_68 : decode cX3_settleEvent 68 = .ok (.iload_n 3, 1) := by decide +kernel
theorem dX3_settleEvent_69 : decode cX3_settleEvent 69 = .ok (.iload 4, 2) := by decide +kernel
theorem dX3_settleEvent_71 : decode cX3_settleEvent 71 = .ok (.aload_n 2, 1) := by decide +kernel
theorem dX3_settleEvent_72 : decode cX3_settleEvent 72 = .ok (.getfield 131, 3) := by decide +kernel
theorem dX3_settleEvent_75 : decode cX3_settleEvent 75 = .ok (.isub, 1) := by decide +kernel
theorem dX3_settleEvent_76 : decode cX3_settleEvent 76 = .ok (.iload 5, 2) := by decide +kernel
theorem dX3_settleEvent_78 : decode cX3_settleEvent 78 = .ok (.aload_n 0, 1) := by decide +kernel
theorem dX3_settleEvent_79 : decode cX3_settleEvent 79 = .ok (.aload_n 1, 1) := by decide +kernel
theorem dX3_settleEvent_80 : decode cX3_settleEvent 80 = .ok (.aload_n 2, 1) := by decide +kernel
theorem dX3_settleEvent_81 : decode cX3_settleEvent 81 = .ok (.invokevirtual 140, 3) := by decide +kernel
theorem dX3_settleEvent_84 : decode cX3_settleEvent 84 = .ok (.invokevirtual 144, 3) := by decide +kernel
theorem dX3_settleEvent_87 : decode cX3_settleEvent 87 = .ok (.iinc 4 1, 3) := by decide +kernel
theorem dX3_settleEvent_90 : decode cX3_settleEvent 90 = .ok (.goto (-59), 3) := by decide +kernel
theorem dX3_settleEvent_93 : decode cX3_settleEvent 93 = .ok (.iinc 3 1, 3) := by decide +kernel
theorem dX3_settleEvent_96 : decode cX3_settleEvent 96 = .ok (.goto (-94), 3) := by decide +kernel
theorem dX3_settleEvent_99 : decode cX3_settleEvent 99 = .ok (.return_, 1) := by decide +kernel
theorem okX3_settleEvent_j65 {E : Ev} {X : Cx} {S : Sh} {Z : Option Nat} {Q : Hp → Prop} {B2 : Hp → Int32 → Prop} {B31 : Hp → Int32 → Prop} {h : Hp} {a0 : Nat} {a1 : Nat} {a2 : Nat} {x3 : Int32} {x4 : Int32} {s0 : Int32} (O : Ok E X yX3_settleEvent cX3_settleEvent 6 none 4 94 0 0 (qV S Z Q)) (hB2 : ∀ (h : Hp) (x3 : Int32), B2 h x3 → G E X 0 0 S Z h 2 [some (vr a0), some (vr a1), some (vr a2), some (vi x3), none, none] []) (hB31 : ∀ (h : Hp) (x4 : Int32), B31 h x4 → G E X 0 0 S Z h 31 [some (vr a0), some (vr a1), some (vr a2), some (vi x3), some (vi x4), none] []) (hw : wX3_settleEvent_j65 S B2 B31 h a0 a1 a2 x3 x4 s0 Q) : G E X 0 0 S Z h 65 [some (vr a0), some (vr a1), some (vr a2), some (vi x3), some (vi x4), none] [vi s0] := by
  unfold wX3_settleEvent_j65 at hw
  refine g_istore (lc' := [some (vr a0), some (vr a1), some (vr a2), some (vi x3), some (vi x4), some (vi s0)]) O dX3_settleEvent_65 rfl (Nat.le_of_ble_eq_true rfl) rfl ?_
  refine g_aload_n O dX3_settleEvent_67 rfl ?_
  refine g_iload_n O dX3_settleEvent_68 rfl ?_
  refine g_iload O dX3_settleEvent_69 rfl ?_
  refine g_aload_n O dX3_settleEvent_71 rfl ?_
  obtain ⟨c72, hw⟩ := hw
  refine gf_X0_first O dX3_settleEvent_72 fl_X3_131 c72 ?_
  refine g_isub O dX3_settleEvent_75 ?_
  refine g_iload O dX3_settleEvent_76 rfl ?_
  refine g_aload_n O dX3_settleEvent_78 rfl ?_
  refine g_aload_n O dX3_settleEvent_79 rfl ?_
  refine g_aload_n O dX3_settleEvent_80 rfl ?_
  obtain ⟨c81, hw⟩ := hw
  refine g_callV (As := [vr a1, vr a2]) (rest := [vi s0, vi ((x4 - (gI h a2 6))), vi x3, vr a2]) O ci_3 rfl dX3_settleEvent_81 ml_X3_140 im_yX3_stateGiven se_yX3_stateGiven ini_X3 co_yX3_stateGiven yo_yX3_stateGiven c81 rfl rfl (Nat.le_of_ble_eq_true rfl) ⟨by decide, by decide, by decide, by decide⟩ (okX3_stateGiven hw) (k_I fun r81 h81 hw => ?_)
  refine g_callV (As := [vi x3, vi ((x4 - (gI h a2 6))), vi s0, vi r81]) (rest := []) O ci_0 rfl dX3_settleEvent_84 ml_X3_144 im_yX0_settleAt se_yX0_settleAt ini_X0 co_yX0_settleAt yo_yX0_settleAt c72 rfl rfl (Nat.le_of_ble_eq_true rfl) ⟨by decide, by decide, by decide, by decide⟩ (okX0_settleAt hw) (k_V fun h84 hw => ?_)
  refine g_iinc (lc' := [some (vr a0), some (vr a1), some (vr a2), some (vi x3), some (vi (x4 + (1 : Int32))), some (vi s0)]) O dX3_settleEvent_87 rfl kv_1 rfl rfl ?_
  refine g_goto (tgt := 31) O dX3_settleEvent_90 rfl ?_
  refine g_mask [true, true, true, true, true, false] rfl rfl ?_
  exact hB31 _ _ hw
theorem okX3_settleEvent_31 {E : Ev} {X : Cx} {S : Sh} {Z : Option Nat} {Q : Hp → Prop} {B2 : Hp → Int32 → Prop} {a0 : Nat} {a1 : Nat} {a2 : Nat} {x3 : Int32} (O : Ok E X yX3_settleEvent cX3_settleEvent 6 none 4 94 0 0 (qV S Z Q)) (hB2 : ∀ (h : Hp) (x3 : Int32), B2 h x3 → G E X 0 0 S Z h 2 [some (vr a0), some (vr a1), some (vr a2), some (vi x3), none, none] []) : ∀ (n : Nat) (h : Hp) (x4 : Int32), wX3_settleEvent_31 S B2 a0 a1 a2 x3 Q n h x4 → G E X 0 0 S Z h 31 [some (vr a0), some (vr a1), some (vr a2), some (vi x3), some (vi x4), none] [] := by
  intro n
  induction n with
  | zero => intro h x4 hw; exact hw.elim
  | succ n hB31 =>
    intro h x4 hw
    have hw : wX3_settleEvent_31b S B2 a0 a1 a2 x3 Q (wX3_settleEvent_31 S B2 a0 a1 a2 x3 Q n) h x4 := hw
    unfold wX3_settleEvent_31b at hw
    refine g_iload O dX3_settleEvent_31 rfl ?_
    refine g_aload_n O dX3_settleEvent_33 rfl ?_
    obtain ⟨c34, hw⟩ := hw
    refine gf_X0_last O dX3_settleEvent_34 fl_X3_134 c34 ?_
    refine g_icmp_gt (tgt := 93) O dX3_settleEvent_37 rfl (fun q37 => ?_) (fun q37 => ?_)
    · have hw := hw.1 q37
      refine g_iinc (lc' := [some (vr a0), some (vr a1), some (vr a2), some (vi (x3 + (1 : Int32))), some (vi x4), none]) O dX3_settleEvent_93 rfl kv_1 rfl rfl ?_
      refine g_goto (tgt := 2) O dX3_settleEvent_96 rfl ?_
      refine g_mask [true, true, true, true, false, false] rfl rfl ?_
      exact hB2 _ _ hw
    · have hw := hw.2 q37
      refine g_aload_n O dX3_settleEvent_40 rfl ?_
      obtain ⟨c41, hw⟩ := hw
      refine gf_X3_scene O dX3_settleEvent_41 fl_X3_21 c41 ?_
      refine g_bipush O dX3_settleEvent_44 kb_6 ?_
      refine g_iload O dX3_settleEvent_46 rfl ?_
      obtain ⟨c48, hw⟩ := hw
      refine g_iastore O dX3_settleEvent_48 c48.1 c48.2 ?_
      refine g_nmH (fun h48 e48 => ?_)
      have hw := hw h48 e48
      refine g_aload_n O dX3_settleEvent_49 rfl ?_
      refine g_aload_n O dX3_settleEvent_50 rfl ?_
      refine gf_X0_whenCode O dX3_settleEvent_51 fl_X3_137 c34 ?_
      refine g_callV (As := [vi (gI h48 a2 9)]) (rest := []) O ci_3 rfl dX3_settleEvent_54 ml_X3_116 im_yX3_worth se_yX3_worth ini_X3 co_yX3_worth yo_yX3_worth c41 rfl rfl (Nat.le_of_ble_eq_true rfl) ⟨by decide, by decide, by decide, by decide⟩ (okX3_worth hw) (k_I fun r54 h54 hw => ?_)
      refine g_if_eq (tgt := 64) O dX3_settleEvent_57 rfl (fun q57 => ?_) (fun q57 => ?_)
      · have hw := hw.1 q57
        refine g_iconst O dX3_settleEvent_64 kv_0 ?_
        exact okX3_settleEvent_j65 O hB2 hB31 hw
      · have hw := hw.2 q57
        refine g_iconst O dX3_settleEvent_60 kv_1 ?_
        refine g_goto (tgt := 65) O dX3_settleEvent_61 rfl ?_
        exact okX3_settleEvent_j65 O hB2 hB31 hw
theorem okX3_settleEvent_2 {E : Ev} {X : Cx} {S : Sh} {Z : Option Nat} {Q : Hp → Prop} {a0 : Nat} {a1 : Nat} {a2 : Nat} (O : Ok E X yX3_settleEvent cX3_settleEvent 6 none 4 94 0 0 (qV S Z Q)) : ∀ (n : Nat) (h : Hp) (x3 : Int32), wX3_settleEvent_2 S a0 a1 a2 Q n h x3 → G E X 0 0 S Z h 2 [some (vr a0), some (vr a1), some (vr a2), some (vi x3), none, none] [] := by
  intro n
  induction n with
  | zero => intro h x3 hw; exact hw.elim
  | succ n hB2 =>
    intro h x3 hw
    have hw : wX3_settleEvent_2b S a0 a1 a2 Q (wX3_settleEvent_2 S a0 a1 a2 Q n) h x3 := hw
    unfold wX3_settleEvent_2b at hw
    refine g_iload_n O dX3_settleEvent_2 rfl ?_
    refine g_aload_n O dX3_settleEvent_3 rfl ?_
    obtain ⟨c4, hw⟩ := hw
    refine gf_X2_states O dX3_settleEvent_4 fl_X3_81 c4 ?_
    refine g_icmp_ge (tgt := 99) O dX3_settleEvent_7 rfl (fun q7 => ?_) (fun q7 => ?_)
    · have hw := hw.1 q7
      exact g_return O dX3_settleEvent_99 ⟨rfl, rfl, rfl, hw⟩
    · have hw := hw.2 q7
      refine g_aload_n O dX3_settleEvent_10 rfl ?_
      refine g_iload_n O dX3_settleEvent_11 rfl ?_
      obtain ⟨c12, hw⟩ := hw
      refine g_callV (As := [vi x3]) (rest := []) O ci_0 rfl dX3_settleEvent_12 ml_X3_126 im_yX0_forget se_yX0_forget ini_X0 co_yX0_forget yo_yX0_forget c12 rfl rfl (Nat.le_of_ble_eq_true rfl) ⟨by decide, by decide, by decide, by decide⟩ (okX0_forget hw) (k_V fun h12 hw => ?_)
      refine g_aload_n O dX3_settleEvent_15 rfl ?_
      refine g_iload_n O dX3_settleEvent_16 rfl ?_
      refine g_aload_n O dX3_settleEvent_17 rfl ?_
      obtain ⟨c18, hw⟩ := hw
      refine gf_X3_scene O dX3_settleEvent_18 fl_X3_21 c18 ?_
      refine g_iconst O dX3_settleEvent_21 kv_0 ?_
      refine g_callV (As := [vi x3, vr (gR h12 a0 2), vi (0 : Int32)]) (rest := []) O ci_2 rfl dX3_settleEvent_22 ml_X3_84 im_yX2_spread se_yX2_spread ini_X2 co_yX2_spread yo_yX2_spread c4 rfl rfl (Nat.le_of_ble_eq_true rfl) ⟨by decide, by decide, by decide, by decide⟩ (okX2_spread hw) (k_V fun h22 hw => ?_)
      refine g_aload_n O dX3_settleEvent_25 rfl ?_
      refine gf_X0_first O dX3_settleEvent_26 fl_X3_131 c12 ?_
      refine g_istore (lc' := [some (vr a0), some (vr a1), some (vr a2), some (vi x3), some (vi (gI h22 a2 6)), none]) O dX3_settleEvent_29 rfl (Nat.le_of_ble_eq_true rfl) rfl ?_
      obtain ⟨n31, hw⟩ := hw
      exact okX3_settleEvent_31 O hB2 n31 _ _ hw
theorem okX3_settleEvent {E : Ev} {S : Sh} {Z : Option Nat} {Q : Hp → Prop} {h : Hp} {a0 : Nat} {a1 : Nat} {a2 : Nat} (hw : wX3_settleEvent S h a0 a1 a2 Q) : Ct E yX3_settleEvent cX3_settleEvent 6 none 4 94 0 0 S Z h [vr a0, vr a1, vr a2] (qV S Z Q) := by
  refine Ct.of (by decide) (lc := [some (vr a0), some (vr a1), some (vr a2), none, none, none]) (Nat.le_of_ble_eq_true rfl) rfl (fun X O => ?_)
  unfold wX3_settleEvent at hw
  refine g_iconst O dX3_settleEvent_0 kv_0 ?_
  refine g_istore_n (lc' := [some (vr a0), some (vr a1), some (vr a2), some (vi (0 : Int32)), none, none]) O dX3_settleEvent_1 rfl (Nat.le_of_ble_eq_true rfl) rfl ?_
  obtain ⟨n2, hw⟩ := hw
  exact okX3_settleEvent_2 O n2 _ _ hw
theorem dX3_settleFirst_0 : decode cX3_settleFirst 0 = .ok (.aload_n 1, 1) := by decide +kernel
theorem dX3_settleFirst_1 : decode cX3_settleFirst 1 = .ok (.iconst 0, 1) := by decide +kernel
theorem dX3_settleFirst_2 : decode cX3_settleFirst 2 = .ok (.putfield 75, 3) := by decide +kernel
theorem dX3_settleFirst_5 : decode cX3_settleFirst 5 = .ok (.aload_n 1, 1) := by decide +kernel
theorem dX3_settleFirst_6 : decode cX3_settleFirst 6 = .ok (.iconst 0, 1) := by decide +kernel
theorem dX3_settleFirst_7 : decode cX3_settleFirst 7 = .ok (.putfield 78, 3) := by decide +kernel
theorem dX3_settleFirst_10 : decode cX3_settleFirst 10 = .ok (.iconst 0, 1) := by decide +kernel
theorem dX3_settleFirst_11 : decode cX3_settleFirst 11 = .ok (.istore_n 2, 1) := by decide +kernel
theorem dX3_settleFirst_12 : decode cX3_settleFirst 12 = .ok (.iload_n 2, 1) := by decide +kernel
theorem dX3_settleFirst_13 : decode cX3_settleFirst 13 = .ok (.aload_n 1, 1) := by decide +kernel
theorem dX3_settleFirst_14 : decode cX3_settleFirst 14 = .ok (.getfield 81, 3) := by decide +kernel
theorem dX3_settleFirst_17 : decode cX3_settleFirst 17 = .ok (.if_icmp .ge 53, 3) := by decide +kernel
theorem dX3_settleFirst_20 : decode cX3_settleFirst 20 = .ok (.aload_n 1, 1) := by decide +kernel
theorem dX3_settleFirst_21 : decode cX3_settleFirst 21 = .ok (.iload_n 2, 1) := by decide +kernel
theorem dX3_settleFirst_22 : decode cX3_settleFirst 22 = .ok (.aload_n 0, 1) := by decide +kernel
theorem dX3_settleFirst_23 : decode cX3_settleFirst 23 = .ok (.getfield 21, 3) := by decide +kernel
theorem dX3_settleFirst_26 : decode cX3_settleFirst 26 = .ok (.iconst 0, 1) := by decide +kernel
theorem dX3_settleFirst_27 : decode cX3_settleFirst 27 = .ok (.invokevirtual 84, 3) := by decide +kernel
theorem dX3_settleFirst_30 : decode cX3_settleFirst 30 = .ok (.aload_n 1, 1) := by decide +kernel
theorem dX3_settleFirst_31 : decode cX3_settleFirst 31 = .ok (.getfield 88, 3) := by decide +kernel
theorem dX3_settleFirst_34 : decode cX3_settleFirst 34 = .ok (.iload_n 2, 1) := by decide +kernel
theorem dX3_settleFirst_35 : decode cX3_settleFirst 35 = .ok (.aload_n 0, 1) := by decide +kernel
theorem dX3_settleFirst_36 : decode cX3_settleFirst 36 = .ok (.aload_n 1, 1) := by decide +kernel
theorem dX3_settleFirst_37 : decode cX3_settleFirst 37 = .ok (.invokevirtual 92, 3) := by decide +kernel
theorem dX3_settleFirst_40 : decode cX3_settleFirst 40 = .ok (.bastore, 1) := by decide +kernel
theorem dX3_settleFirst_41 : decode cX3_settleFirst 41 = .ok (.aload_n 1, 1) := by decide +kernel
theorem dX3_settleFirst_42 : decode cX3_settleFirst 42 = .ok (.dup, 1) := by decide +kernel
theorem dX3_settleFirst_43 : decode cX3_settleFirst 43 = .ok (.getfield 75, 3) := by decide +kernel
theorem dX3_settleFirst_46 : decode cX3_settleFirst 46 = .ok (.aload_n 1, 1) := by decide +kernel
theorem dX3_settleFirst_47 : decode cX3_settleFirst 47 = .ok (.getfield 88, 3) := by decide +kernel
theorem dX3_settleFirst_50 : decode cX3_settleFirst 50 = .ok (.iload_n 2, 1) := by decide +kernel
theorem dX3_settleFirst_51 : decode cX3_settleFirst 51 = .ok (.baload, 1) := by decide +kernel
theorem dX3_settleFirst_52 : decode cX3_settleFirst 52 = .ok (.ifCond .eq 7, 3) := by decide +kernel
theorem dX3_settleFirst_55 : decode cX3_settleFirst 55 = .ok (.iconst 1, 1) := by decide +kernel
theorem dX3_settleFirst_56 : decode cX3_settleFirst 56 = .ok (.goto 4, 3) := by decide +kernel
theorem dX3_settleFirst_59 : decode cX3_settleFirst 59 = .ok (.iconst 0, 1) := by decide +kernel
theorem dX3_settleFirst_60 : decode cX3_settleFirst 60 = .ok (.iadd, 1) := by decide +kernel
theorem dX3_settleFirst_61 : decode cX3_settleFirst 61 = .ok (.putfield 75, 3) := by decide +kernel
theorem dX3_settleFirst_64 : decode cX3_settleFirst 64 = .ok (.iinc 2 1, 3) := by decide +kernel
theorem dX3_settleFirst_67 : decode cX3_settleFirst 67 = .ok (.goto (-55), 3) := by decide +kernel
theorem dX3_settleFirst_70 : decode cX3_settleFirst 70 = .ok (.return_, 1) := by decide +kernel
theorem okX3_settleFirst_12 {E : Ev} {X : Cx} {S : Sh} {Z : Option Nat} {Q : Hp → Prop} {a0 : Nat} {a1 : Nat} (O : Ok E X yX3_settleFirst cX3_settleFirst 3 none 4 92 0 0 (qV S Z Q)) : ∀ (n : Nat) (h : Hp) (x2 : Int32), wX3_settleFirst_12 S a0 a1 Q n h x2 → G E X 0 0 S Z h 12 [some (vr a0), some (vr a1), some (vi x2)] [] := by
  intro n
  induction n with
  | zero => intro h x2 hw; exact hw.elim
  | succ n hB12 =>
    intro h x2 hw
    have hw : wX3_settleFirst_12b S a0 a1 Q (wX3_settleFirst_12 S a0 a1 Q n) h x2 := hw
    unfold wX3_settleFirst_12b at hw
    refine g_iload_n O dX3_settleFirst_12 rfl ?_
    refine g_aload_n O dX3_settleFirst_13 rfl ?_
    obtain ⟨c14, hw⟩ := hw
    refine gf_X2_states O dX3_settleFirst_14 fl_X3_81 c14 ?_
    refine g_icmp_ge (tgt := 70) O dX3_settleFirst_17 rfl (fun q17 => ?_) (fun q17 => ?_)
    · have hw := hw.1 q17
      exact g_return O dX3_settleFirst_70 ⟨rfl, rfl, rfl, hw⟩
    · have hw := hw.2 q17
      refine g_aload_n O dX3_settleFirst_20 rfl ?_
      refine g_iload_n O dX3_settleFirst_21 rfl ?_
      refine g_aload_n O dX3_settleFirst_22 rfl ?_
      obtain ⟨c23, hw⟩ := hw
      refine gf_X3_scene O dX3_settleFirst_23 fl_X3_21 c23 ?_
      refine g_iconst O dX3_settleFirst_26 kv_0 ?_
      refine g_callV (As := [vi x2, vr (gR h a0 2), vi (0 : Int32)]) (rest := []) O ci_2 rfl dX3_settleFirst_27 ml_X3_84 im_yX2_spread se_yX2_spread ini_X2 co_yX2_spread yo_yX2_spread c14 rfl rfl (Nat.le_of_ble_eq_true rfl) ⟨by decide, by decide, by decide, by decide⟩ (okX2_spread hw) (k_V fun h27 hw => ?_)
      refine g_aload_n O dX3_settleFirst_30 rfl ?_
      refine gf_X2_sound O dX3_settleFirst_31 fl_X3_88 c14 ?_
      refine g_iload_n O dX3_settleFirst_34 rfl ?_
      refine g_aload_n O dX3_settleFirst_35 rfl ?_
      refine g_aload_n O dX3_settleFirst_36 rfl ?_
      refine g_callV (As := [vr a1]) (rest := [vi x2, vr (gR h27 a1 6)]) O ci_3 rfl dX3_settleFirst_37 ml_X3_92 im_yX3_lawsHold se_yX3_lawsHold ini_X3 co_yX3_lawsHold yo_yX3_lawsHold c23 rfl rfl (Nat.le_of_ble_eq_true rfl) ⟨by decide, by decide, by decide, by decide⟩ (okX3_lawsHold hw) (k_I fun r37 h37 hw => ?_)
      obtain ⟨c40, hw⟩ := hw
      refine g_zastore O dX3_settleFirst_40 c40.1 c40.2 ?_
      refine g_nmH (fun h40 e40 => ?_)
      have hw := hw h40 e40
      refine g_aload_n O dX3_settleFirst_41 rfl ?_
      refine g_dup O dX3_settleFirst_42 rfl ?_
      refine gf_X2_soundStates O dX3_settleFirst_43 fl_X3_75 c14 ?_
      refine g_aload_n O dX3_settleFirst_46 rfl ?_
      refine gf_X2_sound O dX3_settleFirst_47 fl_X3_88 c14 ?_
      refine g_iload_n O dX3_settleFirst_50 rfl ?_
      obtain ⟨c51, hw⟩ := hw
      refine g_zaload O dX3_settleFirst_51 c51.1 c51.2 ?_
      refine g_if_eq (tgt := 59) O dX3_settleFirst_52 rfl (fun q52 => ?_) (fun q52 => ?_)
      · have hw := hw.1 q52
        refine g_iconst O dX3_settleFirst_59 kv_0 ?_
        refine g_iadd O dX3_settleFirst_60 ?_
        refine pf_X2_soundStates O dX3_settleFirst_61 fl_X3_75 c14 ?_
        refine g_iinc (lc' := [some (vr a0), some (vr a1), some (vi (x2 + (1 : Int32)))]) O dX3_settleFirst_64 rfl kv_1 rfl rfl ?_
        refine g_goto (tgt := 12) O dX3_settleFirst_67 rfl ?_
        exact hB12 _ _ hw
      · have hw := hw.2 q52
        refine g_iconst O dX3_settleFirst_55 kv_1 ?_
        refine g_goto (tgt := 60) O dX3_settleFirst_56 rfl ?_
        refine g_iadd O dX3_settleFirst_60 ?_
        refine pf_X2_soundStates O dX3_settleFirst_61 fl_X3_75 c14 ?_
        refine g_iinc (lc' := [some (vr a0), some (vr a1), some (vi (x2 + (1 : Int32)))]) O dX3_settleFirst_64 rfl kv_1 rfl rfl ?_
        refine g_goto (tgt := 12) O dX3_settleFirst_67 rfl ?_
        exact hB12 _ _ hw
theorem okX3_settleFirst {E : Ev} {S : Sh} {Z : Option Nat} {Q : Hp → Prop} {h : Hp} {a0 : Nat} {a1 : Nat} (hw : wX3_settleFirst S h a0 a1 Q) : Ct E yX3_settleFirst cX3_settleFirst 3 none 4 92 0 0 S Z h [vr a0, vr a1] (qV S Z Q) := by
  refine Ct.of (by decide) (lc := [some (vr a0), some (vr a1), none]) (Nat.le_of_ble_eq_true rfl) rfl (fun X O => ?_)
  unfold wX3_settleFirst at hw
  refine g_aload_n O dX3_settleFirst_0 rfl ?_
  refine g_iconst O dX3_settleFirst_1 kv_0 ?_
  obtain ⟨c2, hw⟩ := hw
  refine pf_X2_soundStates O dX3_settleFirst_2 fl_X3_75 c2 ?_
  refine g_nmH (fun h2 e2 => ?_)
  have hw := hw h2 e2
  refine g_aload_n O dX3_settleFirst_5 rfl ?_
  refine g_iconst O dX3_settleFirst_6 kv_0 ?_
  refine pf_X2_pairs O dX3_settleFirst_7 fl_X3_78 c2 ?_
  refine g_iconst O dX3_settleFirst_10 kv_0 ?_
  refine g_istore_n (lc' := [some (vr a0), some (vr a1), some (vi (0 : Int32))]) O dX3_settleFirst_11 rfl (Nat.le_of_ble_eq_true rfl) rfl ?_
  obtain ⟨n12, hw⟩ := hw
  exact okX3_settleFirst_12 O n12 _ _ hw
theorem dX7_count_0 : decode cX7_count 0 = .ok (.aload_n 0, 1) := by decide +kernel
theorem dX7_count_1 : decode cX7_count 1 = .ok (.getfield 9, 3) := by decide +kernel
theorem dX7_count_4 : decode cX7_count 4 = .ok (.invokestatic 18, 3) := by decide +kernel
theorem dX7_count_7 : decode cX7_count 7 = .ok (.aload_n 0, 1) := by decide +kernel
theorem dX7_count_8 : decode cX7_count 8 = .ok (.getfield 15, 3) := by decide +kernel
theorem dX7_count_11 : decode cX7_count 11 = .ok (.invokestatic 18, 3) := by decide +kernel
theorem dX7_count_14 : decode cX7_count 14 = .ok (.iadd, 1) := by decide +kernel
theorem dX7_count_15 : decode cX7_count 15 = .ok (.ireturn, 1) := by decide +kernel
theorem okX7_count {E : Ev} {S : Sh} {Z : Option Nat} {Q : Int32 → Hp → Prop} {h : Hp} {a0 : Nat} (hw : wX7_count S h a0 Q) : Ct E yX7_count cX7_count 1 (some .int) 2 45 0 0 S Z h [vr a0] (qI S Z Q) := by
  refine Ct.of (by decide) (lc := [some (vr a0)]) (Nat.le_of_ble_eq_true rfl) rfl (fun X O => ?_)
  unfold wX7_count at hw
  refine g_aload_n O dX7_count_0 rfl ?_
  obtain ⟨c1, hw⟩ := hw
  refine gf_X7_low O dX7_count_1 fl_X7_9 c1 ?_
  refine g_callS (As := [vj (gJ h a0 0)]) (rest := []) O dX7_count_4 ml_X7_18 st_yJ13_bitCount_95d88 ini_J13 co_yJ13_bitCount_95d88 yo_yJ13_bitCount_95d88 rfl rfl (Nat.le_of_ble_eq_true rfl) ⟨by decide, by decide, by decide, by decide⟩ (okJ13_bitCount_95d88 hw) (k_I fun r4 h4 hw => ?_)
  refine g_aload_n O dX7_count_7 rfl ?_
  refine gf_X7_high O dX7_count_8 fl_X7_15 c1 ?_
  refine g_callS (As := [vj (gJ h4 a0 1)]) (rest := [vi r4]) O dX7_count_11 ml_X7_18 st_yJ13_bitCount_95d88 ini_J13 co_yJ13_bitCount_95d88 yo_yJ13_bitCount_95d88 rfl rfl (Nat.le_of_ble_eq_true rfl) ⟨by decide, by decide, by decide, by decide⟩ (okJ13_bitCount_95d88 hw) (k_I fun r11 h11 hw => ?_)
  refine g_iadd O dX7_count_14 ?_
  exact g_ireturn O dX7_count_15 ⟨rfl, rfl, _, rfl, hw⟩
theorem dX3_settleGlue_0 : decode cX3_settleGlue 0 = .ok (.aload_n 2, 1) := by decide +kernel
theorem dX3_settleGlue_1 : decode cX3_settleGlue 1 = .ok (.iconst 0, 1) := by decide +kernel
theorem dX3_settleGlue_2 : decode cX3_settleGlue 2 = .ok (.putfield 75, 3) := by decide +kernel
theorem dX3_settleGlue_5 : decode cX3_settleGlue 5 = .ok (.aload_n 2, 1) := by decide +kernel
theorem dX3_settleGlue_6 : decode cX3_settleGlue 6 = .ok (.iconst 0, 1) := by decide +kernel
theorem dX3_settleGlue_7 : decode cX3_settleGlue 7 = .ok (.putfield 78, 3) := by decide +kernel
theorem dX3_settleGlue_10 : decode cX3_settleGlue 10 = .ok (.iconst 0, 1) := by decide +kernel
theorem dX3_settleGlue_11 : decode cX3_settleGlue 11 = .ok (.istore_n 3, 1) := by decide +kernel
theorem dX3_settleGlue_12 : decode cX3_settleGlue 12 = .ok (.iload_n 3, 1) := by decide +kernel
theorem dX3_settleGlue_13 : decode cX3_settleGlue 13 = .ok (.aload_n 2, 1) := by decide +kernel
theorem dX3_settleGlue_14 : decode cX3_settleGlue 14 = .ok (.getfield 81, 3) := by decide +kernel
theorem dX3_settleGlue_17 : decode cX3_settleGlue 17 = .ok (.if_icmp .ge 142, 3) := by decide +kernel
theorem dX3_settleGlue_20 : decode cX3_settleGlue 20 = .ok (.aload_n 2, 1) := by decide +kernel
theorem dX3_settleGlue_21 : decode cX3_settleGlue 21 = .ok (.getfield 96, 3) := by decide +kernel
theorem dX3_settleGlue_24 : decode cX3_settleGlue 24 = .ok (.iload_n 3, 1) := by decide +kernel
theorem dX3_settleGlue_25 : decode cX3_settleGlue 25 = .ok (.aaload, 1) := by decide +kernel
theorem dX3_settleGlue_26 : decode cX3_settleGlue 26 = .ok (.astore 4, 2) := by decide +kernel
theorem dX3_settleGlue_28 : decode cX3_settleGlue 28 = .ok (.aload 4, 2) := by decide +kernel
theorem dX3_settleGlue_30 : decode cX3_settleGlue 30 = .ok (.invokevirtual 100, 3) := by decide +kernel
theorem dX3_settleGlue_33 : decode cX3_settleGlue 33 = .ok (.aload_n 2, 1) := by decide +kernel
theorem dX3_settleGlue_34 : decode cX3_settleGlue 34 = .ok (.iload_n 3, 1) := by decide +kernel
theorem dX3_settleGlue_35 : decode cX3_settleGlue 35 = .ok (.aload_n 0, 1) := by decide +kernel
theorem dX3_settleGlue_36 : decode cX3_settleGlue 36 = .ok (.getfield 21, 3) := by decide +kernel
theorem dX3_settleGlue_39 : decode cX3_settleGlue 39 = .ok (.iconst 0, 1) := by decide +kernel
theorem dX3_settleGlue_40 : decode cX3_settleGlue 40 = .ok (.invokevirtual 84, 3) := by decide +kernel
theorem dX3_settleGlue_43 : decode cX3_settleGlue 43 = .ok (.iconst 0, 1) := by decide +kernel
theorem dX3_settleGlue_44 : decode cX3_settleGlue 44 = .ok (.istore 5, 2) := by decide +kernel
theorem dX3_settleGlue_46 : decode cX3_settleGlue 46 = .ok (.iload 5, 2) := by decide +kernel
theorem dX3_settleGlue_48 : decode cX3_settleGlue 48 = .ok (.aload_n 1, 1) := by decide +kernel
theorem dX3_settleGlue_49 : decode cX3_settleGlue 49 = .ok (.getfield 81, 3) := by decide +kernel
theorem dX3_settleGlue_52 : decode cX3_settleGlue 52 = .ok (.if_icmp .ge 48, 3) := by decide +kernel
theorem dX3_settleGlue_55 : decode cX3_settleGlue 55 = .ok (.aload_n 1, 1) := by decide +kernel
theorem dX3_settleGlue_56 : decode cX3_settleGlue 56 = .ok (.getfield 88, 3) := by decide +kernel
theorem dX3_settleGlue_59 : decode cX3_settleGlue 59 = .ok (.iload 5, 2) := by decide +kernel
theorem dX3_settleGlue_61 : decode cX3_settleGlue 61 = .ok (.baload, 1) := by decide +kernel
theorem dX3_settleGlue_62 : decode cX3_settleGlue 62 = .ok (.ifCond .ne 6, 3) := by decide +kernel
theorem dX3_settleGlue_65 : decode cX3_settleGlue 65 = .ok (.goto 29, 3) := by decide +kernel
theorem dX3_settleGlue_68 : decode cX3_settleGlue 68 = .ok (.aload_n 1, 1) := by decide +kernel
theorem dX3_settleGlue_69 : decode cX3_settleGlue 69 = .ok (.iload 5, 2) := by decide +kernel
theorem dX3_settleGlue_71 : decode cX3_settleGlue 71 = .ok (.aload_n 0, 1) := by decide +kernel
theorem dX3_settleGlue_72 : decode cX3_settleGlue 72 = .ok (.getfield 21, 3) := by decide +kernel
theorem dX3_settleGlue_75 : decode cX3_settleGlue 75 = .ok (.iconst 3, 1) := by decide +kernel
theorem dX3_settleGlue_76 : decode cX3_settleGlue 76 = .ok (.invokevirtual 84, 3) := by decide +kernel
theorem dX3_settleGlue_79 : decode cX3_settleGlue 79 = .ok (.aload_n 0, 1) := by decide +kernel
theorem dX3_settleGlue_80 : decode cX3_settleGlue 80 = .ok (.aload_n 2, 1) := by decide +kernel
theorem dX3_settleGlue_81 : decode cX3_settleGlue 81 = .ok (.invokevirtual 92, 3) := by decide +kernel
theorem dX3_settleGlue_84 : decode cX3_settleGlue 84 = .ok (.ifCond .eq 10, 3) := by decide +kernel
theorem dX3_settleGlue_87 : decode cX3_settleGlue 87 = .ok (.aload 4, 2) := by decide +kernel
theorem dX3_settleGlue_89 : decode cX3_settleGlue 89 = .ok (.iload 5, 2) := by decide +kernel
theorem dX3_settleGlue_91 : decode cX3_settleGlue 91 = .ok (.invokevirtual 103, 3) := by decide +kernel
theorem dX3_settleGlue_94 : decode cX3_settleGlue 94 = .ok (.iinc 5 1, 3) := by decide +kernel
theorem dX3_settleGlue_97 : decode cX3_settleGlue 97 = .ok (.goto (-51), 3) := by decide +kernel
theorem dX3_settleGlue_100 : decode cX3_settleGlue 100 = .ok (.aload 4, 2) := by decide +kernel
theorem dX3_settleGlue_102 : decode cX3_settleGlue 102 = .ok (.invokevirtual 107, 3) := by decide +kernel
theorem dX3_settleGlue_105 : decode cX3_settleGlue 105 = .ok (.istore 5, 2) := by decide +kernel
theorem dX3_settleGlue_107 : decode cX3_settleGlue 107 = .ok (.aload_n 2, 1) := by decide +kernel
theorem dX3_settleGlue_108 : decode cX3_settleGlue 108 = .ok (.dup, 1) := by decide +kernel
theorem dX3_settleGlue_109 : decode cX3_settleGlue 109 = .ok (.getfield 78, 3) := by decide +kernel
theorem dX3_settleGlue_112 : decode cX3_settleGlue 112 = .ok (.iload 5, 2) := by decide +kernel
theorem dX3_settleGlue_114 : decode cX3_settleGlue 114 = .ok (.iadd, 1) := by decide +kernel
theorem dX3_settleGlue_115 : decode cX3_settleGlue 115 = .ok (.putfield 78, 3) := by decide +kernel
theorem dX3_settleGlue_118 : decode cX3_settleGlue 118 = .ok (.aload_n 2, 1) := by decide +kernel
theorem dX3_settleGlue_119 : decode cX3_settleGlue 119 = .ok (.getfield 88, 3) := by decide +kernel
theorem dX3_settleGlue_122 : decode cX3_settleGlue 122 = .ok (.iload_n 3, 1) := by decide +kernel
theorem dX3_settleGlue_123 : decode cX3_settleGlue 123 = .ok (.iload 5, 2) := by decide +kernel
theorem dX3_settleGlue_125 : decode cX3_settleGlue 125 = .ok (.ifCond .le 7, 3) := by decide +kernel
theorem dX3_settleGlue_128 : decode cX3_settleGlue 128 = .ok (.iconst 1, 1) := by decide +kernel
theorem dX3_settleGlue_129 : decode cX3_settleGlue 129 = .ok (.goto 4, 3) := by decide +kernel
theorem dX3_settleGlue_132 : decode cX3_settleGlue 132 = .ok (.iconst 0, 1) := by decide +kernel
theorem dX3_settleGlue_133 : decode cX3_settleGlue 133 = .ok (.bastore, 1) := by decide +kernel
theorem dX3_settleGlue_134 : decode cX3_settleGlue 134 = .ok (.aload_n 2, 1) := by decide +kernel
theorem dX3_settleGlue_135 : decode cX3_settleGlue 135 = .ok (.dup, 1) := by decide +kernel
theorem dX3_settleGlue_136 : decode cX3_settleGlue 136 = .ok (.getfield 75, 3) := by decide +kernel
theorem dX3_settleGlue_139 : decode cX3_settleGlue 139 = .ok (.iload 5, 2) := by decide +kernel
theorem dX3_settleGlue_141 : decode cX3_settleGlue 141 = .ok (.ifCond .le 7, 3) := by decide +kernel
theorem dX3_settleGlue_144 : decode cX3_settleGlue 144 = .ok (.iconst 1, 1) := by decide +kernel
theorem dX3_settleGlue_145 : decode cX3_settleGlue 145 = .ok (.goto 4, 3) := by decide +kernel
theorem dX3_settleGlue_148 : decode cX3_settleGlue 148 = .ok (.iconst 0, 1) := by decide +kernel
theorem dX3_settleGlue_149 : decode cX3_settleGlue 149 = .ok (.iadd, 1) := by decide +kernel
theorem dX3_settleGlue_150 : decode cX3_settleGlue 150 = .ok (.putfield 75, 3) := by decide +kernel
theorem dX3_settleGlue_153 : decode cX3_settleGlue 153 = .ok (.iinc 3 1, 3) := by decide +kernel
theorem dX3_settleGlue_156 : decode cX3_settleGlue 156 = .ok (.goto (-144), 3) := by decide +kernel
theorem dX3_settleGlue_159 : decode cX3_settleGlue 159 = .ok (.return_, 1) := by decide +kernel
theorem okX3_settleGlue_j133 {E : Ev} {X : Cx} {S : Sh} {Z : Option Nat} {Q : Hp → Prop} {B12 : Hp → Int32 → Prop} {h : Hp} {a0 : Nat} {a1 : Nat} {a2 : Nat} {x3 : Int32} {x5 : Int32} {s0 : Nat} {s1 : Int32} {s2 : Int32} (O : Ok E X yX3_settleGlue cX3_settleGlue 6 none 4 92 0 0 (qV S Z Q)) (hB12 : ∀ (h : Hp) (x3 : Int32), B12 h x3 → G E X 0 0 S Z h 12 [some (vr a0), some (vr a1), some (vr a2), some (vi x3), none, none] []) (hw : wX3_settleGlue_j133 S B12 h a0 a1 a2 x3 x5 s0 s1 s2 Q) : G E X 0 0 S Z h 133 [some (vr a0), some (vr a1), some (vr a2), some (vi x3), none, some (vi x5)] [vi s2, vi s1, vr s0] := by
  unfold wX3_settleGlue_j133 at hw
  obtain ⟨c133, hw⟩ := hw
  refine g_zastore O dX3_settleGlue_133 c133.1 c133.2 ?_
  refine g_nmH (fun h133 e133 => ?_)
  have hw := hw h133 e133
  refine g_aload_n O dX3_settleGlue_134 rfl ?_
  refine g_dup O dX3_settleGlue_135 rfl ?_
  obtain ⟨c136, hw⟩ := hw
  refine gf_X2_soundStates O dX3_settleGlue_136 fl_X3_75 c136 ?_
  refine g_iload O dX3_settleGlue_139 rfl ?_
  refine g_if_le (tgt := 148) O dX3_settleGlue_141 rfl (fun q141 => ?_) (fun q141 => ?_)
  · have hw := hw.1 q141
    refine g_iconst O dX3_settleGlue_148 kv_0 ?_
    refine g_iadd O dX3_settleGlue_149 ?_
    refine pf_X2_soundStates O dX3_settleGlue_150 fl_X3_75 c136 ?_
    refine g_iinc (lc' := [some (vr a0), some (vr a1), some (vr a2), some (vi (x3 + (1 : Int32))), none, some (vi x5)]) O dX3_settleGlue_153 rfl kv_1 rfl rfl ?_
    refine g_goto (tgt := 12) O dX3_settleGlue_156 rfl ?_
    refine g_mask [true, true, true, true, false, false] rfl rfl ?_
    exact hB12 _ _ hw
  · have hw := hw.2 q141
    refine g_iconst O dX3_settleGlue_144 kv_1 ?_
    refine g_goto (tgt := 149) O dX3_settleGlue_145 rfl ?_
    refine g_iadd O dX3_settleGlue_149 ?_
    refine pf_X2_soundStates O dX3_settleGlue_150 fl_X3_75 c136 ?_
    refine g_iinc (lc' := [some (vr a0), some (vr a1), some (vr a2), some (vi (x3 + (1 : Int32))), none, some (vi x5)]) O dX3_settleGlue_153 rfl kv_1 rfl rfl ?_
    refine g_goto (tgt := 12) O dX3_settleGlue_156 rfl ?_
    refine g_mask [true, true, true, true, false, false] rfl rfl ?_
    exact hB12 _ _ hw
theorem okX3_settleGlue_j100 {E : Ev} {X : Cx} {S : Sh} {Z : Option Nat} {Q : Hp → Prop} {B12 : Hp → Int32 → Prop} {h : Hp} {a0 : Nat} {a1 : Nat} {a2 : Nat} {x3 : Int32} {a4 : Nat} (O : Ok E X yX3_settleGlue cX3_settleGlue 6 none 4 92 0 0 (qV S Z Q)) (hB12 : ∀ (h : Hp) (x3 : Int32), B12 h x3 → G E X 0 0 S Z h 12 [some (vr a0), some (vr a1), some (vr a2), some (vi x3), none, none] []) (hw : wX3_settleGlue_j100 S B12 h a0 a1 a2 x3 a4 Q) : G E X 0 0 S Z h 100 [some (vr a0), some (vr a1), some (vr a2), some (vi x3), some (vr a4), none] [] := by
  unfold wX3_settleGlue_j100 at hw
  refine g_aload O dX3_settleGlue_100 rfl ?_
  obtain ⟨c102, hw⟩ := hw
  refine g_callV (As := []) (rest := []) O ci_7 rfl dX3_settleGlue_102 ml_X3_107 im_yX7_count se_yX7_count ini_X7 co_yX7_count yo_yX7_count c102 rfl rfl (Nat.le_of_ble_eq_true rfl) ⟨by decide, by decide, by decide, by decide⟩ (okX7_count hw) (k_I fun r102 h102 hw => ?_)
  refine g_istore (lc' := [some (vr a0), some (vr a1), some (vr a2), some (vi x3), some (vr a4), some (vi r102)]) O dX3_settleGlue_105 rfl (Nat.le_of_ble_eq_true rfl) rfl ?_
  refine g_aload_n O dX3_settleGlue_107 rfl ?_
  refine g_dup O dX3_settleGlue_108 rfl ?_
  obtain ⟨c109, hw⟩ := hw
  refine gf_X2_pairs O dX3_settleGlue_109 fl_X3_78 c109 ?_
  refine g_iload O dX3_settleGlue_112 rfl ?_
  refine g_iadd O dX3_settleGlue_114 ?_
  refine pf_X2_pairs O dX3_settleGlue_115 fl_X3_78 c109 ?_
  refine g_nmH (fun h115 e115 => ?_)
  have hw := hw h115 e115
  refine g_aload_n O dX3_settleGlue_118 rfl ?_
  refine gf_X2_sound O dX3_settleGlue_119 fl_X3_88 c109 ?_
  refine g_iload_n O dX3_settleGlue_122 rfl ?_
  refine g_iload O dX3_settleGlue_123 rfl ?_
  refine g_if_le (tgt := 132) O dX3_settleGlue_125 rfl (fun q125 => ?_) (fun q125 => ?_)
  · have hw := hw.1 q125
    refine g_iconst O dX3_settleGlue_132 kv_0 ?_
    refine g_mask [true, true, true, true, false, true] rfl rfl ?_
    exact okX3_settleGlue_j133 O hB12 hw
  · have hw := hw.2 q125
    refine g_iconst O dX3_settleGlue_128 kv_1 ?_
    refine g_goto (tgt := 133) O dX3_settleGlue_129 rfl ?_
    refine g_mask [true, true, true, true, false, true] rfl rfl ?_
    exact okX3_settleGlue_j133 O hB12 hw
theorem okX3_settleGlue_46 {E : Ev} {X : Cx} {S : Sh} {Z : Option Nat} {Q : Hp → Prop} {B12 : Hp → Int32 → Prop} {a0 : Nat} {a1 : Nat} {a2 : Nat} {x3 : Int32} {a4 : Nat} (O : Ok E X yX3_settleGlue cX3_settleGlue 6 none 4 92 0 0 (qV S Z Q)) (hB12 : ∀ (h : Hp) (x3 : Int32), B12 h x3 → G E X 0 0 S Z h 12 [some (vr a0), some (vr a1), some (vr a2), some (vi x3), none, none] []) : ∀ (n : Nat) (h : Hp) (x5 : Int32), wX3_settleGlue_46 S B12 a0 a1 a2 x3 a4 Q n h x5 → G E X 0 0 S Z h 46 [some (vr a0), some (vr a1), some (vr a2), some (vi x3), some (vr a4), some (vi x5)] [] := by
  intro n
  induction n with
  | zero => intro h x5 hw; exact hw.elim
  | succ n hB46 =>
    intro h x5 hw
    have hw : wX3_settleGlue_46b S B12 a0 a1 a2 x3 a4 Q (wX3_settleGlue_46 S B12 a0 a1 a2 x3 a4 Q n) h x5 := hw
    unfold wX3_settleGlue_46b at hw
    refine g_iload O dX3_settleGlue_46 rfl ?_
    refine g_aload_n O dX3_settleGlue_48 rfl ?_
    obtain ⟨c49, hw⟩ := hw
    refine gf_X2_states O dX3_settleGlue_49 fl_X3_81 c49 ?_
    refine g_icmp_ge (tgt := 100) O dX3_settleGlue_52 rfl (fun q52 => ?_) (fun q52 => ?_)
    · have hw := hw.1 q52
      refine g_mask [true, true, true, true, true, false] rfl rfl ?_
      exact okX3_settleGlue_j100 O hB12 hw
    · have hw := hw.2 q52
      refine g_aload_n O dX3_settleGlue_55 rfl ?_
      refine gf_X2_sound O dX3_settleGlue_56 fl_X3_88 c49 ?_
      refine g_iload O dX3_settleGlue_59 rfl ?_
      obtain ⟨c61, hw⟩ := hw
      refine g_zaload O dX3_settleGlue_61 c61.1 c61.2 ?_
      refine g_if_ne (tgt := 68) O dX3_settleGlue_62 rfl (fun q62 => ?_) (fun q62 => ?_)
      · have hw := hw.1 q62
        refine g_aload_n O dX3_settleGlue_68 rfl ?_
        refine g_iload O dX3_settleGlue_69 rfl ?_
        refine g_aload_n O dX3_settleGlue_71 rfl ?_
        obtain ⟨c72, hw⟩ := hw
        refine gf_X3_scene O dX3_settleGlue_72 fl_X3_21 c72 ?_
        refine g_iconst O dX3_settleGlue_75 kv_3 ?_
        refine g_callV (As := [vi x5, vr (gR h a0 2), vi (3 : Int32)]) (rest := []) O ci_2 rfl dX3_settleGlue_76 ml_X3_84 im_yX2_spread se_yX2_spread ini_X2 co_yX2_spread yo_yX2_spread c49 rfl rfl (Nat.le_of_ble_eq_true rfl) ⟨by decide, by decide, by decide, by decide⟩ (okX2_spread hw) (k_V fun h76 hw => ?_)
        refine g_aload_n O dX3_settleGlue_79 rfl ?_
        refine g_aload_n O dX3_settleGlue_80 rfl ?_
        refine g_callV (As := [vr a2]) (rest := []) O ci_3 rfl dX3_settleGlue_81 ml_X3_92 im_yX3_lawsHold se_yX3_lawsHold ini_X3 co_yX3_lawsHold yo_yX3_lawsHold c72 rfl rfl (Nat.le_of_ble_eq_true rfl) ⟨by decide, by decide, by decide, by decide⟩ (okX3_lawsHold hw) (k_I fun r81 h81 hw => ?_)
        refine g_if_eq (tgt := 94) O dX3_settleGlue_84 rfl (fun q84 => ?_) (fun q84 => ?_)
        · have hw := hw.1 q84
          refine g_iinc (lc' := [some (vr a0), some (vr a1), some (vr a2), some (vi x3), some (vr a4), some (vi (x5 + (1 : Int32)))]) O dX3_settleGlue_94 rfl kv_1 rfl rfl ?_
          refine g_goto (tgt := 46) O dX3_settleGlue_97 rfl ?_
          exact hB46 _ _ hw
        · have hw := hw.2 q84
          refine g_aload O dX3_settleGlue_87 rfl ?_
          refine g_iload O dX3_settleGlue_89 rfl ?_
          obtain ⟨c91, hw⟩ := hw
          refine g_callV (As := [vi x5]) (rest := []) O ci_7 rfl dX3_settleGlue_91 ml_X3_103 im_yX7_put se_yX7_put ini_X7 co_yX7_put yo_yX7_put c91 rfl rfl (Nat.le_of_ble_eq_true rfl) ⟨by decide, by decide, by decide, by decide⟩ (okX7_put hw) (k_V fun h91 hw => ?_)
          refine g_iinc (lc' := [some (vr a0), some (vr a1), some (vr a2), some (vi x3), some (vr a4), some (vi (x5 + (1 : Int32)))]) O dX3_settleGlue_94 rfl kv_1 rfl rfl ?_
          refine g_goto (tgt := 46) O dX3_settleGlue_97 rfl ?_
          exact hB46 _ _ hw
      · have hw := hw.2 q62
        refine g_goto (tgt := 94) O dX3_settleGlue_65 rfl ?_
        refine g_iinc (lc' := [some (vr a0), some (vr a1), some (vr a2), some (vi x3), some (vr a4), some (vi (x5 + (1 : Int32)))]) O dX3_settleGlue_94 rfl kv_1 rfl rfl ?_
        refine g_goto (tgt := 46) O dX3_settleGlue_97 rfl ?_
        exact hB46 _ _ hw
theorem okX3_settleGlue_12 {E : Ev} {X : Cx} {S : Sh} {Z : Option Nat} {Q : Hp → Prop} {a0 : Nat} {a1 : Nat} {a2 : Nat} (O : Ok E X yX3_settleGlue cX3_settleGlue 6 none 4 92 0 0 (qV S Z Q)) : ∀ (n : Nat) (h : Hp) (x3 : Int32), wX3_settleGlue_12 S a0 a1 a2 Q n h x3 → G E X 0 0 S Z h 12 [some (vr a0), some (vr a1), some (vr a2), some (vi x3), none, none] [] := by
  intro n
  induction n with
  | zero => intro h x3 hw; exact hw.elim
  | succ n hB12 =>
    intro h x3 hw
    have hw : wX3_settleGlue_12b S a0 a1 a2 Q (wX3_settleGlue_12 S a0 a1 a2 Q n) h x3 := hw
    unfold wX3_settleGlue_12b at hw
    refine g_iload_n O dX3_settleGlue_12 rfl ?_
    refine g_aload_n O dX3_settleGlue_13 rfl ?_
    obtain ⟨c14, hw⟩ := hw
    refine gf_X2_states O dX3_settleGlue_14 fl_X3_81 c14 ?_
    refine g_icmp_ge (tgt := 159) O dX3_settleGlue_17 rfl (fun q17 => ?_) (fun q17 => ?_)
    · have hw := hw.1 q17
      exact g_return O dX3_settleGlue_159 ⟨rfl, rfl, rfl, hw⟩
    · have hw := hw.2 q17
      refine g_aload_n O dX3_settleGlue_20 rfl ?_
      refine gf_X2_glue O dX3_settleGlue_21 fl_X3_96 c14 ?_
      refine g_iload_n O dX3_settleGlue_24 rfl ?_
      obtain ⟨c25, hw⟩ := hw
      refine g_aaload (t := 2) (C := "FinerSteps$StateSet") O rfl dX3_settleGlue_25 c25.1 c25.2 ?_
      refine g_nmR (fun av26 e26 => ?_)
      have hw := hw av26 e26
      refine g_astore (lc' := [some (vr a0), some (vr a1), some (vr a2), some (vi x3), some (vr av26), none]) O dX3_settleGlue_26 rfl (Nat.le_of_ble_eq_true rfl) rfl ?_
      refine g_aload O dX3_settleGlue_28 rfl ?_
      obtain ⟨c30, hw⟩ := hw
      refine g_callV (As := []) (rest := []) O ci_7 rfl dX3_settleGlue_30 ml_X3_100 im_yX7_clear se_yX7_clear ini_X7 co_yX7_clear yo_yX7_clear c30 rfl rfl (Nat.le_of_ble_eq_true rfl) ⟨by decide, by decide, by decide, by decide⟩ (okX7_clear hw) (k_V fun h30 hw => ?_)
      refine g_aload_n O dX3_settleGlue_33 rfl ?_
      refine g_iload_n O dX3_settleGlue_34 rfl ?_
      refine g_aload_n O dX3_settleGlue_35 rfl ?_
      obtain ⟨c36, hw⟩ := hw
      refine gf_X3_scene O dX3_settleGlue_36 fl_X3_21 c36 ?_
      refine g_iconst O dX3_settleGlue_39 kv_0 ?_
      refine g_callV (As := [vi x3, vr (gR h30 a0 2), vi (0 : Int32)]) (rest := []) O ci_2 rfl dX3_settleGlue_40 ml_X3_84 im_yX2_spread se_yX2_spread ini_X2 co_yX2_spread yo_yX2_spread c14 rfl rfl (Nat.le_of_ble_eq_true rfl) ⟨by decide, by decide, by decide, by decide⟩ (okX2_spread hw) (k_V fun h40 hw => ?_)
      refine g_iconst O dX3_settleGlue_43 kv_0 ?_
      refine g_istore (lc' := [some (vr a0), some (vr a1), some (vr a2), some (vi x3), some (vr av26), some (vi (0 : Int32))]) O dX3_settleGlue_44 rfl (Nat.le_of_ble_eq_true rfl) rfl ?_
      obtain ⟨n46, hw⟩ := hw
      exact okX3_settleGlue_46 O hB12 n46 _ _ hw
theorem okX3_settleGlue {E : Ev} {S : Sh} {Z : Option Nat} {Q : Hp → Prop} {h : Hp} {a0 : Nat} {a1 : Nat} {a2 : Nat} (hw : wX3_settleGlue S h a0 a1 a2 Q) : Ct E yX3_settleGlue cX3_settleGlue 6 none 4 92 0 0 S Z h [vr a0, vr a1, vr a2] (qV S Z Q) := by
  refine Ct.of (by decide) (lc := [some (vr a0), some (vr a1), some (vr a2), none, none, none]) (Nat.le_of_ble_eq_true rfl) rfl (fun X O => ?_)
  unfold wX3_settleGlue at hw
  refine g_aload_n O dX3_settleGlue_0 rfl ?_
  refine g_iconst O dX3_settleGlue_1 kv_0 ?_
  obtain ⟨c2, hw⟩ := hw
  refine pf_X2_soundStates O dX3_settleGlue_2 fl_X3_75 c2 ?_
  refine g_nmH (fun h2 e2 => ?_)
  have hw := hw h2 e2
  refine g_aload_n O dX3_settleGlue_5 rfl ?_
  refine g_iconst O dX3_settleGlue_6 kv_0 ?_
  refine pf_X2_pairs O dX3_settleGlue_7 fl_X3_78 c2 ?_
  refine g_iconst O dX3_settleGlue_10 kv_0 ?_
  refine g_istore_n (lc' := [some (vr a0), some (vr a1), some (vr a2), some (vi (0 : Int32)), none, none]) O dX3_settleGlue_11 rfl (Nat.le_of_ble_eq_true rfl) rfl ?_
  obtain ⟨n12, hw⟩ := hw
  exact okX3_settleGlue_12 O n12 _ _ hw
theorem dX3_settleVariants_0 : decode cX3_settleVariants 0 = .ok (.aload_n 1, 1) := by decide +kernel
theorem dX3_settleVariants_1 : decode cX3_settleVariants 1 = .ok (.getfield 120, 3) := by decide +kernel
theorem dX3_settleVariants_4 : decode cX3_settleVariants 4 = .ok (.iconst (-1), 1) := by decide +kernel
theorem dX3_settleVariants_5 : decode cX3_settleVariants 5 = .ok (.if_icmp .ne 4, 3) := by decide +kernel
theorem dX3_settleVariants_8 : decode cX3_settleVariants 8 = .ok (.return_, 1) := by decide +kernel
theorem dX3_settleVariants_9 : decode cX3_settleVariants 9 = .ok (.iconst 0, 1) := by decide +kernel
theorem dX3_settleVariants_10 : decode cX3_settleVariants 10 = .ok (.istore_n 2, 1) := by decide +kernel
theorem dX3_settleVariants_11 : decode cX3_settleVariants 11 = .ok (.iload_n 2, 1) := by decide +kernel
theorem dX3_settleVariants_12 : decode cX3_settleVariants 12 = .ok (.aload_n 1, 1) := by decide +kernel
theorem dX3_settleVariants_13 : decode cX3_settleVariants 13 = .ok (.getfield 81, 3) := by decide +kernel
theorem dX3_settleVariants_16 : decode cX3_settleVariants 16 = .ok (.if_icmp .ge 33, 3) := by decide +kernel
theorem dX3_settleVariants_19 : decode cX3_settleVariants 19 = .ok (.aload_n 1, 1) := by decide +kernel
theorem dX3_settleVariants_20 : decode cX3_settleVariants 20 = .ok (.iload_n 2, 1) := by decide +kernel
theorem dX3_settleVariants_21 : decode cX3_settleVariants 21 = .ok (.aload_n 0, 1) := by decide +kernel
theorem dX3_settleVariants_22 : decode cX3_settleVariants 22 = .ok (.getfield 21, 3) := by decide +kernel
theorem dX3_settleVariants_25 : decode cX3_settleVariants 25 = .ok (.iconst 0, 1) := by decide +kernel
theorem dX3_settleVariants_26 : decode cX3_settleVariants 26 = .ok (.invokevirtual 84, 3) := by decide +kernel
theorem dX3_settleVariants_29 : decode cX3_settleVariants 29 = .ok (.aload_n 1, 1) := by decide +kernel
theorem dX3_settleVariants_30 : decode cX3_settleVariants 30 = .ok (.getfield 123, 3) := by decide +kernel
theorem dX3_settleVariants_33 : decode cX3_settleVariants 33 = .ok (.iload_n 2, 1) := by decide +kernel
theorem dX3_settleVariants_34 : decode cX3_settleVariants 34 = .ok (.aload_n 0, 1) := by decide +kernel
theorem dX3_settleVariants_35 : decode cX3_settleVariants 35 = .ok (.aload_n 1, 1) := by decide +kernel
theorem dX3_settleVariants_36 : decode cX3_settleVariants 36 = .ok (.getfield 120, 3) := by decide +kernel
theorem dX3_settleVariants_39 : decode cX3_settleVariants 39 = .ok (.invokevirtual 116, 3) := by decide +kernel
theorem dX3_settleVariants_42 : decode cX3_settleVariants 42 = .ok (.iastore, 1) := by decide +kernel
theorem dX3_settleVariants_43 : decode cX3_settleVariants 43 = .ok (.iinc 2 1, 3) := by decide +kernel
theorem dX3_settleVariants_46 : decode cX3_settleVariants 46 = .ok (.goto (-35), 3) := by decide +kernel
theorem dX3_settleVariants_49 : decode cX3_settleVariants 49 = .ok (.return_, 1) := by decide +kernel
theorem okX3_settleVariants_11 {E : Ev} {X : Cx} {S : Sh} {Z : Option Nat} {Q : Hp → Prop} {a0 : Nat} {a1 : Nat} (O : Ok E X yX3_settleVariants cX3_settleVariants 3 none 3 71 0 0 (qV S Z Q)) : ∀ (n : Nat) (h : Hp) (x2 : Int32), wX3_settleVariants_11 S a0 a1 Q n h x2 → G E X 0 0 S Z h 11 [some (vr a0), some (vr a1), some (vi x2)] [] := by
  intro n
  induction n with
  | zero => intro h x2 hw; exact hw.elim
  | succ n hB11 =>
    intro h x2 hw
    have hw : wX3_settleVariants_11b S a0 a1 Q (wX3_settleVariants_11 S a0 a1 Q n) h x2 := hw
    unfold wX3_settleVariants_11b at hw
    refine g_iload_n O dX3_settleVariants_11 rfl ?_
    refine g_aload_n O dX3_settleVariants_12 rfl ?_
    obtain ⟨c13, hw⟩ := hw
    refine gf_X2_states O dX3_settleVariants_13 fl_X3_81 c13 ?_
    refine g_icmp_ge (tgt := 49) O dX3_settleVariants_16 rfl (fun q16 => ?_) (fun q16 => ?_)
    · have hw := hw.1 q16
      exact g_return O dX3_settleVariants_49 ⟨rfl, rfl, rfl, hw⟩
    · have hw := hw.2 q16
      refine g_aload_n O dX3_settleVariants_19 rfl ?_
      refine g_iload_n O dX3_settleVariants_20 rfl ?_
      refine g_aload_n O dX3_settleVariants_21 rfl ?_
      obtain ⟨c22, hw⟩ := hw
      refine gf_X3_scene O dX3_settleVariants_22 fl_X3_21 c22 ?_
      refine g_iconst O dX3_settleVariants_25 kv_0 ?_
      refine g_callV (As := [vi x2, vr (gR h a0 2), vi (0 : Int32)]) (rest := []) O ci_2 rfl dX3_settleVariants_26 ml_X3_84 im_yX2_spread se_yX2_spread ini_X2 co_yX2_spread yo_yX2_spread c13 rfl rfl (Nat.le_of_ble_eq_true rfl) ⟨by decide, by decide, by decide, by decide⟩ (okX2_spread hw) (k_V fun h26 hw => ?_)
      refine g_aload_n O dX3_settleVariants_29 rfl ?_
      refine gf_X2_variants O dX3_settleVariants_30 fl_X3_123 c13 ?_
      refine g_iload_n O dX3_settleVariants_33 rfl ?_
      refine g_aload_n O dX3_settleVariants_34 rfl ?_
      refine g_aload_n O dX3_settleVariants_35 rfl ?_
      refine gf_X2_variantCode O dX3_settleVariants_36 fl_X3_120 c13 ?_
      refine g_callV (As := [vi (gI h26 a1 15)]) (rest := [vi x2, vr (gR h26 a1 8)]) O ci_3 rfl dX3_settleVariants_39 ml_X3_116 im_yX3_worth se_yX3_worth ini_X3 co_yX3_worth yo_yX3_worth c22 rfl rfl (Nat.le_of_ble_eq_true rfl) ⟨by decide, by decide, by decide, by decide⟩ (okX3_worth hw) (k_I fun r39 h39 hw => ?_)
      obtain ⟨c42, hw⟩ := hw
      refine g_iastore O dX3_settleVariants_42 c42.1 c42.2 ?_
      refine g_iinc (lc' := [some (vr a0), some (vr a1), some (vi (x2 + (1 : Int32)))]) O dX3_settleVariants_43 rfl kv_1 rfl rfl ?_
      refine g_goto (tgt := 11) O dX3_settleVariants_46 rfl ?_
      exact hB11 _ _ hw
theorem okX3_settleVariants {E : Ev} {S : Sh} {Z : Option Nat} {Q : Hp → Prop} {h : Hp} {a0 : Nat} {a1 : Nat} (hw : wX3_settleVariants S h a0 a1 Q) : Ct E yX3_settleVariants cX3_settleVariants 3 none 3 71 0 0 S Z h [vr a0, vr a1] (qV S Z Q) := by
  refine Ct.of (by decide) (lc := [some (vr a0), some (vr a1), none]) (Nat.le_of_ble_eq_true rfl) rfl (fun X O => ?_)
  unfold wX3_settleVariants at hw
  refine g_aload_n O dX3_settleVariants_0 rfl ?_
  obtain ⟨c1, hw⟩ := hw
  refine gf_X2_variantCode O dX3_settleVariants_1 fl_X3_120 c1 ?_
  refine g_iconst O dX3_settleVariants_4 kv_m1 ?_
  refine g_icmp_ne (tgt := 9) O dX3_settleVariants_5 rfl (fun q5 => ?_) (fun q5 => ?_)
  · have hw := hw.1 q5
    refine g_iconst O dX3_settleVariants_9 kv_0 ?_
    refine g_istore_n (lc' := [some (vr a0), some (vr a1), some (vi (0 : Int32))]) O dX3_settleVariants_10 rfl (Nat.le_of_ble_eq_true rfl) rfl ?_
    obtain ⟨n11, hw⟩ := hw
    exact okX3_settleVariants_11 O n11 _ _ hw
  · have hw := hw.2 q5
    exact g_return O dX3_settleVariants_8 ⟨rfl, rfl, rfl, hw⟩
theorem dX3_settle_0 : decode cX3_settle 0 = .ok (.iconst 0, 1) := by decide +kernel
theorem dX3_settle_1 : decode cX3_settle 1 = .ok (.istore_n 1, 1) := by decide +kernel
theorem dX3_settle_2 : decode cX3_settle 2 = .ok (.iload_n 1, 1) := by decide +kernel
theorem dX3_settle_3 : decode cX3_settle 3 = .ok (.aload_n 0, 1) := by decide +kernel
theorem dX3_settle_4 : decode cX3_settle 4 = .ok (.getfield 31, 3) := by decide +kernel
theorem dX3_settle_7 : decode cX3_settle 7 = .ok (.if_icmp .ge 96, 3) := by decide +kernel
theorem dX3_settle_10 : decode cX3_settle 10 = .ok (.iload_n 1, 1) := by decide +kernel
theorem dX3_settle_11 : decode cX3_settle 11 = .ok (.ifCond .ne 16, 3) := by decide +kernel
theorem dX3_settle_14 : decode cX3_settle 14 = .ok (.aload_n 0, 1) := by decide +kernel
theorem dX3_settle_15 : decode cX3_settle 15 = .ok (.aload_n 0, 1) := by decide +kernel
theorem dX3_settle_16 : decode cX3_settle 16 = .ok (.getfield 11, 3) := by decide +kernel
theorem dX3_settle_19 : decode cX3_settle 19 = .ok (.iconst 0, 1) := by decide +kernel
theorem dX3_settle_20 : decode cX3_settle 20 = .ok (.aaload, 1) := by decide +kernel
theorem dX3_settle_21 : decode cX3_settle 21 = .ok (.invokevirtual 42, 3) := by decide +kernel
theorem dX3_settle_24 : decode cX3_settle 24 = .ok (.goto 21, 3) := by decide +kernel
theorem dX3_settle_27 : decode cX3_settle 27 = .ok (.aload_n 0, 1) := by decide +kernel
theorem dX3_settle_28 : decode cX3_settle 28 = .ok (.aload_n 0, 1) := by decide +kernel
theorem dX3_settle_29 : decode cX3_settle 29 = .ok (.getfield 11, 3) := by decide +kernel
theorem dX3_settle_32 : decode cX3_settle 32 = .ok (.iload_n 1, 1) := by decide +kernel
theorem dX3_settle_33 : decode cX3_settle 33 = .ok (.iconst 1, 1) := by decide +kernel
theorem dX3_settle_34 : decode cX3_settle 34 = .ok (.isub, 1) := by decide +kernel
theorem dX3_settle_35 : decode cX3_settle 35 = .ok (.aaload, 1) := by decide +kernel
theorem dX3_settle_36 : decode cX3_settle 36 = .ok (.aload_n 0, 1) := by decide +kernel
theorem dX3_settle_37 : decode cX3_settle 37 = .ok (.getfield 11, 3) := by decide +kernel
theorem dX3_settle_40 : decode cX3_settle 40 = .ok (.iload_n 1, 1) := by decide +kernel
theorem dX3_settle_41 : decode cX3_settle 41 = .ok (.aaload, 1) := by decide +kernel
theorem dX3_settle_42 : decode cX3_settle 42 = .ok (.invokevirtual 46, 3) := by decide +kernel
theorem dX3_settle_45 : decode cX3_settle 45 = .ok (.aload_n 0, 1) := by decide +kernel
theorem dX3_settle_46 : decode cX3_settle 46 = .ok (.aload_n 0, 1) := by decide +kernel
theorem dX3_settle_47 : decode cX3_settle 47 = .ok (.getfield 11, 3) := by decide +kernel
theorem dX3_settle_50 : decode cX3_settle 50 = .ok (.iload_n 1, 1) := by decide +kernel
theorem dX3_settle_51 : decode cX3_settle 51 = .ok (.aaload, 1) := by decide +kernel
theorem dX3_settle_52 : decode cX3_settle 52 = .ok (.invokevirtual 50, 3) := by decide +kernel
theorem dX3_settle_55 : decode cX3_settle 55 = .ok (.iconst 0, 1) := by decide +kernel
theorem dX3_settle_56 : decode cX3_settle 56 = .ok (.istore_n 2, 1) := by decide +kernel
theorem dX3_settle_57 : decode cX3_settle 57 = .ok (.iload_n 2, 1) := by decide +kernel
theorem dX3_settle_58 : decode cX3_settle 58 = .ok (.aload_n 0, 1) := by decide +kernel
theorem dX3_settle_59 : decode cX3_settle 59 = .ok (.getfield 11, 3) := by decide +kernel
theorem dX3_settle_62 : decode cX3_settle 62 = .ok (.iload_n 1, 1) := by decide +kernel
theorem dX3_settle_63 : decode cX3_settle 63 = .ok (.aaload, 1) := by decide +kernel
theorem dX3_settle_64 : decode cX3_settle 64 = .ok (.getfield 53, 3) := by decide +kernel
theorem dX3_settle_67 : decode cX3_settle 67 = .ok (.if_icmp .ge 30, 3) := by decide +kernel
theorem dX3_settle_70 : decode cX3_settle 70 = .ok (.aload_n 0, 1) := by decide +kernel
theorem dX3_settle_71 : decode cX3_settle 71 = .ok (.aload_n 0, 1) := by decide +kernel
theorem dX3_settle_72 : decode cX3_settle 72 = .ok (.getfield 11, 3) := by decide +kernel
theorem dX3_settle_75 : decode cX3_settle 75 = .ok (.iload_n 1, 1) := by decide +kernel
theorem dX3_settle_76 : decode cX3_settle 76 = .ok (.aaload, 1) := by decide +kernel
theorem dX3_settle_77 : decode cX3_settle 77 = .ok (.aload_n 0, 1) := by decide +kernel
theorem dX3_settle_78 : decode cX3_settle 78 = .ok (.getfield 11, 3) := by decide +kernel
theorem dX3_settle_81 : decode cX3_settle 81 = .ok (.iload_n 1, 1) := by decide +kernel
theorem dX3_settle_82 : decode cX3_settle 82 = .ok (.aaload, 1) := by decide +kernel
theorem dX3_settle_83 : decode cX3_settle 83 = .ok (.getfield 56, 3) := by decide +kernel
theorem dX3_settle_86 : decode cX3_settle 86 = .ok (.iload_n 2, 1) := by decide +kernel
theorem dX3_settle_87 : decode cX3_settle 87 = .ok (.aaload, 1) := by decide +kernel
theorem dX3_settle_88 : decode cX3_settle 88 = .ok (.invokevirtual 60, 3) := by decide +kernel
theorem dX3_settle_91 : decode cX3_settle 91 = .ok (.iinc 2 1, 3) := by decide +kernel
theorem dX3_settle_94 : decode cX3_settle 94 = .ok (.goto (-37), 3) := by decide +kernel
theorem dX3_settle_97 : decode cX3_settle 97 = .ok (.iinc 1 1, 3) := by decide +kernel
theorem dX3_settle_100 : decode cX3_settle 100 = .ok (.goto (-98), 3) := by decide +kernel
theorem dX3_settle_103 : decode cX3_settle 103 = .ok (.aload_n 0, 1) := by decide +kernel
theorem dX3_settle_104 : decode cX3_settle 104 = .ok (.invokevirtual 64, 3) := by decide +kernel
theorem dX3_settle_107 : decode cX3_settle 107 = .ok (.return_, 1) := by decide +kernel
theorem okX3_settle_57 {E : Ev} {X : Cx} {S : Sh} {Z : Option Nat} {Q : Hp → Prop} {B2 : Hp → Int32 → Prop} {a0 : Nat} {x1 : Int32} (O : Ok E X yX3_settle cX3_settle 3 none 5 119 0 0 (qV S Z Q)) (hB2 : ∀ (h : Hp) (x1 : Int32), B2 h x1 → G E X 0 0 S Z h 2 [some (vr a0), some (vi x1), none] []) : ∀ (n : Nat) (h : Hp) (x2 : Int32), wX3_settle_57 S B2 a0 x1 Q n h x2 → G E X 0 0 S Z h 57 [some (vr a0), some (vi x1), some (vi x2)] [] := by
  intro n
  induction n with
  | zero => intro h x2 hw; exact hw.elim
  | succ n hB57 =>
    intro h x2 hw
    have hw : wX3_settle_57b S B2 a0 x1 Q (wX3_settle_57 S B2 a0 x1 Q n) h x2 := hw
    unfold wX3_settle_57b at hw
    refine g_iload_n O dX3_settle_57 rfl ?_
    refine g_aload_n O dX3_settle_58 rfl ?_
    obtain ⟨c59, hw⟩ := hw
    refine gf_X3_machines O dX3_settle_59 fl_X3_11 c59 ?_
    refine g_iload_n O dX3_settle_62 rfl ?_
    obtain ⟨c63, hw⟩ := hw
    refine g_aaload (t := 1) (C := "FinerSteps$Machine") O rfl dX3_settle_63 c63.1 c63.2 ?_
    obtain ⟨c64, hw⟩ := hw
    refine gf_X2_events O dX3_settle_64 fl_X3_53 c64 ?_
    refine g_icmp_ge (tgt := 97) O dX3_settle_67 rfl (fun q67 => ?_) (fun q67 => ?_)
    · have hw := hw.1 q67
      refine g_iinc (lc' := [some (vr a0), some (vi (x1 + (1 : Int32))), some (vi x2)]) O dX3_settle_97 rfl kv_1 rfl rfl ?_
      refine g_goto (tgt := 2) O dX3_settle_100 rfl ?_
      refine g_mask [true, true, false] rfl rfl ?_
      exact hB2 _ _ hw
    · have hw := hw.2 q67
      refine g_aload_n O dX3_settle_70 rfl ?_
      refine g_aload_n O dX3_settle_71 rfl ?_
      refine gf_X3_machines O dX3_settle_72 fl_X3_11 c59 ?_
      refine g_iload_n O dX3_settle_75 rfl ?_
      refine g_aaload (t := 1) (C := "FinerSteps$Machine") O rfl dX3_settle_76 c63.1 c63.2 ?_
      refine g_aload_n O dX3_settle_77 rfl ?_
      refine gf_X3_machines O dX3_settle_78 fl_X3_11 c59 ?_
      refine g_iload_n O dX3_settle_81 rfl ?_
      refine g_aaload (t := 1) (C := "FinerSteps$Machine") O rfl dX3_settle_82 c63.1 c63.2 ?_
      refine gf_X2_event O dX3_settle_83 fl_X3_56 c64 ?_
      refine g_iload_n O dX3_settle_86 rfl ?_
      obtain ⟨c87, hw⟩ := hw
      refine g_aaload (t := 0) (C := "FinerSteps$Event") O rfl dX3_settle_87 c87.1 c87.2 ?_
      refine g_callV (As := [vr ((gR h (gR h a0 0) (ix x1))), vr ((gR h ((gR h ((gR h (gR h a0 0) (ix x1))) 5)) (ix x2)))]) (rest := []) O ci_3 rfl dX3_settle_88 ml_X3_60 im_yX3_settleEvent se_yX3_settleEvent ini_X3 co_yX3_settleEvent yo_yX3_settleEvent c59 rfl rfl (Nat.le_of_ble_eq_true rfl) ⟨by decide, by decide, by decide, by decide⟩ (okX3_settleEvent hw) (k_V fun h88 hw => ?_)
      refine g_iinc (lc' := [some (vr a0), some (vi x1), some (vi (x2 + (1 : Int32)))]) O dX3_settle_91 rfl kv_1 rfl rfl ?_
      refine g_goto (tgt := 57) O dX3_settle_94 rfl ?_
      exact hB57 _ _ hw
theorem okX3_settle_j45 {E : Ev} {X : Cx} {S : Sh} {Z : Option Nat} {Q : Hp → Prop} {B2 : Hp → Int32 → Prop} {h : Hp} {a0 : Nat} {x1 : Int32} (O : Ok E X yX3_settle cX3_settle 3 none 5 119 0 0 (qV S Z Q)) (hB2 : ∀ (h : Hp) (x1 : Int32), B2 h x1 → G E X 0 0 S Z h 2 [some (vr a0), some (vi x1), none] []) (hw : wX3_settle_j45 S B2 h a0 x1 Q) : G E X 0 0 S Z h 45 [some (vr a0), some (vi x1), none] [] := by
  unfold wX3_settle_j45 at hw
  refine g_aload_n O dX3_settle_45 rfl ?_
  refine g_aload_n O dX3_settle_46 rfl ?_
  obtain ⟨c47, hw⟩ := hw
  refine gf_X3_machines O dX3_settle_47 fl_X3_11 c47 ?_
  refine g_iload_n O dX3_settle_50 rfl ?_
  obtain ⟨c51, hw⟩ := hw
  refine g_aaload (t := 1) (C := "FinerSteps$Machine") O rfl dX3_settle_51 c51.1 c51.2 ?_
  refine g_callV (As := [vr ((gR h (gR h a0 0) (ix x1)))]) (rest := []) O ci_3 rfl dX3_settle_52 ml_X3_50 im_yX3_settleVariants se_yX3_settleVariants ini_X3 co_yX3_settleVariants yo_yX3_settleVariants c47 rfl rfl (Nat.le_of_ble_eq_true rfl) ⟨by decide, by decide, by decide, by decide⟩ (okX3_settleVariants hw) (k_V fun h52 hw => ?_)
  refine g_iconst O dX3_settle_55 kv_0 ?_
  refine g_istore_n (lc' := [some (vr a0), some (vi x1), some (vi (0 : Int32))]) O dX3_settle_56 rfl (Nat.le_of_ble_eq_true rfl) rfl ?_
  obtain ⟨n57, hw⟩ := hw
  exact okX3_settle_57 O hB2 n57 _ _ hw
theorem okX3_settle_2 {E : Ev} {X : Cx} {S : Sh} {Z : Option Nat} {Q : Hp → Prop} {a0 : Nat} (O : Ok E X yX3_settle cX3_settle 3 none 5 119 0 0 (qV S Z Q)) : ∀ (n : Nat) (h : Hp) (x1 : Int32), wX3_settle_2 S a0 Q n h x1 → G E X 0 0 S Z h 2 [some (vr a0), some (vi x1), none] [] := by
  intro n
  induction n with
  | zero => intro h x1 hw; exact hw.elim
  | succ n hB2 =>
    intro h x1 hw
    have hw : wX3_settle_2b S a0 Q (wX3_settle_2 S a0 Q n) h x1 := hw
    unfold wX3_settle_2b at hw
    refine g_iload_n O dX3_settle_2 rfl ?_
    refine g_aload_n O dX3_settle_3 rfl ?_
    obtain ⟨c4, hw⟩ := hw
    refine gf_X3_count O dX3_settle_4 fl_X3_31 c4 ?_
    refine g_icmp_ge (tgt := 103) O dX3_settle_7 rfl (fun q7 => ?_) (fun q7 => ?_)
    · have hw := hw.1 q7
      refine g_aload_n O dX3_settle_103 rfl ?_
      refine g_callV (As := []) (rest := []) O ci_3 rfl dX3_settle_104 ml_X3_64 im_yX3_forgetVerdicts se_yX3_forgetVerdicts ini_X3 co_yX3_forgetVerdicts yo_yX3_forgetVerdicts c4 rfl rfl (Nat.le_of_ble_eq_true rfl) ⟨by decide, by decide, by decide, by decide⟩ (okX3_forgetVerdicts hw) (k_V fun h104 hw => ?_)
      exact g_return O dX3_settle_107 ⟨rfl, rfl, rfl, hw⟩
    · have hw := hw.2 q7
      refine g_iload_n O dX3_settle_10 rfl ?_
      refine g_if_ne (tgt := 27) O dX3_settle_11 rfl (fun q11 => ?_) (fun q11 => ?_)
      · have hw := hw.1 q11
        refine g_aload_n O dX3_settle_27 rfl ?_
        refine g_aload_n O dX3_settle_28 rfl ?_
        refine gf_X3_machines O dX3_settle_29 fl_X3_11 c4 ?_
        refine g_iload_n O dX3_settle_32 rfl ?_
        refine g_iconst O dX3_settle_33 kv_1 ?_
        refine g_isub O dX3_settle_34 ?_
        obtain ⟨c35, hw⟩ := hw
        refine g_aaload (t := 1) (C := "FinerSteps$Machine") O rfl dX3_settle_35 c35.1 c35.2 ?_
        refine g_aload_n O dX3_settle_36 rfl ?_
        refine gf_X3_machines O dX3_settle_37 fl_X3_11 c4 ?_
        refine g_iload_n O dX3_settle_40 rfl ?_
        obtain ⟨c41, hw⟩ := hw
        refine g_aaload (t := 1) (C := "FinerSteps$Machine") O rfl dX3_settle_41 c41.1 c41.2 ?_
        refine g_callV (As := [vr ((gR h (gR h a0 0) (ix ((x1 - (1 : Int32)))))), vr ((gR h (gR h a0 0) (ix x1)))]) (rest := []) O ci_3 rfl dX3_settle_42 ml_X3_46 im_yX3_settleGlue se_yX3_settleGlue ini_X3 co_yX3_settleGlue yo_yX3_settleGlue c4 rfl rfl (Nat.le_of_ble_eq_true rfl) ⟨by decide, by decide, by decide, by decide⟩ (okX3_settleGlue hw) (k_V fun h42 hw => ?_)
        exact okX3_settle_j45 O hB2 hw
      · have hw := hw.2 q11
        refine g_aload_n O dX3_settle_14 rfl ?_
        refine g_aload_n O dX3_settle_15 rfl ?_
        refine gf_X3_machines O dX3_settle_16 fl_X3_11 c4 ?_
        refine g_iconst O dX3_settle_19 kv_0 ?_
        obtain ⟨c20, hw⟩ := hw
        refine g_aaload (t := 1) (C := "FinerSteps$Machine") O rfl dX3_settle_20 c20.1 c20.2 ?_
        refine g_callV (As := [vr ((gR h (gR h a0 0) (ix (0 : Int32))))]) (rest := []) O ci_3 rfl dX3_settle_21 ml_X3_42 im_yX3_settleFirst se_yX3_settleFirst ini_X3 co_yX3_settleFirst yo_yX3_settleFirst c4 rfl rfl (Nat.le_of_ble_eq_true rfl) ⟨by decide, by decide, by decide, by decide⟩ (okX3_settleFirst hw) (k_V fun h21 hw => ?_)
        refine g_goto (tgt := 45) O dX3_settle_24 rfl ?_
        exact okX3_settle_j45 O hB2 hw
theorem okX3_settle {E : Ev} {S : Sh} {Z : Option Nat} {Q : Hp → Prop} {h : Hp} {a0 : Nat} (hw : wX3_settle S h a0 Q) : Ct E yX3_settle cX3_settle 3 none 5 119 0 0 S Z h [vr a0] (qV S Z Q) := by
  refine Ct.of (by decide) (lc := [some (vr a0), none, none]) (Nat.le_of_ble_eq_true rfl) rfl (fun X O => ?_)
  unfold wX3_settle at hw
  refine g_iconst O dX3_settle_0 kv_0 ?_
  refine g_istore_n (lc' := [some (vr a0), some (vi (0 : Int32)), none]) O dX3_settle_1 rfl (Nat.le_of_ble_eq_true rfl) rfl ?_
  obtain ⟨n2, hw⟩ := hw
  exact okX3_settle_2 O n2 _ _ hw
theorem dX4_countUnsound_0 : decode cX4_countUnsound 0 = .ok (.iconst 0, 1) := by decide +kernel
theorem dX4_countUnsound_1 : decode cX4_countUnsound 1 = .ok (.istore_n 2, 1) := by decide +kernel
theorem dX4_countUnsound_2 : decode cX4_countUnsound 2 = .ok (.iconst 0, 1) := by decide +kernel
theorem dX4_countUnsound_3 : decode cX4_countUnsound 3 = .ok (.istore_n 3, 1) := by decide +kernel
theorem dX4_countUnsound_4 : decode cX4_countUnsound 4 = .ok (.iload_n 3, 1) := by decide +kernel
theorem dX4_countUnsound_5 : decode cX4_countUnsound 5 = .ok (.aload_n 1, 1) := by decide +kernel
theorem dX4_countUnsound_6 : decode cX4_countUnsound 6 = .ok (.getfield 59, 3) := by decide +kernel
theorem dX4_countUnsound_9 : decode cX4_countUnsound 9 = .ok (.if_icmp .ge 32, 3) := by decide +kernel
theorem dX4_countUnsound_12 : decode cX4_countUnsound 12 = .ok (.aload_n 0, 1) := by decide +kernel
theorem dX4_countUnsound_13 : decode cX4_countUnsound 13 = .ok (.getfield 9, 3) := by decide +kernel
theorem dX4_countUnsound_16 : decode cX4_countUnsound 16 = .ok (.iload_n 3, 1) := by decide +kernel
theorem dX4_countUnsound_17 : decode cX4_countUnsound 17 = .ok (.iaload, 1) := by decide +kernel
theorem dX4_countUnsound_18 : decode cX4_countUnsound 18 = .ok (.bipush (-2), 2) := by decide +kernel
theorem dX4_countUnsound_20 : decode cX4_countUnsound 20 = .ok (.if_icmp .eq 15, 3) := by decide +kernel
theorem dX4_countUnsound_23 : decode cX4_countUnsound 23 = .ok (.aload_n 1, 1) := by decide +kernel
theorem dX4_countUnsound_24 : decode cX4_countUnsound 24 = .ok (.getfield 65, 3) := by decide +kernel
theorem dX4_countUnsound_27 : decode cX4_countUnsound 27 = .ok (.iload_n 3, 1) := by decide +kernel
theorem dX4_countUnsound_28 : decode cX4_countUnsound 28 = .ok (.baload, 1) := by decide +kernel
theorem dX4_countUnsound_29 : decode cX4_countUnsound 29 = .ok (.ifCond .ne 6, 3) := by decide +kernel
theorem dX4_countUnsound_32 : decode cX4_countUnsound 32 = .ok (.iinc 2 1, 3) := by decide +kernel
theorem dX4_countUnsound_35 : decode cX4_countUnsound 35 = .ok (.iinc 3 1, 3) := by decide +kernel
theorem dX4_countUnsound_38 : decode cX4_countUnsound 38 = .ok (.goto (-34), 3) := by decide +kernel
theorem dX4_countUnsound_41 : decode cX4_countUnsound 41 = .ok (.iload_n 2, 1) := by decide +kernel
theorem dX4_countUnsound_42 : decode cX4_countUnsound 42 = .ok (.ireturn, 1) := by decide +kernel
theorem okX4_countUnsound_4 {E : Ev} {X : Cx} {S : Sh} {Z : Option Nat} {Q : Int32 → Hp → Prop} {a0 : Nat} {a1 : Nat} (O : Ok E X yX4_countUnsound cX4_countUnsound 4 (some .int) 1 24 0 0 (qI S Z Q)) : ∀ (n : Nat) (h : Hp) (x2 : Int32) (x3 : Int32), wX4_countUnsound_4 S a0 a1 Q n h x2 x3 → G E X 0 0 S Z h 4 [some (vr a0), some (vr a1), some (vi x2), some (vi x3)] [] := by
  intro n
  induction n with
  | zero => intro h x2 x3 hw; exact hw.elim
  | succ n hB4 =>
    intro h x2 x3 hw
    have hw : wX4_countUnsound_4b S a0 a1 Q (wX4_countUnsound_4 S a0 a1 Q n) h x2 x3 := hw
    unfold wX4_countUnsound_4b at hw
    refine g_iload_n O dX4_countUnsound_4 rfl ?_
    refine g_aload_n O dX4_countUnsound_5 rfl ?_
    obtain ⟨c6, hw⟩ := hw
    refine gf_X2_states O dX4_countUnsound_6 fl_X4_59 c6 ?_
    refine g_icmp_ge (tgt := 41) O dX4_countUnsound_9 rfl (fun q9 => ?_) (fun q9 => ?_)
    · have hw := hw.1 q9
      refine g_iload_n O dX4_countUnsound_41 rfl ?_
      exact g_ireturn O dX4_countUnsound_42 ⟨rfl, rfl, _, rfl, hw⟩
    · have hw := hw.2 q9
      refine g_aload_n O dX4_countUnsound_12 rfl ?_
      obtain ⟨c13, hw⟩ := hw
      refine gf_X4_far O dX4_countUnsound_13 fl_X4_9 c13 ?_
      refine g_iload_n O dX4_countUnsound_16 rfl ?_
      obtain ⟨c17, hw⟩ := hw
      refine g_iaload O dX4_countUnsound_17 c17.1 c17.2 ?_
      refine g_bipush O dX4_countUnsound_18 kb_m2 ?_
      refine g_icmp_eq (tgt := 35) O dX4_countUnsound_20 rfl (fun q20 => ?_) (fun q20 => ?_)
      · have hw := hw.1 q20
        refine g_iinc (lc' := [some (vr a0), some (vr a1), some (vi x2), some (vi (x3 + (1 : Int32)))]) O dX4_countUnsound_35 rfl kv_1 rfl rfl ?_
        refine g_goto (tgt := 4) O dX4_countUnsound_38 rfl ?_
        exact hB4 _ _ _ hw
      · have hw := hw.2 q20
        refine g_aload_n O dX4_countUnsound_23 rfl ?_
        refine gf_X2_sound O dX4_countUnsound_24 fl_X4_65 c6 ?_
        refine g_iload_n O dX4_countUnsound_27 rfl ?_
        obtain ⟨c28, hw⟩ := hw
        refine g_zaload O dX4_countUnsound_28 c28.1 c28.2 ?_
        refine g_if_ne (tgt := 35) O dX4_countUnsound_29 rfl (fun q29 => ?_) (fun q29 => ?_)
        · have hw := hw.1 q29
          refine g_iinc (lc' := [some (vr a0), some (vr a1), some (vi x2), some (vi (x3 + (1 : Int32)))]) O dX4_countUnsound_35 rfl kv_1 rfl rfl ?_
          refine g_goto (tgt := 4) O dX4_countUnsound_38 rfl ?_
          exact hB4 _ _ _ hw
        · have hw := hw.2 q29
          refine g_iinc (lc' := [some (vr a0), some (vr a1), some (vi (x2 + (1 : Int32))), some (vi x3)]) O dX4_countUnsound_32 rfl kv_1 rfl rfl ?_
          refine g_iinc (lc' := [some (vr a0), some (vr a1), some (vi (x2 + (1 : Int32))), some (vi (x3 + (1 : Int32)))]) O dX4_countUnsound_35 rfl kv_1 rfl rfl ?_
          refine g_goto (tgt := 4) O dX4_countUnsound_38 rfl ?_
          exact hB4 _ _ _ hw
theorem okX4_countUnsound {E : Ev} {S : Sh} {Z : Option Nat} {Q : Int32 → Hp → Prop} {h : Hp} {a0 : Nat} {a1 : Nat} (hw : wX4_countUnsound S h a0 a1 Q) : Ct E yX4_countUnsound cX4_countUnsound 4 (some .int) 1 24 0 0 S Z h [vr a0, vr a1] (qI S Z Q) := by
  refine Ct.of (by decide) (lc := [some (vr a0), some (vr a1), none, none]) (Nat.le_of_ble_eq_true rfl) rfl (fun X O => ?_)
  unfold wX4_countUnsound at hw
  refine g_iconst O dX4_countUnsound_0 kv_0 ?_
  refine g_istore_n (lc' := [some (vr a0), some (vr a1), some (vi (0 : Int32)), none]) O dX4_countUnsound_1 rfl (Nat.le_of_ble_eq_true rfl) rfl ?_
  refine g_iconst O dX4_countUnsound_2 kv_0 ?_
  refine g_istore_n (lc' := [some (vr a0), some (vr a1), some (vi (0 : Int32)), some (vi (0 : Int32))]) O dX4_countUnsound_3 rfl (Nat.le_of_ble_eq_true rfl) rfl ?_
  obtain ⟨n4, hw⟩ := hw
  exact okX4_countUnsound_4 O n4 _ _ _ hw
theorem dX4_reachState_0 : decode cX4_reachState 0 = .ok (.iload_n 1, 1) := by decide +kernel
theorem dX4_reachState_1 : decode cX4_reachState 1 = .ok (.ifCond .lt 50, 3) := by decide +kernel
theorem dX4_reachState_4 : decode cX4_reachState 4 = .ok (.aload_n 0, 1) := by decide +kernel
theorem dX4_reachState_5 : decode cX4_reachState 5 = .ok (.getfield 9, 3) := by decide +kernel
theorem dX4_reachState_8 : decode cX4_reachState 8 = .ok (.iload_n 1, 1) := by decide +kernel
theorem dX4_reachState_9 : decode cX4_reachState 9 = .ok (.iaload, 1) := by decide +kernel
theorem dX4_reachState_10 : decode cX4_reachState 10 = .ok (.bipush (-2), 2) := by decide +kernel
theorem dX4_reachState_12 : decode cX4_reachState 12 = .ok (.if_icmp .ne 39, 3) := by decide +kernel
theorem dX4_reachState_15 : decode cX4_reachState 15 = .ok (.aload_n 0, 1) := by decide +kernel
theorem dX4_reachState_16 : decode cX4_reachState 16 = .ok (.getfield 24, 3) := by decide +kernel
theorem dX4_reachState_19 : decode cX4_reachState 19 = .ok (.bipush 100, 2) := by decide +kernel
theorem dX4_reachState_21 : decode cX4_reachState 21 = .ok (.if_icmp .ge 30, 3) := by decide +kernel
theorem dX4_reachState_24 : decode cX4_reachState 24 = .ok (.aload_n 0, 1) := by decide +kernel
theorem dX4_reachState_25 : decode cX4_reachState 25 = .ok (.getfield 9, 3) := by decide +kernel
theorem dX4_reachState_28 : decode cX4_reachState 28 = .ok (.iload_n 1, 1) := by decide +kernel
theorem dX4_reachState_29 : decode cX4_reachState 29 = .ok (.iload_n 2, 1) := by decide +kernel
theorem dX4_reachState_30 : decode cX4_reachState 30 = .ok (.iastore, 1) := by decide +kernel
theorem dX4_reachState_31 : decode cX4_reachState 31 = .ok (.aload_n 0, 1) := by decide +kernel
theorem dX4_reachState_32 : decode cX4_reachState 32 = .ok (.getfield 15, 3) := by decide +kernel
theorem dX4_reachState_35 : decode cX4_reachState 35 = .ok (.aload_n 0, 1) := by decide +kernel
theorem dX4_reachState_36 : decode cX4_reachState 36 = .ok (.getfield 24, 3) := by decide +kernel
theorem dX4_reachState_39 : decode cX4_reachState 39 = .ok (.iload_n 1, 1) := by decide +kernel
theorem dX4_reachState_40 : decode cX4_reachState 40 = .ok (.iastore, 1) := by decide +kernel
theorem dX4_reachState_41 : decode cX4_reachState 41 = .ok (.aload_n 0, 1) := by decide +kernel
theorem dX4_reachState_42 : decode cX4_reachState 42 = .ok (.dup, 1) := by decide +kernel
theorem dX4_reachState_43 : decode cX4_reachState 43 = .ok (.getfield 24, 3) := by decide +kernel
theorem dX4_reachState_46 : decode cX4_reachState 46 = .ok (.iconst 1, 1) := by decide +kernel
theorem dX4_reachState_47 : decode cX4_reachState 47 = .ok (.iadd, 1) := by decide +kernel
theorem dX4_reachState_48 : decode cX4_reachState 48 = .ok (.putfield 24, 3) := by decide +kernel
theorem dX4_reachState_51 : decode cX4_reachState 51 = .ok (.return_, 1) := by decide +kernel
theorem okX4_reachState {E : Ev} {S : Sh} {Z : Option Nat} {Q : Hp → Prop} {h : Hp} {a0 : Nat} {x1 : Int32} {x2 : Int32} (hw : wX4_reachState S h a0 x1 x2 Q) : Ct E yX4_reachState cX4_reachState 3 none 1 24 0 0 S Z h [vr a0, vi x1, vi x2] (qV S Z Q) := by
  refine Ct.of (by decide) (lc := [some (vr a0), some (vi x1), some (vi x2)]) (Nat.le_of_ble_eq_true rfl) rfl (fun X O => ?_)
  unfold wX4_reachState at hw
  refine g_iload_n O dX4_reachState_0 rfl ?_
  refine g_if_lt (tgt := 51) O dX4_reachState_1 rfl (fun q1 => ?_) (fun q1 => ?_)
  · have hw := hw.1 q1
    exact g_return O dX4_reachState_51 ⟨rfl, rfl, rfl, hw⟩
  · have hw := hw.2 q1
    refine g_aload_n O dX4_reachState_4 rfl ?_
    obtain ⟨c5, hw⟩ := hw
    refine gf_X4_far O dX4_reachState_5 fl_X4_9 c5 ?_
    refine g_iload_n O dX4_reachState_8 rfl ?_
    obtain ⟨c9, hw⟩ := hw
    refine g_iaload O dX4_reachState_9 c9.1 c9.2 ?_
    refine g_bipush O dX4_reachState_10 kb_m2 ?_
    refine g_icmp_ne (tgt := 51) O dX4_reachState_12 rfl (fun q12 => ?_) (fun q12 => ?_)
    · have hw := hw.1 q12
      exact g_return O dX4_reachState_51 ⟨rfl, rfl, rfl, hw⟩
    · have hw := hw.2 q12
      refine g_aload_n O dX4_reachState_15 rfl ?_
      refine gf_X4_found O dX4_reachState_16 fl_X4_24 c5 ?_
      refine g_bipush O dX4_reachState_19 kb_100 ?_
      refine g_icmp_ge (tgt := 51) O dX4_reachState_21 rfl (fun q21 => ?_) (fun q21 => ?_)
      · have hw := hw.1 q21
        exact g_return O dX4_reachState_51 ⟨rfl, rfl, rfl, hw⟩
      · have hw := hw.2 q21
        refine g_aload_n O dX4_reachState_24 rfl ?_
        refine gf_X4_far O dX4_reachState_25 fl_X4_9 c5 ?_
        refine g_iload_n O dX4_reachState_28 rfl ?_
        refine g_iload_n O dX4_reachState_29 rfl ?_
        refine g_iastore O dX4_reachState_30 c9.1 c9.2 ?_
        refine g_nmH (fun h30 e30 => ?_)
        have hw := hw h30 e30
        refine g_aload_n O dX4_reachState_31 rfl ?_
        refine gf_X4_queue O dX4_reachState_32 fl_X4_15 c5 ?_
        refine g_aload_n O dX4_reachState_35 rfl ?_
        refine gf_X4_found O dX4_reachState_36 fl_X4_24 c5 ?_
        refine g_iload_n O dX4_reachState_39 rfl ?_
        obtain ⟨c40, hw⟩ := hw
        refine g_iastore O dX4_reachState_40 c40.1 c40.2 ?_
        refine g_nmH (fun h40 e40 => ?_)
        have hw := hw h40 e40
        refine g_aload_n O dX4_reachState_41 rfl ?_
        refine g_dup O dX4_reachState_42 rfl ?_
        refine gf_X4_found O dX4_reachState_43 fl_X4_24 c5 ?_
        refine g_iconst O dX4_reachState_46 kv_1 ?_
        refine g_iadd O dX4_reachState_47 ?_
        refine pf_X4_found O dX4_reachState_48 fl_X4_24 c5 ?_
        exact g_return O dX4_reachState_51 ⟨rfl, rfl, rfl, hw⟩
theorem dX4_reachFrom_0 : decode cX4_reachFrom 0 = .ok (.aload_n 1, 1) := by decide +kernel
theorem dX4_reachFrom_1 : decode cX4_reachFrom 1 = .ok (.iload_n 2, 1) := by decide +kernel
theorem dX4_reachFrom_2 : decode cX4_reachFrom 2 = .ok (.invokevirtual 49, 3) := by decide +kernel
theorem dX4_reachFrom_5 : decode cX4_reachFrom 5 = .ok (.istore_n 3, 1) := by decide +kernel
theorem dX4_reachFrom_6 : decode cX4_reachFrom 6 = .ok (.iconst 0, 1) := by decide +kernel
theorem dX4_reachFrom_7 : decode cX4_reachFrom 7 = .ok (.istore 4, 2) := by decide +kernel
theorem dX4_reachFrom_9 : decode cX4_reachFrom 9 = .ok (.iload 4, 2) := by decide +kernel
theorem dX4_reachFrom_11 : decode cX4_reachFrom 11 = .ok (.bipush 10, 2) := by decide +kernel
theorem dX4_reachFrom_13 : decode cX4_reachFrom 13 = .ok (.if_icmp .ge 37, 3) := by decide +kernel
theorem dX4_reachFrom_16 : decode cX4_reachFrom 16 = .ok (.iload_n 3, 1) := by decide +kernel
theorem dX4_reachFrom_17 : decode cX4_reachFrom 17 = .ok (.iload 4, 2) := by decide +kernel
theorem dX4_reachFrom_19 : decode cX4_reachFrom 19 = .ok (.ishr, 1) := by decide +kernel
theorem dX4_reachFrom_20 : decode cX4_reachFrom 20 = .ok (.iconst 1, 1) := by decide +kernel
theorem dX4_reachFrom_21 : decode cX4_reachFrom 21 = .ok (.iand, 1) := by decide +kernel
theorem dX4_reachFrom_22 : decode cX4_reachFrom 22 = .ok (.ifCond .eq 22, 3) := by decide +kernel
theorem dX4_reachFrom_25 : decode cX4_reachFrom 25 = .ok (.aload_n 0, 1) := by decide +kernel
theorem dX4_reachFrom_26 : decode cX4_reachFrom 26 = .ok (.aload_n 1, 1) := by decide +kernel
theorem dX4_reachFrom_27 : decode cX4_reachFrom 27 = .ok (.iload_n 2, 1) := by decide +kernel
theorem dX4_reachFrom_28 : decode cX4_reachFrom 28 = .ok (.iload 4, 2) := by decide +kernel
theorem dX4_reachFrom_30 : decode cX4_reachFrom 30 = .ok (.invokevirtual 55, 3) := by decide +kernel
theorem dX4_reachFrom_33 : decode cX4_reachFrom 33 = .ok (.aload_n 0, 1) := by decide +kernel
theorem dX4_reachFrom_34 : decode cX4_reachFrom 34 = .ok (.getfield 9, 3) := by decide +kernel
theorem dX4_reachFrom_37 : decode cX4_reachFrom 37 = .ok (.iload_n 2, 1) := by decide +kernel
theorem dX4_reachFrom_38 : decode cX4_reachFrom 38 = .ok (.iaload, 1) := by decide +kernel
theorem dX4_reachFrom_39 : decode cX4_reachFrom 39 = .ok (.iconst 1, 1) := by decide +kernel
theorem dX4_reachFrom_40 : decode cX4_reachFrom 40 = .ok (.iadd, 1) := by decide +kernel
theorem dX4_reachFrom_41 : decode cX4_reachFrom 41 = .ok (.invokevirtual 34, 3) := by decide +kernel
theorem dX4_reachFrom_44 : decode cX4_reachFrom 44 = .ok (.iinc 4 1, 3) := by decide +kernel
theorem dX4_reachFrom_47 : decode cX4_reachFrom 47 = .ok (.goto (-38), 3) := by decide +kernel
theorem dX4_reachFrom_50 : decode cX4_reachFrom 50 = .ok (.return_, 1) := by decide +kernel
theorem okX4_reachFrom_9 {E : Ev} {X : Cx} {S : Sh} {Z : Option Nat} {Q : Hp → Prop} {a0 : Nat} {a1 : Nat} {x2 : Int32} {x3 : Int32} (O : Ok E X yX4_reachFrom cX4_reachFrom 5 none 2 46 0 0 (qV S Z Q)) : ∀ (n : Nat) (h : Hp) (x4 : Int32), wX4_reachFrom_9 S a0 a1 x2 x3 Q n h x4 → G E X 0 0 S Z h 9 [some (vr a0), some (vr a1), some (vi x2), some (vi x3), some (vi x4)] [] := by
  intro n
  induction n with
  | zero => intro h x4 hw; exact hw.elim
  | succ n hB9 =>
    intro h x4 hw
    have hw : wX4_reachFrom_9b S a0 a1 x2 x3 Q (wX4_reachFrom_9 S a0 a1 x2 x3 Q n) h x4 := hw
    unfold wX4_reachFrom_9b at hw
    refine g_iload O dX4_reachFrom_9 rfl ?_
    refine g_bipush O dX4_reachFrom_11 kb_10 ?_
    refine g_icmp_ge (tgt := 50) O dX4_reachFrom_13 rfl (fun q13 => ?_) (fun q13 => ?_)
    · have hw := hw.1 q13
      exact g_return O dX4_reachFrom_50 ⟨rfl, rfl, rfl, hw⟩
    · have hw := hw.2 q13
      refine g_iload_n O dX4_reachFrom_16 rfl ?_
      refine g_iload O dX4_reachFrom_17 rfl ?_
      refine g_ishr O dX4_reachFrom_19 ?_
      refine g_iconst O dX4_reachFrom_20 kv_1 ?_
      refine g_iand O dX4_reachFrom_21 ?_
      refine g_if_eq (tgt := 44) O dX4_reachFrom_22 rfl (fun q22 => ?_) (fun q22 => ?_)
      · have hw := hw.1 q22
        refine g_iinc (lc' := [some (vr a0), some (vr a1), some (vi x2), some (vi x3), some (vi (x4 + (1 : Int32)))]) O dX4_reachFrom_44 rfl kv_1 rfl rfl ?_
        refine g_goto (tgt := 9) O dX4_reachFrom_47 rfl ?_
        exact hB9 _ _ hw
      · have hw := hw.2 q22
        refine g_aload_n O dX4_reachFrom_25 rfl ?_
        refine g_aload_n O dX4_reachFrom_26 rfl ?_
        refine g_iload_n O dX4_reachFrom_27 rfl ?_
        refine g_iload O dX4_reachFrom_28 rfl ?_
        obtain ⟨c30, hw⟩ := hw
        refine g_callV (As := [vi x2, vi x4]) (rest := [vr a0]) O ci_0 rfl dX4_reachFrom_30 ml_X4_55 im_yX0_after se_yX0_after ini_X0 co_yX0_after yo_yX0_after c30 rfl rfl (Nat.le_of_ble_eq_true rfl) ⟨by decide, by decide, by decide, by decide⟩ (okX0_after hw) (k_I fun r30 h30 hw => ?_)
        refine g_aload_n O dX4_reachFrom_33 rfl ?_
        obtain ⟨c34, hw⟩ := hw
        refine gf_X4_far O dX4_reachFrom_34 fl_X4_9 c34 ?_
        refine g_iload_n O dX4_reachFrom_37 rfl ?_
        obtain ⟨c38, hw⟩ := hw
        refine g_iaload O dX4_reachFrom_38 c38.1 c38.2 ?_
        refine g_iconst O dX4_reachFrom_39 kv_1 ?_
        refine g_iadd O dX4_reachFrom_40 ?_
        refine g_callV (As := [vi r30, vi (((gI h30 (gR h30 a0 0) (ix x2)) + (1 : Int32)))]) (rest := []) O ci_4 rfl dX4_reachFrom_41 ml_X4_34 im_yX4_reachState se_yX4_reachState ini_X4 co_yX4_reachState yo_yX4_reachState c34 rfl rfl (Nat.le_of_ble_eq_true rfl) ⟨by decide, by decide, by decide, by decide⟩ (okX4_reachState hw) (k_V fun h41 hw => ?_)
        refine g_iinc (lc' := [some (vr a0), some (vr a1), some (vi x2), some (vi x3), some (vi (x4 + (1 : Int32)))]) O dX4_reachFrom_44 rfl kv_1 rfl rfl ?_
        refine g_goto (tgt := 9) O dX4_reachFrom_47 rfl ?_
        exact hB9 _ _ hw
theorem okX4_reachFrom {E : Ev} {S : Sh} {Z : Option Nat} {Q : Hp → Prop} {h : Hp} {a0 : Nat} {a1 : Nat} {x2 : Int32} (hw : wX4_reachFrom S h a0 a1 x2 Q) : Ct E yX4_reachFrom cX4_reachFrom 5 none 2 46 0 0 S Z h [vr a0, vr a1, vi x2] (qV S Z Q) := by
  refine Ct.of (by decide) (lc := [some (vr a0), some (vr a1), some (vi x2), none, none]) (Nat.le_of_ble_eq_true rfl) rfl (fun X O => ?_)
  unfold wX4_reachFrom at hw
  refine g_aload_n O dX4_reachFrom_0 rfl ?_
  refine g_iload_n O dX4_reachFrom_1 rfl ?_
  obtain ⟨c2, hw⟩ := hw
  refine g_callV (As := [vi x2]) (rest := []) O ci_0 rfl dX4_reachFrom_2 ml_X4_49 im_yX0_stepsAt se_yX0_stepsAt ini_X0 co_yX0_stepsAt yo_yX0_stepsAt c2 rfl rfl (Nat.le_of_ble_eq_true rfl) ⟨by decide, by decide, by decide, by decide⟩ (okX0_stepsAt hw) (k_I fun r2 h2 hw => ?_)
  refine g_istore_n (lc' := [some (vr a0), some (vr a1), some (vi x2), some (vi r2), none]) O dX4_reachFrom_5 rfl (Nat.le_of_ble_eq_true rfl) rfl ?_
  refine g_iconst O dX4_reachFrom_6 kv_0 ?_
  refine g_istore (lc' := [some (vr a0), some (vr a1), some (vi x2), some (vi r2), some (vi (0 : Int32))]) O dX4_reachFrom_7 rfl (Nat.le_of_ble_eq_true rfl) rfl ?_
  obtain ⟨n9, hw⟩ := hw
  exact okX4_reachFrom_9 O n9 _ _ hw
theorem dX4_explore_0 : decode cX4_explore 0 = .ok (.aload_n 0, 1) := by decide +kernel
theorem dX4_explore_1 : decode cX4_explore 1 = .ok (.getfield 9, 3) := by decide +kernel
theorem dX4_explore_4 : decode cX4_explore 4 = .ok (.bipush (-2), 2) := by decide +kernel
theorem dX4_explore_6 : decode cX4_explore 6 = .ok (.invokestatic 18, 3) := by decide +kernel
theorem dX4_explore_9 : decode cX4_explore 9 = .ok (.aload_n 0, 1) := by decide +kernel
theorem dX4_explore_10 : decode cX4_explore 10 = .ok (.iconst 0, 1) := by decide +kernel
theorem dX4_explore_11 : decode cX4_explore 11 = .ok (.putfield 24, 3) := by decide +kernel
theorem dX4_explore_14 : decode cX4_explore 14 = .ok (.aload_n 0, 1) := by decide +kernel
theorem dX4_explore_15 : decode cX4_explore 15 = .ok (.aload_n 1, 1) := by decide +kernel
theorem dX4_explore_16 : decode cX4_explore 16 = .ok (.invokevirtual 28, 3) := by decide +kernel
theorem dX4_explore_19 : decode cX4_explore 19 = .ok (.iconst 0, 1) := by decide +kernel
theorem dX4_explore_20 : decode cX4_explore 20 = .ok (.invokevirtual 34, 3) := by decide +kernel
theorem dX4_explore_23 : decode cX4_explore 23 = .ok (.iconst 0, 1) := by decide +kernel
theorem dX4_explore_24 : decode cX4_explore 24 = .ok (.istore_n 2, 1) := by decide +kernel
theorem dX4_explore_25 : decode cX4_explore 25 = .ok (.iload_n 2, 1) := by decide +kernel
theorem dX4_explore_26 : decode cX4_explore 26 = .ok (.bipush 100, 2) := by decide +kernel
theorem dX4_explore_28 : decode cX4_explore 28 = .ok (.if_icmp .ge 54, 3) := by decide +kernel
theorem dX4_explore_31 : decode cX4_explore 31 = .ok (.iload_n 2, 1) := by decide +kernel
theorem dX4_explore_32 : decode cX4_explore 32 = .ok (.aload_n 0, 1) := by decide +kernel
theorem dX4_explore_33 : decode cX4_explore 33 = .ok (.getfield 24, 3) := by decide +kernel
theorem dX4_explore_36 : decode cX4_explore 36 = .ok (.if_icmp .ge 46, 3) := by decide +kernel
theorem dX4_explore_39 : decode cX4_explore 39 = .ok (.aload_n 0, 1) := by decide +kernel
theorem dX4_explore_40 : decode cX4_explore 40 = .ok (.getfield 15, 3) := by decide +kernel
theorem dX4_explore_43 : decode cX4_explore 43 = .ok (.iload_n 2, 1) := by decide +kernel
theorem dX4_explore_44 : decode cX4_explore 44 = .ok (.iaload, 1) := by decide +kernel
theorem dX4_explore_45 : decode cX4_explore 45 = .ok (.istore_n 3, 1) := by decide +kernel
theorem dX4_explore_46 : decode cX4_explore 46 = .ok (.iconst 0, 1) := by decide +kernel
theorem dX4_explore_47 : decode cX4_explore 47 = .ok (.istore 4, 2) := by decide +kernel
theorem dX4_explore_49 : decode cX4_explore 49 = .ok (.iload 4, 2) := by decide +kernel
theorem dX4_explore_51 : decode cX4_explore 51 = .ok (.aload_n 1, 1) := by decide +kernel
theorem dX4_explore_52 : decode cX4_explore 52 = .ok (.getfield 38, 3) := by decide +kernel
theorem dX4_explore_55 : decode cX4_explore 55 = .ok (.if_icmp .ge 21, 3) := by decide +kernel
theorem dX4_explore_58 : decode cX4_explore 58 = .ok (.aload_n 0, 1) := by decide +kernel
theorem dX4_explore_59 : decode cX4_explore 59 = .ok (.aload_n 1, 1) := by decide +kernel
theorem dX4_explore_60 : decode cX4_explore 60 = .ok (.getfield 41, 3) := by decide +kernel
theorem dX4_explore_63 : decode cX4_explore 63 = .ok (.iload 4, 2) := by decide +kernel
theorem dX4_explore_65 : decode cX4_explore 65 = .ok (.aaload, 1) := by decide +kernel
theorem dX4_explore_66 : decode cX4_explore 66 = .ok (.iload_n 3, 1) := by decide +kernel
theorem dX4_explore_67 : decode cX4_explore 67 = .ok (.invokevirtual 45, 3) := by decide +kernel
theorem dX4_explore_70 : decode cX4_explore 70 = .ok (.iinc 4 1, 3) := by decide +kernel
theorem dX4_explore_73 : decode cX4_explore 73 = .ok (.goto (-24), 3) := by decide +kernel
theorem dX4_explore_76 : decode cX4_explore 76 = .ok (.iinc 2 1, 3) := by decide +kernel
theorem dX4_explore_79 : decode cX4_explore 79 = .ok (.goto (-54), 3) := by decide +kernel
theorem dX4_explore_82 : decode cX4_explore 82 = .ok (.return_, 1) := by decide +kernel
theorem okX4_explore_49 {E : Ev} {X : Cx} {S : Sh} {Z : Option Nat} {Q : Hp → Prop} {B25 : Hp → Int32 → Prop} {a0 : Nat} {a1 : Nat} {x2 : Int32} {x3 : Int32} (O : Ok E X yX4_explore cX4_explore 5 none 4 90 0 0 (qV S Z Q)) (hB25 : ∀ (h : Hp) (x2 : Int32), B25 h x2 → G E X 0 0 S Z h 25 [some (vr a0), some (vr a1), some (vi x2), none, none] []) : ∀ (n : Nat) (h : Hp) (x4 : Int32), wX4_explore_49 S B25 a0 a1 x2 x3 Q n h x4 → G E X 0 0 S Z h 49 [some (vr a0), some (vr a1), some (vi x2), some (vi x3), some (vi x4)] [] := by
  intro n
  induction n with
  | zero => intro h x4 hw; exact hw.elim
  | succ n hB49 =>
    intro h x4 hw
    have hw : wX4_explore_49b S B25 a0 a1 x2 x3 Q (wX4_explore_49 S B25 a0 a1 x2 x3 Q n) h x4 := hw
    unfold wX4_explore_49b at hw
    refine g_iload O dX4_explore_49 rfl ?_
    refine g_aload_n O dX4_explore_51 rfl ?_
    obtain ⟨c52, hw⟩ := hw
    refine gf_X2_events O dX4_explore_52 fl_X4_38 c52 ?_
    refine g_icmp_ge (tgt := 76) O dX4_explore_55 rfl (fun q55 => ?_) (fun q55 => ?_)
    · have hw := hw.1 q55
      refine g_iinc (lc' := [some (vr a0), some (vr a1), some (vi (x2 + (1 : Int32))), some (vi x3), some (vi x4)]) O dX4_explore_76 rfl kv_1 rfl rfl ?_
      refine g_goto (tgt := 25) O dX4_explore_79 rfl ?_
      refine g_mask [true, true, true, false, false] rfl rfl ?_
      exact hB25 _ _ hw
    · have hw := hw.2 q55
      refine g_aload_n O dX4_explore_58 rfl ?_
      refine g_aload_n O dX4_explore_59 rfl ?_
      refine gf_X2_event O dX4_explore_60 fl_X4_41 c52 ?_
      refine g_iload O dX4_explore_63 rfl ?_
      obtain ⟨c65, hw⟩ := hw
      refine g_aaload (t := 0) (C := "FinerSteps$Event") O rfl dX4_explore_65 c65.1 c65.2 ?_
      refine g_iload_n O dX4_explore_66 rfl ?_
      obtain ⟨c67, hw⟩ := hw
      refine g_callV (As := [vr ((gR h (gR h a1 5) (ix x4))), vi x3]) (rest := []) O ci_4 rfl dX4_explore_67 ml_X4_45 im_yX4_reachFrom se_yX4_reachFrom ini_X4 co_yX4_reachFrom yo_yX4_reachFrom c67 rfl rfl (Nat.le_of_ble_eq_true rfl) ⟨by decide, by decide, by decide, by decide⟩ (okX4_reachFrom hw) (k_V fun h67 hw => ?_)
      refine g_iinc (lc' := [some (vr a0), some (vr a1), some (vi x2), some (vi x3), some (vi (x4 + (1 : Int32)))]) O dX4_explore_70 rfl kv_1 rfl rfl ?_
      refine g_goto (tgt := 49) O dX4_explore_73 rfl ?_
      exact hB49 _ _ hw
theorem okX4_explore_25 {E : Ev} {X : Cx} {S : Sh} {Z : Option Nat} {Q : Hp → Prop} {a0 : Nat} {a1 : Nat} (O : Ok E X yX4_explore cX4_explore 5 none 4 90 0 0 (qV S Z Q)) : ∀ (n : Nat) (h : Hp) (x2 : Int32), wX4_explore_25 S a0 a1 Q n h x2 → G E X 0 0 S Z h 25 [some (vr a0), some (vr a1), some (vi x2), none, none] [] := by
  intro n
  induction n with
  | zero => intro h x2 hw; exact hw.elim
  | succ n hB25 =>
    intro h x2 hw
    have hw : wX4_explore_25b S a0 a1 Q (wX4_explore_25 S a0 a1 Q n) h x2 := hw
    unfold wX4_explore_25b at hw
    refine g_iload_n O dX4_explore_25 rfl ?_
    refine g_bipush O dX4_explore_26 kb_100 ?_
    refine g_icmp_ge (tgt := 82) O dX4_explore_28 rfl (fun q28 => ?_) (fun q28 => ?_)
    · have hw := hw.1 q28
      exact g_return O dX4_explore_82 ⟨rfl, rfl, rfl, hw⟩
    · have hw := hw.2 q28
      refine g_iload_n O dX4_explore_31 rfl ?_
      refine g_aload_n O dX4_explore_32 rfl ?_
      obtain ⟨c33, hw⟩ := hw
      refine gf_X4_found O dX4_explore_33 fl_X4_24 c33 ?_
      refine g_icmp_ge (tgt := 82) O dX4_explore_36 rfl (fun q36 => ?_) (fun q36 => ?_)
      · have hw := hw.1 q36
        exact g_return O dX4_explore_82 ⟨rfl, rfl, rfl, hw⟩
      · have hw := hw.2 q36
        refine g_aload_n O dX4_explore_39 rfl ?_
        refine gf_X4_queue O dX4_explore_40 fl_X4_15 c33 ?_
        refine g_iload_n O dX4_explore_43 rfl ?_
        obtain ⟨c44, hw⟩ := hw
        refine g_iaload O dX4_explore_44 c44.1 c44.2 ?_
        refine g_nmI (fun xv45 e45 => ?_)
        have hw := hw xv45 e45
        refine g_istore_n (lc' := [some (vr a0), some (vr a1), some (vi x2), some (vi xv45), none]) O dX4_explore_45 rfl (Nat.le_of_ble_eq_true rfl) rfl ?_
        refine g_iconst O dX4_explore_46 kv_0 ?_
        refine g_istore (lc' := [some (vr a0), some (vr a1), some (vi x2), some (vi xv45), some (vi (0 : Int32))]) O dX4_explore_47 rfl (Nat.le_of_ble_eq_true rfl) rfl ?_
        obtain ⟨n49, hw⟩ := hw
        exact okX4_explore_49 O hB25 n49 _ _ hw
theorem okX4_explore {E : Ev} {S : Sh} {Z : Option Nat} {Q : Hp → Prop} {h : Hp} {a0 : Nat} {a1 : Nat} (hw : wX4_explore S h a0 a1 Q) : Ct E yX4_explore cX4_explore 5 none 4 90 0 0 S Z h [vr a0, vr a1] (qV S Z Q) := by
  refine Ct.of (by decide) (lc := [some (vr a0), some (vr a1), none, none, none]) (Nat.le_of_ble_eq_true rfl) rfl (fun X O => ?_)
  unfold wX4_explore at hw
  refine g_aload_n O dX4_explore_0 rfl ?_
  obtain ⟨c1, hw⟩ := hw
  refine gf_X4_far O dX4_explore_1 fl_X4_9 c1 ?_
  refine g_bipush O dX4_explore_4 kb_m2 ?_
  refine g_callS (As := [vr (gR h a0 0), vi (-2 : Int32)]) (rest := []) O dX4_explore_6 ml_X4_18 st_yJ7_fill_53178 ini_J7 co_yJ7_fill_53178 yo_yJ7_fill_53178 rfl rfl (Nat.le_of_ble_eq_true rfl) ⟨by decide, by decide, by decide, by decide⟩ (okJ7_fill_53178 hw) (k_V fun h6 hw => ?_)
  refine g_aload_n O dX4_explore_9 rfl ?_
  refine g_iconst O dX4_explore_10 kv_0 ?_
  refine pf_X4_found O dX4_explore_11 fl_X4_24 c1 ?_
  refine g_aload_n O dX4_explore_14 rfl ?_
  refine g_aload_n O dX4_explore_15 rfl ?_
  obtain ⟨c16, hw⟩ := hw
  refine g_callV (As := []) (rest := [vr a0]) O ci_2 rfl dX4_explore_16 ml_X4_28 im_yX2_beginState se_yX2_beginState ini_X2 co_yX2_beginState yo_yX2_beginState c16 rfl rfl (Nat.le_of_ble_eq_true rfl) ⟨by decide, by decide, by decide, by decide⟩ (okX2_beginState hw) (k_I fun r16 h16 hw => ?_)
  refine g_iconst O dX4_explore_19 kv_0 ?_
  refine g_callV (As := [vi r16, vi (0 : Int32)]) (rest := []) O ci_4 rfl dX4_explore_20 ml_X4_34 im_yX4_reachState se_yX4_reachState ini_X4 co_yX4_reachState yo_yX4_reachState c1 rfl rfl (Nat.le_of_ble_eq_true rfl) ⟨by decide, by decide, by decide, by decide⟩ (okX4_reachState hw) (k_V fun h20 hw => ?_)
  refine g_iconst O dX4_explore_23 kv_0 ?_
  refine g_istore_n (lc' := [some (vr a0), some (vr a1), some (vi (0 : Int32)), none, none]) O dX4_explore_24 rfl (Nat.le_of_ble_eq_true rfl) rfl ?_
  obtain ⟨n25, hw⟩ := hw
  exact okX4_explore_25 O n25 _ _ hw
theorem dX4_firstEnd_0 : decode cX4_firstEnd 0 = .ok (.bipush (-2), 2) := by decide +kernel
theorem dX4_firstEnd_2 : decode cX4_firstEnd 2 = .ok (.istore_n 2, 1) := by decide +kernel
theorem dX4_firstEnd_3 : decode cX4_firstEnd 3 = .ok (.iconst 0, 1) := by decide +kernel
theorem dX4_firstEnd_4 : decode cX4_firstEnd 4 = .ok (.istore_n 3, 1) := by decide +kernel
theorem dX4_firstEnd_5 : decode cX4_firstEnd 5 = .ok (.iload_n 3, 1) := by decide +kernel
theorem dX4_firstEnd_6 : decode cX4_firstEnd 6 = .ok (.aload_n 1, 1) := by decide +kernel
theorem dX4_firstEnd_7 : decode cX4_firstEnd 7 = .ok (.getfield 59, 3) := by decide +kernel
theorem dX4_firstEnd_10 : decode cX4_firstEnd 10 = .ok (.if_icmp .ge 51, 3) := by decide +kernel
theorem dX4_firstEnd_13 : decode cX4_firstEnd 13 = .ok (.aload_n 0, 1) := by decide +kernel
theorem dX4_firstEnd_14 : decode cX4_firstEnd 14 = .ok (.getfield 9, 3) := by decide +kernel
theorem dX4_firstEnd_17 : decode cX4_firstEnd 17 = .ok (.iload_n 3, 1) := by decide +kernel
theorem dX4_firstEnd_18 : decode cX4_firstEnd 18 = .ok (.iaload, 1) := by decide +kernel
theorem dX4_firstEnd_19 : decode cX4_firstEnd 19 = .ok (.bipush (-2), 2) := by decide +kernel
theorem dX4_firstEnd_21 : decode cX4_firstEnd 21 = .ok (.if_icmp .eq 34, 3) := by decide +kernel
theorem dX4_firstEnd_24 : decode cX4_firstEnd 24 = .ok (.aload_n 1, 1) := by decide +kernel
theorem dX4_firstEnd_25 : decode cX4_firstEnd 25 = .ok (.iload_n 3, 1) := by decide +kernel
theorem dX4_firstEnd_26 : decode cX4_firstEnd 26 = .ok (.invokevirtual 62, 3) := by decide +kernel
theorem dX4_firstEnd_29 : decode cX4_firstEnd 29 = .ok (.ifCond .ne 26, 3) := by decide +kernel
theorem dX4_firstEnd_32 : decode cX4_firstEnd 32 = .ok (.iload_n 2, 1) := by decide +kernel
theorem dX4_firstEnd_33 : decode cX4_firstEnd 33 = .ok (.bipush (-2), 2) := by decide +kernel
theorem dX4_firstEnd_35 : decode cX4_firstEnd 35 = .ok (.if_icmp .eq 18, 3) := by decide +kernel
theorem dX4_firstEnd_38 : decode cX4_firstEnd 38 = .ok (.aload_n 0, 1) := by decide +kernel
theorem dX4_firstEnd_39 : decode cX4_firstEnd 39 = .ok (.getfield 9, 3) := by decide +kernel
theorem dX4_firstEnd_42 : decode cX4_firstEnd 42 = .ok (.iload_n 3, 1) := by decide +kernel
theorem dX4_firstEnd_43 : decode cX4_firstEnd 43 = .ok (.iaload, 1) := by decide +kernel
theorem dX4_firstEnd_44 : decode cX4_firstEnd 44 = .ok (.aload_n 0, 1) := by decide +kernel
theorem dX4_firstEnd_45 : decode cX4_firstEnd 45 = .ok (.getfield 9, 3) := by decide +kernel
theorem dX4_firstEnd_48 : decode cX4_firstEnd 48 = .ok (.iload_n 2, 1) := by decide +kernel
theorem dX4_firstEnd_49 : decode cX4_firstEnd 49 = .ok (.iaload, 1) := by decide +kernel
theorem dX4_firstEnd_50 : decode cX4_firstEnd 50 = .ok (.if_icmp .ge 5, 3) := by decide +kernel
theorem dX4_firstEnd_53 : decode cX4_firstEnd 53 = .ok (.iload_n 3, 1) := by decide +kernel
theorem dX4_firstEnd_54 : decode cX4_firstEnd 54 = .ok (.istore_n 2, 1) := by decide +kernel
theorem dX4_firstEnd_55 : decode cX4_firstEnd 55 = .ok (.iinc 3 1, 3) := by decide +kernel
theorem dX4_firstEnd_58 : decode cX4_firstEnd 58 = .ok (.goto (-53), 3) := by decide +kernel
theorem dX4_firstEnd_61 : decode cX4_firstEnd 61 = .ok (.iload_n 2, 1) := by decide +kernel
theorem dX4_firstEnd_62 : decode cX4_firstEnd 62 = .ok (.ireturn, 1) := by decide +kernel
theorem okX4_firstEnd_5 {E : Ev} {X : Cx} {S : Sh} {Z : Option Nat} {Q : Int32 → Hp → Prop} {a0 : Nat} {a1 : Nat} (O : Ok E X yX4_firstEnd cX4_firstEnd 4 (some .int) 3 68 0 0 (qI S Z Q)) : ∀ (n : Nat) (h : Hp) (x2 : Int32) (x3 : Int32), wX4_firstEnd_5 S a0 a1 Q n h x2 x3 → G E X 0 0 S Z h 5 [some (vr a0), some (vr a1), some (vi x2), some (vi x3)] [] := by
  intro n
  induction n with
  | zero => intro h x2 x3 hw; exact hw.elim
  | succ n hB5 =>
    intro h x2 x3 hw
    have hw : wX4_firstEnd_5b S a0 a1 Q (wX4_firstEnd_5 S a0 a1 Q n) h x2 x3 := hw
    unfold wX4_firstEnd_5b at hw
    refine g_iload_n O dX4_firstEnd_5 rfl ?_
    refine g_aload_n O dX4_firstEnd_6 rfl ?_
    obtain ⟨c7, hw⟩ := hw
    refine gf_X2_states O dX4_firstEnd_7 fl_X4_59 c7 ?_
    refine g_icmp_ge (tgt := 61) O dX4_firstEnd_10 rfl (fun q10 => ?_) (fun q10 => ?_)
    · have hw := hw.1 q10
      refine g_iload_n O dX4_firstEnd_61 rfl ?_
      exact g_ireturn O dX4_firstEnd_62 ⟨rfl, rfl, _, rfl, hw⟩
    · have hw := hw.2 q10
      refine g_aload_n O dX4_firstEnd_13 rfl ?_
      obtain ⟨c14, hw⟩ := hw
      refine gf_X4_far O dX4_firstEnd_14 fl_X4_9 c14 ?_
      refine g_iload_n O dX4_firstEnd_17 rfl ?_
      obtain ⟨c18, hw⟩ := hw
      refine g_iaload O dX4_firstEnd_18 c18.1 c18.2 ?_
      refine g_bipush O dX4_firstEnd_19 kb_m2 ?_
      refine g_icmp_eq (tgt := 55) O dX4_firstEnd_21 rfl (fun q21 => ?_) (fun q21 => ?_)
      · have hw := hw.1 q21
        refine g_iinc (lc' := [some (vr a0), some (vr a1), some (vi x2), some (vi (x3 + (1 : Int32)))]) O dX4_firstEnd_55 rfl kv_1 rfl rfl ?_
        refine g_goto (tgt := 5) O dX4_firstEnd_58 rfl ?_
        exact hB5 _ _ _ hw
      · have hw := hw.2 q21
        refine g_aload_n O dX4_firstEnd_24 rfl ?_
        refine g_iload_n O dX4_firstEnd_25 rfl ?_
        refine g_callV (As := [vi x3]) (rest := []) O ci_2 rfl dX4_firstEnd_26 ml_X4_62 im_yX2_eventsFrom se_yX2_eventsFrom ini_X2 co_yX2_eventsFrom yo_yX2_eventsFrom c7 rfl rfl (Nat.le_of_ble_eq_true rfl) ⟨by decide, by decide, by decide, by decide⟩ (okX2_eventsFrom hw) (k_I fun r26 h26 hw => ?_)
        refine g_if_ne (tgt := 55) O dX4_firstEnd_29 rfl (fun q29 => ?_) (fun q29 => ?_)
        · have hw := hw.1 q29
          refine g_iinc (lc' := [some (vr a0), some (vr a1), some (vi x2), some (vi (x3 + (1 : Int32)))]) O dX4_firstEnd_55 rfl kv_1 rfl rfl ?_
          refine g_goto (tgt := 5) O dX4_firstEnd_58 rfl ?_
          exact hB5 _ _ _ hw
        · have hw := hw.2 q29
          refine g_iload_n O dX4_firstEnd_32 rfl ?_
          refine g_bipush O dX4_firstEnd_33 kb_m2 ?_
          refine g_icmp_eq (tgt := 53) O dX4_firstEnd_35 rfl (fun q35 => ?_) (fun q35 => ?_)
          · have hw := hw.1 q35
            refine g_iload_n O dX4_firstEnd_53 rfl ?_
            refine g_istore_n (lc' := [some (vr a0), some (vr a1), some (vi x3), some (vi x3)]) O dX4_firstEnd_54 rfl (Nat.le_of_ble_eq_true rfl) rfl ?_
            refine g_iinc (lc' := [some (vr a0), some (vr a1), some (vi x3), some (vi (x3 + (1 : Int32)))]) O dX4_firstEnd_55 rfl kv_1 rfl rfl ?_
            refine g_goto (tgt := 5) O dX4_firstEnd_58 rfl ?_
            exact hB5 _ _ _ hw
          · have hw := hw.2 q35
            refine g_aload_n O dX4_firstEnd_38 rfl ?_
            refine gf_X4_far O dX4_firstEnd_39 fl_X4_9 c14 ?_
            refine g_iload_n O dX4_firstEnd_42 rfl ?_
            obtain ⟨c43, hw⟩ := hw
            refine g_iaload O dX4_firstEnd_43 c43.1 c43.2 ?_
            refine g_aload_n O dX4_firstEnd_44 rfl ?_
            refine gf_X4_far O dX4_firstEnd_45 fl_X4_9 c14 ?_
            refine g_iload_n O dX4_firstEnd_48 rfl ?_
            obtain ⟨c49, hw⟩ := hw
            refine g_iaload O dX4_firstEnd_49 c49.1 c49.2 ?_
            refine g_icmp_ge (tgt := 55) O dX4_firstEnd_50 rfl (fun q50 => ?_) (fun q50 => ?_)
            · have hw := hw.1 q50
              refine g_iinc (lc' := [some (vr a0), some (vr a1), some (vi x2), some (vi (x3 + (1 : Int32)))]) O dX4_firstEnd_55 rfl kv_1 rfl rfl ?_
              refine g_goto (tgt := 5) O dX4_firstEnd_58 rfl ?_
              exact hB5 _ _ _ hw
            · have hw := hw.2 q50
              refine g_iload_n O dX4_firstEnd_53 rfl ?_
              refine g_istore_n (lc' := [some (vr a0), some (vr a1), some (vi x3), some (vi x3)]) O dX4_firstEnd_54 rfl (Nat.le_of_ble_eq_true rfl) rfl ?_
              refine g_iinc (lc' := [some (vr a0), some (vr a1), some (vi x3), some (vi (x3 + (1 : Int32)))]) O dX4_firstEnd_55 rfl kv_1 rfl rfl ?_
              refine g_goto (tgt := 5) O dX4_firstEnd_58 rfl ?_
              exact hB5 _ _ _ hw
theorem okX4_firstEnd {E : Ev} {S : Sh} {Z : Option Nat} {Q : Int32 → Hp → Prop} {h : Hp} {a0 : Nat} {a1 : Nat} (hw : wX4_firstEnd S h a0 a1 Q) : Ct E yX4_firstEnd cX4_firstEnd 4 (some .int) 3 68 0 0 S Z h [vr a0, vr a1] (qI S Z Q) := by
  refine Ct.of (by decide) (lc := [some (vr a0), some (vr a1), none, none]) (Nat.le_of_ble_eq_true rfl) rfl (fun X O => ?_)
  unfold wX4_firstEnd at hw
  refine g_bipush O dX4_firstEnd_0 kb_m2 ?_
  refine g_istore_n (lc' := [some (vr a0), some (vr a1), some (vi (-2 : Int32)), none]) O dX4_firstEnd_2 rfl (Nat.le_of_ble_eq_true rfl) rfl ?_
  refine g_iconst O dX4_firstEnd_3 kv_0 ?_
  refine g_istore_n (lc' := [some (vr a0), some (vr a1), some (vi (-2 : Int32)), some (vi (0 : Int32))]) O dX4_firstEnd_4 rfl (Nat.le_of_ble_eq_true rfl) rfl ?_
  obtain ⟨n5, hw⟩ := hw
  exact okX4_firstEnd_5 O n5 _ _ _ hw
theorem dX4_init_0 : decode cX4_init 0 = .ok (.aload_n 0, 1) := by decide +kernel
theorem dX4_init_1 : decode cX4_init 1 = .ok (.invokespecial 3, 3) := by decide +kernel
theorem dX4_init_4 : decode cX4_init 4 = .ok (.aload_n 0, 1) := by decide +kernel
theorem dX4_init_5 : decode cX4_init 5 = .ok (.bipush 100, 2) := by decide +kernel
theorem dX4_init_7 : decode cX4_init 7 = .ok (.newarray .int, 2) := by decide +kernel
theorem dX4_init_9 : decode cX4_init 9 = .ok (.putfield 9, 3) := by decide +kernel
theorem dX4_init_12 : decode cX4_init 12 = .ok (.aload_n 0, 1) := by decide +kernel
theorem dX4_init_13 : decode cX4_init 13 = .ok (.bipush 100, 2) := by decide +kernel
theorem dX4_init_15 : decode cX4_init 15 = .ok (.newarray .int, 2) := by decide +kernel
theorem dX4_init_17 : decode cX4_init 17 = .ok (.putfield 15, 3) := by decide +kernel
theorem dX4_init_20 : decode cX4_init 20 = .ok (.return_, 1) := by decide +kernel
theorem okX4_init {E : Ev} {Q : Sh → Nat → Hp → Prop} {S : Sh} {z : Nat} {h : Hp} {a0 : Nat} (hw : wX4_init S z h a0 Q) : Ct E yX4_init cX4_init 1 none 1 24 2 200 S (some z) h [vr a0] (qA Q) := by
  refine Ct.of (by decide) (lc := [some (vr a0)]) (Nat.le_of_ble_eq_true rfl) rfl (fun X O => ?_)
  unfold wX4_init at hw
  refine g_aload_n O dX4_init_0 rfl ?_
  obtain ⟨c1, hw⟩ := hw
  refine g_objInit O dX4_init_1 ml_X4_3 c1 rfl rfl (Nat.le_of_ble_eq_true rfl) ⟨by decide, by decide⟩ ?_
  refine g_aload_n O dX4_init_4 rfl ?_
  refine g_bipush O dX4_init_5 kb_100 ?_
  obtain ⟨c7a, hw⟩ := hw
  obtain ⟨c7b, c7c, hw⟩ := hw
  refine g_newarray (atype := .int) (t := 0) (N := 100) O rfl (fun I J R j h1 h2 h3 => by simp [aval, h1, h2, newarray.typeOf, defaultValue]) (fun U cA q => q) dX4_init_7 ac_int (by decide) (by decide) (by decide) c7a c7b c7c ?_
  obtain ⟨c9, hw⟩ := hw
  refine pf_X4_far O rfl rfl dX4_init_9 fl_X4_9 c9 ?_
  refine g_nmH (fun h9 e9 => ?_)
  have hw := hw h9 e9
  refine g_aload_n O dX4_init_12 rfl ?_
  refine g_bipush O dX4_init_13 kb_100 ?_
  obtain ⟨c15a, hw⟩ := hw
  obtain ⟨c15b, c15c, hw⟩ := hw
  refine g_newarray (atype := .int) (t := 0) (N := 100) O rfl (fun I J R j h1 h2 h3 => by simp [aval, h1, h2, newarray.typeOf, defaultValue]) (fun U cA q => q) dX4_init_15 ac_int (by decide) (by decide) (by decide) c15a c15b c15c ?_
  obtain ⟨c17, hw⟩ := hw
  refine pf_X4_queue O rfl rfl dX4_init_17 fl_X4_15 c17 ?_
  obtain ⟨c20a, c20b, hw⟩ := hw
  exact g_widen c20a c20b (g_return O dX4_init_20 ⟨_, rfl, rfl, hw⟩)
theorem dX5_advance_0 : decode cX5_advance 0 = .ok (.aload_n 0, 1) := by decide +kernel
theorem dX5_advance_1 : decode cX5_advance 1 = .ok (.getfield 56, 3) := by decide +kernel
theorem dX5_advance_4 : decode cX5_advance 4 = .ok (.sipush 600, 3) := by decide +kernel
theorem dX5_advance_7 : decode cX5_advance 7 = .ok (.if_icmp .ge 13, 3) := by decide +kernel
theorem dX5_advance_10 : decode cX5_advance 10 = .ok (.aload_n 0, 1) := by decide +kernel
theorem dX5_advance_11 : decode cX5_advance 11 = .ok (.dup, 1) := by decide +kernel
theorem dX5_advance_12 : decode cX5_advance 12 = .ok (.getfield 56, 3) := by decide +kernel
theorem dX5_advance_15 : decode cX5_advance 15 = .ok (.iconst 1, 1) := by decide +kernel
theorem dX5_advance_16 : decode cX5_advance 16 = .ok (.iadd, 1) := by decide +kernel
theorem dX5_advance_17 : decode cX5_advance 17 = .ok (.putfield 56, 3) := by decide +kernel
theorem dX5_advance_20 : decode cX5_advance 20 = .ok (.return_, 1) := by decide +kernel
theorem okX5_advance {E : Ev} {S : Sh} {Z : Option Nat} {Q : Hp → Prop} {h : Hp} {a0 : Nat} (hw : wX5_advance S h a0 Q) : Ct E yX5_advance cX5_advance 1 none 1 24 0 0 S Z h [vr a0] (qV S Z Q) := by
  refine Ct.of (by decide) (lc := [some (vr a0)]) (Nat.le_of_ble_eq_true rfl) rfl (fun X O => ?_)
  unfold wX5_advance at hw
  refine g_aload_n O dX5_advance_0 rfl ?_
  obtain ⟨c1, hw⟩ := hw
  refine gf_X5_at O dX5_advance_1 fl_X5_56 c1 ?_
  refine g_sipush O dX5_advance_4 ks_600 ?_
  refine g_icmp_ge (tgt := 20) O dX5_advance_7 rfl (fun q7 => ?_) (fun q7 => ?_)
  · have hw := hw.1 q7
    exact g_return O dX5_advance_20 ⟨rfl, rfl, rfl, hw⟩
  · have hw := hw.2 q7
    refine g_aload_n O dX5_advance_10 rfl ?_
    refine g_dup O dX5_advance_11 rfl ?_
    refine gf_X5_at O dX5_advance_12 fl_X5_56 c1 ?_
    refine g_iconst O dX5_advance_15 kv_1 ?_
    refine g_iadd O dX5_advance_16 ?_
    refine pf_X5_at O dX5_advance_17 fl_X5_56 c1 ?_
    exact g_return O dX5_advance_20 ⟨rfl, rfl, rfl, hw⟩
theorem dX5_code_0 : decode cX5_code 0 = .ok (.aload_n 0, 1) := by decide +kernel
theorem dX5_code_1 : decode cX5_code 1 = .ok (.getfield 12, 3) := by decide +kernel
theorem dX5_code_4 : decode cX5_code 4 = .ok (.getfield 233, 3) := by decide +kernel
theorem dX5_code_7 : decode cX5_code 7 = .ok (.aload_n 0, 1) := by decide +kernel
theorem dX5_code_8 : decode cX5_code 8 = .ok (.getfield 56, 3) := by decide +kernel
theorem dX5_code_11 : decode cX5_code 11 = .ok (.laload, 1) := by decide +kernel
theorem dX5_code_12 : decode cX5_code 12 = .ok (.lreturn, 1) := by decide +kernel
theorem okX5_code {E : Ev} {S : Sh} {Z : Option Nat} {Q : Int64 → Hp → Prop} {h : Hp} {a0 : Nat} (hw : wX5_code S h a0 Q) : Ct E yX5_code cX5_code 1 (some .long) 1 24 0 0 S Z h [vr a0] (qJ S Z Q) := by
  refine Ct.of (by decide) (lc := [some (vr a0)]) (Nat.le_of_ble_eq_true rfl) rfl (fun X O => ?_)
  unfold wX5_code at hw
  refine g_aload_n O dX5_code_0 rfl ?_
  obtain ⟨c1, hw⟩ := hw
  refine gf_X5_tokens O dX5_code_1 fl_X5_12 c1 ?_
  obtain ⟨c4, hw⟩ := hw
  refine gf_X8_codes O dX5_code_4 fl_X5_233 c4 ?_
  refine g_aload_n O dX5_code_7 rfl ?_
  refine gf_X5_at O dX5_code_8 fl_X5_56 c1 ?_
  obtain ⟨c11, hw⟩ := hw
  refine g_laload O dX5_code_11 c11.1 c11.2 ?_
  exact g_lreturn O dX5_code_12 ⟨rfl, rfl, _, rfl, hw⟩
theorem dX5_fail_0 : decode cX5_fail 0 = .ok (.aload_n 0, 1) := by decide +kernel
theorem dX5_fail_1 : decode cX5_fail 1 = .ok (.iload_n 1, 1) := by decide +kernel
theorem dX5_fail_2 : decode cX5_fail 2 = .ok (.putfield 59, 3) := by decide +kernel
theorem dX5_fail_5 : decode cX5_fail 5 = .ok (.aload_n 0, 1) := by decide +kernel
theorem dX5_fail_6 : decode cX5_fail 6 = .ok (.aload_n 0, 1) := by decide +kernel
theorem dX5_fail_7 : decode cX5_fail 7 = .ok (.getfield 12, 3) := by decide +kernel
theorem dX5_fail_10 : decode cX5_fail 10 = .ok (.getfield 236, 3) := by decide +kernel
theorem dX5_fail_13 : decode cX5_fail 13 = .ok (.aload_n 0, 1) := by decide +kernel
theorem dX5_fail_14 : decode cX5_fail 14 = .ok (.getfield 56, 3) := by decide +kernel
theorem dX5_fail_17 : decode cX5_fail 17 = .ok (.iaload, 1) := by decide +kernel
theorem dX5_fail_18 : decode cX5_fail 18 = .ok (.putfield 62, 3) := by decide +kernel
theorem dX5_fail_21 : decode cX5_fail 21 = .ok (.iconst 0, 1) := by decide +kernel
theorem dX5_fail_22 : decode cX5_fail 22 = .ok (.ireturn, 1) := by decide +kernel
theorem okX5_fail {E : Ev} {S : Sh} {Z : Option Nat} {Q : Int32 → Hp → Prop} {h : Hp} {a0 : Nat} {x1 : Int32} (hw : wX5_fail S h a0 x1 Q) : Ct E yX5_fail cX5_fail 2 (some .boolean) 1 24 0 0 S Z h [vr a0, vi x1] (qI S Z Q) := by
  refine Ct.of (by decide) (lc := [some (vr a0), some (vi x1)]) (Nat.le_of_ble_eq_true rfl) rfl (fun X O => ?_)
  unfold wX5_fail at hw
  refine g_aload_n O dX5_fail_0 rfl ?_
  refine g_iload_n O dX5_fail_1 rfl ?_
  obtain ⟨c2, hw⟩ := hw
  refine pf_X5_faultMet O dX5_fail_2 fl_X5_59 c2 ?_
  refine g_nmH (fun h2 e2 => ?_)
  have hw := hw h2 e2
  refine g_aload_n O dX5_fail_5 rfl ?_
  refine g_aload_n O dX5_fail_6 rfl ?_
  refine gf_X5_tokens O dX5_fail_7 fl_X5_12 c2 ?_
  obtain ⟨c10, hw⟩ := hw
  refine gf_X8_places O dX5_fail_10 fl_X5_236 c10 ?_
  refine g_aload_n O dX5_fail_13 rfl ?_
  refine gf_X5_at O dX5_fail_14 fl_X5_56 c2 ?_
  obtain ⟨c17, hw⟩ := hw
  refine g_iaload O dX5_fail_17 c17.1 c17.2 ?_
  refine pf_X5_faultAt O dX5_fail_18 fl_X5_62 c2 ?_
  refine g_iconst O dX5_fail_21 kv_0 ?_
  exact g_zreturn O dX5_fail_22 (by decide) ⟨rfl, rfl, _, rfl, hw⟩
theorem dX8_init_0 : decode cX8_init 0 = .ok (.aload_n 0, 1) := by decide +kernel
theorem dX8_init_1 : decode cX8_init 1 = .ok (.invokespecial 3, 3) := by decide +kernel
theorem dX8_init_4 : decode cX8_init 4 = .ok (.aload_n 0, 1) := by decide +kernel
theorem dX8_init_5 : decode cX8_init 5 = .ok (.sipush 601, 3) := by decide +kernel
theorem dX8_init_8 : decode cX8_init 8 = .ok (.newarray .int, 2) := by decide +kernel
theorem dX8_init_10 : decode cX8_init 10 = .ok (.putfield 9, 3) := by decide +kernel
theorem dX8_init_13 : decode cX8_init 13 = .ok (.aload_n 0, 1) := by decide +kernel
theorem dX8_init_14 : decode cX8_init 14 = .ok (.sipush 601, 3) := by decide +kernel
theorem dX8_init_17 : decode cX8_init 17 = .ok (.newarray .int, 2) := by decide +kernel
theorem dX8_init_19 : decode cX8_init 19 = .ok (.putfield 15, 3) := by decide +kernel
theorem dX8_init_22 : decode cX8_init 22 = .ok (.aload_n 0, 1) := by decide +kernel
theorem dX8_init_23 : decode cX8_init 23 = .ok (.sipush 601, 3) := by decide +kernel
theorem dX8_init_26 : decode cX8_init 26 = .ok (.newarray .long, 2) := by decide +kernel
theorem dX8_init_28 : decode cX8_init 28 = .ok (.putfield 18, 3) := by decide +kernel
theorem dX8_init_31 : decode cX8_init 31 = .ok (.aload_n 0, 1) := by decide +kernel
theorem dX8_init_32 : decode cX8_init 32 = .ok (.bipush 16, 2) := by decide +kernel
theorem dX8_init_34 : decode cX8_init 34 = .ok (.newarray .long, 2) := by decide +kernel
theorem dX8_init_36 : decode cX8_init 36 = .ok (.putfield 22, 3) := by decide +kernel
theorem dX8_init_39 : decode cX8_init 39 = .ok (.iconst 0, 1) := by decide +kernel
theorem dX8_init_40 : decode cX8_init 40 = .ok (.istore_n 1, 1) := by decide +kernel
theorem dX8_init_41 : decode cX8_init 41 = .ok (.iconst 0, 1) := by decide +kernel
theorem dX8_init_42 : decode cX8_init 42 = .ok (.istore_n 2, 1) := by decide +kernel
theorem dX8_init_43 : decode cX8_init 43 = .ok (.iload_n 2, 1) := by decide +kernel
theorem dX8_init_44 : decode cX8_init 44 = .ok (.ldc 25, 2) := by decide +kernel
theorem dX8_init_46 : decode cX8_init 46 = .ok (.invokevirtual 27, 3) := by decide +kernel
theorem dX8_init_49 : decode cX8_init 49 = .ok (.if_icmp .ge 56, 3) := by decide +kernel
theorem dX8_init_52 : decode cX8_init 52 = .ok (.ldc 25, 2) := by decide +kernel
theorem dX8_init_54 : decode cX8_init 54 = .ok (.iload_n 2, 1) := by decide +kernel
theorem dX8_init_55 : decode cX8_init 55 = .ok (.invokevirtual 33, 3) := by decide +kernel
theorem dX8_init_58 : decode cX8_init 58 = .ok (.istore_n 3, 1) := by decide +kernel
theorem dX8_init_59 : decode cX8_init 59 = .ok (.iload_n 3, 1) := by decide +kernel
theorem dX8_init_60 : decode cX8_init 60 = .ok (.bipush 32, 2) := by decide +kernel
theorem dX8_init_62 : decode cX8_init 62 = .ok (.if_icmp .ne 9, 3) := by decide +kernel
theorem dX8_init_65 : decode cX8_init 65 = .ok (.iinc 1 1, 3) := by decide +kernel
theorem dX8_init_68 : decode cX8_init 68 = .ok (.goto 31, 3) := by decide +kernel
theorem dX8_init_71 : decode cX8_init 71 = .ok (.iload_n 1, 1) := by decide +kernel
theorem dX8_init_72 : decode cX8_init 72 = .ok (.bipush 16, 2) := by decide +kernel
theorem dX8_init_74 : decode cX8_init 74 = .ok (.if_icmp .ge 25, 3) := by decide +kernel
theorem dX8_init_77 : decode cX8_init 77 = .ok (.aload_n 0, 1) := by decide +kernel
theorem dX8_init_78 : decode cX8_init 78 = .ok (.getfield 22, 3) := by decide +kernel
theorem dX8_init_81 : decode cX8_init 81 = .ok (.iload_n 1, 1) := by decide +kernel
theorem dX8_init_82 : decode cX8_init 82 = .ok (.aload_n 0, 1) := by decide +kernel
theorem dX8_init_83 : decode cX8_init 83 = .ok (.getfield 22, 3) := by decide +kernel
theorem dX8_init_86 : decode cX8_init 86 = .ok (.iload_n 1, 1) := by decide +kernel
theorem dX8_init_87 : decode cX8_init 87 = .ok (.laload, 1) := by decide +kernel
theorem dX8_init_88 : decode cX8_init 88 = .ok (.iconst 5, 1) := by decide +kernel
theorem dX8_init_89 : decode cX8_init 89 = .ok (.lshl, 1) := by decide +kernel
theorem dX8_init_90 : decode cX8_init 90 = .ok (.iload_n 3, 1) := by decide +kernel
theorem dX8_init_91 : decode cX8_init 91 = .ok (.bipush 97, 2) := by decide +kernel
theorem dX8_init_93 : decode cX8_init 93 = .ok (.isub, 1) := by decide +kernel
theorem dX8_init_94 : decode cX8_init 94 = .ok (.iconst 1, 1) := by decide +kernel
theorem dX8_init_95 : decode cX8_init 95 = .ok (.iadd, 1) := by decide +kernel
theorem dX8_init_96 : decode cX8_init 96 = .ok (.i2l, 1) := by decide +kernel
theorem dX8_init_97 : decode cX8_init 97 = .ok (.lor, 1) := by decide +kernel
theorem dX8_init_98 : decode cX8_init 98 = .ok (.lastore, 1) := by decide +kernel
theorem dX8_init_99 : decode cX8_init 99 = .ok (.iinc 2 1, 3) := by decide +kernel
theorem dX8_init_102 : decode cX8_init 102 = .ok (.goto (-59), 3) := by decide +kernel
theorem dX8_init_105 : decode cX8_init 105 = .ok (.return_, 1) := by decide +kernel
theorem okX8_init_43 {E : Ev} {X : Cx} {Q : Sh → Nat → Hp → Prop} {a0 : Nat} (O : Ok E X yX8_init cX8_init 4 none 7 281 4 1819 (qA Q)) : ∀ (n : Nat) (S : Sh) (z nc ns : Nat) (h : Hp) (x1 : Int32) (x2 : Int32), wX8_init_43 (fun i => E.2.2.2.2.1 i + 1) a0 Q n S z nc ns h x1 x2 → G E X nc ns S (some z) h 43 [some (vr a0), some (vi x1), some (vi x2), none] [] := by
  intro n
  induction n with
  | zero => intro S z nc ns h x1 x2 hw; exact hw.elim
  | succ n hB43 =>
    intro S z nc ns h x1 x2 hw
    have hw : wX8_init_43b (fun i => E.2.2.2.2.1 i + 1) a0 Q (wX8_init_43 (fun i => E.2.2.2.2.1 i + 1) a0 Q n) S z nc ns h x1 x2 := hw
    unfold wX8_init_43b at hw
    refine g_iload_n O dX8_init_43 rfl ?_
    refine g_ldcS (i := 0) O dX8_init_44 rfl rfl rfl ?_
    obtain ⟨c46m, hw⟩ := hw
    obtain ⟨c46n, hw⟩ := hw
    refine g_callStr (As := []) (rest := [vi x2]) O dX8_init_46 ml_X8_27 im_yJ0_length_8abf5 se_yJ0_length_8abf5 ini_J0 co_yJ0_length_8abf5 yo_yJ0_length_8abf5 (okJ0_length_8abf5_i hw) rfl rfl (Nat.le_of_ble_eq_true rfl) ⟨by decide, by decide, c46m, c46n⟩ (okJ0_length_8abf5 hw) (k_I fun r46 h46 hw => ?_)
    refine g_icmp_ge (tgt := 105) O dX8_init_49 rfl (fun q49 => ?_) (fun q49 => ?_)
    · have hw := hw.1 q49
      obtain ⟨c105a, c105b, hw⟩ := hw
      exact g_widen c105a c105b (g_return O dX8_init_105 ⟨_, rfl, rfl, hw⟩)
    · have hw := hw.2 q49
      refine g_ldcS (i := 0) O dX8_init_52 rfl rfl rfl ?_
      refine g_iload_n O dX8_init_54 rfl ?_
      refine g_callStr (As := [vi x2]) (rest := []) O dX8_init_55 ml_X8_33 im_yJ0_charAt_5068e se_yJ0_charAt_5068e ini_J0 co_yJ0_charAt_5068e yo_yJ0_charAt_5068e (okJ0_charAt_5068e_i hw) rfl rfl (Nat.le_of_ble_eq_true rfl) ⟨by decide, by decide, c46m, c46n⟩ (okJ0_charAt_5068e hw) (k_I fun r55 h55 hw => ?_)
      refine g_istore_n (lc' := [some (vr a0), some (vi x1), some (vi x2), some (vi r55)]) O dX8_init_58 rfl (Nat.le_of_ble_eq_true rfl) rfl ?_
      refine g_iload_n O dX8_init_59 rfl ?_
      refine g_bipush O dX8_init_60 kb_32 ?_
      refine g_icmp_ne (tgt := 71) O dX8_init_62 rfl (fun q62 => ?_) (fun q62 => ?_)
      · have hw := hw.1 q62
        refine g_iload_n O dX8_init_71 rfl ?_
        refine g_bipush O dX8_init_72 kb_16 ?_
        refine g_icmp_ge (tgt := 99) O dX8_init_74 rfl (fun q74 => ?_) (fun q74 => ?_)
        · have hw := hw.1 q74
          refine g_iinc (lc' := [some (vr a0), some (vi x1), some (vi (x2 + (1 : Int32))), some (vi r55)]) O dX8_init_99 rfl kv_1 rfl rfl ?_
          refine g_goto (tgt := 43) O dX8_init_102 rfl ?_
          refine g_mask [true, true, true, false] rfl rfl ?_
          exact hB43 _ _ _ _ _ _ _ hw
        · have hw := hw.2 q74
          refine g_aload_n O dX8_init_77 rfl ?_
          obtain ⟨c78, hw⟩ := hw
          refine gf_X8_reserved O dX8_init_78 fl_X8_22 c78 ?_
          refine g_iload_n O dX8_init_81 rfl ?_
          refine g_aload_n O dX8_init_82 rfl ?_
          refine gf_X8_reserved O dX8_init_83 fl_X8_22 c78 ?_
          refine g_iload_n O dX8_init_86 rfl ?_
          obtain ⟨c87, hw⟩ := hw
          refine g_laload O dX8_init_87 c87.1 c87.2 ?_
          refine g_iconst O dX8_init_88 kv_5 ?_
          refine g_lshl O dX8_init_89 ?_
          refine g_iload_n O dX8_init_90 rfl ?_
          refine g_bipush O dX8_init_91 kb_97 ?_
          refine g_isub O dX8_init_93 ?_
          refine g_iconst O dX8_init_94 kv_1 ?_
          refine g_iadd O dX8_init_95 ?_
          refine g_i2l O dX8_init_96 ?_
          refine g_lor O dX8_init_97 ?_
          refine g_lastore O dX8_init_98 c87.1 c87.2 ?_
          refine g_iinc (lc' := [some (vr a0), some (vi x1), some (vi (x2 + (1 : Int32))), some (vi r55)]) O dX8_init_99 rfl kv_1 rfl rfl ?_
          refine g_goto (tgt := 43) O dX8_init_102 rfl ?_
          refine g_mask [true, true, true, false] rfl rfl ?_
          exact hB43 _ _ _ _ _ _ _ hw
      · have hw := hw.2 q62
        refine g_iinc (lc' := [some (vr a0), some (vi (x1 + (1 : Int32))), some (vi x2), some (vi r55)]) O dX8_init_65 rfl kv_1 rfl rfl ?_
        refine g_goto (tgt := 99) O dX8_init_68 rfl ?_
        refine g_iinc (lc' := [some (vr a0), some (vi (x1 + (1 : Int32))), some (vi (x2 + (1 : Int32))), some (vi r55)]) O dX8_init_99 rfl kv_1 rfl rfl ?_
        refine g_goto (tgt := 43) O dX8_init_102 rfl ?_
        refine g_mask [true, true, true, false] rfl rfl ?_
        exact hB43 _ _ _ _ _ _ _ hw
theorem okX8_init {E : Ev} {Q : Sh → Nat → Hp → Prop} {S : Sh} {z : Nat} {h : Hp} {a0 : Nat} (hw : wX8_init (fun i => E.2.2.2.2.1 i + 1) S z h a0 Q) : Ct E yX8_init cX8_init 4 none 7 281 4 1819 S (some z) h [vr a0] (qA Q) := by
  refine Ct.of (by decide) (lc := [some (vr a0), none, none, none]) (Nat.le_of_ble_eq_true rfl) rfl (fun X O => ?_)
  unfold wX8_init at hw
  refine g_aload_n O dX8_init_0 rfl ?_
  obtain ⟨c1, hw⟩ := hw
  refine g_objInit O dX8_init_1 ml_X8_3 c1 rfl rfl (Nat.le_of_ble_eq_true rfl) ⟨by decide, by decide⟩ ?_
  refine g_aload_n O dX8_init_4 rfl ?_
  refine g_sipush O dX8_init_5 ks_601 ?_
  obtain ⟨c8a, hw⟩ := hw
  obtain ⟨c8b, c8c, hw⟩ := hw
  refine g_newarray (atype := .int) (t := 0) (N := 601) O rfl (fun I J R j h1 h2 h3 => by simp [aval, h1, h2, newarray.typeOf, defaultValue]) (fun U cA q => q) dX8_init_8 ac_int (by decide) (by decide) (by decide) c8a c8b c8c ?_
  obtain ⟨c10, hw⟩ := hw
  refine pf_X8_kinds O rfl rfl dX8_init_10 fl_X8_9 c10 ?_
  refine g_nmH (fun h10 e10 => ?_)
  have hw := hw h10 e10
  refine g_aload_n O dX8_init_13 rfl ?_
  refine g_sipush O dX8_init_14 ks_601 ?_
  obtain ⟨c17a, hw⟩ := hw
  obtain ⟨c17b, c17c, hw⟩ := hw
  refine g_newarray (atype := .int) (t := 0) (N := 601) O rfl (fun I J R j h1 h2 h3 => by simp [aval, h1, h2, newarray.typeOf, defaultValue]) (fun U cA q => q) dX8_init_17 ac_int (by decide) (by decide) (by decide) c17a c17b c17c ?_
  obtain ⟨c19, hw⟩ := hw
  refine pf_X8_places O rfl rfl dX8_init_19 fl_X8_15 c19 ?_
  refine g_nmH (fun h19 e19 => ?_)
  have hw := hw h19 e19
  refine g_aload_n O dX8_init_22 rfl ?_
  refine g_sipush O dX8_init_23 ks_601 ?_
  obtain ⟨c26a, hw⟩ := hw
  obtain ⟨c26b, c26c, hw⟩ := hw
  refine g_newarray (atype := .long) (t := 3) (N := 601) O rfl (fun I J R j h1 h2 h3 => by simp [aval, h1, h2, newarray.typeOf, defaultValue]) (fun U cA q => q) dX8_init_26 ac_long (by decide) (by decide) (by decide) c26a c26b c26c ?_
  obtain ⟨c28, hw⟩ := hw
  refine pf_X8_codes O rfl rfl dX8_init_28 fl_X8_18 c28 ?_
  refine g_nmH (fun h28 e28 => ?_)
  have hw := hw h28 e28
  refine g_aload_n O dX8_init_31 rfl ?_
  refine g_bipush O dX8_init_32 kb_16 ?_
  obtain ⟨c34a, hw⟩ := hw
  obtain ⟨c34b, c34c, hw⟩ := hw
  refine g_newarray (atype := .long) (t := 3) (N := 16) O rfl (fun I J R j h1 h2 h3 => by simp [aval, h1, h2, newarray.typeOf, defaultValue]) (fun U cA q => q) dX8_init_34 ac_long (by decide) (by decide) (by decide) c34a c34b c34c ?_
  obtain ⟨c36, hw⟩ := hw
  refine pf_X8_reserved O rfl rfl dX8_init_36 fl_X8_22 c36 ?_
  refine g_iconst O dX8_init_39 kv_0 ?_
  refine g_istore_n (lc' := [some (vr a0), some (vi (0 : Int32)), none, none]) O dX8_init_40 rfl (Nat.le_of_ble_eq_true rfl) rfl ?_
  refine g_iconst O dX8_init_41 kv_0 ?_
  refine g_istore_n (lc' := [some (vr a0), some (vi (0 : Int32)), some (vi (0 : Int32)), none]) O dX8_init_42 rfl (Nat.le_of_ble_eq_true rfl) rfl ?_
  obtain ⟨n43, hw⟩ := hw
  exact okX8_init_43 O n43 _ _ _ _ _ _ _ hw
theorem dX5_init_0 : decode cX5_init 0 = .ok (.aload_n 0, 1) := by decide +kernel
theorem dX5_init_1 : decode cX5_init 1 = .ok (.invokespecial 3, 3) := by decide +kernel
theorem dX5_init_4 : decode cX5_init 4 = .ok (.aload_n 0, 1) := by decide +kernel
theorem dX5_init_5 : decode cX5_init 5 = .ok (.new 9, 3) := by decide +kernel
theorem dX5_init_8 : decode cX5_init 8 = .ok (.dup, 1) := by decide +kernel
theorem dX5_init_9 : decode cX5_init 9 = .ok (.invokespecial 11, 3) := by decide +kernel
theorem dX5_init_12 : decode cX5_init 12 = .ok (.putfield 12, 3) := by decide +kernel
theorem dX5_init_15 : decode cX5_init 15 = .ok (.aload_n 0, 1) := by decide +kernel
theorem dX5_init_16 : decode cX5_init 16 = .ok (.bipush 24, 2) := by decide +kernel
theorem dX5_init_18 : decode cX5_init 18 = .ok (.newarray .long, 2) := by decide +kernel
theorem dX5_init_20 : decode cX5_init 20 = .ok (.putfield 18, 3) := by decide +kernel
theorem dX5_init_23 : decode cX5_init 23 = .ok (.return_, 1) := by decide +kernel
theorem okX5_init {E : Ev} {Q : Sh → Nat → Hp → Prop} {S : Sh} {z : Nat} {h : Hp} {a0 : Nat} (hw : wX5_init (fun i => E.2.2.2.2.1 i + 1) S z h a0 Q) : Ct E yX5_init cX5_init 1 none 8 304 6 1849 S (some z) h [vr a0] (qA Q) := by
  refine Ct.of (by decide) (lc := [some (vr a0)]) (Nat.le_of_ble_eq_true rfl) rfl (fun X O => ?_)
  unfold wX5_init at hw
  refine g_aload_n O dX5_init_0 rfl ?_
  obtain ⟨c1, hw⟩ := hw
  refine g_objInit O dX5_init_1 ml_X5_3 c1 rfl rfl (Nat.le_of_ble_eq_true rfl) ⟨by decide, by decide⟩ ?_
  refine g_aload_n O dX5_init_4 rfl ?_
  obtain ⟨c5a, hw⟩ := hw
  obtain ⟨c5b, c5c, hw⟩ := hw
  refine g_new O ci_8 fd_X8 dX5_init_5 cl_X5_9 ins_X8 ini_X8 c5a c5b c5c ?_
  refine g_dup O dX5_init_8 rfl ?_
  obtain ⟨c9b, c9c, hw⟩ := hw
  obtain ⟨c9, hw⟩ := hw
  refine g_callI (As := []) (rest := [vr z, vr a0]) O rfl dX5_init_9 ml_X5_11 im_yX8_init ini_X8 co_yX8_init yo_yX8_init c9 rfl rfl (Nat.le_of_ble_eq_true rfl) ⟨by decide, by decide, c9b, c9c⟩ (okX8_init hw) (k_A fun S9 z9 h9 hw => ?_)
  obtain ⟨c12, hw⟩ := hw
  refine pf_X5_tokens O rfl rfl dX5_init_12 fl_X5_12 c12 ?_
  refine g_nmH (fun h12 e12 => ?_)
  have hw := hw h12 e12
  refine g_aload_n O dX5_init_15 rfl ?_
  refine g_bipush O dX5_init_16 kb_24 ?_
  obtain ⟨c18a, hw⟩ := hw
  obtain ⟨c18b, c18c, hw⟩ := hw
  refine g_newarray (atype := .long) (t := 3) (N := 24) O rfl (fun I J R j h1 h2 h3 => by simp [aval, h1, h2, newarray.typeOf, defaultValue]) (fun U cA q => q) dX5_init_18 ac_long (by decide) (by decide) (by decide) c18a c18b c18c ?_
  obtain ⟨c20, hw⟩ := hw
  refine pf_X5_toldNames O rfl rfl dX5_init_20 fl_X5_18 c20 ?_
  obtain ⟨c23a, c23b, hw⟩ := hw
  exact g_widen c23a c23b (g_return O dX5_init_23 ⟨_, rfl, rfl, hw⟩)
theorem dX5_kind_0 : decode cX5_kind 0 = .ok (.aload_n 0, 1) := by decide +kernel
theorem dX5_kind_1 : decode cX5_kind 1 = .ok (.getfield 12, 3) := by decide +kernel
theorem dX5_kind_4 : decode cX5_kind 4 = .ok (.getfield 230, 3) := by decide +kernel
theorem dX5_kind_7 : decode cX5_kind 7 = .ok (.aload_n 0, 1) := by decide +kernel
theorem dX5_kind_8 : decode cX5_kind 8 = .ok (.getfield 56, 3) := by decide +kernel
theorem dX5_kind_11 : decode cX5_kind 11 = .ok (.iaload, 1) := by decide +kernel
theorem dX5_kind_12 : decode cX5_kind 12 = .ok (.ireturn, 1) := by decide +kernel
theorem okX5_kind {E : Ev} {S : Sh} {Z : Option Nat} {Q : Int32 → Hp → Prop} {h : Hp} {a0 : Nat} (hw : wX5_kind S h a0 Q) : Ct E yX5_kind cX5_kind 1 (some .int) 1 24 0 0 S Z h [vr a0] (qI S Z Q) := by
  refine Ct.of (by decide) (lc := [some (vr a0)]) (Nat.le_of_ble_eq_true rfl) rfl (fun X O => ?_)
  unfold wX5_kind at hw
  refine g_aload_n O dX5_kind_0 rfl ?_
  obtain ⟨c1, hw⟩ := hw
  refine gf_X5_tokens O dX5_kind_1 fl_X5_12 c1 ?_
  obtain ⟨c4, hw⟩ := hw
  refine gf_X8_kinds O dX5_kind_4 fl_X5_230 c4 ?_
  refine g_aload_n O dX5_kind_7 rfl ?_
  refine gf_X5_at O dX5_kind_8 fl_X5_56 c1 ?_
  obtain ⟨c11, hw⟩ := hw
  refine g_iaload O dX5_kind_11 c11.1 c11.2 ?_
  exact g_ireturn O dX5_kind_12 ⟨rfl, rfl, _, rfl, hw⟩
theorem dX5_isNewName_0 : decode cX5_isNewName 0 = .ok (.aload_n 0, 1) := by decide +kernel
theorem dX5_isNewName_1 : decode cX5_isNewName 1 = .ok (.invokevirtual 65, 3) := by decide +kernel
theorem dX5_isNewName_4 : decode cX5_isNewName 4 = .ok (.sipush 302, 3) := by decide +kernel
theorem dX5_isNewName_7 : decode cX5_isNewName 7 = .ok (.if_icmp .eq 9, 3) := by decide +kernel
theorem dX5_isNewName_10 : decode cX5_isNewName 10 = .ok (.aload_n 0, 1) := by decide +kernel
theorem dX5_isNewName_11 : decode cX5_isNewName 11 = .ok (.iconst 1, 1) := by decide +kernel
theorem dX5_isNewName_12 : decode cX5_isNewName 12 = .ok (.invokevirtual 92, 3) := by decide +kernel
theorem dX5_isNewName_15 : decode cX5_isNewName 15 = .ok (.ireturn, 1) := by decide +kernel
theorem dX5_isNewName_16 : decode cX5_isNewName 16 = .ok (.iconst 0, 1) := by decide +kernel
theorem dX5_isNewName_17 : decode cX5_isNewName 17 = .ok (.istore_n 1, 1) := by decide +kernel
theorem dX5_isNewName_18 : decode cX5_isNewName 18 = .ok (.iload_n 1, 1) := by decide +kernel
theorem dX5_isNewName_19 : decode cX5_isNewName 19 = .ok (.aload_n 0, 1) := by decide +kernel
theorem dX5_isNewName_20 : decode cX5_isNewName 20 = .ok (.getfield 52, 3) := by decide +kernel
theorem dX5_isNewName_23 : decode cX5_isNewName 23 = .ok (.if_icmp .ge 29, 3) := by decide +kernel
theorem dX5_isNewName_26 : decode cX5_isNewName 26 = .ok (.aload_n 0, 1) := by decide +kernel
theorem dX5_isNewName_27 : decode cX5_isNewName 27 = .ok (.getfield 18, 3) := by decide +kernel
theorem dX5_isNewName_30 : decode cX5_isNewName 30 = .ok (.iload_n 1, 1) := by decide +kernel
theorem dX5_isNewName_31 : decode cX5_isNewName 31 = .ok (.laload, 1) := by decide +kernel
theorem dX5_isNewName_32 : decode cX5_isNewName 32 = .ok (.aload_n 0, 1) := by decide +kernel
theorem dX5_isNewName_33 : decode cX5_isNewName 33 = .ok (.invokevirtual 111, 3) := by decide +kernel
theorem dX5_isNewName_36 : decode cX5_isNewName 36 = .ok (.lcmp, 1) := by decide +kernel
theorem dX5_isNewName_37 : decode cX5_isNewName 37 = .ok (.ifCond .ne 9, 3) := by decide +kernel
theorem dX5_isNewName_40 : decode cX5_isNewName 40 = .ok (.aload_n 0, 1) := by decide +kernel
theorem dX5_isNewName_41 : decode cX5_isNewName 41 = .ok (.iconst 3, 1) := by decide +kernel
theorem dX5_isNewName_42 : decode cX5_isNewName 42 = .ok (.invokevirtual 92, 3) := by decide +kernel
theorem dX5_isNewName_45 : decode cX5_isNewName 45 = .ok (.ireturn, 1) := by decide +kernel
theorem dX5_isNewName_46 : decode cX5_isNewName 46 = .ok (.iinc 1 1, 3) := by decide +kernel
theorem dX5_isNewName_49 : decode cX5_isNewName 49 = .ok (.goto (-31), 3) := by decide +kernel
theorem dX5_isNewName_52 : decode cX5_isNewName 52 = .ok (.aload_n 0, 1) := by decide +kernel
theorem dX5_isNewName_53 : decode cX5_isNewName 53 = .ok (.getfield 52, 3) := by decide +kernel
theorem dX5_isNewName_56 : decode cX5_isNewName 56 = .ok (.bipush 24, 2) := by decide +kernel
theorem dX5_isNewName_58 : decode cX5_isNewName 58 = .ok (.if_icmp .ge 26, 3) := by decide +kernel
theorem dX5_isNewName_61 : decode cX5_isNewName 61 = .ok (.aload_n 0, 1) := by decide +kernel
theorem dX5_isNewName_62 : decode cX5_isNewName 62 = .ok (.getfield 18, 3) := by decide +kernel
theorem dX5_isNewName_65 : decode cX5_isNewName 65 = .ok (.aload_n 0, 1) := by decide +kernel
theorem dX5_isNewName_66 : decode cX5_isNewName 66 = .ok (.getfield 52, 3) := by decide +kernel
theorem dX5_isNewName_69 : decode cX5_isNewName 69 = .ok (.aload_n 0, 1) := by decide +kernel
theorem dX5_isNewName_70 : decode cX5_isNewName 70 = .ok (.invokevirtual 111, 3) := by decide +kernel
theorem dX5_isNewName_73 : decode cX5_isNewName 73 = .ok (.lastore, 1) := by decide +kernel
theorem dX5_isNewName_74 : decode cX5_isNewName 74 = .ok (.aload_n 0, 1) := by decide +kernel
theorem dX5_isNewName_75 : decode cX5_isNewName 75 = .ok (.dup, 1) := by decide +kernel
theorem dX5_isNewName_76 : decode cX5_isNewName 76 = .ok (.getfield 52, 3) := by decide +kernel
theorem dX5_isNewName_79 : decode cX5_isNewName 79 = .ok (.iconst 1, 1) := by decide +kernel
theorem dX5_isNewName_80 : decode cX5_isNewName 80 = .ok (.iadd, 1) := by decide +kernel
theorem dX5_isNewName_81 : decode cX5_isNewName 81 = .ok (.putfield 52, 3) := by decide +kernel
theorem dX5_isNewName_84 : decode cX5_isNewName 84 = .ok (.iconst 1, 1) := by decide +kernel
theorem dX5_isNewName_85 : decode cX5_isNewName 85 = .ok (.ireturn, 1) := by decide +kernel
theorem okX5_isNewName_j52 {E : Ev} {X : Cx} {S : Sh} {Z : Option Nat} {Q : Int32 → Hp → Prop} {h : Hp} {a0 : Nat} (O : Ok E X yX5_isNewName cX5_isNewName 2 (some .boolean) 2 45 0 0 (qI S Z Q)) (hw : wX5_isNewName_j52 S h a0 Q) : G E X 0 0 S Z h 52 [some (vr a0), none] [] := by
  unfold wX5_isNewName_j52 at hw
  refine g_aload_n O dX5_isNewName_52 rfl ?_
  obtain ⟨c53, hw⟩ := hw
  refine gf_X5_toldCount O dX5_isNewName_53 fl_X5_52 c53 ?_
  refine g_bipush O dX5_isNewName_56 kb_24 ?_
  refine g_icmp_ge (tgt := 84) O dX5_isNewName_58 rfl (fun q58 => ?_) (fun q58 => ?_)
  · have hw := hw.1 q58
    refine g_iconst O dX5_isNewName_84 kv_1 ?_
    exact g_zreturn O dX5_isNewName_85 (by decide) ⟨rfl, rfl, _, rfl, hw⟩
  · have hw := hw.2 q58
    refine g_aload_n O dX5_isNewName_61 rfl ?_
    refine gf_X5_toldNames O dX5_isNewName_62 fl_X5_18 c53 ?_
    refine g_aload_n O dX5_isNewName_65 rfl ?_
    refine gf_X5_toldCount O dX5_isNewName_66 fl_X5_52 c53 ?_
    refine g_aload_n O dX5_isNewName_69 rfl ?_
    refine g_callV (As := []) (rest := [vi (gI h a0 7), vr (gR h a0 1)]) O ci_5 rfl dX5_isNewName_70 ml_X5_111 im_yX5_code se_yX5_code ini_X5 co_yX5_code yo_yX5_code c53 rfl rfl (Nat.le_of_ble_eq_true rfl) ⟨by decide, by decide, by decide, by decide⟩ (okX5_code hw) (k_J fun r70 h70 hw => ?_)
    obtain ⟨c73, hw⟩ := hw
    refine g_lastore O dX5_isNewName_73 c73.1 c73.2 ?_
    refine g_nmH (fun h73 e73 => ?_)
    have hw := hw h73 e73
    refine g_aload_n O dX5_isNewName_74 rfl ?_
    refine g_dup O dX5_isNewName_75 rfl ?_
    refine gf_X5_toldCount O dX5_isNewName_76 fl_X5_52 c53 ?_
    refine g_iconst O dX5_isNewName_79 kv_1 ?_
    refine g_iadd O dX5_isNewName_80 ?_
    refine pf_X5_toldCount O dX5_isNewName_81 fl_X5_52 c53 ?_
    refine g_iconst O dX5_isNewName_84 kv_1 ?_
    exact g_zreturn O dX5_isNewName_85 (by decide) ⟨rfl, rfl, _, rfl, hw⟩
theorem okX5_isNewName_18 {E : Ev} {X : Cx} {S : Sh} {Z : Option Nat} {Q : Int32 → Hp → Prop} {a0 : Nat} (O : Ok E X yX5_isNewName cX5_isNewName 2 (some .boolean) 2 45 0 0 (qI S Z Q)) : ∀ (n : Nat) (h : Hp) (x1 : Int32), wX5_isNewName_18 S a0 Q n h x1 → G E X 0 0 S Z h 18 [some (vr a0), some (vi x1)] [] := by
  intro n
  induction n with
  | zero => intro h x1 hw; exact hw.elim
  | succ n hB18 =>
    intro h x1 hw
    have hw : wX5_isNewName_18b S a0 Q (wX5_isNewName_18 S a0 Q n) h x1 := hw
    unfold wX5_isNewName_18b at hw
    refine g_iload_n O dX5_isNewName_18 rfl ?_
    refine g_aload_n O dX5_isNewName_19 rfl ?_
    obtain ⟨c20, hw⟩ := hw
    refine gf_X5_toldCount O dX5_isNewName_20 fl_X5_52 c20 ?_
    refine g_icmp_ge (tgt := 52) O dX5_isNewName_23 rfl (fun q23 => ?_) (fun q23 => ?_)
    · have hw := hw.1 q23
      refine g_mask [true, false] rfl rfl ?_
      exact okX5_isNewName_j52 O hw
    · have hw := hw.2 q23
      refine g_aload_n O dX5_isNewName_26 rfl ?_
      refine gf_X5_toldNames O dX5_isNewName_27 fl_X5_18 c20 ?_
      refine g_iload_n O dX5_isNewName_30 rfl ?_
      obtain ⟨c31, hw⟩ := hw
      refine g_laload O dX5_isNewName_31 c31.1 c31.2 ?_
      refine g_aload_n O dX5_isNewName_32 rfl ?_
      refine g_callV (As := []) (rest := [vj ((gJ h (gR h a0 1) (ix x1)))]) O ci_5 rfl dX5_isNewName_33 ml_X5_111 im_yX5_code se_yX5_code ini_X5 co_yX5_code yo_yX5_code c20 rfl rfl (Nat.le_of_ble_eq_true rfl) ⟨by decide, by decide, by decide, by decide⟩ (okX5_code hw) (k_J fun r33 h33 hw => ?_)
      refine g_lcmp O dX5_isNewName_36 ?_
      refine g_if_ne (tgt := 46) O dX5_isNewName_37 rfl (fun q37 => ?_) (fun q37 => ?_)
      · have hw := hw.1 q37
        refine g_iinc (lc' := [some (vr a0), some (vi (x1 + (1 : Int32)))]) O dX5_isNewName_46 rfl kv_1 rfl rfl ?_
        refine g_goto (tgt := 18) O dX5_isNewName_49 rfl ?_
        exact hB18 _ _ hw
      · have hw := hw.2 q37
        refine g_aload_n O dX5_isNewName_40 rfl ?_
        refine g_iconst O dX5_isNewName_41 kv_3 ?_
        refine g_callV (As := [vi (3 : Int32)]) (rest := []) O ci_5 rfl dX5_isNewName_42 ml_X5_92 im_yX5_fail se_yX5_fail ini_X5 co_yX5_fail yo_yX5_fail c20 rfl rfl (Nat.le_of_ble_eq_true rfl) ⟨by decide, by decide, by decide, by decide⟩ (okX5_fail hw) (k_I fun r42 h42 hw => ?_)
        obtain ⟨c45z, hw⟩ := hw
        exact g_zreturn O dX5_isNewName_45 c45z ⟨rfl, rfl, _, rfl, hw⟩
theorem okX5_isNewName {E : Ev} {S : Sh} {Z : Option Nat} {Q : Int32 → Hp → Prop} {h : Hp} {a0 : Nat} (hw : wX5_isNewName S h a0 Q) : Ct E yX5_isNewName cX5_isNewName 2 (some .boolean) 2 45 0 0 S Z h [vr a0] (qI S Z Q) := by
  refine Ct.of (by decide) (lc := [some (vr a0), none]) (Nat.le_of_ble_eq_true rfl) rfl (fun X O => ?_)
  unfold wX5_isNewName at hw
  refine g_aload_n O dX5_isNewName_0 rfl ?_
  obtain ⟨c1, hw⟩ := hw
  refine g_callV (As := []) (rest := []) O ci_5 rfl dX5_isNewName_1 ml_X5_65 im_yX5_kind se_yX5_kind ini_X5 co_yX5_kind yo_yX5_kind c1 rfl rfl (Nat.le_of_ble_eq_true rfl) ⟨by decide, by decide, by decide, by decide⟩ (okX5_kind hw) (k_I fun r1 h1 hw => ?_)
  refine g_sipush O dX5_isNewName_4 ks_302 ?_
  refine g_icmp_eq (tgt := 16) O dX5_isNewName_7 rfl (fun q7 => ?_) (fun q7 => ?_)
  · have hw := hw.1 q7
    refine g_iconst O dX5_isNewName_16 kv_0 ?_
    refine g_istore_n (lc' := [some (vr a0), some (vi (0 : Int32))]) O dX5_isNewName_17 rfl (Nat.le_of_ble_eq_true rfl) rfl ?_
    obtain ⟨n18, hw⟩ := hw
    exact okX5_isNewName_18 O n18 _ _ hw
  · have hw := hw.2 q7
    refine g_aload_n O dX5_isNewName_10 rfl ?_
    refine g_iconst O dX5_isNewName_11 kv_1 ?_
    refine g_callV (As := [vi (1 : Int32)]) (rest := []) O ci_5 rfl dX5_isNewName_12 ml_X5_92 im_yX5_fail se_yX5_fail ini_X5 co_yX5_fail yo_yX5_fail c1 rfl rfl (Nat.le_of_ble_eq_true rfl) ⟨by decide, by decide, by decide, by decide⟩ (okX5_fail hw) (k_I fun r12 h12 hw => ?_)
    obtain ⟨c15z, hw⟩ := hw
    exact g_zreturn O dX5_isNewName_15 c15z ⟨rfl, rfl, _, rfl, hw⟩
theorem dX5_number_0 : decode cX5_number 0 = .ok (.aload_n 0, 1) := by decide +kernel
theorem dX5_number_1 : decode cX5_number 1 = .ok (.getfield 12, 3) := by decide +kernel
theorem dX5_number_4 : decode cX5_number 4 = .ok (.getfield 233, 3) := by decide +kernel
theorem dX5_number_7 : decode cX5_number 7 = .ok (.aload_n 0, 1) := by decide +kernel
theorem dX5_number_8 : decode cX5_number 8 = .ok (.getfield 56, 3) := by decide +kernel
theorem dX5_number_11 : decode cX5_number 11 = .ok (.laload, 1) := by decide +kernel
theorem dX5_number_12 : decode cX5_number 12 = .ok (.l2i, 1) := by decide +kernel
theorem dX5_number_13 : decode cX5_number 13 = .ok (.ireturn, 1) := by decide +kernel
theorem okX5_number {E : Ev} {S : Sh} {Z : Option Nat} {Q : Int32 → Hp → Prop} {h : Hp} {a0 : Nat} (hw : wX5_number S h a0 Q) : Ct E yX5_number cX5_number 1 (some .int) 1 24 0 0 S Z h [vr a0] (qI S Z Q) := by
  refine Ct.of (by decide) (lc := [some (vr a0)]) (Nat.le_of_ble_eq_true rfl) rfl (fun X O => ?_)
  unfold wX5_number at hw
  refine g_aload_n O dX5_number_0 rfl ?_
  obtain ⟨c1, hw⟩ := hw
  refine gf_X5_tokens O dX5_number_1 fl_X5_12 c1 ?_
  obtain ⟨c4, hw⟩ := hw
  refine gf_X8_codes O dX5_number_4 fl_X5_233 c4 ?_
  refine g_aload_n O dX5_number_7 rfl ?_
  refine gf_X5_at O dX5_number_8 fl_X5_56 c1 ?_
  obtain ⟨c11, hw⟩ := hw
  refine g_laload O dX5_number_11 c11.1 c11.2 ?_
  refine g_l2i O dX5_number_12 ?_
  exact g_ireturn O dX5_number_13 ⟨rfl, rfl, _, rfl, hw⟩
