theorem tb_1 : ∀ w, w ∈ tables_1_1 → w ∈ lw_tbl := fun w h => List.mem_append_right _ (List.mem_append_left _ h)
theorem tb_2 : ∀ w, w ∈ tables_1_2 → w ∈ lw_tbl := fun w h => List.mem_append_right _ (List.mem_append_right _ (List.mem_append_left _ h))
theorem tb_3 : ∀ w, w ∈ tables_1_3 → w ∈ lw_tbl := fun w h => List.mem_append_right _ (List.mem_append_right _ (List.mem_append_right _ (List.mem_append_left _ h)))
theorem tb_4 : ∀ w, w ∈ tables_1_4 → w ∈ lw_tbl := fun w h => List.mem_append_right _ (List.mem_append_right _ (List.mem_append_right _ (List.mem_append_right _ (List.mem_append_left _ h))))
theorem tb_5 : ∀ w, w ∈ tables_1_5 → w ∈ lw_tbl := fun w h => List.mem_append_right _ (List.mem_append_right _ (List.mem_append_right _ (List.mem_append_right _ (List.mem_append_right _ (List.mem_append_left _ h)))))
theorem tb_6 : ∀ w, w ∈ tables_1_6 → w ∈ lw_tbl := fun w h => List.mem_append_right _ (List.mem_append_right _ (List.mem_append_right _ (List.mem_append_right _ (List.mem_append_right _ (List.mem_append_right _ (List.mem_append_left _ h))))))
theorem tb_7 : ∀ w, w ∈ tables_1_7 → w ∈ lw_tbl := fun w h => List.mem_append_right _ (List.mem_append_right _ (List.mem_append_right _ (List.mem_append_right _ (List.mem_append_right _ (List.mem_append_right _ (List.mem_append_right _ (List.mem_append_left _ h)))))))
theorem tb_8 : ∀ w, w ∈ tables_1_8 → w ∈ lw_tbl := fun w h => List.mem_append_right _ (List.mem_append_right _ (List.mem_append_right _ (List.mem_append_right _ (List.mem_append_right _ (List.mem_append_right _ (List.mem_append_right _ (List.mem_append_right _ (List.mem_append_left _ h))))))))
theorem tb_9 : ∀ w, w ∈ tables_1_9 → w ∈ lw_tbl := fun w h => List.mem_append_right _ (List.mem_append_right _ (List.mem_append_right _ (List.mem_append_right _ (List.mem_append_right _ (List.mem_append_right _ (List.mem_append_right _ (List.mem_append_right _ (List.mem_append_right _ h))))))))
theorem xwt_0 : Cond.methodLinkNest "FinerSteps" 15 yX5_init "FinerSteps" ∈ lw_tbl ∧ (Cond.methodLinkNest "FinerSteps" 15 yX5_init "FinerSteps").onTables = true := ⟨tb_1 _ (List.mem_of_getElem? (i := 36) (by decide +kernel)), by decide +kernel⟩
theorem xwt_1 : Cond.methodLinkNest "FinerSteps" 22 yX1_init "FinerSteps" ∈ lw_tbl ∧ (Cond.methodLinkNest "FinerSteps" 22 yX1_init "FinerSteps").onTables = true := ⟨tb_1 _ (List.mem_of_getElem? (i := 161) (by decide +kernel)), by decide +kernel⟩
theorem xwt_2 : Cond.methodLinkNest "FinerSteps$Judge" 11 yX7_init "FinerSteps" ∈ lw_tbl ∧ (Cond.methodLinkNest "FinerSteps$Judge" 11 yX7_init "FinerSteps").onTables = true := ⟨tb_1 _ (List.mem_of_getElem? (i := 167) (by decide +kernel)), by decide +kernel⟩
theorem xwt_3 : Cond.methodLinkNest "FinerSteps" 29 yX10_init "FinerSteps" ∈ lw_tbl ∧ (Cond.methodLinkNest "FinerSteps" 29 yX10_init "FinerSteps").onTables = true := ⟨tb_1 _ (List.mem_of_getElem? (i := 196) (by decide +kernel)), by decide +kernel⟩
theorem xwt_4 : Cond.methodLinkNest "FinerSteps$Walk" 11 yX7_init "FinerSteps" ∈ lw_tbl ∧ (Cond.methodLinkNest "FinerSteps$Walk" 11 yX7_init "FinerSteps").onTables = true := ⟨tb_1 _ (List.mem_of_getElem? (i := 201) (by decide +kernel)), by decide +kernel⟩
theorem xwt_5 : Cond.methodLinkNest "FinerSteps" 36 yX4_init "FinerSteps" ∈ lw_tbl ∧ (Cond.methodLinkNest "FinerSteps" 36 yX4_init "FinerSteps").onTables = true := ⟨tb_1 _ (List.mem_of_getElem? (i := 224) (by decide +kernel)), by decide +kernel⟩
theorem xwt_6 : Cond.methodLinkNest "FinerSteps" 43 yX6_init "FinerSteps" ∈ lw_tbl ∧ (Cond.methodLinkNest "FinerSteps" 43 yX6_init "FinerSteps").onTables = true := ⟨tb_2 _ (List.mem_of_getElem? (i := 2) (by decide +kernel)), by decide +kernel⟩
theorem xwt_7 : Cond.methodLinkNest "FinerSteps$Machine" 53 yX0_init "FinerSteps" ∈ lw_tbl ∧ (Cond.methodLinkNest "FinerSteps$Machine" 53 yX0_init "FinerSteps").onTables = true := ⟨tb_2 _ (List.mem_of_getElem? (i := 35) (by decide +kernel)), by decide +kernel⟩
theorem xwt_8 : Cond.methodLinkNest "FinerSteps$Machine" 54 yX7_init "FinerSteps" ∈ lw_tbl ∧ (Cond.methodLinkNest "FinerSteps$Machine" 54 yX7_init "FinerSteps").onTables = true := ⟨tb_2 _ (List.mem_of_getElem? (i := 93) (by decide +kernel)), by decide +kernel⟩
theorem xwt_9 : Cond.methodLinkNest "FinerSteps$Machine" 55 yX9_init "FinerSteps" ∈ lw_tbl ∧ (Cond.methodLinkNest "FinerSteps$Machine" 55 yX9_init "FinerSteps").onTables = true := ⟨tb_2 _ (List.mem_of_getElem? (i := 95) (by decide +kernel)), by decide +kernel⟩
theorem xwt_10 : Cond.methodLinkNest "FinerSteps$Scroll" 28 yX11_lengthOf "FinerSteps" ∈ lw_tbl ∧ (Cond.methodLinkNest "FinerSteps$Scroll" 28 yX11_lengthOf "FinerSteps").onTables = true := ⟨tb_5 _ (List.mem_of_getElem? (i := 55) (by decide +kernel)), by decide +kernel⟩
theorem xwt_11 : Cond.methodLinkNest "FinerSteps$Scroll" 32 yX11_letterOf "FinerSteps" ∈ lw_tbl ∧ (Cond.methodLinkNest "FinerSteps$Scroll" 32 yX11_letterOf "FinerSteps").onTables = true := ⟨tb_5 _ (List.mem_of_getElem? (i := 58) (by decide +kernel)), by decide +kernel⟩
theorem xwt_12 : Cond.castable "java/util/NoSuchElementException" "java/util/NoSuchElementException" ∈ lw_tbl ∧ (Cond.castable "java/util/NoSuchElementException" "java/util/NoSuchElementException").onTables = true := ⟨tb_5 _ (List.mem_of_getElem? (i := 227) (by decide +kernel)), by decide +kernel⟩
theorem xwt_13 : Cond.declares (⟨"java/lang/RuntimeException", "<init>", "()V"⟩ : MethodName) ∈ lw_tbl ∧ (Cond.declares (⟨"java/lang/RuntimeException", "<init>", "()V"⟩ : MethodName)).onTables = true := ⟨tb_5 _ (List.mem_of_getElem? (i := 228) (by decide +kernel)), by decide +kernel⟩
theorem xwt_14 : Cond.declares (⟨"java/lang/RuntimeException", "<init>", "(Ljava/lang/String;)V"⟩ : MethodName) ∈ lw_tbl ∧ (Cond.declares (⟨"java/lang/RuntimeException", "<init>", "(Ljava/lang/String;)V"⟩ : MethodName)).onTables = true := ⟨tb_5 _ (List.mem_of_getElem? (i := 229) (by decide +kernel)), by decide +kernel⟩
theorem xwt_15 : Cond.declares (⟨"java/lang/Exception", "<init>", "()V"⟩ : MethodName) ∈ lw_tbl ∧ (Cond.declares (⟨"java/lang/Exception", "<init>", "()V"⟩ : MethodName)).onTables = true := ⟨tb_5 _ (List.mem_of_getElem? (i := 230) (by decide +kernel)), by decide +kernel⟩
theorem xwt_16 : Cond.declares (⟨"java/lang/Exception", "<init>", "(Ljava/lang/String;)V"⟩ : MethodName) ∈ lw_tbl ∧ (Cond.declares (⟨"java/lang/Exception", "<init>", "(Ljava/lang/String;)V"⟩ : MethodName)).onTables = true := ⟨tb_5 _ (List.mem_of_getElem? (i := 231) (by decide +kernel)), by decide +kernel⟩
theorem xwt_17 : Cond.declares (⟨"java/lang/Throwable", "<init>", "()V"⟩ : MethodName) ∈ lw_tbl ∧ (Cond.declares (⟨"java/lang/Throwable", "<init>", "()V"⟩ : MethodName)).onTables = true := ⟨tb_5 _ (List.mem_of_getElem? (i := 232) (by decide +kernel)), by decide +kernel⟩
theorem xwt_18 : Cond.declares (⟨"java/lang/Throwable", "<init>", "(Ljava/lang/String;)V"⟩ : MethodName) ∈ lw_tbl ∧ (Cond.declares (⟨"java/lang/Throwable", "<init>", "(Ljava/lang/String;)V"⟩ : MethodName)).onTables = true := ⟨tb_5 _ (List.mem_of_getElem? (i := 233) (by decide +kernel)), by decide +kernel⟩
theorem xwt_19 : Cond.castable "FinerSteps" "java/lang/Object" ∈ lw_tbl ∧ (Cond.castable "FinerSteps" "java/lang/Object").onTables = true := ⟨tb_8 _ (List.mem_of_getElem? (i := 236) (by decide +kernel)), by decide +kernel⟩
theorem xwt_20 : Cond.castable "FinerSteps$Reader" "java/lang/Object" ∈ lw_tbl ∧ (Cond.castable "FinerSteps$Reader" "java/lang/Object").onTables = true := ⟨tb_8 _ (List.mem_of_getElem? (i := 237) (by decide +kernel)), by decide +kernel⟩
theorem xwt_21 : Cond.castable "FinerSteps$Tokens" "java/lang/Object" ∈ lw_tbl ∧ (Cond.castable "FinerSteps$Tokens" "java/lang/Object").onTables = true := ⟨tb_8 _ (List.mem_of_getElem? (i := 238) (by decide +kernel)), by decide +kernel⟩
theorem xwt_22 : Cond.castable "FinerSteps$Judge" "java/lang/Object" ∈ lw_tbl ∧ (Cond.castable "FinerSteps$Judge" "java/lang/Object").onTables = true := ⟨tb_8 _ (List.mem_of_getElem? (i := 239) (by decide +kernel)), by decide +kernel⟩
theorem xwt_23 : Cond.castable "FinerSteps$StateSet" "java/lang/Object" ∈ lw_tbl ∧ (Cond.castable "FinerSteps$StateSet" "java/lang/Object").onTables = true := ⟨tb_9 _ (List.mem_of_getElem? (i := 0) (by decide +kernel)), by decide +kernel⟩
theorem xwt_24 : Cond.castable "FinerSteps$Walk" "java/lang/Object" ∈ lw_tbl ∧ (Cond.castable "FinerSteps$Walk" "java/lang/Object").onTables = true := ⟨tb_9 _ (List.mem_of_getElem? (i := 1) (by decide +kernel)), by decide +kernel⟩
theorem xwt_25 : Cond.castable "FinerSteps$Paths" "java/lang/Object" ∈ lw_tbl ∧ (Cond.castable "FinerSteps$Paths" "java/lang/Object").onTables = true := ⟨tb_9 _ (List.mem_of_getElem? (i := 2) (by decide +kernel)), by decide +kernel⟩
theorem xwt_26 : Cond.castable "FinerSteps$Scroll" "java/lang/Object" ∈ lw_tbl ∧ (Cond.castable "FinerSteps$Scroll" "java/lang/Object").onTables = true := ⟨tb_9 _ (List.mem_of_getElem? (i := 3) (by decide +kernel)), by decide +kernel⟩
theorem xwt_27 : Cond.castable "FinerSteps$Model" "java/lang/Object" ∈ lw_tbl ∧ (Cond.castable "FinerSteps$Model" "java/lang/Object").onTables = true := ⟨tb_9 _ (List.mem_of_getElem? (i := 4) (by decide +kernel)), by decide +kernel⟩
theorem xwt_28 : Cond.castable "FinerSteps$Machine" "java/lang/Object" ∈ lw_tbl ∧ (Cond.castable "FinerSteps$Machine" "java/lang/Object").onTables = true := ⟨tb_9 _ (List.mem_of_getElem? (i := 5) (by decide +kernel)), by decide +kernel⟩
theorem xwt_29 : Cond.castable "FinerSteps$Event" "java/lang/Object" ∈ lw_tbl ∧ (Cond.castable "FinerSteps$Event" "java/lang/Object").onTables = true := ⟨tb_9 _ (List.mem_of_getElem? (i := 6) (by decide +kernel)), by decide +kernel⟩
theorem xwt_30 : Cond.castable "FinerSteps$Verdict" "java/lang/Object" ∈ lw_tbl ∧ (Cond.castable "FinerSteps$Verdict" "java/lang/Object").onTables = true := ⟨tb_9 _ (List.mem_of_getElem? (i := 7) (by decide +kernel)), by decide +kernel⟩
theorem xwt_31 : Cond.castable "FinerStepsModel" "java/lang/Object" ∈ lw_tbl ∧ (Cond.castable "FinerStepsModel" "java/lang/Object").onTables = true := ⟨tb_9 _ (List.mem_of_getElem? (i := 8) (by decide +kernel)), by decide +kernel⟩
theorem xwt_32 : Cond.castable "java/util/NoSuchElementException" "java/lang/Object" ∈ lw_tbl ∧ (Cond.castable "java/util/NoSuchElementException" "java/lang/Object").onTables = true := ⟨tb_9 _ (List.mem_of_getElem? (i := 9) (by decide +kernel)), by decide +kernel⟩
theorem xwt_33 : Cond.castable "java/lang/Throwable" "java/lang/Object" ∈ lw_tbl ∧ (Cond.castable "java/lang/Throwable" "java/lang/Object").onTables = true := ⟨tb_9 _ (List.mem_of_getElem? (i := 10) (by decide +kernel)), by decide +kernel⟩
theorem xwt_34 : Cond.castable "java/lang/String" "java/lang/Object" ∈ lw_tbl ∧ (Cond.castable "java/lang/String" "java/lang/Object").onTables = true := ⟨tb_9 _ (List.mem_of_getElem? (i := 11) (by decide +kernel)), by decide +kernel⟩
theorem XW_tbl : ∀ w ∈ XW, w ∈ lw_tbl ∧ w.onTables = true := List.forall_mem_cons.mpr ⟨xwt_0, List.forall_mem_cons.mpr ⟨xwt_1, List.forall_mem_cons.mpr ⟨xwt_2, List.forall_mem_cons.mpr ⟨xwt_3, List.forall_mem_cons.mpr ⟨xwt_4, List.forall_mem_cons.mpr ⟨xwt_5, List.forall_mem_cons.mpr ⟨xwt_6, List.forall_mem_cons.mpr ⟨xwt_7, List.forall_mem_cons.mpr ⟨xwt_8, List.forall_mem_cons.mpr ⟨xwt_9, List.forall_mem_cons.mpr ⟨xwt_10, List.forall_mem_cons.mpr ⟨xwt_11, List.forall_mem_cons.mpr ⟨xwt_12, List.forall_mem_cons.mpr ⟨xwt_13, List.forall_mem_cons.mpr ⟨xwt_14, List.forall_mem_cons.mpr ⟨xwt_15, List.forall_mem_cons.mpr ⟨xwt_16, List.forall_mem_cons.mpr ⟨xwt_17, List.forall_mem_cons.mpr ⟨xwt_18, List.forall_mem_cons.mpr ⟨xwt_19, List.forall_mem_cons.mpr ⟨xwt_20, List.forall_mem_cons.mpr ⟨xwt_21, List.forall_mem_cons.mpr ⟨xwt_22, List.forall_mem_cons.mpr ⟨xwt_23, List.forall_mem_cons.mpr ⟨xwt_24, List.forall_mem_cons.mpr ⟨xwt_25, List.forall_mem_cons.mpr ⟨xwt_26, List.forall_mem_cons.mpr ⟨xwt_27, List.forall_mem_cons.mpr ⟨xwt_28, List.forall_mem_cons.mpr ⟨xwt_29, List.forall_mem_cons.mpr ⟨xwt_30, List.forall_mem_cons.mpr ⟨xwt_31, List.forall_mem_cons.mpr ⟨xwt_32, List.forall_mem_cons.mpr ⟨xwt_33, List.forall_mem_cons.mpr ⟨xwt_34, fun _ h => absurd h List.not_mem_nil⟩⟩⟩⟩⟩⟩⟩⟩⟩⟩⟩⟩⟩⟩⟩⟩⟩⟩⟩⟩⟩⟩⟩⟩⟩⟩⟩⟩⟩⟩⟩⟩⟩⟩⟩
theorem srt_0 : Cond.stringRef "FinerSteps$Tokens" 25 "machine var from to at law event of any when do variant or and not pick " ∈ lw_tbl := tb_1 _ (List.mem_of_getElem? (i := 46) (by decide +kernel))
theorem srt_1 : Cond.stringRef "FinerSteps" 222 "pick=" ∈ lw_tbl := tb_5 _ (List.mem_of_getElem? (i := 72) (by decide +kernel))
theorem srt_2 : Cond.stringRef "FinerStepsModel" 204 "machine" ∈ lw_tbl := tb_7 _ (List.mem_of_getElem? (i := 61) (by decide +kernel))
theorem srt_3 : Cond.stringRef "FinerStepsModel" 206 "var" ∈ lw_tbl := tb_7 _ (List.mem_of_getElem? (i := 91) (by decide +kernel))
theorem srt_4 : Cond.stringRef "FinerStepsModel" 208 "from" ∈ lw_tbl := tb_7 _ (List.mem_of_getElem? (i := 92) (by decide +kernel))
theorem srt_5 : Cond.stringRef "FinerStepsModel" 210 "to" ∈ lw_tbl := tb_7 _ (List.mem_of_getElem? (i := 93) (by decide +kernel))
theorem srt_6 : Cond.stringRef "FinerStepsModel" 212 "at" ∈ lw_tbl := tb_7 _ (List.mem_of_getElem? (i := 94) (by decide +kernel))
theorem srt_7 : Cond.stringRef "FinerStepsModel" 213 "law" ∈ lw_tbl := tb_7 _ (List.mem_of_getElem? (i := 95) (by decide +kernel))
theorem srt_8 : Cond.stringRef "FinerStepsModel" 215 "event" ∈ lw_tbl := tb_7 _ (List.mem_of_getElem? (i := 96) (by decide +kernel))
theorem srt_9 : Cond.stringRef "FinerStepsModel" 217 "of" ∈ lw_tbl := tb_7 _ (List.mem_of_getElem? (i := 97) (by decide +kernel))
theorem srt_10 : Cond.stringRef "FinerStepsModel" 219 "any" ∈ lw_tbl := tb_7 _ (List.mem_of_getElem? (i := 98) (by decide +kernel))
theorem srt_11 : Cond.stringRef "FinerStepsModel" 221 "when" ∈ lw_tbl := tb_7 _ (List.mem_of_getElem? (i := 99) (by decide +kernel))
theorem srt_12 : Cond.stringRef "FinerStepsModel" 223 "do" ∈ lw_tbl := tb_7 _ (List.mem_of_getElem? (i := 100) (by decide +kernel))
theorem srt_13 : Cond.stringRef "FinerStepsModel" 225 "variant" ∈ lw_tbl := tb_7 _ (List.mem_of_getElem? (i := 101) (by decide +kernel))
theorem srt_14 : Cond.stringRef "FinerStepsModel" 227 "or" ∈ lw_tbl := tb_7 _ (List.mem_of_getElem? (i := 102) (by decide +kernel))
theorem srt_15 : Cond.stringRef "FinerStepsModel" 229 "and" ∈ lw_tbl := tb_7 _ (List.mem_of_getElem? (i := 103) (by decide +kernel))
theorem srt_16 : Cond.stringRef "FinerStepsModel" 231 "not" ∈ lw_tbl := tb_7 _ (List.mem_of_getElem? (i := 104) (by decide +kernel))
theorem srt_17 : Cond.stringRef "FinerStepsModel" 233 "pick" ∈ lw_tbl := tb_7 _ (List.mem_of_getElem? (i := 105) (by decide +kernel))
theorem aot_0 : Cond.arrayOver (FieldType.object "FinerSteps$Event") ∈ lw_tbl := tb_2 _ (List.mem_of_getElem? (i := 29) (by decide +kernel))
theorem aot_1 : Cond.arrayOver (FieldType.object "FinerSteps$Machine") ∈ lw_tbl := tb_2 _ (List.mem_of_getElem? (i := 22) (by decide +kernel))
theorem aot_2 : Cond.arrayOver (FieldType.object "FinerSteps$StateSet") ∈ lw_tbl := tb_2 _ (List.mem_of_getElem? (i := 31) (by decide +kernel))
theorem aot_3 : Cond.arrayOver (FieldType.object "FinerSteps$Verdict") ∈ lw_tbl := tb_2 _ (List.mem_of_getElem? (i := 33) (by decide +kernel))
theorem lst_cs : Cond.laysStatic "java/lang/String" "COMPACT_STRINGS" "Z" ∈ lw_tbl := tb_1 _ (List.mem_of_getElem? (i := 56) (by decide +kernel))
theorem lst_si : Cond.laysStatic "jdk/internal/util/Preconditions" "SIOOBE_FORMATTER" "Ljava/util/function/BiFunction;" ∈ lw_tbl := tb_1 _ (List.mem_of_getElem? (i := 72) (by decide +kernel))
theorem lst_us : Cond.laysStatic "java/lang/Throwable" "UNASSIGNED_STACK" "[Ljava/lang/StackTraceElement;" ∈ lw_tbl := tb_6 _ (List.mem_of_getElem? (i := 12) (by decide +kernel))
theorem lst_ss : Cond.laysStatic "java/lang/Throwable" "SUPPRESSED_SENTINEL" "Ljava/util/List;" ∈ lw_tbl := tb_6 _ (List.mem_of_getElem? (i := 14) (by decide +kernel))
theorem lst_it : Cond.initialized "java/lang/Throwable" ∈ lw_tbl := tb_1 _ (List.mem_of_getElem? (i := 22) (by decide +kernel))
theorem lst_is : Cond.initialized "java/lang/String" ∈ lw_tbl := tb_1 _ (List.mem_of_getElem? (i := 4) (by decide +kernel))
theorem lst_ip : Cond.initialized "jdk/internal/util/Preconditions" ∈ lw_tbl := tb_1 _ (List.mem_of_getElem? (i := 6) (by decide +kernel))
theorem en_prim {args : Array Value} {s : State} {t : FieldType} (h : (Cond.arrayClass t).before args s = true) : ∃ c : ClassId, ArrOfT s c t ∧ s.vm.findClass ("[" ++ t.toString) = some c := by
  obtain ⟨c, k, comp, h1, h2, h3⟩ := Cond.arrayClass_spec h
  exact ⟨c, fun n z => ⟨fun k hk => by simp [arrV] at hk, k, h2, comp, h3⟩, h1⟩
theorem en_obj {args : Array Value} {s : State} {C : String} (h : (Cond.arrayOver (.object C)).before args s = true) : ∃ c : ClassId, ArrOfT s c (.object C) ∧ va_RA s c (.object C) := by
  obtain ⟨comp, c, k, h1, h2, h3, h4, h5⟩ := Cond.arrayOver_spec h
  exact ⟨c, fun n z => ⟨fun k hk => by simp [arrV] at hk, k, h3, comp, h4⟩, k, comp, h3, h4, h1, h5⟩
def flN : List Cond := flatC (Jvm.Cond.and given_1 narrow_1)
def tmS (i : Nat) : Term := Term.string (strW.getD i ("", 0, "")).1 (strW.getD i ("", 0, "")).2.1
def ixS : List Nat := [24, 100, 110, 123, 133, 145, 156, 168, 182, 199, 214, 231, 250, 268, 292, 312, 334, 357]
theorem fn_ex : ∀ i : Nat, i < 18 → flN[ixS.getD i 0]? = some (Cond.exactly (tmS i) "java/lang/String") := by decide +kernel
theorem fn_co : ∀ i : Nat, i < 18 → flN[ixS.getD i 0 + 1]? = some (Cond.eq (.field (tmS i) "java/lang/String" "coder" "B") (.int 0)) := by decide +kernel
theorem fn_ar : ∀ i : Nat, i < 18 → flN[ixS.getD i 0 + 2]? = some (Cond.arrayOf (.field (tmS i) "java/lang/String" "value" "[B") .byte) := by decide +kernel
theorem fn_le : ∀ i : Nat, i < 18 → flN[ixS.getD i 0 + 3]? = some (Cond.eq (.length (.field (tmS i) "java/lang/String" "value" "[B")) (.int (Int32.ofNat (lenS.getD i 0)))) := by decide +kernel
theorem fn_el : ∀ i : Nat, i < 18 → ∀ j : Nat, j < lenS.getD i 0 → flN[ixS.getD i 0 + 4 + j]? = some (Cond.eq (.elem (.field (tmS i) "java/lang/String" "value" "[B") (.int (Int32.ofNat j))) (.int ((bytS.getD i []).getD j 0))) := by decide +kernel
theorem fn_ne : ∀ j : Nat, j < 18 → ∀ i : Nat, i < j → flN[ixS.getD j 0 + 4 + lenS.getD j 0 + i]? = some (Cond.not (Cond.eq (tmS i) (tmS j))) := by decide +kernel
theorem fn_cs : flN[4]? = some (Cond.eq (Term.static "java/lang/String" "COMPACT_STRINGS" "Z") (Term.int 1)) := by decide +kernel
theorem fn_si : flN[5]? = some (Cond.isRef (Term.static "jdk/internal/util/Preconditions" "SIOOBE_FORMATTER" "Ljava/util/function/BiFunction;")) := by decide +kernel
theorem fn_us : flN[9]? = some (Cond.isRef (Term.static "java/lang/Throwable" "UNASSIGNED_STACK" "[Ljava/lang/StackTraceElement;")) := by decide +kernel
theorem fn_ss : flN[10]? = some (Cond.isRef (Term.static "java/lang/Throwable" "SUPPRESSED_SENTINEL" "Ljava/util/List;")) := by decide +kernel
theorem en_len : ∀ i : Nat, i < 18 → lenS.getD i 0 < 2 ^ 31 := by decide +kernel
theorem en_cls {args : Array Value} {s : State} (hts : ∀ w ∈ lw_tbl, w.before args s = true) : ∀ c : Nat, ∃ D : ClassId × (Nat → Nat), ∀ q : vw_C, vwCl[c]? = some q → u_Kn s q.1 q.2.1 q.2.2 D.1 D.2
  | 0 => by
    obtain ⟨cC, iS, hK⟩ := u_known (C := RX0) (T := TX0) (N := 11) (n := 11) hts (fun w hw => big_tbl _ (uw_X0 w hw)) (hts _ (big_tbl _ ins_X0))
    refine ⟨(cC, iS), fun q hq => ?_⟩
    have e : (RX0, TX0, 11) = q := Option.some.inj (show some (RX0, TX0, 11) = some q from hq)
    subst e
    exact hK
  | 1 => by
    obtain ⟨cC, iS, hK⟩ := u_known (C := RX1) (T := TX1) (N := 5) (n := 5) hts (fun w hw => big_tbl _ (uw_X1 w hw)) (hts _ (big_tbl _ ins_X1))
    refine ⟨(cC, iS), fun q hq => ?_⟩
    have e : (RX1, TX1, 5) = q := Option.some.inj (show some (RX1, TX1, 5) = some q from hq)
    subst e
    exact hK
  | 2 => by
    obtain ⟨cC, iS, hK⟩ := u_known (C := RX2) (T := TX2) (N := 18) (n := 18) hts (fun w hw => big_tbl _ (uw_X2 w hw)) (hts _ (big_tbl _ ins_X2))
    refine ⟨(cC, iS), fun q hq => ?_⟩
    have e : (RX2, TX2, 18) = q := Option.some.inj (show some (RX2, TX2, 18) = some q from hq)
    subst e
    exact hK
  | 3 => by
    obtain ⟨cC, iS, hK⟩ := u_known (C := RX3) (T := TX3) (N := 7) (n := 7) hts (fun w hw => big_tbl _ (uw_X3 w hw)) (hts _ (big_tbl _ ins_X3))
    refine ⟨(cC, iS), fun q hq => ?_⟩
    have e : (RX3, TX3, 7) = q := Option.some.inj (show some (RX3, TX3, 7) = some q from hq)
    subst e
    exact hK
  | 4 => by
    obtain ⟨cC, iS, hK⟩ := u_known (C := RX4) (T := TX4) (N := 3) (n := 3) hts (fun w hw => big_tbl _ (uw_X4 w hw)) (hts _ (big_tbl _ ins_X4))
    refine ⟨(cC, iS), fun q hq => ?_⟩
    have e : (RX4, TX4, 3) = q := Option.some.inj (show some (RX4, TX4, 3) = some q from hq)
    subst e
    exact hK
  | 5 => by
    obtain ⟨cC, iS, hK⟩ := u_known (C := RX5) (T := TX5) (N := 12) (n := 12) hts (fun w hw => big_tbl _ (uw_X5 w hw)) (hts _ (big_tbl _ ins_X5))
    refine ⟨(cC, iS), fun q hq => ?_⟩
    have e : (RX5, TX5, 12) = q := Option.some.inj (show some (RX5, TX5, 12) = some q from hq)
    subst e
    exact hK
  | 6 => by
    obtain ⟨cC, iS, hK⟩ := u_known (C := RX6) (T := TX6) (N := 2) (n := 2) hts (fun w hw => big_tbl _ (uw_X6 w hw)) (hts _ (big_tbl _ ins_X6))
    refine ⟨(cC, iS), fun q hq => ?_⟩
    have e : (RX6, TX6, 2) = q := Option.some.inj (show some (RX6, TX6, 2) = some q from hq)
    subst e
    exact hK
  | 7 => by
    obtain ⟨cC, iS, hK⟩ := u_known (C := RX7) (T := TX7) (N := 2) (n := 2) hts (fun w hw => big_tbl _ (uw_X7 w hw)) (hts _ (big_tbl _ ins_X7))
    refine ⟨(cC, iS), fun q hq => ?_⟩
    have e : (RX7, TX7, 2) = q := Option.some.inj (show some (RX7, TX7, 2) = some q from hq)
    subst e
    exact hK
  | 8 => by
    obtain ⟨cC, iS, hK⟩ := u_known (C := RX8) (T := TX8) (N := 6) (n := 6) hts (fun w hw => big_tbl _ (uw_X8 w hw)) (hts _ (big_tbl _ ins_X8))
    refine ⟨(cC, iS), fun q hq => ?_⟩
    have e : (RX8, TX8, 6) = q := Option.some.inj (show some (RX8, TX8, 6) = some q from hq)
    subst e
    exact hK
  | 9 => by
    obtain ⟨cC, iS, hK⟩ := u_known (C := RX9) (T := TX9) (N := 5) (n := 5) hts (fun w hw => big_tbl _ (uw_X9 w hw)) (hts _ (big_tbl _ ins_X9))
    refine ⟨(cC, iS), fun q hq => ?_⟩
    have e : (RX9, TX9, 5) = q := Option.some.inj (show some (RX9, TX9, 5) = some q from hq)
    subst e
    exact hK
  | 10 => by
    obtain ⟨cC, iS, hK⟩ := u_known (C := RX10) (T := TX10) (N := 5) (n := 5) hts (fun w hw => big_tbl _ (uw_X10 w hw)) (hts _ (big_tbl _ ins_X10))
    refine ⟨(cC, iS), fun q hq => ?_⟩
    have e : (RX10, TX10, 5) = q := Option.some.inj (show some (RX10, TX10, 5) = some q from hq)
    subst e
    exact hK
  | 11 => by
    obtain ⟨cC, iS, hK⟩ := u_known (C := RX11) (T := TX11) (N := 14) (n := 14) hts (fun w hw => big_tbl _ (uw_X11 w hw)) (hts _ (big_tbl _ ins_X11))
    refine ⟨(cC, iS), fun q hq => ?_⟩
    have e : (RX11, TX11, 14) = q := Option.some.inj (show some (RX11, TX11, 14) = some q from hq)
    subst e
    exact hK
  | 12 => by
    obtain ⟨cC, iS, hK⟩ := u_known (C := RX12) (T := TX12) (N := 65) (n := 65) hts (fun w hw => big_tbl _ (uw_X12 w hw)) (hts _ (big_tbl _ ins_X12))
    refine ⟨(cC, iS), fun q hq => ?_⟩
    have e : (RX12, TX12, 65) = q := Option.some.inj (show some (RX12, TX12, 65) = some q from hq)
    subst e
    exact hK
  | (c + 13) => ⟨(0, fun _ => 0), fun q hq => nomatch (show none = some q from hq)⟩
theorem en_tys {args : Array Value} {s : State} (hts : ∀ w ∈ lw_tbl, w.before args s = true) : ∃ cy : Nat → ClassId, ∀ (k : Nat) (q : ClassId × FieldType), (tysE cy)[k]? = some q → ArrOfT s q.1 q.2 ∧ va_RA s q.1 q.2 := by
  obtain ⟨c0, a0, b0⟩ := en_prim (hts _ (big_tbl _ ac_int))
  obtain ⟨c1, a1, b1⟩ := en_prim (hts _ (big_tbl _ ac_byte))
  obtain ⟨c2, a2, b2⟩ := en_prim (hts _ (big_tbl _ ac_boolean))
  obtain ⟨c3, a3, b3⟩ := en_prim (hts _ (big_tbl _ ac_long))
  obtain ⟨c4, a4, b4⟩ := en_obj (hts _ aot_0)
  obtain ⟨c5, a5, b5⟩ := en_obj (hts _ aot_1)
  obtain ⟨c6, a6, b6⟩ := en_obj (hts _ aot_2)
  obtain ⟨c7, a7, b7⟩ := en_obj (hts _ aot_3)
  refine ⟨fun k => match k with | 0 => c0 | 1 => c1 | 2 => c2 | 3 => c3 | 4 => c4 | 5 => c5 | 6 => c6 | _ => c7, fun k q hq => ?_⟩
  match k, hq with
  | 0, hq =>
    have e : ((c0, .int) : ClassId × FieldType) = q := Option.some.inj (show some ((c0, .int) : ClassId × FieldType) = some q from hq)
    subst e
    exact ⟨a0, b0⟩
  | 1, hq =>
    have e : ((c1, .byte) : ClassId × FieldType) = q := Option.some.inj (show some ((c1, .byte) : ClassId × FieldType) = some q from hq)
    subst e
    exact ⟨a1, b1⟩
  | 2, hq =>
    have e : ((c2, .boolean) : ClassId × FieldType) = q := Option.some.inj (show some ((c2, .boolean) : ClassId × FieldType) = some q from hq)
    subst e
    exact ⟨a2, b2⟩
  | 3, hq =>
    have e : ((c3, .long) : ClassId × FieldType) = q := Option.some.inj (show some ((c3, .long) : ClassId × FieldType) = some q from hq)
    subst e
    exact ⟨a3, b3⟩
  | 4, hq =>
    have e : ((c4, .object "FinerSteps$Event") : ClassId × FieldType) = q := Option.some.inj (show some ((c4, .object "FinerSteps$Event") : ClassId × FieldType) = some q from hq)
    subst e
    exact ⟨a4, b4⟩
  | 5, hq =>
    have e : ((c5, .object "FinerSteps$Machine") : ClassId × FieldType) = q := Option.some.inj (show some ((c5, .object "FinerSteps$Machine") : ClassId × FieldType) = some q from hq)
    subst e
    exact ⟨a5, b5⟩
  | 6, hq =>
    have e : ((c6, .object "FinerSteps$StateSet") : ClassId × FieldType) = q := Option.some.inj (show some ((c6, .object "FinerSteps$StateSet") : ClassId × FieldType) = some q from hq)
    subst e
    exact ⟨a6, b6⟩
  | 7, hq =>
    have e : ((c7, .object "FinerSteps$Verdict") : ClassId × FieldType) = q := Option.some.inj (show some ((c7, .object "FinerSteps$Verdict") : ClassId × FieldType) = some q from hq)
    subst e
    exact ⟨a7, b7⟩
  | (k + 8), hq => exact absurd (show (none : Option (ClassId × FieldType)) = some q from hq) (by simp)
theorem env_start {s : State} (l : Launch) (hflags : l.flags = flags0) {b : Nat} (hts : ∀ w ∈ lw_tbl, w.before #[Value.ref b] s = true) (hb : b < s.heap.size) (hn : (Jvm.Cond.and given_1 narrow_1).before #[Value.ref b] s = true) : ∃ E : Ev, E.1 = l ∧ E.2.2.2.1 = s.heap.size ∧ EnvOK E s := by
  have hf : ∀ c ∈ flN, c.before #[Value.ref b] s = true := flat_of_before _ hn
  have hg : ∀ (k : Nat) (c : Cond), flN[k]? = some c → c.before #[Value.ref b] s = true := fun k c hk => hf c (List.mem_of_getElem? hk)
  have hA : ∀ a : Nat, a < s.heap.size → ¬ (fun q : Nat => s.heap.size ≤ q) a := fun a ha h => absurd ha (Nat.not_lt.mpr h)
  obtain ⟨D, hD⟩ := Classical.axiomOfChoice (en_cls hts)
  obtain ⟨cy, hcy⟩ := en_tys hts
  obtain ⟨adK, adV, hS, hK⟩ := vk_Sof (args := #[Value.ref b]) (s := s) (N := 18) (tm := tmS) (len := lenS) (byt := bytS) (A := fun q : Nat => s.heap.size ≤ q) en_len (fun i hi => hg _ _ (fn_ex i hi)) (fun i hi => hg _ _ (fn_co i hi)) (fun i hi => hg _ _ (fn_ar i hi)) (fun i hi => hg _ _ (fn_le i hi)) (fun i hi j hj => hg _ _ (fn_el i hi j hj))
    (fun i j hi hj hij => by
      rcases Nat.lt_or_gt_of_ne hij with h | h
      · exact Or.inl (hg _ _ (fn_ne j hj i h))
      · exact Or.inr (hg _ _ (fn_ne i hi j h))) hA
  refine ⟨(l, (fun c => (D c).1, fun c => (D c).2), cy, s.heap.size, adK, adV), rfl, rfl, ⟨fun c q hq => hD c q hq, hcy⟩, Nat.ne_of_gt (Nat.lt_of_le_of_lt (Nat.zero_le _) hb), Nat.le_refl _, ?_, hS, ?_,
    va_Zof (hts _ lst_cs) (hts _ lst_is) (va_eqt (hg _ _ fn_cs)) hA, va_Zqof (hts _ lst_si) (hts _ lst_ip) (hg _ _ fn_si) hA, vx_Zqof (hts _ lst_us) (hts _ lst_it) (hg _ _ fn_us) hA, vx_Zqof (hts _ lst_ss) (hts _ lst_it) (hg _ _ fn_ss) hA,
    fun w hw => va_Nw.of (XW_tbl w hw).2 (hts w (XW_tbl w hw).1), ?_⟩
  · show Launch.stackTraces l = false
    unfold Launch.stackTraces
    rw [hflags]
    decide +kernel
  · intro i q hq
    match i, hq with
    | 0, hq =>
      have e : ("FinerSteps$Tokens", 25, "machine var from to at law event of any when do variant or and not pick ") = q := Option.some.inj (show some ("FinerSteps$Tokens", 25, "machine var from to at law event of any when do variant or and not pick ") = some q from hq)
      subst e
      exact vk_R.of (hts _ srt_0) (hK 0 (by decide))
    | 1, hq =>
      have e : ("FinerSteps", 222, "pick=") = q := Option.some.inj (show some ("FinerSteps", 222, "pick=") = some q from hq)
      subst e
      exact vk_R.of (hts _ srt_1) (hK 1 (by decide))
    | 2, hq =>
      have e : ("FinerStepsModel", 204, "machine") = q := Option.some.inj (show some ("FinerStepsModel", 204, "machine") = some q from hq)
      subst e
      exact vk_R.of (hts _ srt_2) (hK 2 (by decide))
    | 3, hq =>
      have e : ("FinerStepsModel", 206, "var") = q := Option.some.inj (show some ("FinerStepsModel", 206, "var") = some q from hq)
      subst e
      exact vk_R.of (hts _ srt_3) (hK 3 (by decide))
    | 4, hq =>
      have e : ("FinerStepsModel", 208, "from") = q := Option.some.inj (show some ("FinerStepsModel", 208, "from") = some q from hq)
      subst e
      exact vk_R.of (hts _ srt_4) (hK 4 (by decide))
    | 5, hq =>
      have e : ("FinerStepsModel", 210, "to") = q := Option.some.inj (show some ("FinerStepsModel", 210, "to") = some q from hq)
      subst e
      exact vk_R.of (hts _ srt_5) (hK 5 (by decide))
    | 6, hq =>
      have e : ("FinerStepsModel", 212, "at") = q := Option.some.inj (show some ("FinerStepsModel", 212, "at") = some q from hq)
      subst e
      exact vk_R.of (hts _ srt_6) (hK 6 (by decide))
    | 7, hq =>
      have e : ("FinerStepsModel", 213, "law") = q := Option.some.inj (show some ("FinerStepsModel", 213, "law") = some q from hq)
      subst e
      exact vk_R.of (hts _ srt_7) (hK 7 (by decide))
    | 8, hq =>
      have e : ("FinerStepsModel", 215, "event") = q := Option.some.inj (show some ("FinerStepsModel", 215, "event") = some q from hq)
      subst e
      exact vk_R.of (hts _ srt_8) (hK 8 (by decide))
    | 9, hq =>
      have e : ("FinerStepsModel", 217, "of") = q := Option.some.inj (show some ("FinerStepsModel", 217, "of") = some q from hq)
      subst e
      exact vk_R.of (hts _ srt_9) (hK 9 (by decide))
    | 10, hq =>
      have e : ("FinerStepsModel", 219, "any") = q := Option.some.inj (show some ("FinerStepsModel", 219, "any") = some q from hq)
      subst e
      exact vk_R.of (hts _ srt_10) (hK 10 (by decide))
    | 11, hq =>
      have e : ("FinerStepsModel", 221, "when") = q := Option.some.inj (show some ("FinerStepsModel", 221, "when") = some q from hq)
      subst e
      exact vk_R.of (hts _ srt_11) (hK 11 (by decide))
    | 12, hq =>
      have e : ("FinerStepsModel", 223, "do") = q := Option.some.inj (show some ("FinerStepsModel", 223, "do") = some q from hq)
      subst e
      exact vk_R.of (hts _ srt_12) (hK 12 (by decide))
    | 13, hq =>
      have e : ("FinerStepsModel", 225, "variant") = q := Option.some.inj (show some ("FinerStepsModel", 225, "variant") = some q from hq)
      subst e
      exact vk_R.of (hts _ srt_13) (hK 13 (by decide))
    | 14, hq =>
      have e : ("FinerStepsModel", 227, "or") = q := Option.some.inj (show some ("FinerStepsModel", 227, "or") = some q from hq)
      subst e
      exact vk_R.of (hts _ srt_14) (hK 14 (by decide))
    | 15, hq =>
      have e : ("FinerStepsModel", 229, "and") = q := Option.some.inj (show some ("FinerStepsModel", 229, "and") = some q from hq)
      subst e
      exact vk_R.of (hts _ srt_15) (hK 15 (by decide))
    | 16, hq =>
      have e : ("FinerStepsModel", 231, "not") = q := Option.some.inj (show some ("FinerStepsModel", 231, "not") = some q from hq)
      subst e
      exact vk_R.of (hts _ srt_16) (hK 16 (by decide))
    | 17, hq =>
      have e : ("FinerStepsModel", 233, "pick") = q := Option.some.inj (show some ("FinerStepsModel", 233, "pick") = some q from hq)
      subst e
      exact vk_R.of (hts _ srt_17) (hK 17 (by decide))
    | (i + 18), hq => exact absurd (show (none : Option (String × Nat × String)) = some q from hq) (by simp)
  · exact List.forall_mem_cons.mpr ⟨va_AO.of (hts _ aot_1), List.forall_mem_cons.mpr ⟨va_AO.of (hts _ aot_0), List.forall_mem_cons.mpr ⟨va_AO.of (hts _ aot_2), List.forall_mem_cons.mpr ⟨va_AO.of (hts _ aot_3), fun _ h => absurd h List.not_mem_nil⟩⟩⟩⟩
