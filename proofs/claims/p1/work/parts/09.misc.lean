theorem lsw_nil (d x : Int) : Op.lookupswitch.offset [] d x = d := by first | rfl | simp [Op.lookupswitch.offset]
def wJ0_length_8abf5 (K : Nat → Nat) (h : Hp) (a0 : Nat) (Q : Int32 → Hp → Prop) : Prop := ∃ i, i < 18 ∧ a0 = K i ∧ Q (nI (lenS.getD i 0)) h
def wJ0_charAt_5068e (K : Nat → Nat) (h : Hp) (a0 : Nat) (x1 : Int32) (Q : Int32 → Hp → Prop) : Prop := ∃ i j, i < 18 ∧ a0 = K i ∧ x1 = nI j ∧ j < lenS.getD i 0 ∧ Q ((bytS.getD i []).getD j 0) h
theorem okJ0_length_8abf5_i {K : Nat → Nat} {h : Hp} {a0 : Nat} {Q : Int32 → Hp → Prop} (hw : wJ0_length_8abf5 K h a0 Q) : ∃ i, i < 18 ∧ a0 = K i := by
  obtain ⟨i, h1, h2, -⟩ := hw
  exact ⟨i, h1, h2⟩
theorem okJ0_charAt_5068e_i {K : Nat → Nat} {h : Hp} {a0 : Nat} {x1 : Int32} {Q : Int32 → Hp → Prop} (hw : wJ0_charAt_5068e K h a0 x1 Q) : ∃ i, i < 18 ∧ a0 = K i := by
  obtain ⟨i, j, h1, h2, -⟩ := hw
  exact ⟨i, h1, h2⟩
section GS
variable {E : Ev} {X : Cx} {y : MethodName} {cc : ByteArray} {nL : Nat} {ret : Option FieldType} {F L mc ms : Nat} {Qc : Pq} {n k : Nat} {S : Sh} {Z : Option Nat} {h : Hp} {pc : Nat} {lc : List (Option Tv)} {st : List Tv}
theorem g_callStr (O : Ok E X y cc nL ret F L mc ms Qc) {idx maxL F' L' mc' ms' b : Nat} {y' : MethodName} {bytes : ByteArray} {rt : Option FieldType} {As rest : List Tv} {Q' : Pq} (hd : decode cc pc = .ok (.invokevirtual idx, 3)) (hml : Cond.methodLink y.cls idx y' ∈ BIG) (him : Cond.instanceMethod y' ∈ BIG) (hse : Cond.selects "java/lang/String" y' y' ∈ BIG) (hin : Cond.initialized y'.cls ∈ BIG) (hco : Cond.code y' bytes maxL rt ∈ BIG) (hy : yOK y' As.length)
    (hs : ∃ i, i < 18 ∧ b = (fun i => E.2.2.2.2.1 i + 1) i) (hlen : lc.length = nL) (hst : st = As.reverse ++ vr b :: rest) (hsum : (rest.map tc).sum ≤ 8) (hR : F' + 1 ≤ F ∧ 8 + (maxL + 11) + L' ≤ L ∧ n + mc' ≤ mc ∧ k + ms' ≤ ms) (hM : Ct E y' bytes maxL rt F' L' mc' ms' S Z h (vr b :: As) Q')
    (g : ∀ (r : Option Tv) (S' : Sh) (Z' : Option Nat) (h' : Hp), Q' r S' Z' h' → G E X (n + mc') (k + ms') S' Z' h' (pc + 3) lc (r.toList ++ rest)) : G E X n k S Z h pc lc st := by
  intro H locs ls h1 h2 h3 h4
  obtain ⟨hx, hb, hml0, hown, hts, hE, hlk, hrt, hnm, hR0, hQ0⟩ := id O
  obtain ⟨i, hi, rfl⟩ := hs
  have e0 : tv (vr ((fun i => E.2.2.2.2.1 i + 1) i)) = .ref (E.2.2.2.2.1 i) := rv_pos (Nat.succ_ne_zero _)
  refine g_after (a := (Value.ref (E.2.2.2.2.1 i) :: As.map tv).toArray) h3 h4 (va_runV (As := As.map tv) (rest := rest.map tv) (b := E.2.2.2.2.1 i) (C := "java/lang/String") ⟨hx, hb, hml0, hown, hts⟩ hM ⟨callB_of As.length hts (big_in hco) rfl rfl rfl (hts _ hin) (hts _ hml) hy (by rw [hR0]; exact ⟨hR.1, hR.2.1⟩), hts _ him, hts _ hse⟩
    ⟨ct_blind, vk_recv hE.2.2.2.2.1 hi h3, fun U hU hW => ⟨by rw [List.map_cons, e0], by rw [hU]; exact h1, fun z hz => by rw [hU]; exact h2 z hz, hE.call h3 hU hW⟩⟩ rfl (by rw [List.length_map]) (h4.1.trans hlen) (by rw [hst, List.map_append, List.map_reverse, List.map_cons, e0]) (lv_room (by rw [tc_sum]; exact hsum)) hd (by rw [hR0]; exact ⟨hR.2.2.1, hR.2.2.2⟩)) g
def max32 (x z : Int32) : Int32 := if x < z then z else x
theorem co_mmax : Cond.code Lib.Math.max.name Lib.Math.max.code 2 (some .int) ∈ BIG := big_4 _ (List.mem_of_getElem? (i := 9) (by decide +kernel)) (by decide +kernel)
theorem g_mmax (O : Ok E X y cc nL ret F L mc ms Qc) {idx : Nat} {x z : Int32} (hd : decode cc pc = .ok (.invokestatic idx, 3)) (hml : Cond.methodLink y.cls idx yJ9_max_7cf53 ∈ BIG) (hlen : lc.length = nL) (hsum : (st.map tc).sum ≤ 8) (hR : 1 ≤ F ∧ 21 ≤ L ∧ n ≤ mc ∧ k ≤ ms) (g : G E X n k S Z h (pc + 3) lc (vi (max32 x z) :: st)) : G E X n k S Z h pc lc (vi z :: vi x :: st) := by
  intro H locs ls h1 h2 h3 h4
  obtain ⟨hx, hb, hml0, hown, hts, hE, hlk, hrt, hnm, hR0, hQ0⟩ := id O
  refine va_mmax hx hb (hml0.trans (hlen.symm.trans h4.1.symm)) hown (hts _ hml) (hts _ st_yJ9_max_7cf53) (hts _ ini_J9) (hts _ co_mmax) (by rw [hR0]; exact hR.1) ?_ (by rw [hR0]; exact hR.2.2.1) (by rw [hR0]; exact hR.2.2.2) hd (g H locs ls h1 h2 h3 h4)
  rw [tc_sum, hR0]
  show _ ≤ L
  omega
end GS
theorem yo_yJ0_charAt_5068e : yOK yJ0_charAt_5068e 1 := ⟨by decide +kernel, by decide +kernel, by decide +kernel⟩
theorem yo_yJ0_checkIndex_df160 : yOK yJ0_checkIndex_df160 2 := ⟨by decide +kernel, by decide +kernel, by decide +kernel⟩
theorem yo_yJ0_coder_7d493 : yOK yJ0_coder_7d493 0 := ⟨by decide +kernel, by decide +kernel, by decide +kernel⟩
theorem yo_yJ0_isLatin1_aae02 : yOK yJ0_isLatin1_aae02 0 := ⟨by decide +kernel, by decide +kernel, by decide +kernel⟩
theorem yo_yJ0_length_8abf5 : yOK yJ0_length_8abf5 0 := ⟨by decide +kernel, by decide +kernel, by decide +kernel⟩
theorem yo_yJ13_bitCount_95d88 : yOK yJ13_bitCount_95d88 1 := ⟨by decide +kernel, by decide +kernel, by decide +kernel⟩
theorem yo_yJ1_charAt_3b067 : yOK yJ1_charAt_3b067 2 := ⟨by decide +kernel, by decide +kernel, by decide +kernel⟩
theorem yo_yJ2_charAt_3b067 : yOK yJ2_charAt_3b067 2 := ⟨by decide +kernel, by decide +kernel, by decide +kernel⟩
theorem yo_yJ2_checkIndex_2214a : yOK yJ2_checkIndex_2214a 2 := ⟨by decide +kernel, by decide +kernel, by decide +kernel⟩
theorem yo_yJ2_getChar_3b067 : yOK yJ2_getChar_3b067 2 := ⟨by decide +kernel, by decide +kernel, by decide +kernel⟩
theorem yo_yJ2_length_9d52b : yOK yJ2_length_9d52b 1 := ⟨by decide +kernel, by decide +kernel, by decide +kernel⟩
theorem yo_yJ3_checkIndex_8e157 : yOK yJ3_checkIndex_8e157 3 := ⟨by decide +kernel, by decide +kernel, by decide +kernel⟩
theorem yo_yJ6_bitCount_0f7a4 : yOK yJ6_bitCount_0f7a4 1 := ⟨by decide +kernel, by decide +kernel, by decide +kernel⟩
theorem yo_yJ7_fill_53178 : yOK yJ7_fill_53178 2 := ⟨by decide +kernel, by decide +kernel, by decide +kernel⟩
theorem yo_yJ9_max_7cf53 : yOK yJ9_max_7cf53 2 := ⟨by decide +kernel, by decide +kernel, by decide +kernel⟩
theorem yo_yL_law : yOK yL_law 1 := ⟨by decide +kernel, by decide +kernel, by decide +kernel⟩
theorem yo_yL_letter : yOK yL_letter 5 := ⟨by decide +kernel, by decide +kernel, by decide +kernel⟩
theorem yo_yX0_after : yOK yX0_after 2 := ⟨by decide +kernel, by decide +kernel, by decide +kernel⟩
theorem yo_yX0_clear : yOK yX0_clear 1 := ⟨by decide +kernel, by decide +kernel, by decide +kernel⟩
theorem yo_yX0_forget : yOK yX0_forget 1 := ⟨by decide +kernel, by decide +kernel, by decide +kernel⟩
theorem yo_yX0_hasPick : yOK yX0_hasPick 1 := ⟨by decide +kernel, by decide +kernel, by decide +kernel⟩
theorem yo_yX0_init : yOK yX0_init 0 := ⟨by decide +kernel, by decide +kernel, by decide +kernel⟩
theorem yo_yX0_picksAt : yOK yX0_picksAt 1 := ⟨by decide +kernel, by decide +kernel, by decide +kernel⟩
theorem yo_yX0_putGiven : yOK yX0_putGiven 2 := ⟨by decide +kernel, by decide +kernel, by decide +kernel⟩
theorem yo_yX0_settleAt : yOK yX0_settleAt 4 := ⟨by decide +kernel, by decide +kernel, by decide +kernel⟩
theorem yo_yX0_stepsAt : yOK yX0_stepsAt 1 := ⟨by decide +kernel, by decide +kernel, by decide +kernel⟩
theorem yo_yX0_told : yOK yX0_told 1 := ⟨by decide +kernel, by decide +kernel, by decide +kernel⟩
theorem yo_yX10_begin : yOK yX10_begin 2 := ⟨by decide +kernel, by decide +kernel, by decide +kernel⟩
theorem yo_yX10_countChoices : yOK yX10_countChoices 1 := ⟨by decide +kernel, by decide +kernel, by decide +kernel⟩
theorem yo_yX10_end : yOK yX10_end 0 := ⟨by decide +kernel, by decide +kernel, by decide +kernel⟩
theorem yo_yX10_init : yOK yX10_init 0 := ⟨by decide +kernel, by decide +kernel, by decide +kernel⟩
theorem yo_yX10_move : yOK yX10_move 3 := ⟨by decide +kernel, by decide +kernel, by decide +kernel⟩
theorem yo_yX10_take : yOK yX10_take 2 := ⟨by decide +kernel, by decide +kernel, by decide +kernel⟩
theorem yo_yX10_wander : yOK yX10_wander 3 := ⟨by decide +kernel, by decide +kernel, by decide +kernel⟩
theorem yo_yX11_answer : yOK yX11_answer 1 := ⟨by decide +kernel, by decide +kernel, by decide +kernel⟩
theorem yo_yX11_aside : yOK yX11_aside 3 := ⟨by decide +kernel, by decide +kernel, by decide +kernel⟩
theorem yo_yX11_beneath : yOK yX11_beneath 3 := ⟨by decide +kernel, by decide +kernel, by decide +kernel⟩
theorem yo_yX11_beside : yOK yX11_beside 1 := ⟨by decide +kernel, by decide +kernel, by decide +kernel⟩
theorem yo_yX11_can : yOK yX11_can 4 := ⟨by decide +kernel, by decide +kernel, by decide +kernel⟩
theorem yo_yX11_cases : yOK yX11_cases 3 := ⟨by decide +kernel, by decide +kernel, by decide +kernel⟩
theorem yo_yX11_draws : yOK yX11_draws 2 := ⟨by decide +kernel, by decide +kernel, by decide +kernel⟩
theorem yo_yX11_duty : yOK yX11_duty 3 := ⟨by decide +kernel, by decide +kernel, by decide +kernel⟩
theorem yo_yX11_event : yOK yX11_event 3 := ⟨by decide +kernel, by decide +kernel, by decide +kernel⟩
theorem yo_yX11_fault : yOK yX11_fault 0 := ⟨by decide +kernel, by decide +kernel, by decide +kernel⟩
theorem yo_yX11_feed : yOK yX11_feed 5 := ⟨by decide +kernel, by decide +kernel, by decide +kernel⟩
theorem yo_yX11_gives : yOK yX11_gives 4 := ⟨by decide +kernel, by decide +kernel, by decide +kernel⟩
theorem yo_yX11_glued : yOK yX11_glued 3 := ⟨by decide +kernel, by decide +kernel, by decide +kernel⟩
theorem yo_yX11_init : yOK yX11_init 0 := ⟨by decide +kernel, by decide +kernel, by decide +kernel⟩
theorem yo_yX11_isDuty : yOK yX11_isDuty 3 := ⟨by decide +kernel, by decide +kernel, by decide +kernel⟩
theorem yo_yX11_isEvent : yOK yX11_isEvent 2 := ⟨by decide +kernel, by decide +kernel, by decide +kernel⟩
theorem yo_yX11_isMachine : yOK yX11_isMachine 1 := ⟨by decide +kernel, by decide +kernel, by decide +kernel⟩
theorem yo_yX11_isState : yOK yX11_isState 2 := ⟨by decide +kernel, by decide +kernel, by decide +kernel⟩
theorem yo_yX11_isVariable : yOK yX11_isVariable 2 := ⟨by decide +kernel, by decide +kernel, by decide +kernel⟩
theorem yo_yX11_lengthOf : yOK yX11_lengthOf 1 := ⟨by decide +kernel, by decide +kernel, by decide +kernel⟩
theorem yo_yX11_letter : yOK yX11_letter 3 := ⟨by decide +kernel, by decide +kernel, by decide +kernel⟩
theorem yo_yX11_letterOf : yOK yX11_letterOf 2 := ⟨by decide +kernel, by decide +kernel, by decide +kernel⟩
theorem yo_yX11_machine : yOK yX11_machine 2 := ⟨by decide +kernel, by decide +kernel, by decide +kernel⟩
theorem yo_yX11_machines : yOK yX11_machines 1 := ⟨by decide +kernel, by decide +kernel, by decide +kernel⟩
theorem yo_yX11_now : yOK yX11_now 1 := ⟨by decide +kernel, by decide +kernel, by decide +kernel⟩
theorem yo_yX11_octet : yOK yX11_octet 1 := ⟨by decide +kernel, by decide +kernel, by decide +kernel⟩
theorem yo_yX11_open : yOK yX11_open 1 := ⟨by decide +kernel, by decide +kernel, by decide +kernel⟩
theorem yo_yX11_putBytes : yOK yX11_putBytes 1 := ⟨by decide +kernel, by decide +kernel, by decide +kernel⟩
theorem yo_yX11_reach : yOK yX11_reach 1 := ⟨by decide +kernel, by decide +kernel, by decide +kernel⟩
theorem yo_yX11_refuse : yOK yX11_refuse 1 := ⟨by decide +kernel, by decide +kernel, by decide +kernel⟩
theorem yo_yX11_run : yOK yX11_run 1 := ⟨by decide +kernel, by decide +kernel, by decide +kernel⟩
theorem yo_yX11_shown : yOK yX11_shown 1 := ⟨by decide +kernel, by decide +kernel, by decide +kernel⟩
theorem yo_yX11_size : yOK yX11_size 0 := ⟨by decide +kernel, by decide +kernel, by decide +kernel⟩
theorem yo_yX11_sound : yOK yX11_sound 2 := ⟨by decide +kernel, by decide +kernel, by decide +kernel⟩
theorem yo_yX11_step : yOK yX11_step 2 := ⟨by decide +kernel, by decide +kernel, by decide +kernel⟩
theorem yo_yX11_steps : yOK yX11_steps 2 := ⟨by decide +kernel, by decide +kernel, by decide +kernel⟩
theorem yo_yX11_stuck : yOK yX11_stuck 1 := ⟨by decide +kernel, by decide +kernel, by decide +kernel⟩
theorem yo_yX11_trouble : yOK yX11_trouble 0 := ⟨by decide +kernel, by decide +kernel, by decide +kernel⟩
theorem yo_yX11_unsound : yOK yX11_unsound 1 := ⟨by decide +kernel, by decide +kernel, by decide +kernel⟩
theorem yo_yX11_value : yOK yX11_value 3 := ⟨by decide +kernel, by decide +kernel, by decide +kernel⟩
theorem yo_yX11_variable : yOK yX11_variable 3 := ⟨by decide +kernel, by decide +kernel, by decide +kernel⟩
theorem yo_yX11_variant : yOK yX11_variant 2 := ⟨by decide +kernel, by decide +kernel, by decide +kernel⟩
theorem yo_yX11_where : yOK yX11_where 0 := ⟨by decide +kernel, by decide +kernel, by decide +kernel⟩
theorem yo_yX11_write : yOK yX11_write 0 := ⟨by decide +kernel, by decide +kernel, by decide +kernel⟩
theorem yo_yX12_aside : yOK yX12_aside 3 := ⟨by decide +kernel, by decide +kernel, by decide +kernel⟩
theorem yo_yX12_beginOf : yOK yX12_beginOf 1 := ⟨by decide +kernel, by decide +kernel, by decide +kernel⟩
theorem yo_yX12_begins : yOK yX12_begins 2 := ⟨by decide +kernel, by decide +kernel, by decide +kernel⟩
theorem yo_yX12_begins_ : yOK yX12_begins_ 2 := ⟨by decide +kernel, by decide +kernel, by decide +kernel⟩
theorem yo_yX12_beneath : yOK yX12_beneath 3 := ⟨by decide +kernel, by decide +kernel, by decide +kernel⟩
theorem yo_yX12_beside : yOK yX12_beside 1 := ⟨by decide +kernel, by decide +kernel, by decide +kernel⟩
theorem yo_yX12_besideMany : yOK yX12_besideMany 0 := ⟨by decide +kernel, by decide +kernel, by decide +kernel⟩
theorem yo_yX12_can : yOK yX12_can 4 := ⟨by decide +kernel, by decide +kernel, by decide +kernel⟩
theorem yo_yX12_canBe : yOK yX12_canBe 4 := ⟨by decide +kernel, by decide +kernel, by decide +kernel⟩
theorem yo_yX12_canBeAny : yOK yX12_canBeAny 3 := ⟨by decide +kernel, by decide +kernel, by decide +kernel⟩
theorem yo_yX12_canGoOn : yOK yX12_canGoOn 2 := ⟨by decide +kernel, by decide +kernel, by decide +kernel⟩
theorem yo_yX12_cases : yOK yX12_cases 3 := ⟨by decide +kernel, by decide +kernel, by decide +kernel⟩
theorem yo_yX12_draw : yOK yX12_draw 1 := ⟨by decide +kernel, by decide +kernel, by decide +kernel⟩
theorem yo_yX12_draws : yOK yX12_draws 2 := ⟨by decide +kernel, by decide +kernel, by decide +kernel⟩
theorem yo_yX12_duty : yOK yX12_duty 3 := ⟨by decide +kernel, by decide +kernel, by decide +kernel⟩
theorem yo_yX12_emits : yOK yX12_emits 2 := ⟨by decide +kernel, by decide +kernel, by decide +kernel⟩
theorem yo_yX12_event : yOK yX12_event 3 := ⟨by decide +kernel, by decide +kernel, by decide +kernel⟩
theorem yo_yX12_eventIn : yOK yX12_eventIn 2 := ⟨by decide +kernel, by decide +kernel, by decide +kernel⟩
theorem yo_yX12_eventsNow : yOK yX12_eventsNow 0 := ⟨by decide +kernel, by decide +kernel, by decide +kernel⟩
theorem yo_yX12_failing : yOK yX12_failing 4 := ⟨by decide +kernel, by decide +kernel, by decide +kernel⟩
theorem yo_yX12_fails : yOK yX12_fails 6 := ⟨by decide +kernel, by decide +kernel, by decide +kernel⟩
theorem yo_yX12_fault : yOK yX12_fault 0 := ⟨by decide +kernel, by decide +kernel, by decide +kernel⟩
theorem yo_yX12_feed : yOK yX12_feed 5 := ⟨by decide +kernel, by decide +kernel, by decide +kernel⟩
theorem yo_yX12_flaw : yOK yX12_flaw 1 := ⟨by decide +kernel, by decide +kernel, by decide +kernel⟩
theorem yo_yX12_follows : yOK yX12_follows 2 := ⟨by decide +kernel, by decide +kernel, by decide +kernel⟩
theorem yo_yX12_givenBy : yOK yX12_givenBy 4 := ⟨by decide +kernel, by decide +kernel, by decide +kernel⟩
theorem yo_yX12_gives : yOK yX12_gives 4 := ⟨by decide +kernel, by decide +kernel, by decide +kernel⟩
theorem yo_yX12_glued : yOK yX12_glued 3 := ⟨by decide +kernel, by decide +kernel, by decide +kernel⟩
theorem yo_yX12_glues : yOK yX12_glues 1 := ⟨by decide +kernel, by decide +kernel, by decide +kernel⟩
theorem yo_yX12_goOn : yOK yX12_goOn 0 := ⟨by decide +kernel, by decide +kernel, by decide +kernel⟩
theorem yo_yX12_goes : yOK yX12_goes 4 := ⟨by decide +kernel, by decide +kernel, by decide +kernel⟩
theorem yo_yX12_goesOn : yOK yX12_goesOn 2 := ⟨by decide +kernel, by decide +kernel, by decide +kernel⟩
theorem yo_yX12_good : yOK yX12_good 1 := ⟨by decide +kernel, by decide +kernel, by decide +kernel⟩
theorem yo_yX12_holds : yOK yX12_holds 0 := ⟨by decide +kernel, by decide +kernel, by decide +kernel⟩
theorem yo_yX12_holdsAll : yOK yX12_holdsAll 3 := ⟨by decide +kernel, by decide +kernel, by decide +kernel⟩
theorem yo_yX12_in : yOK yX12_in 3 := ⟨by decide +kernel, by decide +kernel, by decide +kernel⟩
theorem yo_yX12_init : yOK yX12_init 0 := ⟨by decide +kernel, by decide +kernel, by decide +kernel⟩
theorem yo_yX12_inks : yOK yX12_inks 1 := ⟨by decide +kernel, by decide +kernel, by decide +kernel⟩
theorem yo_yX12_inksNumber : yOK yX12_inksNumber 1 := ⟨by decide +kernel, by decide +kernel, by decide +kernel⟩
theorem yo_yX12_inksState : yOK yX12_inksState 2 := ⟨by decide +kernel, by decide +kernel, by decide +kernel⟩
theorem yo_yX12_isAnswered : yOK yX12_isAnswered 4 := ⟨by decide +kernel, by decide +kernel, by decide +kernel⟩
theorem yo_yX12_isDigitAt : yOK yX12_isDigitAt 1 := ⟨by decide +kernel, by decide +kernel, by decide +kernel⟩
theorem yo_yX12_isEvent : yOK yX12_isEvent 2 := ⟨by decide +kernel, by decide +kernel, by decide +kernel⟩
theorem yo_yX12_isLetterAt : yOK yX12_isLetterAt 1 := ⟨by decide +kernel, by decide +kernel, by decide +kernel⟩
theorem yo_yX12_isMachine : yOK yX12_isMachine 1 := ⟨by decide +kernel, by decide +kernel, by decide +kernel⟩
theorem yo_yX12_isName : yOK yX12_isName 0 := ⟨by decide +kernel, by decide +kernel, by decide +kernel⟩
theorem yo_yX12_isOwn : yOK yX12_isOwn 0 := ⟨by decide +kernel, by decide +kernel, by decide +kernel⟩
theorem yo_yX12_isPick : yOK yX12_isPick 3 := ⟨by decide +kernel, by decide +kernel, by decide +kernel⟩
theorem yo_yX12_isSign : yOK yX12_isSign 1 := ⟨by decide +kernel, by decide +kernel, by decide +kernel⟩
theorem yo_yX12_isSignOf : yOK yX12_isSignOf 1 := ⟨by decide +kernel, by decide +kernel, by decide +kernel⟩
theorem yo_yX12_isState : yOK yX12_isState 2 := ⟨by decide +kernel, by decide +kernel, by decide +kernel⟩
theorem yo_yX12_isTold : yOK yX12_isTold 1 := ⟨by decide +kernel, by decide +kernel, by decide +kernel⟩
theorem yo_yX12_isVar : yOK yX12_isVar 2 := ⟨by decide +kernel, by decide +kernel, by decide +kernel⟩
theorem yo_yX12_isWord : yOK yX12_isWord 1 := ⟨by decide +kernel, by decide +kernel, by decide +kernel⟩
theorem yo_yX12_joined : yOK yX12_joined 3 := ⟨by decide +kernel, by decide +kernel, by decide +kernel⟩
theorem yo_yX12_leads : yOK yX12_leads 2 := ⟨by decide +kernel, by decide +kernel, by decide +kernel⟩
theorem yo_yX12_letter : yOK yX12_letter 3 := ⟨by decide +kernel, by decide +kernel, by decide +kernel⟩
theorem yo_yX12_letterOf : yOK yX12_letterOf 2 := ⟨by decide +kernel, by decide +kernel, by decide +kernel⟩
theorem yo_yX12_machine : yOK yX12_machine 2 := ⟨by decide +kernel, by decide +kernel, by decide +kernel⟩
theorem yo_yX12_machines : yOK yX12_machines 1 := ⟨by decide +kernel, by decide +kernel, by decide +kernel⟩
theorem yo_yX12_makes : yOK yX12_makes 2 := ⟨by decide +kernel, by decide +kernel, by decide +kernel⟩
theorem yo_yX12_needs : yOK yX12_needs 1 := ⟨by decide +kernel, by decide +kernel, by decide +kernel⟩
theorem yo_yX12_needsSign : yOK yX12_needsSign 1 := ⟨by decide +kernel, by decide +kernel, by decide +kernel⟩
theorem yo_yX12_now : yOK yX12_now 1 := ⟨by decide +kernel, by decide +kernel, by decide +kernel⟩
theorem yo_yX12_octet : yOK yX12_octet 1 := ⟨by decide +kernel, by decide +kernel, by decide +kernel⟩
theorem yo_yX12_open : yOK yX12_open 1 := ⟨by decide +kernel, by decide +kernel, by decide +kernel⟩
theorem yo_yX12_opens : yOK yX12_opens 0 := ⟨by decide +kernel, by decide +kernel, by decide +kernel⟩
theorem yo_yX12_pair : yOK yX12_pair 3 := ⟨by decide +kernel, by decide +kernel, by decide +kernel⟩
theorem yo_yX12_pairs : yOK yX12_pairs 1 := ⟨by decide +kernel, by decide +kernel, by decide +kernel⟩
theorem yo_yX12_passes : yOK yX12_passes 1 := ⟨by decide +kernel, by decide +kernel, by decide +kernel⟩
theorem yo_yX12_passesSign : yOK yX12_passesSign 1 := ⟨by decide +kernel, by decide +kernel, by decide +kernel⟩
theorem yo_yX12_reach : yOK yX12_reach 1 := ⟨by decide +kernel, by decide +kernel, by decide +kernel⟩
theorem yo_yX12_readAll : yOK yX12_readAll 0 := ⟨by decide +kernel, by decide +kernel, by decide +kernel⟩
theorem yo_yX12_readAtom : yOK yX12_readAtom 0 := ⟨by decide +kernel, by decide +kernel, by decide +kernel⟩
theorem yo_yX12_readBoth : yOK yX12_readBoth 0 := ⟨by decide +kernel, by decide +kernel, by decide +kernel⟩
theorem yo_yX12_readEvent : yOK yX12_readEvent 1 := ⟨by decide +kernel, by decide +kernel, by decide +kernel⟩
theorem yo_yX12_readFact : yOK yX12_readFact 0 := ⟨by decide +kernel, by decide +kernel, by decide +kernel⟩
theorem yo_yX12_readGiven : yOK yX12_readGiven 2 := ⟨by decide +kernel, by decide +kernel, by decide +kernel⟩
theorem yo_yX12_readLaw : yOK yX12_readLaw 1 := ⟨by decide +kernel, by decide +kernel, by decide +kernel⟩
theorem yo_yX12_readLine : yOK yX12_readLine 0 := ⟨by decide +kernel, by decide +kernel, by decide +kernel⟩
theorem yo_yX12_readMachine : yOK yX12_readMachine 0 := ⟨by decide +kernel, by decide +kernel, by decide +kernel⟩
theorem yo_yX12_readNew : yOK yX12_readNew 0 := ⟨by decide +kernel, by decide +kernel, by decide +kernel⟩
theorem yo_yX12_readOf : yOK yX12_readOf 1 := ⟨by decide +kernel, by decide +kernel, by decide +kernel⟩
theorem yo_yX12_readSum : yOK yX12_readSum 0 := ⟨by decide +kernel, by decide +kernel, by decide +kernel⟩
theorem yo_yX12_readTerm : yOK yX12_readTerm 0 := ⟨by decide +kernel, by decide +kernel, by decide +kernel⟩
theorem yo_yX12_readTest : yOK yX12_readTest 0 := ⟨by decide +kernel, by decide +kernel, by decide +kernel⟩
theorem yo_yX12_readVar : yOK yX12_readVar 1 := ⟨by decide +kernel, by decide +kernel, by decide +kernel⟩
theorem yo_yX12_readVariant : yOK yX12_readVariant 1 := ⟨by decide +kernel, by decide +kernel, by decide +kernel⟩
theorem yo_yX12_readWhole : yOK yX12_readWhole 2 := ⟨by decide +kernel, by decide +kernel, by decide +kernel⟩
theorem yo_yX12_refused : yOK yX12_refused 1 := ⟨by decide +kernel, by decide +kernel, by decide +kernel⟩
theorem yo_yX12_run : yOK yX12_run 1 := ⟨by decide +kernel, by decide +kernel, by decide +kernel⟩
theorem yo_yX12_shown : yOK yX12_shown 1 := ⟨by decide +kernel, by decide +kernel, by decide +kernel⟩
theorem yo_yX12_shows : yOK yX12_shows 4 := ⟨by decide +kernel, by decide +kernel, by decide +kernel⟩
theorem yo_yX12_size : yOK yX12_size 0 := ⟨by decide +kernel, by decide +kernel, by decide +kernel⟩
theorem yo_yX12_sound : yOK yX12_sound 2 := ⟨by decide +kernel, by decide +kernel, by decide +kernel⟩
theorem yo_yX12_spreads : yOK yX12_spreads 1 := ⟨by decide +kernel, by decide +kernel, by decide +kernel⟩
theorem yo_yX12_step : yOK yX12_step 2 := ⟨by decide +kernel, by decide +kernel, by decide +kernel⟩
theorem yo_yX12_steps : yOK yX12_steps 2 := ⟨by decide +kernel, by decide +kernel, by decide +kernel⟩
theorem yo_yX12_stuck : yOK yX12_stuck 1 := ⟨by decide +kernel, by decide +kernel, by decide +kernel⟩
theorem yo_yX12_thrown : yOK yX12_thrown 0 := ⟨by decide +kernel, by decide +kernel, by decide +kernel⟩
theorem yo_yX12_told : yOK yX12_told 6 := ⟨by decide +kernel, by decide +kernel, by decide +kernel⟩
theorem yo_yX12_trouble : yOK yX12_trouble 0 := ⟨by decide +kernel, by decide +kernel, by decide +kernel⟩
theorem yo_yX12_unsound : yOK yX12_unsound 1 := ⟨by decide +kernel, by decide +kernel, by decide +kernel⟩
theorem yo_yX12_value : yOK yX12_value 3 := ⟨by decide +kernel, by decide +kernel, by decide +kernel⟩
theorem yo_yX12_valueOf : yOK yX12_valueOf 3 := ⟨by decide +kernel, by decide +kernel, by decide +kernel⟩
theorem yo_yX12_varOf : yOK yX12_varOf 2 := ⟨by decide +kernel, by decide +kernel, by decide +kernel⟩
theorem yo_yX12_variable : yOK yX12_variable 3 := ⟨by decide +kernel, by decide +kernel, by decide +kernel⟩
theorem yo_yX12_variant : yOK yX12_variant 2 := ⟨by decide +kernel, by decide +kernel, by decide +kernel⟩
theorem yo_yX12_variantOf : yOK yX12_variantOf 2 := ⟨by decide +kernel, by decide +kernel, by decide +kernel⟩
theorem yo_yX12_ways : yOK yX12_ways 1 := ⟨by decide +kernel, by decide +kernel, by decide +kernel⟩
theorem yo_yX12_where : yOK yX12_where 0 := ⟨by decide +kernel, by decide +kernel, by decide +kernel⟩
theorem yo_yX12_wordOf : yOK yX12_wordOf 1 := ⟨by decide +kernel, by decide +kernel, by decide +kernel⟩
theorem yo_yX12_write : yOK yX12_write 0 := ⟨by decide +kernel, by decide +kernel, by decide +kernel⟩
theorem yo_yX1_concerns : yOK yX1_concerns 2 := ⟨by decide +kernel, by decide +kernel, by decide +kernel⟩
theorem yo_yX1_countOpen : yOK yX1_countOpen 2 := ⟨by decide +kernel, by decide +kernel, by decide +kernel⟩
theorem yo_yX1_init : yOK yX1_init 0 := ⟨by decide +kernel, by decide +kernel, by decide +kernel⟩
theorem yo_yX1_judgeBegin : yOK yX1_judgeBegin 0 := ⟨by decide +kernel, by decide +kernel, by decide +kernel⟩
theorem yo_yX1_judgeEvent : yOK yX1_judgeEvent 2 := ⟨by decide +kernel, by decide +kernel, by decide +kernel⟩
theorem yo_yX1_judgeGoingOn : yOK yX1_judgeGoingOn 0 := ⟨by decide +kernel, by decide +kernel, by decide +kernel⟩
theorem yo_yX1_judgePicks : yOK yX1_judgePicks 4 := ⟨by decide +kernel, by decide +kernel, by decide +kernel⟩
theorem yo_yX1_keeps : yOK yX1_keeps 3 := ⟨by decide +kernel, by decide +kernel, by decide +kernel⟩
theorem yo_yX1_lessens : yOK yX1_lessens 2 := ⟨by decide +kernel, by decide +kernel, by decide +kernel⟩
theorem yo_yX1_paired : yOK yX1_paired 2 := ⟨by decide +kernel, by decide +kernel, by decide +kernel⟩
theorem yo_yX1_statesAhead : yOK yX1_statesAhead 0 := ⟨by decide +kernel, by decide +kernel, by decide +kernel⟩
theorem yo_yX1_verdictOn : yOK yX1_verdictOn 4 := ⟨by decide +kernel, by decide +kernel, by decide +kernel⟩
theorem yo_yX2_anyCan : yOK yX2_anyCan 1 := ⟨by decide +kernel, by decide +kernel, by decide +kernel⟩
theorem yo_yX2_beginState : yOK yX2_beginState 0 := ⟨by decide +kernel, by decide +kernel, by decide +kernel⟩
theorem yo_yX2_clear : yOK yX2_clear 1 := ⟨by decide +kernel, by decide +kernel, by decide +kernel⟩
theorem yo_yX2_countAside : yOK yX2_countAside 0 := ⟨by decide +kernel, by decide +kernel, by decide +kernel⟩
theorem yo_yX2_countNew : yOK yX2_countNew 0 := ⟨by decide +kernel, by decide +kernel, by decide +kernel⟩
theorem yo_yX2_eventsFrom : yOK yX2_eventsFrom 1 := ⟨by decide +kernel, by decide +kernel, by decide +kernel⟩
theorem yo_yX2_hasOtherLines : yOK yX2_hasOtherLines 0 := ⟨by decide +kernel, by decide +kernel, by decide +kernel⟩
theorem yo_yX2_init : yOK yX2_init 0 := ⟨by decide +kernel, by decide +kernel, by decide +kernel⟩
theorem yo_yX2_number : yOK yX2_number 2 := ⟨by decide +kernel, by decide +kernel, by decide +kernel⟩
theorem yo_yX2_span : yOK yX2_span 1 := ⟨by decide +kernel, by decide +kernel, by decide +kernel⟩
theorem yo_yX2_spread : yOK yX2_spread 3 := ⟨by decide +kernel, by decide +kernel, by decide +kernel⟩
theorem yo_yX2_stateOf : yOK yX2_stateOf 2 := ⟨by decide +kernel, by decide +kernel, by decide +kernel⟩
theorem yo_yX2_told : yOK yX2_told 1 := ⟨by decide +kernel, by decide +kernel, by decide +kernel⟩
theorem yo_yX3_clear : yOK yX3_clear 0 := ⟨by decide +kernel, by decide +kernel, by decide +kernel⟩
theorem yo_yX3_emit : yOK yX3_emit 1 := ⟨by decide +kernel, by decide +kernel, by decide +kernel⟩
theorem yo_yX3_forgetVerdicts : yOK yX3_forgetVerdicts 0 := ⟨by decide +kernel, by decide +kernel, by decide +kernel⟩
theorem yo_yX3_init : yOK yX3_init 0 := ⟨by decide +kernel, by decide +kernel, by decide +kernel⟩
theorem yo_yX3_joined : yOK yX3_joined 3 := ⟨by decide +kernel, by decide +kernel, by decide +kernel⟩
theorem yo_yX3_lawsHold : yOK yX3_lawsHold 1 := ⟨by decide +kernel, by decide +kernel, by decide +kernel⟩
theorem yo_yX3_settle : yOK yX3_settle 0 := ⟨by decide +kernel, by decide +kernel, by decide +kernel⟩
theorem yo_yX3_settleEvent : yOK yX3_settleEvent 2 := ⟨by decide +kernel, by decide +kernel, by decide +kernel⟩
theorem yo_yX3_settleFirst : yOK yX3_settleFirst 1 := ⟨by decide +kernel, by decide +kernel, by decide +kernel⟩
theorem yo_yX3_settleGlue : yOK yX3_settleGlue 2 := ⟨by decide +kernel, by decide +kernel, by decide +kernel⟩
theorem yo_yX3_settleVariants : yOK yX3_settleVariants 1 := ⟨by decide +kernel, by decide +kernel, by decide +kernel⟩
theorem yo_yX3_stateGiven : yOK yX3_stateGiven 2 := ⟨by decide +kernel, by decide +kernel, by decide +kernel⟩
theorem yo_yX3_worth : yOK yX3_worth 1 := ⟨by decide +kernel, by decide +kernel, by decide +kernel⟩
theorem yo_yX4_countUnsound : yOK yX4_countUnsound 1 := ⟨by decide +kernel, by decide +kernel, by decide +kernel⟩
theorem yo_yX4_explore : yOK yX4_explore 1 := ⟨by decide +kernel, by decide +kernel, by decide +kernel⟩
theorem yo_yX4_firstEnd : yOK yX4_firstEnd 1 := ⟨by decide +kernel, by decide +kernel, by decide +kernel⟩
theorem yo_yX4_init : yOK yX4_init 0 := ⟨by decide +kernel, by decide +kernel, by decide +kernel⟩
theorem yo_yX4_reachFrom : yOK yX4_reachFrom 2 := ⟨by decide +kernel, by decide +kernel, by decide +kernel⟩
theorem yo_yX4_reachState : yOK yX4_reachState 2 := ⟨by decide +kernel, by decide +kernel, by decide +kernel⟩
theorem yo_yX5_advance : yOK yX5_advance 0 := ⟨by decide +kernel, by decide +kernel, by decide +kernel⟩
theorem yo_yX5_code : yOK yX5_code 0 := ⟨by decide +kernel, by decide +kernel, by decide +kernel⟩
theorem yo_yX5_fail : yOK yX5_fail 1 := ⟨by decide +kernel, by decide +kernel, by decide +kernel⟩
theorem yo_yX5_init : yOK yX5_init 0 := ⟨by decide +kernel, by decide +kernel, by decide +kernel⟩
theorem yo_yX5_isNewName : yOK yX5_isNewName 0 := ⟨by decide +kernel, by decide +kernel, by decide +kernel⟩
theorem yo_yX5_isWhole : yOK yX5_isWhole 2 := ⟨by decide +kernel, by decide +kernel, by decide +kernel⟩
theorem yo_yX5_joinsAtoms : yOK yX5_joinsAtoms 1 := ⟨by decide +kernel, by decide +kernel, by decide +kernel⟩
theorem yo_yX5_kind : yOK yX5_kind 0 := ⟨by decide +kernel, by decide +kernel, by decide +kernel⟩
theorem yo_yX5_number : yOK yX5_number 0 := ⟨by decide +kernel, by decide +kernel, by decide +kernel⟩
theorem yo_yX5_pass : yOK yX5_pass 1 := ⟨by decide +kernel, by decide +kernel, by decide +kernel⟩
theorem yo_yX5_readAtom : yOK yX5_readAtom 1 := ⟨by decide +kernel, by decide +kernel, by decide +kernel⟩
theorem yo_yX5_readBounds : yOK yX5_readBounds 1 := ⟨by decide +kernel, by decide +kernel, by decide +kernel⟩
theorem yo_yX5_readEvent : yOK yX5_readEvent 0 := ⟨by decide +kernel, by decide +kernel, by decide +kernel⟩
theorem yo_yX5_readFact : yOK yX5_readFact 1 := ⟨by decide +kernel, by decide +kernel, by decide +kernel⟩
theorem yo_yX5_readGiving : yOK yX5_readGiving 0 := ⟨by decide +kernel, by decide +kernel, by decide +kernel⟩
theorem yo_yX5_readGivings : yOK yX5_readGivings 0 := ⟨by decide +kernel, by decide +kernel, by decide +kernel⟩
theorem yo_yX5_readLaw : yOK yX5_readLaw 0 := ⟨by decide +kernel, by decide +kernel, by decide +kernel⟩
theorem yo_yX5_readLines : yOK yX5_readLines 0 := ⟨by decide +kernel, by decide +kernel, by decide +kernel⟩
theorem yo_yX5_readMachine : yOK yX5_readMachine 0 := ⟨by decide +kernel, by decide +kernel, by decide +kernel⟩
theorem yo_yX5_readOf : yOK yX5_readOf 0 := ⟨by decide +kernel, by decide +kernel, by decide +kernel⟩
theorem yo_yX5_readPicks : yOK yX5_readPicks 0 := ⟨by decide +kernel, by decide +kernel, by decide +kernel⟩
theorem yo_yX5_readSum : yOK yX5_readSum 1 := ⟨by decide +kernel, by decide +kernel, by decide +kernel⟩
theorem yo_yX5_readTest : yOK yX5_readTest 1 := ⟨by decide +kernel, by decide +kernel, by decide +kernel⟩
theorem yo_yX5_readVariable : yOK yX5_readVariable 0 := ⟨by decide +kernel, by decide +kernel, by decide +kernel⟩
theorem yo_yX5_readVariant : yOK yX5_readVariant 0 := ⟨by decide +kernel, by decide +kernel, by decide +kernel⟩
theorem yo_yX5_slotOf : yOK yX5_slotOf 1 := ⟨by decide +kernel, by decide +kernel, by decide +kernel⟩
theorem yo_yX5_start : yOK yX5_start 3 := ⟨by decide +kernel, by decide +kernel, by decide +kernel⟩
theorem yo_yX5_startCode : yOK yX5_startCode 0 := ⟨by decide +kernel, by decide +kernel, by decide +kernel⟩
theorem yo_yX5_stopCode : yOK yX5_stopCode 0 := ⟨by decide +kernel, by decide +kernel, by decide +kernel⟩
theorem yo_yX6_clear : yOK yX6_clear 0 := ⟨by decide +kernel, by decide +kernel, by decide +kernel⟩
theorem yo_yX6_init : yOK yX6_init 0 := ⟨by decide +kernel, by decide +kernel, by decide +kernel⟩
theorem yo_yX6_put : yOK yX6_put 1 := ⟨by decide +kernel, by decide +kernel, by decide +kernel⟩
theorem yo_yX6_putNumber : yOK yX6_putNumber 1 := ⟨by decide +kernel, by decide +kernel, by decide +kernel⟩
theorem yo_yX6_putState : yOK yX6_putState 2 := ⟨by decide +kernel, by decide +kernel, by decide +kernel⟩
theorem yo_yX6_putText : yOK yX6_putText 1 := ⟨by decide +kernel, by decide +kernel, by decide +kernel⟩
theorem yo_yX7_clear : yOK yX7_clear 0 := ⟨by decide +kernel, by decide +kernel, by decide +kernel⟩
theorem yo_yX7_copy : yOK yX7_copy 1 := ⟨by decide +kernel, by decide +kernel, by decide +kernel⟩
theorem yo_yX7_count : yOK yX7_count 0 := ⟨by decide +kernel, by decide +kernel, by decide +kernel⟩
theorem yo_yX7_has : yOK yX7_has 1 := ⟨by decide +kernel, by decide +kernel, by decide +kernel⟩
theorem yo_yX7_init : yOK yX7_init 0 := ⟨by decide +kernel, by decide +kernel, by decide +kernel⟩
theorem yo_yX7_keepOnly : yOK yX7_keepOnly 1 := ⟨by decide +kernel, by decide +kernel, by decide +kernel⟩
theorem yo_yX7_meets : yOK yX7_meets 1 := ⟨by decide +kernel, by decide +kernel, by decide +kernel⟩
theorem yo_yX7_member : yOK yX7_member 1 := ⟨by decide +kernel, by decide +kernel, by decide +kernel⟩
theorem yo_yX7_put : yOK yX7_put 1 := ⟨by decide +kernel, by decide +kernel, by decide +kernel⟩
theorem yo_yX8_cut : yOK yX8_cut 2 := ⟨by decide +kernel, by decide +kernel, by decide +kernel⟩
theorem yo_yX8_familyOf : yOK yX8_familyOf 1 := ⟨by decide +kernel, by decide +kernel, by decide +kernel⟩
theorem yo_yX8_init : yOK yX8_init 0 := ⟨by decide +kernel, by decide +kernel, by decide +kernel⟩
theorem yo_yX8_kindOfWord : yOK yX8_kindOfWord 1 := ⟨by decide +kernel, by decide +kernel, by decide +kernel⟩
theorem yo_yX8_lengthen : yOK yX8_lengthen 2 := ⟨by decide +kernel, by decide +kernel, by decide +kernel⟩
theorem yo_yX8_startToken : yOK yX8_startToken 3 := ⟨by decide +kernel, by decide +kernel, by decide +kernel⟩
theorem yo_yX9_clear : yOK yX9_clear 0 := ⟨by decide +kernel, by decide +kernel, by decide +kernel⟩
theorem yo_yX9_init : yOK yX9_init 0 := ⟨by decide +kernel, by decide +kernel, by decide +kernel⟩
theorem yo_yX9_note : yOK yX9_note 3 := ⟨by decide +kernel, by decide +kernel, by decide +kernel⟩
theorem xw_X11_15 : Cond.methodLinkNest "FinerSteps" 15 yX5_init "FinerSteps" ∈ XW := List.mem_of_getElem? (i := 0) (by decide +kernel)
theorem xw_X11_22 : Cond.methodLinkNest "FinerSteps" 22 yX1_init "FinerSteps" ∈ XW := List.mem_of_getElem? (i := 1) (by decide +kernel)
theorem xw_X11_29 : Cond.methodLinkNest "FinerSteps" 29 yX10_init "FinerSteps" ∈ XW := List.mem_of_getElem? (i := 3) (by decide +kernel)
theorem xw_X11_36 : Cond.methodLinkNest "FinerSteps" 36 yX4_init "FinerSteps" ∈ XW := List.mem_of_getElem? (i := 5) (by decide +kernel)
theorem xw_X11_43 : Cond.methodLinkNest "FinerSteps" 43 yX6_init "FinerSteps" ∈ XW := List.mem_of_getElem? (i := 6) (by decide +kernel)
theorem xw_X1_11 : Cond.methodLinkNest "FinerSteps$Judge" 11 yX7_init "FinerSteps" ∈ XW := List.mem_of_getElem? (i := 2) (by decide +kernel)
theorem xw_X2_53 : Cond.methodLinkNest "FinerSteps$Machine" 53 yX0_init "FinerSteps" ∈ XW := List.mem_of_getElem? (i := 7) (by decide +kernel)
theorem xw_X2_54 : Cond.methodLinkNest "FinerSteps$Machine" 54 yX7_init "FinerSteps" ∈ XW := List.mem_of_getElem? (i := 8) (by decide +kernel)
theorem xw_X2_55 : Cond.methodLinkNest "FinerSteps$Machine" 55 yX9_init "FinerSteps" ∈ XW := List.mem_of_getElem? (i := 9) (by decide +kernel)
theorem xw_X6_28 : Cond.methodLinkNest "FinerSteps$Scroll" 28 yX11_lengthOf "FinerSteps" ∈ XW := List.mem_of_getElem? (i := 10) (by decide +kernel)
theorem xw_X6_32 : Cond.methodLinkNest "FinerSteps$Scroll" 32 yX11_letterOf "FinerSteps" ∈ XW := List.mem_of_getElem? (i := 11) (by decide +kernel)
theorem xw_X10_11 : Cond.methodLinkNest "FinerSteps$Walk" 11 yX7_init "FinerSteps" ∈ XW := List.mem_of_getElem? (i := 4) (by decide +kernel)
