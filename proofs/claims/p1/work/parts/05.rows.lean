def rem32 (x z : Int32) : Int32 := x - x / z * z
def rem64 (x z : Int64) : Int64 := x - x / z * z
def shl32 (x z : Int32) : Int32 := x <<< (z &&& 31)
def shr32 (x z : Int32) : Int32 := x >>> (z &&& 31)
def ush32 (x z : Int32) : Int32 := (x.toUInt32 >>> (z.toUInt32 &&& Int32.toUInt32 31)).toInt32
def shl64 (x : Int64) (z : Int32) : Int64 := x <<< (z.toInt64 &&& 63)
def shr64 (x : Int64) (z : Int32) : Int64 := x >>> (z.toInt64 &&& 63)
def ush64 (x : Int64) (z : Int32) : Int64 := (x.toUInt64 >>> (z.toInt64.toUInt64 &&& Int64.toUInt64 63)).toInt64
def i2b (x : Int32) : Int32 := x.toInt8.toInt32
def i2c (x : Int32) : Int32 := (x.toUInt32 % 65536).toInt32
abbrev ix (i : Int32) : Nat := i.toNatClampNeg
def inA (S : Sh) (a t : Nat) (i : Int32) : Prop := (S a).1 = t ∧ vp_in i (S a).2
def strW : List (String × Nat × String) := [("FinerSteps$Tokens", 25, "machine var from to at law event of any when do variant or and not pick "), ("FinerSteps", 222, "pick="), ("FinerStepsModel", 204, "machine"), ("FinerStepsModel", 206, "var"), ("FinerStepsModel", 208, "from"), ("FinerStepsModel", 210, "to"), ("FinerStepsModel", 212, "at"), ("FinerStepsModel", 213, "law"), ("FinerStepsModel", 215, "event"), ("FinerStepsModel", 217, "of"), ("FinerStepsModel", 219, "any"), ("FinerStepsModel", 221, "when"), ("FinerStepsModel", 223, "do"), ("FinerStepsModel", 225, "variant"), ("FinerStepsModel", 227, "or"), ("FinerStepsModel", 229, "and"), ("FinerStepsModel", 231, "not"), ("FinerStepsModel", 233, "pick")]
def lenS : List Nat := [72, 5, 7, 3, 4, 2, 2, 3, 5, 2, 3, 4, 2, 7, 2, 3, 3, 4]
def bytS : List (List Int32) := [[109, 97, 99, 104, 105, 110, 101, 32, 118, 97, 114, 32, 102, 114, 111, 109, 32, 116, 111, 32, 97, 116, 32, 108, 97, 119, 32, 101, 118, 101, 110, 116, 32, 111, 102, 32, 97, 110, 121, 32, 119, 104, 101, 110, 32, 100, 111, 32, 118, 97, 114, 105, 97, 110, 116, 32, 111, 114, 32, 97, 110, 100, 32, 110, 111, 116, 32, 112, 105, 99, 107, 32], [112, 105, 99, 107, 61], [109, 97, 99, 104, 105, 110, 101], [118, 97, 114], [102, 114, 111, 109], [116, 111], [97, 116], [108, 97, 119], [101, 118, 101, 110, 116], [111, 102], [97, 110, 121], [119, 104, 101, 110], [100, 111], [118, 97, 114, 105, 97, 110, 116], [111, 114], [97, 110, 100], [110, 111, 116], [112, 105, 99, 107]]
/-- words that are not of the good kind, and are carried by laws of their own -/
def XW : List Cond := [Cond.methodLinkNest "FinerSteps" 15 yX5_init "FinerSteps", Cond.methodLinkNest "FinerSteps" 22 yX1_init "FinerSteps", Cond.methodLinkNest "FinerSteps$Judge" 11 yX7_init "FinerSteps", Cond.methodLinkNest "FinerSteps" 29 yX10_init "FinerSteps", Cond.methodLinkNest "FinerSteps$Walk" 11 yX7_init "FinerSteps", Cond.methodLinkNest "FinerSteps" 36 yX4_init "FinerSteps", Cond.methodLinkNest "FinerSteps" 43 yX6_init "FinerSteps", Cond.methodLinkNest "FinerSteps$Machine" 53 yX0_init "FinerSteps", Cond.methodLinkNest "FinerSteps$Machine" 54 yX7_init "FinerSteps", Cond.methodLinkNest "FinerSteps$Machine" 55 yX9_init "FinerSteps", Cond.methodLinkNest "FinerSteps$Scroll" 28 yX11_lengthOf "FinerSteps", Cond.methodLinkNest "FinerSteps$Scroll" 32 yX11_letterOf "FinerSteps", Cond.castable "java/util/NoSuchElementException" "java/util/NoSuchElementException", Cond.declares (⟨"java/lang/RuntimeException", "<init>", "()V"⟩ : MethodName), Cond.declares (⟨"java/lang/RuntimeException", "<init>", "(Ljava/lang/String;)V"⟩ : MethodName), Cond.declares (⟨"java/lang/Exception", "<init>", "()V"⟩ : MethodName), Cond.declares (⟨"java/lang/Exception", "<init>", "(Ljava/lang/String;)V"⟩ : MethodName), Cond.declares (⟨"java/lang/Throwable", "<init>", "()V"⟩ : MethodName), Cond.declares (⟨"java/lang/Throwable", "<init>", "(Ljava/lang/String;)V"⟩ : MethodName), Cond.castable "FinerSteps" "java/lang/Object", Cond.castable "FinerSteps$Reader" "java/lang/Object", Cond.castable "FinerSteps$Tokens" "java/lang/Object", Cond.castable "FinerSteps$Judge" "java/lang/Object", Cond.castable "FinerSteps$StateSet" "java/lang/Object", Cond.castable "FinerSteps$Walk" "java/lang/Object", Cond.castable "FinerSteps$Paths" "java/lang/Object", Cond.castable "FinerSteps$Scroll" "java/lang/Object", Cond.castable "FinerSteps$Model" "java/lang/Object", Cond.castable "FinerSteps$Machine" "java/lang/Object", Cond.castable "FinerSteps$Event" "java/lang/Object", Cond.castable "FinerSteps$Verdict" "java/lang/Object", Cond.castable "FinerStepsModel" "java/lang/Object", Cond.castable "java/util/NoSuchElementException" "java/lang/Object", Cond.castable "java/lang/Throwable" "java/lang/Object", Cond.castable "java/lang/String" "java/lang/Object"]
theorem XW_tr : ∀ w ∈ XW, ∀ (s U : State), s.WarmedH U.vm → va_Nw w s → va_Nw w U := List.forall_mem_cons.mpr ⟨fun _ _ hW h => va_Nw.warmM hW h, List.forall_mem_cons.mpr ⟨fun _ _ hW h => va_Nw.warmM hW h, List.forall_mem_cons.mpr ⟨fun _ _ hW h => va_Nw.warmM hW h, List.forall_mem_cons.mpr ⟨fun _ _ hW h => va_Nw.warmM hW h, List.forall_mem_cons.mpr ⟨fun _ _ hW h => va_Nw.warmM hW h, List.forall_mem_cons.mpr ⟨fun _ _ hW h => va_Nw.warmM hW h, List.forall_mem_cons.mpr ⟨fun _ _ hW h => va_Nw.warmM hW h, List.forall_mem_cons.mpr ⟨fun _ _ hW h => va_Nw.warmM hW h, List.forall_mem_cons.mpr ⟨fun _ _ hW h => va_Nw.warmM hW h, List.forall_mem_cons.mpr ⟨fun _ _ hW h => va_Nw.warmM hW h, List.forall_mem_cons.mpr ⟨fun _ _ hW h => va_Nw.warmM hW h, List.forall_mem_cons.mpr ⟨fun _ _ hW h => va_Nw.warmM hW h, List.forall_mem_cons.mpr ⟨fun _ _ hW h => va_Nw.warmC hW h, List.forall_mem_cons.mpr ⟨fun _ _ hW h => va_Nw.warmD hW h, List.forall_mem_cons.mpr ⟨fun _ _ hW h => va_Nw.warmD hW h, List.forall_mem_cons.mpr ⟨fun _ _ hW h => va_Nw.warmD hW h, List.forall_mem_cons.mpr ⟨fun _ _ hW h => va_Nw.warmD hW h, List.forall_mem_cons.mpr ⟨fun _ _ hW h => va_Nw.warmD hW h, List.forall_mem_cons.mpr ⟨fun _ _ hW h => va_Nw.warmD hW h, List.forall_mem_cons.mpr ⟨fun _ _ hW h => va_Nw.warmC hW h, List.forall_mem_cons.mpr ⟨fun _ _ hW h => va_Nw.warmC hW h, List.forall_mem_cons.mpr ⟨fun _ _ hW h => va_Nw.warmC hW h, List.forall_mem_cons.mpr ⟨fun _ _ hW h => va_Nw.warmC hW h, List.forall_mem_cons.mpr ⟨fun _ _ hW h => va_Nw.warmC hW h, List.forall_mem_cons.mpr ⟨fun _ _ hW h => va_Nw.warmC hW h, List.forall_mem_cons.mpr ⟨fun _ _ hW h => va_Nw.warmC hW h, List.forall_mem_cons.mpr ⟨fun _ _ hW h => va_Nw.warmC hW h, List.forall_mem_cons.mpr ⟨fun _ _ hW h => va_Nw.warmC hW h, List.forall_mem_cons.mpr ⟨fun _ _ hW h => va_Nw.warmC hW h, List.forall_mem_cons.mpr ⟨fun _ _ hW h => va_Nw.warmC hW h, List.forall_mem_cons.mpr ⟨fun _ _ hW h => va_Nw.warmC hW h, List.forall_mem_cons.mpr ⟨fun _ _ hW h => va_Nw.warmC hW h, List.forall_mem_cons.mpr ⟨fun _ _ hW h => va_Nw.warmC hW h, List.forall_mem_cons.mpr ⟨fun _ _ hW h => va_Nw.warmC hW h, List.forall_mem_cons.mpr ⟨fun _ _ hW h => va_Nw.warmC hW h, fun _ h => absurd h List.not_mem_nil⟩⟩⟩⟩⟩⟩⟩⟩⟩⟩⟩⟩⟩⟩⟩⟩⟩⟩⟩⟩⟩⟩⟩⟩⟩⟩⟩⟩⟩⟩⟩⟩⟩⟩⟩
def AOW : List String := ["FinerSteps$Machine", "FinerSteps$Event", "FinerSteps$StateSet", "FinerSteps$Verdict"]
/-- what holds of the machine's tables and of the cells below the first own one -/
def EnvOK (E : Ev) (U : State) : Prop :=
  va_K E.2.1 vwCl (tysE E.2.2.1) U ∧ E.2.2.2.1 ≠ 0 ∧ E.2.2.2.1 ≤ U.heap.size ∧ E.1.stackTraces = false ∧
  vk_S 18 lenS bytS E.2.2.2.2.1 E.2.2.2.2.2 (eA E) U U.heap ∧ (∀ (i : Nat) (q : String × Nat × String), strW[i]? = some q → vk_R q.1 q.2.1 q.2.2 (E.2.2.2.2.1 i) U) ∧
  va_Z "java/lang/String" "COMPACT_STRINGS" "Z" (.int 1) (eA E) U U.heap ∧ va_Zq "jdk/internal/util/Preconditions" "SIOOBE_FORMATTER" "Ljava/util/function/BiFunction;" (eA E) U U.heap ∧
  vx_Zq Bundle.tN "UNASSIGNED_STACK" Bundle.steD (eA E) U U.heap ∧ vx_Zq Bundle.tN "SUPPRESSED_SENTINEL" Bundle.listD (eA E) U U.heap ∧
  (∀ w ∈ XW, va_Nw w U) ∧ (∀ C ∈ AOW, va_AO C U)
theorem EnvOK.call {E : Ev} {s U : State} {H : Heap} {locs : List Loc} (h : EnvOK E s) (hS : va_S (eA E) s.heap H locs) (hU : U.heap = H) (hW : s.WarmedH U.vm) : EnvOK E U := by
  obtain ⟨h1, h2, h3, h4, h5, h6, h7, h8, h9, h10, h11, h12⟩ := h
  subst hU
  exact ⟨va_K.moved hW.alike h1, h2, Nat.le_trans h3 hS.1, h4, vk_S.moved hW.alike (h5.kept hS.2.1), fun i q hq => vk_R.warm hW (h6 i q hq), va_Z.moved hW.alike (h7.kept hS.2.1), va_Zq.moved hW.alike (va_Zq.kept h8 hS.2.1), vx_Zq.moved hW.alike (vx_Zq.kept h9 hS.2.1), vx_Zq.moved hW.alike (vx_Zq.kept h10 hS.2.1), fun w hw => XW_tr w hw s U hW (h11 w hw), fun C hC => va_AO.moved hW.alike (h12 C hC)⟩
theorem EnvOK.blind {E : Ev} {U : State} {g : JFrame} {mk : MethodId} {a : Array Value} (h : EnvOK E U) : EnvOK E (U.calling g mk a) := h.call (H := U.heap) (locs := []) va_S.rf rfl (State.WarmedH.refl U)
/-- what is fixed within one method -/
abbrev Cx : Type := Program × Env × Room × State × MethodId × Array Value × List Frame × Method × Code × (State → Prop)
def G (E : Ev) (X : Cx) (n k : Nat) (S : Sh) (Z : Option Nat) (h : Hp) (pc : Nat) (lc : List (Option Tv)) (st : List Tv) : Prop :=
  ∀ (H : Heap) (locs : List Loc) (ls : Array Slot), HR E S h H → (∀ z, Z = some z → H.size + 1 = z) → va_S (eA E) X.2.2.2.1.heap H locs → LR lc ls →
    W X.1 E.1 X.2.1 X.2.2.1 X.2.2.2.1 X.2.2.2.2.1 X.2.2.2.2.2.1 X.2.2.2.2.2.2.1 X.2.2.2.2.2.2.2.1 X.2.2.2.2.2.2.2.2.1 H locs n k X.2.2.2.2.2.2.2.2.2 (F0 X.2.2.2.2.1 pc ls (st.map tv))
abbrev Pq : Type := Option Tv → Sh → Option Nat → Hp → Prop
def QC (E : Ev) (Qc : Pq) : Array Value → State → Outcome → State → Prop := fun _ st o t => (∃ (r : Option Tv) (S : Sh) (Z : Option Nat) (h : Hp), o = .returned (r.map tv) ∧ Qc r S Z h ∧ HR E S h t.heap ∧ (∀ z, Z = some z → t.heap.size + 1 = z)) ∧ va_F (eA E) st t
def Ok (E : Ev) (X : Cx) (y : MethodName) (cc : ByteArray) (nL : Nat) (ret : Option FieldType) (F L mc ms : Nat) (Qc : Pq) : Prop :=
  X.1.tables.exec = Jvm.exec ∧ X.2.2.2.2.2.2.2.2.1.code = cc ∧ X.2.2.2.2.2.2.2.2.1.maxLocals = nL ∧ X.2.2.2.1.vm.findClass y.cls = some X.2.2.2.2.1.cls ∧ (∀ w ∈ BIG, w.before X.2.2.2.2.2.1 X.2.2.2.1 = true) ∧ EnvOK E X.2.2.2.1 ∧
  X.2.2.2.2.2.2.2.1.locks = false ∧ X.2.2.2.2.2.2.2.1.sig.returnType = ret ∧ (y.name = "<init>" → X.2.2.2.2.2.2.2.1.name = "<init>") ∧ X.2.2.1 = { frames := F, cells := mc, slots := ms, locals := L } ∧ (∀ t : State, MQ X.2.2.2.2.2.2.1 (QC E Qc) X.2.2.2.2.2.1 X.2.2.2.1 mc ms (eA E) t → X.2.2.2.2.2.2.2.2.2 t)
def Ct (E : Ev) (y : MethodName) (cc : ByteArray) (nL : Nat) (ret : Option FieldType) (F L mc ms : Nat) (S : Sh) (Z : Option Nat) (h : Hp) (as : List Tv) (Qc : Pq) : Prop :=
  Met E.1 y (Cond.code y cc nL ret :: BIG) { frames := F, cells := mc, slots := ms, locals := L } (va_Pc (as.map tv) (fun U => HR E S h U.heap ∧ (∀ z, Z = some z → U.heap.size + 1 = z) ∧ EnvOK E U)) (QC E Qc) mc ms (eA E)
theorem Ct.of {E : Ev} {y : MethodName} {cc : ByteArray} {nL : Nat} {ret : Option FieldType} {F L mc ms : Nat} {S : Sh} {Z : Option Nat} {h : Hp} {as : List Tv} {Qc : Pq} (hy : plainName y.cls = true) {lc : List (Option Tv)} (hn : (lcE as).length ≤ nL) (hl : lcE as ++ List.replicate (nL - (lcE as).length) none = lc)
    (body : ∀ X : Cx, Ok E X y cc nL ret F L mc ms Qc → G E X 0 0 S Z h 0 lc []) : Ct E y cc nL ret F L mc ms S Z h as Qc := by
  refine Met.ofW (cc := cc) (maxL := nL) (ret := ret) hy rfl ?_
  intro p e s m args below meth c s₁ B hml hv
  obtain ⟨rfl, hH, hZ, hE⟩ := hv
  have hts := atoms_spec (ws := Cond.code y cc nL ret :: BIG) B.pre
  have b := body (p, e, { frames := F, cells := mc, slots := ms, locals := L }, s, m, (as.map tv).toArray, below, meth, c, MQ below (QC E Qc) (as.map tv).toArray s mc ms (eA E))
    ⟨B.exec, B.bytes, hml, findClass_of_methodNamed B.named, fun w hw => hts w (List.mem_cons_of_mem _ hw), hE, B.notSynchronized, B.returns, fun q => (name_of_methodNamed B.named B.method).1.trans q, rfl, fun _ q => q⟩
  rw [lg_entry_eq]
  exact b s.heap [] _ hH hZ va_S.rf (LR.entry as hn hl)
theorem W_mono {p : Program} {l : Launch} {e : Env} {R : Room} {s : State} {m : MethodId} {args : Array Value} {below : List Frame} {meth : Method} {c : Code} {H : Heap} {locs : List Loc} {n k : Nat} {Q Q' : State → Prop} {g : JFrame} (hq : ∀ t, Q t → Q' t) (w : W p l e R s m args below meth c H locs n k Q g) : W p l e R s m args below meth c H locs n k Q' g := by
  intro T hT X
  obtain ⟨t, a, b⟩ := w T hT X
  exact ⟨t, a, hq t b⟩
section GR
variable {E : Ev} {X : Cx} {y : MethodName} {cc : ByteArray} {nL : Nat} {ret : Option FieldType} {F L mc ms : Nat} {Qc : Pq} {n k : Nat} {S : Sh} {Z : Option Nat} {h : Hp} {pc : Nat} {lc : List (Option Tv)} {st : List Tv}
theorem g_mask (bs : List Bool) {lc' : List (Option Tv)} (hb : bs.length = lc.length) (hm : mask bs lc = lc') (g : G E X n k S Z h pc lc' st) : G E X n k S Z h pc lc st := fun H locs ls h1 h2 h3 h4 => g H locs ls h1 h2 h3 (h4.mask bs hb hm)
theorem g_noZ (g : G E X n k S none h pc lc st) : G E X n k S Z h pc lc st := fun H locs ls h1 _ h3 h4 => g H locs ls h1 (fun _ hz => nomatch hz) h3 h4
theorem g_widen {n' k' : Nat} (hn : n ≤ n') (hk : k ≤ k') (g : G E X n' k' S Z h pc lc st) : G E X n k S Z h pc lc st := fun H locs ls h1 h2 h3 h4 => W.widen hn hk (g H locs ls h1 h2 h3 h4)
theorem g_iconst (O : Ok E X y cc nL ret F L mc ms Qc) {i : Int} {v : Int32} (hd : decode cc pc = .ok (.iconst i, 1)) (hv : Int32.ofInt i = v) (g : G E X n k S Z h (pc + 1) lc (vi v :: st)) : G E X n k S Z h pc lc (st) := by
  intro H locs ls h1 h2 h3 h4
  exact lv_iconst O.1 O.2.1 hd hv (g H locs ls h1 h2 h3 h4)
theorem g_bipush (O : Ok E X y cc nL ret F L mc ms Qc) {i : Int} {v : Int32} (hd : decode cc pc = .ok (.bipush i, 2)) (hv : (Int8.ofInt i).toInt32 = v) (g : G E X n k S Z h (pc + 2) lc (vi v :: st)) : G E X n k S Z h pc lc (st) := by
  intro H locs ls h1 h2 h3 h4
  exact lv_bipush O.1 O.2.1 hd hv (g H locs ls h1 h2 h3 h4)
theorem g_sipush (O : Ok E X y cc nL ret F L mc ms Qc) {i : Int} {v : Int32} (hd : decode cc pc = .ok (.sipush i, 3)) (hv : (Int16.ofInt i).toInt32 = v) (g : G E X n k S Z h (pc + 3) lc (vi v :: st)) : G E X n k S Z h pc lc (st) := by
  intro H locs ls h1 h2 h3 h4
  exact lv_sipush O.1 O.2.1 hd hv (g H locs ls h1 h2 h3 h4)
theorem g_lconst (O : Ok E X y cc nL ret F L mc ms Qc) {i : Fin 2} {v : Int64} (hd : decode cc pc = .ok (.lconst i, 1)) (hv : Int64.ofNat (i : Nat) = v) (g : G E X n k S Z h (pc + 1) lc (vj v :: st)) : G E X n k S Z h pc lc (st) := by
  intro H locs ls h1 h2 h3 h4
  exact lv_lconst O.1 O.2.1 hd hv (g H locs ls h1 h2 h3 h4)
theorem g_iload_n (O : Ok E X y cc nL ret F L mc ms Qc) {i : Fin 4} {x : Int32} (hd : decode cc pc = .ok (.iload_n i, 1)) (hl : lc[(i : Nat)]? = some (some (vi x))) (g : G E X n k S Z h (pc + 1) lc (vi x :: st)) : G E X n k S Z h pc lc (st) := by
  intro H locs ls h1 h2 h3 h4
  exact lv_iload_n O.1 O.2.1 hd rfl (h4.2.2 _ _ hl) (g H locs ls h1 h2 h3 h4)
theorem g_iload (O : Ok E X y cc nL ret F L mc ms Qc) {i : Nat} {x : Int32} (hd : decode cc pc = .ok (.iload i, 2)) (hl : lc[i]? = some (some (vi x))) (g : G E X n k S Z h (pc + 2) lc (vi x :: st)) : G E X n k S Z h pc lc (st) := by
  intro H locs ls h1 h2 h3 h4
  exact lv_iload O.1 O.2.1 hd (h4.2.2 _ _ hl) (g H locs ls h1 h2 h3 h4)
theorem g_lload_n (O : Ok E X y cc nL ret F L mc ms Qc) {i : Fin 4} {x : Int64} (hd : decode cc pc = .ok (.lload_n i, 1)) (hl : lc[(i : Nat)]? = some (some (vj x))) (g : G E X n k S Z h (pc + 1) lc (vj x :: st)) : G E X n k S Z h pc lc (st) := by
  intro H locs ls h1 h2 h3 h4
  exact lv_lload_n O.1 O.2.1 hd rfl (h4.2.2 _ _ hl) (g H locs ls h1 h2 h3 h4)
theorem g_lload (O : Ok E X y cc nL ret F L mc ms Qc) {i : Nat} {x : Int64} (hd : decode cc pc = .ok (.lload i, 2)) (hl : lc[i]? = some (some (vj x))) (g : G E X n k S Z h (pc + 2) lc (vj x :: st)) : G E X n k S Z h pc lc (st) := by
  intro H locs ls h1 h2 h3 h4
  exact lv_lload O.1 O.2.1 hd (h4.2.2 _ _ hl) (g H locs ls h1 h2 h3 h4)
theorem g_aload_n (O : Ok E X y cc nL ret F L mc ms Qc) {i : Fin 4} {a : Nat} (hd : decode cc pc = .ok (.aload_n i, 1)) (hl : lc[(i : Nat)]? = some (some (vr a))) (g : G E X n k S Z h (pc + 1) lc (vr a :: st)) : G E X n k S Z h pc lc st := by
  intro H locs ls h1 h2 h3 h4
  have g1 := g H locs ls h1 h2 h3 h4
  have q := h4.2.2 _ _ hl
  by_cases ha : a = 0
  · have e : tv (vr a) = .null := by show rv a = _; simp [rv, oR, ha, va_rf]
    rw [List.map_cons, e] at g1
    rw [e] at q
    exact lv_aload_nN O.1 O.2.1 hd rfl q g1
  · have e : tv (vr a) = .ref (a - 1) := rv_pos ha
    rw [List.map_cons, e] at g1
    rw [e] at q
    exact lv_aload_n O.1 O.2.1 hd rfl q g1
theorem g_aload (O : Ok E X y cc nL ret F L mc ms Qc) {i : Nat} {a : Nat} (hd : decode cc pc = .ok (.aload i, 2)) (hl : lc[i]? = some (some (vr a))) (g : G E X n k S Z h (pc + 2) lc (vr a :: st)) : G E X n k S Z h pc lc st := by
  intro H locs ls h1 h2 h3 h4
  have g1 := g H locs ls h1 h2 h3 h4
  have q := h4.2.2 _ _ hl
  by_cases ha : a = 0
  · have e : tv (vr a) = .null := by show rv a = _; simp [rv, oR, ha, va_rf]
    rw [List.map_cons, e] at g1
    rw [e] at q
    exact lv_aloadN O.1 O.2.1 hd q g1
  · have e : tv (vr a) = .ref (a - 1) := rv_pos ha
    rw [List.map_cons, e] at g1
    rw [e] at q
    exact lv_aload O.1 O.2.1 hd q g1
theorem g_istore_n (O : Ok E X y cc nL ret F L mc ms Qc) {i : Fin 4} {x : Int32} {lc' : List (Option Tv)} (hd : decode cc pc = .ok (.istore_n i, 1)) (hk : okS lc (i : Nat) = true) (hi : (i : Nat) < lc.length) (hs : lc.set (i : Nat) (some (vi x)) = lc') (g : G E X n k S Z h (pc + 1) lc' st) : G E X n k S Z h pc lc (vi x :: st) := by
  intro H locs ls h1 h2 h3 h4
  refine lv_istore_n O.1 O.2.1 hd rfl h4.has hi rfl fun ls2 hl2 => g H locs ls2 h1 h2 h3 (LR.set1 (v := vi x) hk hs hl2 hi)
theorem g_istore (O : Ok E X y cc nL ret F L mc ms Qc) {i : Nat} {x : Int32} {lc' : List (Option Tv)} (hd : decode cc pc = .ok (.istore i, 2)) (hk : okS lc i = true) (hi : i < lc.length) (hs : lc.set i (some (vi x)) = lc') (g : G E X n k S Z h (pc + 2) lc' st) : G E X n k S Z h pc lc (vi x :: st) := by
  intro H locs ls h1 h2 h3 h4
  refine lv_istore O.1 O.2.1 hd h4.has hi rfl fun ls2 hl2 => g H locs ls2 h1 h2 h3 (LR.set1 (v := vi x) hk hs hl2 hi)
theorem g_lstore_n (O : Ok E X y cc nL ret F L mc ms Qc) {i : Fin 4} {x : Int64} {lc' : List (Option Tv)} (hd : decode cc pc = .ok (.lstore_n i, 1)) (hk : okS lc (i : Nat) = true) (hi : (i : Nat) + 1 < lc.length) (hs : (lc.set (i : Nat) (some (vj x))).set ((i : Nat) + 1) none = lc') (g : G E X n k S Z h (pc + 1) lc' st) : G E X n k S Z h pc lc (vj x :: st) := by
  intro H locs ls h1 h2 h3 h4
  refine lv_lstore_n O.1 O.2.1 hd rfl h4.has hi rfl fun ls2 hl2 => g H locs ls2 h1 h2 h3 (LR.set2 (v := vj x) hk hs hl2 hi)
theorem g_lstore (O : Ok E X y cc nL ret F L mc ms Qc) {i : Nat} {x : Int64} {lc' : List (Option Tv)} (hd : decode cc pc = .ok (.lstore i, 2)) (hk : okS lc i = true) (hi : i + 1 < lc.length) (hs : (lc.set i (some (vj x))).set (i + 1) none = lc') (g : G E X n k S Z h (pc + 2) lc' st) : G E X n k S Z h pc lc (vj x :: st) := by
  intro H locs ls h1 h2 h3 h4
  refine lv_lstore O.1 O.2.1 hd h4.has hi rfl fun ls2 hl2 => g H locs ls2 h1 h2 h3 (LR.set2 (v := vj x) hk hs hl2 hi)
theorem g_astore_n (O : Ok E X y cc nL ret F L mc ms Qc) {i : Fin 4} {a : Nat} {lc' : List (Option Tv)} (hd : decode cc pc = .ok (.astore_n i, 1)) (hk : okS lc (i : Nat) = true) (hi : (i : Nat) < lc.length) (hs : lc.set (i : Nat) (some (vr a)) = lc') (g : G E X n k S Z h (pc + 1) lc' st) : G E X n k S Z h pc lc (vr a :: st) := by
  intro H locs ls h1 h2 h3 h4
  have key : ∀ ls2 : Array Slot, lv_has ls2 lc.length (((i : Nat), tv (vr a)) :: (asc 0 lc).filter (fun q => !(q.1 == (i : Nat)) && !(q.1 + 1 == (i : Nat) && q.2.category == 2))) → _ := fun ls2 hl2 => g H locs ls2 h1 h2 h3 (LR.set1 (v := vr a) hk hs hl2 hi)
  rw [List.map_cons]
  by_cases ha : a = 0
  · have e : tv (vr a) = .null := by show rv a = _; simp [rv, oR, ha, va_rf]
    rw [e] at key ⊢
    exact lv_astore_nN O.1 O.2.1 hd rfl h4.has hi rfl key
  · have e : tv (vr a) = .ref (a - 1) := rv_pos ha
    rw [e] at key ⊢
    exact lv_astore_n O.1 O.2.1 hd rfl h4.has hi rfl key
theorem g_astore (O : Ok E X y cc nL ret F L mc ms Qc) {i : Nat} {a : Nat} {lc' : List (Option Tv)} (hd : decode cc pc = .ok (.astore i, 2)) (hk : okS lc i = true) (hi : i < lc.length) (hs : lc.set i (some (vr a)) = lc') (g : G E X n k S Z h (pc + 2) lc' st) : G E X n k S Z h pc lc (vr a :: st) := by
  intro H locs ls h1 h2 h3 h4
  have key : ∀ ls2 : Array Slot, lv_has ls2 lc.length ((i, tv (vr a)) :: (asc 0 lc).filter (fun q => !(q.1 == i) && !(q.1 + 1 == i && q.2.category == 2))) → _ := fun ls2 hl2 => g H locs ls2 h1 h2 h3 (LR.set1 (v := vr a) hk hs hl2 hi)
  rw [List.map_cons]
  by_cases ha : a = 0
  · have e : tv (vr a) = .null := by show rv a = _; simp [rv, oR, ha, va_rf]
    rw [e] at key ⊢
    exact lv_astoreN O.1 O.2.1 hd h4.has hi rfl key
  · have e : tv (vr a) = .ref (a - 1) := rv_pos ha
    rw [e] at key ⊢
    exact lv_astore O.1 O.2.1 hd h4.has hi rfl key
theorem g_iinc (O : Ok E X y cc nL ret F L mc ms Qc) {i : Nat} {d : Int} {x v : Int32} {lc' : List (Option Tv)} (hd : decode cc pc = .ok (.iinc i d, 3)) (hl : lc[i]? = some (some (vi x))) (hv : Int32.ofInt d = v) (hk : okS lc i = true) (hs : lc.set i (some (vi (x + v))) = lc') (g : G E X n k S Z h (pc + 3) lc' st) : G E X n k S Z h pc lc st := by
  intro H locs ls h1 h2 h3 h4
  have hi : i < lc.length := (List.getElem?_eq_some_iff.mp hl).1
  obtain ⟨q, hq⟩ := List.getElem?_of_mem ((asc_mem lc 0 i (tv (vi x))).mpr ⟨i, vi x, by omega, hl, rfl⟩)
  subst hv
  exact lv_iinc O.1 O.2.1 hd h4.has hq rfl hi rfl fun ls2 hl2 => g H locs ls2 h1 h2 h3 (LR.set1 (v := vi (x + Int32.ofInt d)) hk hs hl2 hi)
theorem g_iadd (O : Ok E X y cc nL ret F L mc ms Qc) {x z : Int32} (hd : decode cc pc = .ok (.iadd, 1)) (g : G E X n k S Z h (pc + 1) lc (vi (x + z) :: st)) : G E X n k S Z h pc lc (vi z :: vi x :: st) := by
  intro H locs ls h1 h2 h3 h4
  exact lv_iadd O.1 O.2.1 hd (g H locs ls h1 h2 h3 h4)
theorem g_isub (O : Ok E X y cc nL ret F L mc ms Qc) {x z : Int32} (hd : decode cc pc = .ok (.isub, 1)) (g : G E X n k S Z h (pc + 1) lc (vi (x - z) :: st)) : G E X n k S Z h pc lc (vi z :: vi x :: st) := by
  intro H locs ls h1 h2 h3 h4
  exact lv_isub O.1 O.2.1 hd (g H locs ls h1 h2 h3 h4)
theorem g_imul (O : Ok E X y cc nL ret F L mc ms Qc) {x z : Int32} (hd : decode cc pc = .ok (.imul, 1)) (g : G E X n k S Z h (pc + 1) lc (vi (x * z) :: st)) : G E X n k S Z h pc lc (vi z :: vi x :: st) := by
  intro H locs ls h1 h2 h3 h4
  exact lv_imul O.1 O.2.1 hd (g H locs ls h1 h2 h3 h4)
theorem g_iand (O : Ok E X y cc nL ret F L mc ms Qc) {x z : Int32} (hd : decode cc pc = .ok (.iand, 1)) (g : G E X n k S Z h (pc + 1) lc (vi (x &&& z) :: st)) : G E X n k S Z h pc lc (vi z :: vi x :: st) := by
  intro H locs ls h1 h2 h3 h4
  exact lv_iand O.1 O.2.1 hd (g H locs ls h1 h2 h3 h4)
theorem g_ior (O : Ok E X y cc nL ret F L mc ms Qc) {x z : Int32} (hd : decode cc pc = .ok (.ior, 1)) (g : G E X n k S Z h (pc + 1) lc (vi (x ||| z) :: st)) : G E X n k S Z h pc lc (vi z :: vi x :: st) := by
  intro H locs ls h1 h2 h3 h4
  exact lv_ior O.1 O.2.1 hd (g H locs ls h1 h2 h3 h4)
theorem g_ishl (O : Ok E X y cc nL ret F L mc ms Qc) {x z : Int32} (hd : decode cc pc = .ok (.ishl, 1)) (g : G E X n k S Z h (pc + 1) lc (vi (shl32 x z) :: st)) : G E X n k S Z h pc lc (vi z :: vi x :: st) := by
  intro H locs ls h1 h2 h3 h4
  exact lv_ishl O.1 O.2.1 hd (g H locs ls h1 h2 h3 h4)
theorem g_ishr (O : Ok E X y cc nL ret F L mc ms Qc) {x z : Int32} (hd : decode cc pc = .ok (.ishr, 1)) (g : G E X n k S Z h (pc + 1) lc (vi (shr32 x z) :: st)) : G E X n k S Z h pc lc (vi z :: vi x :: st) := by
  intro H locs ls h1 h2 h3 h4
  exact lv_ishr O.1 O.2.1 hd (g H locs ls h1 h2 h3 h4)
theorem g_idiv (O : Ok E X y cc nL ret F L mc ms Qc) {x z : Int32} (hd : decode cc pc = .ok (.idiv, 1)) (hz : ¬ z = 0) (g : G E X n k S Z h (pc + 1) lc (vi (x / z) :: st)) : G E X n k S Z h pc lc (vi z :: vi x :: st) := by
  intro H locs ls h1 h2 h3 h4
  exact lv_idiv O.1 O.2.1 hd hz (g H locs ls h1 h2 h3 h4)
theorem g_irem (O : Ok E X y cc nL ret F L mc ms Qc) {x z : Int32} (hd : decode cc pc = .ok (.irem, 1)) (hz : ¬ z = 0) (g : G E X n k S Z h (pc + 1) lc (vi (rem32 x z) :: st)) : G E X n k S Z h pc lc (vi z :: vi x :: st) := by
  intro H locs ls h1 h2 h3 h4
  exact lv_irem O.1 O.2.1 hd hz (g H locs ls h1 h2 h3 h4)
theorem g_iushr (O : Ok E X y cc nL ret F L mc ms Qc) {x z : Int32} (hd : decode cc pc = .ok (.iushr, 1)) (g : G E X n k S Z h (pc + 1) lc (vi (ush32 x z) :: st)) : G E X n k S Z h pc lc (vi z :: vi x :: st) := by
  intro H locs ls h1 h2 h3 h4
  exact lv_iushr O.1 O.2.1 hd rfl (g H locs ls h1 h2 h3 h4)
theorem g_ladd (O : Ok E X y cc nL ret F L mc ms Qc) {x z : Int64} (hd : decode cc pc = .ok (.ladd, 1)) (g : G E X n k S Z h (pc + 1) lc (vj (x + z) :: st)) : G E X n k S Z h pc lc (vj z :: vj x :: st) := by
  intro H locs ls h1 h2 h3 h4
  exact lv_ladd O.1 O.2.1 hd (g H locs ls h1 h2 h3 h4)
theorem g_lsub (O : Ok E X y cc nL ret F L mc ms Qc) {x z : Int64} (hd : decode cc pc = .ok (.lsub, 1)) (g : G E X n k S Z h (pc + 1) lc (vj (x - z) :: st)) : G E X n k S Z h pc lc (vj z :: vj x :: st) := by
  intro H locs ls h1 h2 h3 h4
  exact lv_lsub O.1 O.2.1 hd (g H locs ls h1 h2 h3 h4)
theorem g_lmul (O : Ok E X y cc nL ret F L mc ms Qc) {x z : Int64} (hd : decode cc pc = .ok (.lmul, 1)) (g : G E X n k S Z h (pc + 1) lc (vj (x * z) :: st)) : G E X n k S Z h pc lc (vj z :: vj x :: st) := by
  intro H locs ls h1 h2 h3 h4
  exact lv_lmul O.1 O.2.1 hd (g H locs ls h1 h2 h3 h4)
theorem g_land (O : Ok E X y cc nL ret F L mc ms Qc) {x z : Int64} (hd : decode cc pc = .ok (.land, 1)) (g : G E X n k S Z h (pc + 1) lc (vj (x &&& z) :: st)) : G E X n k S Z h pc lc (vj z :: vj x :: st) := by
  intro H locs ls h1 h2 h3 h4
  exact lv_land O.1 O.2.1 hd (g H locs ls h1 h2 h3 h4)
theorem g_lor (O : Ok E X y cc nL ret F L mc ms Qc) {x z : Int64} (hd : decode cc pc = .ok (.lor, 1)) (g : G E X n k S Z h (pc + 1) lc (vj (x ||| z) :: st)) : G E X n k S Z h pc lc (vj z :: vj x :: st) := by
  intro H locs ls h1 h2 h3 h4
  exact lv_lor O.1 O.2.1 hd (g H locs ls h1 h2 h3 h4)
theorem g_ldiv (O : Ok E X y cc nL ret F L mc ms Qc) {x z : Int64} (hd : decode cc pc = .ok (.ldiv, 1)) (hz : ¬ z = 0) (g : G E X n k S Z h (pc + 1) lc (vj (x / z) :: st)) : G E X n k S Z h pc lc (vj z :: vj x :: st) := by
  intro H locs ls h1 h2 h3 h4
  exact lv_ldiv O.1 O.2.1 hd hz (g H locs ls h1 h2 h3 h4)
theorem g_lrem (O : Ok E X y cc nL ret F L mc ms Qc) {x z : Int64} (hd : decode cc pc = .ok (.lrem, 1)) (hz : ¬ z = 0) (g : G E X n k S Z h (pc + 1) lc (vj (rem64 x z) :: st)) : G E X n k S Z h pc lc (vj z :: vj x :: st) := by
  intro H locs ls h1 h2 h3 h4
  exact lv_lrem O.1 O.2.1 hd hz (g H locs ls h1 h2 h3 h4)
theorem g_lushr (O : Ok E X y cc nL ret F L mc ms Qc) {x : Int64} {z : Int32} (hd : decode cc pc = .ok (.lushr, 1)) (g : G E X n k S Z h (pc + 1) lc (vj (ush64 x z) :: st)) : G E X n k S Z h pc lc (vi z :: vj x :: st) := by
  intro H locs ls h1 h2 h3 h4
  exact lv_lushr O.1 O.2.1 hd rfl (g H locs ls h1 h2 h3 h4)
theorem g_lshl (O : Ok E X y cc nL ret F L mc ms Qc) {x : Int64} {z : Int32} (hd : decode cc pc = .ok (.lshl, 1)) (g : G E X n k S Z h (pc + 1) lc (vj (shl64 x z) :: st)) : G E X n k S Z h pc lc (vi z :: vj x :: st) := by
  intro H locs ls h1 h2 h3 h4
  exact lv_lshl O.1 O.2.1 hd rfl (g H locs ls h1 h2 h3 h4)
theorem g_lshr (O : Ok E X y cc nL ret F L mc ms Qc) {x : Int64} {z : Int32} (hd : decode cc pc = .ok (.lshr, 1)) (g : G E X n k S Z h (pc + 1) lc (vj (shr64 x z) :: st)) : G E X n k S Z h pc lc (vi z :: vj x :: st) := by
  intro H locs ls h1 h2 h3 h4
  exact lv_lshr O.1 O.2.1 hd rfl (g H locs ls h1 h2 h3 h4)
theorem g_lcmp (O : Ok E X y cc nL ret F L mc ms Qc) {x z : Int64} (hd : decode cc pc = .ok (.lcmp, 1)) (g : G E X n k S Z h (pc + 1) lc (vi (lg_cmp x z) :: st)) : G E X n k S Z h pc lc (vj z :: vj x :: st) := by
  intro H locs ls h1 h2 h3 h4
  exact W.lcmp O.1 O.2.1 hd (g H locs ls h1 h2 h3 h4)
theorem g_i2l (O : Ok E X y cc nL ret F L mc ms Qc) {x : Int32} (hd : decode cc pc = .ok (.i2l, 1)) (g : G E X n k S Z h (pc + 1) lc (vj x.toInt64 :: st)) : G E X n k S Z h pc lc (vi x :: st) := by
  intro H locs ls h1 h2 h3 h4
  exact lv_i2l O.1 O.2.1 hd rfl (g H locs ls h1 h2 h3 h4)
theorem g_l2i (O : Ok E X y cc nL ret F L mc ms Qc) {x : Int64} (hd : decode cc pc = .ok (.l2i, 1)) (g : G E X n k S Z h (pc + 1) lc (vi x.toInt32 :: st)) : G E X n k S Z h pc lc (vj x :: st) := by
  intro H locs ls h1 h2 h3 h4
  exact lv_l2i O.1 O.2.1 hd rfl (g H locs ls h1 h2 h3 h4)
theorem g_i2b (O : Ok E X y cc nL ret F L mc ms Qc) {x : Int32} (hd : decode cc pc = .ok (.i2b, 1)) (g : G E X n k S Z h (pc + 1) lc (vi (i2b x) :: st)) : G E X n k S Z h pc lc (vi x :: st) := by
  intro H locs ls h1 h2 h3 h4
  exact lv_i2b O.1 O.2.1 hd rfl (g H locs ls h1 h2 h3 h4)
theorem g_i2c (O : Ok E X y cc nL ret F L mc ms Qc) {x : Int32} (hd : decode cc pc = .ok (.i2c, 1)) (g : G E X n k S Z h (pc + 1) lc (vi (i2c x) :: st)) : G E X n k S Z h pc lc (vi x :: st) := by
  intro H locs ls h1 h2 h3 h4
  exact lv_i2c O.1 O.2.1 hd rfl (g H locs ls h1 h2 h3 h4)
theorem g_dup (O : Ok E X y cc nL ret F L mc ms Qc) {v : Tv} (hd : decode cc pc = .ok (.dup, 1)) (hv : tc v = 1) (g : G E X n k S Z h (pc + 1) lc (v :: v :: st)) : G E X n k S Z h pc lc (v :: st) := by
  intro H locs ls h1 h2 h3 h4
  exact lv_dup O.1 O.2.1 hd ((tc_ok v).trans hv) (g H locs ls h1 h2 h3 h4)
theorem g_pop (O : Ok E X y cc nL ret F L mc ms Qc) {v : Tv} (hd : decode cc pc = .ok (.pop, 1)) (hv : tc v = 1) (g : G E X n k S Z h (pc + 1) lc st) : G E X n k S Z h pc lc (v :: st) := by
  intro H locs ls h1 h2 h3 h4
  exact lv_pop O.1 O.2.1 hd ((tc_ok v).trans hv) (g H locs ls h1 h2 h3 h4)
theorem g_dup2 (O : Ok E X y cc nL ret F L mc ms Qc) {v w : Tv} (hd : decode cc pc = .ok (.dup2, 1)) (hv : tc v = 1) (hw : tc w = 1) (g : G E X n k S Z h (pc + 1) lc (v :: w :: v :: w :: st)) : G E X n k S Z h pc lc (v :: w :: st) := by
  intro H locs ls h1 h2 h3 h4
  exact lv_dup2_11 O.1 O.2.1 hd ((tc_ok v).trans hv) ((tc_ok w).trans hw) (g H locs ls h1 h2 h3 h4)
theorem g_if_eq (O : Ok E X y cc nL ret F L mc ms Qc) {x : Int32} {off : Int} {tgt : Nat} (hd : decode cc pc = .ok (.ifCond .eq off, 3)) (ht : (pc : Int) + off = (tgt : Int)) (gt : x = 0 → G E X n k S Z h tgt lc st) (gf : ¬ x = 0 → G E X n k S Z h (pc + 3) lc st) : G E X n k S Z h pc lc (vi x :: st) := by
  intro H locs ls h1 h2 h3 h4
  exact lv_if_eq O.1 O.2.1 hd ht (fun q => gt q H locs ls h1 h2 h3 h4) (fun q => gf q H locs ls h1 h2 h3 h4)
theorem g_if_ne (O : Ok E X y cc nL ret F L mc ms Qc) {x : Int32} {off : Int} {tgt : Nat} (hd : decode cc pc = .ok (.ifCond .ne off, 3)) (ht : (pc : Int) + off = (tgt : Int)) (gt : ¬ x = 0 → G E X n k S Z h tgt lc st) (gf : x = 0 → G E X n k S Z h (pc + 3) lc st) : G E X n k S Z h pc lc (vi x :: st) := by
  intro H locs ls h1 h2 h3 h4
  exact lv_if_ne O.1 O.2.1 hd ht (fun q => gt q H locs ls h1 h2 h3 h4) (fun q => gf q H locs ls h1 h2 h3 h4)
theorem g_if_lt (O : Ok E X y cc nL ret F L mc ms Qc) {x : Int32} {off : Int} {tgt : Nat} (hd : decode cc pc = .ok (.ifCond .lt off, 3)) (ht : (pc : Int) + off = (tgt : Int)) (gt : x < 0 → G E X n k S Z h tgt lc st) (gf : ¬ x < 0 → G E X n k S Z h (pc + 3) lc st) : G E X n k S Z h pc lc (vi x :: st) := by
  intro H locs ls h1 h2 h3 h4
  exact lv_if_lt O.1 O.2.1 hd ht (fun q => gt q H locs ls h1 h2 h3 h4) (fun q => gf q H locs ls h1 h2 h3 h4)
theorem g_if_ge (O : Ok E X y cc nL ret F L mc ms Qc) {x : Int32} {off : Int} {tgt : Nat} (hd : decode cc pc = .ok (.ifCond .ge off, 3)) (ht : (pc : Int) + off = (tgt : Int)) (gt : 0 ≤ x → G E X n k S Z h tgt lc st) (gf : ¬ 0 ≤ x → G E X n k S Z h (pc + 3) lc st) : G E X n k S Z h pc lc (vi x :: st) := by
  intro H locs ls h1 h2 h3 h4
  exact lv_if_ge O.1 O.2.1 hd ht (fun q => gt q H locs ls h1 h2 h3 h4) (fun q => gf q H locs ls h1 h2 h3 h4)
theorem g_if_gt (O : Ok E X y cc nL ret F L mc ms Qc) {x : Int32} {off : Int} {tgt : Nat} (hd : decode cc pc = .ok (.ifCond .gt off, 3)) (ht : (pc : Int) + off = (tgt : Int)) (gt : 0 < x → G E X n k S Z h tgt lc st) (gf : ¬ 0 < x → G E X n k S Z h (pc + 3) lc st) : G E X n k S Z h pc lc (vi x :: st) := by
  intro H locs ls h1 h2 h3 h4
  exact lv_if_gt O.1 O.2.1 hd ht (fun q => gt q H locs ls h1 h2 h3 h4) (fun q => gf q H locs ls h1 h2 h3 h4)
theorem g_if_le (O : Ok E X y cc nL ret F L mc ms Qc) {x : Int32} {off : Int} {tgt : Nat} (hd : decode cc pc = .ok (.ifCond .le off, 3)) (ht : (pc : Int) + off = (tgt : Int)) (gt : x ≤ 0 → G E X n k S Z h tgt lc st) (gf : ¬ x ≤ 0 → G E X n k S Z h (pc + 3) lc st) : G E X n k S Z h pc lc (vi x :: st) := by
  intro H locs ls h1 h2 h3 h4
  exact lv_if_le O.1 O.2.1 hd ht (fun q => gt q H locs ls h1 h2 h3 h4) (fun q => gf q H locs ls h1 h2 h3 h4)
theorem g_icmp_eq (O : Ok E X y cc nL ret F L mc ms Qc) {x z : Int32} {off : Int} {tgt : Nat} (hd : decode cc pc = .ok (.if_icmp .eq off, 3)) (ht : (pc : Int) + off = (tgt : Int)) (gt : x = z → G E X n k S Z h tgt lc st) (gf : ¬ x = z → G E X n k S Z h (pc + 3) lc st) : G E X n k S Z h pc lc (vi z :: vi x :: st) := by
  intro H locs ls h1 h2 h3 h4
  exact lv_icmp_eq O.1 O.2.1 hd ht (fun q => gt q H locs ls h1 h2 h3 h4) (fun q => gf q H locs ls h1 h2 h3 h4)
theorem g_icmp_ne (O : Ok E X y cc nL ret F L mc ms Qc) {x z : Int32} {off : Int} {tgt : Nat} (hd : decode cc pc = .ok (.if_icmp .ne off, 3)) (ht : (pc : Int) + off = (tgt : Int)) (gt : ¬ x = z → G E X n k S Z h tgt lc st) (gf : x = z → G E X n k S Z h (pc + 3) lc st) : G E X n k S Z h pc lc (vi z :: vi x :: st) := by
  intro H locs ls h1 h2 h3 h4
  exact lv_icmp_ne O.1 O.2.1 hd ht (fun q => gt q H locs ls h1 h2 h3 h4) (fun q => gf q H locs ls h1 h2 h3 h4)
theorem g_icmp_lt (O : Ok E X y cc nL ret F L mc ms Qc) {x z : Int32} {off : Int} {tgt : Nat} (hd : decode cc pc = .ok (.if_icmp .lt off, 3)) (ht : (pc : Int) + off = (tgt : Int)) (gt : x < z → G E X n k S Z h tgt lc st) (gf : ¬ x < z → G E X n k S Z h (pc + 3) lc st) : G E X n k S Z h pc lc (vi z :: vi x :: st) := by
  intro H locs ls h1 h2 h3 h4
  exact lv_icmp_lt O.1 O.2.1 hd ht (fun q => gt q H locs ls h1 h2 h3 h4) (fun q => gf q H locs ls h1 h2 h3 h4)
theorem g_icmp_ge (O : Ok E X y cc nL ret F L mc ms Qc) {x z : Int32} {off : Int} {tgt : Nat} (hd : decode cc pc = .ok (.if_icmp .ge off, 3)) (ht : (pc : Int) + off = (tgt : Int)) (gt : z ≤ x → G E X n k S Z h tgt lc st) (gf : ¬ z ≤ x → G E X n k S Z h (pc + 3) lc st) : G E X n k S Z h pc lc (vi z :: vi x :: st) := by
  intro H locs ls h1 h2 h3 h4
  exact lv_icmp_ge O.1 O.2.1 hd ht (fun q => gt q H locs ls h1 h2 h3 h4) (fun q => gf q H locs ls h1 h2 h3 h4)
theorem g_icmp_gt (O : Ok E X y cc nL ret F L mc ms Qc) {x z : Int32} {off : Int} {tgt : Nat} (hd : decode cc pc = .ok (.if_icmp .gt off, 3)) (ht : (pc : Int) + off = (tgt : Int)) (gt : z < x → G E X n k S Z h tgt lc st) (gf : ¬ z < x → G E X n k S Z h (pc + 3) lc st) : G E X n k S Z h pc lc (vi z :: vi x :: st) := by
  intro H locs ls h1 h2 h3 h4
  exact lv_icmp_gt O.1 O.2.1 hd ht (fun q => gt q H locs ls h1 h2 h3 h4) (fun q => gf q H locs ls h1 h2 h3 h4)
theorem g_icmp_le (O : Ok E X y cc nL ret F L mc ms Qc) {x z : Int32} {off : Int} {tgt : Nat} (hd : decode cc pc = .ok (.if_icmp .le off, 3)) (ht : (pc : Int) + off = (tgt : Int)) (gt : x ≤ z → G E X n k S Z h tgt lc st) (gf : ¬ x ≤ z → G E X n k S Z h (pc + 3) lc st) : G E X n k S Z h pc lc (vi z :: vi x :: st) := by
  intro H locs ls h1 h2 h3 h4
  exact lv_icmp_le O.1 O.2.1 hd ht (fun q => gt q H locs ls h1 h2 h3 h4) (fun q => gf q H locs ls h1 h2 h3 h4)
theorem g_goto (O : Ok E X y cc nL ret F L mc ms Qc) {off : Int} {tgt : Nat} (hd : decode cc pc = .ok (.goto off, 3)) (ht : (pc : Int) + off = (tgt : Int)) (g : G E X n k S Z h tgt lc st) : G E X n k S Z h pc lc (st) := by
  intro H locs ls h1 h2 h3 h4
  exact lv_goto O.1 O.2.1 hd ht (g H locs ls h1 h2 h3 h4)
theorem g_ldc (O : Ok E X y cc nL ret F L mc ms Qc) {idx : Nat} {v : Int32} (hd : decode cc pc = .ok (.ldc idx, 2)) (hc : Cond.constant y.cls idx v ∈ BIG) (g : G E X n k S Z h (pc + 2) lc (vi v :: st)) : G E X n k S Z h pc lc (st) := by
  intro H locs ls h1 h2 h3 h4
  exact lv_ldc O.1 O.2.1 O.2.2.2.1 (O.2.2.2.2.1 _ hc) hd (g H locs ls h1 h2 h3 h4)
theorem g_ldc_w (O : Ok E X y cc nL ret F L mc ms Qc) {idx : Nat} {v : Int32} (hd : decode cc pc = .ok (.ldc_w idx, 3)) (hc : Cond.constant y.cls idx v ∈ BIG) (g : G E X n k S Z h (pc + 3) lc (vi v :: st)) : G E X n k S Z h pc lc (st) := by
  intro H locs ls h1 h2 h3 h4
  exact lv_ldcw O.1 O.2.1 O.2.2.2.1 (O.2.2.2.2.1 _ hc) hd (g H locs ls h1 h2 h3 h4)
theorem g_ldc2 (O : Ok E X y cc nL ret F L mc ms Qc) {idx : Nat} {v : Int64} (hd : decode cc pc = .ok (.ldc2_w idx, 3)) (hc : Cond.constantLong y.cls idx v ∈ BIG) (g : G E X n k S Z h (pc + 3) lc (vj v :: st)) : G E X n k S Z h pc lc (st) := by
  intro H locs ls h1 h2 h3 h4
  exact lv_ldc2 O.1 O.2.1 O.2.2.2.1 (O.2.2.2.2.1 _ hc) hd (g H locs ls h1 h2 h3 h4)
end GR
