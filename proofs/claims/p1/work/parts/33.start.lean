/-! THE CLAIM OUT OF ONE WALK OF THE LAW'S BODY. Your part is whole_start (and what it stands on); all else here is the same for every law, but numbers. -/
def R_law : String := "FinerStepsLaw"
def lw_P (b : Addr) (xs : List Int32) (args : Array Value) (s : State) : Prop := args = #[.ref b] ∧ s.IntsAt b xs ∧ xs.length ≤ 6 ∧ (Jvm.Cond.and given_1 narrow_1).before args s = true
def lw_Q (_ : Array Value) (s : State) (o : Outcome) (t : State) : Prop := o = .returned (some (.int 1)) ∧ Framed s o t [] 600002 7302232
def lw_Z (below : List Frame) (a : Array Value) (s : State) : State → Prop := fun t => ∃ o, t.status = .running ∧ Ended t below o ∧ lw_Q a s o t
/-- the law's own end, with 1 on the stack, nothing written that was there before, its room as the claim has it -/
theorem lw_ret {p : Program} {l : Launch} {e : Env} {s : State} {m : MethodId} {below : List Frame} {meth : Method} {c : Code} {b : Nat} (hx : p.tables.exec = Jvm.exec) (hb : c.code = code) (hr : meth.sig.returnType = ret) (hlocks : meth.locks = false) {pc : Nat} {H : Heap} {ls : Array Slot} (hdg : decode code pc = .ok (.ireturn, 1)) : W p l e room_1 s m #[Value.ref b] below meth c H [] 600002 7302232 (lw_Z below #[Value.ref b] s) (F0 m pc ls [.int 1]) := by
  intro T hT X
  obtain ⟨fs, hret, hrun, hended, hW, hframe⟩ := X.leave (v := some (.int 1)) (hlocks := hlocks) (fun h => by rw [hr] at h; cases h)
  have hmeth' : T.vm.method? m = some meth := X.method'
  refine ⟨T.setFrames fs, ?_, .returned (some (.int 1)), hrun, hended, rfl, ⟨_, rfl⟩, hW, hframe⟩
  jvm_step X.here [X.here.top, hx, hb, hdg, hmeth', hr, ret, narrow_b1]
  (try refine ⟨rfl, ?_⟩); (try refine ⟨rfl, ?_⟩)
  first | (intro acts; rw [hret _ acts rfl rfl rfl]) | rw [hret _ _ rfl rfl rfl]
  exact Steps.refl _
/-- what holds at the law's entry: the machine, the code, the tables' words (any of lw_tbl by 'hts w (by decide +kernel)'), the script of L ints xs at the cell b, what the Statement gives of the start (any of its parts by flat_of_before) -/
def lw_At (p : Program) (s : State) (m : MethodId) (meth : Method) (c : Code) (b L : Nat) (xs : Nat → Int32) : Prop :=
  p.tables.exec = Jvm.exec ∧ c.code = code ∧ meth.sig.returnType = ret ∧ c.maxLocals = 7 ∧ s.vm.findClass R_law = some m.cls ∧ (∀ w ∈ lw_tbl, w.before #[Value.ref b] s = true) ∧ va_X b L xs s s.heap ∧ b < s.heap.size ∧ meth.locks = false ∧ (Jvm.Cond.and given_1 narrow_1).before #[Value.ref b] s = true
/-! THE LAW OUT OF ITS TABLES -/
def sh0 : Sh := fun _ => (0, 0)
def hp0 : Hp := (fun _ _ => 0, fun _ _ => 0, fun _ _ => 0)
/-- the law as a word of the three tables only: K: the numbers of the String constants, z: the number of the first new cell -/
def PureGoal (K : Nat → Nat) (xs : Nat → Int32) (Ls z : Nat) : Prop :=
  wX11_init K (uS sh0 z (12, 0)) (z + 1) hp0 z (fun S1 z1 h1 => h0 h1 z1 ∧ wX12_init (uS S1 z1 (13, 0)) (z1 + 1) h1 z1 (fun S2 z2 h2 => h0 h2 z2 ∧ ∃ n, wL_law_23 (uS S2 z2 (23, 1)) K xs Ls z z1 z2 (fun r _ => r = 1) n 938 62505 h2 0))
theorem sbn_forget {s u : State} {L : List Loc} {k n : Nat} (h : s.sameButNew u L k n) (hL : ∀ q ∈ L, s.heap.size ≤ q.base) : s.sameButNew u [] k n := by
  obtain ⟨h1, h2, h3, h4, h5, h6⟩ := h
  refine ⟨h1, h2, h3, h4, h5, fun a c ha => ?_⟩
  obtain ⟨c', g1, g2, g3, g4⟩ := h6 a c ha
  refine ⟨c', g1, g2, g3, fun i _ => g4 i (fun hm => ?_)⟩
  have q1 := hL _ hm
  have q2 := (Array.getElem?_eq_some_iff.mp ha).1
  exact absurd q2 (Nat.not_lt.mpr q1)
theorem whole_of {p : Program} {e : Env} {s : State} {m : MethodId} {below : List Frame} {meth : Method} {c : Code} (l : Launch) (hflags : l.flags = flags0) {b L : Nat} {xs : Nat → Int32} (C0 : lw_At p s m meth c b L xs)
    (hP : ∀ (K : Nat → Nat) (z : Nat), z ≠ 0 → (∀ i j : Nat, i < 18 → j < 18 → K i = K j → i = j) → (∀ i : Nat, K i ≠ 0) → PureGoal K xs L z) : W p l e room_1 s m #[Value.ref b] below meth c s.heap [] 0 0 (lw_Z below #[Value.ref b] s) (entryFrame m ([Value.ref b] : List Value).toArray 7) := by
  obtain ⟨hx, hcode, hret, hml, hown, hts, hXs, hb, hlk, hn⟩ := C0
  obtain ⟨E, rfl, e0, hE⟩ := env_start l hflags hts hb hn
  have hO : ∀ S : Sh, Ok E (p, e, room_1, s, m, #[Value.ref b], below, meth, c, lw_Z below #[Value.ref b] s) yL_law cL_law 7 (some .boolean) 2048 84000 600002 7302232 (qI S none (fun r _ => r = 1)) := by
    intro S
    refine ⟨hx, hcode, hml, hown, fun w hw => hts w (big_tbl w hw), hE, hlk, hret, fun q => absurd q (by decide), rfl, fun t ht => ?_⟩
    obtain ⟨o, t1, t2, ⟨⟨r, S', Z', h', t3, ⟨-, -, x, t4, t5⟩, -, -⟩, -⟩, Lc, ⟨t6, t7, t8⟩, t9⟩ := ht
    subst t4
    subst t5
    refine ⟨o, t1, t2, t3, t6, t7, sbn_forget t8 (fun q hq => ?_)⟩
    have := t9 q hq
    unfold eA at this
    rw [e0] at this
    exact this
  have hLX : LawX E (p, e, room_1, s, m, #[Value.ref b], below, meth, c, lw_Z below #[Value.ref b] s) b xs L := ⟨hXs, hb, fun q => by unfold eA at q; rw [e0] at q; exact absurd hb (Nat.not_lt.mpr q)⟩
  have hw := hP (fun i => E.2.2.2.2.1 i + 1) (s.heap.size + 1) (Nat.succ_ne_zero _) (fun i j hi hj q => hE.2.2.2.2.1.2 i j hi hj (Nat.succ.inj q)) (fun i => Nat.succ_ne_zero _)
  unfold PureGoal at hw
  have g0 : G E (p, e, room_1, s, m, #[Value.ref b], below, meth, c, lw_Z below #[Value.ref b] s) 0 0 sh0 (some (s.heap.size + 1)) hp0 0 [some (vr (b + 1)), none, none, none, none, none, none] [] := by
    generalize s.heap.size + 1 = z at hw
    have O := hO sh0
    refine g_new O ci_11 fd_X11 dL_law_0 cl_L_8 ins_X11 ini_X11 ⟨fun _ => rfl, fun _ => rfl, fun _ => rfl⟩ (by decide) (by decide) ?_
    refine g_dup O dL_law_3 rfl ?_
    refine g_callI (As := []) (rest := [vr z]) O rfl dL_law_4 ml_L_15 im_yX11_init ini_X11 co_yX11_init yo_yX11_init (by simp [uS]) rfl rfl (Nat.le_of_ble_eq_true rfl) ⟨by decide, by decide, by decide, by decide⟩ (okX11_init hw) (k_A fun S1 z1 h1 hw => ?_)
    obtain ⟨c1, hw⟩ := hw
    refine g_astore_n O dL_law_7 rfl (Nat.le_of_ble_eq_true rfl) rfl ?_
    refine g_new O ci_12 fd_X12 dL_law_8 cl_L_16 ins_X12 ini_X12 c1 (by decide) (by decide) ?_
    refine g_dup O dL_law_11 rfl ?_
    refine g_callI (As := []) (rest := [vr z1]) O rfl dL_law_12 ml_L_18 im_yX12_init ini_X12 co_yX12_init yo_yX12_init (by simp [uS]) rfl rfl (Nat.le_of_ble_eq_true rfl) ⟨by decide, by decide, by decide, by decide⟩ (okX12_init hw) (k_A fun S2 z2 h2 hw => ?_)
    obtain ⟨c2, n, hw⟩ := hw
    refine g_astore_n O dL_law_15 rfl (Nat.le_of_ble_eq_true rfl) rfl ?_
    refine g_iconst O dL_law_16 rfl ?_
    refine g_newarray (atype := .long) (t := 3) (N := 1) O rfl (fun I J R j q1 q2 q3 => by simp [aval, q1, q2, q3, newarray.typeOf, defaultValue]) (fun U cA q => q) dL_law_17 ac_long (by decide) (by decide) (by decide) c2 (by decide) (by decide) ?_
    refine g_astore_n O dL_law_19 rfl (Nat.le_of_ble_eq_true rfl) rfl ?_
    refine g_iconst O dL_law_20 rfl ?_
    refine g_istore O dL_law_21 rfl (Nat.le_of_ble_eq_true rfl) rfl ?_
    exact g_noZ (okL_law_23 (hO _) hLX n _ _ _ _ hw)
  have hv : ([Value.ref b] : List Value) = [vr (b + 1)].map tv := by
    show [Value.ref b] = [rv (b + 1)]
    rw [rv_pos (Nat.succ_ne_zero b)]
    rfl
  have hls := LR.entry [vr (b + 1)] (nL := 7) (lc := [some (vr (b + 1)), none, none, none, none, none, none]) (Nat.le_of_ble_eq_true rfl) rfl
  rw [← hv] at hls
  rw [lg_entry_eq]
  exact g0 s.heap [] _ ⟨fun a k q h1 _ => absurd h1 (by simp [sh0]), fun a k h1 => by have : (0 : Nat) = 20 + k := h1; omega, fun a h1 => absurd rfl h1⟩ (fun z hz => by cases hz; rfl) va_S.rf hls
