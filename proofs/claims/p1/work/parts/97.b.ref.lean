/-! ONE CALL ON A FRESH OBJECT: the reference -/
/-- the reference fresh at r -/
def Fq (h : Hp) (r : Nat) : Prop := RR h r ∧ ∀ j, gI h r j = if j = 2 ∨ j = 56 then -1 else 0
theorem Fq.of {h h' : Hp} {z r : Nat} (F : Fq h r) (s : Sm (Up z) h h') (hr : z + 902 ≤ r) : Fq h' r := ⟨F.1.of fun k => s.R hr k, fun j => by rw [s.I hr j]; exact F.2 j⟩
theorem Fq.p0 {h : Hp} {r : Nat} (F : Fq h r) : Fq (pI h r 0 0) r := ⟨F.1.of fun k => rfl, fun j => by
  rw [gI_pI]
  by_cases e : j = 0
  · subst e; simp
  · rw [if_neg (fun q => e q.2)]; exact F.2 j⟩
theorem Fq.i {h : Hp} {r : Nat} (F : Fq h r) (j : Nat) (hj : ¬ (j = 2 ∨ j = 56)) : gI h r j = 0 := by rw [F.2 j, if_neg hj]
theorem Fq.run {h : Hp} {r : Nat} (F : Fq h r) : gI h r 56 = -1 := by rw [F.2, if_pos (Or.inr rfl)]
section
variable {S : Sh} {h : Hp} {r : Nat} {x1 x2 x3 x4 x5 : Int32} {Q : Int32 → Hp → Prop}
theorem r_refused (H : RS S r) (q : ∀ h', Q (-1) h') : wX12_refused S h r x1 Q := by
  unfold wX12_refused
  exact ⟨H.1, fun h2 _ => q _⟩
theorem r_good (H : RS S r) (q : ∀ h', Q x1 h') : wX12_good S h r x1 Q := by
  unfold wX12_good
  exact ⟨H.1, fun h2 _ => q _⟩
theorem r_isM (H : RS S r) (F : Fq h r) (q : Q 0 h) : wX12_isMachine S h r x1 Q := by
  unfold wX12_isMachine wX12_in
  rw [F.i 37 (by decide)]
  exact ⟨H.1, fun _ => ⟨by decide, q⟩, fun n => ⟨fun _ => ⟨by decide, q⟩, fun m => absurd (Int32.lt_of_lt_of_le (by decide) (Int32.not_lt.mp n)) m⟩⟩
theorem r_isS (H : RS S r) (F : Fq h r) (q : Q 0 h) : wX12_isState S h r x1 x2 Q := by
  unfold wX12_isState
  exact ⟨H.1, r_isM H F (pz q)⟩
theorem r_isE (H : RS S r) (F : Fq h r) (q : Q 0 h) : wX12_isEvent S h r x1 x2 Q := by
  unfold wX12_isEvent
  exact ⟨H.1, r_isM H F (pz q)⟩
theorem r_isV (H : RS S r) (F : Fq h r) (q : Q 0 h) : wX12_isVar S h r x1 x2 Q := by
  unfold wX12_isVar
  exact ⟨H.1, r_isM H F (pz q)⟩
theorem r_machine (H : RS S r) (F : Fq h r) (q : ∀ h', Q (-1) h') : wX12_machine S h r x1 x2 Q := by
  unfold wX12_machine
  exact ⟨H.1, r_isM H F.p0 (nz (r_refused H q))⟩
theorem r_variable (H : RS S r) (F : Fq h r) (q : ∀ h', Q (-1) h') : wX12_variable S h r x1 x2 x3 Q := by
  unfold wX12_variable
  exact ⟨H.1, r_isV H F.p0 (nz (r_refused H q))⟩
theorem r_event (H : RS S r) (F : Fq h r) (q : ∀ h', Q (-1) h') : wX12_event S h r x1 x2 x3 Q := by
  unfold wX12_event
  exact ⟨H.1, r_isE H F.p0 (nz (r_refused H q))⟩
theorem r_value (H : RS S r) (F : Fq h r) (q : ∀ h', Q (-1) h') : wX12_value S h r x1 x2 x3 Q := by
  unfold wX12_value
  exact ⟨H.1, r_isS H F.p0 (pz (r_refused H q))⟩
theorem r_sound (H : RS S r) (F : Fq h r) (q : ∀ h', Q (-1) h') : wX12_sound S h r x1 x2 Q := by
  unfold wX12_sound
  exact ⟨H.1, r_isS H F.p0 (pz (r_refused H q))⟩
theorem r_glued (H : RS S r) (F : Fq h r) (q : ∀ h', Q (-1) h') : wX12_glued S h r x1 x2 x3 Q := by
  unfold wX12_glued
  exact ⟨H.1, r_isS H F.p0 (pz (r_refused H q))⟩
theorem r_beneath (H : RS S r) (F : Fq h r) (q : ∀ h', Q (-1) h') : wX12_beneath S h r x1 x2 x3 Q := by
  unfold wX12_beneath
  exact ⟨H.1, r_isS H F.p0 (pz (r_refused H q))⟩
theorem r_can (H : RS S r) (F : Fq h r) (q : ∀ h', Q (-1) h') : wX12_can S h r x1 x2 x3 x4 Q := by
  unfold wX12_can
  exact ⟨H.1, r_isE H F.p0 (pz (r_refused H q))⟩
theorem r_gives (H : RS S r) (F : Fq h r) (q : ∀ h', Q (-1) h') : wX12_gives S h r x1 x2 x3 x4 Q := by
  unfold wX12_gives
  exact ⟨H.1, r_isE H F.p0 (pz (r_refused H q))⟩
theorem r_variant (H : RS S r) (F : Fq h r) (q : ∀ h', Q 0 h') : wX12_variant S h r x1 x2 Q := by
  unfold wX12_variant wX12_variant_j33
  exact ⟨H.1, r_isS H F.p0 (nz ⟨fun _ => ⟨H.1, r_refused H q⟩, fun e => absurd e (by decide)⟩)⟩
theorem r_duty (H : RS S r) (F : Fq h r) (q : ∀ h', Q (-1) h') : wX12_duty S h r x1 x2 x3 Q := by
  unfold wX12_duty
  exact ⟨H.1, r_isM H F.p0 (pz (r_refused H q))⟩
theorem r_cases (H : RS S r) (F : Fq h r) (q : ∀ h', Q (-1) h') : wX12_cases S h r x1 x2 x3 Q := by
  unfold wX12_cases
  exact ⟨H.1, r_isE H F.p0 (pz (r_refused H q))⟩
theorem r_open (H : RS S r) (F : Fq h r) (q : ∀ h', Q (-1) h') : wX12_open S h r x1 Q := by
  unfold wX12_open
  exact ⟨H.1, r_isM H F.p0 (nz (r_refused H q))⟩
theorem r_run (H : RS S r) (F : Fq h r) (q : ∀ h', Q (-1) h') : wX12_run S h r x1 Q := by
  unfold wX12_run
  exact ⟨H.1, r_isM H F.p0 (nz (r_refused H q))⟩
theorem r_reach (H : RS S r) (F : Fq h r) (q : ∀ h', Q (-1) h') : wX12_reach S h r x1 Q := by
  unfold wX12_reach
  exact ⟨H.1, r_isM H F.p0 (nz (r_refused H q))⟩
theorem r_steps (H : RS S r) (F : Fq h r) (q : ∀ h', Q (-1) h') : wX12_steps S h r x1 x2 Q := by
  unfold wX12_steps
  exact ⟨H.1, r_isS H F.p0 (nz (r_refused H q))⟩
theorem r_stuck (H : RS S r) (F : Fq h r) (q : ∀ h', Q (-1) h') : wX12_stuck S h r x1 Q := by
  unfold wX12_stuck
  exact ⟨H.1, r_isM H F.p0 (nz (r_refused H q))⟩
theorem r_unsound (H : RS S r) (F : Fq h r) (q : ∀ h', Q (-1) h') : wX12_unsound S h r x1 Q := by
  unfold wX12_unsound
  exact ⟨H.1, r_isM H F.p0 (nz (r_refused H q))⟩
theorem r_aside (H : RS S r) (F : Fq h r) (q : ∀ h', Q (-1) h') : wX12_aside S h r x1 x2 x3 Q := by
  unfold wX12_aside
  exact ⟨H.1, r_isE H F.p0 (nz (r_refused H q))⟩
theorem r_step (H : RS S r) (F : Fq h r) (q : ∀ h', Q (-1) h') : wX12_step S h r x1 x2 Q := by
  unfold wX12_step
  refine ⟨H.1, fun h2 e => ?_⟩
  subst e
  exact ⟨fun _ => r_refused H q, fun n => absurd F.p0.run n⟩
theorem r_now (H : RS S r) (F : Fq h r) (q : ∀ h', Q (-1) h') : wX12_now S h r x1 Q := by
  unfold wX12_now
  refine ⟨H.1, fun h2 e => ?_⟩
  subst e
  exact ⟨fun n => absurd F.p0.run n, fun _ => r_refused H q⟩
theorem r_beside (H : RS S r) (F : Fq h r) (q : ∀ h', Q (-1) h') : wX12_beside S h r x1 Q := by
  unfold wX12_beside
  refine ⟨H.1, fun h2 e => ?_⟩
  subst e
  exact ⟨fun _ => r_refused H q, fun n => absurd F.p0.run n⟩
theorem r_draws (H : RS S r) (F : Fq h r) (q : ∀ h', Q (-1) h') : wX12_draws S h r x1 x2 Q := by
  unfold wX12_draws
  refine ⟨H.1, fun h2 e => ?_⟩
  subst e
  exact ⟨fun n => absurd F.p0.run n, fun _ => r_refused H q⟩
theorem r_write (H : RS S r) (F : Fq h r) (q : ∀ h', Q (-1) h') : wX12_write S h r Q := by
  unfold wX12_write
  refine ⟨H.1, fun h2 e => ?_⟩
  subst e
  exact ⟨fun n => absurd (F.p0.i 53 (by decide)) n, fun _ => r_refused H q⟩
theorem r_fault (H : RS S r) (F : Fq h r) (q : ∀ h', Q 0 h') : wX12_fault S h r Q := by
  unfold wX12_fault
  refine ⟨H.1, fun h2 e => ?_⟩
  subst e
  rw [F.p0.i 7 (by decide)]
  exact q _
theorem r_size (H : RS S r) (F : Fq h r) (q : ∀ h', Q 0 h') : wX12_size S h r Q := by
  unfold wX12_size
  refine ⟨H.1, fun h2 e => ?_⟩
  subst e
  rw [F.p0.i 4 (by decide)]
  exact q _
theorem r_trouble (H : RS S r) (F : Fq h r) (q : ∀ h', Q 0 h') : wX12_trouble S h r Q := by
  unfold wX12_trouble
  refine ⟨H.1, fun h2 e => ?_⟩
  subst e
  rw [F.p0.i 1 (by decide)]
  exact q _
theorem r_where (H : RS S r) (F : Fq h r) (q : ∀ h', Q (-1) h') : wX12_where S h r Q := by
  unfold wX12_where
  refine ⟨H.1, fun h2 e => ?_⟩
  subst e
  rw [F.p0.2 2, if_pos (Or.inl rfl)]
  exact q _
theorem r_shown (H : RS S r) (F : Fq h r) (q : ∀ h', Q (shA x1) h') : wX12_shown S h r x1 Q := by
  unfold wX12_shown wX12_in
  have e53 := F.p0.i 53 (by decide)
  refine ⟨H.1, fun c => nz (r_refused H fun h' => ?_), fun c => ⟨fun d => nz (r_refused H fun h' => ?_), fun d => ⟨fun _ => ⟨fun n => absurd e53 n, fun _ => r_good H fun h' => ?_⟩, fun e => absurd e (by decide)⟩⟩⟩
  · have := q h'
    rw [shA, if_pos c] at this
    exact this
  · have := q h'
    rw [shA, if_neg c, if_neg (fun d3 => absurd (Int32.lt_iff_toInt_lt.mp d) (by have := Int32.lt_iff_toInt_lt.mp d3; have e2 : (2 : Int32).toInt = 2 := rfl; have e3 : (3 : Int32).toInt = 3 := rfl; omega))] at this
    exact this
  · have := q h'
    rw [shA, if_neg c, if_pos (by have := Int32.le_iff_toInt_le.mp (Int32.not_lt.mp d); rw [Int32.lt_iff_toInt_lt]; have e2 : (2 : Int32).toInt = 2 := rfl; have e3 : (3 : Int32).toInt = 3 := rfl; omega)] at this
    exact this
theorem r_octet (H : RS S r) (F : Fq h r) (q : ∀ h', Q (ocA x1) h') : wX12_octet S h r x1 Q := by
  unfold wX12_octet
  refine ⟨H.1, fun h2 e => ?_⟩
  subst e
  rw [F.p0.i 55 (by decide)]
  refine ⟨fun c => ⟨fun _ => r_good H fun h' => ?_, fun d => absurd c d⟩, fun c => r_refused H fun h' => ?_⟩
  · have := q h'
    rw [ocA, if_pos c] at this
    exact this
  · have := q h'
    rw [ocA, if_neg c] at this
    exact this
theorem r_letter (H : RS S r) (F : Fq h r) (q : ∀ h', gI h' r 0 = 1 → Q 0 h') : wX12_letter S h r x1 x2 x3 Q := by
  have J : ∀ h' : Hp, wX12_letter_j61 S h' r (-1) Q := fun h' => by
    unfold wX12_letter_j61 wX12_letter_j72
    refine ⟨fun n => absurd rfl n, fun _ => ⟨H.1, fun n => absurd rfl n, fun _ => q _ ?_⟩⟩
    rw [gI_pI, if_pos ⟨rfl, rfl⟩]
  unfold wX12_letter wX12_letter_j36
  refine ⟨H.1, fun h2 e => ?_⟩
  subst e
  exact ⟨fun _ => ⟨H.1, r_isV H F.p0 (pz (J _))⟩, fun _ => r_isM H F.p0 (pz ⟨H.1, r_isV H F.p0 (pz (J _))⟩)⟩
end
