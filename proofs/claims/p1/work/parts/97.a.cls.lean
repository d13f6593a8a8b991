/-! ONE CALL ON A FRESH OBJECT: the class -/
/-- the class fresh at z: its shape -/
def FxS (S : Sh) (z : Nat) : Prop := CS S z ∧ DS S (z + 20) ∧ DS S (z + 461)
/-- the class fresh at z: what it holds -/
def Fx (h : Hp) (z : Nat) : Prop := CR h z ∧ DR h (z + 461) ∧ gR h z 7 = z + 20 ∧ gR h z 8 = z + 461 ∧ ∀ b j, b < z + 902 → gI h b j = if (b = z ∧ (j = 10 ∨ j = 13)) ∨ (b = z + 11 ∧ j = 2) then -1 else 0
/-- all but the class is as it was -/
abbrev Up (z : Nat) : Nat → Prop := fun b => z + 902 ≤ b
theorem upN {z b : Nat} (hb : b < z + 902) : ¬ Up z b := fun q => by
  have : z + 902 ≤ b := q
  omega
theorem pz {P R : Prop} (p : P) : ((0 : Int32) = 0 → P) ∧ (¬ (0 : Int32) = 0 → R) := ⟨fun _ => p, fun n => absurd rfl n⟩
theorem nz {P R : Prop} (p : P) : (¬ (0 : Int32) = 0 → R) ∧ ((0 : Int32) = 0 → P) := ⟨fun n => absurd rfl n, fun _ => p⟩
theorem FxS.k {S : Sh} {z : Nat} (H : FxS S z) : (S z).1 = 12 := by rw [H.1.s0]
theorem FxS.d {S : Sh} {z : Nat} (H : FxS S z) : (S (z + 20)).1 = 4 := by rw [H.2.1.1]
theorem Fx.i {h : Hp} {z : Nat} (F : Fx h z) (b j : Nat) (hb : b < z + 902) (hn : ¬ ((b = z ∧ (j = 10 ∨ j = 13)) ∨ (b = z + 11 ∧ j = 2))) : gI h b j = 0 := by
  rw [F.2.2.2.2 b j hb, if_neg hn]
theorem c_refuse {S : Sh} {h : Hp} {z : Nat} {x : Int32} {Q : Int32 → Hp → Prop} (H : FxS S z) (q : ∀ h', Sm (Up z) h h' → Q (-1) h') : wX11_refuse S h z x Q := by
  unfold wX11_refuse
  exact ⟨H.k, q _ (Sm.rf.pI (upN (by omega)) _ _)⟩
theorem c_answer {S : Sh} {h : Hp} {z : Nat} {x : Int32} {Q : Int32 → Hp → Prop} (H : FxS S z) (q : ∀ h', Sm (Up z) h h' → Q x h') : wX11_answer S h z x Q := by
  unfold wX11_answer
  exact ⟨H.k, q _ (Sm.rf.pI (upN (by omega)) _ _)⟩
theorem c_isM {S : Sh} {h : Hp} {z : Nat} {x : Int32} {Q : Int32 → Hp → Prop} (H : FxS S z) (F : Fx h z) (q : Q 0 h) : wX11_isMachine S h z x Q := by
  unfold wX11_isMachine
  rw [F.2.2.1, F.i (z + 20) 5 (by omega) (by omega)]
  exact ⟨fun _ => q, fun n => ⟨H.k, H.d, fun _ => q, fun m => absurd (Int32.not_lt.mp n) m⟩⟩
theorem c_isS {S : Sh} {h : Hp} {z : Nat} {x y : Int32} {Q : Int32 → Hp → Prop} (H : FxS S z) (F : Fx h z) (q : Q 0 h) : wX11_isState S h z x y Q := by
  unfold wX11_isState
  exact ⟨H.k, c_isM H F (pz q)⟩
theorem c_isE {S : Sh} {h : Hp} {z : Nat} {x y : Int32} {Q : Int32 → Hp → Prop} (H : FxS S z) (F : Fx h z) (q : Q 0 h) : wX11_isEvent S h z x y Q := by
  unfold wX11_isEvent
  exact ⟨H.k, c_isM H F (pz q)⟩
theorem c_isV {S : Sh} {h : Hp} {z : Nat} {x y : Int32} {Q : Int32 → Hp → Prop} (H : FxS S z) (F : Fx h z) (q : Q 0 h) : wX11_isVariable S h z x y Q := by
  unfold wX11_isVariable
  exact ⟨H.k, c_isM H F (pz q)⟩
theorem c_isD {S : Sh} {h : Hp} {z : Nat} {x y d : Int32} {Q : Int32 → Hp → Prop} (H : FxS S z) (F : Fx h z) (q : Q 0 h) : wX11_isDuty S h z x y d Q := by
  unfold wX11_isDuty
  exact ⟨fun _ => ⟨H.k, c_isM H F ⟨by decide, q⟩⟩, fun _ => ⟨fun _ => ⟨fun _ => q, fun _ => ⟨fun _ => q, fun _ => ⟨H.k, c_isE H F (pz q)⟩⟩⟩, fun _ => ⟨H.k, c_isM H F ⟨by decide, q⟩⟩⟩⟩
section
variable {S : Sh} {h : Hp} {z : Nat} {x1 x2 x3 x4 : Int32} {Q : Int32 → Hp → Prop}
theorem c_machine (H : FxS S z) (F : Fx h z) (q : ∀ h', Sm (Up z) h h' → Q (-1) h') : wX11_machine S h z x1 x2 Q := by
  unfold wX11_machine
  exact ⟨H.k, c_isM H F (pz (c_refuse H q))⟩
theorem c_variable (H : FxS S z) (F : Fx h z) (q : ∀ h', Sm (Up z) h h' → Q (-1) h') : wX11_variable S h z x1 x2 x3 Q := by
  unfold wX11_variable
  exact ⟨H.k, c_isV H F (pz (c_refuse H q))⟩
theorem c_event (H : FxS S z) (F : Fx h z) (q : ∀ h', Sm (Up z) h h' → Q (-1) h') : wX11_event S h z x1 x2 x3 Q := by
  unfold wX11_event
  exact ⟨H.k, c_isE H F (pz (c_refuse H q))⟩
theorem c_value (H : FxS S z) (F : Fx h z) (q : ∀ h', Sm (Up z) h h' → Q (-1) h') : wX11_value S h z x1 x2 x3 Q := by
  unfold wX11_value
  exact ⟨H.k, c_isS H F (pz (c_refuse H q))⟩
theorem c_sound (H : FxS S z) (F : Fx h z) (q : ∀ h', Sm (Up z) h h' → Q (-1) h') : wX11_sound S h z x1 x2 Q := by
  unfold wX11_sound
  exact ⟨H.k, c_isS H F (nz (c_refuse H q))⟩
theorem c_glued (H : FxS S z) (F : Fx h z) (q : ∀ h', Sm (Up z) h h' → Q (-1) h') : wX11_glued S h z x1 x2 x3 Q := by
  unfold wX11_glued
  exact ⟨fun _ => ⟨H.k, c_refuse H q⟩, fun _ => ⟨H.k, c_isS H F (pz (c_refuse H q))⟩⟩
theorem c_beneath (H : FxS S z) (F : Fx h z) (q : ∀ h', Sm (Up z) h h' → Q (-1) h') : wX11_beneath S h z x1 x2 x3 Q := by
  unfold wX11_beneath
  exact ⟨fun _ => ⟨H.k, c_refuse H q⟩, fun _ => ⟨H.k, c_isS H F (pz (c_refuse H q))⟩⟩
theorem c_can (H : FxS S z) (F : Fx h z) (q : ∀ h', Sm (Up z) h h' → Q (-1) h') : wX11_can S h z x1 x2 x3 x4 Q := by
  unfold wX11_can
  exact ⟨H.k, c_isE H F (pz (c_refuse H q))⟩
theorem c_gives (H : FxS S z) (F : Fx h z) (q : ∀ h', Sm (Up z) h h' → Q (-1) h') : wX11_gives S h z x1 x2 x3 x4 Q := by
  unfold wX11_gives
  exact ⟨H.k, c_isE H F (pz (c_refuse H q))⟩
theorem c_variant (H : FxS S z) (F : Fx h z) (q : ∀ h', Sm (Up z) h h' → Q 0 h') : wX11_variant S h z x1 x2 Q := by
  unfold wX11_variant
  exact ⟨H.k, c_isS H F (nz (c_refuse H q))⟩
theorem c_duty (H : FxS S z) (F : Fx h z) (q : ∀ h', Sm (Up z) h h' → Q (-1) h') : wX11_duty S h z x1 x2 x3 Q := by
  unfold wX11_duty
  exact ⟨H.k, c_isD H F (nz (c_refuse H q))⟩
theorem c_cases (H : FxS S z) (F : Fx h z) (q : ∀ h', Sm (Up z) h h' → Q (-1) h') : wX11_cases S h z x1 x2 x3 Q := by
  unfold wX11_cases
  exact ⟨fun _ => ⟨H.k, c_refuse H q⟩, fun _ => ⟨H.k, c_isD H F (nz (c_refuse H q))⟩⟩
theorem c_open (H : FxS S z) (F : Fx h z) (q : ∀ h', Sm (Up z) h h' → Q (-1) h') : wX11_open S h z x1 Q := by
  unfold wX11_open
  exact ⟨H.k, c_isM H F (nz (c_refuse H q))⟩
theorem c_run (H : FxS S z) (F : Fx h z) (q : ∀ h', Sm (Up z) h h' → Q (-1) h') : wX11_run S h z x1 Q := by
  unfold wX11_run
  exact ⟨H.k, c_isM H F (nz (c_refuse H q))⟩
theorem c_reach (H : FxS S z) (F : Fx h z) (q : ∀ h', Sm (Up z) h h' → Q (-1) h') : wX11_reach S h z x1 Q := by
  unfold wX11_reach
  exact ⟨H.k, c_isM H F (nz (c_refuse H q))⟩
theorem c_steps (H : FxS S z) (F : Fx h z) (q : ∀ h', Sm (Up z) h h' → Q (-1) h') : wX11_steps S h z x1 x2 Q := by
  unfold wX11_steps
  exact ⟨H.k, c_isS H F (nz (c_refuse H q))⟩
theorem c_stuck (H : FxS S z) (F : Fx h z) (q : ∀ h', Sm (Up z) h h' → Q (-1) h') : wX11_stuck S h z x1 Q := by
  unfold wX11_stuck
  exact ⟨H.k, c_isM H F (nz (c_refuse H q))⟩
theorem c_unsound (H : FxS S z) (F : Fx h z) (q : ∀ h', Sm (Up z) h h' → Q (-1) h') : wX11_unsound S h z x1 Q := by
  unfold wX11_unsound
  exact ⟨H.k, c_isM H F (nz (c_refuse H q))⟩
theorem c_aside (H : FxS S z) (F : Fx h z) (q : ∀ h', Sm (Up z) h h' → Q (-1) h') : wX11_aside S h z x1 x2 x3 Q := by
  unfold wX11_aside
  exact ⟨H.k, c_isE H F (nz (c_refuse H q))⟩
theorem wk11 (H : FxS S z) (F : Fx h z) : (S (gR h z 3)).1 = 11 := by rw [F.1.walk, H.1.s11]
theorem c_step (H : FxS S z) (F : Fx h z) (q : ∀ h', Sm (Up z) h h' → Q (-1) h') : wX11_step S h z x1 x2 Q := by
  unfold wX11_step
  exact ⟨H.k, wk11 H F, c_isE H F (nz (c_refuse H q))⟩
theorem c_now (H : FxS S z) (F : Fx h z) (q : ∀ h', Sm (Up z) h h' → Q (-1) h') : wX11_now S h z x1 Q := by
  unfold wX11_now
  exact ⟨H.k, wk11 H F, c_isM H F (pz (c_refuse H q))⟩
theorem c_beside (H : FxS S z) (F : Fx h z) (q : ∀ h', Sm (Up z) h h' → Q (-1) h') : wX11_beside S h z x1 Q := by
  unfold wX11_beside
  exact ⟨H.k, wk11 H F, c_isM H F (pz (c_refuse H q))⟩
theorem c_draws (H : FxS S z) (F : Fx h z) (q : ∀ h', Sm (Up z) h h' → Q (-1) h') : wX11_draws S h z x1 x2 Q := by
  unfold wX11_draws
  exact ⟨H.k, wk11 H F, c_isM H F (nz (c_refuse H q))⟩
theorem c_write {K : Nat → Nat} (H : FxS S z) (F : Fx h z) (q : ∀ h', Sm (Up z) h h' → Q (-1) h') : wX11_write S K h z Q := by
  unfold wX11_write
  refine ⟨H.k, ?_, c_isS H F (nz (c_refuse H q))⟩
  rw [F.1.shownCase]
  exact inA_of (i := 1) H.1.s19 (by decide) (by decide)
theorem c_fault (H : FxS S z) (F : Fx h z) (q : ∀ h', Sm (Up z) h h' → Q 0 h') : wX11_fault S h z Q := by
  unfold wX11_fault
  rw [F.i z 12 (by omega) (by omega)]
  exact ⟨H.k, q h Sm.rf⟩
theorem c_size (H : FxS S z) (F : Fx h z) (q : ∀ h', Sm (Up z) h h' → Q 0 h') : wX11_size S h z Q := by
  unfold wX11_size
  rw [F.i z 9 (by omega) (by omega)]
  exact ⟨H.k, q h Sm.rf⟩
theorem c_trouble (H : FxS S z) (F : Fx h z) (q : ∀ h', Sm (Up z) h h' → Q 0 h') : wX11_trouble S h z Q := by
  unfold wX11_trouble
  rw [F.i z 11 (by omega) (by omega)]
  exact ⟨H.k, q h Sm.rf⟩
theorem c_where (H : FxS S z) (F : Fx h z) (q : ∀ h', Sm (Up z) h h' → Q (-1) h') : wX11_where S h z Q := by
  unfold wX11_where
  rw [F.i z 11 (by omega) (by omega)]
  exact ⟨H.k, fun _ => q h Sm.rf, fun e => absurd e (by decide)⟩
theorem c_letter {Tq : Hp → Prop} (H : FxS S z) (F : Fx h z) (q : ∀ h', Sm (Up z) h h' → Tq h') : wX11_letter S Tq h z x1 x2 x3 Q := by
  unfold wX11_letter
  exact ⟨H.k, c_isM H F (pz (q h Sm.rf))⟩
/-- what shown answers where nothing is shown -/
def shA (x : Int32) : Int32 := if x < 0 then -1 else if x < 3 then -2 else -1
theorem c_shown (H : FxS S z) (F : Fx h z) (q : ∀ h', Sm (Up z) h h' → Q (shA x1) h') : wX11_shown S h z x1 Q := by
  unfold wX11_shown
  rw [F.1.shownCase, H.1.s19, F.2.2.2.2 z 10 (by omega), if_pos (Or.inl ⟨rfl, Or.inl rfl⟩)]
  refine ⟨fun c => ⟨H.k, c_refuse H fun h' s => ?_⟩, fun c => ⟨H.k, rfl, fun d => ⟨fun n => absurd rfl n, fun _ => c_answer H fun h' s => ?_⟩, fun d => c_refuse H fun h' s => ?_⟩⟩
  · have := q h' s
    rw [shA, if_pos c] at this
    exact this
  · have := q h' s
    rw [shA, if_neg c, if_pos (show x1 < 3 from d)] at this
    exact this
  · have := q h' s
    rw [shA, if_neg c, if_neg (show ¬ x1 < 3 from d)] at this
    exact this
/-- what octet answers where nothing is written -/
def ocA (x : Int32) : Int32 := if 0 ≤ x then -2 else -1
theorem c_octet (H : FxS S z) (F : Fx h z) (q : ∀ h', Sm (Up z) h h' → Q (ocA x1) h') : wX11_octet S h z x1 Q := by
  unfold wX11_octet
  rw [F.1.scroll, H.1.s17, F.i (z + 17) 1 (by omega) (by omega)]
  refine ⟨fun c => ⟨H.k, rfl, fun d => c_answer H fun h' s => ?_, fun d => absurd c d⟩, fun c => ⟨H.k, c_refuse H fun h' s => ?_⟩⟩
  · have := q h' s
    rw [ocA, if_pos c] at this
    exact this
  · have := q h' s
    rw [ocA, if_neg c] at this
    exact this
end
