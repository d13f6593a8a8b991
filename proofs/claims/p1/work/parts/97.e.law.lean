/-! ONE CALL ON A FRESH OBJECT: the law -/
theorem RS.of {S S1 : Sh} {r : Nat} (H : RS S r) (e : ∀ q, r ≤ q → q < r + 35 → S1 q = S q) : RS S1 r := by
  unfold RS at H ⊢
  have e0 : S1 r = S r := e r (by omega) (by omega)
  have ei : ∀ i, i < 35 → S1 (r + i) = S (r + i) := fun i hi => e _ (by omega) (by omega)
  rw [e0, ei 1 (by decide), ei 2 (by decide), ei 3 (by decide), ei 4 (by decide), ei 5 (by decide), ei 6 (by decide), ei 7 (by decide), ei 8 (by decide), ei 9 (by decide), ei 10 (by decide), ei 11 (by decide), ei 12 (by decide), ei 13 (by decide), ei 14 (by decide), ei 15 (by decide), ei 16 (by decide), ei 17 (by decide), ei 18 (by decide), ei 19 (by decide), ei 20 (by decide), ei 21 (by decide), ei 22 (by decide), ei 23 (by decide), ei 24 (by decide), ei 25 (by decide), ei 26 (by decide), ei 27 (by decide), ei 28 (by decide), ei 29 (by decide), ei 30 (by decide), ei 31 (by decide), ei 32 (by decide), ei 33 (by decide), ei 34 (by decide)]
  exact H
theorem CS.of {S S1 : Sh} {z : Nat} (H : CS S z) (e : ∀ q, z ≤ q → q < z + 20 → S1 q = S q) : CS S1 z := by
  unfold CS at H ⊢
  have e0 : S1 z = S z := e z (by omega) (by omega)
  have ei : ∀ i, i < 20 → S1 (z + i) = S (z + i) := fun i hi => e _ (by omega) (by omega)
  rw [e0, ei 1 (by decide), ei 2 (by decide), ei 3 (by decide), ei 4 (by decide), ei 5 (by decide), ei 6 (by decide), ei 7 (by decide), ei 8 (by decide), ei 9 (by decide), ei 10 (by decide), ei 11 (by decide), ei 12 (by decide), ei 13 (by decide), ei 14 (by decide), ei 15 (by decide), ei 16 (by decide), ei 17 (by decide), ei 18 (by decide), ei 19 (by decide)]
  exact H
theorem CR.of {h h1 : Hp} {z : Nat} (H : CR h z) (e : ∀ q, z ≤ q → q < z + 20 → ∀ j, gR h1 q j = gR h q j) : CR h1 z := by
  unfold CR at H ⊢
  have e0 : ∀ j, gR h1 z j = gR h z j := e z (by omega) (by omega)
  have ei : ∀ i j, i < 20 → gR h1 (z + i) j = gR h (z + i) j := fun i j hi => e _ (by omega) (by omega) j
  rw [e0 0, e0 1, e0 2, e0 3, e0 4, e0 5, e0 6, ei 2 0 (by decide), ei 2 1 (by decide), ei 3 0 (by decide), ei 3 1 (by decide), ei 3 2 (by decide), ei 3 3 (by decide), ei 9 0 (by decide), ei 11 0 (by decide), ei 11 1 (by decide), ei 14 0 (by decide), ei 14 1 (by decide), ei 17 0 (by decide)]
  exact H
theorem vv0 : vp_in 0 6 := by unfold vp_in; decide
theorem vv1 : vp_in (0 + (1 : Int32)) 6 := by unfold vp_in; decide
theorem vv2 : vp_in (0 + (2 : Int32)) 6 := by unfold vp_in; decide
theorem vv3 : vp_in (0 + (3 : Int32)) 6 := by unfold vp_in; decide
theorem vv4 : vp_in (0 + (4 : Int32)) 6 := by unfold vp_in; decide
theorem vv5 : vp_in (0 + (5 : Int32)) 6 := by unfold vp_in; decide
abbrev Qw : Int32 → Hp → Prop := fun t _ => t = 1
section
variable {S : Sh} {K : Nat → Nat} {xs : Nat → Int32} {z r w : Nat}
/-- the law's end, behind one call -/
theorem law_end {nc ns : Nat} {h : Hp} (c1 : nc ≤ 600002) (c2 : ns ≤ 7302232) : wL_law_23 S K xs 6 z r w Qw 1 nc ns h (0 + 6) := by
  show wL_law_23b S K xs 6 z r w Qw (wL_law_23 S K xs 6 z r w Qw 0) nc ns h (0 + 6)
  generalize wL_law_23 S K xs 6 z r w Qw 0 = B
  unfold wL_law_23b
  exact ⟨fun _ => ⟨c1, c2, rfl⟩, fun c => absurd (by decide) c⟩
theorem law_aside {h : Hp} {B : Nat → Nat → Hp → Int32 → Prop} (H : FxS S z) (F : Fx h z) (Rs : RS S r) (Fr : Fq h r) (hr : z + 902 ≤ r) (E : ∀ h', B 938 62505 h' (0 + 6)) (s1 s2 s3 : Int32) : wL_law_j1264 S K xs 6 B 938 62505 h z r w 0 z s1 s2 s3 Qw := by
  unfold wL_law_j1264
  refine ⟨Nat.le_of_ble_eq_true rfl, Nat.le_of_ble_eq_true rfl, H.k, c_aside H F fun h' s => ⟨vv1, vv2, vv3, fun _ => ?_, fun _ => ?_⟩⟩
  all_goals
    unfold wL_law_j1294
    exact ⟨Nat.le_of_ble_eq_true rfl, Nat.le_of_ble_eq_true rfl, Rs.1, r_aside Rs (Fr.of s hr) fun h'' => ⟨fun _ => E h'', fun n => absurd rfl n⟩⟩
theorem law_letter {h : Hp} (H : FxS S z) (F : Fx h z) (Rs : RS S r) (Fr : Fq h r) (hr : z + 902 ≤ r) (hw : S w = (23, 1)) (x1 x2 x3 : Int32) {P : Int32 → Hp → Prop} (q : ∀ h', Fq h' r → P 1 h') : wL_letter S h z x1 x2 x3 w P := by
  unfold wL_letter
  exact ⟨inA_of (i := 0) hw (by decide) (by decide), H.k, c_letter H F fun h' s => q h' (Fr.of s hr)⟩
theorem law_thrown {h : Hp} (Rs : RS S r) (e : gI h r 0 = 1) {P : Int32 → Hp → Prop} (q : P 1 h) : wX12_thrown S h r P := by
  unfold wX12_thrown
  rw [e]
  exact ⟨Rs.1, q⟩
theorem law_one {h : Hp} {B : Nat → Nat → Hp → Int32 → Prop} (H : FxS S z) (F : Fx h z) (Rs : RS S r) (Fr : Fq h r) (hr : z + 902 ≤ r) (hw : S w = (23, 1)) (E : ∀ h', B 938 62505 h' (0 + 6)) (E1 : ∀ h', B (938 + 1) (62505 + 6) h' (0 + 6)) : wL_law_23b S K xs 6 z r w Qw B 938 62505 h 0 := by
  have c1 : 938 ≤ 600002 := Nat.le_of_ble_eq_true rfl
  have c2 : 62505 ≤ 7302232 := Nat.le_of_ble_eq_true rfl
  have c3 : 938 + 1 ≤ 600002 := Nat.le_of_ble_eq_true rfl
  have c4 : 62505 + 6 ≤ 7302232 := Nat.le_of_ble_eq_true rfl
  unfold wL_law_23b
  refine ⟨fun _ => ⟨c1, c2, rfl⟩, fun _ => ⟨vv0, ?_⟩⟩
  refine ⟨fun _ => ⟨vv1, vv2, vv3, vv4, vv5, c1, c2, H.k, c_feed H F fun h1 s1 => ⟨Rs.1, r_feed Rs (Fr.of s1 hr) fun h2 => ⟨fun _ => E h2, fun n => absurd rfl n⟩⟩⟩, fun _ => ?_⟩
  refine ⟨fun _ => ⟨vv1, c1, c2, H.k, c_machines H F fun h1 s1 => ⟨Rs.1, r_machines Rs (Fr.of s1 hr) fun h2 => ⟨fun _ => E h2, fun n => absurd rfl n⟩⟩⟩, fun _ => ?_⟩
  refine ⟨fun _ => ⟨c1, c2, H.k, c_fault H F fun h1 s1 => ⟨Rs.1, r_fault Rs (Fr.of s1 hr) fun h2 => ⟨fun _ => E h2, fun n => absurd rfl n⟩⟩⟩, fun _ => ?_⟩
  refine ⟨fun _ => ⟨c1, c2, H.k, c_where H F fun h1 s1 => ⟨Rs.1, r_where Rs (Fr.of s1 hr) fun h2 => ⟨fun _ => E h2, fun n => absurd rfl n⟩⟩⟩, fun _ => ?_⟩
  refine ⟨fun _ => ⟨vv1, vv2, c1, c2, H.k, c_machine H F fun h1 s1 => ⟨Rs.1, r_machine Rs (Fr.of s1 hr) fun h2 => ⟨fun _ => E h2, fun n => absurd rfl n⟩⟩⟩, fun _ => ?_⟩
  refine ⟨fun _ => ⟨vv1, vv2, vv3, c1, c2, H.k, c_variable H F fun h1 s1 => ⟨Rs.1, r_variable Rs (Fr.of s1 hr) fun h2 => ⟨fun _ => E h2, fun n => absurd rfl n⟩⟩⟩, fun _ => ?_⟩
  refine ⟨fun _ => ⟨vv1, vv2, vv3, c1, c2, H.k, c_event H F fun h1 s1 => ⟨Rs.1, r_event Rs (Fr.of s1 hr) fun h2 => ⟨fun _ => E h2, fun n => absurd rfl n⟩⟩⟩, fun _ => ?_⟩
  refine ⟨fun _ => ⟨vv1, vv2, vv3, c1, c2, H.k, c_value H F fun h1 s1 => ⟨Rs.1, r_value Rs (Fr.of s1 hr) fun h2 => ⟨fun _ => E h2, fun n => absurd rfl n⟩⟩⟩, fun _ => ?_⟩
  refine ⟨fun _ => ⟨vv1, vv2, c1, c2, H.k, c_sound H F fun h1 s1 => ⟨Rs.1, r_sound Rs (Fr.of s1 hr) fun h2 => ⟨fun _ => E h2, fun n => absurd rfl n⟩⟩⟩, fun _ => ?_⟩
  refine ⟨fun _ => ⟨vv1, vv2, vv3, c1, c2, H.k, c_glued H F fun h1 s1 => ⟨Rs.1, r_glued Rs (Fr.of s1 hr) fun h2 => ⟨fun _ => E h2, fun n => absurd rfl n⟩⟩⟩, fun _ => ?_⟩
  refine ⟨fun _ => ⟨vv1, vv2, vv3, c1, c2, H.k, c_beneath H F fun h1 s1 => ⟨Rs.1, r_beneath Rs (Fr.of s1 hr) fun h2 => ⟨fun _ => E h2, fun n => absurd rfl n⟩⟩⟩, fun _ => ?_⟩
  refine ⟨fun _ => ⟨vv1, vv2, vv3, vv4, c1, c2, H.k, c_can H F fun h1 s1 => ⟨Rs.1, r_can Rs (Fr.of s1 hr) fun h2 => ⟨fun _ => E h2, fun n => absurd rfl n⟩⟩⟩, fun _ => ?_⟩
  refine ⟨fun _ => ⟨vv1, vv2, vv3, vv4, c1, c2, H.k, c_gives H F fun h1 s1 => ⟨Rs.1, r_gives Rs (Fr.of s1 hr) fun h2 => ⟨fun _ => E h2, fun n => absurd rfl n⟩⟩⟩, fun _ => ?_⟩
  refine ⟨fun _ => ⟨vv1, vv2, c1, c2, H.k, c_variant H F fun h1 s1 => ⟨Rs.1, r_variant Rs (Fr.of s1 hr) fun h2 => ⟨fun _ => E h2, fun n => absurd rfl n⟩⟩⟩, fun _ => ?_⟩
  refine ⟨fun _ => ⟨vv1, vv2, vv3, c1, c2, H.k, c_duty H F fun h1 s1 => ⟨Rs.1, r_duty Rs (Fr.of s1 hr) fun h2 => ⟨fun _ => E h2, fun n => absurd rfl n⟩⟩⟩, fun _ => ?_⟩
  refine ⟨fun _ => ⟨vv1, c1, c2, H.k, c_shown H F fun h1 s1 => ⟨Rs.1, r_shown Rs (Fr.of s1 hr) fun h2 => ⟨fun _ => E h2, fun n => absurd rfl n⟩⟩⟩, fun _ => ?_⟩
  refine ⟨fun _ => ⟨vv1, c1, c2, H.k, c_open H F fun h1 s1 => ⟨Rs.1, r_open Rs (Fr.of s1 hr) fun h2 => ⟨fun _ => E h2, fun n => absurd rfl n⟩⟩⟩, fun _ => ?_⟩
  refine ⟨fun _ => ⟨vv1, vv2, vv3, c1, c2, H.k, c_cases H F fun h1 s1 => ⟨Rs.1, r_cases Rs (Fr.of s1 hr) fun h2 => ⟨fun _ => E h2, fun n => absurd rfl n⟩⟩⟩, fun _ => ?_⟩
  refine ⟨fun _ => ⟨c1, c2, H.k, c_write H F fun h1 s1 => ⟨Rs.1, r_write Rs (Fr.of s1 hr) fun h2 => ⟨fun _ => E h2, fun n => absurd rfl n⟩⟩⟩, fun _ => ?_⟩
  refine ⟨fun _ => ⟨vv1, c1, c2, H.k, c_octet H F fun h1 s1 => ⟨Rs.1, r_octet Rs (Fr.of s1 hr) fun h2 => ⟨fun _ => E h2, fun n => absurd rfl n⟩⟩⟩, fun _ => ?_⟩
  refine ⟨fun _ => ⟨vv1, c1, c2, H.k, c_run H F fun h1 s1 => ⟨Rs.1, r_run Rs (Fr.of s1 hr) fun h2 => ⟨fun _ => E h2, fun n => absurd rfl n⟩⟩⟩, fun _ => ?_⟩
  refine ⟨fun _ => ⟨vv1, vv2, c1, c2, H.k, c_step H F fun h1 s1 => ⟨Rs.1, r_step Rs (Fr.of s1 hr) fun h2 => ⟨fun _ => E h2, fun n => absurd rfl n⟩⟩⟩, fun _ => ?_⟩
  refine ⟨fun _ => ⟨vv1, c1, c2, H.k, c_now H F fun h1 s1 => ⟨Rs.1, r_now Rs (Fr.of s1 hr) fun h2 => ⟨fun _ => E h2, fun n => absurd rfl n⟩⟩⟩, fun _ => ?_⟩
  refine ⟨fun _ => ⟨vv1, c1, c2, H.k, c_beside H F fun h1 s1 => ⟨Rs.1, r_beside Rs (Fr.of s1 hr) fun h2 => ⟨fun _ => E h2, fun n => absurd rfl n⟩⟩⟩, fun _ => ?_⟩
  refine ⟨fun _ => ⟨vv1, vv2, c1, c2, H.k, c_draws H F fun h1 s1 => ⟨Rs.1, r_draws Rs (Fr.of s1 hr) fun h2 => ⟨fun _ => E h2, fun n => absurd rfl n⟩⟩⟩, fun _ => ?_⟩
  refine ⟨fun _ => ⟨vv1, c1, c2, H.k, c_reach H F fun h1 s1 => ⟨Rs.1, r_reach Rs (Fr.of s1 hr) fun h2 => ⟨fun _ => E h2, fun n => absurd rfl n⟩⟩⟩, fun _ => ?_⟩
  refine ⟨fun _ => ⟨vv1, vv2, c1, c2, H.k, c_steps H F fun h1 s1 => ⟨Rs.1, r_steps Rs (Fr.of s1 hr) fun h2 => ⟨fun _ => E h2, fun n => absurd rfl n⟩⟩⟩, fun _ => ?_⟩
  refine ⟨fun _ => ⟨vv1, c1, c2, H.k, c_stuck H F fun h1 s1 => ⟨Rs.1, r_stuck Rs (Fr.of s1 hr) fun h2 => ⟨fun _ => E h2, fun n => absurd rfl n⟩⟩⟩, fun _ => ?_⟩
  refine ⟨fun _ => ⟨vv1, c1, c2, H.k, c_unsound H F fun h1 s1 => ⟨Rs.1, r_unsound Rs (Fr.of s1 hr) fun h2 => ⟨fun _ => E h2, fun n => absurd rfl n⟩⟩⟩, fun _ => ?_⟩
  refine ⟨fun _ => ⟨vv1, vv2, vv3, fun _ => law_aside H F Rs Fr hr E _ _ _, fun _ => law_aside H F Rs Fr hr E _ _ _⟩, fun _ => ?_⟩
  refine ⟨fun _ => ⟨vv1, vv2, vv3, c3, c4, law_letter H F Rs Fr hr hw _ _ _ fun h1 f1 => ⟨c3, c4, Rs.1, r_letter Rs f1 fun h2 e2 => law_thrown Rs e2 ⟨fun _ => ⟨fun _ => E1 h2, fun e => absurd e (by decide)⟩, fun n => absurd rfl n⟩⟩⟩, fun _ => ?_⟩
  refine ⟨fun _ => ⟨c1, c2, H.k, c_size H F fun h1 s1 => ⟨Rs.1, r_size Rs (Fr.of s1 hr) fun h2 => ⟨fun _ => E h2, fun n => absurd rfl n⟩⟩⟩, fun _ => ?_⟩
  refine ⟨fun _ => ⟨c1, c2, H.k, c_trouble H F fun h1 s1 => ⟨Rs.1, r_trouble Rs (Fr.of s1 hr) fun h2 => ⟨fun _ => E h2, fun n => absurd rfl n⟩⟩⟩, fun _ => ?_⟩
  exact E h
end
theorem pure_goal {xs : Nat → Int32} {L : Nat} (hL : L ≤ 6) : ∀ (K : Nat → Nat) (z : Nat), z ≠ 0 → (∀ i j : Nat, i < 18 → j < 18 → K i = K j → i = j) → (∀ i : Nat, K i ≠ 0) → PureGoal K xs L z := by
  intro K z _ _ _
  unfold PureGoal
  refine mX11_init (a := z) uS_at (fun _ _ _ => ⟨rfl, rfl, rfl⟩) (fun _ _ => rfl) (fun _ _ => rfl) (fun S1 h1 cs cr d1 _ d3 d4 e7 e8 i1 _ f1 => ⟨f1.h0 (Nat.le_refl _), ?_⟩)
  refine mX12_init (a := z + 902) uS_at (f1.up (by omega)) (fun j => by rw [i1, if_neg (by omega)]) (fun S2 h2 rs rr f2 so i2 _ r2 => ⟨f2.h0 (Nat.le_refl _), 2, ?_⟩)
  by_cases h6 : L = 6
  · subst h6
    have so3 : ∀ b, b < z + 902 → uS S2 (z + 902 + 35) (23, 1) b = S1 b := fun b hb => by rw [uS_ne (by omega), so b (by omega), uS_ne (by omega)]
    have H : FxS (uS S2 (z + 902 + 35) (23, 1)) z := ⟨cs.of fun q _ q2 => so3 q (by omega), d1.of fun q _ q2 => so3 q (by omega), d3.of fun q _ q2 => so3 q (by omega)⟩
    have F : Fx h2 z := ⟨cr.of fun q _ q2 j => r2 q (by omega) j, d4.of fun q _ q2 j => r2 q (by omega) j, (r2 z (by omega) 7).trans e7, (r2 z (by omega) 8).trans e8, fun b j hb => by rw [i2, if_neg (by omega), i1]⟩
    have Rs : RS (uS S2 (z + 902 + 35) (23, 1)) (z + 902) := rs.of fun q _ q2 => uS_ne (by omega)
    have Fr : Fq h2 (z + 902) := ⟨rr, fun j => by
      rw [i2, i1]
      by_cases e : j = 2 ∨ j = 56
      · rw [if_pos ⟨rfl, e⟩, if_pos e]
      · rw [if_neg (fun q => e q.2), if_neg (by omega), if_neg e]⟩
    show wL_law_23b _ K xs 6 z (z + 902) (z + 902 + 35) Qw (wL_law_23 _ K xs 6 z (z + 902) (z + 902 + 35) Qw 1) 938 62505 h2 0
    exact law_one H F Rs Fr (Nat.le_refl _) uS_at (fun h' => law_end (Nat.le_of_ble_eq_true rfl) (Nat.le_of_ble_eq_true rfl)) (fun h' => law_end (Nat.le_of_ble_eq_true rfl) (Nat.le_of_ble_eq_true rfl))
  · have hn : nI L - 6 < 0 := by
      have : L = 0 ∨ L = 1 ∨ L = 2 ∨ L = 3 ∨ L = 4 ∨ L = 5 := by omega
      rcases this with e | e | e | e | e | e <;> subst e <;> decide
    show wL_law_23b _ K xs L z (z + 902) (z + 902 + 35) Qw (wL_law_23 _ K xs L z (z + 902) (z + 902 + 35) Qw 1) 938 62505 h2 0
    generalize wL_law_23 _ K xs L z (z + 902) (z + 902 + 35) Qw 1 = B
    unfold wL_law_23b
    exact ⟨fun _ => ⟨Nat.le_of_ble_eq_true rfl, Nat.le_of_ble_eq_true rfl, rfl⟩, fun c => absurd hn c⟩
