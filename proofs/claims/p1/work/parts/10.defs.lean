noncomputable def wJ13_bitCount_95d88 (S : Sh) (h : Hp) (j0 : Int64) (Q : Int32 → Hp → Prop) : Prop :=
  ∀ jv9 : Int64, jv9 = (j0 - ((ush64 j0 (1 : Int32)) &&& (6148914691236517205 : Int64))) →
  ∀ jv23 : Int64, jv23 = ((jv9 &&& (3689348814741910323 : Int64)) + ((ush64 jv9 (2 : Int32)) &&& (3689348814741910323 : Int64))) →
  ∀ jv33 : Int64, jv33 = ((jv23 + (ush64 jv23 (4 : Int32))) &&& (1085102592571150095 : Int64)) →
  ∀ jv40 : Int64, jv40 = (jv33 + (ush64 jv33 (8 : Int32))) →
  ∀ jv47 : Int64, jv47 = (jv40 + (ush64 jv40 (16 : Int32))) →
  ∀ jv54 : Int64, jv54 = (jv47 + (ush64 jv47 (32 : Int32))) →
  Q (((jv54.toInt32) &&& (127 : Int32))) h
noncomputable def wJ6_bitCount_0f7a4 (S : Sh) (h : Hp) (x0 : Int32) (Q : Int32 → Hp → Prop) : Prop :=
  ∀ xv9 : Int32, xv9 = (x0 - ((ush32 x0 (1 : Int32)) &&& (1431655765 : Int32))) →
  ∀ xv23 : Int32, xv23 = ((xv9 &&& (858993459 : Int32)) + ((ush32 xv9 (2 : Int32)) &&& (858993459 : Int32))) →
  ∀ xv33 : Int32, xv33 = ((xv23 + (ush32 xv23 (4 : Int32))) &&& (252645135 : Int32)) →
  ∀ xv40 : Int32, xv40 = (xv33 + (ush32 xv33 (8 : Int32))) →
  ∀ xv47 : Int32, xv47 = (xv40 + (ush32 xv40 (16 : Int32))) →
  Q ((xv47 &&& (63 : Int32))) h
noncomputable def wJ7_fill_53178_5b (S : Sh) (a0 : Nat) (x1 : Int32) (x3 : Int32) (Q : Hp → Prop) (B5 : Hp → Int32 → Prop) (h : Hp) (x2 : Int32) : Prop :=
  ((x3 ≤ x2 →
   Q h) ∧
   (¬ x3 ≤ x2 →
    inA S a0 20 x2 ∧
    (B5 ((pI h a0 (ix x2) x1)) ((x2 + (1 : Int32))))))
noncomputable def wJ7_fill_53178_5 (S : Sh) (a0 : Nat) (x1 : Int32) (x3 : Int32) (Q : Hp → Prop) (n : Nat) : Hp → Int32 → Prop := Nat.rec (motive := fun _ => Hp → Int32 → Prop) (fun _ _ => False) (fun _ B5 h x2 => wJ7_fill_53178_5b S a0 x1 x3 Q B5 h x2) n
noncomputable def wJ7_fill_53178 (S : Sh) (h : Hp) (a0 : Nat) (x1 : Int32) (Q : Hp → Prop) : Prop :=
  (S a0).1 = 20 ∧
  (∃ n5, wJ7_fill_53178_5 S a0 x1 ((nI (S a0).2)) Q n5 h (0 : Int32))
noncomputable def wX0_after (S : Sh) (h : Hp) (a0 : Nat) (x1 : Int32) (x2 : Int32) (Q : Int32 → Hp → Prop) : Prop :=
  (S a0).1 = 1 ∧
  inA S (gR h a0 3) 20 (((x1 * (10 : Int32)) + x2)) ∧
  Q ((gI h (gR h a0 3) (ix (((x1 * (10 : Int32)) + x2))))) h
noncomputable def wX0_clear (S : Sh) (h : Hp) (a0 : Nat) (j1 : Int64) (Q : Hp → Prop) : Prop :=
  (S a0).1 = 1 ∧
  ∀ h2 : Hp, h2 = (pJ h a0 4 j1) →
  ∀ h8 : Hp, h8 = (pI h2 a0 5 (-2 : Int32)) →
  ∀ h13 : Hp, h13 = (pI h8 a0 6 (0 : Int32)) →
  ∀ h18 : Hp, h18 = (pI h13 a0 7 (0 : Int32)) →
  ∀ h23 : Hp, h23 = (pI h18 a0 8 (0 : Int32)) →
  ∀ h28 : Hp, h28 = (pI h23 a0 9 (-1 : Int32)) →
  Q ((pI h28 a0 10 (0 : Int32)))
noncomputable def wX0_forget (S : Sh) (h : Hp) (a0 : Nat) (x1 : Int32) (Q : Hp → Prop) : Prop :=
  (S a0).1 = 1 ∧
  inA S (gR h a0 1) 20 x1 ∧
  ∀ h6 : Hp, h6 = (pI h (gR h a0 1) (ix x1) (0 : Int32)) →
  inA S (gR h6 a0 2) 20 x1 ∧
  Q ((pI h6 (gR h6 a0 2) (ix x1) (0 : Int32)))
noncomputable def wX0_hasPick (S : Sh) (h : Hp) (a0 : Nat) (x1 : Int32) (Q : Int32 → Hp → Prop) : Prop :=
  (S a0).1 = 1 ∧
  ((x1 < (gI h a0 6) →
   Q (0 : Int32) h) ∧
   (¬ x1 < (gI h a0 6) →
    (((gI h a0 7) < x1 →
     Q (0 : Int32) h) ∧
     (¬ (gI h a0 7) < x1 →
      Q (1 : Int32) h))))
noncomputable def wX0_init  (S : Sh) (z : Nat) (h : Hp) (a0 : Nat) (Q : Sh → Nat → Hp → Prop) : Prop :=
  (S a0).1 ≠ 0 ∧
  h0 h z ∧
  0 + 1 ≤ 4 ∧
  0 + 3 ≤ 1203 ∧
  ((uS S z (20, 3)) a0).1 = 1 ∧
  ∀ h8 : Hp, h8 = (pR h a0 0 z) →
  h0 h8 (z + 1) ∧
  1 + 1 ≤ 4 ∧
  3 + 100 ≤ 1203 ∧
  ((uS ((uS S z (20, 3))) (z + 1) (20, 100)) a0).1 = 1 ∧
  ∀ h16 : Hp, h16 = (pR h8 a0 1 (z + 1)) →
  h0 h16 (z + 2) ∧
  2 + 1 ≤ 4 ∧
  103 + 100 ≤ 1203 ∧
  ((uS ((uS ((uS S z (20, 3))) (z + 1) (20, 100))) (z + 2) (20, 100)) a0).1 = 1 ∧
  ∀ h24 : Hp, h24 = (pR h16 a0 2 (z + 2)) →
  h0 h24 (z + 3) ∧
  3 + 1 ≤ 4 ∧
  203 + 1000 ≤ 1203 ∧
  ((uS ((uS ((uS ((uS S z (20, 3))) (z + 1) (20, 100))) (z + 2) (20, 100))) (z + 3) (20, 1000)) a0).1 = 1 ∧
  4 ≤ 4 ∧ 1203 ≤ 1203 ∧ Q ((uS ((uS ((uS ((uS S z (20, 3))) (z + 1) (20, 100))) (z + 2) (20, 100))) (z + 3) (20, 1000))) (z + 4) ((pR h24 a0 3 (z + 3)))
noncomputable def wX0_picksAt (S : Sh) (h : Hp) (a0 : Nat) (x1 : Int32) (Q : Int32 → Hp → Prop) : Prop :=
  (S a0).1 = 1 ∧
  (((gI h a0 10) = 0 →
   inA S (gR h a0 1) 20 x1 ∧
   Q ((gI h (gR h a0 1) (ix x1))) h) ∧
   (¬ (gI h a0 10) = 0 →
    Q (0 : Int32) h))
noncomputable def wX0_stepsAt (S : Sh) (h : Hp) (a0 : Nat) (x1 : Int32) (Q : Int32 → Hp → Prop) : Prop :=
  (S a0).1 = 1 ∧
  (((gI h a0 10) = 0 →
   inA S (gR h a0 2) 20 x1 ∧
   Q ((gI h (gR h a0 2) (ix x1))) h) ∧
   (¬ (gI h a0 10) = 0 →
    Q (0 : Int32) h))
noncomputable def wX7_put (S : Sh) (h : Hp) (a0 : Nat) (x1 : Int32) (Q : Hp → Prop) : Prop :=
  (((64 : Int32) ≤ x1 →
   (S a0).1 = 8 ∧
   Q ((pJ h a0 1 (((gJ h a0 1) ||| (shl64 (1 : Int64) ((x1 - (64 : Int32))))))))) ∧
   (¬ (64 : Int32) ≤ x1 →
    (S a0).1 = 8 ∧
    Q ((pJ h a0 0 (((gJ h a0 0) ||| (shl64 (1 : Int64) x1)))))))
noncomputable def wX0_putGiven_9b (S : Sh) (a0 : Nat) (x1 : Int32) (a2 : Nat) (x3 : Int32) (Q : Hp → Prop) (B9 : Hp → Int32 → Prop) (h : Hp) (x4 : Int32) : Prop :=
  (((10 : Int32) ≤ x4 →
   Q h) ∧
   (¬ (10 : Int32) ≤ x4 →
    ((((shr32 x3 x4) &&& (1 : Int32)) = 0 →
     (B9 h ((x4 + (1 : Int32))))) ∧
     (¬ ((shr32 x3 x4) &&& (1 : Int32)) = 0 →
      (S a0).1 = 1 ∧
      (wX0_after S h a0 x1 x4 (fun r30 h30 =>
       (S a2).1 = 8 ∧
       (wX7_put S h30 a2 r30 (fun h33 =>
        (B9 h33 ((x4 + (1 : Int32))))))))))))
noncomputable def wX0_putGiven_9 (S : Sh) (a0 : Nat) (x1 : Int32) (a2 : Nat) (x3 : Int32) (Q : Hp → Prop) (n : Nat) : Hp → Int32 → Prop := Nat.rec (motive := fun _ => Hp → Int32 → Prop) (fun _ _ => False) (fun _ B9 h x4 => wX0_putGiven_9b S a0 x1 a2 x3 Q B9 h x4) n
noncomputable def wX0_putGiven (S : Sh) (h : Hp) (a0 : Nat) (x1 : Int32) (a2 : Nat) (Q : Hp → Prop) : Prop :=
  (S a0).1 = 1 ∧
  (wX0_stepsAt S h a0 x1 (fun r2 h2 =>
   (∃ n9, wX0_putGiven_9 S a0 x1 a2 r2 Q n9 h2 (0 : Int32))))
noncomputable def wX0_settleAt (S : Sh) (h : Hp) (a0 : Nat) (x1 : Int32) (x2 : Int32) (x3 : Int32) (x4 : Int32) (Q : Hp → Prop) : Prop :=
  (S a0).1 = 1 ∧
  inA S (gR h a0 3) 20 (((x1 * (10 : Int32)) + x2)) ∧
  ∀ h12 : Hp, h12 = (pI h (gR h a0 3) (ix (((x1 * (10 : Int32)) + x2))) x4) →
  ((x3 = 0 →
   Q h12) ∧
   (¬ x3 = 0 →
    inA S (gR h12 a0 1) 20 x1 ∧
    ∀ h28 : Hp, h28 = (pI h12 (gR h12 a0 1) (ix x1) (((gI h12 (gR h12 a0 1) (ix x1)) ||| (shl32 (1 : Int32) x2)))) →
    inA S (gR h28 a0 2) 20 x1 ∧
    ((x4 < 0 →
     Q ((pI h28 (gR h28 a0 2) (ix x1) (((gI h28 (gR h28 a0 2) (ix x1)) ||| (0 : Int32)))))) ∧
     (¬ x4 < 0 →
      Q ((pI h28 (gR h28 a0 2) (ix x1) (((gI h28 (gR h28 a0 2) (ix x1)) ||| (shl32 (1 : Int32) x2)))))))))
noncomputable def wX0_told (S : Sh) (h : Hp) (a0 : Nat) (x1 : Int32) (Q : Int32 → Hp → Prop) : Prop :=
  ((x1 = (0 : Int32) →
   (S a0).1 = 1 ∧
   Q (gI h a0 5) h) ∧
   (¬ x1 = (0 : Int32) →
    ((x1 = (1 : Int32) →
     (S a0).1 = 1 ∧
     Q (gI h a0 6) h) ∧
     (¬ x1 = (1 : Int32) →
      ((x1 = (2 : Int32) →
       (S a0).1 = 1 ∧
       Q (gI h a0 7) h) ∧
       (¬ x1 = (2 : Int32) →
        ((x1 = (3 : Int32) →
         (S a0).1 = 1 ∧
         Q (gI h a0 8) h) ∧
         (¬ x1 = (3 : Int32) →
          (S a0).1 = 1 ∧
          (((gI h a0 10) = 0 →
           Q (0 : Int32) h) ∧
           (¬ (gI h a0 10) = 0 →
            Q (1 : Int32) h))))))))))
noncomputable def wX1_concerns_j40 (S : Sh) (h : Hp) (Q : Int32 → Hp → Prop) : Prop :=
  Q (1 : Int32) h
noncomputable def wX1_concerns (S : Sh) (h : Hp) (a0 : Nat) (x1 : Int32) (a2 : Nat) (Q : Int32 → Hp → Prop) : Prop :=
  ((¬ x1 = (1 : Int32) →
   ((x1 = 0 →
    (wX1_concerns_j40 S h Q)) ∧
    (¬ x1 = 0 →
     (S a0).1 = 2 ∧
     (((gI h a0 4) ≤ 0 →
      Q (0 : Int32) h) ∧
      (¬ (gI h a0 4) ≤ 0 →
       (S a2).1 = 1 ∧
       ((¬ (gI h a2 5) = (-2 : Int32) →
        Q (0 : Int32) h) ∧
        ((gI h a2 5) = (-2 : Int32) →
         (wX1_concerns_j40 S h Q)))))))) ∧
   (x1 = (1 : Int32) →
    (S a2).1 = 1 ∧
    (((gI h a2 5) = (-2 : Int32) →
     Q (0 : Int32) h) ∧
     (¬ (gI h a2 5) = (-2 : Int32) →
      Q (1 : Int32) h))))
noncomputable def wX7_has_j17 (S : Sh) (h : Hp) (x1 : Int32) (s0 : Int64) (Q : Int32 → Hp → Prop) : Prop :=
  (((lg_cmp (((ush64 s0 ((x1 &&& (63 : Int32)))) &&& (1 : Int64))) (0 : Int64)) = 0 →
   Q (0 : Int32) h) ∧
   (¬ (lg_cmp (((ush64 s0 ((x1 &&& (63 : Int32)))) &&& (1 : Int64))) (0 : Int64)) = 0 →
    Q (1 : Int32) h))
noncomputable def wX7_has (S : Sh) (h : Hp) (a0 : Nat) (x1 : Int32) (Q : Int32 → Hp → Prop) : Prop :=
  (((64 : Int32) ≤ x1 →
   (S a0).1 = 8 ∧
   (wX7_has_j17 S h x1 (gJ h a0 1) Q)) ∧
   (¬ (64 : Int32) ≤ x1 →
    (S a0).1 = 8 ∧
    (wX7_has_j17 S h x1 (gJ h a0 0) Q)))
noncomputable def wX1_paired (S : Sh) (h : Hp) (a0 : Nat) (x1 : Int32) (x2 : Int32) (Q : Int32 → Hp → Prop) : Prop :=
  (S a0).1 = 2 ∧
  (((gI h a0 4) ≤ 0 →
   (S (gR h a0 2)).1 = 3 ∧
   inA S ((gR h (gR h a0 2) 6)) 22 x2 ∧
   ((gI h ((gR h (gR h a0 2) 6)) (ix x2))) &&& 1 = (gI h ((gR h (gR h a0 2) 6)) (ix x2)) ∧
   Q ((gI h ((gR h (gR h a0 2) 6)) (ix x2))) h) ∧
   (¬ (gI h a0 4) ≤ 0 →
    (S (gR h a0 2)).1 = 3 ∧
    inA S ((gR h (gR h a0 2) 7)) 26 x2 ∧
    (S ((gR h ((gR h (gR h a0 2) 7)) (ix x2)))).1 = 8 ∧
    (wX7_has S h ((gR h ((gR h (gR h a0 2) 7)) (ix x2))) x1 (fun r17 h17 =>
     r17 &&& 1 = r17 ∧
     Q r17 h17))))
noncomputable def wX2_span (S : Sh) (h : Hp) (a0 : Nat) (x1 : Int32) (Q : Int32 → Hp → Prop) : Prop :=
  (S a0).1 = 3 ∧
  inA S (gR h a0 2) 20 x1 ∧
  inA S (gR h a0 1) 20 x1 ∧
  Q ((max32 (1 : Int32) ((((gI h (gR h a0 2) (ix x1)) - (gI h (gR h a0 1) (ix x1))) + (1 : Int32))))) h
noncomputable def wX2_stateOf_5b (S : Sh) (a0 : Nat) (a1 : Nat) (x2 : Int32) (Q : Int32 → Hp → Prop) (B5 : Hp → Int32 → Int32 → Prop) (h : Hp) (x3 : Int32) (x4 : Int32) : Prop :=
  (S a0).1 = 3 ∧
  (((gI h a0 11) ≤ x4 →
   Q x3 h) ∧
   (¬ (gI h a0 11) ≤ x4 →
    inA S a1 20 (x2 + x4) ∧
    ∀ xv20 : Int32, xv20 = (gI h a1 (ix (x2 + x4))) →
    inA S (gR h a0 1) 20 x4 ∧
    ((xv20 < (gI h (gR h a0 1) (ix x4)) →
     Q (-2 : Int32) h) ∧
     (¬ xv20 < (gI h (gR h a0 1) (ix x4)) →
      inA S (gR h a0 2) 20 x4 ∧
      ((xv20 ≤ (gI h (gR h a0 2) (ix x4)) →
       (wX2_span S h a0 x4 (fun r53 h53 =>
        inA S (gR h53 a0 1) 20 x4 ∧
        ∀ xv68 : Int32, xv68 = (((x3 * r53) + xv20) - (gI h53 (gR h53 a0 1) (ix x4))) →
        (B5 h53 xv68 ((x4 + (1 : Int32))))))) ∧
       (¬ xv20 ≤ (gI h (gR h a0 2) (ix x4)) →
        Q (-2 : Int32) h))))))
noncomputable def wX2_stateOf_5 (S : Sh) (a0 : Nat) (a1 : Nat) (x2 : Int32) (Q : Int32 → Hp → Prop) (n : Nat) : Hp → Int32 → Int32 → Prop := Nat.rec (motive := fun _ => Hp → Int32 → Int32 → Prop) (fun _ _ _ => False) (fun _ B5 h x3 x4 => wX2_stateOf_5b S a0 a1 x2 Q B5 h x3 x4) n
noncomputable def wX2_stateOf (S : Sh) (h : Hp) (a0 : Nat) (a1 : Nat) (x2 : Int32) (Q : Int32 → Hp → Prop) : Prop :=
  (∃ n5, wX2_stateOf_5 S a0 a1 x2 Q n5 h (0 : Int32) (0 : Int32))
noncomputable def wX2_beginState (S : Sh) (h : Hp) (a0 : Nat) (Q : Int32 → Hp → Prop) : Prop :=
  (S a0).1 = 3 ∧
  (wX2_stateOf S h a0 (gR h a0 3) (0 : Int32) (fun r7 h7 =>
   Q ((max32 (0 : Int32) r7)) h7))
noncomputable def wX9_note (S : Sh) (h : Hp) (a0 : Nat) (x1 : Int32) (x2 : Int32) (x3 : Int32) (Q : Hp → Prop) : Prop :=
  (S a0).1 = 10 ∧
  ((¬ (gI h a0 1) = 0 →
   Q ((pI h a0 1 (((gI h a0 1) + (1 : Int32)))))) ∧
   ((gI h a0 1) = 0 →
    ∀ h9 : Hp, h9 = (pI h a0 2 x1) →
    ∀ h14 : Hp, h14 = (pI h9 a0 3 x2) →
    ∀ h19 : Hp, h19 = (pI h14 a0 4 x3) →
    Q ((pI h19 a0 1 (((gI h19 a0 1) + (1 : Int32)))))))
noncomputable def wX1_judgeBegin_j36 (S : Sh) (h : Hp) (a0 : Nat) (x1 : Int32) (s0 : Int32) (Q : Hp → Prop) : Prop :=
  (S a0).1 = 2 ∧
  (wX1_paired S h a0 s0 x1 (fun r40 h40 =>
   ((¬ r40 = 0 →
    Q h40) ∧
    (r40 = 0 →
     (S (gR h40 a0 3)).1 = 10 ∧
     (wX9_note S h40 (gR h40 a0 3) s0 x1 (0 : Int32) (fun h53 =>
      Q h53))))))
noncomputable def wX1_judgeBegin (S : Sh) (h : Hp) (a0 : Nat) (Q : Hp → Prop) : Prop :=
  (S a0).1 = 2 ∧
  (S (gR h a0 2)).1 = 3 ∧
  (wX2_beginState S h (gR h a0 2) (fun r4 h4 =>
   (((gI h4 a0 4) ≤ 0 →
    (wX1_judgeBegin_j36 S h4 a0 r4 (0 : Int32) Q)) ∧
    (¬ (gI h4 a0 4) ≤ 0 →
     (S (gR h4 a0 1)).1 = 4 ∧
     inA S ((gR h4 (gR h4 a0 1) 0)) 25 (((gI h4 a0 4) - (1 : Int32))) ∧
     (S ((gR h4 ((gR h4 (gR h4 a0 1) 0)) (ix (((gI h4 a0 4) - (1 : Int32))))))).1 = 3 ∧
     (wX2_beginState S h4 ((gR h4 ((gR h4 (gR h4 a0 1) 0)) (ix (((gI h4 a0 4) - (1 : Int32)))))) (fun r29 h29 =>
      (wX1_judgeBegin_j36 S h29 a0 r4 r29 Q)))))))
noncomputable def wX7_meets_j28 (S : Sh) (h : Hp) (Q : Int32 → Hp → Prop) : Prop :=
  Q (1 : Int32) h
noncomputable def wX7_meets (S : Sh) (h : Hp) (a0 : Nat) (a1 : Nat) (Q : Int32 → Hp → Prop) : Prop :=
  (S a0).1 = 8 ∧
  (S a1).1 = 8 ∧
  ((¬ (lg_cmp (((gJ h a0 0) &&& (gJ h a1 0))) (0 : Int64)) = 0 →
   (wX7_meets_j28 S h Q)) ∧
   ((lg_cmp (((gJ h a0 0) &&& (gJ h a1 0))) (0 : Int64)) = 0 →
    (((lg_cmp (((gJ h a0 1) &&& (gJ h a1 1))) (0 : Int64)) = 0 →
     Q (0 : Int32) h) ∧
     (¬ (lg_cmp (((gJ h a0 1) &&& (gJ h a1 1))) (0 : Int64)) = 0 →
      (wX7_meets_j28 S h Q)))))
noncomputable def wX1_keeps (S : Sh) (h : Hp) (a0 : Nat) (a1 : Nat) (x2 : Int32) (x3 : Int32) (Q : Int32 → Hp → Prop) : Prop :=
  (S a0).1 = 2 ∧
  (((gI h a0 4) ≤ 0 →
   (wX1_paired S h a0 x2 x3 (fun r36 h36 =>
    r36 &&& 1 = r36 ∧
    Q r36 h36))) ∧
   (¬ (gI h a0 4) ≤ 0 →
    (S a1).1 = 1 ∧
    (((gI h a1 5) = (-2 : Int32) →
     (wX1_paired S h a0 x2 x3 (fun r36 h36 =>
      r36 &&& 1 = r36 ∧
      Q r36 h36))) ∧
     (¬ (gI h a1 5) = (-2 : Int32) →
      (S (gR h a0 2)).1 = 3 ∧
      inA S ((gR h (gR h a0 2) 7)) 26 x3 ∧
      (S ((gR h ((gR h (gR h a0 2) 7)) (ix x3)))).1 = 8 ∧
      (wX7_meets S h ((gR h ((gR h (gR h a0 2) 7)) (ix x3))) (gR h a0 0) (fun r29 h29 =>
       r29 &&& 1 = r29 ∧
       Q r29 h29))))))
noncomputable def wX1_lessens (S : Sh) (h : Hp) (a0 : Nat) (x1 : Int32) (x2 : Int32) (Q : Int32 → Hp → Prop) : Prop :=
  (S a0).1 = 2 ∧
  (S (gR h a0 2)).1 = 3 ∧
  (((gI h (gR h a0 2) 15) = (-1 : Int32) →
   Q (0 : Int32) h) ∧
   (¬ (gI h (gR h a0 2) 15) = (-1 : Int32) →
    inA S ((gR h (gR h a0 2) 8)) 20 x2 ∧
    (((gI h ((gR h (gR h a0 2) 8)) (ix x2)) < 0 →
     Q (0 : Int32) h) ∧
     (¬ (gI h ((gR h (gR h a0 2) 8)) (ix x2)) < 0 →
      inA S ((gR h (gR h a0 2) 8)) 20 x1 ∧
      (((gI h ((gR h (gR h a0 2) 8)) (ix x1)) ≤ (gI h ((gR h (gR h a0 2) 8)) (ix x2)) →
       Q (0 : Int32) h) ∧
       (¬ (gI h ((gR h (gR h a0 2) 8)) (ix x1)) ≤ (gI h ((gR h (gR h a0 2) 8)) (ix x2)) →
        Q (1 : Int32) h))))))
noncomputable def wX1_judgePicks_j95 (S : Sh) (B11 : Hp → Int32 → Prop) (h : Hp) (a0 : Nat) (a1 : Nat) (x2 : Int32) (x3 : Int32) (x4 : Int32) (x5 : Int32) (x6 : Int32) (s0 : Int32) (Q : Hp → Prop) : Prop :=
  ((s0 = 0 →
   (B11 h ((x6 + (1 : Int32))))) ∧
   (¬ s0 = 0 →
    (S a0).1 = 2 ∧
    (S a1).1 = 1 ∧
    (S (gR h a0 3)).1 = 10 ∧
    (wX9_note S h (gR h a0 3) x3 x4 (((gI h a1 6) + x6)) (fun h116 =>
     (B11 h116 ((x6 + (1 : Int32))))))))
noncomputable def wX1_judgePicks_j94 (S : Sh) (B11 : Hp → Int32 → Prop) (h : Hp) (a0 : Nat) (a1 : Nat) (x2 : Int32) (x3 : Int32) (x4 : Int32) (x5 : Int32) (x6 : Int32) (Q : Hp → Prop) : Prop :=
  (wX1_judgePicks_j95 S B11 h a0 a1 x2 x3 x4 x5 x6 (0 : Int32) Q)
noncomputable def wX1_judgePicks_j90 (S : Sh) (B11 : Hp → Int32 → Prop) (h : Hp) (a0 : Nat) (a1 : Nat) (x2 : Int32) (x3 : Int32) (x4 : Int32) (x5 : Int32) (x6 : Int32) (Q : Hp → Prop) : Prop :=
  (wX1_judgePicks_j95 S B11 h a0 a1 x2 x3 x4 x5 x6 (1 : Int32) Q)
noncomputable def wX1_judgePicks_j75 (S : Sh) (B11 : Hp → Int32 → Prop) (h : Hp) (a0 : Nat) (a1 : Nat) (x2 : Int32) (x3 : Int32) (x4 : Int32) (x5 : Int32) (x6 : Int32) (x7 : Int32) (Q : Hp → Prop) : Prop :=
  ((¬ x2 = 0 →
   (wX1_judgePicks_j94 S B11 h a0 a1 x2 x3 x4 x5 x6 Q)) ∧
   (x2 = 0 →
    (S a0).1 = 2 ∧
    (wX1_keeps S h a0 a1 x3 x7 (fun r84 h84 =>
     ((¬ r84 = 0 →
      (wX1_judgePicks_j94 S B11 h84 a0 a1 x2 x3 x4 x5 x6 Q)) ∧
      (r84 = 0 →
       (wX1_judgePicks_j90 S B11 h84 a0 a1 x2 x3 x4 x5 x6 Q)))))))
noncomputable def wX1_judgePicks_11b (S : Sh) (a0 : Nat) (a1 : Nat) (x2 : Int32) (x3 : Int32) (x4 : Int32) (x5 : Int32) (Q : Hp → Prop) (B11 : Hp → Int32 → Prop) (h : Hp) (x6 : Int32) : Prop :=
  (((shr32 x5 x6) = 0 →
   Q h) ∧
   (¬ (shr32 x5 x6) = 0 →
    (((10 : Int32) ≤ x6 →
     Q h) ∧
     (¬ (10 : Int32) ≤ x6 →
      ((¬ ((shr32 x5 x6) &&& (1 : Int32)) = 0 →
       (S a1).1 = 1 ∧
       (wX0_after S h a1 x4 x6 (fun r44 h44 =>
        ((x2 = (1 : Int32) →
         (wX1_judgePicks_j90 S B11 h44 a0 a1 x2 x3 x4 x5 x6 Q)) ∧
         (¬ x2 = (1 : Int32) →
          ((r44 < 0 →
           (wX1_judgePicks_j90 S B11 h44 a0 a1 x2 x3 x4 x5 x6 Q)) ∧
           (¬ r44 < 0 →
            ((¬ x2 = (2 : Int32) →
             (wX1_judgePicks_j75 S B11 h44 a0 a1 x2 x3 x4 x5 x6 r44 Q)) ∧
             (x2 = (2 : Int32) →
              (S a0).1 = 2 ∧
              (wX1_lessens S h44 a0 x4 r44 (fun r69 h69 =>
               ((r69 = 0 →
                (wX1_judgePicks_j90 S B11 h69 a0 a1 x2 x3 x4 x5 x6 Q)) ∧
                (¬ r69 = 0 →
                 (wX1_judgePicks_j75 S B11 h69 a0 a1 x2 x3 x4 x5 x6 r44 Q)))))))))))))) ∧
       (((shr32 x5 x6) &&& (1 : Int32)) = 0 →
        (B11 h ((x6 + (1 : Int32))))))))))
noncomputable def wX1_judgePicks_11 (S : Sh) (a0 : Nat) (a1 : Nat) (x2 : Int32) (x3 : Int32) (x4 : Int32) (x5 : Int32) (Q : Hp → Prop) (n : Nat) : Hp → Int32 → Prop := Nat.rec (motive := fun _ => Hp → Int32 → Prop) (fun _ _ => False) (fun _ B11 h x6 => wX1_judgePicks_11b S a0 a1 x2 x3 x4 x5 Q B11 h x6) n
noncomputable def wX1_judgePicks (S : Sh) (h : Hp) (a0 : Nat) (a1 : Nat) (x2 : Int32) (x3 : Int32) (x4 : Int32) (Q : Hp → Prop) : Prop :=
  (S a1).1 = 1 ∧
  (wX0_picksAt S h a1 x4 (fun r3 h3 =>
   (∃ n11, wX1_judgePicks_11 S a0 a1 x2 x3 x4 r3 Q n11 h3 (0 : Int32))))
noncomputable def wX1_statesAhead (S : Sh) (h : Hp) (a0 : Nat) (Q : Int32 → Hp → Prop) : Prop :=
  (S a0).1 = 2 ∧
  (((gI h a0 4) ≤ 0 →
   Q (1 : Int32) h) ∧
   (¬ (gI h a0 4) ≤ 0 →
    (S (gR h a0 1)).1 = 4 ∧
    inA S ((gR h (gR h a0 1) 0)) 25 (((gI h a0 4) - (1 : Int32))) ∧
    (S ((gR h ((gR h (gR h a0 1) 0)) (ix (((gI h a0 4) - (1 : Int32))))))).1 = 3 ∧
    Q ((gI h ((gR h ((gR h (gR h a0 1) 0)) (ix (((gI h a0 4) - (1 : Int32)))))) 12)) h))
noncomputable def wX7_clear (S : Sh) (h : Hp) (a0 : Nat) (Q : Hp → Prop) : Prop :=
  (S a0).1 = 8 ∧
  ∀ h2 : Hp, h2 = (pJ h a0 0 (0 : Int64)) →
  Q ((pJ h2 a0 1 (0 : Int64)))
noncomputable def wX1_judgeEvent_102b (S : Sh) (B2 : Hp → Int32 → Prop) (a0 : Nat) (a1 : Nat) (x2 : Int32) (x3 : Int32) (Q : Hp → Prop) (B102 : Hp → Int32 → Prop) (h : Hp) (x5 : Int32) : Prop :=
  (S a0).1 = 2 ∧
  (S (gR h a0 2)).1 = 3 ∧
  (((gI h (gR h a0 2) 12) ≤ x5 →
   (B2 h ((x3 + (1 : Int32))))) ∧
   (¬ (gI h (gR h a0 2) 12) ≤ x5 →
    (wX1_paired S h a0 x3 x5 (fun r118 h118 =>
     ((r118 = 0 →
      (B102 h118 ((x5 + (1 : Int32))))) ∧
      (¬ r118 = 0 →
       (wX1_judgePicks S h118 a0 a1 x2 x3 x5 (fun h130 =>
        (B102 h130 ((x5 + (1 : Int32))))))))))))
noncomputable def wX1_judgeEvent_102 (S : Sh) (B2 : Hp → Int32 → Prop) (a0 : Nat) (a1 : Nat) (x2 : Int32) (x3 : Int32) (Q : Hp → Prop) (n : Nat) : Hp → Int32 → Prop := Nat.rec (motive := fun _ => Hp → Int32 → Prop) (fun _ _ => False) (fun _ B102 h x5 => wX1_judgeEvent_102b S B2 a0 a1 x2 x3 Q B102 h x5) n
noncomputable def wX1_judgeEvent_j99 (S : Sh) (B2 : Hp → Int32 → Prop) (h : Hp) (a0 : Nat) (a1 : Nat) (x2 : Int32) (x3 : Int32) (Q : Hp → Prop) : Prop :=
  (∃ n102, wX1_judgeEvent_102 S B2 a0 a1 x2 x3 Q n102 h (0 : Int32))
noncomputable def wX1_judgeEvent_j86 (S : Sh) (B2 : Hp → Int32 → Prop) (h : Hp) (a0 : Nat) (a1 : Nat) (x2 : Int32) (x3 : Int32) (x4 : Int32) (Q : Hp → Prop) : Prop :=
  ((¬ x2 = (1 : Int32) →
   (wX1_judgeEvent_j99 S B2 h a0 a1 x2 x3 Q)) ∧
   (x2 = (1 : Int32) →
    ((x4 = 0 →
     (wX1_judgeEvent_j99 S B2 h a0 a1 x2 x3 Q)) ∧
     (¬ x4 = 0 →
      (B2 h ((x3 + (1 : Int32))))))))
noncomputable def wX1_judgeEvent_j84 (S : Sh) (B2 : Hp → Int32 → Prop) (h : Hp) (a0 : Nat) (a1 : Nat) (x2 : Int32) (x3 : Int32) (s0 : Int32) (Q : Hp → Prop) : Prop :=
  (wX1_judgeEvent_j86 S B2 h a0 a1 x2 x3 s0 Q)
noncomputable def wX1_judgeEvent_2b (S : Sh) (a0 : Nat) (a1 : Nat) (x2 : Int32) (Q : Hp → Prop) (B2 : Hp → Int32 → Prop) (h : Hp) (x3 : Int32) : Prop :=
  (S a0).1 = 2 ∧
  (wX1_statesAhead S h a0 (fun r4 h4 =>
   ((r4 ≤ x3 →
    Q h4) ∧
    (¬ r4 ≤ x3 →
     (S (gR h4 a0 0)).1 = 8 ∧
     (wX7_clear S h4 (gR h4 a0 0) (fun h14 =>
      (S a1).1 = 1 ∧
      (((gI h14 a1 5) = (-2 : Int32) →
       (wX1_judgeEvent_j86 S B2 h14 a0 a1 x2 x3 (1 : Int32) Q)) ∧
       (¬ (gI h14 a1 5) = (-2 : Int32) →
        (((gI h14 a0 4) ≤ 0 →
         (wX1_judgeEvent_j86 S B2 h14 a0 a1 x2 x3 (1 : Int32) Q)) ∧
         (¬ (gI h14 a0 4) ≤ 0 →
          (S (gR h14 a0 1)).1 = 4 ∧
          inA S ((gR h14 (gR h14 a0 1) 0)) 25 (((gI h14 a0 4) - (1 : Int32))) ∧
          (S ((gR h14 ((gR h14 (gR h14 a0 1) 0)) (ix (((gI h14 a0 4) - (1 : Int32))))))).1 = 3 ∧
          inA S ((gR h14 ((gR h14 ((gR h14 (gR h14 a0 1) 0)) (ix (((gI h14 a0 4) - (1 : Int32)))))) 5)) 24 (gI h14 a1 5) ∧
          ∀ av58 : Nat, av58 = (gR h14 ((gR h14 ((gR h14 ((gR h14 (gR h14 a0 1) 0)) (ix (((gI h14 a0 4) - (1 : Int32)))))) 5)) (ix (gI h14 a1 5))) →
          (S av58).1 = 1 ∧
          (wX0_putGiven S h14 av58 x3 (gR h14 a0 0) (fun h67 =>
           (wX0_picksAt S h67 av58 x3 (fun r73 h73 =>
            ((r73 = 0 →
             (wX1_judgeEvent_j84 S B2 h73 a0 a1 x2 x3 (0 : Int32) Q)) ∧
             (¬ r73 = 0 →
              (wX1_judgeEvent_j84 S B2 h73 a0 a1 x2 x3 (1 : Int32) Q)))))))))))))))))
noncomputable def wX1_judgeEvent_2 (S : Sh) (a0 : Nat) (a1 : Nat) (x2 : Int32) (Q : Hp → Prop) (n : Nat) : Hp → Int32 → Prop := Nat.rec (motive := fun _ => Hp → Int32 → Prop) (fun _ _ => False) (fun _ B2 h x3 => wX1_judgeEvent_2b S a0 a1 x2 Q B2 h x3) n
noncomputable def wX1_judgeEvent (S : Sh) (h : Hp) (a0 : Nat) (a1 : Nat) (x2 : Int32) (Q : Hp → Prop) : Prop :=
  (∃ n2, wX1_judgeEvent_2 S a0 a1 x2 Q n2 h (0 : Int32))
noncomputable def wX2_anyCan_2b (S : Sh) (a0 : Nat) (x1 : Int32) (Q : Int32 → Hp → Prop) (B2 : Hp → Int32 → Prop) (h : Hp) (x2 : Int32) : Prop :=
  (S a0).1 = 3 ∧
  (((gI h a0 14) ≤ x2 →
   Q (0 : Int32) h) ∧
   (¬ (gI h a0 14) ≤ x2 →
    inA S (gR h a0 5) 24 x2 ∧
    (S ((gR h (gR h a0 5) (ix x2)))).1 = 1 ∧
    (wX0_picksAt S h ((gR h (gR h a0 5) (ix x2))) x1 (fun r17 h17 =>
     ((r17 = 0 →
      (B2 h17 ((x2 + (1 : Int32))))) ∧
      (¬ r17 = 0 →
       Q (1 : Int32) h17))))))
noncomputable def wX2_anyCan_2 (S : Sh) (a0 : Nat) (x1 : Int32) (Q : Int32 → Hp → Prop) (n : Nat) : Hp → Int32 → Prop := Nat.rec (motive := fun _ => Hp → Int32 → Prop) (fun _ _ => False) (fun _ B2 h x2 => wX2_anyCan_2b S a0 x1 Q B2 h x2) n
noncomputable def wX2_anyCan (S : Sh) (h : Hp) (a0 : Nat) (x1 : Int32) (Q : Int32 → Hp → Prop) : Prop :=
  (∃ n2, wX2_anyCan_2 S a0 x1 Q n2 h (0 : Int32))
noncomputable def wX1_judgeGoingOn_43b (S : Sh) (B2 : Hp → Int32 → Prop) (a0 : Nat) (x1 : Int32) (Q : Hp → Prop) (B43 : Hp → Int32 → Prop) (h : Hp) (x2 : Int32) : Prop :=
  (S a0).1 = 2 ∧
  (S (gR h a0 2)).1 = 3 ∧
  (((gI h (gR h a0 2) 12) ≤ x2 →
   (B2 h ((x1 + (1 : Int32))))) ∧
   (¬ (gI h (gR h a0 2) 12) ≤ x2 →
    (wX1_paired S h a0 x1 x2 (fun r57 h57 =>
     ((r57 = 0 →
      (B43 h57 ((x2 + (1 : Int32))))) ∧
      (¬ r57 = 0 →
       (S (gR h57 a0 2)).1 = 3 ∧
       (wX2_anyCan S h57 (gR h57 a0 2) x2 (fun r68 h68 =>
        ((¬ r68 = 0 →
         (B43 h68 ((x2 + (1 : Int32))))) ∧
         (r68 = 0 →
          (S (gR h68 a0 3)).1 = 10 ∧
          (wX9_note S h68 (gR h68 a0 3) x1 x2 (0 : Int32) (fun h81 =>
           (B43 h81 ((x2 + (1 : Int32))))))))))))))))
noncomputable def wX1_judgeGoingOn_43 (S : Sh) (B2 : Hp → Int32 → Prop) (a0 : Nat) (x1 : Int32) (Q : Hp → Prop) (n : Nat) : Hp → Int32 → Prop := Nat.rec (motive := fun _ => Hp → Int32 → Prop) (fun _ _ => False) (fun _ B43 h x2 => wX1_judgeGoingOn_43b S B2 a0 x1 Q B43 h x2) n
noncomputable def wX1_judgeGoingOn_j41 (S : Sh) (B2 : Hp → Int32 → Prop) (h : Hp) (a0 : Nat) (x1 : Int32) (Q : Hp → Prop) : Prop :=
  (∃ n43, wX1_judgeGoingOn_43 S B2 a0 x1 Q n43 h (0 : Int32))
noncomputable def wX1_judgeGoingOn_2b (S : Sh) (a0 : Nat) (Q : Hp → Prop) (B2 : Hp → Int32 → Prop) (h : Hp) (x1 : Int32) : Prop :=
  (S a0).1 = 2 ∧
  (wX1_statesAhead S h a0 (fun r4 h4 =>
   ((r4 ≤ x1 →
    Q h4) ∧
    (¬ r4 ≤ x1 →
     (((gI h4 a0 4) ≤ 0 →
      (wX1_judgeGoingOn_j41 S B2 h4 a0 x1 Q)) ∧
      (¬ (gI h4 a0 4) ≤ 0 →
       (S (gR h4 a0 1)).1 = 4 ∧
       inA S ((gR h4 (gR h4 a0 1) 0)) 25 (((gI h4 a0 4) - (1 : Int32))) ∧
       (S ((gR h4 ((gR h4 (gR h4 a0 1) 0)) (ix (((gI h4 a0 4) - (1 : Int32))))))).1 = 3 ∧
       (wX2_anyCan S h4 ((gR h4 ((gR h4 (gR h4 a0 1) 0)) (ix (((gI h4 a0 4) - (1 : Int32)))))) x1 (fun r32 h32 =>
        ((¬ r32 = 0 →
         (wX1_judgeGoingOn_j41 S B2 h32 a0 x1 Q)) ∧
         (r32 = 0 →
          (B2 h32 ((x1 + (1 : Int32))))))))))))))
noncomputable def wX1_judgeGoingOn_2 (S : Sh) (a0 : Nat) (Q : Hp → Prop) (n : Nat) : Hp → Int32 → Prop := Nat.rec (motive := fun _ => Hp → Int32 → Prop) (fun _ _ => False) (fun _ B2 h x1 => wX1_judgeGoingOn_2b S a0 Q B2 h x1) n
noncomputable def wX1_judgeGoingOn (S : Sh) (h : Hp) (a0 : Nat) (Q : Hp → Prop) : Prop :=
  (∃ n2, wX1_judgeGoingOn_2 S a0 Q n2 h (0 : Int32))
noncomputable def wX9_clear (S : Sh) (h : Hp) (a0 : Nat) (Q : Hp → Prop) : Prop :=
  (S a0).1 = 10 ∧
  ∀ h2 : Hp, h2 = (pI h a0 0 (0 : Int32)) →
  Q ((pI h2 a0 1 (0 : Int32)))
noncomputable def wX1_verdictOn_j68 (S : Sh) (h : Hp) (a0 : Nat) (x3 : Int32) (x4 : Int32) (s0 : Nat) (s1 : Nat) (s2 : Int32) (Q : Nat → Hp → Prop) : Prop :=
  inA S s1 27 s2 ∧
  (S s0).1 = 2 ∧
  ∀ h69 : Hp, h69 = (pR h s0 3 ((gR h s1 (ix s2)))) →
  (S a0).1 = 2 ∧
  (S (gR h69 a0 3)).1 = 10 ∧
  (((gI h69 (gR h69 a0 3) 0) = 0 →
   (wX9_clear S h69 (gR h69 a0 3) (fun h91 =>
    ((¬ x4 = (3 : Int32) →
     ((¬ x4 = (4 : Int32) →
      (S (gR h91 a0 2)).1 = 3 ∧
      inA S ((gR h91 (gR h91 a0 2) 5)) 24 x3 ∧
      (wX1_concerns S h91 a0 x4 ((gR h91 ((gR h91 (gR h91 a0 2) 5)) (ix x3))) (fun r132 h132 =>
       ((r132 = 0 →
        (S (gR h132 a0 3)).1 = 10 ∧
        ∀ h158 : Hp, h158 = (pI h132 (gR h132 a0 3) 0 (1 : Int32)) →
        Q (gR h158 a0 3) h158) ∧
        (¬ r132 = 0 →
         (S (gR h132 a0 2)).1 = 3 ∧
         inA S ((gR h132 (gR h132 a0 2) 5)) 24 x3 ∧
         (wX1_judgeEvent S h132 a0 ((gR h132 ((gR h132 (gR h132 a0 2) 5)) (ix x3))) x4 (fun h150 =>
          (S (gR h150 a0 3)).1 = 10 ∧
          ∀ h158 : Hp, h158 = (pI h150 (gR h150 a0 3) 0 (1 : Int32)) →
          Q (gR h158 a0 3) h158))))))) ∧
      (x4 = (4 : Int32) →
       (wX1_judgeGoingOn S h91 a0 (fun h114 =>
        (S (gR h114 a0 3)).1 = 10 ∧
        ∀ h158 : Hp, h158 = (pI h114 (gR h114 a0 3) 0 (1 : Int32)) →
        Q (gR h158 a0 3) h158))))) ∧
     (x4 = (3 : Int32) →
      (wX1_judgeBegin S h91 a0 (fun h101 =>
       (S (gR h101 a0 3)).1 = 10 ∧
       ∀ h158 : Hp, h158 = (pI h101 (gR h101 a0 3) 0 (1 : Int32)) →
       Q (gR h158 a0 3) h158))))))) ∧
   (¬ (gI h69 (gR h69 a0 3) 0) = 0 →
    Q (gR h69 a0 3) h69))
noncomputable def wX1_verdictOn_j37 (S : Sh) (h : Hp) (a0 : Nat) (x3 : Int32) (x4 : Int32) (s0 : Int32) (Q : Nat → Hp → Prop) : Prop :=
  (S a0).1 = 2 ∧
  (S (gR h a0 2)).1 = 3 ∧
  ((s0 = 0 →
   (wX1_verdictOn_j68 S h a0 x3 x4 a0 ((gR h (gR h a0 2) 9)) (((x3 * (3 : Int32)) + x4)) Q)) ∧
   (¬ s0 = 0 →
    (wX1_verdictOn_j68 S h a0 x3 x4 a0 ((gR h (gR h a0 2) 9)) ((((12 : Int32) + x4) - (3 : Int32))) Q)))
noncomputable def wX1_verdictOn_j32 (S : Sh) (h : Hp) (a0 : Nat) (x3 : Int32) (x4 : Int32) (Q : Nat → Hp → Prop) : Prop :=
  (wX1_verdictOn_j37 S h a0 x3 x4 (1 : Int32) Q)
noncomputable def wX1_verdictOn (S : Sh) (h : Hp) (a0 : Nat) (a1 : Nat) (x2 : Int32) (x3 : Int32) (x4 : Int32) (Q : Nat → Hp → Prop) : Prop :=
  (S a0).1 = 2 ∧
  ∀ h2 : Hp, h2 = (pR h a0 1 a1) →
  ∀ h7 : Hp, h7 = (pI h2 a0 4 x2) →
  (S a1).1 = 4 ∧
  inA S (gR h7 a1 0) 25 x2 ∧
  ∀ h17 : Hp, h17 = (pR h7 a0 2 ((gR h7 (gR h7 a1 0) (ix x2)))) →
  ((x4 = (3 : Int32) →
   (wX1_verdictOn_j32 S h17 a0 x3 x4 Q)) ∧
   (¬ x4 = (3 : Int32) →
    ((¬ x4 = (4 : Int32) →
     (wX1_verdictOn_j37 S h17 a0 x3 x4 (0 : Int32) Q)) ∧
     (x4 = (4 : Int32) →
      (wX1_verdictOn_j32 S h17 a0 x3 x4 Q)))))
noncomputable def wX1_countOpen_67b (S : Sh) (a0 : Nat) (a1 : Nat) (x2 : Int32) (Q : Int32 → Hp → Prop) (B67 : Hp → Int32 → Int32 → Prop) (h : Hp) (x3 : Int32) (x4 : Int32) : Prop :=
  (((4 : Int32) < x4 →
   Q x3 h) ∧
   (¬ (4 : Int32) < x4 →
    (S a0).1 = 2 ∧
    (wX1_verdictOn S h a0 a1 x2 (0 : Int32) x4 (fun r80 h80 =>
     (S r80).1 = 10 ∧
     (((gI h80 r80 1) ≤ 0 →
      (B67 h80 ((x3 + (0 : Int32))) ((x4 + (1 : Int32))))) ∧
      (¬ (gI h80 r80 1) ≤ 0 →
       (B67 h80 ((x3 + (1 : Int32))) ((x4 + (1 : Int32))))))))))
noncomputable def wX1_countOpen_67 (S : Sh) (a0 : Nat) (a1 : Nat) (x2 : Int32) (Q : Int32 → Hp → Prop) (n : Nat) : Hp → Int32 → Int32 → Prop := Nat.rec (motive := fun _ => Hp → Int32 → Int32 → Prop) (fun _ _ _ => False) (fun _ B67 h x3 x4 => wX1_countOpen_67b S a0 a1 x2 Q B67 h x3 x4) n
noncomputable def wX1_countOpen_j64 (S : Sh) (h : Hp) (a0 : Nat) (a1 : Nat) (x2 : Int32) (x3 : Int32) (Q : Int32 → Hp → Prop) : Prop :=
  (∃ n67, wX1_countOpen_67 S a0 a1 x2 Q n67 h x3 (3 : Int32))
noncomputable def wX1_countOpen_22b (S : Sh) (B5 : Hp → Int32 → Int32 → Prop) (a0 : Nat) (a1 : Nat) (x2 : Int32) (x4 : Int32) (Q : Int32 → Hp → Prop) (B22 : Hp → Int32 → Int32 → Prop) (h : Hp) (x3 : Int32) (x5 : Int32) : Prop :=
  (((3 : Int32) ≤ x5 →
   (B5 h x3 ((x4 + (1 : Int32))))) ∧
   (¬ (3 : Int32) ≤ x5 →
    (S a0).1 = 2 ∧
    (wX1_verdictOn S h a0 a1 x2 x4 x5 (fun r36 h36 =>
     (S r36).1 = 10 ∧
     (((gI h36 r36 1) ≤ 0 →
      (B22 h36 ((x3 + (0 : Int32))) ((x5 + (1 : Int32))))) ∧
      (¬ (gI h36 r36 1) ≤ 0 →
       (B22 h36 ((x3 + (1 : Int32))) ((x5 + (1 : Int32))))))))))
noncomputable def wX1_countOpen_22 (S : Sh) (B5 : Hp → Int32 → Int32 → Prop) (a0 : Nat) (a1 : Nat) (x2 : Int32) (x4 : Int32) (Q : Int32 → Hp → Prop) (n : Nat) : Hp → Int32 → Int32 → Prop := Nat.rec (motive := fun _ => Hp → Int32 → Int32 → Prop) (fun _ _ _ => False) (fun _ B22 h x3 x5 => wX1_countOpen_22b S B5 a0 a1 x2 x4 Q B22 h x3 x5) n
noncomputable def wX1_countOpen_5b (S : Sh) (a0 : Nat) (a1 : Nat) (x2 : Int32) (Q : Int32 → Hp → Prop) (B5 : Hp → Int32 → Int32 → Prop) (h : Hp) (x3 : Int32) (x4 : Int32) : Prop :=
  (S a1).1 = 4 ∧
  inA S (gR h a1 0) 25 x2 ∧
  (S ((gR h (gR h a1 0) (ix x2)))).1 = 3 ∧
  (((gI h ((gR h (gR h a1 0) (ix x2))) 14) ≤ x4 →
   (wX1_countOpen_j64 S h a0 a1 x2 x3 Q)) ∧
   (¬ (gI h ((gR h (gR h a1 0) (ix x2))) 14) ≤ x4 →
    (∃ n22, wX1_countOpen_22 S B5 a0 a1 x2 x4 Q n22 h x3 (0 : Int32))))
noncomputable def wX1_countOpen_5 (S : Sh) (a0 : Nat) (a1 : Nat) (x2 : Int32) (Q : Int32 → Hp → Prop) (n : Nat) : Hp → Int32 → Int32 → Prop := Nat.rec (motive := fun _ => Hp → Int32 → Int32 → Prop) (fun _ _ _ => False) (fun _ B5 h x3 x4 => wX1_countOpen_5b S a0 a1 x2 Q B5 h x3 x4) n
noncomputable def wX1_countOpen (S : Sh) (h : Hp) (a0 : Nat) (a1 : Nat) (x2 : Int32) (Q : Int32 → Hp → Prop) : Prop :=
  (∃ n5, wX1_countOpen_5 S a0 a1 x2 Q n5 h (0 : Int32) (0 : Int32))
noncomputable def wX7_init (S : Sh) (h : Hp) (a0 : Nat) (Q : Hp → Prop) : Prop :=
  (S a0).1 ≠ 0 ∧
  Q h
noncomputable def wX1_init  (S : Sh) (z : Nat) (h : Hp) (a0 : Nat) (Q : Sh → Nat → Hp → Prop) : Prop :=
  (S a0).1 ≠ 0 ∧
  h0 h z ∧
  0 + 1 ≤ 1 ∧
  0 + 2 ≤ 2 ∧
  1 ≤ 1 ∧
  2 ≤ 2 ∧
  ((uS S z (8, 0)) z).1 ≠ 0 ∧
  (wX7_init ((uS S z (8, 0))) h z (fun h9 =>
   ((uS S z (8, 0)) a0).1 = 2 ∧
   1 ≤ 1 ∧ 2 ≤ 2 ∧ Q ((uS S z (8, 0))) (z + 1) (pR h9 a0 0 z)))
noncomputable def wX2_clear (S : Sh) (h : Hp) (a0 : Nat) (j1 : Int64) (Q : Hp → Prop) : Prop :=
  (S a0).1 = 3 ∧
  ∀ h2 : Hp, h2 = (pJ h a0 10 j1) →
  ∀ h7 : Hp, h7 = (pI h2 a0 11 (0 : Int32)) →
  ∀ h12 : Hp, h12 = (pI h7 a0 12 (1 : Int32)) →
  ∀ h17 : Hp, h17 = (pI h12 a0 13 (0 : Int32)) →
  ∀ h22 : Hp, h22 = (pI h17 a0 14 (0 : Int32)) →
  Q ((pI h22 a0 15 (-1 : Int32)))
noncomputable def wX2_countAside_4b (S : Sh) (a0 : Nat) (Q : Int32 → Hp → Prop) (B4 : Hp → Int32 → Int32 → Prop) (h : Hp) (x1 : Int32) (x2 : Int32) : Prop :=
  (S a0).1 = 3 ∧
  (((gI h a0 14) ≤ x2 →
   Q x1 h) ∧
   (¬ (gI h a0 14) ≤ x2 →
    inA S (gR h a0 5) 24 x2 ∧
    (S ((gR h (gR h a0 5) (ix x2)))).1 = 1 ∧
    (((gI h ((gR h (gR h a0 5) (ix x2))) 10) = 0 →
     (B4 h x1 ((x2 + (1 : Int32))))) ∧
     (¬ (gI h ((gR h (gR h a0 5) (ix x2))) 10) = 0 →
      (B4 h ((x1 + (1 : Int32))) ((x2 + (1 : Int32))))))))
noncomputable def wX2_countAside_4 (S : Sh) (a0 : Nat) (Q : Int32 → Hp → Prop) (n : Nat) : Hp → Int32 → Int32 → Prop := Nat.rec (motive := fun _ => Hp → Int32 → Int32 → Prop) (fun _ _ _ => False) (fun _ B4 h x1 x2 => wX2_countAside_4b S a0 Q B4 h x1 x2) n
noncomputable def wX2_countAside (S : Sh) (h : Hp) (a0 : Nat) (Q : Int32 → Hp → Prop) : Prop :=
  (∃ n4, wX2_countAside_4 S a0 Q n4 h (0 : Int32) (0 : Int32))
noncomputable def wX2_countNew_4b (S : Sh) (a0 : Nat) (Q : Int32 → Hp → Prop) (B4 : Hp → Int32 → Int32 → Prop) (h : Hp) (x1 : Int32) (x2 : Int32) : Prop :=
  (S a0).1 = 3 ∧
  (((gI h a0 14) ≤ x2 →
   Q x1 h) ∧
   (¬ (gI h a0 14) ≤ x2 →
    inA S (gR h a0 5) 24 x2 ∧
    (S ((gR h (gR h a0 5) (ix x2)))).1 = 1 ∧
    ((¬ (gI h ((gR h (gR h a0 5) (ix x2))) 5) = (-2 : Int32) →
     (B4 h x1 ((x2 + (1 : Int32))))) ∧
     ((gI h ((gR h (gR h a0 5) (ix x2))) 5) = (-2 : Int32) →
      (B4 h ((x1 + (1 : Int32))) ((x2 + (1 : Int32))))))))
noncomputable def wX2_countNew_4 (S : Sh) (a0 : Nat) (Q : Int32 → Hp → Prop) (n : Nat) : Hp → Int32 → Int32 → Prop := Nat.rec (motive := fun _ => Hp → Int32 → Int32 → Prop) (fun _ _ _ => False) (fun _ B4 h x1 x2 => wX2_countNew_4b S a0 Q B4 h x1 x2) n
noncomputable def wX2_countNew (S : Sh) (h : Hp) (a0 : Nat) (Q : Int32 → Hp → Prop) : Prop :=
  (∃ n4, wX2_countNew_4 S a0 Q n4 h (0 : Int32) (0 : Int32))
noncomputable def wX2_eventsFrom_4b (S : Sh) (a0 : Nat) (x1 : Int32) (Q : Int32 → Hp → Prop) (B4 : Hp → Int32 → Int32 → Prop) (h : Hp) (x2 : Int32) (x3 : Int32) : Prop :=
  (S a0).1 = 3 ∧
  (((gI h a0 14) ≤ x3 →
   Q x2 h) ∧
   (¬ (gI h a0 14) ≤ x3 →
    inA S (gR h a0 5) 24 x3 ∧
    (S ((gR h (gR h a0 5) (ix x3)))).1 = 1 ∧
    (wX0_stepsAt S h ((gR h (gR h a0 5) (ix x3))) x1 (fun r19 h19 =>
     ((r19 = 0 →
      (B4 h19 x2 ((x3 + (1 : Int32))))) ∧
      (¬ r19 = 0 →
       ∀ xv30 : Int32, xv30 = (x2 ||| (shl32 (1 : Int32) x3)) →
       (B4 h19 xv30 ((x3 + (1 : Int32))))))))))
noncomputable def wX2_eventsFrom_4 (S : Sh) (a0 : Nat) (x1 : Int32) (Q : Int32 → Hp → Prop) (n : Nat) : Hp → Int32 → Int32 → Prop := Nat.rec (motive := fun _ => Hp → Int32 → Int32 → Prop) (fun _ _ _ => False) (fun _ B4 h x2 x3 => wX2_eventsFrom_4b S a0 x1 Q B4 h x2 x3) n
noncomputable def wX2_eventsFrom (S : Sh) (h : Hp) (a0 : Nat) (x1 : Int32) (Q : Int32 → Hp → Prop) : Prop :=
  (∃ n4, wX2_eventsFrom_4 S a0 x1 Q n4 h (0 : Int32) (0 : Int32))
noncomputable def wX2_hasOtherLines_j22 (S : Sh) (h : Hp) (Q : Int32 → Hp → Prop) : Prop :=
  Q (1 : Int32) h
noncomputable def wX2_hasOtherLines (S : Sh) (h : Hp) (a0 : Nat) (Q : Int32 → Hp → Prop) : Prop :=
  (S a0).1 = 3 ∧
  ((0 < (gI h a0 13) →
   (wX2_hasOtherLines_j22 S h Q)) ∧
   (¬ 0 < (gI h a0 13) →
    ((0 < (gI h a0 14) →
     (wX2_hasOtherLines_j22 S h Q)) ∧
     (¬ 0 < (gI h a0 14) →
      (((gI h a0 15) = (-1 : Int32) →
       Q (0 : Int32) h) ∧
       (¬ (gI h a0 15) = (-1 : Int32) →
        (wX2_hasOtherLines_j22 S h Q)))))))
noncomputable def wX9_init (S : Sh) (h : Hp) (a0 : Nat) (Q : Hp → Prop) : Prop :=
  (S a0).1 ≠ 0 ∧
  Q h
noncomputable def wX2_init_136b (a0 : Nat) (Q : Sh → Nat → Hp → Prop) (B136 : Sh → Nat → Nat → Nat → Hp → Int32 → Prop) (S : Sh) (z nc ns : Nat) (h : Hp) (x1 : Int32) : Prop :=
  (((14 : Int32) ≤ x1 →
   nc ≤ 144 ∧ ns ≤ 5460 ∧ Q S z h) ∧
   (¬ (14 : Int32) ≤ x1 →
    (S a0).1 = 3 ∧
    h0 h z ∧
    nc + 1 ≤ 144 ∧
    ns + 5 ≤ 5460 ∧
    (nc + 1) ≤ 144 ∧
    (ns + 5) ≤ 5460 ∧
    ((uS S z (10, 0)) z).1 ≠ 0 ∧
    (wX9_init ((uS S z (10, 0))) h z (fun h151 =>
     inA (uS S z (10, 0)) (gR h a0 9) 27 x1 ∧
     ((uS S z (10, 0)) z).1 = 10 ∧
     (B136 ((uS S z (10, 0))) (z + 1) (nc + 1) (ns + 5) ((pR h151 (gR h a0 9) (ix x1) z)) ((x1 + (1 : Int32))))))))
noncomputable def wX2_init_136 (a0 : Nat) (Q : Sh → Nat → Hp → Prop) (n : Nat) : Sh → Nat → Nat → Nat → Hp → Int32 → Prop := Nat.rec (motive := fun _ => Sh → Nat → Nat → Nat → Hp → Int32 → Prop) (fun _ _ _ _ _ _ => False) (fun _ B136 S z nc ns h x1 => wX2_init_136b a0 Q B136 S z nc ns h x1) n
noncomputable def wX2_init_j134 (S : Sh) (z nc ns : Nat) (h : Hp) (a0 : Nat) (Q : Sh → Nat → Hp → Prop) : Prop :=
  (∃ n136, wX2_init_136 a0 Q n136 S z nc ns h (0 : Int32))
noncomputable def wX2_init_109b (a0 : Nat) (Q : Sh → Nat → Hp → Prop) (B109 : Sh → Nat → Nat → Nat → Hp → Int32 → Prop) (S : Sh) (z nc ns : Nat) (h : Hp) (x1 : Int32) : Prop :=
  (((100 : Int32) ≤ x1 →
   (wX2_init_j134 S z nc ns h a0 Q)) ∧
   (¬ (100 : Int32) ≤ x1 →
    (S a0).1 = 3 ∧
    h0 h z ∧
    nc + 1 ≤ 144 ∧
    ns + 2 ≤ 5460 ∧
    (nc + 1) ≤ 144 ∧
    (ns + 2) ≤ 5460 ∧
    ((uS S z (8, 0)) z).1 ≠ 0 ∧
    (wX7_init ((uS S z (8, 0))) h z (fun h124 =>
     inA (uS S z (8, 0)) (gR h a0 7) 26 x1 ∧
     ((uS S z (8, 0)) z).1 = 8 ∧
     (B109 ((uS S z (8, 0))) (z + 1) (nc + 1) (ns + 2) ((pR h124 (gR h a0 7) (ix x1) z)) ((x1 + (1 : Int32))))))))
noncomputable def wX2_init_109 (a0 : Nat) (Q : Sh → Nat → Hp → Prop) (n : Nat) : Sh → Nat → Nat → Nat → Hp → Int32 → Prop := Nat.rec (motive := fun _ => Sh → Nat → Nat → Nat → Hp → Int32 → Prop) (fun _ _ _ _ _ _ => False) (fun _ B109 S z nc ns h x1 => wX2_init_109b a0 Q B109 S z nc ns h x1) n
noncomputable def wX2_init_j107 (S : Sh) (z nc ns : Nat) (h : Hp) (a0 : Nat) (Q : Sh → Nat → Hp → Prop) : Prop :=
  (∃ n109, wX2_init_109 a0 Q n109 S z nc ns h (0 : Int32))
noncomputable def wX2_init_83b (a0 : Nat) (Q : Sh → Nat → Hp → Prop) (B83 : Sh → Nat → Nat → Nat → Hp → Int32 → Prop) (S : Sh) (z nc ns : Nat) (h : Hp) (x1 : Int32) : Prop :=
  (((4 : Int32) ≤ x1 →
   (wX2_init_j107 S z nc ns h a0 Q)) ∧
   (¬ (4 : Int32) ≤ x1 →
    (S a0).1 = 3 ∧
    h0 h z ∧
    nc + 1 ≤ 144 ∧
    ns + 11 ≤ 5460 ∧
    (nc + 1) + 4 ≤ 144 ∧
    (ns + 11) + 1203 ≤ 5460 ∧
    ((uS S z (1, 0)) z).1 ≠ 0 ∧
    (wX0_init ((uS S z (1, 0))) (z + 1) h z (fun S97 z97 h97 =>
     inA S97 (gR h a0 5) 24 x1 ∧
     (S97 z).1 = 1 ∧
     (B83 S97 z97 (nc + 5) (ns + 1214) ((pR h97 (gR h a0 5) (ix x1) z)) ((x1 + (1 : Int32))))))))
noncomputable def wX2_init_83 (a0 : Nat) (Q : Sh → Nat → Hp → Prop) (n : Nat) : Sh → Nat → Nat → Nat → Hp → Int32 → Prop := Nat.rec (motive := fun _ => Sh → Nat → Nat → Nat → Hp → Int32 → Prop) (fun _ _ _ _ _ _ => False) (fun _ B83 S z nc ns h x1 => wX2_init_83b a0 Q B83 S z nc ns h x1) n
noncomputable def wX2_init  (S : Sh) (z : Nat) (h : Hp) (a0 : Nat) (Q : Sh → Nat → Hp → Prop) : Prop :=
  (S a0).1 ≠ 0 ∧
  h0 h z ∧
  0 + 1 ≤ 144 ∧
  0 + 3 ≤ 5460 ∧
  ((uS S z (23, 3)) a0).1 = 3 ∧
  ∀ h8 : Hp, h8 = (pR h a0 0 z) →
  h0 h8 (z + 1) ∧
  1 + 1 ≤ 144 ∧
  3 + 3 ≤ 5460 ∧
  ((uS ((uS S z (23, 3))) (z + 1) (20, 3)) a0).1 = 3 ∧
  ∀ h15 : Hp, h15 = (pR h8 a0 1 (z + 1)) →
  h0 h15 (z + 2) ∧
  2 + 1 ≤ 144 ∧
  6 + 3 ≤ 5460 ∧
  ((uS ((uS ((uS S z (23, 3))) (z + 1) (20, 3))) (z + 2) (20, 3)) a0).1 = 3 ∧
  ∀ h22 : Hp, h22 = (pR h15 a0 2 (z + 2)) →
  h0 h22 (z + 3) ∧
  3 + 1 ≤ 144 ∧
  9 + 3 ≤ 5460 ∧
  ((uS ((uS ((uS ((uS S z (23, 3))) (z + 1) (20, 3))) (z + 2) (20, 3))) (z + 3) (20, 3)) a0).1 = 3 ∧
  ∀ h29 : Hp, h29 = (pR h22 a0 3 (z + 3)) →
  h0 h29 (z + 4) ∧
  4 + 1 ≤ 144 ∧
  12 + 4 ≤ 5460 ∧
  ((uS ((uS ((uS ((uS ((uS S z (23, 3))) (z + 1) (20, 3))) (z + 2) (20, 3))) (z + 3) (20, 3))) (z + 4) (20, 4)) a0).1 = 3 ∧
  ∀ h36 : Hp, h36 = (pR h29 a0 4 (z + 4)) →
  h0 h36 (z + 5) ∧
  5 + 1 ≤ 144 ∧
  16 + 4 ≤ 5460 ∧
  ((uS ((uS ((uS ((uS ((uS ((uS S z (23, 3))) (z + 1) (20, 3))) (z + 2) (20, 3))) (z + 3) (20, 3))) (z + 4) (20, 4))) (z + 5) (24, 4)) a0).1 = 3 ∧
  ∀ h44 : Hp, h44 = (pR h36 a0 5 (z + 5)) →
  h0 h44 (z + 6) ∧
  6 + 1 ≤ 144 ∧
  20 + 100 ≤ 5460 ∧
  ((uS ((uS ((uS ((uS ((uS ((uS ((uS S z (23, 3))) (z + 1) (20, 3))) (z + 2) (20, 3))) (z + 3) (20, 3))) (z + 4) (20, 4))) (z + 5) (24, 4))) (z + 6) (22, 100)) a0).1 = 3 ∧
  ∀ h52 : Hp, h52 = (pR h44 a0 6 (z + 6)) →
  h0 h52 (z + 7) ∧
  7 + 1 ≤ 144 ∧
  120 + 100 ≤ 5460 ∧
  ((uS ((uS ((uS ((uS ((uS ((uS ((uS ((uS S z (23, 3))) (z + 1) (20, 3))) (z + 2) (20, 3))) (z + 3) (20, 3))) (z + 4) (20, 4))) (z + 5) (24, 4))) (z + 6) (22, 100))) (z + 7) (26, 100)) a0).1 = 3 ∧
  ∀ h61 : Hp, h61 = (pR h52 a0 7 (z + 7)) →
  h0 h61 (z + 8) ∧
  8 + 1 ≤ 144 ∧
  220 + 100 ≤ 5460 ∧
  ((uS ((uS ((uS ((uS ((uS ((uS ((uS ((uS ((uS S z (23, 3))) (z + 1) (20, 3))) (z + 2) (20, 3))) (z + 3) (20, 3))) (z + 4) (20, 4))) (z + 5) (24, 4))) (z + 6) (22, 100))) (z + 7) (26, 100))) (z + 8) (20, 100)) a0).1 = 3 ∧
  ∀ h69 : Hp, h69 = (pR h61 a0 8 (z + 8)) →
  h0 h69 (z + 9) ∧
  9 + 1 ≤ 144 ∧
  320 + 14 ≤ 5460 ∧
  ((uS ((uS ((uS ((uS ((uS ((uS ((uS ((uS ((uS ((uS S z (23, 3))) (z + 1) (20, 3))) (z + 2) (20, 3))) (z + 3) (20, 3))) (z + 4) (20, 4))) (z + 5) (24, 4))) (z + 6) (22, 100))) (z + 7) (26, 100))) (z + 8) (20, 100))) (z + 9) (27, 14)) a0).1 = 3 ∧
  (∃ n83, wX2_init_83 a0 Q n83 ((uS ((uS ((uS ((uS ((uS ((uS ((uS ((uS ((uS ((uS S z (23, 3))) (z + 1) (20, 3))) (z + 2) (20, 3))) (z + 3) (20, 3))) (z + 4) (20, 4))) (z + 5) (24, 4))) (z + 6) (22, 100))) (z + 7) (26, 100))) (z + 8) (20, 100))) (z + 9) (27, 14))) (z + 10) 10 334 ((pR h69 a0 9 (z + 9))) (0 : Int32))
noncomputable def wX2_number_j31 (S : Sh) (h : Hp) (a0 : Nat) (x2 : Int32) (x3 : Int32) (Q : Int32 → Hp → Prop) : Prop :=
  (S a0).1 = 3 ∧
  inA S (gR h a0 1) 20 x2 ∧
  (wX2_span S h a0 x2 (fun r40 h40 =>
   ¬ r40 = 0 ∧
   Q (((gI h (gR h a0 1) (ix x2)) + (rem32 x3 r40))) h40))
noncomputable def wX2_number_10b (S : Sh) (a0 : Nat) (x2 : Int32) (Q : Int32 → Hp → Prop) (B10 : Hp → Int32 → Int32 → Prop) (h : Hp) (x3 : Int32) (x4 : Int32) : Prop :=
  ((x4 ≤ x2 →
   (wX2_number_j31 S h a0 x2 x3 Q)) ∧
   (¬ x4 ≤ x2 →
    (S a0).1 = 3 ∧
    (wX2_span S h a0 x4 (fun r20 h20 =>
     ¬ r20 = 0 ∧
     (B10 h20 (x3 / r20) ((x4 + (-1 : Int32))))))))
noncomputable def wX2_number_10 (S : Sh) (a0 : Nat) (x2 : Int32) (Q : Int32 → Hp → Prop) (n : Nat) : Hp → Int32 → Int32 → Prop := Nat.rec (motive := fun _ => Hp → Int32 → Int32 → Prop) (fun _ _ _ => False) (fun _ B10 h x3 x4 => wX2_number_10b S a0 x2 Q B10 h x3 x4) n
noncomputable def wX2_number (S : Sh) (h : Hp) (a0 : Nat) (x1 : Int32) (x2 : Int32) (Q : Int32 → Hp → Prop) : Prop :=
  (S a0).1 = 3 ∧
  ∀ xv8 : Int32, xv8 = ((gI h a0 11) - (1 : Int32)) →
  (∃ n10, wX2_number_10 S a0 x2 Q n10 h x1 xv8)
noncomputable def wX2_spread_11b (S : Sh) (a0 : Nat) (a2 : Nat) (x3 : Int32) (Q : Hp → Prop) (B11 : Hp → Int32 → Int32 → Prop) (h : Hp) (x4 : Int32) (x5 : Int32) : Prop :=
  ((x5 < 0 →
   Q h) ∧
   (¬ x5 < 0 →
    (S a0).1 = 3 ∧
    (wX2_span S h a0 x5 (fun r19 h19 =>
     inA S (gR h19 a0 1) 20 x5 ∧
     ¬ r19 = 0 ∧
     inA S a2 20 (x3 + x5) ∧
     (B11 ((pI h19 a2 (ix (x3 + x5)) (((gI h19 (gR h19 a0 1) (ix x5)) + (rem32 x4 r19))))) (x4 / r19) ((x5 + (-1 : Int32))))))))
noncomputable def wX2_spread_11 (S : Sh) (a0 : Nat) (a2 : Nat) (x3 : Int32) (Q : Hp → Prop) (n : Nat) : Hp → Int32 → Int32 → Prop := Nat.rec (motive := fun _ => Hp → Int32 → Int32 → Prop) (fun _ _ _ => False) (fun _ B11 h x4 x5 => wX2_spread_11b S a0 a2 x3 Q B11 h x4 x5) n
noncomputable def wX2_spread (S : Sh) (h : Hp) (a0 : Nat) (x1 : Int32) (a2 : Nat) (x3 : Int32) (Q : Hp → Prop) : Prop :=
  (S a0).1 = 3 ∧
  ∀ xv9 : Int32, xv9 = ((gI h a0 11) - (1 : Int32)) →
  (∃ n11, wX2_spread_11 S a0 a2 x3 Q n11 h x1 xv9)
noncomputable def wX2_told (S : Sh) (h : Hp) (a0 : Nat) (x1 : Int32) (Q : Int32 → Hp → Prop) : Prop :=
  ((x1 = (0 : Int32) →
   (S a0).1 = 3 ∧
   Q (gI h a0 11) h) ∧
   (¬ x1 = (0 : Int32) →
    ((x1 = (1 : Int32) →
     (S a0).1 = 3 ∧
     Q (gI h a0 13) h) ∧
     (¬ x1 = (1 : Int32) →
      ((x1 = (2 : Int32) →
       (S a0).1 = 3 ∧
       Q (gI h a0 14) h) ∧
       (¬ x1 = (2 : Int32) →
        ((x1 = (3 : Int32) →
         (S a0).1 = 3 ∧
         Q (gI h a0 12) h) ∧
         (¬ x1 = (3 : Int32) →
          ((x1 = (4 : Int32) →
           (S a0).1 = 3 ∧
           (wX2_beginState S h a0 (fun r69 h69 =>
            Q r69 h69))) ∧
           (¬ x1 = (4 : Int32) →
            ((x1 = (5 : Int32) →
             (S a0).1 = 3 ∧
             ((¬ (gI h a0 15) = (-1 : Int32) →
              Q (1 : Int32) h) ∧
              ((gI h a0 15) = (-1 : Int32) →
               Q (0 : Int32) h))) ∧
             (¬ x1 = (5 : Int32) →
              ((x1 = (6 : Int32) →
               (S a0).1 = 3 ∧
               Q (gI h a0 16) h) ∧
               (¬ x1 = (6 : Int32) →
                ((x1 = (7 : Int32) →
                 (S a0).1 = 3 ∧
                 Q (gI h a0 17) h) ∧
                 (¬ x1 = (7 : Int32) →
                  (S a0).1 = 3 ∧
                  (wX2_countNew S h a0 (fun r98 h98 =>
                   Q r98 h98))))))))))))))))))
noncomputable def wX3_clear_12b (S : Sh) (a0 : Nat) (Q : Hp → Prop) (B12 : Hp → Int32 → Prop) (h : Hp) (x1 : Int32) : Prop :=
  (((3 : Int32) ≤ x1 →
   Q h) ∧
   (¬ (3 : Int32) ≤ x1 →
    (S a0).1 = 4 ∧
    inA S (gR h a0 0) 25 x1 ∧
    (S ((gR h (gR h a0 0) (ix x1)))).1 = 3 ∧
    (wX2_clear S h ((gR h (gR h a0 0) (ix x1))) (0 : Int64) (fun h24 =>
     (B12 h24 ((x1 + (1 : Int32))))))))
noncomputable def wX3_clear_12 (S : Sh) (a0 : Nat) (Q : Hp → Prop) (n : Nat) : Hp → Int32 → Prop := Nat.rec (motive := fun _ => Hp → Int32 → Prop) (fun _ _ => False) (fun _ B12 h x1 => wX3_clear_12b S a0 Q B12 h x1) n
noncomputable def wX3_clear (S : Sh) (h : Hp) (a0 : Nat) (Q : Hp → Prop) : Prop :=
  (S a0).1 = 4 ∧
  ∀ h2 : Hp, h2 = (pI h a0 5 (0 : Int32)) →
  (∃ n12, wX3_clear_12 S a0 Q n12 ((pI h2 a0 6 (0 : Int32))) (0 : Int32))
noncomputable def wX3_emit (S : Sh) (h : Hp) (a0 : Nat) (x1 : Int32) (Q : Hp → Prop) : Prop :=
  (S a0).1 = 4 ∧
  (S (gR h a0 1)).1 = 20 ∧
  (((nI (S (gR h a0 1)).2) ≤ (gI h a0 6) →
   Q h) ∧
   (¬ (nI (S (gR h a0 1)).2) ≤ (gI h a0 6) →
    inA S (gR h a0 1) 20 (gI h a0 6) ∧
    ∀ h21 : Hp, h21 = (pI h (gR h a0 1) (ix (gI h a0 6)) x1) →
    Q ((pI h21 a0 6 (((gI h21 a0 6) + (1 : Int32)))))))
noncomputable def wX3_forgetVerdicts_12b (S : Sh) (B2 : Hp → Int32 → Prop) (a0 : Nat) (x1 : Int32) (Q : Hp → Prop) (B12 : Hp → Int32 → Prop) (h : Hp) (x2 : Int32) : Prop :=
  (((14 : Int32) ≤ x2 →
   (B2 h ((x1 + (1 : Int32))))) ∧
   (¬ (14 : Int32) ≤ x2 →
    (S a0).1 = 4 ∧
    inA S (gR h a0 0) 25 x1 ∧
    (S ((gR h (gR h a0 0) (ix x1)))).1 = 3 ∧
    inA S ((gR h ((gR h (gR h a0 0) (ix x1))) 9)) 27 x2 ∧
    (S ((gR h ((gR h ((gR h (gR h a0 0) (ix x1))) 9)) (ix x2)))).1 = 10 ∧
    (wX9_clear S h ((gR h ((gR h ((gR h (gR h a0 0) (ix x1))) 9)) (ix x2))) (fun h29 =>
     (B12 h29 ((x2 + (1 : Int32))))))))
noncomputable def wX3_forgetVerdicts_12 (S : Sh) (B2 : Hp → Int32 → Prop) (a0 : Nat) (x1 : Int32) (Q : Hp → Prop) (n : Nat) : Hp → Int32 → Prop := Nat.rec (motive := fun _ => Hp → Int32 → Prop) (fun _ _ => False) (fun _ B12 h x2 => wX3_forgetVerdicts_12b S B2 a0 x1 Q B12 h x2) n
noncomputable def wX3_forgetVerdicts_2b (S : Sh) (a0 : Nat) (Q : Hp → Prop) (B2 : Hp → Int32 → Prop) (h : Hp) (x1 : Int32) : Prop :=
  (S a0).1 = 4 ∧
  (((gI h a0 5) ≤ x1 →
   Q h) ∧
   (¬ (gI h a0 5) ≤ x1 →
    (∃ n12, wX3_forgetVerdicts_12 S B2 a0 x1 Q n12 h (0 : Int32))))
noncomputable def wX3_forgetVerdicts_2 (S : Sh) (a0 : Nat) (Q : Hp → Prop) (n : Nat) : Hp → Int32 → Prop := Nat.rec (motive := fun _ => Hp → Int32 → Prop) (fun _ _ => False) (fun _ B2 h x1 => wX3_forgetVerdicts_2b S a0 Q B2 h x1) n
noncomputable def wX3_forgetVerdicts (S : Sh) (h : Hp) (a0 : Nat) (Q : Hp → Prop) : Prop :=
  (∃ n2, wX3_forgetVerdicts_2 S a0 Q n2 h (0 : Int32))
noncomputable def wX3_init_46b (a0 : Nat) (Q : Sh → Nat → Hp → Prop) (B46 : Sh → Nat → Nat → Nat → Hp → Int32 → Prop) (S : Sh) (z nc ns : Nat) (h : Hp) (x1 : Int32) : Prop :=
  (((3 : Int32) ≤ x1 →
   nc ≤ 440 ∧ ns ≤ 17080 ∧ Q S z h) ∧
   (¬ (3 : Int32) ≤ x1 →
    (S a0).1 = 4 ∧
    h0 h z ∧
    nc + 1 ≤ 440 ∧
    ns + 18 ≤ 17080 ∧
    (nc + 1) + 144 ≤ 440 ∧
    (ns + 18) + 5460 ≤ 17080 ∧
    ((uS S z (3, 0)) z).1 ≠ 0 ∧
    (wX2_init ((uS S z (3, 0))) (z + 1) h z (fun S60 z60 h60 =>
     inA S60 (gR h a0 0) 25 x1 ∧
     (S60 z).1 = 3 ∧
     (B46 S60 z60 (nc + 145) (ns + 5478) ((pR h60 (gR h a0 0) (ix x1) z)) ((x1 + (1 : Int32))))))))
noncomputable def wX3_init_46 (a0 : Nat) (Q : Sh → Nat → Hp → Prop) (n : Nat) : Sh → Nat → Nat → Nat → Hp → Int32 → Prop := Nat.rec (motive := fun _ => Sh → Nat → Nat → Nat → Hp → Int32 → Prop) (fun _ _ _ _ _ _ => False) (fun _ B46 S z nc ns h x1 => wX3_init_46b a0 Q B46 S z nc ns h x1) n
noncomputable def wX3_init  (S : Sh) (z : Nat) (h : Hp) (a0 : Nat) (Q : Sh → Nat → Hp → Prop) : Prop :=
  (S a0).1 ≠ 0 ∧
  h0 h z ∧
  0 + 1 ≤ 440 ∧
  0 + 3 ≤ 17080 ∧
  ((uS S z (25, 3)) a0).1 = 4 ∧
  ∀ h9 : Hp, h9 = (pR h a0 0 z) →
  h0 h9 (z + 1) ∧
  1 + 1 ≤ 440 ∧
  3 + 601 ≤ 17080 ∧
  ((uS ((uS S z (25, 3))) (z + 1) (20, 601)) a0).1 = 4 ∧
  ∀ h18 : Hp, h18 = (pR h9 a0 1 (z + 1)) →
  h0 h18 (z + 2) ∧
  2 + 1 ≤ 440 ∧
  604 + 7 ≤ 17080 ∧
  ((uS ((uS ((uS S z (25, 3))) (z + 1) (20, 601))) (z + 2) (20, 7)) a0).1 = 4 ∧
  ∀ h26 : Hp, h26 = (pR h18 a0 2 (z + 2)) →
  h0 h26 (z + 3) ∧
  3 + 1 ≤ 440 ∧
  611 + 32 ≤ 17080 ∧
  ((uS ((uS ((uS ((uS S z (25, 3))) (z + 1) (20, 601))) (z + 2) (20, 7))) (z + 3) (20, 32)) a0).1 = 4 ∧
  ∀ h34 : Hp, h34 = (pR h26 a0 3 (z + 3)) →
  h0 h34 (z + 4) ∧
  4 + 1 ≤ 440 ∧
  643 + 3 ≤ 17080 ∧
  ((uS ((uS ((uS ((uS ((uS S z (25, 3))) (z + 1) (20, 601))) (z + 2) (20, 7))) (z + 3) (20, 32))) (z + 4) (20, 3)) a0).1 = 4 ∧
  (∃ n46, wX3_init_46 a0 Q n46 ((uS ((uS ((uS ((uS ((uS S z (25, 3))) (z + 1) (20, 601))) (z + 2) (20, 7))) (z + 3) (20, 32))) (z + 4) (20, 3))) (z + 5) 5 646 ((pR h34 a0 4 (z + 4))) (0 : Int32))
noncomputable def wX3_joined (S : Sh) (h : Hp) (x0 : Int32) (x1 : Int32) (x2 : Int32) (Q : Int32 → Hp → Prop) : Prop :=
  ((x0 = (42 : Int32) →
   Q (x1 * x2) h) ∧
   (¬ x0 = (42 : Int32) →
    ((x0 = (43 : Int32) →
     Q (x1 + x2) h) ∧
     (¬ x0 = (43 : Int32) →
      ((x0 = (45 : Int32) →
       Q (x1 - x2) h) ∧
       (¬ x0 = (45 : Int32) →
        ((x0 = (60 : Int32) →
         ((x2 ≤ x1 →
          Q (0 : Int32) h) ∧
          (¬ x2 ≤ x1 →
           Q (1 : Int32) h))) ∧
         (¬ x0 = (60 : Int32) →
          ((x0 = (61 : Int32) →
           ((¬ x1 = x2 →
            Q (0 : Int32) h) ∧
            (x1 = x2 →
             Q (1 : Int32) h))) ∧
           (¬ x0 = (61 : Int32) →
            ((x0 = (62 : Int32) →
             ((x1 ≤ x2 →
              Q (0 : Int32) h) ∧
              (¬ x1 ≤ x2 →
               Q (1 : Int32) h))) ∧
             (¬ x0 = (62 : Int32) →
              ((x0 = (413 : Int32) →
               Q (x1 &&& x2) h) ∧
               (¬ x0 = (413 : Int32) →
                Q (x1 ||| x2) h))))))))))))))
noncomputable def wX3_worth_j125 (S : Sh) (B4 : Hp → Int32 → Int32 → Prop) (h : Hp) (a0 : Nat) (x2 : Int32) (x3 : Int32) (x4 : Int32) (Q : Int32 → Hp → Prop) : Prop :=
  ((x2 < (2 : Int32) →
   (B4 h x2 ((x3 + (1 : Int32))))) ∧
   (¬ x2 < (2 : Int32) →
    (S a0).1 = 4 ∧
    inA S (gR h a0 3) 20 (((x2 + (-1 : Int32)) - (1 : Int32))) ∧
    inA S (gR h a0 3) 20 ((x2 + (-1 : Int32))) ∧
    (wX3_joined S h ((x4 - (2000 : Int32))) ((gI h (gR h a0 3) (ix (((x2 + (-1 : Int32)) - (1 : Int32)))))) ((gI h (gR h a0 3) (ix ((x2 + (-1 : Int32)))))) (fun r160 h160 =>
     (B4 ((pI h160 (gR h a0 3) (ix (((x2 + (-1 : Int32)) - (1 : Int32)))) r160)) ((x2 + (-1 : Int32))) ((x3 + (1 : Int32))))))))
noncomputable def wX3_worth_j84 (S : Sh) (B4 : Hp → Int32 → Int32 → Prop) (h : Hp) (a0 : Nat) (x2 : Int32) (x3 : Int32) (s0 : Nat) (s1 : Int32) (s2 : Int32) (Q : Int32 → Hp → Prop) : Prop :=
  inA S s0 20 s1 ∧
  (B4 ((pI h s0 (ix s1) s2)) ((x2 + (1 : Int32))) ((x3 + (1 : Int32))))
noncomputable def wX3_worth_4b (S : Sh) (a0 : Nat) (Q : Int32 → Hp → Prop) (B4 : Hp → Int32 → Int32 → Prop) (h : Hp) (x2 : Int32) (x3 : Int32) : Prop :=
  ((x3 < 0 →
   (S a0).1 = 4 ∧
   inA S (gR h a0 3) 20 (0 : Int32) ∧
   Q ((gI h (gR h a0 3) (ix (0 : Int32)))) h) ∧
   (¬ x3 < 0 →
    (S a0).1 = 4 ∧
    (((gI h a0 6) ≤ x3 →
     inA S (gR h a0 3) 20 (0 : Int32) ∧
     Q ((gI h (gR h a0 3) (ix (0 : Int32)))) h) ∧
     (¬ (gI h a0 6) ≤ x3 →
      inA S (gR h a0 1) 20 x3 ∧
      (((gI h (gR h a0 1) (ix x3)) = (3000 : Int32) →
       inA S (gR h a0 3) 20 (0 : Int32) ∧
       Q ((gI h (gR h a0 3) (ix (0 : Int32)))) h) ∧
       (¬ (gI h (gR h a0 1) (ix x3)) = (3000 : Int32) →
        ∀ xv34 : Int32, xv34 = (gI h (gR h a0 1) (ix x3)) →
        (((2000 : Int32) ≤ xv34 →
         ((¬ xv34 = (2414 : Int32) →
          (wX3_worth_j125 S B4 h a0 x2 x3 xv34 Q)) ∧
          (xv34 = (2414 : Int32) →
           ((x2 < (1 : Int32) →
            (wX3_worth_j125 S B4 h a0 x2 x3 xv34 Q)) ∧
            (¬ x2 < (1 : Int32) →
             inA S (gR h a0 3) 20 ((x2 - (1 : Int32))) ∧
             (B4 ((pI h (gR h a0 3) (ix ((x2 - (1 : Int32)))) (((1 : Int32) - (gI h (gR h a0 3) (ix ((x2 - (1 : Int32))))))))) x2 ((x3 + (1 : Int32))))))))) ∧
         (¬ (2000 : Int32) ≤ xv34 →
          (S (gR h a0 3)).1 = 20 ∧
          ((x2 < (nI (S (gR h a0 3)).2) →
           (((1000 : Int32) ≤ xv34 →
            inA S (gR h a0 2) 20 ((xv34 - (1000 : Int32))) ∧
            (wX3_worth_j84 S B4 h a0 x2 x3 (gR h a0 3) x2 ((gI h (gR h a0 2) (ix ((xv34 - (1000 : Int32)))))) Q)) ∧
            (¬ (1000 : Int32) ≤ xv34 →
             (wX3_worth_j84 S B4 h a0 x2 x3 (gR h a0 3) x2 xv34 Q)))) ∧
           (¬ x2 < (nI (S (gR h a0 3)).2) →
            Q (0 : Int32) h))))))))))
noncomputable def wX3_worth_4 (S : Sh) (a0 : Nat) (Q : Int32 → Hp → Prop) (n : Nat) : Hp → Int32 → Int32 → Prop := Nat.rec (motive := fun _ => Hp → Int32 → Int32 → Prop) (fun _ _ _ => False) (fun _ B4 h x2 x3 => wX3_worth_4b S a0 Q B4 h x2 x3) n
noncomputable def wX3_worth (S : Sh) (h : Hp) (a0 : Nat) (x1 : Int32) (Q : Int32 → Hp → Prop) : Prop :=
  (∃ n4, wX3_worth_4 S a0 Q n4 h (0 : Int32) x1)
noncomputable def wX3_lawsHold_2b (S : Sh) (a0 : Nat) (a1 : Nat) (Q : Int32 → Hp → Prop) (B2 : Hp → Int32 → Prop) (h : Hp) (x2 : Int32) : Prop :=
  (S a1).1 = 3 ∧
  (((gI h a1 13) ≤ x2 →
   Q (1 : Int32) h) ∧
   (¬ (gI h a1 13) ≤ x2 →
    inA S (gR h a1 4) 20 x2 ∧
    (S a0).1 = 4 ∧
    (wX3_worth S h a0 ((gI h (gR h a1 4) (ix x2))) (fun r17 h17 =>
     ((¬ r17 = 0 →
      (B2 h17 ((x2 + (1 : Int32))))) ∧
      (r17 = 0 →
       Q (0 : Int32) h17))))))
noncomputable def wX3_lawsHold_2 (S : Sh) (a0 : Nat) (a1 : Nat) (Q : Int32 → Hp → Prop) (n : Nat) : Hp → Int32 → Prop := Nat.rec (motive := fun _ => Hp → Int32 → Prop) (fun _ _ => False) (fun _ B2 h x2 => wX3_lawsHold_2b S a0 a1 Q B2 h x2) n
noncomputable def wX3_lawsHold (S : Sh) (h : Hp) (a0 : Nat) (a1 : Nat) (Q : Int32 → Hp → Prop) : Prop :=
  (∃ n2, wX3_lawsHold_2 S a0 a1 Q n2 h (0 : Int32))
noncomputable def wX3_stateGiven_j26 (S : Sh) (B2 : Hp → Int32 → Prop) (h : Hp) (a0 : Nat) (a1 : Nat) (a2 : Nat) (x3 : Int32) (s0 : Int32) (Q : Int32 → Hp → Prop) : Prop :=
  (S a0).1 = 4 ∧
  ((s0 = 0 →
   inA S (gR h a0 2) 20 x3 ∧
   inA S (gR h a0 4) 20 x3 ∧
   (B2 ((pI h (gR h a0 4) (ix x3) ((gI h (gR h a0 2) (ix x3))))) ((x3 + (1 : Int32))))) ∧
   (¬ s0 = 0 →
    (S a2).1 = 1 ∧
    inA S (gR h a2 0) 20 x3 ∧
    (wX3_worth S h a0 ((gI h (gR h a2 0) (ix x3))) (fun r45 h45 =>
     inA S (gR h a0 4) 20 x3 ∧
     (B2 ((pI h45 (gR h a0 4) (ix x3) r45)) ((x3 + (1 : Int32))))))))
noncomputable def wX3_stateGiven_2b (S : Sh) (a0 : Nat) (a1 : Nat) (a2 : Nat) (Q : Int32 → Hp → Prop) (B2 : Hp → Int32 → Prop) (h : Hp) (x3 : Int32) : Prop :=
  (S a1).1 = 3 ∧
  (((gI h a1 11) ≤ x3 →
   (S a0).1 = 4 ∧
   (wX2_stateOf S h a1 (gR h a0 4) (0 : Int32) (fun r70 h70 =>
    Q r70 h70))) ∧
   (¬ (gI h a1 11) ≤ x3 →
    (S a2).1 = 1 ∧
    ((((shr32 (gI h a2 8) x3) &&& (1 : Int32)) = 0 →
     (wX3_stateGiven_j26 S B2 h a0 a1 a2 x3 (0 : Int32) Q)) ∧
     (¬ ((shr32 (gI h a2 8) x3) &&& (1 : Int32)) = 0 →
      (wX3_stateGiven_j26 S B2 h a0 a1 a2 x3 (1 : Int32) Q)))))
noncomputable def wX3_stateGiven_2 (S : Sh) (a0 : Nat) (a1 : Nat) (a2 : Nat) (Q : Int32 → Hp → Prop) (n : Nat) : Hp → Int32 → Prop := Nat.rec (motive := fun _ => Hp → Int32 → Prop) (fun _ _ => False) (fun _ B2 h x3 => wX3_stateGiven_2b S a0 a1 a2 Q B2 h x3) n
noncomputable def wX3_stateGiven (S : Sh) (h : Hp) (a0 : Nat) (a1 : Nat) (a2 : Nat) (Q : Int32 → Hp → Prop) : Prop :=
  (∃ n2, wX3_stateGiven_2 S a0 a1 a2 Q n2 h (0 : Int32))
noncomputable def wX3_settleEvent_j65 (S : Sh) (B2 : Hp → Int32 → Prop) (B31 : Hp → Int32 → Prop) (h : Hp) (a0 : Nat) (a1 : Nat) (a2 : Nat) (x3 : Int32) (x4 : Int32) (s0 : Int32) (Q : Hp → Prop) : Prop :=
  (S a2).1 = 1 ∧
  (S a0).1 = 4 ∧
  (wX3_stateGiven S h a0 a1 a2 (fun r81 h81 =>
   (wX0_settleAt S h81 a2 x3 ((x4 - (gI h a2 6))) s0 r81 (fun h84 =>
    (B31 h84 ((x4 + (1 : Int32))))))))
noncomputable def wX3_settleEvent_31b (S : Sh) (B2 : Hp → Int32 → Prop) (a0 : Nat) (a1 : Nat) (a2 : Nat) (x3 : Int32) (Q : Hp → Prop) (B31 : Hp → Int32 → Prop) (h : Hp) (x4 : Int32) : Prop :=
  (S a2).1 = 1 ∧
  (((gI h a2 7) < x4 →
   (B2 h ((x3 + (1 : Int32))))) ∧
   (¬ (gI h a2 7) < x4 →
    (S a0).1 = 4 ∧
    inA S (gR h a0 2) 20 (6 : Int32) ∧
    ∀ h48 : Hp, h48 = (pI h (gR h a0 2) (ix (6 : Int32)) x4) →
    (wX3_worth S h48 a0 (gI h48 a2 9) (fun r54 h54 =>
     ((r54 = 0 →
      (wX3_settleEvent_j65 S B2 B31 h54 a0 a1 a2 x3 x4 (0 : Int32) Q)) ∧
      (¬ r54 = 0 →
       (wX3_settleEvent_j65 S B2 B31 h54 a0 a1 a2 x3 x4 (1 : Int32) Q)))))))
noncomputable def wX3_settleEvent_31 (S : Sh) (B2 : Hp → Int32 → Prop) (a0 : Nat) (a1 : Nat) (a2 : Nat) (x3 : Int32) (Q : Hp → Prop) (n : Nat) : Hp → Int32 → Prop := Nat.rec (motive := fun _ => Hp → Int32 → Prop) (fun _ _ => False) (fun _ B31 h x4 => wX3_settleEvent_31b S B2 a0 a1 a2 x3 Q B31 h x4) n
noncomputable def wX3_settleEvent_2b (S : Sh) (a0 : Nat) (a1 : Nat) (a2 : Nat) (Q : Hp → Prop) (B2 : Hp → Int32 → Prop) (h : Hp) (x3 : Int32) : Prop :=
  (S a1).1 = 3 ∧
  (((gI h a1 12) ≤ x3 →
   Q h) ∧
   (¬ (gI h a1 12) ≤ x3 →
    (S a2).1 = 1 ∧
    (wX0_forget S h a2 x3 (fun h12 =>
     (S a0).1 = 4 ∧
     (wX2_spread S h12 a1 x3 (gR h12 a0 2) (0 : Int32) (fun h22 =>
      (∃ n31, wX3_settleEvent_31 S B2 a0 a1 a2 x3 Q n31 h22 (gI h22 a2 6))))))))
noncomputable def wX3_settleEvent_2 (S : Sh) (a0 : Nat) (a1 : Nat) (a2 : Nat) (Q : Hp → Prop) (n : Nat) : Hp → Int32 → Prop := Nat.rec (motive := fun _ => Hp → Int32 → Prop) (fun _ _ => False) (fun _ B2 h x3 => wX3_settleEvent_2b S a0 a1 a2 Q B2 h x3) n
noncomputable def wX3_settleEvent (S : Sh) (h : Hp) (a0 : Nat) (a1 : Nat) (a2 : Nat) (Q : Hp → Prop) : Prop :=
  (∃ n2, wX3_settleEvent_2 S a0 a1 a2 Q n2 h (0 : Int32))
noncomputable def wX3_settleFirst_12b (S : Sh) (a0 : Nat) (a1 : Nat) (Q : Hp → Prop) (B12 : Hp → Int32 → Prop) (h : Hp) (x2 : Int32) : Prop :=
  (S a1).1 = 3 ∧
  (((gI h a1 12) ≤ x2 →
   Q h) ∧
   (¬ (gI h a1 12) ≤ x2 →
    (S a0).1 = 4 ∧
    (wX2_spread S h a1 x2 (gR h a0 2) (0 : Int32) (fun h27 =>
     (wX3_lawsHold S h27 a0 a1 (fun r37 h37 =>
      inA S (gR h27 a1 6) 22 x2 ∧
      ∀ h40 : Hp, h40 = (pI h37 (gR h27 a1 6) (ix x2) (r37 &&& 1)) →
      inA S (gR h40 a1 6) 22 x2 ∧
      (((gI h40 (gR h40 a1 6) (ix x2)) = 0 →
       (B12 ((pI h40 a1 16 (((gI h40 a1 16) + (0 : Int32))))) ((x2 + (1 : Int32))))) ∧
       (¬ (gI h40 (gR h40 a1 6) (ix x2)) = 0 →
        (B12 ((pI h40 a1 16 (((gI h40 a1 16) + (1 : Int32))))) ((x2 + (1 : Int32))))))))))))
noncomputable def wX3_settleFirst_12 (S : Sh) (a0 : Nat) (a1 : Nat) (Q : Hp → Prop) (n : Nat) : Hp → Int32 → Prop := Nat.rec (motive := fun _ => Hp → Int32 → Prop) (fun _ _ => False) (fun _ B12 h x2 => wX3_settleFirst_12b S a0 a1 Q B12 h x2) n
noncomputable def wX3_settleFirst (S : Sh) (h : Hp) (a0 : Nat) (a1 : Nat) (Q : Hp → Prop) : Prop :=
  (S a1).1 = 3 ∧
  ∀ h2 : Hp, h2 = (pI h a1 16 (0 : Int32)) →
  (∃ n12, wX3_settleFirst_12 S a0 a1 Q n12 ((pI h2 a1 17 (0 : Int32))) (0 : Int32))
noncomputable def wX7_count (S : Sh) (h : Hp) (a0 : Nat) (Q : Int32 → Hp → Prop) : Prop :=
  (S a0).1 = 8 ∧
  (wJ13_bitCount_95d88 S h (gJ h a0 0) (fun r4 h4 =>
   (wJ13_bitCount_95d88 S h4 (gJ h4 a0 1) (fun r11 h11 =>
    Q (r4 + r11) h11))))
noncomputable def wX3_settleGlue_j133 (S : Sh) (B12 : Hp → Int32 → Prop) (h : Hp) (a0 : Nat) (a1 : Nat) (a2 : Nat) (x3 : Int32) (x5 : Int32) (s0 : Nat) (s1 : Int32) (s2 : Int32) (Q : Hp → Prop) : Prop :=
  inA S s0 22 s1 ∧
  ∀ h133 : Hp, h133 = (pI h s0 (ix s1) (s2 &&& 1)) →
  (S a2).1 = 3 ∧
  ((x5 ≤ 0 →
   (B12 ((pI h133 a2 16 (((gI h133 a2 16) + (0 : Int32))))) ((x3 + (1 : Int32))))) ∧
   (¬ x5 ≤ 0 →
    (B12 ((pI h133 a2 16 (((gI h133 a2 16) + (1 : Int32))))) ((x3 + (1 : Int32))))))
noncomputable def wX3_settleGlue_j100 (S : Sh) (B12 : Hp → Int32 → Prop) (h : Hp) (a0 : Nat) (a1 : Nat) (a2 : Nat) (x3 : Int32) (a4 : Nat) (Q : Hp → Prop) : Prop :=
  (S a4).1 = 8 ∧
  (wX7_count S h a4 (fun r102 h102 =>
   (S a2).1 = 3 ∧
   ∀ h115 : Hp, h115 = (pI h102 a2 17 (((gI h102 a2 17) + r102))) →
   ((r102 ≤ 0 →
    (wX3_settleGlue_j133 S B12 h115 a0 a1 a2 x3 r102 (gR h115 a2 6) x3 (0 : Int32) Q)) ∧
    (¬ r102 ≤ 0 →
     (wX3_settleGlue_j133 S B12 h115 a0 a1 a2 x3 r102 (gR h115 a2 6) x3 (1 : Int32) Q)))))
noncomputable def wX3_settleGlue_46b (S : Sh) (B12 : Hp → Int32 → Prop) (a0 : Nat) (a1 : Nat) (a2 : Nat) (x3 : Int32) (a4 : Nat) (Q : Hp → Prop) (B46 : Hp → Int32 → Prop) (h : Hp) (x5 : Int32) : Prop :=
  (S a1).1 = 3 ∧
  (((gI h a1 12) ≤ x5 →
   (wX3_settleGlue_j100 S B12 h a0 a1 a2 x3 a4 Q)) ∧
   (¬ (gI h a1 12) ≤ x5 →
    inA S (gR h a1 6) 22 x5 ∧
    ((¬ (gI h (gR h a1 6) (ix x5)) = 0 →
     (S a0).1 = 4 ∧
     (wX2_spread S h a1 x5 (gR h a0 2) (3 : Int32) (fun h76 =>
      (wX3_lawsHold S h76 a0 a2 (fun r81 h81 =>
       ((r81 = 0 →
        (B46 h81 ((x5 + (1 : Int32))))) ∧
        (¬ r81 = 0 →
         (S a4).1 = 8 ∧
         (wX7_put S h81 a4 x5 (fun h91 =>
          (B46 h91 ((x5 + (1 : Int32))))))))))))) ∧
     ((gI h (gR h a1 6) (ix x5)) = 0 →
      (B46 h ((x5 + (1 : Int32))))))))
noncomputable def wX3_settleGlue_46 (S : Sh) (B12 : Hp → Int32 → Prop) (a0 : Nat) (a1 : Nat) (a2 : Nat) (x3 : Int32) (a4 : Nat) (Q : Hp → Prop) (n : Nat) : Hp → Int32 → Prop := Nat.rec (motive := fun _ => Hp → Int32 → Prop) (fun _ _ => False) (fun _ B46 h x5 => wX3_settleGlue_46b S B12 a0 a1 a2 x3 a4 Q B46 h x5) n
noncomputable def wX3_settleGlue_12b (S : Sh) (a0 : Nat) (a1 : Nat) (a2 : Nat) (Q : Hp → Prop) (B12 : Hp → Int32 → Prop) (h : Hp) (x3 : Int32) : Prop :=
  (S a2).1 = 3 ∧
  (((gI h a2 12) ≤ x3 →
   Q h) ∧
   (¬ (gI h a2 12) ≤ x3 →
    inA S (gR h a2 7) 26 x3 ∧
    ∀ av26 : Nat, av26 = (gR h (gR h a2 7) (ix x3)) →
    (S av26).1 = 8 ∧
    (wX7_clear S h av26 (fun h30 =>
     (S a0).1 = 4 ∧
     (wX2_spread S h30 a2 x3 (gR h30 a0 2) (0 : Int32) (fun h40 =>
      (∃ n46, wX3_settleGlue_46 S B12 a0 a1 a2 x3 av26 Q n46 h40 (0 : Int32))))))))
noncomputable def wX3_settleGlue_12 (S : Sh) (a0 : Nat) (a1 : Nat) (a2 : Nat) (Q : Hp → Prop) (n : Nat) : Hp → Int32 → Prop := Nat.rec (motive := fun _ => Hp → Int32 → Prop) (fun _ _ => False) (fun _ B12 h x3 => wX3_settleGlue_12b S a0 a1 a2 Q B12 h x3) n
noncomputable def wX3_settleGlue (S : Sh) (h : Hp) (a0 : Nat) (a1 : Nat) (a2 : Nat) (Q : Hp → Prop) : Prop :=
  (S a2).1 = 3 ∧
  ∀ h2 : Hp, h2 = (pI h a2 16 (0 : Int32)) →
  (∃ n12, wX3_settleGlue_12 S a0 a1 a2 Q n12 ((pI h2 a2 17 (0 : Int32))) (0 : Int32))
noncomputable def wX3_settleVariants_11b (S : Sh) (a0 : Nat) (a1 : Nat) (Q : Hp → Prop) (B11 : Hp → Int32 → Prop) (h : Hp) (x2 : Int32) : Prop :=
  (S a1).1 = 3 ∧
  (((gI h a1 12) ≤ x2 →
   Q h) ∧
   (¬ (gI h a1 12) ≤ x2 →
    (S a0).1 = 4 ∧
    (wX2_spread S h a1 x2 (gR h a0 2) (0 : Int32) (fun h26 =>
     (wX3_worth S h26 a0 (gI h26 a1 15) (fun r39 h39 =>
      inA S (gR h26 a1 8) 20 x2 ∧
      (B11 ((pI h39 (gR h26 a1 8) (ix x2) r39)) ((x2 + (1 : Int32))))))))))
noncomputable def wX3_settleVariants_11 (S : Sh) (a0 : Nat) (a1 : Nat) (Q : Hp → Prop) (n : Nat) : Hp → Int32 → Prop := Nat.rec (motive := fun _ => Hp → Int32 → Prop) (fun _ _ => False) (fun _ B11 h x2 => wX3_settleVariants_11b S a0 a1 Q B11 h x2) n
noncomputable def wX3_settleVariants (S : Sh) (h : Hp) (a0 : Nat) (a1 : Nat) (Q : Hp → Prop) : Prop :=
  (S a1).1 = 3 ∧
  ((¬ (gI h a1 15) = (-1 : Int32) →
   (∃ n11, wX3_settleVariants_11 S a0 a1 Q n11 h (0 : Int32))) ∧
   ((gI h a1 15) = (-1 : Int32) →
    Q h))
noncomputable def wX3_settle_57b (S : Sh) (B2 : Hp → Int32 → Prop) (a0 : Nat) (x1 : Int32) (Q : Hp → Prop) (B57 : Hp → Int32 → Prop) (h : Hp) (x2 : Int32) : Prop :=
  (S a0).1 = 4 ∧
  inA S (gR h a0 0) 25 x1 ∧
  (S ((gR h (gR h a0 0) (ix x1)))).1 = 3 ∧
  (((gI h ((gR h (gR h a0 0) (ix x1))) 14) ≤ x2 →
   (B2 h ((x1 + (1 : Int32))))) ∧
   (¬ (gI h ((gR h (gR h a0 0) (ix x1))) 14) ≤ x2 →
    inA S ((gR h ((gR h (gR h a0 0) (ix x1))) 5)) 24 x2 ∧
    (wX3_settleEvent S h a0 ((gR h (gR h a0 0) (ix x1))) ((gR h ((gR h ((gR h (gR h a0 0) (ix x1))) 5)) (ix x2))) (fun h88 =>
     (B57 h88 ((x2 + (1 : Int32))))))))
noncomputable def wX3_settle_57 (S : Sh) (B2 : Hp → Int32 → Prop) (a0 : Nat) (x1 : Int32) (Q : Hp → Prop) (n : Nat) : Hp → Int32 → Prop := Nat.rec (motive := fun _ => Hp → Int32 → Prop) (fun _ _ => False) (fun _ B57 h x2 => wX3_settle_57b S B2 a0 x1 Q B57 h x2) n
noncomputable def wX3_settle_j45 (S : Sh) (B2 : Hp → Int32 → Prop) (h : Hp) (a0 : Nat) (x1 : Int32) (Q : Hp → Prop) : Prop :=
  (S a0).1 = 4 ∧
  inA S (gR h a0 0) 25 x1 ∧
  (wX3_settleVariants S h a0 ((gR h (gR h a0 0) (ix x1))) (fun h52 =>
   (∃ n57, wX3_settle_57 S B2 a0 x1 Q n57 h52 (0 : Int32))))
noncomputable def wX3_settle_2b (S : Sh) (a0 : Nat) (Q : Hp → Prop) (B2 : Hp → Int32 → Prop) (h : Hp) (x1 : Int32) : Prop :=
  (S a0).1 = 4 ∧
  (((gI h a0 5) ≤ x1 →
   (wX3_forgetVerdicts S h a0 (fun h104 =>
    Q h104))) ∧
   (¬ (gI h a0 5) ≤ x1 →
    ((¬ x1 = 0 →
     inA S (gR h a0 0) 25 ((x1 - (1 : Int32))) ∧
     inA S (gR h a0 0) 25 x1 ∧
     (wX3_settleGlue S h a0 ((gR h (gR h a0 0) (ix ((x1 - (1 : Int32)))))) ((gR h (gR h a0 0) (ix x1))) (fun h42 =>
      (wX3_settle_j45 S B2 h42 a0 x1 Q)))) ∧
     (x1 = 0 →
      inA S (gR h a0 0) 25 (0 : Int32) ∧
      (wX3_settleFirst S h a0 ((gR h (gR h a0 0) (ix (0 : Int32)))) (fun h21 =>
       (wX3_settle_j45 S B2 h21 a0 x1 Q)))))))
noncomputable def wX3_settle_2 (S : Sh) (a0 : Nat) (Q : Hp → Prop) (n : Nat) : Hp → Int32 → Prop := Nat.rec (motive := fun _ => Hp → Int32 → Prop) (fun _ _ => False) (fun _ B2 h x1 => wX3_settle_2b S a0 Q B2 h x1) n
noncomputable def wX3_settle (S : Sh) (h : Hp) (a0 : Nat) (Q : Hp → Prop) : Prop :=
  (∃ n2, wX3_settle_2 S a0 Q n2 h (0 : Int32))
noncomputable def wX4_countUnsound_4b (S : Sh) (a0 : Nat) (a1 : Nat) (Q : Int32 → Hp → Prop) (B4 : Hp → Int32 → Int32 → Prop) (h : Hp) (x2 : Int32) (x3 : Int32) : Prop :=
  (S a1).1 = 3 ∧
  (((gI h a1 12) ≤ x3 →
   Q x2 h) ∧
   (¬ (gI h a1 12) ≤ x3 →
    (S a0).1 = 5 ∧
    inA S (gR h a0 0) 20 x3 ∧
    (((gI h (gR h a0 0) (ix x3)) = (-2 : Int32) →
     (B4 h x2 ((x3 + (1 : Int32))))) ∧
     (¬ (gI h (gR h a0 0) (ix x3)) = (-2 : Int32) →
      inA S (gR h a1 6) 22 x3 ∧
      ((¬ (gI h (gR h a1 6) (ix x3)) = 0 →
       (B4 h x2 ((x3 + (1 : Int32))))) ∧
       ((gI h (gR h a1 6) (ix x3)) = 0 →
        (B4 h ((x2 + (1 : Int32))) ((x3 + (1 : Int32))))))))))
noncomputable def wX4_countUnsound_4 (S : Sh) (a0 : Nat) (a1 : Nat) (Q : Int32 → Hp → Prop) (n : Nat) : Hp → Int32 → Int32 → Prop := Nat.rec (motive := fun _ => Hp → Int32 → Int32 → Prop) (fun _ _ _ => False) (fun _ B4 h x2 x3 => wX4_countUnsound_4b S a0 a1 Q B4 h x2 x3) n
noncomputable def wX4_countUnsound (S : Sh) (h : Hp) (a0 : Nat) (a1 : Nat) (Q : Int32 → Hp → Prop) : Prop :=
  (∃ n4, wX4_countUnsound_4 S a0 a1 Q n4 h (0 : Int32) (0 : Int32))
noncomputable def wX4_reachState (S : Sh) (h : Hp) (a0 : Nat) (x1 : Int32) (x2 : Int32) (Q : Hp → Prop) : Prop :=
  ((x1 < 0 →
   Q h) ∧
   (¬ x1 < 0 →
    (S a0).1 = 5 ∧
    inA S (gR h a0 0) 20 x1 ∧
    ((¬ (gI h (gR h a0 0) (ix x1)) = (-2 : Int32) →
     Q h) ∧
     ((gI h (gR h a0 0) (ix x1)) = (-2 : Int32) →
      (((100 : Int32) ≤ (gI h a0 2) →
       Q h) ∧
       (¬ (100 : Int32) ≤ (gI h a0 2) →
        ∀ h30 : Hp, h30 = (pI h (gR h a0 0) (ix x1) x2) →
        inA S (gR h30 a0 1) 20 (gI h30 a0 2) ∧
        ∀ h40 : Hp, h40 = (pI h30 (gR h30 a0 1) (ix (gI h30 a0 2)) x1) →
        Q ((pI h40 a0 2 (((gI h40 a0 2) + (1 : Int32)))))))))))
noncomputable def wX4_reachFrom_9b (S : Sh) (a0 : Nat) (a1 : Nat) (x2 : Int32) (x3 : Int32) (Q : Hp → Prop) (B9 : Hp → Int32 → Prop) (h : Hp) (x4 : Int32) : Prop :=
  (((10 : Int32) ≤ x4 →
   Q h) ∧
   (¬ (10 : Int32) ≤ x4 →
    ((((shr32 x3 x4) &&& (1 : Int32)) = 0 →
     (B9 h ((x4 + (1 : Int32))))) ∧
     (¬ ((shr32 x3 x4) &&& (1 : Int32)) = 0 →
      (S a1).1 = 1 ∧
      (wX0_after S h a1 x2 x4 (fun r30 h30 =>
       (S a0).1 = 5 ∧
       inA S (gR h30 a0 0) 20 x2 ∧
       (wX4_reachState S h30 a0 r30 (((gI h30 (gR h30 a0 0) (ix x2)) + (1 : Int32))) (fun h41 =>
        (B9 h41 ((x4 + (1 : Int32))))))))))))
noncomputable def wX4_reachFrom_9 (S : Sh) (a0 : Nat) (a1 : Nat) (x2 : Int32) (x3 : Int32) (Q : Hp → Prop) (n : Nat) : Hp → Int32 → Prop := Nat.rec (motive := fun _ => Hp → Int32 → Prop) (fun _ _ => False) (fun _ B9 h x4 => wX4_reachFrom_9b S a0 a1 x2 x3 Q B9 h x4) n
noncomputable def wX4_reachFrom (S : Sh) (h : Hp) (a0 : Nat) (a1 : Nat) (x2 : Int32) (Q : Hp → Prop) : Prop :=
  (S a1).1 = 1 ∧
  (wX0_stepsAt S h a1 x2 (fun r2 h2 =>
   (∃ n9, wX4_reachFrom_9 S a0 a1 x2 r2 Q n9 h2 (0 : Int32))))
noncomputable def wX4_explore_49b (S : Sh) (B25 : Hp → Int32 → Prop) (a0 : Nat) (a1 : Nat) (x2 : Int32) (x3 : Int32) (Q : Hp → Prop) (B49 : Hp → Int32 → Prop) (h : Hp) (x4 : Int32) : Prop :=
  (S a1).1 = 3 ∧
  (((gI h a1 14) ≤ x4 →
   (B25 h ((x2 + (1 : Int32))))) ∧
   (¬ (gI h a1 14) ≤ x4 →
    inA S (gR h a1 5) 24 x4 ∧
    (S a0).1 = 5 ∧
    (wX4_reachFrom S h a0 ((gR h (gR h a1 5) (ix x4))) x3 (fun h67 =>
     (B49 h67 ((x4 + (1 : Int32))))))))
noncomputable def wX4_explore_49 (S : Sh) (B25 : Hp → Int32 → Prop) (a0 : Nat) (a1 : Nat) (x2 : Int32) (x3 : Int32) (Q : Hp → Prop) (n : Nat) : Hp → Int32 → Prop := Nat.rec (motive := fun _ => Hp → Int32 → Prop) (fun _ _ => False) (fun _ B49 h x4 => wX4_explore_49b S B25 a0 a1 x2 x3 Q B49 h x4) n
noncomputable def wX4_explore_25b (S : Sh) (a0 : Nat) (a1 : Nat) (Q : Hp → Prop) (B25 : Hp → Int32 → Prop) (h : Hp) (x2 : Int32) : Prop :=
  (((100 : Int32) ≤ x2 →
   Q h) ∧
   (¬ (100 : Int32) ≤ x2 →
    (S a0).1 = 5 ∧
    (((gI h a0 2) ≤ x2 →
     Q h) ∧
     (¬ (gI h a0 2) ≤ x2 →
      inA S (gR h a0 1) 20 x2 ∧
      ∀ xv45 : Int32, xv45 = (gI h (gR h a0 1) (ix x2)) →
      (∃ n49, wX4_explore_49 S B25 a0 a1 x2 xv45 Q n49 h (0 : Int32))))))
noncomputable def wX4_explore_25 (S : Sh) (a0 : Nat) (a1 : Nat) (Q : Hp → Prop) (n : Nat) : Hp → Int32 → Prop := Nat.rec (motive := fun _ => Hp → Int32 → Prop) (fun _ _ => False) (fun _ B25 h x2 => wX4_explore_25b S a0 a1 Q B25 h x2) n
noncomputable def wX4_explore (S : Sh) (h : Hp) (a0 : Nat) (a1 : Nat) (Q : Hp → Prop) : Prop :=
  (S a0).1 = 5 ∧
  (wJ7_fill_53178 S h (gR h a0 0) (-2 : Int32) (fun h6 =>
   (S a1).1 = 3 ∧
   (wX2_beginState S ((pI h6 a0 2 (0 : Int32))) a1 (fun r16 h16 =>
    (wX4_reachState S h16 a0 r16 (0 : Int32) (fun h20 =>
     (∃ n25, wX4_explore_25 S a0 a1 Q n25 h20 (0 : Int32))))))))
noncomputable def wX4_firstEnd_5b (S : Sh) (a0 : Nat) (a1 : Nat) (Q : Int32 → Hp → Prop) (B5 : Hp → Int32 → Int32 → Prop) (h : Hp) (x2 : Int32) (x3 : Int32) : Prop :=
  (S a1).1 = 3 ∧
  (((gI h a1 12) ≤ x3 →
   Q x2 h) ∧
   (¬ (gI h a1 12) ≤ x3 →
    (S a0).1 = 5 ∧
    inA S (gR h a0 0) 20 x3 ∧
    (((gI h (gR h a0 0) (ix x3)) = (-2 : Int32) →
     (B5 h x2 ((x3 + (1 : Int32))))) ∧
     (¬ (gI h (gR h a0 0) (ix x3)) = (-2 : Int32) →
      (wX2_eventsFrom S h a1 x3 (fun r26 h26 =>
       ((¬ r26 = 0 →
        (B5 h26 x2 ((x3 + (1 : Int32))))) ∧
        (r26 = 0 →
         ((x2 = (-2 : Int32) →
          (B5 h26 x3 ((x3 + (1 : Int32))))) ∧
          (¬ x2 = (-2 : Int32) →
           inA S (gR h26 a0 0) 20 x3 ∧
           inA S (gR h26 a0 0) 20 x2 ∧
           (((gI h26 (gR h26 a0 0) (ix x2)) ≤ (gI h26 (gR h26 a0 0) (ix x3)) →
            (B5 h26 x2 ((x3 + (1 : Int32))))) ∧
            (¬ (gI h26 (gR h26 a0 0) (ix x2)) ≤ (gI h26 (gR h26 a0 0) (ix x3)) →
             (B5 h26 x3 ((x3 + (1 : Int32))))))))))))))))
noncomputable def wX4_firstEnd_5 (S : Sh) (a0 : Nat) (a1 : Nat) (Q : Int32 → Hp → Prop) (n : Nat) : Hp → Int32 → Int32 → Prop := Nat.rec (motive := fun _ => Hp → Int32 → Int32 → Prop) (fun _ _ _ => False) (fun _ B5 h x2 x3 => wX4_firstEnd_5b S a0 a1 Q B5 h x2 x3) n
noncomputable def wX4_firstEnd (S : Sh) (h : Hp) (a0 : Nat) (a1 : Nat) (Q : Int32 → Hp → Prop) : Prop :=
  (∃ n5, wX4_firstEnd_5 S a0 a1 Q n5 h (-2 : Int32) (0 : Int32))
noncomputable def wX4_init  (S : Sh) (z : Nat) (h : Hp) (a0 : Nat) (Q : Sh → Nat → Hp → Prop) : Prop :=
  (S a0).1 ≠ 0 ∧
  h0 h z ∧
  0 + 1 ≤ 2 ∧
  0 + 100 ≤ 200 ∧
  ((uS S z (20, 100)) a0).1 = 5 ∧
  ∀ h9 : Hp, h9 = (pR h a0 0 z) →
  h0 h9 (z + 1) ∧
  1 + 1 ≤ 2 ∧
  100 + 100 ≤ 200 ∧
  ((uS ((uS S z (20, 100))) (z + 1) (20, 100)) a0).1 = 5 ∧
  2 ≤ 2 ∧ 200 ≤ 200 ∧ Q ((uS ((uS S z (20, 100))) (z + 1) (20, 100))) (z + 2) ((pR h9 a0 1 (z + 1)))
noncomputable def wX5_advance (S : Sh) (h : Hp) (a0 : Nat) (Q : Hp → Prop) : Prop :=
  (S a0).1 = 6 ∧
  (((600 : Int32) ≤ (gI h a0 8) →
   Q h) ∧
   (¬ (600 : Int32) ≤ (gI h a0 8) →
    Q ((pI h a0 8 (((gI h a0 8) + (1 : Int32)))))))
noncomputable def wX5_code (S : Sh) (h : Hp) (a0 : Nat) (Q : Int64 → Hp → Prop) : Prop :=
  (S a0).1 = 6 ∧
  (S (gR h a0 0)).1 = 9 ∧
  inA S ((gR h (gR h a0 0) 2)) 23 (gI h a0 8) ∧
  Q ((gJ h ((gR h (gR h a0 0) 2)) (ix (gI h a0 8)))) h
noncomputable def wX5_fail (S : Sh) (h : Hp) (a0 : Nat) (x1 : Int32) (Q : Int32 → Hp → Prop) : Prop :=
  (S a0).1 = 6 ∧
  ∀ h2 : Hp, h2 = (pI h a0 2 x1) →
  (S (gR h2 a0 0)).1 = 9 ∧
  inA S ((gR h2 (gR h2 a0 0) 1)) 20 (gI h2 a0 8) ∧
  Q (0 : Int32) ((pI h2 a0 3 ((gI h2 ((gR h2 (gR h2 a0 0) 1)) (ix (gI h2 a0 8))))))
noncomputable def wX8_init_43b (K : Nat → Nat) (a0 : Nat) (Q : Sh → Nat → Hp → Prop) (B43 : Sh → Nat → Nat → Nat → Hp → Int32 → Int32 → Prop) (S : Sh) (z nc ns : Nat) (h : Hp) (x1 : Int32) (x2 : Int32) : Prop :=
  nc ≤ 4 ∧
  ns ≤ 1819 ∧
  (wJ0_length_8abf5 K h (K 0) (fun r46 h46 =>
   ((r46 ≤ x2 →
    nc ≤ 4 ∧ ns ≤ 1819 ∧ Q S z h46) ∧
    (¬ r46 ≤ x2 →
     (wJ0_charAt_5068e K h46 (K 0) x2 (fun r55 h55 =>
      ((¬ r55 = (32 : Int32) →
       (((16 : Int32) ≤ x1 →
        (B43 S z nc ns h55 x1 ((x2 + (1 : Int32))))) ∧
        (¬ (16 : Int32) ≤ x1 →
         (S a0).1 = 9 ∧
         inA S (gR h55 a0 3) 23 x1 ∧
         (B43 S z nc ns ((pJ h55 (gR h55 a0 3) (ix x1) (((shl64 ((gJ h55 (gR h55 a0 3) (ix x1))) (5 : Int32)) ||| ((((r55 - (97 : Int32)) + (1 : Int32))).toInt64))))) x1 ((x2 + (1 : Int32))))))) ∧
       (r55 = (32 : Int32) →
        (B43 S z nc ns h55 ((x1 + (1 : Int32))) ((x2 + (1 : Int32))))))))))))
noncomputable def wX8_init_43 (K : Nat → Nat) (a0 : Nat) (Q : Sh → Nat → Hp → Prop) (n : Nat) : Sh → Nat → Nat → Nat → Hp → Int32 → Int32 → Prop := Nat.rec (motive := fun _ => Sh → Nat → Nat → Nat → Hp → Int32 → Int32 → Prop) (fun _ _ _ _ _ _ _ => False) (fun _ B43 S z nc ns h x1 x2 => wX8_init_43b K a0 Q B43 S z nc ns h x1 x2) n
noncomputable def wX8_init (K : Nat → Nat) (S : Sh) (z : Nat) (h : Hp) (a0 : Nat) (Q : Sh → Nat → Hp → Prop) : Prop :=
  (S a0).1 ≠ 0 ∧
  h0 h z ∧
  0 + 1 ≤ 4 ∧
  0 + 601 ≤ 1819 ∧
  ((uS S z (20, 601)) a0).1 = 9 ∧
  ∀ h10 : Hp, h10 = (pR h a0 0 z) →
  h0 h10 (z + 1) ∧
  1 + 1 ≤ 4 ∧
  601 + 601 ≤ 1819 ∧
  ((uS ((uS S z (20, 601))) (z + 1) (20, 601)) a0).1 = 9 ∧
  ∀ h19 : Hp, h19 = (pR h10 a0 1 (z + 1)) →
  h0 h19 (z + 2) ∧
  2 + 1 ≤ 4 ∧
  1202 + 601 ≤ 1819 ∧
  ((uS ((uS ((uS S z (20, 601))) (z + 1) (20, 601))) (z + 2) (23, 601)) a0).1 = 9 ∧
  ∀ h28 : Hp, h28 = (pR h19 a0 2 (z + 2)) →
  h0 h28 (z + 3) ∧
  3 + 1 ≤ 4 ∧
  1803 + 16 ≤ 1819 ∧
  ((uS ((uS ((uS ((uS S z (20, 601))) (z + 1) (20, 601))) (z + 2) (23, 601))) (z + 3) (23, 16)) a0).1 = 9 ∧
  (∃ n43, wX8_init_43 K a0 Q n43 ((uS ((uS ((uS ((uS S z (20, 601))) (z + 1) (20, 601))) (z + 2) (23, 601))) (z + 3) (23, 16))) (z + 4) 4 1819 ((pR h28 a0 3 (z + 3))) (0 : Int32) (0 : Int32))
noncomputable def wX5_init (K : Nat → Nat) (S : Sh) (z : Nat) (h : Hp) (a0 : Nat) (Q : Sh → Nat → Hp → Prop) : Prop :=
  (S a0).1 ≠ 0 ∧
  h0 h z ∧
  0 + 1 ≤ 6 ∧
  0 + 6 ≤ 1849 ∧
  1 + 4 ≤ 6 ∧
  6 + 1819 ≤ 1849 ∧
  ((uS S z (9, 0)) z).1 ≠ 0 ∧
  (wX8_init K ((uS S z (9, 0))) (z + 1) h z (fun S9 z9 h9 =>
   (S9 a0).1 = 6 ∧
   ∀ h12 : Hp, h12 = (pR h9 a0 0 z) →
   h0 h12 z9 ∧
   5 + 1 ≤ 6 ∧
   1825 + 24 ≤ 1849 ∧
   ((uS S9 z9 (23, 24)) a0).1 = 6 ∧
   6 ≤ 6 ∧ 1849 ≤ 1849 ∧ Q ((uS S9 z9 (23, 24))) (z9 + 1) (pR h12 a0 1 z9)))
noncomputable def wX5_kind (S : Sh) (h : Hp) (a0 : Nat) (Q : Int32 → Hp → Prop) : Prop :=
  (S a0).1 = 6 ∧
  (S (gR h a0 0)).1 = 9 ∧
  inA S ((gR h (gR h a0 0) 0)) 20 (gI h a0 8) ∧
  Q ((gI h ((gR h (gR h a0 0) 0)) (ix (gI h a0 8)))) h
noncomputable def wX5_isNewName_j52 (S : Sh) (h : Hp) (a0 : Nat) (Q : Int32 → Hp → Prop) : Prop :=
  (S a0).1 = 6 ∧
  (((24 : Int32) ≤ (gI h a0 7) →
   Q (1 : Int32) h) ∧
   (¬ (24 : Int32) ≤ (gI h a0 7) →
    (wX5_code S h a0 (fun r70 h70 =>
     inA S (gR h a0 1) 23 (gI h a0 7) ∧
     ∀ h73 : Hp, h73 = (pJ h70 (gR h a0 1) (ix (gI h a0 7)) r70) →
     Q (1 : Int32) ((pI h73 a0 7 (((gI h73 a0 7) + (1 : Int32)))))))))
noncomputable def wX5_isNewName_18b (S : Sh) (a0 : Nat) (Q : Int32 → Hp → Prop) (B18 : Hp → Int32 → Prop) (h : Hp) (x1 : Int32) : Prop :=
  (S a0).1 = 6 ∧
  (((gI h a0 7) ≤ x1 →
   (wX5_isNewName_j52 S h a0 Q)) ∧
   (¬ (gI h a0 7) ≤ x1 →
    inA S (gR h a0 1) 23 x1 ∧
    (wX5_code S h a0 (fun r33 h33 =>
     ((¬ (lg_cmp ((gJ h (gR h a0 1) (ix x1))) r33) = 0 →
      (B18 h33 ((x1 + (1 : Int32))))) ∧
      ((lg_cmp ((gJ h (gR h a0 1) (ix x1))) r33) = 0 →
       (wX5_fail S h33 a0 (3 : Int32) (fun r42 h42 =>
        r42 &&& 1 = r42 ∧
        Q r42 h42))))))))
noncomputable def wX5_isNewName_18 (S : Sh) (a0 : Nat) (Q : Int32 → Hp → Prop) (n : Nat) : Hp → Int32 → Prop := Nat.rec (motive := fun _ => Hp → Int32 → Prop) (fun _ _ => False) (fun _ B18 h x1 => wX5_isNewName_18b S a0 Q B18 h x1) n
noncomputable def wX5_isNewName (S : Sh) (h : Hp) (a0 : Nat) (Q : Int32 → Hp → Prop) : Prop :=
  (S a0).1 = 6 ∧
  (wX5_kind S h a0 (fun r1 h1 =>
   ((r1 = (302 : Int32) →
    (∃ n18, wX5_isNewName_18 S a0 Q n18 h1 (0 : Int32))) ∧
    (¬ r1 = (302 : Int32) →
     (wX5_fail S h1 a0 (1 : Int32) (fun r12 h12 =>
      r12 &&& 1 = r12 ∧
      Q r12 h12))))))
noncomputable def wX5_number (S : Sh) (h : Hp) (a0 : Nat) (Q : Int32 → Hp → Prop) : Prop :=
  (S a0).1 = 6 ∧
  (S (gR h a0 0)).1 = 9 ∧
  inA S ((gR h (gR h a0 0) 2)) 23 (gI h a0 8) ∧
  Q ((((gJ h ((gR h (gR h a0 0) 2)) (ix (gI h a0 8)))).toInt32)) h
noncomputable def wX5_isWhole_j40 (S : Sh) (h : Hp) (Q : Int32 → Hp → Prop) : Prop :=
  Q (1 : Int32) h
noncomputable def wX5_isWhole_j32 (S : Sh) (h : Hp) (a0 : Nat) (Q : Int32 → Hp → Prop) : Prop :=
  (S a0).1 = 6 ∧
  (wX5_fail S h a0 (2 : Int32) (fun r34 h34 =>
   ((r34 = 0 →
    Q (0 : Int32) h34) ∧
    (¬ r34 = 0 →
     (wX5_isWhole_j40 S h34 Q)))))
noncomputable def wX5_isWhole (S : Sh) (h : Hp) (a0 : Nat) (x1 : Int32) (x2 : Int32) (Q : Int32 → Hp → Prop) : Prop :=
  (S a0).1 = 6 ∧
  (wX5_kind S h a0 (fun r1 h1 =>
   ((r1 = (303 : Int32) →
    (wX5_number S h1 a0 (fun r17 h17 =>
     ((r17 < x1 →
      (wX5_isWhole_j32 S h17 a0 Q)) ∧
      (¬ r17 < x1 →
       (wX5_number S h17 a0 (fun r25 h25 =>
        ((r25 ≤ x2 →
         (wX5_isWhole_j40 S h25 Q)) ∧
         (¬ r25 ≤ x2 →
          (wX5_isWhole_j32 S h25 a0 Q)))))))))) ∧
    (¬ r1 = (303 : Int32) →
     (wX5_fail S h1 a0 (1 : Int32) (fun r12 h12 =>
      r12 &&& 1 = r12 ∧
      Q r12 h12))))))
noncomputable def wX5_joinsAtoms_j18 (S : Sh) (h : Hp) (Q : Int32 → Hp → Prop) : Prop :=
  Q (1 : Int32) h
noncomputable def wX5_joinsAtoms (S : Sh) (h : Hp) (x0 : Int32) (Q : Int32 → Hp → Prop) : Prop :=
  ((x0 = (43 : Int32) →
   (wX5_joinsAtoms_j18 S h Q)) ∧
   (¬ x0 = (43 : Int32) →
    ((x0 = (45 : Int32) →
     (wX5_joinsAtoms_j18 S h Q)) ∧
     (¬ x0 = (45 : Int32) →
      ((¬ x0 = (42 : Int32) →
       Q (0 : Int32) h) ∧
       (x0 = (42 : Int32) →
        (wX5_joinsAtoms_j18 S h Q)))))))
noncomputable def wX5_pass (S : Sh) (h : Hp) (a0 : Nat) (x1 : Int32) (Q : Int32 → Hp → Prop) : Prop :=
  (S a0).1 = 6 ∧
  (wX5_kind S h a0 (fun r1 h1 =>
   ((r1 = x1 →
    (wX5_advance S h1 a0 (fun h15 =>
     Q (1 : Int32) h15))) ∧
    (¬ r1 = x1 →
     (wX5_fail S h1 a0 (1 : Int32) (fun r10 h10 =>
      r10 &&& 1 = r10 ∧
      Q r10 h10))))))
noncomputable def wX5_slotOf_74b (S : Sh) (j1 : Int64) (a3 : Nat) (Q : Int32 → Hp → Prop) (B74 : Hp → Int32 → Prop) (h : Hp) (x4 : Int32) : Prop :=
  (S a3).1 = 3 ∧
  (((gI h a3 11) ≤ x4 →
   Q (-1 : Int32) h) ∧
   (¬ (gI h a3 11) ≤ x4 →
    inA S (gR h a3 0) 23 x4 ∧
    ((¬ (lg_cmp ((gJ h (gR h a3 0) (ix x4))) j1) = 0 →
     (B74 h ((x4 + (1 : Int32))))) ∧
     ((lg_cmp ((gJ h (gR h a3 0) (ix x4))) j1) = 0 →
      Q (((3 : Int32) + x4)) h))))
noncomputable def wX5_slotOf_74 (S : Sh) (j1 : Int64) (a3 : Nat) (Q : Int32 → Hp → Prop) (n : Nat) : Hp → Int32 → Prop := Nat.rec (motive := fun _ => Hp → Int32 → Prop) (fun _ _ => False) (fun _ B74 h x4 => wX5_slotOf_74b S j1 a3 Q B74 h x4) n
noncomputable def wX5_slotOf_j35 (S : Sh) (h : Hp) (a0 : Nat) (j1 : Int64) (Q : Int32 → Hp → Prop) : Prop :=
  (S a0).1 = 6 ∧
  (((gI h a0 10) = 0 →
   Q (-1 : Int32) h) ∧
   (¬ (gI h a0 10) = 0 →
    (S (gR h a0 4)).1 = 4 ∧
    (((gI h (gR h a0 4) 5) ≤ (1 : Int32) →
     Q (-1 : Int32) h) ∧
     (¬ (gI h (gR h a0 4) 5) ≤ (1 : Int32) →
      inA S ((gR h (gR h a0 4) 0)) 25 (((gI h (gR h a0 4) 5) - (2 : Int32))) ∧
      ∀ av70 : Nat, av70 = (gR h ((gR h (gR h a0 4) 0)) (ix (((gI h (gR h a0 4) 5) - (2 : Int32))))) →
      (∃ n74, wX5_slotOf_74 S j1 av70 Q n74 h (0 : Int32))))))
noncomputable def wX5_slotOf_2b (S : Sh) (a0 : Nat) (j1 : Int64) (Q : Int32 → Hp → Prop) (B2 : Hp → Int32 → Prop) (h : Hp) (x3 : Int32) : Prop :=
  (S a0).1 = 6 ∧
  (S (gR h a0 5)).1 = 3 ∧
  (((gI h (gR h a0 5) 11) ≤ x3 →
   (wX5_slotOf_j35 S h a0 j1 Q)) ∧
   (¬ (gI h (gR h a0 5) 11) ≤ x3 →
    inA S ((gR h (gR h a0 5) 0)) 23 x3 ∧
    ((¬ (lg_cmp ((gJ h ((gR h (gR h a0 5) 0)) (ix x3))) j1) = 0 →
     (B2 h ((x3 + (1 : Int32))))) ∧
     ((lg_cmp ((gJ h ((gR h (gR h a0 5) 0)) (ix x3))) j1) = 0 →
      Q x3 h))))
noncomputable def wX5_slotOf_2 (S : Sh) (a0 : Nat) (j1 : Int64) (Q : Int32 → Hp → Prop) (n : Nat) : Hp → Int32 → Prop := Nat.rec (motive := fun _ => Hp → Int32 → Prop) (fun _ _ => False) (fun _ B2 h x3 => wX5_slotOf_2b S a0 j1 Q B2 h x3) n
noncomputable def wX5_slotOf (S : Sh) (h : Hp) (a0 : Nat) (j1 : Int64) (Q : Int32 → Hp → Prop) : Prop :=
  (∃ n2, wX5_slotOf_2 S a0 j1 Q n2 h (0 : Int32))
noncomputable def wX5_readTest_j116 (S : Sh) (Gr : Nat → Hp → Nat → Int32 → (Int32 → Hp → Prop) → Prop) (h : Hp) (a0 : Nat) (x2 : Int32) (Q : Int32 → Hp → Prop) : Prop :=
  ((x2 = 0 →
   Q (1 : Int32) h) ∧
   (¬ x2 = 0 →
    (S a0).1 = 6 ∧
    (S (gR h a0 4)).1 = 4 ∧
    (wX3_emit S h (gR h a0 4) (2412 : Int32) (fun h127 =>
     Q (1 : Int32) h127))))
noncomputable def wX5_readTest_j76 (S : Sh) (Gr : Nat → Hp → Nat → Int32 → (Int32 → Hp → Prop) → Prop) (B14 : Hp → Int32 → Int32 → Prop) (h : Hp) (a0 : Nat) (x1 : Int32) (x2 : Int32) (x3 : Int32) (x4 : Int32) (Q : Int32 → Hp → Prop) : Prop :=
  (S a0).1 = 6 ∧
  (wX5_advance S h a0 (fun h82 =>
   (Gr 1 h82 a0 x1 (fun r87 h87 =>
    ((¬ r87 = 0 →
     ((¬ x4 = 0 →
      (B14 h87 (x2 ||| x4) ((x3 + (1 : Int32))))) ∧
      (x4 = 0 →
       (S (gR h87 a0 4)).1 = 4 ∧
       (wX3_emit S h87 (gR h87 a0 4) (2413 : Int32) (fun h107 =>
        (B14 h107 (x2 ||| x4) ((x3 + (1 : Int32))))))))) ∧
     (r87 = 0 →
      Q (0 : Int32) h87))))))
noncomputable def wX5_readTest_j55 (S : Sh) (Gr : Nat → Hp → Nat → Int32 → (Int32 → Hp → Prop) → Prop) (B14 : Hp → Int32 → Int32 → Prop) (h : Hp) (a0 : Nat) (x1 : Int32) (x2 : Int32) (x3 : Int32) (s0 : Int32) (Q : Int32 → Hp → Prop) : Prop :=
  ((s0 = 0 →
   (wX5_readTest_j76 S Gr B14 h a0 x1 x2 x3 s0 Q)) ∧
   (¬ s0 = 0 →
    ((x2 = 0 →
     (wX5_readTest_j76 S Gr B14 h a0 x1 x2 x3 s0 Q)) ∧
     (¬ x2 = 0 →
      (S a0).1 = 6 ∧
      (S (gR h a0 4)).1 = 4 ∧
      (wX3_emit S h (gR h a0 4) (2412 : Int32) (fun h73 =>
       (wX5_readTest_j76 S Gr B14 h73 a0 x1 x2 x3 s0 Q)))))))
noncomputable def wX5_readTest_j40 (S : Sh) (Gr : Nat → Hp → Nat → Int32 → (Int32 → Hp → Prop) → Prop) (B14 : Hp → Int32 → Int32 → Prop) (h : Hp) (a0 : Nat) (x1 : Int32) (x2 : Int32) (x3 : Int32) (Q : Int32 → Hp → Prop) : Prop :=
  (S a0).1 = 6 ∧
  (wX5_kind S h a0 (fun r41 h41 =>
   ((¬ r41 = (412 : Int32) →
    (wX5_readTest_j55 S Gr B14 h41 a0 x1 x2 x3 (0 : Int32) Q)) ∧
    (r41 = (412 : Int32) →
     (wX5_readTest_j55 S Gr B14 h41 a0 x1 x2 x3 (1 : Int32) Q)))))
noncomputable def wX5_readTest_14b (S : Sh) (Gr : Nat → Hp → Nat → Int32 → (Int32 → Hp → Prop) → Prop) (a0 : Nat) (x1 : Int32) (Q : Int32 → Hp → Prop) (B14 : Hp → Int32 → Int32 → Prop) (h : Hp) (x2 : Int32) (x3 : Int32) : Prop :=
  (((30 : Int32) < x3 →
   (wX5_readTest_j116 S Gr h a0 x2 Q)) ∧
   (¬ (30 : Int32) < x3 →
    (S a0).1 = 6 ∧
    (wX5_kind S h a0 (fun r21 h21 =>
     ((r21 = (413 : Int32) →
      (wX5_readTest_j40 S Gr B14 h21 a0 x1 x2 x3 Q)) ∧
      (¬ r21 = (413 : Int32) →
       (wX5_kind S h21 a0 (fun r31 h31 =>
        ((¬ r31 = (412 : Int32) →
         (wX5_readTest_j116 S Gr h31 a0 x2 Q)) ∧
         (r31 = (412 : Int32) →
          (wX5_readTest_j40 S Gr B14 h31 a0 x1 x2 x3 Q)))))))))))
noncomputable def wX5_readTest_14 (S : Sh) (Gr : Nat → Hp → Nat → Int32 → (Int32 → Hp → Prop) → Prop) (a0 : Nat) (x1 : Int32) (Q : Int32 → Hp → Prop) (n : Nat) : Hp → Int32 → Int32 → Prop := Nat.rec (motive := fun _ => Hp → Int32 → Int32 → Prop) (fun _ _ _ => False) (fun _ B14 h x2 x3 => wX5_readTest_14b S Gr a0 x1 Q B14 h x2 x3) n
noncomputable def wX5_readTest_b (S : Sh) (Gr : Nat → Hp → Nat → Int32 → (Int32 → Hp → Prop) → Prop) (h : Hp) (a0 : Nat) (x1 : Int32) (Q : Int32 → Hp → Prop) : Prop :=
  (S a0).1 = 6 ∧
  (Gr 1 h a0 x1 (fun r2 h2 =>
   ((¬ r2 = 0 →
    (∃ n14, wX5_readTest_14 S Gr a0 x1 Q n14 h2 (0 : Int32) (0 : Int32))) ∧
    (r2 = 0 →
     Q (0 : Int32) h2))))
noncomputable def wX5_readFact_j128 (S : Sh) (Gr : Nat → Hp → Nat → Int32 → (Int32 → Hp → Prop) → Prop) (h : Hp) (a0 : Nat) (x1 : Int32) (x3 : Int32) (Q : Int32 → Hp → Prop) : Prop :=
  (S a0).1 = 6 ∧
  (wX5_advance S h a0 (fun h129 =>
   (Gr 2 h129 a0 x1 (fun r134 h134 =>
    ((¬ r134 = 0 →
     (S (gR h134 a0 4)).1 = 4 ∧
     (wX3_emit S h134 (gR h134 a0 4) (((2000 : Int32) + x3)) (fun h151 =>
      Q (1 : Int32) h151))) ∧
     (r134 = 0 →
      Q (0 : Int32) h134))))))
noncomputable def wX5_readFact_j18 (S : Sh) (Gr : Nat → Hp → Nat → Int32 → (Int32 → Hp → Prop) → Prop) (h : Hp) (a0 : Nat) (x1 : Int32) (x2 : Int32) (Q : Int32 → Hp → Prop) : Prop :=
  ((x1 < (8 : Int32) →
   (S a0).1 = 6 ∧
   (wX5_advance S h a0 (fun h31 =>
    ((¬ x2 = (40 : Int32) →
     (Gr 1 h31 a0 ((x1 + (1 : Int32))) (fun r69 h69 =>
      ((¬ r69 = 0 →
       (S (gR h69 a0 4)).1 = 4 ∧
       (wX3_emit S h69 (gR h69 a0 4) (2414 : Int32) (fun h84 =>
        Q (1 : Int32) h84))) ∧
       (r69 = 0 →
        Q (0 : Int32) h69))))) ∧
     (x2 = (40 : Int32) →
      (Gr 0 h31 a0 ((x1 + (1 : Int32))) (fun r44 h44 =>
       ((r44 = 0 →
        Q (0 : Int32) h44) ∧
        (¬ r44 = 0 →
         (wX5_pass S h44 a0 (41 : Int32) (fun r53 h53 =>
          ((r53 = 0 →
           Q (0 : Int32) h53) ∧
           (¬ r53 = 0 →
            Q (1 : Int32) h53))))))))))))) ∧
   (¬ x1 < (8 : Int32) →
    (S a0).1 = 6 ∧
    (wX5_fail S h a0 (4 : Int32) (fun r26 h26 =>
     r26 &&& 1 = r26 ∧
     Q r26 h26))))
noncomputable def wX5_readFact_b (S : Sh) (Gr : Nat → Hp → Nat → Int32 → (Int32 → Hp → Prop) → Prop) (h : Hp) (a0 : Nat) (x1 : Int32) (Q : Int32 → Hp → Prop) : Prop :=
  (S a0).1 = 6 ∧
  (wX5_kind S h a0 (fun r1 h1 =>
   ((r1 = (414 : Int32) →
    (wX5_readFact_j18 S Gr h1 a0 x1 r1 Q)) ∧
    (¬ r1 = (414 : Int32) →
     ((¬ r1 = (40 : Int32) →
      (Gr 2 h1 a0 x1 (fun r91 h91 =>
       ((¬ r91 = 0 →
        (wX5_kind S h91 a0 (fun r100 h100 =>
         ((r100 = (60 : Int32) →
          (wX5_readFact_j128 S Gr h100 a0 x1 r100 Q)) ∧
          (¬ r100 = (60 : Int32) →
           ((r100 = (62 : Int32) →
            (wX5_readFact_j128 S Gr h100 a0 x1 r100 Q)) ∧
            (¬ r100 = (62 : Int32) →
             ((r100 = (61 : Int32) →
              (wX5_readFact_j128 S Gr h100 a0 x1 r100 Q)) ∧
              (¬ r100 = (61 : Int32) →
               (wX5_fail S h100 a0 (1 : Int32) (fun r124 h124 =>
                r124 &&& 1 = r124 ∧
                Q r124 h124))))))))))) ∧
        (r91 = 0 →
         Q (0 : Int32) h91))))) ∧
      (r1 = (40 : Int32) →
       (wX5_readFact_j18 S Gr h1 a0 x1 r1 Q)))))))
noncomputable def wX5_readSum_j103 (S : Sh) (Gr : Nat → Hp → Nat → Int32 → (Int32 → Hp → Prop) → Prop) (h : Hp) (a0 : Nat) (x2 : Int32) (Q : Int32 → Hp → Prop) : Prop :=
  ((x2 = (-1 : Int32) →
   Q (1 : Int32) h) ∧
   (¬ x2 = (-1 : Int32) →
    (S a0).1 = 6 ∧
    (S (gR h a0 4)).1 = 4 ∧
    (wX3_emit S h (gR h a0 4) (((2000 : Int32) + x2)) (fun h117 =>
     Q (1 : Int32) h117))))
noncomputable def wX5_readSum_j63 (S : Sh) (Gr : Nat → Hp → Nat → Int32 → (Int32 → Hp → Prop) → Prop) (B14 : Hp → Int32 → Int32 → Prop) (h : Hp) (a0 : Nat) (x1 : Int32) (x2 : Int32) (x3 : Int32) (x4 : Int32) (Q : Int32 → Hp → Prop) : Prop :=
  (S a0).1 = 6 ∧
  (wX5_advance S h a0 (fun h64 =>
   (Gr 3 h64 a0 x1 (fun r69 h69 =>
    ((¬ r69 = 0 →
     ((¬ x4 = (42 : Int32) →
      (B14 h69 x2 ((x3 + (1 : Int32))))) ∧
      (x4 = (42 : Int32) →
       (S (gR h69 a0 4)).1 = 4 ∧
       (wX3_emit S h69 (gR h69 a0 4) (((2000 : Int32) + x4)) (fun h94 =>
        (B14 h94 x2 ((x3 + (1 : Int32))))))))) ∧
     (r69 = 0 →
      Q (0 : Int32) h69))))))
noncomputable def wX5_readSum_j60 (S : Sh) (Gr : Nat → Hp → Nat → Int32 → (Int32 → Hp → Prop) → Prop) (B14 : Hp → Int32 → Int32 → Prop) (h : Hp) (a0 : Nat) (x1 : Int32) (x3 : Int32) (x4 : Int32) (Q : Int32 → Hp → Prop) : Prop :=
  (wX5_readSum_j63 S Gr B14 h a0 x1 x4 x3 x4 Q)
noncomputable def wX5_readSum_14b (S : Sh) (Gr : Nat → Hp → Nat → Int32 → (Int32 → Hp → Prop) → Prop) (a0 : Nat) (x1 : Int32) (Q : Int32 → Hp → Prop) (B14 : Hp → Int32 → Int32 → Prop) (h : Hp) (x2 : Int32) (x3 : Int32) : Prop :=
  (((30 : Int32) < x3 →
   (wX5_readSum_j103 S Gr h a0 x2 Q)) ∧
   (¬ (30 : Int32) < x3 →
    (S a0).1 = 6 ∧
    (wX5_kind S h a0 (fun r21 h21 =>
     (wX5_joinsAtoms S h21 r21 (fun r24 h24 =>
      ((r24 = 0 →
       (wX5_readSum_j103 S Gr h24 a0 x2 Q)) ∧
       (¬ r24 = 0 →
        (wX5_kind S h24 a0 (fun r31 h31 =>
         ((r31 = (42 : Int32) →
          (wX5_readSum_j63 S Gr B14 h31 a0 x1 x2 x3 r31 Q)) ∧
          (¬ r31 = (42 : Int32) →
           ((x2 = (-1 : Int32) →
            (wX5_readSum_j60 S Gr B14 h31 a0 x1 x3 r31 Q)) ∧
            (¬ x2 = (-1 : Int32) →
             (S (gR h31 a0 4)).1 = 4 ∧
             (wX3_emit S h31 (gR h31 a0 4) (((2000 : Int32) + x2)) (fun h57 =>
              (wX5_readSum_j60 S Gr B14 h57 a0 x1 x3 r31 Q)))))))))))))))))
noncomputable def wX5_readSum_14 (S : Sh) (Gr : Nat → Hp → Nat → Int32 → (Int32 → Hp → Prop) → Prop) (a0 : Nat) (x1 : Int32) (Q : Int32 → Hp → Prop) (n : Nat) : Hp → Int32 → Int32 → Prop := Nat.rec (motive := fun _ => Hp → Int32 → Int32 → Prop) (fun _ _ _ => False) (fun _ B14 h x2 x3 => wX5_readSum_14b S Gr a0 x1 Q B14 h x2 x3) n
noncomputable def wX5_readSum_b (S : Sh) (Gr : Nat → Hp → Nat → Int32 → (Int32 → Hp → Prop) → Prop) (h : Hp) (a0 : Nat) (x1 : Int32) (Q : Int32 → Hp → Prop) : Prop :=
  (S a0).1 = 6 ∧
  (Gr 3 h a0 x1 (fun r2 h2 =>
   ((¬ r2 = 0 →
    (∃ n14, wX5_readSum_14 S Gr a0 x1 Q n14 h2 (-1 : Int32) (0 : Int32))) ∧
    (r2 = 0 →
     Q (0 : Int32) h2))))
noncomputable def wX5_readAtom_j156 (S : Sh) (Gr : Nat → Hp → Nat → Int32 → (Int32 → Hp → Prop) → Prop) (h : Hp) (a0 : Nat) (s0 : Nat) (s1 : Int32) (Q : Int32 → Hp → Prop) : Prop :=
  (S s0).1 = 4 ∧
  (wX3_emit S h s0 s1 (fun h156 =>
   (S a0).1 = 6 ∧
   (wX5_advance S h156 a0 (fun h194 =>
    Q (1 : Int32) h194))))
noncomputable def wX5_readAtom_j126 (S : Sh) (Gr : Nat → Hp → Nat → Int32 → (Int32 → Hp → Prop) → Prop) (h : Hp) (a0 : Nat) (x1 : Int32) (x2 : Int32) (x4 : Int32) (Q : Int32 → Hp → Prop) : Prop :=
  ((x2 = (91 : Int32) →
   (S a0).1 = 6 ∧
   (wX5_advance S h a0 (fun h163 =>
    (Gr 2 h163 a0 ((x1 + (1 : Int32))) (fun r170 h170 =>
     ((¬ r170 = 0 →
      (wX5_kind S h170 a0 (fun r179 h179 =>
       ((r179 = (93 : Int32) →
        (wX5_advance S h179 a0 (fun h194 =>
         Q (1 : Int32) h194))) ∧
        (¬ r179 = (93 : Int32) →
         (wX5_fail S h179 a0 (1 : Int32) (fun r189 h189 =>
          r189 &&& 1 = r189 ∧
          Q r189 h189))))))) ∧
      (r170 = 0 →
       Q (0 : Int32) h170))))))) ∧
   (¬ x2 = (91 : Int32) →
    (S a0).1 = 6 ∧
    ((¬ x2 = (303 : Int32) →
     (wX5_readAtom_j156 S Gr h a0 (gR h a0 4) (((1000 : Int32) + x4)) Q)) ∧
     (x2 = (303 : Int32) →
      (wX5_number S h a0 (fun r144 h144 =>
       (wX5_readAtom_j156 S Gr h144 a0 (gR h a0 4) r144 Q)))))))
noncomputable def wX5_readAtom_j75 (S : Sh) (Gr : Nat → Hp → Nat → Int32 → (Int32 → Hp → Prop) → Prop) (h : Hp) (a0 : Nat) (x1 : Int32) (x2 : Int32) (s0 : Int32) (Q : Int32 → Hp → Prop) : Prop :=
  ((¬ s0 = (-1 : Int32) →
   (S a0).1 = 6 ∧
   ∀ h96 : Hp, h96 = (pI h a0 9 (((gI h a0 9) + (1 : Int32)))) →
   (((30 : Int32) < (gI h96 a0 9) →
    (wX5_fail S h96 a0 (4 : Int32) (fun r122 h122 =>
     r122 &&& 1 = r122 ∧
     Q r122 h122))) ∧
    (¬ (30 : Int32) < (gI h96 a0 9) →
     ((¬ x2 = (91 : Int32) →
      (wX5_readAtom_j126 S Gr h96 a0 x1 x2 s0 Q)) ∧
      (x2 = (91 : Int32) →
       ((x1 < (8 : Int32) →
        (wX5_readAtom_j126 S Gr h96 a0 x1 x2 s0 Q)) ∧
        (¬ x1 < (8 : Int32) →
         (wX5_fail S h96 a0 (4 : Int32) (fun r122 h122 =>
          r122 &&& 1 = r122 ∧
          Q r122 h122))))))))) ∧
   (s0 = (-1 : Int32) →
    (S a0).1 = 6 ∧
    (wX5_fail S h a0 (3 : Int32) (fun r85 h85 =>
     r85 &&& 1 = r85 ∧
     Q r85 h85))))
noncomputable def wX5_readAtom_j55 (S : Sh) (Gr : Nat → Hp → Nat → Int32 → (Int32 → Hp → Prop) → Prop) (h : Hp) (a0 : Nat) (x1 : Int32) (x2 : Int32) (Q : Int32 → Hp → Prop) : Prop :=
  ((¬ x2 = (302 : Int32) →
   (wX5_readAtom_j75 S Gr h a0 x1 x2 (6 : Int32) Q)) ∧
   (x2 = (302 : Int32) →
    (S a0).1 = 6 ∧
    (wX5_code S h a0 (fun r64 h64 =>
     (wX5_slotOf S h64 a0 r64 (fun r67 h67 =>
      (wX5_readAtom_j75 S Gr h67 a0 x1 x2 r67 Q)))))))
noncomputable def wX5_readAtom_j24 (S : Sh) (Gr : Nat → Hp → Nat → Int32 → (Int32 → Hp → Prop) → Prop) (h : Hp) (a0 : Nat) (x1 : Int32) (x2 : Int32) (s0 : Int32) (Q : Int32 → Hp → Prop) : Prop :=
  ((x2 = (303 : Int32) →
   (wX5_readAtom_j55 S Gr h a0 x1 x2 Q)) ∧
   (¬ x2 = (303 : Int32) →
    ((x2 = (302 : Int32) →
     (wX5_readAtom_j55 S Gr h a0 x1 x2 Q)) ∧
     (¬ x2 = (302 : Int32) →
      ((x2 = (91 : Int32) →
       (wX5_readAtom_j55 S Gr h a0 x1 x2 Q)) ∧
       (¬ x2 = (91 : Int32) →
        ((¬ s0 = 0 →
         (wX5_readAtom_j55 S Gr h a0 x1 x2 Q)) ∧
         (s0 = 0 →
          (S a0).1 = 6 ∧
          (wX5_fail S h a0 (1 : Int32) (fun r51 h51 =>
           r51 &&& 1 = r51 ∧
           Q r51 h51))))))))))
noncomputable def wX5_readAtom_j23 (S : Sh) (Gr : Nat → Hp → Nat → Int32 → (Int32 → Hp → Prop) → Prop) (h : Hp) (a0 : Nat) (x1 : Int32) (x2 : Int32) (Q : Int32 → Hp → Prop) : Prop :=
  (wX5_readAtom_j24 S Gr h a0 x1 x2 (0 : Int32) Q)
noncomputable def wX5_readAtom_b (S : Sh) (Gr : Nat → Hp → Nat → Int32 → (Int32 → Hp → Prop) → Prop) (h : Hp) (a0 : Nat) (x1 : Int32) (Q : Int32 → Hp → Prop) : Prop :=
  (S a0).1 = 6 ∧
  (wX5_kind S h a0 (fun r1 h1 =>
   ((¬ r1 = (415 : Int32) →
    (wX5_readAtom_j23 S Gr h1 a0 x1 r1 Q)) ∧
    (r1 = (415 : Int32) →
     (((gI h1 a0 11) = 0 →
      (wX5_readAtom_j23 S Gr h1 a0 x1 r1 Q)) ∧
      (¬ (gI h1 a0 11) = 0 →
       (wX5_readAtom_j24 S Gr h1 a0 x1 r1 (1 : Int32) Q)))))))
noncomputable def wX5R (S : Sh) (d : Nat) : Nat → Hp → Nat → Int32 → (Int32 → Hp → Prop) → Prop := Nat.rec (motive := fun _ => Nat → Hp → Nat → Int32 → (Int32 → Hp → Prop) → Prop) (fun _ _ _ _ _ => False) (fun _ Gr sel h a0 x1 Q => if sel = 0 then wX5_readTest_b S Gr h a0 x1 Q else if sel = 1 then wX5_readFact_b S Gr h a0 x1 Q else if sel = 2 then wX5_readSum_b S Gr h a0 x1 Q else wX5_readAtom_b S Gr h a0 x1 Q) d
noncomputable def wX5_readTest (S : Sh) (h : Hp) (a0 : Nat) (x1 : Int32) (Q : Int32 → Hp → Prop) : Prop := wX5R S 40 0 h a0 x1 Q
noncomputable def wX5_readFact (S : Sh) (h : Hp) (a0 : Nat) (x1 : Int32) (Q : Int32 → Hp → Prop) : Prop := wX5R S 40 1 h a0 x1 Q
noncomputable def wX5_readSum (S : Sh) (h : Hp) (a0 : Nat) (x1 : Int32) (Q : Int32 → Hp → Prop) : Prop := wX5R S 40 2 h a0 x1 Q
noncomputable def wX5_readAtom (S : Sh) (h : Hp) (a0 : Nat) (x1 : Int32) (Q : Int32 → Hp → Prop) : Prop := wX5R S 40 3 h a0 x1 Q
noncomputable def wX5_readBounds (S : Sh) (h : Hp) (a0 : Nat) (x1 : Int32) (Q : Int32 → Hp → Prop) : Prop :=
  (S a0).1 = 6 ∧
  (wX5_pass S h a0 (402 : Int32) (fun r4 h4 =>
   ((r4 = 0 →
    Q (0 : Int32) h4) ∧
    (¬ r4 = 0 →
     (wX5_isWhole S h4 a0 (0 : Int32) (9 : Int32) (fun r14 h14 =>
      ((¬ r14 = 0 →
       (wX5_number S h14 a0 (fun r23 h23 =>
        (wX5_advance S h23 a0 (fun h28 =>
         (wX5_pass S h28 a0 (403 : Int32) (fun r35 h35 =>
          ((r35 = 0 →
           Q (0 : Int32) h35) ∧
           (¬ r35 = 0 →
            (wX5_isWhole S h35 a0 r23 (9 : Int32) (fun r45 h45 =>
             ((¬ r45 = 0 →
              (wX5_number S h45 a0 (fun r54 h54 =>
               (S (gR h54 a0 5)).1 = 3 ∧
               ∀ xv71 : Int32, xv71 = ((gI h54 (gR h54 a0 5) 12) * ((r54 - r23) + (1 : Int32))) →
               ((xv71 ≤ (100 : Int32) →
                (wX5_advance S h54 a0 (fun h87 =>
                 (wX5_pass S h87 a0 (404 : Int32) (fun r94 h94 =>
                  ((r94 = 0 →
                   Q (0 : Int32) h94) ∧
                   (¬ r94 = 0 →
                    (wX5_isWhole S h94 a0 r23 r54 (fun r103 h103 =>
                     ((¬ r103 = 0 →
                      (S (gR h103 a0 5)).1 = 3 ∧
                      inA S ((gR h103 (gR h103 a0 5) 1)) 20 x1 ∧
                      ∀ h120 : Hp, h120 = (pI h103 ((gR h103 (gR h103 a0 5) 1)) (ix x1) r23) →
                      (S (gR h120 a0 5)).1 = 3 ∧
                      inA S ((gR h120 (gR h120 a0 5) 2)) 20 x1 ∧
                      ∀ h130 : Hp, h130 = (pI h120 ((gR h120 (gR h120 a0 5) 2)) (ix x1) r54) →
                      (S (gR h130 a0 5)).1 = 3 ∧
                      (wX5_number S h130 a0 (fun r140 h140 =>
                       inA S ((gR h130 (gR h130 a0 5) 3)) 20 x1 ∧
                       ∀ h143 : Hp, h143 = (pI h140 ((gR h130 (gR h130 a0 5) 3)) (ix x1) r140) →
                       (S (gR h143 a0 5)).1 = 3 ∧
                       ∀ h150 : Hp, h150 = (pI h143 (gR h143 a0 5) 12 xv71) →
                       (S (gR h150 a0 5)).1 = 3 ∧
                       (wX5_advance S ((pI h150 (gR h150 a0 5) 11 (((gI h150 (gR h150 a0 5) 11) + (1 : Int32))))) a0 (fun h167 =>
                        Q (1 : Int32) h167))))) ∧
                      (r103 = 0 →
                       Q (0 : Int32) h103))))))))))) ∧
                (¬ xv71 ≤ (100 : Int32) →
                 (wX5_fail S h54 a0 (4 : Int32) (fun r82 h82 =>
                  r82 &&& 1 = r82 ∧
                  Q r82 h82))))))) ∧
              (r45 = 0 →
               Q (0 : Int32) h45))))))))))))) ∧
       (r14 = 0 →
        Q (0 : Int32) h14))))))))
noncomputable def wX5_startCode (S : Sh) (h : Hp) (a0 : Nat) (Q : Int32 → Hp → Prop) : Prop :=
  (S a0).1 = 6 ∧
  ∀ h2 : Hp, h2 = (pI h a0 9 (0 : Int32)) →
  (S (gR h2 a0 4)).1 = 4 ∧
  Q ((gI h2 (gR h2 a0 4) 6)) h2
noncomputable def wX5_stopCode (S : Sh) (h : Hp) (a0 : Nat) (Q : Int32 → Hp → Prop) : Prop :=
  (S a0).1 = 6 ∧
  (S (gR h a0 4)).1 = 4 ∧
  (wX3_emit S h (gR h a0 4) (3000 : Int32) (fun h7 =>
   Q (1 : Int32) h7))
noncomputable def wX5_readGiving (S : Sh) (h : Hp) (a0 : Nat) (Q : Int32 → Hp → Prop) : Prop :=
  (S a0).1 = 6 ∧
  (wX5_kind S h a0 (fun r1 h1 =>
   ((r1 = (302 : Int32) →
    (wX5_code S h1 a0 (fun r18 h18 =>
     (wX5_slotOf S h18 a0 r18 (fun r21 h21 =>
      ((r21 = (-1 : Int32) →
       (wX5_fail S h21 a0 (3 : Int32) (fun r46 h46 =>
        r46 &&& 1 = r46 ∧
        Q r46 h46))) ∧
       (¬ r21 = (-1 : Int32) →
        (S (gR h21 a0 6)).1 = 1 ∧
        ((((shr32 ((gI h21 (gR h21 a0 6) 8)) r21) &&& (1 : Int32)) = 0 →
         (wX5_advance S h21 a0 (fun h51 =>
          (S (gR h51 a0 6)).1 = 1 ∧
          ∀ h66 : Hp, h66 = (pI h51 (gR h51 a0 6) 8 (((gI h51 (gR h51 a0 6) 8) ||| (shl32 (1 : Int32) r21)))) →
          (S (gR h66 a0 6)).1 = 1 ∧
          (wX5_startCode S h66 a0 (fun r78 h78 =>
           inA S ((gR h66 (gR h66 a0 6) 0)) 20 r21 ∧
           (wX5_pass S ((pI h78 ((gR h66 (gR h66 a0 6) 0)) (ix r21) r78)) a0 (61 : Int32) (fun r85 h85 =>
            ((r85 = 0 →
             Q (0 : Int32) h85) ∧
             (¬ r85 = 0 →
              (wX5_readSum S h85 a0 (0 : Int32) (fun r93 h93 =>
               ((r93 = 0 →
                Q (0 : Int32) h93) ∧
                (¬ r93 = 0 →
                 (wX5_stopCode S h93 a0 (fun r100 h100 =>
                  ((r100 = 0 →
                   Q (0 : Int32) h100) ∧
                   (¬ r100 = 0 →
                    Q (1 : Int32) h100))))))))))))))))) ∧
         (¬ ((shr32 ((gI h21 (gR h21 a0 6) 8)) r21) &&& (1 : Int32)) = 0 →
          (wX5_fail S h21 a0 (3 : Int32) (fun r46 h46 =>
           r46 &&& 1 = r46 ∧
           Q r46 h46))))))))))) ∧
    (¬ r1 = (302 : Int32) →
     (wX5_fail S h1 a0 (1 : Int32) (fun r12 h12 =>
      r12 &&& 1 = r12 ∧
      Q r12 h12))))))
noncomputable def wX5_readGivings_21b (S : Sh) (a0 : Nat) (Q : Int32 → Hp → Prop) (B21 : Hp → Int32 → Prop) (h : Hp) (x1 : Int32) : Prop :=
  (((3 : Int32) ≤ x1 →
   Q (1 : Int32) h) ∧
   (¬ (3 : Int32) ≤ x1 →
    (S a0).1 = 6 ∧
    (wX5_kind S h a0 (fun r27 h27 =>
     ((¬ r27 = (44 : Int32) →
      Q (1 : Int32) h27) ∧
      (r27 = (44 : Int32) →
       (wX5_advance S h27 a0 (fun h36 =>
        (wX5_readGiving S h36 a0 (fun r40 h40 =>
         ((¬ r40 = 0 →
          (B21 h40 ((x1 + (1 : Int32))))) ∧
          (r40 = 0 →
           Q (0 : Int32) h40))))))))))))
noncomputable def wX5_readGivings_21 (S : Sh) (a0 : Nat) (Q : Int32 → Hp → Prop) (n : Nat) : Hp → Int32 → Prop := Nat.rec (motive := fun _ => Hp → Int32 → Prop) (fun _ _ => False) (fun _ B21 h x1 => wX5_readGivings_21b S a0 Q B21 h x1) n
noncomputable def wX5_readGivings (S : Sh) (h : Hp) (a0 : Nat) (Q : Int32 → Hp → Prop) : Prop :=
  (S a0).1 = 6 ∧
  (wX5_pass S h a0 (410 : Int32) (fun r4 h4 =>
   ((r4 = 0 →
    Q (0 : Int32) h4) ∧
    (¬ r4 = 0 →
     (wX5_readGiving S h4 a0 (fun r11 h11 =>
      ((¬ r11 = 0 →
       (∃ n21, wX5_readGivings_21 S a0 Q n21 h11 (0 : Int32))) ∧
       (r11 = 0 →
        Q (0 : Int32) h11))))))))
noncomputable def wX5_readOf_j90 (S : Sh) (h : Hp) (a0 : Nat) (Q : Int32 → Hp → Prop) : Prop :=
  (S a0).1 = 6 ∧
  (S (gR h a0 6)).1 = 1 ∧
  ((¬ (gI h (gR h a0 6) 5) = (-2 : Int32) →
   (wX5_advance S h a0 (fun h109 =>
    Q (1 : Int32) h109))) ∧
   ((gI h (gR h a0 6) 5) = (-2 : Int32) →
    (wX5_fail S h a0 (3 : Int32) (fun r104 h104 =>
     r104 &&& 1 = r104 ∧
     Q r104 h104))))
noncomputable def wX5_readOf_51b (S : Sh) (a0 : Nat) (a1 : Nat) (Q : Int32 → Hp → Prop) (B51 : Hp → Int32 → Prop) (h : Hp) (x2 : Int32) : Prop :=
  (S a1).1 = 3 ∧
  (((gI h a1 14) ≤ x2 →
   (wX5_readOf_j90 S h a0 Q)) ∧
   (¬ (gI h a1 14) ≤ x2 →
    inA S (gR h a1 5) 24 x2 ∧
    (S ((gR h (gR h a1 5) (ix x2)))).1 = 1 ∧
    (S a0).1 = 6 ∧
    (wX5_code S h a0 (fun r69 h69 =>
     ((¬ (lg_cmp ((gJ h ((gR h (gR h a1 5) (ix x2))) 4)) r69) = 0 →
      (B51 h69 ((x2 + (1 : Int32))))) ∧
      ((lg_cmp ((gJ h ((gR h (gR h a1 5) (ix x2))) 4)) r69) = 0 →
       (S (gR h69 a0 6)).1 = 1 ∧
       (B51 ((pI h69 (gR h69 a0 6) 5 x2)) ((x2 + (1 : Int32))))))))))
noncomputable def wX5_readOf_51 (S : Sh) (a0 : Nat) (a1 : Nat) (Q : Int32 → Hp → Prop) (n : Nat) : Hp → Int32 → Prop := Nat.rec (motive := fun _ => Hp → Int32 → Prop) (fun _ _ => False) (fun _ B51 h x2 => wX5_readOf_51b S a0 a1 Q B51 h x2) n
noncomputable def wX5_readOf (S : Sh) (h : Hp) (a0 : Nat) (Q : Int32 → Hp → Prop) : Prop :=
  (S a0).1 = 6 ∧
  (wX5_advance S h a0 (fun h1 =>
   (wX5_kind S h1 a0 (fun r5 h5 =>
    ((r5 = (302 : Int32) →
     (S (gR h5 a0 4)).1 = 4 ∧
     (((gI h5 (gR h5 a0 4) 5) ≤ (1 : Int32) →
      (wX5_readOf_j90 S h5 a0 Q)) ∧
      (¬ (gI h5 (gR h5 a0 4) 5) ≤ (1 : Int32) →
       inA S ((gR h5 (gR h5 a0 4) 0)) 25 (((gI h5 (gR h5 a0 4) 5) - (2 : Int32))) ∧
       ∀ av48 : Nat, av48 = (gR h5 ((gR h5 (gR h5 a0 4) 0)) (ix (((gI h5 (gR h5 a0 4) 5) - (2 : Int32))))) →
       (∃ n51, wX5_readOf_51 S a0 av48 Q n51 h5 (0 : Int32))))) ∧
     (¬ r5 = (302 : Int32) →
      (wX5_fail S h5 a0 (1 : Int32) (fun r16 h16 =>
       r16 &&& 1 = r16 ∧
       Q r16 h16))))))))
noncomputable def wX5_readPicks (S : Sh) (h : Hp) (a0 : Nat) (Q : Int32 → Hp → Prop) : Prop :=
  (S a0).1 = 6 ∧
  (wX5_advance S h a0 (fun h1 =>
   (wX5_isWhole S h1 a0 (0 : Int32) (99 : Int32) (fun r8 h8 =>
    ((¬ r8 = 0 →
     (wX5_number S h8 a0 (fun r21 h21 =>
      (S (gR h8 a0 6)).1 = 1 ∧
      (wX5_advance S ((pI h21 (gR h8 a0 6) 6 r21)) a0 (fun h28 =>
       (wX5_pass S h28 a0 (403 : Int32) (fun r35 h35 =>
        ((r35 = 0 →
         Q (0 : Int32) h35) ∧
         (¬ r35 = 0 →
          (S (gR h35 a0 6)).1 = 1 ∧
          (wX5_isWhole S h35 a0 ((gI h35 (gR h35 a0 6) 6)) (99 : Int32) (fun r51 h51 =>
           ((¬ r51 = 0 →
            (wX5_number S h51 a0 (fun r64 h64 =>
             (S (gR h51 a0 6)).1 = 1 ∧
             ∀ h67 : Hp, h67 = (pI h64 (gR h51 a0 6) 7 r64) →
             (S (gR h67 a0 6)).1 = 1 ∧
             ((((gI h67 (gR h67 a0 6) 7) - (gI h67 (gR h67 a0 6) 6)) < (10 : Int32) →
              (wX5_advance S h67 a0 (fun h97 =>
               Q (1 : Int32) h97))) ∧
              (¬ ((gI h67 (gR h67 a0 6) 7) - (gI h67 (gR h67 a0 6) 6)) < (10 : Int32) →
               (wX5_fail S h67 a0 (4 : Int32) (fun r92 h92 =>
                r92 &&& 1 = r92 ∧
                Q r92 h92))))))) ∧
            (r51 = 0 →
             Q (0 : Int32) h51))))))))))))) ∧
     (r8 = 0 →
      Q (0 : Int32) h8))))))
noncomputable def wX5_readEvent_j127 (S : Sh) (h : Hp) (a0 : Nat) (Q : Int32 → Hp → Prop) : Prop :=
  (S a0).1 = 6 ∧
  (wX5_pass S h a0 (409 : Int32) (fun r131 h131 =>
   ((¬ r131 = 0 →
    (wX5_startCode S h131 a0 (fun r144 h144 =>
     (S (gR h131 a0 6)).1 = 1 ∧
     (wX5_readTest S ((pI h144 (gR h131 a0 6) 9 r144)) a0 (0 : Int32) (fun r152 h152 =>
      ((r152 = 0 →
       Q (0 : Int32) h152) ∧
       (¬ r152 = 0 →
        (wX5_stopCode S h152 a0 (fun r159 h159 =>
         ((r159 = 0 →
          Q (0 : Int32) h159) ∧
          (¬ r159 = 0 →
           (wX5_readGivings S h159 a0 (fun r166 h166 =>
            ((r166 = 0 →
             Q (0 : Int32) h166) ∧
             (¬ r166 = 0 →
              Q (1 : Int32) h166))))))))))))))) ∧
    (r131 = 0 →
     Q (0 : Int32) h131))))
noncomputable def wX5_readEvent_j110 (S : Sh) (h : Hp) (a0 : Nat) (Q : Int32 → Hp → Prop) : Prop :=
  (S a0).1 = 6 ∧
  (wX5_kind S h a0 (fun r111 h111 =>
   ((¬ r111 = (408 : Int32) →
    (wX5_readEvent_j127 S h111 a0 Q)) ∧
    (r111 = (408 : Int32) →
     (wX5_readPicks S h111 a0 (fun r121 h121 =>
      ((r121 = 0 →
       Q (0 : Int32) h121) ∧
       (¬ r121 = 0 →
        (wX5_readEvent_j127 S h121 a0 Q)))))))))
noncomputable def wX5_readEvent (S : Sh) (h : Hp) (a0 : Nat) (Q : Int32 → Hp → Prop) : Prop :=
  (S a0).1 = 6 ∧
  (S (gR h a0 5)).1 = 3 ∧
  ((¬ (gI h (gR h a0 5) 11) = 0 →
   (((gI h (gR h a0 5) 14) < (4 : Int32) →
    (wX5_advance S h a0 (fun h34 =>
     (wX5_isNewName S h34 a0 (fun r38 h38 =>
      ((¬ r38 = 0 →
       (S (gR h38 a0 5)).1 = 3 ∧
       inA S ((gR h38 (gR h38 a0 5) 5)) 24 ((gI h38 (gR h38 a0 5) 14)) ∧
       ∀ h62 : Hp, h62 = (pR h38 a0 6 ((gR h38 ((gR h38 (gR h38 a0 5) 5)) (ix ((gI h38 (gR h38 a0 5) 14)))))) →
       (wX5_code S h62 a0 (fun r70 h70 =>
        (S (gR h62 a0 6)).1 = 1 ∧
        (wX0_clear S h70 (gR h62 a0 6) r70 (fun h73 =>
         (S (gR h73 a0 5)).1 = 3 ∧
         (wX5_advance S ((pI h73 (gR h73 a0 5) 14 (((gI h73 (gR h73 a0 5) 14) + (1 : Int32))))) a0 (fun h90 =>
          (wX5_kind S h90 a0 (fun r94 h94 =>
           ((¬ r94 = (407 : Int32) →
            (wX5_readEvent_j110 S h94 a0 Q)) ∧
            (r94 = (407 : Int32) →
             (wX5_readOf S h94 a0 (fun r104 h104 =>
              ((r104 = 0 →
               Q (0 : Int32) h104) ∧
               (¬ r104 = 0 →
                (wX5_readEvent_j110 S h104 a0 Q)))))))))))))))) ∧
       (r38 = 0 →
        Q (0 : Int32) h38))))))) ∧
    (¬ (gI h (gR h a0 5) 14) < (4 : Int32) →
     (wX5_fail S h a0 (4 : Int32) (fun r29 h29 =>
      r29 &&& 1 = r29 ∧
      Q r29 h29))))) ∧
   ((gI h (gR h a0 5) 11) = 0 →
    (wX5_fail S h a0 (5 : Int32) (fun r12 h12 =>
     r12 &&& 1 = r12 ∧
     Q r12 h12))))
noncomputable def wX5_readLaw (S : Sh) (h : Hp) (a0 : Nat) (Q : Int32 → Hp → Prop) : Prop :=
  (S a0).1 = 6 ∧
  (S (gR h a0 5)).1 = 3 ∧
  ((¬ (gI h (gR h a0 5) 11) = 0 →
   (((gI h (gR h a0 5) 13) < (4 : Int32) →
    (wX5_advance S h a0 (fun h34 =>
     (S (gR h34 a0 5)).1 = 3 ∧
     (wX5_startCode S h34 a0 (fun r52 h52 =>
      inA S ((gR h34 (gR h34 a0 5) 4)) 20 ((gI h34 (gR h34 a0 5) 13)) ∧
      ∀ h55 : Hp, h55 = (pI h52 ((gR h34 (gR h34 a0 5) 4)) (ix ((gI h34 (gR h34 a0 5) 13))) r52) →
      (S (gR h55 a0 5)).1 = 3 ∧
      (wX5_readTest S ((pI h55 (gR h55 a0 5) 13 (((gI h55 (gR h55 a0 5) 13) + (1 : Int32))))) a0 (0 : Int32) (fun r71 h71 =>
       ((r71 = 0 →
        Q (0 : Int32) h71) ∧
        (¬ r71 = 0 →
         (wX5_stopCode S h71 a0 (fun r78 h78 =>
          ((r78 = 0 →
           Q (0 : Int32) h78) ∧
           (¬ r78 = 0 →
            Q (1 : Int32) h78))))))))))))) ∧
    (¬ (gI h (gR h a0 5) 13) < (4 : Int32) →
     (wX5_fail S h a0 (4 : Int32) (fun r29 h29 =>
      r29 &&& 1 = r29 ∧
      Q r29 h29))))) ∧
   ((gI h (gR h a0 5) 11) = 0 →
    (wX5_fail S h a0 (5 : Int32) (fun r12 h12 =>
     r12 &&& 1 = r12 ∧
     Q r12 h12))))
noncomputable def wX5_readMachine_j43 (S : Sh) (h : Hp) (a0 : Nat) (Q : Int32 → Hp → Prop) : Prop :=
  (S a0).1 = 6 ∧
  (wX5_advance S h a0 (fun h44 =>
   (wX5_isNewName S h44 a0 (fun r48 h48 =>
    ((¬ r48 = 0 →
     (S (gR h48 a0 4)).1 = 4 ∧
     inA S ((gR h48 (gR h48 a0 4) 0)) 25 ((gI h48 (gR h48 a0 4) 5)) ∧
     ∀ h72 : Hp, h72 = (pR h48 a0 5 ((gR h48 ((gR h48 (gR h48 a0 4) 0)) (ix ((gI h48 (gR h48 a0 4) 5)))))) →
     (wX5_code S h72 a0 (fun r80 h80 =>
      (S (gR h72 a0 5)).1 = 3 ∧
      (wX2_clear S h80 (gR h72 a0 5) r80 (fun h83 =>
       (S (gR h83 a0 4)).1 = 4 ∧
       (wX5_advance S ((pI h83 (gR h83 a0 4) 5 (((gI h83 (gR h83 a0 4) 5) + (1 : Int32))))) a0 (fun h100 =>
        Q (1 : Int32) h100))))))) ∧
     (r48 = 0 →
      Q (0 : Int32) h48))))))
noncomputable def wX5_readMachine (S : Sh) (h : Hp) (a0 : Nat) (Q : Int32 → Hp → Prop) : Prop :=
  (S a0).1 = 6 ∧
  (S (gR h a0 4)).1 = 4 ∧
  (((gI h (gR h a0 4) 5) < (3 : Int32) →
   (((gI h (gR h a0 4) 5) ≤ 0 →
    (wX5_readMachine_j43 S h a0 Q)) ∧
    (¬ (gI h (gR h a0 4) 5) ≤ 0 →
     (S (gR h a0 5)).1 = 3 ∧
     ((¬ (gI h (gR h a0 5) 11) = 0 →
      (wX5_readMachine_j43 S h a0 Q)) ∧
      ((gI h (gR h a0 5) 11) = 0 →
       (wX5_fail S h a0 (5 : Int32) (fun r39 h39 =>
        r39 &&& 1 = r39 ∧
        Q r39 h39))))))) ∧
   (¬ (gI h (gR h a0 4) 5) < (3 : Int32) →
    (wX5_fail S h a0 (4 : Int32) (fun r13 h13 =>
     r13 &&& 1 = r13 ∧
     Q r13 h13))))
noncomputable def wX5_readVariable (S : Sh) (h : Hp) (a0 : Nat) (Q : Int32 → Hp → Prop) : Prop :=
  (S a0).1 = 6 ∧
  (S (gR h a0 4)).1 = 4 ∧
  ((¬ (gI h (gR h a0 4) 5) = 0 →
   (S (gR h a0 5)).1 = 3 ∧
   (((3 : Int32) ≤ (gI h (gR h a0 5) 11) →
    (wX5_fail S h a0 (4 : Int32) (fun r41 h41 =>
     r41 &&& 1 = r41 ∧
     Q r41 h41))) ∧
    (¬ (3 : Int32) ≤ (gI h (gR h a0 5) 11) →
     (wX2_hasOtherLines S h (gR h a0 5) (fun r33 h33 =>
      ((r33 = 0 →
       (wX5_advance S h33 a0 (fun h46 =>
        (wX5_isNewName S h46 a0 (fun r50 h50 =>
         ((¬ r50 = 0 →
          (S (gR h50 a0 5)).1 = 3 ∧
          (wX5_code S h50 a0 (fun r67 h67 =>
           inA S ((gR h50 (gR h50 a0 5) 0)) 23 ((gI h (gR h a0 5) 11)) ∧
           (wX5_advance S ((pJ h67 ((gR h50 (gR h50 a0 5) 0)) (ix ((gI h (gR h a0 5) 11))) r67)) a0 (fun h72 =>
            (wX5_readBounds S h72 a0 ((gI h (gR h a0 5) 11)) (fun r77 h77 =>
             r77 &&& 1 = r77 ∧
             Q r77 h77))))))) ∧
          (r50 = 0 →
           Q (0 : Int32) h50))))))) ∧
       (¬ r33 = 0 →
        (wX5_fail S h33 a0 (4 : Int32) (fun r41 h41 =>
         r41 &&& 1 = r41 ∧
         Q r41 h41))))))))) ∧
   ((gI h (gR h a0 4) 5) = 0 →
    (wX5_fail S h a0 (5 : Int32) (fun r12 h12 =>
     r12 &&& 1 = r12 ∧
     Q r12 h12))))
noncomputable def wX5_readVariant (S : Sh) (h : Hp) (a0 : Nat) (Q : Int32 → Hp → Prop) : Prop :=
  (S a0).1 = 6 ∧
  (S (gR h a0 5)).1 = 3 ∧
  ((¬ (gI h (gR h a0 5) 11) = 0 →
   (((gI h (gR h a0 5) 15) = (-1 : Int32) →
    (wX5_advance S h a0 (fun h34 =>
     (wX5_startCode S h34 a0 (fun r42 h42 =>
      (S (gR h34 a0 5)).1 = 3 ∧
      (wX5_readSum S ((pI h42 (gR h34 a0 5) 15 r42)) a0 (0 : Int32) (fun r50 h50 =>
       ((r50 = 0 →
        Q (0 : Int32) h50) ∧
        (¬ r50 = 0 →
         (wX5_stopCode S h50 a0 (fun r57 h57 =>
          ((r57 = 0 →
           Q (0 : Int32) h57) ∧
           (¬ r57 = 0 →
            Q (1 : Int32) h57))))))))))))) ∧
    (¬ (gI h (gR h a0 5) 15) = (-1 : Int32) →
     (wX5_fail S h a0 (4 : Int32) (fun r29 h29 =>
      r29 &&& 1 = r29 ∧
      Q r29 h29))))) ∧
   ((gI h (gR h a0 5) 11) = 0 →
    (wX5_fail S h a0 (5 : Int32) (fun r12 h12 =>
     r12 &&& 1 = r12 ∧
     Q r12 h12))))
noncomputable def wX5_readLines_j192 (S : Sh) (h : Hp) (Q : Int32 → Hp → Prop) : Prop :=
  Q (1 : Int32) h
noncomputable def wX5_readLines_j174 (S : Sh) (h : Hp) (a0 : Nat) (Q : Int32 → Hp → Prop) : Prop :=
  (S a0).1 = 6 ∧
  (S (gR h a0 5)).1 = 3 ∧
  ((0 < (gI h (gR h a0 5) 11) →
   (wX5_readLines_j192 S h Q)) ∧
   (¬ 0 < (gI h (gR h a0 5) 11) →
    (wX5_fail S h a0 (5 : Int32) (fun r186 h186 =>
     ((r186 = 0 →
      Q (0 : Int32) h186) ∧
      (¬ r186 = 0 →
       (wX5_readLines_j192 S h186 Q)))))))
noncomputable def wX5_readLines_j158 (S : Sh) (B2 : Hp → Int32 → Prop) (h : Hp) (a0 : Nat) (x1 : Int32) (x2 : Int32) (Q : Int32 → Hp → Prop) : Prop :=
  ((¬ x2 = 0 →
   (S a0).1 = 6 ∧
   (wX5_kind S h a0 (fun r165 h165 =>
    ((¬ r165 = (300 : Int32) →
     (wX5_pass S h165 a0 (59 : Int32) (fun r201 h201 =>
      ((¬ r201 = 0 →
       (B2 h201 ((x1 + (1 : Int32))))) ∧
       (r201 = 0 →
        Q (0 : Int32) h201))))) ∧
     (r165 = (300 : Int32) →
      (wX5_readLines_j174 S h165 a0 Q)))))) ∧
   (x2 = 0 →
    Q (0 : Int32) h))
noncomputable def wX5_readLines_j152 (S : Sh) (B2 : Hp → Int32 → Prop) (h : Hp) (a0 : Nat) (x1 : Int32) (Q : Int32 → Hp → Prop) : Prop :=
  (S a0).1 = 6 ∧
  (wX5_fail S h a0 (1 : Int32) (fun r154 h154 =>
   (wX5_readLines_j158 S B2 h154 a0 x1 r154 Q)))
noncomputable def wX5_readLines_j44 (S : Sh) (B2 : Hp → Int32 → Prop) (h : Hp) (a0 : Nat) (x1 : Int32) (s0 : Nat) (s1 : Int32) (Q : Int32 → Hp → Prop) : Prop :=
  (S s0).1 = 6 ∧
  s1 &&& 1 = s1 ∧
  (S a0).1 = 6 ∧
  (wX5_kind S (pI h s0 11 s1) a0 (fun r48 h48 =>
   ((r48 = (400 : Int32) →
    (wX5_readMachine S h48 a0 (fun r113 h113 =>
     (wX5_readLines_j158 S B2 h113 a0 x1 r113 Q)))) ∧
    (¬ r48 = (400 : Int32) →
     ((r48 = (401 : Int32) →
      (wX5_readVariable S h48 a0 (fun r121 h121 =>
       (wX5_readLines_j158 S B2 h121 a0 x1 r121 Q)))) ∧
      (¬ r48 = (401 : Int32) →
       ((r48 = (402 : Int32) →
        (wX5_readLines_j152 S B2 h48 a0 x1 Q)) ∧
        (¬ r48 = (402 : Int32) →
         ((r48 = (403 : Int32) →
          (wX5_readLines_j152 S B2 h48 a0 x1 Q)) ∧
          (¬ r48 = (403 : Int32) →
           ((r48 = (404 : Int32) →
            (wX5_readLines_j152 S B2 h48 a0 x1 Q)) ∧
            (¬ r48 = (404 : Int32) →
             ((r48 = (405 : Int32) →
              (wX5_readLaw S h48 a0 (fun r129 h129 =>
               (wX5_readLines_j158 S B2 h129 a0 x1 r129 Q)))) ∧
              (¬ r48 = (405 : Int32) →
               ((r48 = (406 : Int32) →
                (wX5_readEvent S h48 a0 (fun r137 h137 =>
                 (wX5_readLines_j158 S B2 h137 a0 x1 r137 Q)))) ∧
                (¬ r48 = (406 : Int32) →
                 ((r48 = (407 : Int32) →
                  (wX5_readLines_j152 S B2 h48 a0 x1 Q)) ∧
                  (¬ r48 = (407 : Int32) →
                   ((r48 = (408 : Int32) →
                    (wX5_readLines_j152 S B2 h48 a0 x1 Q)) ∧
                    (¬ r48 = (408 : Int32) →
                     ((r48 = (409 : Int32) →
                      (wX5_readLines_j152 S B2 h48 a0 x1 Q)) ∧
                      (¬ r48 = (409 : Int32) →
                       ((r48 = (410 : Int32) →
                        (wX5_readLines_j152 S B2 h48 a0 x1 Q)) ∧
                        (¬ r48 = (410 : Int32) →
                         ((r48 = (411 : Int32) →
                          (wX5_readVariant S h48 a0 (fun r145 h145 =>
                           (wX5_readLines_j158 S B2 h145 a0 x1 r145 Q)))) ∧
                          (¬ r48 = (411 : Int32) →
                           (wX5_readLines_j152 S B2 h48 a0 x1 Q)))))))))))))))))))))))))))
noncomputable def wX5_readLines_j25 (S : Sh) (B2 : Hp → Int32 → Prop) (h : Hp) (a0 : Nat) (x1 : Int32) (s0 : Nat) (s1 : Int32) (Q : Int32 → Hp → Prop) : Prop :=
  (S s0).1 = 6 ∧
  s1 &&& 1 = s1 ∧
  (S a0).1 = 6 ∧
  (wX5_kind S (pI h s0 10 s1) a0 (fun r30 h30 =>
   ((¬ r30 = (406 : Int32) →
    (wX5_readLines_j44 S B2 h30 a0 x1 a0 (0 : Int32) Q)) ∧
    (r30 = (406 : Int32) →
     (wX5_readLines_j44 S B2 h30 a0 x1 a0 (1 : Int32) Q)))))
noncomputable def wX5_readLines_2b (S : Sh) (a0 : Nat) (Q : Int32 → Hp → Prop) (B2 : Hp → Int32 → Prop) (h : Hp) (x1 : Int32) : Prop :=
  (((600 : Int32) < x1 →
   (S a0).1 = 6 ∧
   (wX5_fail S h a0 (1 : Int32) (fun r217 h217 =>
    r217 &&& 1 = r217 ∧
    Q r217 h217))) ∧
   (¬ (600 : Int32) < x1 →
    (S a0).1 = 6 ∧
    (wX5_kind S h a0 (fun r11 h11 =>
     ((¬ r11 = (405 : Int32) →
      (wX5_readLines_j25 S B2 h11 a0 x1 a0 (0 : Int32) Q)) ∧
      (r11 = (405 : Int32) →
       (wX5_readLines_j25 S B2 h11 a0 x1 a0 (1 : Int32) Q)))))))
noncomputable def wX5_readLines_2 (S : Sh) (a0 : Nat) (Q : Int32 → Hp → Prop) (n : Nat) : Hp → Int32 → Prop := Nat.rec (motive := fun _ => Hp → Int32 → Prop) (fun _ _ => False) (fun _ B2 h x1 => wX5_readLines_2b S a0 Q B2 h x1) n
noncomputable def wX5_readLines (S : Sh) (h : Hp) (a0 : Nat) (Q : Int32 → Hp → Prop) : Prop :=
  (∃ n2, wX5_readLines_2 S a0 Q n2 h (0 : Int32))
noncomputable def wX8_familyOf_j32 (S : Sh) (h : Hp) (x0 : Int32) (Q : Int32 → Hp → Prop) : Prop :=
  ((x0 = (32 : Int32) →
   Q (304 : Int32) h) ∧
   (¬ x0 = (32 : Int32) →
    ((x0 = (40 : Int32) →
     Q x0 h) ∧
     (¬ x0 = (40 : Int32) →
      ((x0 = (41 : Int32) →
       Q x0 h) ∧
       (¬ x0 = (41 : Int32) →
        ((x0 = (42 : Int32) →
         Q x0 h) ∧
         (¬ x0 = (42 : Int32) →
          ((x0 = (43 : Int32) →
           Q x0 h) ∧
           (¬ x0 = (43 : Int32) →
            ((x0 = (44 : Int32) →
             Q x0 h) ∧
             (¬ x0 = (44 : Int32) →
              ((x0 = (45 : Int32) →
               Q x0 h) ∧
               (¬ x0 = (45 : Int32) →
                ((x0 = (59 : Int32) →
                 Q x0 h) ∧
                 (¬ x0 = (59 : Int32) →
                  ((x0 = (60 : Int32) →
                   Q x0 h) ∧
                   (¬ x0 = (60 : Int32) →
                    ((x0 = (61 : Int32) →
                     Q x0 h) ∧
                     (¬ x0 = (61 : Int32) →
                      ((x0 = (62 : Int32) →
                       Q x0 h) ∧
                       (¬ x0 = (62 : Int32) →
                        ((x0 = (91 : Int32) →
                         Q x0 h) ∧
                         (¬ x0 = (91 : Int32) →
                          ((x0 = (93 : Int32) →
                           Q x0 h) ∧
                           (¬ x0 = (93 : Int32) →
                            Q (301 : Int32) h))))))))))))))))))))))))))
noncomputable def wX8_familyOf_j16 (S : Sh) (h : Hp) (x0 : Int32) (Q : Int32 → Hp → Prop) : Prop :=
  ((x0 < (48 : Int32) →
   (wX8_familyOf_j32 S h x0 Q)) ∧
   (¬ x0 < (48 : Int32) →
    (((57 : Int32) < x0 →
     (wX8_familyOf_j32 S h x0 Q)) ∧
     (¬ (57 : Int32) < x0 →
      Q (303 : Int32) h))))
noncomputable def wX8_familyOf (S : Sh) (h : Hp) (x0 : Int32) (Q : Int32 → Hp → Prop) : Prop :=
  ((x0 < (97 : Int32) →
   (wX8_familyOf_j16 S h x0 Q)) ∧
   (¬ x0 < (97 : Int32) →
    (((122 : Int32) < x0 →
     (wX8_familyOf_j16 S h x0 Q)) ∧
     (¬ (122 : Int32) < x0 →
      Q (302 : Int32) h))))
noncomputable def wX8_kindOfWord_2b (S : Sh) (a0 : Nat) (j1 : Int64) (Q : Int32 → Hp → Prop) (B2 : Hp → Int32 → Prop) (h : Hp) (x3 : Int32) : Prop :=
  (((16 : Int32) ≤ x3 →
   Q (302 : Int32) h) ∧
   (¬ (16 : Int32) ≤ x3 →
    (S a0).1 = 9 ∧
    inA S (gR h a0 3) 23 x3 ∧
    ((¬ (lg_cmp ((gJ h (gR h a0 3) (ix x3))) j1) = 0 →
     (B2 h ((x3 + (1 : Int32))))) ∧
     ((lg_cmp ((gJ h (gR h a0 3) (ix x3))) j1) = 0 →
      Q (((400 : Int32) + x3)) h))))
noncomputable def wX8_kindOfWord_2 (S : Sh) (a0 : Nat) (j1 : Int64) (Q : Int32 → Hp → Prop) (n : Nat) : Hp → Int32 → Prop := Nat.rec (motive := fun _ => Hp → Int32 → Prop) (fun _ _ => False) (fun _ B2 h x3 => wX8_kindOfWord_2b S a0 j1 Q B2 h x3) n
noncomputable def wX8_kindOfWord (S : Sh) (h : Hp) (a0 : Nat) (j1 : Int64) (Q : Int32 → Hp → Prop) : Prop :=
  (∃ n2, wX8_kindOfWord_2 S a0 j1 Q n2 h (0 : Int32))
noncomputable def wX8_lengthen_j103 (S : Sh) (h : Hp) (a0 : Nat) (x1 : Int32) (x3 : Int32) (Q : Hp → Prop) : Prop :=
  ((x1 = (302 : Int32) →
   (S a0).1 = 9 ∧
   inA S (gR h a0 0) 20 x3 ∧
   Q ((pI h (gR h a0 0) (ix x3) (301 : Int32)))) ∧
   (¬ x1 = (302 : Int32) →
    ((¬ x1 = (303 : Int32) →
     Q h) ∧
     (x1 = (303 : Int32) →
      (S a0).1 = 9 ∧
      inA S (gR h a0 0) 20 x3 ∧
      Q ((pI h (gR h a0 0) (ix x3) (301 : Int32)))))))
noncomputable def wX8_lengthen_j63 (S : Sh) (h : Hp) (a0 : Nat) (x1 : Int32) (x2 : Int32) (x3 : Int32) (Q : Hp → Prop) : Prop :=
  ((¬ x1 = (303 : Int32) →
   (wX8_lengthen_j103 S h a0 x1 x3 Q)) ∧
   (x1 = (303 : Int32) →
    (S a0).1 = 9 ∧
    (((3 : Int32) < (gI h a0 5) →
     (wX8_lengthen_j103 S h a0 x1 x3 Q)) ∧
     (¬ (3 : Int32) < (gI h a0 5) →
      inA S (gR h a0 2) 23 x3 ∧
      Q ((pJ h (gR h a0 2) (ix x3) ((((gJ h (gR h a0 2) (ix x3)) * (10 : Int64)) + (((x2 - (48 : Int32))).toInt64)))))))))
noncomputable def wX8_lengthen (S : Sh) (h : Hp) (a0 : Nat) (x1 : Int32) (x2 : Int32) (Q : Hp → Prop) : Prop :=
  (S a0).1 = 9 ∧
  ∀ xv6 : Int32, xv6 = ((gI h a0 4) - (1 : Int32)) →
  ∀ h14 : Hp, h14 = (pI h a0 5 (((gI h a0 5) + (1 : Int32)))) →
  ((0 ≤ xv6 →
   ((¬ x1 = (302 : Int32) →
    (wX8_lengthen_j63 S h14 a0 x1 x2 xv6 Q)) ∧
    (x1 = (302 : Int32) →
     (((7 : Int32) < (gI h14 a0 5) →
      (wX8_lengthen_j63 S h14 a0 x1 x2 xv6 Q)) ∧
      (¬ (7 : Int32) < (gI h14 a0 5) →
       inA S (gR h14 a0 2) 23 xv6 ∧
       Q ((pJ h14 (gR h14 a0 2) (ix xv6) (((shl64 ((gJ h14 (gR h14 a0 2) (ix xv6))) (5 : Int32)) ||| ((((x2 - (97 : Int32)) + (1 : Int32))).toInt64)))))))))) ∧
   (¬ 0 ≤ xv6 →
    Q h14))
noncomputable def wX8_startToken (S : Sh) (h : Hp) (a0 : Nat) (x1 : Int32) (x2 : Int32) (x3 : Int32) (Q : Hp → Prop) : Prop :=
  (S a0).1 = 9 ∧
  inA S (gR h a0 0) 20 (gI h a0 4) ∧
  ∀ h9 : Hp, h9 = (pI h (gR h a0 0) (ix (gI h a0 4)) x1) →
  inA S (gR h9 a0 1) 20 (gI h9 a0 4) ∧
  ∀ h19 : Hp, h19 = (pI h9 (gR h9 a0 1) (ix (gI h9 a0 4)) x3) →
  inA S (gR h19 a0 2) 23 (gI h19 a0 4) ∧
  ∀ h29 : Hp, h29 = (pJ h19 (gR h19 a0 2) (ix (gI h19 a0 4)) (0 : Int64)) →
  ∀ h32 : Hp, h32 = (pI h29 a0 5 (0 : Int32)) →
  (wX8_lengthen S ((pI h32 a0 4 (((gI h32 a0 4) + (1 : Int32))))) a0 x1 x2 (fun h48 =>
   Q h48))
noncomputable def wX8_cut_j160 (S : Sh) (h : Hp) (a0 : Nat) (x2 : Int32) (Q : Hp → Prop) : Prop :=
  (S a0).1 = 9 ∧
  inA S (gR h a0 0) 20 (gI h a0 4) ∧
  ∀ h171 : Hp, h171 = (pI h (gR h a0 0) (ix (gI h a0 4)) (300 : Int32)) →
  inA S (gR h171 a0 1) 20 (gI h171 a0 4) ∧
  Q ((pI h171 (gR h171 a0 1) (ix (gI h171 a0 4)) x2))
noncomputable def wX8_cut_114b (S : Sh) (a0 : Nat) (x2 : Int32) (Q : Hp → Prop) (B114 : Hp → Int32 → Prop) (h : Hp) (x4 : Int32) : Prop :=
  (S a0).1 = 9 ∧
  (((gI h a0 4) ≤ x4 →
   (wX8_cut_j160 S h a0 x2 Q)) ∧
   (¬ (gI h a0 4) ≤ x4 →
    inA S (gR h a0 0) 20 x4 ∧
    ((¬ (gI h (gR h a0 0) (ix x4)) = (302 : Int32) →
     (B114 h ((x4 + (1 : Int32))))) ∧
     ((gI h (gR h a0 0) (ix x4)) = (302 : Int32) →
      inA S (gR h a0 2) 23 x4 ∧
      (wX8_kindOfWord S h a0 ((gJ h (gR h a0 2) (ix x4))) (fun r150 h150 =>
       (B114 ((pI h150 (gR h a0 0) (ix x4) r150)) ((x4 + (1 : Int32))))))))))
noncomputable def wX8_cut_114 (S : Sh) (a0 : Nat) (x2 : Int32) (Q : Hp → Prop) (n : Nat) : Hp → Int32 → Prop := Nat.rec (motive := fun _ => Hp → Int32 → Prop) (fun _ _ => False) (fun _ B114 h x4 => wX8_cut_114b S a0 x2 Q B114 h x4) n
noncomputable def wX8_cut_j111 (S : Sh) (h : Hp) (a0 : Nat) (x2 : Int32) (Q : Hp → Prop) : Prop :=
  (∃ n114, wX8_cut_114 S a0 x2 Q n114 h (0 : Int32))
noncomputable def wX8_cut_j66 (S : Sh) (B12 : Hp → Int32 → Int32 → Prop) (h : Hp) (a0 : Nat) (a1 : Nat) (x2 : Int32) (x4 : Int32) (x5 : Int32) (x6 : Int32) (s0 : Int32) (Q : Hp → Prop) : Prop :=
  ((s0 = 0 →
   ((x6 = (304 : Int32) →
    (B12 h x6 ((x4 + (1 : Int32))))) ∧
    (¬ x6 = (304 : Int32) →
     (S a0).1 = 9 ∧
     (wX8_startToken S h a0 x6 x5 x4 (fun h99 =>
      (B12 h99 x6 ((x4 + (1 : Int32))))))))) ∧
   (¬ s0 = 0 →
    (S a0).1 = 9 ∧
    (wX8_lengthen S h a0 x6 x5 (fun h78 =>
     (B12 h78 x6 ((x4 + (1 : Int32))))))))
noncomputable def wX8_cut_j65 (S : Sh) (B12 : Hp → Int32 → Int32 → Prop) (h : Hp) (a0 : Nat) (a1 : Nat) (x2 : Int32) (x4 : Int32) (x5 : Int32) (x6 : Int32) (Q : Hp → Prop) : Prop :=
  (wX8_cut_j66 S B12 h a0 a1 x2 x4 x5 x6 (0 : Int32) Q)
noncomputable def wX8_cut_j61 (S : Sh) (B12 : Hp → Int32 → Int32 → Prop) (h : Hp) (a0 : Nat) (a1 : Nat) (x2 : Int32) (x4 : Int32) (x5 : Int32) (x6 : Int32) (Q : Hp → Prop) : Prop :=
  (wX8_cut_j66 S B12 h a0 a1 x2 x4 x5 x6 (1 : Int32) Q)
noncomputable def wX8_cut_12b (S : Sh) (a0 : Nat) (a1 : Nat) (x2 : Int32) (Q : Hp → Prop) (B12 : Hp → Int32 → Int32 → Prop) (h : Hp) (x3 : Int32) (x4 : Int32) : Prop :=
  ((x2 ≤ x4 →
   (wX8_cut_j111 S h a0 x2 Q)) ∧
   (¬ x2 ≤ x4 →
    (((600 : Int32) ≤ x4 →
     (wX8_cut_j111 S h a0 x2 Q)) ∧
     (¬ (600 : Int32) ≤ x4 →
      inA S a1 21 x4 ∧
      (wX8_familyOf S h ((gI h a1 (ix x4))) (fun r34 h34 =>
       ((¬ r34 = x3 →
        (wX8_cut_j65 S B12 h34 a0 a1 x2 x4 ((gI h a1 (ix x4))) r34 Q)) ∧
        (r34 = x3 →
         ((r34 = (302 : Int32) →
          (wX8_cut_j61 S B12 h34 a0 a1 x2 x4 ((gI h a1 (ix x4))) r34 Q)) ∧
          (¬ r34 = (302 : Int32) →
           ((¬ r34 = (303 : Int32) →
            (wX8_cut_j65 S B12 h34 a0 a1 x2 x4 ((gI h a1 (ix x4))) r34 Q)) ∧
            (r34 = (303 : Int32) →
             (wX8_cut_j61 S B12 h34 a0 a1 x2 x4 ((gI h a1 (ix x4))) r34 Q)))))))))))))
noncomputable def wX8_cut_12 (S : Sh) (a0 : Nat) (a1 : Nat) (x2 : Int32) (Q : Hp → Prop) (n : Nat) : Hp → Int32 → Int32 → Prop := Nat.rec (motive := fun _ => Hp → Int32 → Int32 → Prop) (fun _ _ _ => False) (fun _ B12 h x3 x4 => wX8_cut_12b S a0 a1 x2 Q B12 h x3 x4) n
noncomputable def wX8_cut (S : Sh) (h : Hp) (a0 : Nat) (a1 : Nat) (x2 : Int32) (Q : Hp → Prop) : Prop :=
  (S a0).1 = 9 ∧
  (∃ n12, wX8_cut_12 S a0 a1 x2 Q n12 ((pI h a0 4 (0 : Int32))) (304 : Int32) (0 : Int32))
noncomputable def wX5_start (S : Sh) (h : Hp) (a0 : Nat) (a1 : Nat) (x2 : Int32) (a3 : Nat) (Q : Hp → Prop) : Prop :=
  (S a0).1 = 6 ∧
  (S (gR h a0 0)).1 = 9 ∧
  (wX8_cut S h (gR h a0 0) a1 x2 (fun h6 =>
   (S a3).1 = 4 ∧
   (wX3_clear S h6 a3 (fun h10 =>
    ∀ h15 : Hp, h15 = (pR h10 a0 4 a3) →
    inA S (gR h15 a3 0) 25 (0 : Int32) ∧
    ∀ h25 : Hp, h25 = (pR h15 a0 5 ((gR h15 (gR h15 a3 0) (ix (0 : Int32))))) →
    (S (gR h25 a0 5)).1 = 3 ∧
    inA S ((gR h25 (gR h25 a0 5) 5)) 24 (0 : Int32) ∧
    ∀ h38 : Hp, h38 = (pR h25 a0 6 ((gR h25 ((gR h25 (gR h25 a0 5) 5)) (ix (0 : Int32))))) →
    ∀ h43 : Hp, h43 = (pI h38 a0 7 (0 : Int32)) →
    ∀ h48 : Hp, h48 = (pI h43 a0 8 (0 : Int32)) →
    ∀ h53 : Hp, h53 = (pI h48 a0 2 (0 : Int32)) →
    Q ((pI h53 a0 3 (-1 : Int32)))))))
noncomputable def wX6_clear (S : Sh) (h : Hp) (a0 : Nat) (Q : Hp → Prop) : Prop :=
  (S a0).1 = 7 ∧
  Q ((pI h a0 1 (0 : Int32)))
noncomputable def wX6_init  (S : Sh) (z : Nat) (h : Hp) (a0 : Nat) (Q : Sh → Nat → Hp → Prop) : Prop :=
  (S a0).1 ≠ 0 ∧
  h0 h z ∧
  0 + 1 ≤ 1 ∧
  0 + 68 ≤ 68 ∧
  ((uS S z (21, 68)) a0).1 = 7 ∧
  1 ≤ 1 ∧ 68 ≤ 68 ∧ Q ((uS S z (21, 68))) (z + 1) (pR h a0 0 z)
noncomputable def wX6_put (S : Sh) (h : Hp) (a0 : Nat) (x1 : Int32) (Q : Hp → Prop) : Prop :=
  (S a0).1 = 7 ∧
  (S (gR h a0 0)).1 = 21 ∧
  (((nI (S (gR h a0 0)).2) ≤ (gI h a0 1) →
   Q h) ∧
   (¬ (nI (S (gR h a0 0)).2) ≤ (gI h a0 1) →
    inA S (gR h a0 0) 21 (gI h a0 1) ∧
    ∀ h22 : Hp, h22 = (pI h (gR h a0 0) (ix (gI h a0 1)) ((i2b (i2b x1)))) →
    Q ((pI h22 a0 1 (((gI h22 a0 1) + (1 : Int32)))))))
noncomputable def wX6_putNumber (S : Sh) (h : Hp) (a0 : Nat) (x1 : Int32) (Q : Hp → Prop) : Prop :=
  ((x1 ≤ (9 : Int32) →
   ¬ (10 : Int32) = 0 ∧
   (S a0).1 = 7 ∧
   (wX6_put S h a0 ((i2c (((48 : Int32) + (rem32 x1 (10 : Int32)))))) (fun h30 =>
    Q h30))) ∧
   (¬ x1 ≤ (9 : Int32) →
    ¬ (10 : Int32) = 0 ∧
    (S a0).1 = 7 ∧
    (wX6_put S h a0 ((i2c (((48 : Int32) + (rem32 ((x1 / (10 : Int32))) (10 : Int32)))))) (fun h18 =>
     (wX6_put S h18 a0 ((i2c (((48 : Int32) + (rem32 x1 (10 : Int32)))))) (fun h30 =>
      Q h30))))))
noncomputable def wX11_lengthOf_4b (S : Sh) (j0 : Int64) (Q : Int32 → Hp → Prop) (B4 : Hp → Int32 → Int32 → Prop) (h : Hp) (x2 : Int32) (x3 : Int32) : Prop :=
  (((7 : Int32) ≤ x3 →
   Q x2 h) ∧
   (¬ (7 : Int32) ≤ x3 →
    (((lg_cmp ((shr64 j0 (((5 : Int32) * x3)))) (0 : Int64)) = 0 →
     (B4 h x2 ((x3 + (1 : Int32))))) ∧
     (¬ (lg_cmp ((shr64 j0 (((5 : Int32) * x3)))) (0 : Int64)) = 0 →
      (B4 h ((x2 + (1 : Int32))) ((x3 + (1 : Int32))))))))
noncomputable def wX11_lengthOf_4 (S : Sh) (j0 : Int64) (Q : Int32 → Hp → Prop) (n : Nat) : Hp → Int32 → Int32 → Prop := Nat.rec (motive := fun _ => Hp → Int32 → Int32 → Prop) (fun _ _ _ => False) (fun _ B4 h x2 x3 => wX11_lengthOf_4b S j0 Q B4 h x2 x3) n
noncomputable def wX11_lengthOf (S : Sh) (h : Hp) (j0 : Int64) (Q : Int32 → Hp → Prop) : Prop :=
  (∃ n4, wX11_lengthOf_4 S j0 Q n4 h (0 : Int32) (0 : Int32))
noncomputable def wX11_letterOf (S : Sh) (h : Hp) (j0 : Int64) (x2 : Int32) (Q : Int32 → Hp → Prop) : Prop :=
  (wX11_lengthOf S h j0 (fun r1 h1 =>
   ∀ xv8 : Int32, xv8 = ((r1 - (1 : Int32)) - x2) →
   Q ((((((shr64 j0 (((5 : Int32) * xv8))) &&& (31 : Int64))).toInt32) - (1 : Int32))) h1))
noncomputable def wX6_putState_j56 (S : Sh) (B2 : Hp → Int32 → Prop) (h : Hp) (a0 : Nat) (a1 : Nat) (x2 : Int32) (x3 : Int32) (Q : Hp → Prop) : Prop :=
  (S a0).1 = 7 ∧
  (wX6_put S h a0 (61 : Int32) (fun h59 =>
   (S a1).1 = 3 ∧
   (wX2_number S h59 a1 x2 x3 (fun r66 h66 =>
    (wX6_putNumber S h66 a0 r66 (fun h69 =>
     (wX6_put S h69 a0 (32 : Int32) (fun h75 =>
      (B2 h75 ((x3 + (1 : Int32))))))))))))
noncomputable def wX6_putState_28b (S : Sh) (B2 : Hp → Int32 → Prop) (a0 : Nat) (a1 : Nat) (x2 : Int32) (x3 : Int32) (j4 : Int64) (x6 : Int32) (Q : Hp → Prop) (B28 : Hp → Int32 → Prop) (h : Hp) (x7 : Int32) : Prop :=
  ((x6 ≤ x7 →
   (wX6_putState_j56 S B2 h a0 a1 x2 x3 Q)) ∧
   (¬ x6 ≤ x7 →
    (wX11_letterOf S h j4 x7 (fun r42 h42 =>
     (S a0).1 = 7 ∧
     (wX6_put S h42 a0 ((i2c (((97 : Int32) + r42)))) (fun h47 =>
      (B28 h47 ((x7 + (1 : Int32))))))))))
noncomputable def wX6_putState_28 (S : Sh) (B2 : Hp → Int32 → Prop) (a0 : Nat) (a1 : Nat) (x2 : Int32) (x3 : Int32) (j4 : Int64) (x6 : Int32) (Q : Hp → Prop) (n : Nat) : Hp → Int32 → Prop := Nat.rec (motive := fun _ => Hp → Int32 → Prop) (fun _ _ => False) (fun _ B28 h x7 => wX6_putState_28b S B2 a0 a1 x2 x3 j4 x6 Q B28 h x7) n
noncomputable def wX6_putState_2b (S : Sh) (a0 : Nat) (a1 : Nat) (x2 : Int32) (Q : Hp → Prop) (B2 : Hp → Int32 → Prop) (h : Hp) (x3 : Int32) : Prop :=
  (S a1).1 = 3 ∧
  (((gI h a1 11) ≤ x3 →
   Q h) ∧
   (¬ (gI h a1 11) ≤ x3 →
    inA S (gR h a1 0) 23 x3 ∧
    ∀ jv16 : Int64, jv16 = (gJ h (gR h a1 0) (ix x3)) →
    (wX11_lengthOf S h jv16 (fun r20 h20 =>
     (∃ n28, wX6_putState_28 S B2 a0 a1 x2 x3 jv16 r20 Q n28 h20 (0 : Int32))))))
noncomputable def wX6_putState_2 (S : Sh) (a0 : Nat) (a1 : Nat) (x2 : Int32) (Q : Hp → Prop) (n : Nat) : Hp → Int32 → Prop := Nat.rec (motive := fun _ => Hp → Int32 → Prop) (fun _ _ => False) (fun _ B2 h x3 => wX6_putState_2b S a0 a1 x2 Q B2 h x3) n
noncomputable def wX6_putState (S : Sh) (h : Hp) (a0 : Nat) (a1 : Nat) (x2 : Int32) (Q : Hp → Prop) : Prop :=
  (∃ n2, wX6_putState_2 S a0 a1 x2 Q n2 h (0 : Int32))
noncomputable def wX6_putText_2b (S : Sh) (K : Nat → Nat) (a0 : Nat) (a1 : Nat) (Q : Hp → Prop) (B2 : Hp → Int32 → Prop) (h : Hp) (x2 : Int32) : Prop :=
  (wJ0_length_8abf5 K h a1 (fun r4 h4 =>
   ((r4 ≤ x2 →
    Q h4) ∧
    (¬ r4 ≤ x2 →
     (wJ0_charAt_5068e K h4 a1 x2 (fun r13 h13 =>
      (S a0).1 = 7 ∧
      (wX6_put S h13 a0 r13 (fun h16 =>
       (B2 h16 ((x2 + (1 : Int32))))))))))))
noncomputable def wX6_putText_2 (S : Sh) (K : Nat → Nat) (a0 : Nat) (a1 : Nat) (Q : Hp → Prop) (n : Nat) : Hp → Int32 → Prop := Nat.rec (motive := fun _ => Hp → Int32 → Prop) (fun _ _ => False) (fun _ B2 h x2 => wX6_putText_2b S K a0 a1 Q B2 h x2) n
noncomputable def wX6_putText (S : Sh) (K : Nat → Nat) (h : Hp) (a0 : Nat) (a1 : Nat) (Q : Hp → Prop) : Prop :=
  (∃ n2, wX6_putText_2 S K a0 a1 Q n2 h (0 : Int32))
noncomputable def wX7_copy (S : Sh) (h : Hp) (a0 : Nat) (a1 : Nat) (Q : Hp → Prop) : Prop :=
  (S a1).1 = 8 ∧
  (S a0).1 = 8 ∧
  ∀ h5 : Hp, h5 = (pJ h a0 0 (gJ h a1 0)) →
  Q ((pJ h5 a0 1 (gJ h5 a1 1)))
noncomputable def wX7_keepOnly (S : Sh) (h : Hp) (a0 : Nat) (a1 : Nat) (Q : Hp → Prop) : Prop :=
  (S a0).1 = 8 ∧
  (S a1).1 = 8 ∧
  ∀ h10 : Hp, h10 = (pJ h a0 0 (((gJ h a0 0) &&& (gJ h a1 0)))) →
  Q ((pJ h10 a0 1 (((gJ h10 a0 1) &&& (gJ h10 a1 1)))))
noncomputable def wX7_member_4b (S : Sh) (a0 : Nat) (Q : Int32 → Hp → Prop) (B4 : Hp → Int32 → Int32 → Prop) (h : Hp) (x2 : Int32) (x3 : Int32) : Prop :=
  (((100 : Int32) ≤ x3 →
   Q (-2 : Int32) h) ∧
   (¬ (100 : Int32) ≤ x3 →
    (S a0).1 = 8 ∧
    (wX7_has S h a0 x3 (fun r12 h12 =>
     ((r12 = 0 →
      (B4 h12 x2 ((x3 + (1 : Int32))))) ∧
      (¬ r12 = 0 →
       ((¬ x2 = 0 →
        (B4 h12 ((x2 + (-1 : Int32))) ((x3 + (1 : Int32))))) ∧
        (x2 = 0 →
         Q x3 h12))))))))
noncomputable def wX7_member_4 (S : Sh) (a0 : Nat) (Q : Int32 → Hp → Prop) (n : Nat) : Hp → Int32 → Int32 → Prop := Nat.rec (motive := fun _ => Hp → Int32 → Int32 → Prop) (fun _ _ _ => False) (fun _ B4 h x2 x3 => wX7_member_4b S a0 Q B4 h x2 x3) n
noncomputable def wX7_member (S : Sh) (h : Hp) (a0 : Nat) (x1 : Int32) (Q : Int32 → Hp → Prop) : Prop :=
  (∃ n4, wX7_member_4 S a0 Q n4 h x1 (0 : Int32))
noncomputable def wX10_begin (S : Sh) (h : Hp) (a0 : Nat) (a1 : Nat) (x2 : Int32) (Q : Hp → Prop) : Prop :=
  (S a0).1 = 11 ∧
  ∀ h2 : Hp, h2 = (pI h a0 2 x2) →
  (S a1).1 = 4 ∧
  inA S (gR h2 a1 0) 25 x2 ∧
  (S ((gR h2 (gR h2 a1 0) (ix x2)))).1 = 3 ∧
  (wX2_beginState S h2 ((gR h2 (gR h2 a1 0) (ix x2))) (fun r12 h12 =>
   ∀ h15 : Hp, h15 = (pI h12 a0 3 r12) →
   ∀ h20 : Hp, h20 = (pI h15 a0 4 (0 : Int32)) →
   (S (gR h20 a0 0)).1 = 8 ∧
   (wX7_clear S h20 (gR h20 a0 0) (fun h27 =>
    ((x2 ≤ 0 →
     Q h27) ∧
     (¬ x2 ≤ 0 →
      inA S (gR h27 a1 0) 25 ((x2 - (1 : Int32))) ∧
      (S ((gR h27 (gR h27 a1 0) (ix ((x2 - (1 : Int32))))))).1 = 3 ∧
      (wX2_beginState S h27 ((gR h27 (gR h27 a1 0) (ix ((x2 - (1 : Int32)))))) (fun r46 h46 =>
       (S (gR h27 a0 0)).1 = 8 ∧
       (wX7_put S h46 (gR h27 a0 0) r46 (fun h49 =>
        inA S (gR h49 a1 0) 25 x2 ∧
        (S ((gR h49 (gR h49 a1 0) (ix x2)))).1 = 3 ∧
        inA S ((gR h49 ((gR h49 (gR h49 a1 0) (ix x2))) 7)) 26 (gI h49 a0 3) ∧
        (S (gR h49 a0 0)).1 = 8 ∧
        (wX7_keepOnly S h49 (gR h49 a0 0) ((gR h49 ((gR h49 ((gR h49 (gR h49 a1 0) (ix x2))) 7)) (ix (gI h49 a0 3)))) (fun h70 =>
         Q h70))))))))))))
noncomputable def wX10_countChoices_4b (S : Sh) (a0 : Nat) (a1 : Nat) (Q : Int32 → Hp → Prop) (B4 : Hp → Int32 → Int32 → Prop) (h : Hp) (x2 : Int32) (x3 : Int32) : Prop :=
  (S a1).1 = 3 ∧
  (((gI h a1 14) ≤ x3 →
   Q x2 h) ∧
   (¬ (gI h a1 14) ≤ x3 →
    inA S (gR h a1 5) 24 x3 ∧
    (S a0).1 = 11 ∧
    (S ((gR h (gR h a1 5) (ix x3)))).1 = 1 ∧
    (wX0_stepsAt S h ((gR h (gR h a1 5) (ix x3))) (gI h a0 3) (fun r23 h23 =>
     (wJ6_bitCount_0f7a4 S h23 r23 (fun r26 h26 =>
      (B4 h26 (x2 + r26) ((x3 + (1 : Int32))))))))))
noncomputable def wX10_countChoices_4 (S : Sh) (a0 : Nat) (a1 : Nat) (Q : Int32 → Hp → Prop) (n : Nat) : Hp → Int32 → Int32 → Prop := Nat.rec (motive := fun _ => Hp → Int32 → Int32 → Prop) (fun _ _ _ => False) (fun _ B4 h x2 x3 => wX10_countChoices_4b S a0 a1 Q B4 h x2 x3) n
noncomputable def wX10_countChoices (S : Sh) (h : Hp) (a0 : Nat) (a1 : Nat) (Q : Int32 → Hp → Prop) : Prop :=
  (∃ n4, wX10_countChoices_4 S a0 a1 Q n4 h (0 : Int32) (0 : Int32))
noncomputable def wX10_end (S : Sh) (h : Hp) (a0 : Nat) (Q : Hp → Prop) : Prop :=
  (S a0).1 = 11 ∧
  Q ((pI h a0 2 (-1 : Int32)))
noncomputable def wX10_init  (S : Sh) (z : Nat) (h : Hp) (a0 : Nat) (Q : Sh → Nat → Hp → Prop) : Prop :=
  (S a0).1 ≠ 0 ∧
  h0 h z ∧
  0 + 1 ≤ 2 ∧
  0 + 2 ≤ 4 ∧
  1 ≤ 2 ∧
  2 ≤ 4 ∧
  ((uS S z (8, 0)) z).1 ≠ 0 ∧
  (wX7_init ((uS S z (8, 0))) h z (fun h9 =>
   ((uS S z (8, 0)) a0).1 = 11 ∧
   ∀ h12 : Hp, h12 = (pR h9 a0 0 z) →
   h0 h12 (z + 1) ∧
   1 + 1 ≤ 2 ∧
   2 + 2 ≤ 4 ∧
   2 ≤ 2 ∧
   4 ≤ 4 ∧
   ((uS ((uS S z (8, 0))) (z + 1) (8, 0)) (z + 1)).1 ≠ 0 ∧
   (wX7_init ((uS ((uS S z (8, 0))) (z + 1) (8, 0))) h12 (z + 1) (fun h20 =>
    ((uS ((uS S z (8, 0))) (z + 1) (8, 0)) a0).1 = 11 ∧
    ∀ h23 : Hp, h23 = (pR h20 a0 1 (z + 1)) →
    2 ≤ 2 ∧ 4 ≤ 4 ∧ Q ((uS ((uS S z (8, 0))) (z + 1) (8, 0))) (z + 2) ((pI h23 a0 2 (-1 : Int32)))))))
noncomputable def wX10_move_j133 (S : Sh) (h : Hp) (a0 : Nat) (a4 : Nat) (Q : Hp → Prop) : Prop :=
  (S a0).1 = 11 ∧
  (S (gR h a0 0)).1 = 8 ∧
  (wX7_copy S h (gR h a0 0) (gR h a0 1) (fun h141 =>
   (S a4).1 = 3 ∧
   inA S (gR h141 a4 7) 26 (gI h141 a0 3) ∧
   (S (gR h141 a0 0)).1 = 8 ∧
   (wX7_keepOnly S h141 (gR h141 a0 0) ((gR h141 (gR h141 a4 7) (ix (gI h141 a0 3)))) (fun h158 =>
    Q h158))))
noncomputable def wX10_move_85b (S : Sh) (a0 : Nat) (a4 : Nat) (a5 : Nat) (a6 : Nat) (Q : Hp → Prop) (B85 : Hp → Int32 → Prop) (h : Hp) (x7 : Int32) : Prop :=
  (S a6).1 = 3 ∧
  (((gI h a6 12) ≤ x7 →
   (wX10_move_j133 S h a0 a4 Q)) ∧
   (¬ (gI h a6 12) ≤ x7 →
    (S a0).1 = 11 ∧
    (S (gR h a0 0)).1 = 8 ∧
    (wX7_has S h (gR h a0 0) x7 (fun r101 h101 =>
     ((r101 = 0 →
      (B85 h101 ((x7 + (1 : Int32))))) ∧
      (¬ r101 = 0 →
       (S a5).1 = 1 ∧
       inA S (gR h101 a6 5) 24 (gI h101 a5 5) ∧
       (S ((gR h101 (gR h101 a6 5) (ix (gI h101 a5 5))))).1 = 1 ∧
       (wX0_putGiven S h101 ((gR h101 (gR h101 a6 5) (ix (gI h101 a5 5)))) x7 (gR h101 a0 1) (fun h124 =>
        (B85 h124 ((x7 + (1 : Int32))))))))))))
noncomputable def wX10_move_85 (S : Sh) (a0 : Nat) (a4 : Nat) (a5 : Nat) (a6 : Nat) (Q : Hp → Prop) (n : Nat) : Hp → Int32 → Prop := Nat.rec (motive := fun _ => Hp → Int32 → Prop) (fun _ _ => False) (fun _ B85 h x7 => wX10_move_85b S a0 a4 a5 a6 Q B85 h x7) n
noncomputable def wX10_move (S : Sh) (h : Hp) (a0 : Nat) (a1 : Nat) (x2 : Int32) (x3 : Int32) (Q : Hp → Prop) : Prop :=
  (S a1).1 = 4 ∧
  (S a0).1 = 11 ∧
  inA S (gR h a1 0) 25 (gI h a0 2) ∧
  ∀ av9 : Nat, av9 = (gR h (gR h a1 0) (ix (gI h a0 2))) →
  (S av9).1 = 3 ∧
  inA S (gR h av9 5) 24 x2 ∧
  ∀ av18 : Nat, av18 = (gR h (gR h av9 5) (ix x2)) →
  (S av18).1 = 1 ∧
  (wX0_after S h av18 (gI h a0 3) x3 (fun r28 h28 =>
   ∀ h31 : Hp, h31 = (pI h28 a0 3 r28) →
   ∀ h41 : Hp, h41 = (pI h31 a0 4 (((gI h31 a0 4) + (1 : Int32)))) →
   ((¬ (gI h41 a0 2) = 0 →
    (((gI h41 av18 5) = (-2 : Int32) →
     inA S (gR h41 av9 7) 26 (gI h41 a0 3) ∧
     (S (gR h41 a0 0)).1 = 8 ∧
     (wX7_keepOnly S h41 (gR h41 a0 0) ((gR h41 (gR h41 av9 7) (ix (gI h41 a0 3)))) (fun h158 =>
      Q h158))) ∧
     (¬ (gI h41 av18 5) = (-2 : Int32) →
      inA S (gR h41 a1 0) 25 (((gI h41 a0 2) - (1 : Int32))) ∧
      ∀ av73 : Nat, av73 = (gR h41 (gR h41 a1 0) (ix (((gI h41 a0 2) - (1 : Int32))))) →
      (S (gR h41 a0 1)).1 = 8 ∧
      (wX7_clear S h41 (gR h41 a0 1) (fun h79 =>
       (∃ n85, wX10_move_85 S a0 av9 av18 av73 Q n85 h79 (0 : Int32))))))) ∧
    ((gI h41 a0 2) = 0 →
     Q h41))))
noncomputable def wX10_take_44b (S : Sh) (B16 : Hp → Int32 → Int32 → Prop) (a0 : Nat) (a1 : Nat) (a3 : Nat) (x5 : Int32) (x6 : Int32) (Q : Hp → Prop) (B44 : Hp → Int32 → Int32 → Prop) (h : Hp) (x4 : Int32) (x7 : Int32) : Prop :=
  (((10 : Int32) ≤ x7 →
   (B16 h x4 ((x5 + (1 : Int32))))) ∧
   (¬ (10 : Int32) ≤ x7 →
    ((¬ ((shr32 x6 x7) &&& (1 : Int32)) = 0 →
     ((¬ x4 = 0 →
      (B44 h ((x4 + (-1 : Int32))) ((x7 + (1 : Int32))))) ∧
      (x4 = 0 →
       (S a0).1 = 11 ∧
       (wX10_move S h a0 a1 x5 x7 (fun h75 =>
        Q h75))))) ∧
     (((shr32 x6 x7) &&& (1 : Int32)) = 0 →
      (B44 h x4 ((x7 + (1 : Int32))))))))
noncomputable def wX10_take_44 (S : Sh) (B16 : Hp → Int32 → Int32 → Prop) (a0 : Nat) (a1 : Nat) (a3 : Nat) (x5 : Int32) (x6 : Int32) (Q : Hp → Prop) (n : Nat) : Hp → Int32 → Int32 → Prop := Nat.rec (motive := fun _ => Hp → Int32 → Int32 → Prop) (fun _ _ _ => False) (fun _ B44 h x4 x7 => wX10_take_44b S B16 a0 a1 a3 x5 x6 Q B44 h x4 x7) n
noncomputable def wX10_take_16b (S : Sh) (a0 : Nat) (a1 : Nat) (a3 : Nat) (Q : Hp → Prop) (B16 : Hp → Int32 → Int32 → Prop) (h : Hp) (x4 : Int32) (x5 : Int32) : Prop :=
  (S a3).1 = 3 ∧
  (((gI h a3 14) ≤ x5 →
   Q h) ∧
   (¬ (gI h a3 14) ≤ x5 →
    inA S (gR h a3 5) 24 x5 ∧
    (S a0).1 = 11 ∧
    (S ((gR h (gR h a3 5) (ix x5)))).1 = 1 ∧
    (wX0_stepsAt S h ((gR h (gR h a3 5) (ix x5))) (gI h a0 3) (fun r36 h36 =>
     (∃ n44, wX10_take_44 S B16 a0 a1 a3 x5 r36 Q n44 h36 x4 (0 : Int32))))))
noncomputable def wX10_take_16 (S : Sh) (a0 : Nat) (a1 : Nat) (a3 : Nat) (Q : Hp → Prop) (n : Nat) : Hp → Int32 → Int32 → Prop := Nat.rec (motive := fun _ => Hp → Int32 → Int32 → Prop) (fun _ _ _ => False) (fun _ B16 h x4 x5 => wX10_take_16b S a0 a1 a3 Q B16 h x4 x5) n
noncomputable def wX10_take (S : Sh) (h : Hp) (a0 : Nat) (a1 : Nat) (x2 : Int32) (Q : Hp → Prop) : Prop :=
  (S a1).1 = 4 ∧
  (S a0).1 = 11 ∧
  inA S (gR h a1 0) 25 (gI h a0 2) ∧
  ∀ av9 : Nat, av9 = (gR h (gR h a1 0) (ix (gI h a0 2))) →
  (∃ n16, wX10_take_16 S a0 a1 av9 Q n16 h x2 (0 : Int32))
noncomputable def wX10_wander_7b (S : Sh) (a0 : Nat) (a1 : Nat) (x2 : Int32) (Q : Int32 → Hp → Prop) (B7 : Hp → Int64 → Int32 → Prop) (h : Hp) (j4 : Int64) (x6 : Int32) : Prop :=
  ((x2 ≤ x6 →
   Q x2 h) ∧
   (¬ x2 ≤ x6 →
    (S a1).1 = 4 ∧
    (S a0).1 = 11 ∧
    inA S (gR h a1 0) 25 (gI h a0 2) ∧
    (wX10_countChoices S h a0 ((gR h (gR h a1 0) (ix (gI h a0 2)))) (fun r23 h23 =>
     ((0 < r23 →
      ¬ (2147483648 : Int64) = 0 ∧
      ∀ jv50 : Int64, jv50 = (rem64 ((((1103515245 : Int64) * j4) + (12345 : Int64))) (2147483648 : Int64)) →
      ¬ (65536 : Int64) = 0 ∧
      ¬ (r23.toInt64) = 0 ∧
      (wX10_take S h23 a0 a1 ((((rem64 ((jv50 / (65536 : Int64))) (r23.toInt64))).toInt32)) (fun h65 =>
       (B7 h65 jv50 ((x6 + (1 : Int32))))))) ∧
      (¬ 0 < r23 →
       Q x6 h23))))))
noncomputable def wX10_wander_7 (S : Sh) (a0 : Nat) (a1 : Nat) (x2 : Int32) (Q : Int32 → Hp → Prop) (n : Nat) : Hp → Int64 → Int32 → Prop := Nat.rec (motive := fun _ => Hp → Int64 → Int32 → Prop) (fun _ _ _ => False) (fun _ B7 h j4 x6 => wX10_wander_7b S a0 a1 x2 Q B7 h j4 x6) n
noncomputable def wX10_wander (S : Sh) (h : Hp) (a0 : Nat) (a1 : Nat) (x2 : Int32) (x3 : Int32) (Q : Int32 → Hp → Prop) : Prop :=
  (∃ n7, wX10_wander_7 S a0 a1 x2 Q n7 h (x3.toInt64) (0 : Int32))
noncomputable def wX11_answer (S : Sh) (h : Hp) (a0 : Nat) (x1 : Int32) (Q : Int32 → Hp → Prop) : Prop :=
  (S a0).1 = 12 ∧
  Q x1 ((pI h a0 11 (0 : Int32)))
noncomputable def wX11_isMachine (S : Sh) (h : Hp) (a0 : Nat) (x1 : Int32) (Q : Int32 → Hp → Prop) : Prop :=
  ((x1 < 0 →
   Q (0 : Int32) h) ∧
   (¬ x1 < 0 →
    (S a0).1 = 12 ∧
    (S (gR h a0 7)).1 = 4 ∧
    (((gI h (gR h a0 7) 5) ≤ x1 →
     Q (0 : Int32) h) ∧
     (¬ (gI h (gR h a0 7) 5) ≤ x1 →
      Q (1 : Int32) h))))
noncomputable def wX11_isEvent (S : Sh) (h : Hp) (a0 : Nat) (x1 : Int32) (x2 : Int32) (Q : Int32 → Hp → Prop) : Prop :=
  (S a0).1 = 12 ∧
  (wX11_isMachine S h a0 x1 (fun r2 h2 =>
   ((r2 = 0 →
    Q (0 : Int32) h2) ∧
    (¬ r2 = 0 →
     ((x2 < 0 →
      Q (0 : Int32) h2) ∧
      (¬ x2 < 0 →
       (S (gR h2 a0 7)).1 = 4 ∧
       inA S ((gR h2 (gR h2 a0 7) 0)) 25 x1 ∧
       (S ((gR h2 ((gR h2 (gR h2 a0 7) 0)) (ix x1)))).1 = 3 ∧
       (((gI h2 ((gR h2 ((gR h2 (gR h2 a0 7) 0)) (ix x1))) 14) ≤ x2 →
        Q (0 : Int32) h2) ∧
        (¬ (gI h2 ((gR h2 ((gR h2 (gR h2 a0 7) 0)) (ix x1))) 14) ≤ x2 →
         Q (1 : Int32) h2))))))))
noncomputable def wX11_refuse (S : Sh) (h : Hp) (a0 : Nat) (x1 : Int32) (Q : Int32 → Hp → Prop) : Prop :=
  (S a0).1 = 12 ∧
  Q (-1 : Int32) (pI h a0 11 x1)
noncomputable def wX11_aside (S : Sh) (h : Hp) (a0 : Nat) (x1 : Int32) (x2 : Int32) (x3 : Int32) (Q : Int32 → Hp → Prop) : Prop :=
  (S a0).1 = 12 ∧
  (wX11_isEvent S h a0 x1 x2 (fun r3 h3 =>
   ((¬ r3 = 0 →
    (S (gR h3 a0 7)).1 = 4 ∧
    inA S ((gR h3 (gR h3 a0 7) 0)) 25 x1 ∧
    ∀ av24 : Nat, av24 = (gR h3 ((gR h3 (gR h3 a0 7) 0)) (ix x1)) →
    (S av24).1 = 3 ∧
    inA S (gR h3 av24 5) 24 x2 ∧
    (S ((gR h3 (gR h3 av24 5) (ix x2)))).1 = 1 ∧
    ((¬ (gI h3 ((gR h3 (gR h3 av24 5) (ix x2))) 10) = x3 →
     x3 &&& 1 = x3 ∧
     ∀ h54 : Hp, h54 = (pI h3 ((gR h3 (gR h3 av24 5) (ix x2))) 10 x3) →
     (S (gR h54 a0 7)).1 = 4 ∧
     (wX3_forgetVerdicts S h54 (gR h54 a0 7) (fun h61 =>
      (wX2_countAside S h61 av24 (fun r67 h67 =>
       (wX11_answer S h67 a0 r67 (fun r70 h70 =>
        Q r70 h70))))))) ∧
     ((gI h3 ((gR h3 (gR h3 av24 5) (ix x2))) 10) = x3 →
      (wX11_refuse S h3 a0 (5 : Int32) (fun r42 h42 =>
       Q r42 h42))))) ∧
    (r3 = 0 →
     (wX11_refuse S h3 a0 (1 : Int32) (fun r11 h11 =>
      Q r11 h11))))))
noncomputable def wX11_isState (S : Sh) (h : Hp) (a0 : Nat) (x1 : Int32) (x2 : Int32) (Q : Int32 → Hp → Prop) : Prop :=
  (S a0).1 = 12 ∧
  (wX11_isMachine S h a0 x1 (fun r2 h2 =>
   ((r2 = 0 →
    Q (0 : Int32) h2) ∧
    (¬ r2 = 0 →
     ((x2 < 0 →
      Q (0 : Int32) h2) ∧
      (¬ x2 < 0 →
       (S (gR h2 a0 7)).1 = 4 ∧
       inA S ((gR h2 (gR h2 a0 7) 0)) 25 x1 ∧
       (S ((gR h2 ((gR h2 (gR h2 a0 7) 0)) (ix x1)))).1 = 3 ∧
       (((gI h2 ((gR h2 ((gR h2 (gR h2 a0 7) 0)) (ix x1))) 12) ≤ x2 →
        Q (0 : Int32) h2) ∧
        (¬ (gI h2 ((gR h2 ((gR h2 (gR h2 a0 7) 0)) (ix x1))) 12) ≤ x2 →
         Q (1 : Int32) h2))))))))
noncomputable def wX11_beneath (S : Sh) (h : Hp) (a0 : Nat) (x1 : Int32) (x2 : Int32) (x3 : Int32) (Q : Int32 → Hp → Prop) : Prop :=
  ((x1 < (1 : Int32) →
   (S a0).1 = 12 ∧
   (wX11_refuse S h a0 (1 : Int32) (fun r20 h20 =>
    Q r20 h20))) ∧
   (¬ x1 < (1 : Int32) →
    (S a0).1 = 12 ∧
    (wX11_isState S h a0 x1 x2 (fun r8 h8 =>
     ((r8 = 0 →
      (wX11_refuse S h8 a0 (1 : Int32) (fun r20 h20 =>
       Q r20 h20))) ∧
      (¬ r8 = 0 →
       ((0 ≤ x3 →
        (S (gR h8 a0 7)).1 = 4 ∧
        inA S ((gR h8 (gR h8 a0 7) 0)) 25 x1 ∧
        (S ((gR h8 ((gR h8 (gR h8 a0 7) 0)) (ix x1)))).1 = 3 ∧
        inA S ((gR h8 ((gR h8 ((gR h8 (gR h8 a0 7) 0)) (ix x1))) 7)) 26 x2 ∧
        (S ((gR h8 ((gR h8 ((gR h8 ((gR h8 (gR h8 a0 7) 0)) (ix x1))) 7)) (ix x2)))).1 = 8 ∧
        (wX7_member S h8 ((gR h8 ((gR h8 ((gR h8 ((gR h8 (gR h8 a0 7) 0)) (ix x1))) 7)) (ix x2))) x3 (fun r40 h40 =>
         (wX11_answer S h40 a0 r40 (fun r43 h43 =>
          Q r43 h43))))) ∧
        (¬ 0 ≤ x3 →
         (wX11_refuse S h8 a0 (1 : Int32) (fun r20 h20 =>
          Q r20 h20))))))))))
noncomputable def wX11_beside (S : Sh) (h : Hp) (a0 : Nat) (x1 : Int32) (Q : Int32 → Hp → Prop) : Prop :=
  (S a0).1 = 12 ∧
  (S (gR h a0 3)).1 = 11 ∧
  (wX11_isMachine S h a0 ((gI h (gR h a0 3) 2)) (fun r8 h8 =>
   ((r8 = 0 →
    (wX11_refuse S h8 a0 (1 : Int32) (fun r20 h20 =>
     Q r20 h20))) ∧
    (¬ r8 = 0 →
     ((0 ≤ x1 →
      (S (gR h8 a0 3)).1 = 11 ∧
      (S ((gR h8 (gR h8 a0 3) 0))).1 = 8 ∧
      (wX7_member S h8 ((gR h8 (gR h8 a0 3) 0)) x1 (fun r33 h33 =>
       (wX11_answer S h33 a0 r33 (fun r36 h36 =>
        Q r36 h36))))) ∧
      (¬ 0 ≤ x1 →
       (wX11_refuse S h8 a0 (1 : Int32) (fun r20 h20 =>
        Q r20 h20))))))))
noncomputable def wX11_can (S : Sh) (h : Hp) (a0 : Nat) (x1 : Int32) (x2 : Int32) (x3 : Int32) (x4 : Int32) (Q : Int32 → Hp → Prop) : Prop :=
  (S a0).1 = 12 ∧
  (wX11_isEvent S h a0 x1 x2 (fun r3 h3 =>
   ((r3 = 0 →
    (wX11_refuse S h3 a0 (1 : Int32) (fun r20 h20 =>
     Q r20 h20))) ∧
    (¬ r3 = 0 →
     (wX11_isState S h3 a0 x1 x3 (fun r12 h12 =>
      ((¬ r12 = 0 →
       (S (gR h12 a0 7)).1 = 4 ∧
       inA S ((gR h12 (gR h12 a0 7) 0)) 25 x1 ∧
       (S ((gR h12 ((gR h12 (gR h12 a0 7) 0)) (ix x1)))).1 = 3 ∧
       inA S ((gR h12 ((gR h12 ((gR h12 (gR h12 a0 7) 0)) (ix x1))) 5)) 24 x2 ∧
       ∀ av38 : Nat, av38 = (gR h12 ((gR h12 ((gR h12 ((gR h12 (gR h12 a0 7) 0)) (ix x1))) 5)) (ix x2)) →
       (S av38).1 = 1 ∧
       (wX0_hasPick S h12 av38 x4 (fun r44 h44 =>
        ((¬ r44 = 0 →
         (wX0_picksAt S h44 av38 x3 (fun r60 h60 =>
          (wX11_answer S h60 a0 (((shr32 r60 ((x4 - (gI h60 av38 6)))) &&& (1 : Int32))) (fun r74 h74 =>
           Q r74 h74))))) ∧
         (r44 = 0 →
          (wX11_refuse S h44 a0 (2 : Int32) (fun r52 h52 =>
           Q r52 h52))))))) ∧
       (r12 = 0 →
        (wX11_refuse S h12 a0 (1 : Int32) (fun r20 h20 =>
         Q r20 h20))))))))))
noncomputable def wX11_isDuty (S : Sh) (h : Hp) (a0 : Nat) (x1 : Int32) (x2 : Int32) (x3 : Int32) (Q : Int32 → Hp → Prop) : Prop :=
  ((x3 = (3 : Int32) →
   (S a0).1 = 12 ∧
   (wX11_isMachine S h a0 x1 (fun r12 h12 =>
    r12 &&& 1 = r12 ∧
    Q r12 h12))) ∧
   (¬ x3 = (3 : Int32) →
    ((¬ x3 = (4 : Int32) →
     ((x3 < 0 →
      Q (0 : Int32) h) ∧
      (¬ x3 < 0 →
       (((3 : Int32) ≤ x3 →
        Q (0 : Int32) h) ∧
        (¬ (3 : Int32) ≤ x3 →
         (S a0).1 = 12 ∧
         (wX11_isEvent S h a0 x1 x2 (fun r28 h28 =>
          ((r28 = 0 →
           Q (0 : Int32) h28) ∧
           (¬ r28 = 0 →
            Q (1 : Int32) h28))))))))) ∧
     (x3 = (4 : Int32) →
      (S a0).1 = 12 ∧
      (wX11_isMachine S h a0 x1 (fun r12 h12 =>
       r12 &&& 1 = r12 ∧
       Q r12 h12))))))
noncomputable def wX11_cases (S : Sh) (h : Hp) (a0 : Nat) (x1 : Int32) (x2 : Int32) (x3 : Int32) (Q : Int32 → Hp → Prop) : Prop :=
  (((3 : Int32) ≤ x3 →
   (S a0).1 = 12 ∧
   (wX11_refuse S h a0 (1 : Int32) (fun r17 h17 =>
    Q r17 h17))) ∧
   (¬ (3 : Int32) ≤ x3 →
    (S a0).1 = 12 ∧
    (wX11_isDuty S h a0 x1 x2 x3 (fun r9 h9 =>
     ((¬ r9 = 0 →
      (S (gR h9 a0 2)).1 = 2 ∧
      (wX1_verdictOn S h9 (gR h9 a0 2) (gR h9 a0 7) x1 x2 x3 (fun r33 h33 =>
       (S r33).1 = 10 ∧
       (wX11_answer S h33 a0 (gI h33 r33 1) (fun r39 h39 =>
        Q r39 h39))))) ∧
      (r9 = 0 →
       (wX11_refuse S h9 a0 (1 : Int32) (fun r17 h17 =>
        Q r17 h17))))))))
noncomputable def wX11_draws (S : Sh) (h : Hp) (a0 : Nat) (x1 : Int32) (x2 : Int32) (Q : Int32 → Hp → Prop) : Prop :=
  (S a0).1 = 12 ∧
  (S (gR h a0 3)).1 = 11 ∧
  (wX11_isMachine S h a0 ((gI h (gR h a0 3) 2)) (fun r8 h8 =>
   ((¬ r8 = 0 →
    ((x1 < (1 : Int32) →
     (wX11_refuse S h8 a0 (2 : Int32) (fun r37 h37 =>
      Q r37 h37))) ∧
     (¬ x1 < (1 : Int32) →
      (((40 : Int32) < x1 →
       (wX11_refuse S h8 a0 (2 : Int32) (fun r37 h37 =>
        Q r37 h37))) ∧
       (¬ (40 : Int32) < x1 →
        ((0 ≤ x2 →
         (S (gR h8 a0 3)).1 = 11 ∧
         (wX10_wander S h8 (gR h8 a0 3) (gR h8 a0 7) x1 x2 (fun r52 h52 =>
          (wX11_answer S h52 a0 r52 (fun r55 h55 =>
           Q r55 h55))))) ∧
         (¬ 0 ≤ x2 →
          (wX11_refuse S h8 a0 (2 : Int32) (fun r37 h37 =>
           Q r37 h37))))))))) ∧
    (r8 = 0 →
     (wX11_refuse S h8 a0 (1 : Int32) (fun r16 h16 =>
      Q r16 h16))))))
noncomputable def wX11_duty (S : Sh) (h : Hp) (a0 : Nat) (x1 : Int32) (x2 : Int32) (x3 : Int32) (Q : Int32 → Hp → Prop) : Prop :=
  (S a0).1 = 12 ∧
  (wX11_isDuty S h a0 x1 x2 x3 (fun r4 h4 =>
   ((¬ r4 = 0 →
    (S (gR h4 a0 2)).1 = 2 ∧
    (wX1_verdictOn S h4 (gR h4 a0 2) (gR h4 a0 7) x1 x2 x3 (fun r27 h27 =>
     (S r27).1 = 10 ∧
     ((¬ (gI h27 r27 1) = 0 →
      ∀ h53 : Hp, h53 = (pI h27 a0 10 x1) →
      inA S (gR h53 a0 6) 20 (0 : Int32) ∧
      ∀ h66 : Hp, h66 = (pI h53 (gR h53 a0 6) (ix (0 : Int32)) (gI h53 r27 2)) →
      inA S (gR h66 a0 6) 20 (1 : Int32) ∧
      ∀ h77 : Hp, h77 = (pI h66 (gR h66 a0 6) (ix (1 : Int32)) (gI h66 r27 3)) →
      inA S (gR h77 a0 6) 20 (2 : Int32) ∧
      (wX11_answer S ((pI h77 (gR h77 a0 6) (ix (2 : Int32)) (gI h77 r27 4))) a0 (0 : Int32) (fun r91 h91 =>
       Q r91 h91))) ∧
      ((gI h27 r27 1) = 0 →
       (wX11_answer S ((pI h27 a0 10 (-1 : Int32))) a0 (1 : Int32) (fun r47 h47 =>
        Q r47 h47))))))) ∧
    (r4 = 0 →
     (wX11_refuse S h4 a0 (1 : Int32) (fun r12 h12 =>
      Q r12 h12))))))
noncomputable def wX11_event (S : Sh) (h : Hp) (a0 : Nat) (x1 : Int32) (x2 : Int32) (x3 : Int32) (Q : Int32 → Hp → Prop) : Prop :=
  (S a0).1 = 12 ∧
  (wX11_isEvent S h a0 x1 x2 (fun r3 h3 =>
   ((r3 = 0 →
    (wX11_refuse S h3 a0 (1 : Int32) (fun r20 h20 =>
     Q r20 h20))) ∧
    (¬ r3 = 0 →
     ((x3 < 0 →
      (wX11_refuse S h3 a0 (1 : Int32) (fun r20 h20 =>
       Q r20 h20))) ∧
      (¬ x3 < 0 →
       ((x3 ≤ (4 : Int32) →
        (S (gR h3 a0 7)).1 = 4 ∧
        inA S ((gR h3 (gR h3 a0 7) 0)) 25 x1 ∧
        (S ((gR h3 ((gR h3 (gR h3 a0 7) 0)) (ix x1)))).1 = 3 ∧
        inA S ((gR h3 ((gR h3 ((gR h3 (gR h3 a0 7) 0)) (ix x1))) 5)) 24 x2 ∧
        (S ((gR h3 ((gR h3 ((gR h3 ((gR h3 (gR h3 a0 7) 0)) (ix x1))) 5)) (ix x2)))).1 = 1 ∧
        (wX0_told S h3 ((gR h3 ((gR h3 ((gR h3 ((gR h3 (gR h3 a0 7) 0)) (ix x1))) 5)) (ix x2))) x3 (fun r40 h40 =>
         (wX11_answer S h40 a0 r40 (fun r43 h43 =>
          Q r43 h43))))) ∧
        (¬ x3 ≤ (4 : Int32) →
         (wX11_refuse S h3 a0 (1 : Int32) (fun r20 h20 =>
          Q r20 h20))))))))))
noncomputable def wX11_fault (S : Sh) (h : Hp) (a0 : Nat) (Q : Int32 → Hp → Prop) : Prop :=
  (S a0).1 = 12 ∧
  Q (gI h a0 12) h
noncomputable def wX11_putBytes_3b (S : Sh) (a0 : Nat) (x1 : Int32) (Q : Hp → Prop) (B3 : Hp → Int32 → Prop) (h : Hp) (x2 : Int32) : Prop :=
  ((x2 < 0 →
   Q h) ∧
   (¬ x2 < 0 →
    (S a0).1 = 12 ∧
    (((600 : Int32) ≤ (gI h a0 9) →
     Q h) ∧
     (¬ (600 : Int32) ≤ (gI h a0 9) →
      inA S (gR h a0 0) 21 (gI h a0 9) ∧
      ∀ h29 : Hp, h29 = (pI h (gR h a0 0) (ix (gI h a0 9)) ((i2b ((i2b (shr32 x1 x2)))))) →
      (B3 ((pI h29 a0 9 (((gI h29 a0 9) + (1 : Int32))))) ((x2 + (-8 : Int32))))))))
noncomputable def wX11_putBytes_3 (S : Sh) (a0 : Nat) (x1 : Int32) (Q : Hp → Prop) (n : Nat) : Hp → Int32 → Prop := Nat.rec (motive := fun _ => Hp → Int32 → Prop) (fun _ _ => False) (fun _ B3 h x2 => wX11_putBytes_3b S a0 x1 Q B3 h x2) n
noncomputable def wX11_putBytes (S : Sh) (h : Hp) (a0 : Nat) (x1 : Int32) (Q : Hp → Prop) : Prop :=
  (∃ n3, wX11_putBytes_3 S a0 x1 Q n3 h (24 : Int32))
noncomputable def wX11_feed (S : Sh) (h : Hp) (a0 : Nat) (x1 : Int32) (x2 : Int32) (x3 : Int32) (x4 : Int32) (x5 : Int32) (Q : Int32 → Hp → Prop) : Prop :=
  (S a0).1 = 12 ∧
  ((((gI h a0 9) + (20 : Int32)) ≤ (600 : Int32) →
   (wX11_putBytes S h a0 x1 (fun h17 =>
    (wX11_putBytes S h17 a0 x2 (fun h22 =>
     (wX11_putBytes S h22 a0 x3 (fun h27 =>
      (wX11_putBytes S h27 a0 x4 (fun h33 =>
       (wX11_putBytes S h33 a0 x5 (fun h39 =>
        Q (gI h39 a0 9) h39))))))))))) ∧
   (¬ ((gI h a0 9) + (20 : Int32)) ≤ (600 : Int32) →
    Q (-1 : Int32) h))
noncomputable def wX11_gives (S : Sh) (h : Hp) (a0 : Nat) (x1 : Int32) (x2 : Int32) (x3 : Int32) (x4 : Int32) (Q : Int32 → Hp → Prop) : Prop :=
  (S a0).1 = 12 ∧
  (wX11_isEvent S h a0 x1 x2 (fun r3 h3 =>
   ((r3 = 0 →
    (wX11_refuse S h3 a0 (1 : Int32) (fun r20 h20 =>
     Q r20 h20))) ∧
    (¬ r3 = 0 →
     (wX11_isState S h3 a0 x1 x3 (fun r12 h12 =>
      ((¬ r12 = 0 →
       (S (gR h12 a0 7)).1 = 4 ∧
       inA S ((gR h12 (gR h12 a0 7) 0)) 25 x1 ∧
       (S ((gR h12 ((gR h12 (gR h12 a0 7) 0)) (ix x1)))).1 = 3 ∧
       inA S ((gR h12 ((gR h12 ((gR h12 (gR h12 a0 7) 0)) (ix x1))) 5)) 24 x2 ∧
       ∀ av38 : Nat, av38 = (gR h12 ((gR h12 ((gR h12 ((gR h12 (gR h12 a0 7) 0)) (ix x1))) 5)) (ix x2)) →
       (S av38).1 = 1 ∧
       (wX0_hasPick S h12 av38 x4 (fun r44 h44 =>
        ((¬ r44 = 0 →
         (wX0_after S h44 av38 x3 ((x4 - (gI h44 av38 6))) (fun r68 h68 =>
          (wX11_answer S h68 a0 r68 (fun r71 h71 =>
           Q r71 h71))))) ∧
         (r44 = 0 →
          (wX11_refuse S h44 a0 (2 : Int32) (fun r52 h52 =>
           Q r52 h52))))))) ∧
       (r12 = 0 →
        (wX11_refuse S h12 a0 (1 : Int32) (fun r20 h20 =>
         Q r20 h20))))))))))
noncomputable def wX11_glued (S : Sh) (h : Hp) (a0 : Nat) (x1 : Int32) (x2 : Int32) (x3 : Int32) (Q : Int32 → Hp → Prop) : Prop :=
  ((x1 < (1 : Int32) →
   (S a0).1 = 12 ∧
   (wX11_refuse S h a0 (1 : Int32) (fun r27 h27 =>
    Q r27 h27))) ∧
   (¬ x1 < (1 : Int32) →
    (S a0).1 = 12 ∧
    (wX11_isState S h a0 ((x1 - (1 : Int32))) x2 (fun r10 h10 =>
     ((r10 = 0 →
      (wX11_refuse S h10 a0 (1 : Int32) (fun r27 h27 =>
       Q r27 h27))) ∧
      (¬ r10 = 0 →
       (wX11_isState S h10 a0 x1 x3 (fun r19 h19 =>
        ((¬ r19 = 0 →
         (S (gR h19 a0 7)).1 = 4 ∧
         inA S ((gR h19 (gR h19 a0 7) 0)) 25 x1 ∧
         (S ((gR h19 ((gR h19 (gR h19 a0 7) 0)) (ix x1)))).1 = 3 ∧
         inA S ((gR h19 ((gR h19 ((gR h19 (gR h19 a0 7) 0)) (ix x1))) 7)) 26 x3 ∧
         (S ((gR h19 ((gR h19 ((gR h19 ((gR h19 (gR h19 a0 7) 0)) (ix x1))) 7)) (ix x3)))).1 = 8 ∧
         (wX7_has S h19 ((gR h19 ((gR h19 ((gR h19 ((gR h19 (gR h19 a0 7) 0)) (ix x1))) 7)) (ix x3))) x2 (fun r47 h47 =>
          ((r47 = 0 →
           (wX11_answer S h47 a0 (0 : Int32) (fun r58 h58 =>
            Q r58 h58))) ∧
           (¬ r47 = 0 →
            (wX11_answer S h47 a0 (1 : Int32) (fun r58 h58 =>
             Q r58 h58))))))) ∧
         (r19 = 0 →
          (wX11_refuse S h19 a0 (1 : Int32) (fun r27 h27 =>
           Q r27 h27))))))))))))
noncomputable def wX11_init (K : Nat → Nat) (S : Sh) (z : Nat) (h : Hp) (a0 : Nat) (Q : Sh → Nat → Hp → Prop) : Prop :=
  (S a0).1 ≠ 0 ∧
  h0 h z ∧
  0 + 1 ≤ 901 ∧
  0 + 600 ≤ 36927 ∧
  ((uS S z (21, 600)) a0).1 = 12 ∧
  ∀ h10 : Hp, h10 = (pR h a0 0 z) →
  h0 h10 (z + 1) ∧
  1 + 1 ≤ 901 ∧
  600 + 12 ≤ 36927 ∧
  2 + 6 ≤ 901 ∧
  612 + 1849 ≤ 36927 ∧
  ((uS ((uS S z (21, 600))) (z + 1) (6, 0)) (z + 1)).1 ≠ 0 ∧
  (wX5_init K ((uS ((uS S z (21, 600))) (z + 1) (6, 0))) (z + 2) h10 (z + 1) (fun S18 z18 h18 =>
   (S18 a0).1 = 12 ∧
   ∀ h21 : Hp, h21 = (pR h18 a0 1 (z + 1)) →
   h0 h21 z18 ∧
   8 + 1 ≤ 901 ∧
   2461 + 5 ≤ 36927 ∧
   9 + 1 ≤ 901 ∧
   2466 + 2 ≤ 36927 ∧
   ((uS S18 z18 (2, 0)) z18).1 ≠ 0 ∧
   (wX1_init ((uS S18 z18 (2, 0))) (z18 + 1) h21 z18 (fun S29 z29 h29 =>
    (S29 a0).1 = 12 ∧
    ∀ h32 : Hp, h32 = (pR h29 a0 2 z18) →
    h0 h32 z29 ∧
    10 + 1 ≤ 901 ∧
    2468 + 5 ≤ 36927 ∧
    11 + 2 ≤ 901 ∧
    2473 + 4 ≤ 36927 ∧
    ((uS S29 z29 (11, 0)) z29).1 ≠ 0 ∧
    (wX10_init ((uS S29 z29 (11, 0))) (z29 + 1) h32 z29 (fun S40 z40 h40 =>
     (S40 a0).1 = 12 ∧
     ∀ h43 : Hp, h43 = (pR h40 a0 3 z29) →
     h0 h43 z40 ∧
     13 + 1 ≤ 901 ∧
     2477 + 3 ≤ 36927 ∧
     14 + 2 ≤ 901 ∧
     2480 + 200 ≤ 36927 ∧
     ((uS S40 z40 (5, 0)) z40).1 ≠ 0 ∧
     (wX4_init ((uS S40 z40 (5, 0))) (z40 + 1) h43 z40 (fun S51 z51 h51 =>
      (S51 a0).1 = 12 ∧
      ∀ h54 : Hp, h54 = (pR h51 a0 4 z40) →
      h0 h54 z51 ∧
      16 + 1 ≤ 901 ∧
      2680 + 2 ≤ 36927 ∧
      17 + 1 ≤ 901 ∧
      2682 + 68 ≤ 36927 ∧
      ((uS S51 z51 (7, 0)) z51).1 ≠ 0 ∧
      (wX6_init ((uS S51 z51 (7, 0))) (z51 + 1) h54 z51 (fun S62 z62 h62 =>
       (S62 a0).1 = 12 ∧
       ∀ h65 : Hp, h65 = (pR h62 a0 5 z51) →
       h0 h65 z62 ∧
       18 + 1 ≤ 901 ∧
       2750 + 3 ≤ 36927 ∧
       ((uS S62 z62 (20, 3)) a0).1 = 12 ∧
       ∀ h72 : Hp, h72 = (pR h65 a0 6 z62) →
       h0 h72 (z62 + 1) ∧
       19 + 1 ≤ 901 ∧
       2753 + 7 ≤ 36927 ∧
       20 + 440 ≤ 901 ∧
       2760 + 17080 ≤ 36927 ∧
       ((uS ((uS S62 z62 (20, 3))) (z62 + 1) (4, 0)) (z62 + 1)).1 ≠ 0 ∧
       (wX3_init ((uS ((uS S62 z62 (20, 3))) (z62 + 1) (4, 0))) (z62 + 2) h72 (z62 + 1) (fun S80 z80 h80 =>
        (S80 a0).1 = 12 ∧
        ∀ h83 : Hp, h83 = (pR h80 a0 7 (z62 + 1)) →
        h0 h83 z80 ∧
        460 + 1 ≤ 901 ∧
        19840 + 7 ≤ 36927 ∧
        461 + 440 ≤ 901 ∧
        19847 + 17080 ≤ 36927 ∧
        ((uS S80 z80 (4, 0)) z80).1 ≠ 0 ∧
        (wX3_init ((uS S80 z80 (4, 0))) (z80 + 1) h83 z80 (fun S91 z91 h91 =>
         (S91 a0).1 = 12 ∧
         ∀ h94 : Hp, h94 = (pR h91 a0 8 z80) →
         ∀ h99 : Hp, h99 = (pI h94 a0 9 (0 : Int32)) →
         ∀ h104 : Hp, h104 = (pI h99 a0 10 (-1 : Int32)) →
         ∀ h109 : Hp, h109 = (pI h104 a0 11 (0 : Int32)) →
         ∀ h114 : Hp, h114 = (pI h109 a0 12 (0 : Int32)) →
         901 ≤ 901 ∧ 36927 ≤ 36927 ∧ Q S91 z91 ((pI h114 a0 13 (-1 : Int32)))))))))))))))))
noncomputable def wX11_isVariable (S : Sh) (h : Hp) (a0 : Nat) (x1 : Int32) (x2 : Int32) (Q : Int32 → Hp → Prop) : Prop :=
  (S a0).1 = 12 ∧
  (wX11_isMachine S h a0 x1 (fun r2 h2 =>
   ((r2 = 0 →
    Q (0 : Int32) h2) ∧
    (¬ r2 = 0 →
     ((x2 < 0 →
      Q (0 : Int32) h2) ∧
      (¬ x2 < 0 →
       (S (gR h2 a0 7)).1 = 4 ∧
       inA S ((gR h2 (gR h2 a0 7) 0)) 25 x1 ∧
       (S ((gR h2 ((gR h2 (gR h2 a0 7) 0)) (ix x1)))).1 = 3 ∧
       (((gI h2 ((gR h2 ((gR h2 (gR h2 a0 7) 0)) (ix x1))) 11) ≤ x2 →
        Q (0 : Int32) h2) ∧
        (¬ (gI h2 ((gR h2 ((gR h2 (gR h2 a0 7) 0)) (ix x1))) 11) ≤ x2 →
         Q (1 : Int32) h2))))))))
noncomputable def wX11_letter_j61 (S : Sh) (Tq : Hp → Prop) (h : Hp) (x3 : Int32) (s0 : Int64) (Q : Int32 → Hp → Prop) : Prop :=
  ((x3 < 0 →
   Tq h) ∧
   (¬ x3 < 0 →
    (wX11_lengthOf S h s0 (fun r70 h70 =>
     ((x3 < r70 →
      (wX11_letterOf S h70 s0 x3 (fun r87 h87 =>
       Q r87 h87))) ∧
      (¬ x3 < r70 →
       Tq h70))))))
noncomputable def wX11_letter_j30 (S : Sh) (Tq : Hp → Prop) (h : Hp) (a0 : Nat) (x1 : Int32) (x2 : Int32) (x3 : Int32) (Q : Int32 → Hp → Prop) : Prop :=
  (S a0).1 = 12 ∧
  (S (gR h a0 7)).1 = 4 ∧
  inA S ((gR h (gR h a0 7) 0)) 25 x1 ∧
  ∀ av39 : Nat, av39 = (gR h ((gR h (gR h a0 7) 0)) (ix x1)) →
  ((¬ x2 = (-1 : Int32) →
   (S av39).1 = 3 ∧
   inA S (gR h av39 0) 23 x2 ∧
   (wX11_letter_j61 S Tq h x3 ((gJ h (gR h av39 0) (ix x2))) Q)) ∧
   (x2 = (-1 : Int32) →
    (S av39).1 = 3 ∧
    (wX11_letter_j61 S Tq h x3 (gJ h av39 10) Q)))
noncomputable def wX11_letter (S : Sh) (Tq : Hp → Prop) (h : Hp) (a0 : Nat) (x1 : Int32) (x2 : Int32) (x3 : Int32) (Q : Int32 → Hp → Prop) : Prop :=
  (S a0).1 = 12 ∧
  (wX11_isMachine S h a0 x1 (fun r2 h2 =>
   ((r2 = 0 →
    Tq h2) ∧
    (¬ r2 = 0 →
     ((x2 = (-1 : Int32) →
      (wX11_letter_j30 S Tq h2 a0 x1 x2 x3 Q)) ∧
      (¬ x2 = (-1 : Int32) →
       (wX11_isVariable S h2 a0 x1 x2 (fun r16 h16 =>
        ((¬ r16 = 0 →
         (wX11_letter_j30 S Tq h16 a0 x1 x2 x3 Q)) ∧
         (r16 = 0 →
          Tq h16))))))))))
def wL_letter (S : Sh) (h : Hp) (a0 : Nat) (x1 x2 x3 : Int32) (a4 : Nat) (Q : Int32 → Hp → Prop) : Prop := inA S a4 23 0 ∧ (S a0).1 = 12 ∧ wX11_letter S (fun h1 => Q 1 h1) h a0 x1 x2 x3 (fun r h1 => Q 0 (pJ h1 a4 (ix 0) r.toInt64))
noncomputable def wX11_machine (S : Sh) (h : Hp) (a0 : Nat) (x1 : Int32) (x2 : Int32) (Q : Int32 → Hp → Prop) : Prop :=
  (S a0).1 = 12 ∧
  (wX11_isMachine S h a0 x1 (fun r2 h2 =>
   ((r2 = 0 →
    (wX11_refuse S h2 a0 (1 : Int32) (fun r20 h20 =>
     Q r20 h20))) ∧
    (¬ r2 = 0 →
     ((x2 < 0 →
      (wX11_refuse S h2 a0 (1 : Int32) (fun r20 h20 =>
       Q r20 h20))) ∧
      (¬ x2 < 0 →
       ((x2 ≤ (8 : Int32) →
        (S (gR h2 a0 7)).1 = 4 ∧
        inA S ((gR h2 (gR h2 a0 7) 0)) 25 x1 ∧
        (S ((gR h2 ((gR h2 (gR h2 a0 7) 0)) (ix x1)))).1 = 3 ∧
        (wX2_told S h2 ((gR h2 ((gR h2 (gR h2 a0 7) 0)) (ix x1))) x2 (fun r35 h35 =>
         (wX11_answer S h35 a0 r35 (fun r38 h38 =>
          Q r38 h38))))) ∧
        (¬ x2 ≤ (8 : Int32) →
         (wX11_refuse S h2 a0 (1 : Int32) (fun r20 h20 =>
          Q r20 h20))))))))))
noncomputable def wX11_machines (S : Sh) (h : Hp) (a0 : Nat) (x1 : Int32) (Q : Int32 → Hp → Prop) : Prop :=
  ((x1 < 0 →
   (S a0).1 = 12 ∧
   (wX11_refuse S h a0 (2 : Int32) (fun r14 h14 =>
    Q r14 h14))) ∧
   (¬ x1 < 0 →
    (S a0).1 = 12 ∧
    ((x1 ≤ (gI h a0 9) →
     (S (gR h a0 1)).1 = 6 ∧
     (wX5_start S h (gR h a0 1) (gR h a0 0) x1 (gR h a0 8) (fun h31 =>
      (S (gR h31 a0 1)).1 = 6 ∧
      (wX5_readLines S h31 (gR h31 a0 1) (fun r38 h38 =>
       ∀ h44 : Hp, h44 = (pI h38 a0 9 (0 : Int32)) →
       (S (gR h44 a0 1)).1 = 6 ∧
       ∀ h55 : Hp, h55 = (pI h44 a0 12 ((gI h44 (gR h44 a0 1) 2))) →
       (S (gR h55 a0 1)).1 = 6 ∧
       ∀ h66 : Hp, h66 = (pI h55 a0 13 ((gI h55 (gR h55 a0 1) 3))) →
       ((¬ r38 = 0 →
        ∀ h89 : Hp, h89 = (pR h66 a0 7 (gR h66 a0 8)) →
        ∀ h94 : Hp, h94 = (pR h89 a0 8 (gR h66 a0 7)) →
        (S (gR h94 a0 7)).1 = 4 ∧
        (wX3_settle S h94 (gR h94 a0 7) (fun h101 =>
         (S (gR h101 a0 3)).1 = 11 ∧
         (wX10_end S h101 (gR h101 a0 3) (fun h108 =>
          ∀ h113 : Hp, h113 = (pI h108 a0 10 (-1 : Int32)) →
          (S (gR h113 a0 7)).1 = 4 ∧
          (wX11_answer S h113 a0 ((gI h113 (gR h113 a0 7) 5)) (fun r124 h124 =>
           Q r124 h124))))))) ∧
        (r38 = 0 →
         (wX11_refuse S h66 a0 (4 : Int32) (fun r75 h75 =>
          Q r75 h75))))))))) ∧
     (¬ x1 ≤ (gI h a0 9) →
      (wX11_refuse S h a0 (2 : Int32) (fun r14 h14 =>
       Q r14 h14))))))
noncomputable def wX11_now (S : Sh) (h : Hp) (a0 : Nat) (x1 : Int32) (Q : Int32 → Hp → Prop) : Prop :=
  (S a0).1 = 12 ∧
  (S (gR h a0 3)).1 = 11 ∧
  (wX11_isMachine S h a0 ((gI h (gR h a0 3) 2)) (fun r8 h8 =>
   ((r8 = 0 →
    (wX11_refuse S h8 a0 (1 : Int32) (fun r25 h25 =>
     Q r25 h25))) ∧
    (¬ r8 = 0 →
     ((x1 < 0 →
      (wX11_refuse S h8 a0 (1 : Int32) (fun r25 h25 =>
       Q r25 h25))) ∧
      (¬ x1 < 0 →
       ((x1 ≤ (4 : Int32) →
        ((x1 = (0 : Int32) →
         (S (gR h8 a0 3)).1 = 11 ∧
         (wX11_answer S h8 a0 ((gI h8 (gR h8 a0 3) 2)) (fun r68 h68 =>
          Q r68 h68))) ∧
         (¬ x1 = (0 : Int32) →
          ((x1 = (1 : Int32) →
           (S (gR h8 a0 3)).1 = 11 ∧
           (wX11_answer S h8 a0 ((gI h8 (gR h8 a0 3) 3)) (fun r80 h80 =>
            Q r80 h80))) ∧
           (¬ x1 = (1 : Int32) →
            ((x1 = (2 : Int32) →
             (S (gR h8 a0 3)).1 = 11 ∧
             (wX11_answer S h8 a0 ((gI h8 (gR h8 a0 3) 4)) (fun r92 h92 =>
              Q r92 h92))) ∧
             (¬ x1 = (2 : Int32) →
              ((x1 = (3 : Int32) →
               (S (gR h8 a0 3)).1 = 11 ∧
               (S ((gR h8 (gR h8 a0 3) 0))).1 = 8 ∧
               (wX7_count S h8 ((gR h8 (gR h8 a0 3) 0)) (fun r104 h104 =>
                (wX11_answer S h104 a0 r104 (fun r107 h107 =>
                 Q r107 h107))))) ∧
               (¬ x1 = (3 : Int32) →
                (S (gR h8 a0 7)).1 = 4 ∧
                (S (gR h8 a0 3)).1 = 11 ∧
                inA S ((gR h8 (gR h8 a0 7) 0)) 25 ((gI h8 (gR h8 a0 3) 2)) ∧
                (S ((gR h8 ((gR h8 (gR h8 a0 7) 0)) (ix ((gI h8 (gR h8 a0 3) 2)))))).1 = 3 ∧
                (wX2_eventsFrom S h8 ((gR h8 ((gR h8 (gR h8 a0 7) 0)) (ix ((gI h8 (gR h8 a0 3) 2))))) ((gI h8 (gR h8 a0 3) 3)) (fun r134 h134 =>
                 (wX11_answer S h134 a0 r134 (fun r137 h137 =>
                  Q r137 h137))))))))))))) ∧
        (¬ x1 ≤ (4 : Int32) →
         (wX11_refuse S h8 a0 (1 : Int32) (fun r25 h25 =>
          Q r25 h25))))))))))
noncomputable def wX11_octet (S : Sh) (h : Hp) (a0 : Nat) (x1 : Int32) (Q : Int32 → Hp → Prop) : Prop :=
  ((0 ≤ x1 →
   (S a0).1 = 12 ∧
   (S (gR h a0 5)).1 = 7 ∧
   (((gI h (gR h a0 5) 1) ≤ x1 →
    (wX11_answer S h a0 (-2 : Int32) (fun r36 h36 =>
     Q r36 h36))) ∧
    (¬ (gI h (gR h a0 5) 1) ≤ x1 →
     inA S ((gR h (gR h a0 5) 0)) 21 x1 ∧
     (wX11_answer S h a0 ((gI h ((gR h (gR h a0 5) 0)) (ix x1))) (fun r36 h36 =>
      Q r36 h36))))) ∧
   (¬ 0 ≤ x1 →
    (S a0).1 = 12 ∧
    (wX11_refuse S h a0 (1 : Int32) (fun r6 h6 =>
     Q r6 h6))))
noncomputable def wX11_open (S : Sh) (h : Hp) (a0 : Nat) (x1 : Int32) (Q : Int32 → Hp → Prop) : Prop :=
  (S a0).1 = 12 ∧
  (wX11_isMachine S h a0 x1 (fun r2 h2 =>
   ((¬ r2 = 0 →
    (S (gR h2 a0 2)).1 = 2 ∧
    (wX1_countOpen S h2 (gR h2 a0 2) (gR h2 a0 7) x1 (fun r24 h24 =>
     (wX11_answer S h24 a0 r24 (fun r27 h27 =>
      Q r27 h27))))) ∧
    (r2 = 0 →
     (wX11_refuse S h2 a0 (1 : Int32) (fun r10 h10 =>
      Q r10 h10))))))
noncomputable def wX11_reach (S : Sh) (h : Hp) (a0 : Nat) (x1 : Int32) (Q : Int32 → Hp → Prop) : Prop :=
  (S a0).1 = 12 ∧
  (wX11_isMachine S h a0 x1 (fun r2 h2 =>
   ((¬ r2 = 0 →
    (S (gR h2 a0 7)).1 = 4 ∧
    inA S ((gR h2 (gR h2 a0 7) 0)) 25 x1 ∧
    (S (gR h2 a0 4)).1 = 5 ∧
    (wX4_explore S h2 (gR h2 a0 4) ((gR h2 ((gR h2 (gR h2 a0 7) 0)) (ix x1))) (fun h27 =>
     (S (gR h27 a0 4)).1 = 5 ∧
     (wX11_answer S h27 a0 ((gI h27 (gR h27 a0 4) 2)) (fun r38 h38 =>
      Q r38 h38))))) ∧
    (r2 = 0 →
     (wX11_refuse S h2 a0 (1 : Int32) (fun r10 h10 =>
      Q r10 h10))))))
noncomputable def wX11_run (S : Sh) (h : Hp) (a0 : Nat) (x1 : Int32) (Q : Int32 → Hp → Prop) : Prop :=
  (S a0).1 = 12 ∧
  (wX11_isMachine S h a0 x1 (fun r2 h2 =>
   ((¬ r2 = 0 →
    (S (gR h2 a0 3)).1 = 11 ∧
    (wX10_begin S h2 (gR h2 a0 3) (gR h2 a0 7) x1 (fun h23 =>
     (S (gR h23 a0 3)).1 = 11 ∧
     (wX11_answer S h23 a0 ((gI h23 (gR h23 a0 3) 3)) (fun r34 h34 =>
      Q r34 h34))))) ∧
    (r2 = 0 →
     (wX11_refuse S h2 a0 (1 : Int32) (fun r10 h10 =>
      Q r10 h10))))))
noncomputable def wX11_shown (S : Sh) (h : Hp) (a0 : Nat) (x1 : Int32) (Q : Int32 → Hp → Prop) : Prop :=
  ((x1 < 0 →
   (S a0).1 = 12 ∧
   (wX11_refuse S h a0 (1 : Int32) (fun r15 h15 =>
    Q r15 h15))) ∧
   (¬ x1 < 0 →
    (S a0).1 = 12 ∧
    (S (gR h a0 6)).1 = 20 ∧
    ((x1 < (nI (S (gR h a0 6)).2) →
     ((¬ (gI h a0 10) = (-1 : Int32) →
      inA S (gR h a0 6) 20 x1 ∧
      (wX11_answer S h a0 ((gI h (gR h a0 6) (ix x1))) (fun r39 h39 =>
       Q r39 h39))) ∧
      ((gI h a0 10) = (-1 : Int32) →
       (wX11_answer S h a0 (-2 : Int32) (fun r39 h39 =>
        Q r39 h39))))) ∧
     (¬ x1 < (nI (S (gR h a0 6)).2) →
      (wX11_refuse S h a0 (1 : Int32) (fun r15 h15 =>
       Q r15 h15))))))
noncomputable def wX11_size (S : Sh) (h : Hp) (a0 : Nat) (Q : Int32 → Hp → Prop) : Prop :=
  (S a0).1 = 12 ∧
  Q (gI h a0 9) h
noncomputable def wX11_sound (S : Sh) (h : Hp) (a0 : Nat) (x1 : Int32) (x2 : Int32) (Q : Int32 → Hp → Prop) : Prop :=
  (S a0).1 = 12 ∧
  (wX11_isState S h a0 x1 x2 (fun r3 h3 =>
   ((¬ r3 = 0 →
    (S (gR h3 a0 7)).1 = 4 ∧
    inA S ((gR h3 (gR h3 a0 7) 0)) 25 x1 ∧
    (S ((gR h3 ((gR h3 (gR h3 a0 7) 0)) (ix x1)))).1 = 3 ∧
    inA S ((gR h3 ((gR h3 ((gR h3 (gR h3 a0 7) 0)) (ix x1))) 6)) 22 x2 ∧
    (((gI h3 ((gR h3 ((gR h3 ((gR h3 (gR h3 a0 7) 0)) (ix x1))) 6)) (ix x2)) = 0 →
     (wX11_answer S h3 a0 (0 : Int32) (fun r38 h38 =>
      Q r38 h38))) ∧
     (¬ (gI h3 ((gR h3 ((gR h3 ((gR h3 (gR h3 a0 7) 0)) (ix x1))) 6)) (ix x2)) = 0 →
      (wX11_answer S h3 a0 (1 : Int32) (fun r38 h38 =>
       Q r38 h38))))) ∧
    (r3 = 0 →
     (wX11_refuse S h3 a0 (1 : Int32) (fun r11 h11 =>
      Q r11 h11))))))
noncomputable def wX11_step (S : Sh) (h : Hp) (a0 : Nat) (x1 : Int32) (x2 : Int32) (Q : Int32 → Hp → Prop) : Prop :=
  (S a0).1 = 12 ∧
  (S (gR h a0 3)).1 = 11 ∧
  (wX11_isEvent S h a0 ((gI h (gR h a0 3) 2)) x1 (fun r9 h9 =>
   ((¬ r9 = 0 →
    (S (gR h9 a0 7)).1 = 4 ∧
    (S (gR h9 a0 3)).1 = 11 ∧
    inA S ((gR h9 (gR h9 a0 7) 0)) 25 ((gI h9 (gR h9 a0 3) 2)) ∧
    (S ((gR h9 ((gR h9 (gR h9 a0 7) 0)) (ix ((gI h9 (gR h9 a0 3) 2)))))).1 = 3 ∧
    inA S ((gR h9 ((gR h9 ((gR h9 (gR h9 a0 7) 0)) (ix ((gI h9 (gR h9 a0 3) 2))))) 5)) 24 x1 ∧
    ∀ av41 : Nat, av41 = (gR h9 ((gR h9 ((gR h9 ((gR h9 (gR h9 a0 7) 0)) (ix ((gI h9 (gR h9 a0 3) 2))))) 5)) (ix x1)) →
    (S av41).1 = 1 ∧
    (wX0_hasPick S h9 av41 x2 (fun r44 h44 =>
     ((¬ r44 = 0 →
      (S (gR h44 a0 3)).1 = 11 ∧
      (wX0_stepsAt S h44 av41 ((gI h44 (gR h44 a0 3) 3)) (fun r72 h72 =>
       ((¬ ((shr32 r72 ((x2 - (gI h44 av41 6)))) &&& (1 : Int32)) = 0 →
        (S (gR h72 a0 3)).1 = 11 ∧
        (wX10_move S h72 (gR h72 a0 3) (gR h72 a0 7) x1 ((x2 - (gI h44 av41 6))) (fun h100 =>
         (S (gR h100 a0 3)).1 = 11 ∧
         (wX11_answer S h100 a0 ((gI h100 (gR h100 a0 3) 3)) (fun r111 h111 =>
          Q r111 h111))))) ∧
        (((shr32 r72 ((x2 - (gI h44 av41 6)))) &&& (1 : Int32)) = 0 →
         (wX11_refuse S h72 a0 (5 : Int32) (fun r85 h85 =>
          Q r85 h85))))))) ∧
      (r44 = 0 →
       (wX11_refuse S h44 a0 (2 : Int32) (fun r52 h52 =>
        Q r52 h52))))))) ∧
    (r9 = 0 →
     (wX11_refuse S h9 a0 (1 : Int32) (fun r17 h17 =>
      Q r17 h17))))))
noncomputable def wX11_steps (S : Sh) (h : Hp) (a0 : Nat) (x1 : Int32) (x2 : Int32) (Q : Int32 → Hp → Prop) : Prop :=
  (S a0).1 = 12 ∧
  (wX11_isState S h a0 x1 x2 (fun r3 h3 =>
   ((¬ r3 = 0 →
    (S (gR h3 a0 7)).1 = 4 ∧
    inA S ((gR h3 (gR h3 a0 7) 0)) 25 x1 ∧
    (S (gR h3 a0 4)).1 = 5 ∧
    (wX4_explore S h3 (gR h3 a0 4) ((gR h3 ((gR h3 (gR h3 a0 7) 0)) (ix x1))) (fun h28 =>
     (S (gR h28 a0 4)).1 = 5 ∧
     inA S ((gR h28 (gR h28 a0 4) 0)) 20 x2 ∧
     (wX11_answer S h28 a0 ((gI h28 ((gR h28 (gR h28 a0 4) 0)) (ix x2))) (fun r41 h41 =>
      Q r41 h41))))) ∧
    (r3 = 0 →
     (wX11_refuse S h3 a0 (1 : Int32) (fun r11 h11 =>
      Q r11 h11))))))
noncomputable def wX11_stuck (S : Sh) (h : Hp) (a0 : Nat) (x1 : Int32) (Q : Int32 → Hp → Prop) : Prop :=
  (S a0).1 = 12 ∧
  (wX11_isMachine S h a0 x1 (fun r2 h2 =>
   ((¬ r2 = 0 →
    (S (gR h2 a0 7)).1 = 4 ∧
    inA S ((gR h2 (gR h2 a0 7) 0)) 25 x1 ∧
    ∀ av23 : Nat, av23 = (gR h2 ((gR h2 (gR h2 a0 7) 0)) (ix x1)) →
    (S (gR h2 a0 4)).1 = 5 ∧
    (wX4_explore S h2 (gR h2 a0 4) av23 (fun h29 =>
     (S (gR h29 a0 4)).1 = 5 ∧
     (wX4_firstEnd S h29 (gR h29 a0 4) av23 (fun r38 h38 =>
      (wX11_answer S h38 a0 r38 (fun r41 h41 =>
       Q r41 h41))))))) ∧
    (r2 = 0 →
     (wX11_refuse S h2 a0 (1 : Int32) (fun r10 h10 =>
      Q r10 h10))))))
noncomputable def wX11_trouble (S : Sh) (h : Hp) (a0 : Nat) (Q : Int32 → Hp → Prop) : Prop :=
  (S a0).1 = 12 ∧
  Q (gI h a0 11) h
noncomputable def wX11_unsound (S : Sh) (h : Hp) (a0 : Nat) (x1 : Int32) (Q : Int32 → Hp → Prop) : Prop :=
  (S a0).1 = 12 ∧
  (wX11_isMachine S h a0 x1 (fun r2 h2 =>
   ((¬ r2 = 0 →
    (S (gR h2 a0 7)).1 = 4 ∧
    inA S ((gR h2 (gR h2 a0 7) 0)) 25 x1 ∧
    ∀ av23 : Nat, av23 = (gR h2 ((gR h2 (gR h2 a0 7) 0)) (ix x1)) →
    (S (gR h2 a0 4)).1 = 5 ∧
    (wX4_explore S h2 (gR h2 a0 4) av23 (fun h29 =>
     (S (gR h29 a0 4)).1 = 5 ∧
     (wX4_countUnsound S h29 (gR h29 a0 4) av23 (fun r38 h38 =>
      (wX11_answer S h38 a0 r38 (fun r41 h41 =>
       Q r41 h41))))))) ∧
    (r2 = 0 →
     (wX11_refuse S h2 a0 (1 : Int32) (fun r10 h10 =>
      Q r10 h10))))))
noncomputable def wX11_value (S : Sh) (h : Hp) (a0 : Nat) (x1 : Int32) (x2 : Int32) (x3 : Int32) (Q : Int32 → Hp → Prop) : Prop :=
  (S a0).1 = 12 ∧
  (wX11_isState S h a0 x1 x2 (fun r3 h3 =>
   ((r3 = 0 →
    (wX11_refuse S h3 a0 (1 : Int32) (fun r20 h20 =>
     Q r20 h20))) ∧
    (¬ r3 = 0 →
     (wX11_isVariable S h3 a0 x1 x3 (fun r12 h12 =>
      ((¬ r12 = 0 →
       (S (gR h12 a0 7)).1 = 4 ∧
       inA S ((gR h12 (gR h12 a0 7) 0)) 25 x1 ∧
       (S ((gR h12 ((gR h12 (gR h12 a0 7) 0)) (ix x1)))).1 = 3 ∧
       (wX2_number S h12 ((gR h12 ((gR h12 (gR h12 a0 7) 0)) (ix x1))) x2 x3 (fun r36 h36 =>
        (wX11_answer S h36 a0 r36 (fun r39 h39 =>
         Q r39 h39))))) ∧
       (r12 = 0 →
        (wX11_refuse S h12 a0 (1 : Int32) (fun r20 h20 =>
         Q r20 h20))))))))))
noncomputable def wX11_variable (S : Sh) (h : Hp) (a0 : Nat) (x1 : Int32) (x2 : Int32) (x3 : Int32) (Q : Int32 → Hp → Prop) : Prop :=
  (S a0).1 = 12 ∧
  (wX11_isVariable S h a0 x1 x2 (fun r3 h3 =>
   ((r3 = 0 →
    (wX11_refuse S h3 a0 (1 : Int32) (fun r20 h20 =>
     Q r20 h20))) ∧
    (¬ r3 = 0 →
     ((x3 < 0 →
      (wX11_refuse S h3 a0 (1 : Int32) (fun r20 h20 =>
       Q r20 h20))) ∧
      (¬ x3 < 0 →
       ((x3 ≤ (2 : Int32) →
        (S (gR h3 a0 7)).1 = 4 ∧
        inA S ((gR h3 (gR h3 a0 7) 0)) 25 x1 ∧
        ∀ av33 : Nat, av33 = (gR h3 ((gR h3 (gR h3 a0 7) 0)) (ix x1)) →
        ((¬ x3 = 0 →
         ((¬ x3 = (1 : Int32) →
          (S av33).1 = 3 ∧
          inA S (gR h3 av33 3) 20 x2 ∧
          (wX11_answer S h3 a0 ((gI h3 (gR h3 av33 3) (ix x2))) (fun r74 h74 =>
           Q r74 h74))) ∧
          (x3 = (1 : Int32) →
           (S av33).1 = 3 ∧
           inA S (gR h3 av33 2) 20 x2 ∧
           (wX11_answer S h3 a0 ((gI h3 (gR h3 av33 2) (ix x2))) (fun r74 h74 =>
            Q r74 h74))))) ∧
         (x3 = 0 →
          (S av33).1 = 3 ∧
          inA S (gR h3 av33 1) 20 x2 ∧
          (wX11_answer S h3 a0 ((gI h3 (gR h3 av33 1) (ix x2))) (fun r47 h47 =>
           Q r47 h47))))) ∧
        (¬ x3 ≤ (2 : Int32) →
         (wX11_refuse S h3 a0 (1 : Int32) (fun r20 h20 =>
          Q r20 h20))))))))))
noncomputable def wX11_variant (S : Sh) (h : Hp) (a0 : Nat) (x1 : Int32) (x2 : Int32) (Q : Int32 → Hp → Prop) : Prop :=
  (S a0).1 = 12 ∧
  (wX11_isState S h a0 x1 x2 (fun r3 h3 =>
   ((¬ r3 = 0 →
    (S (gR h3 a0 7)).1 = 4 ∧
    inA S ((gR h3 (gR h3 a0 7) 0)) 25 x1 ∧
    ∀ av26 : Nat, av26 = (gR h3 ((gR h3 (gR h3 a0 7) 0)) (ix x1)) →
    (S av26).1 = 3 ∧
    ((¬ (gI h3 av26 15) = (-1 : Int32) →
     inA S (gR h3 av26 8) 20 x2 ∧
     (wX11_answer S h3 a0 ((gI h3 (gR h3 av26 8) (ix x2))) (fun r50 h50 =>
      Q r50 h50))) ∧
     ((gI h3 av26 15) = (-1 : Int32) →
      (wX11_refuse S h3 a0 (5 : Int32) (fun r37 h37 =>
       Q (0 : Int32) h37))))) ∧
    (r3 = 0 →
     (wX11_refuse S h3 a0 (1 : Int32) (fun r11 h11 =>
      Q (0 : Int32) h11))))))
noncomputable def wX11_where (S : Sh) (h : Hp) (a0 : Nat) (Q : Int32 → Hp → Prop) : Prop :=
  (S a0).1 = 12 ∧
  ((¬ (gI h a0 11) = (4 : Int32) →
   Q (-1 : Int32) h) ∧
   ((gI h a0 11) = (4 : Int32) →
    Q (gI h a0 13) h))
noncomputable def wX11_write_j64 (S : Sh) (K : Nat → Nat) (h : Hp) (a0 : Nat) (Q : Int32 → Hp → Prop) : Prop :=
  (S a0).1 = 12 ∧
  (S (gR h a0 7)).1 = 4 ∧
  inA S ((gR h (gR h a0 7) 0)) 25 (gI h a0 10) ∧
  inA S (gR h a0 6) 20 (1 : Int32) ∧
  (S (gR h a0 5)).1 = 7 ∧
  (wX6_putState S h (gR h a0 5) ((gR h ((gR h (gR h a0 7) 0)) (ix (gI h a0 10)))) ((gI h (gR h a0 6) (ix (1 : Int32)))) (fun h86 =>
   (S (gR h86 a0 5)).1 = 7 ∧
   (wX6_putText S K h86 (gR h86 a0 5) (K 1) (fun h95 =>
    inA S (gR h95 a0 6) 20 (2 : Int32) ∧
    (S (gR h95 a0 5)).1 = 7 ∧
    (wX6_putNumber S h95 (gR h95 a0 5) ((gI h95 (gR h95 a0 6) (ix (2 : Int32)))) (fun h108 =>
     (S (gR h108 a0 5)).1 = 7 ∧
     (wX11_answer S h108 a0 ((gI h108 (gR h108 a0 5) 1)) (fun r119 h119 =>
      Q r119 h119))))))))
noncomputable def wX11_write (S : Sh) (K : Nat → Nat) (h : Hp) (a0 : Nat) (Q : Int32 → Hp → Prop) : Prop :=
  (S a0).1 = 12 ∧
  inA S (gR h a0 6) 20 (1 : Int32) ∧
  (wX11_isState S h a0 (gI h a0 10) ((gI h (gR h a0 6) (ix (1 : Int32)))) (fun r11 h11 =>
   ((¬ r11 = 0 →
    (S (gR h11 a0 5)).1 = 7 ∧
    (wX6_clear S h11 (gR h11 a0 5) (fun h27 =>
     (((gI h27 a0 10) ≤ 0 →
      (wX11_write_j64 S K h27 a0 Q)) ∧
      (¬ (gI h27 a0 10) ≤ 0 →
       (S (gR h27 a0 7)).1 = 4 ∧
       inA S ((gR h27 (gR h27 a0 7) 0)) 25 (((gI h27 a0 10) - (1 : Int32))) ∧
       inA S (gR h27 a0 6) 20 (0 : Int32) ∧
       (S (gR h27 a0 5)).1 = 7 ∧
       (wX6_putState S h27 (gR h27 a0 5) ((gR h27 ((gR h27 (gR h27 a0 7) 0)) (ix (((gI h27 a0 10) - (1 : Int32)))))) ((gI h27 (gR h27 a0 6) (ix (0 : Int32)))) (fun h61 =>
        (wX11_write_j64 S K h61 a0 Q)))))))) ∧
    (r11 = 0 →
     (wX11_refuse S h11 a0 (5 : Int32) (fun r19 h19 =>
      Q r19 h19))))))
noncomputable def wX12_good (S : Sh) (h : Hp) (a0 : Nat) (x1 : Int32) (Q : Int32 → Hp → Prop) : Prop :=
  (S a0).1 = 13 ∧
  ∀ h2 : Hp, h2 = (pI h a0 1 (0 : Int32)) →
  Q x1 ((pI h2 a0 2 (-1 : Int32)))
noncomputable def wX12_in (S : Sh) (h : Hp) (x0 : Int32) (x1 : Int32) (x2 : Int32) (Q : Int32 → Hp → Prop) : Prop :=
  ((x0 < x1 →
   Q (0 : Int32) h) ∧
   (¬ x0 < x1 →
    ((x2 < x0 →
     Q (0 : Int32) h) ∧
     (¬ x2 < x0 →
      Q (1 : Int32) h))))
noncomputable def wX12_isMachine (S : Sh) (h : Hp) (a0 : Nat) (x1 : Int32) (Q : Int32 → Hp → Prop) : Prop :=
  (S a0).1 = 13 ∧
  (wX12_in S h x1 (0 : Int32) (((gI h a0 37) - (1 : Int32))) (fun r8 h8 =>
   r8 &&& 1 = r8 ∧
   Q r8 h8))
noncomputable def wX12_isEvent (S : Sh) (h : Hp) (a0 : Nat) (x1 : Int32) (x2 : Int32) (Q : Int32 → Hp → Prop) : Prop :=
  (S a0).1 = 13 ∧
  (wX12_isMachine S h a0 x1 (fun r2 h2 =>
   ((r2 = 0 →
    Q (0 : Int32) h2) ∧
    (¬ r2 = 0 →
     inA S (gR h2 a0 19) 20 x1 ∧
     (wX12_in S h2 x2 (0 : Int32) (((gI h2 (gR h2 a0 19) (ix x1)) - (1 : Int32))) (fun r18 h18 =>
      ((r18 = 0 →
       Q (0 : Int32) h18) ∧
       (¬ r18 = 0 →
        Q (1 : Int32) h18))))))))
noncomputable def wX12_refused (S : Sh) (h : Hp) (a0 : Nat) (x1 : Int32) (Q : Int32 → Hp → Prop) : Prop :=
  (S a0).1 = 13 ∧
  ∀ h2 : Hp, h2 = (pI h a0 1 x1) →
  Q (-1 : Int32) ((pI h2 a0 2 (-1 : Int32)))
noncomputable def wX12_aside_57b (S : Sh) (a0 : Nat) (x1 : Int32) (Q : Int32 → Hp → Prop) (B57 : Hp → Int32 → Int32 → Prop) (h : Hp) (x4 : Int32) (x5 : Int32) : Prop :=
  (S a0).1 = 13 ∧
  inA S (gR h a0 19) 20 x1 ∧
  (((gI h (gR h a0 19) (ix x1)) ≤ x5 →
   (wX12_good S h a0 x4 (fun r101 h101 =>
    Q r101 h101))) ∧
   (¬ (gI h (gR h a0 19) (ix x1)) ≤ x5 →
    inA S (gR h a0 36) 22 ((((4 : Int32) * x1) + x5)) ∧
    (((gI h (gR h a0 36) (ix ((((4 : Int32) * x1) + x5)))) = 0 →
     (B57 h ((x4 + (0 : Int32))) ((x5 + (1 : Int32))))) ∧
     (¬ (gI h (gR h a0 36) (ix ((((4 : Int32) * x1) + x5)))) = 0 →
      (B57 h ((x4 + (1 : Int32))) ((x5 + (1 : Int32))))))))
noncomputable def wX12_aside_57 (S : Sh) (a0 : Nat) (x1 : Int32) (Q : Int32 → Hp → Prop) (n : Nat) : Hp → Int32 → Int32 → Prop := Nat.rec (motive := fun _ => Hp → Int32 → Int32 → Prop) (fun _ _ _ => False) (fun _ B57 h x4 x5 => wX12_aside_57b S a0 x1 Q B57 h x4 x5) n
noncomputable def wX12_aside (S : Sh) (h : Hp) (a0 : Nat) (x1 : Int32) (x2 : Int32) (x3 : Int32) (Q : Int32 → Hp → Prop) : Prop :=
  (S a0).1 = 13 ∧
  (wX12_isEvent S ((pI h a0 0 (0 : Int32))) a0 x1 x2 (fun r8 h8 =>
   ((¬ r8 = 0 →
    inA S (gR h8 a0 36) 22 ((((4 : Int32) * x1) + x2)) ∧
    ((¬ (gI h8 (gR h8 a0 36) (ix ((((4 : Int32) * x1) + x2)))) = x3 →
     (∃ n57, wX12_aside_57 S a0 x1 Q n57 ((pI h8 (gR h8 a0 36) (ix ((((4 : Int32) * x1) + x2))) (x3 &&& 1))) (0 : Int32) (0 : Int32))) ∧
     ((gI h8 (gR h8 a0 36) (ix ((((4 : Int32) * x1) + x2)))) = x3 →
      (wX12_refused S h8 a0 (5 : Int32) (fun r36 h36 =>
       Q r36 h36))))) ∧
    (r8 = 0 →
     (wX12_refused S h8 a0 (1 : Int32) (fun r16 h16 =>
      Q r16 h16))))))
noncomputable def wX12_beginOf_4b (S : Sh) (a0 : Nat) (x1 : Int32) (Q : Int32 → Hp → Prop) (B4 : Hp → Int32 → Int32 → Prop) (h : Hp) (x2 : Int32) (x3 : Int32) : Prop :=
  (S a0).1 = 13 ∧
  inA S (gR h a0 17) 20 x1 ∧
  (((gI h (gR h a0 17) (ix x1)) ≤ x3 →
   Q x2 h) ∧
   (¬ (gI h (gR h a0 17) (ix x1)) ≤ x3 →
    inA S (gR h a0 24) 20 ((((3 : Int32) * x1) + x3)) ∧
    inA S (gR h a0 23) 20 ((((3 : Int32) * x1) + x3)) ∧
    inA S (gR h a0 25) 20 ((((3 : Int32) * x1) + x3)) ∧
    ∀ xv61 : Int32, xv61 = (((x2 * (((gI h (gR h a0 24) (ix ((((3 : Int32) * x1) + x3)))) - (gI h (gR h a0 23) (ix ((((3 : Int32) * x1) + x3))))) + (1 : Int32))) + (gI h (gR h a0 25) (ix ((((3 : Int32) * x1) + x3))))) - (gI h (gR h a0 23) (ix ((((3 : Int32) * x1) + x3))))) →
    (B4 h xv61 ((x3 + (1 : Int32))))))
noncomputable def wX12_beginOf_4 (S : Sh) (a0 : Nat) (x1 : Int32) (Q : Int32 → Hp → Prop) (n : Nat) : Hp → Int32 → Int32 → Prop := Nat.rec (motive := fun _ => Hp → Int32 → Int32 → Prop) (fun _ _ _ => False) (fun _ B4 h x2 x3 => wX12_beginOf_4b S a0 x1 Q B4 h x2 x3) n
noncomputable def wX12_beginOf (S : Sh) (h : Hp) (a0 : Nat) (x1 : Int32) (Q : Int32 → Hp → Prop) : Prop :=
  (∃ n4, wX12_beginOf_4 S a0 x1 Q n4 h (0 : Int32) (0 : Int32))
noncomputable def wX12_begins (S : Sh) (h : Hp) (a0 : Nat) (x1 : Int32) (x2 : Int32) (Q : Hp → Prop) : Prop :=
  (S a0).1 = 13 ∧
  x1 &&& 1 = x1 ∧
  ∀ h2 : Hp, h2 = (pI h a0 44 x1) →
  x2 &&& 1 = x2 ∧
  ∀ h7 : Hp, h7 = (pI h2 a0 45 x2) →
  ∀ h12 : Hp, h12 = (pI h7 a0 42 (0 : Int32)) →
  Q ((pI h12 a0 43 (0 : Int32)))
noncomputable def wX12_pair (S : Sh) (h : Hp) (x0 : Int32) (x1 : Int32) (x2 : Int32) (Q : Int32 → Hp → Prop) : Prop :=
  Q (((((10000 : Int32) * (x0 - (1 : Int32))) + ((100 : Int32) * x1)) + x2)) h
noncomputable def wX12_shows (S : Sh) (h : Hp) (a0 : Nat) (x1 : Int32) (x2 : Int32) (x3 : Int32) (x4 : Int32) (Q : Hp → Prop) : Prop :=
  (S a0).1 = 13 ∧
  ∀ h2 : Hp, h2 = (pI h a0 49 x1) →
  ∀ h7 : Hp, h7 = (pI h2 a0 50 x2) →
  ∀ h12 : Hp, h12 = (pI h7 a0 51 x3) →
  ∀ h18 : Hp, h18 = (pI h12 a0 52 x4) →
  Q ((pI h18 a0 53 (1 : Int32)))
noncomputable def wX12_begins__j48 (S : Sh) (h : Hp) (a0 : Nat) (x1 : Int32) (x2 : Int32) (x3 : Int32) (x4 : Int32) (s0 : Int32) (Q : Int32 → Hp → Prop) : Prop :=
  ((¬ s0 = 0 →
   s0 &&& 1 = s0 ∧
   Q s0 h) ∧
   (s0 = 0 →
    ((x2 = 0 →
     s0 &&& 1 = s0 ∧
     Q s0 h) ∧
     (¬ x2 = 0 →
      (S a0).1 = 13 ∧
      (wX12_shows S h a0 x1 x4 x3 (0 : Int32) (fun h65 =>
       s0 &&& 1 = s0 ∧
       Q s0 h65))))))
noncomputable def wX12_begins__j21 (S : Sh) (h : Hp) (a0 : Nat) (x1 : Int32) (x2 : Int32) (x3 : Int32) (s0 : Int32) (Q : Int32 → Hp → Prop) : Prop :=
  ((¬ x1 = 0 →
   (S a0).1 = 13 ∧
   (wX12_pair S h x1 s0 x3 (fun r44 h44 =>
    inA S (gR h a0 48) 22 r44 ∧
    (wX12_begins__j48 S h44 a0 x1 x2 x3 s0 ((gI h44 (gR h a0 48) (ix r44))) Q)))) ∧
   (x1 = 0 →
    (S a0).1 = 13 ∧
    inA S (gR h a0 47) 22 x3 ∧
    (wX12_begins__j48 S h a0 x1 x2 x3 s0 ((gI h (gR h a0 47) (ix x3))) Q)))
noncomputable def wX12_begins_ (S : Sh) (h : Hp) (a0 : Nat) (x1 : Int32) (x2 : Int32) (Q : Int32 → Hp → Prop) : Prop :=
  (S a0).1 = 13 ∧
  (wX12_beginOf S h a0 x1 (fun r2 h2 =>
   ((¬ x1 = 0 →
    (wX12_beginOf S h2 a0 ((x1 - (1 : Int32))) (fun r18 h18 =>
     (wX12_begins__j21 S h18 a0 x1 x2 r2 r18 Q)))) ∧
    (x1 = 0 →
     (wX12_begins__j21 S h2 a0 x1 x2 r2 (0 : Int32) Q)))))
noncomputable def wX12_isState (S : Sh) (h : Hp) (a0 : Nat) (x1 : Int32) (x2 : Int32) (Q : Int32 → Hp → Prop) : Prop :=
  (S a0).1 = 13 ∧
  (wX12_isMachine S h a0 x1 (fun r2 h2 =>
   ((r2 = 0 →
    Q (0 : Int32) h2) ∧
    (¬ r2 = 0 →
     inA S (gR h2 a0 20) 20 x1 ∧
     (wX12_in S h2 x2 (0 : Int32) (((gI h2 (gR h2 a0 20) (ix x1)) - (1 : Int32))) (fun r18 h18 =>
      ((r18 = 0 →
       Q (0 : Int32) h18) ∧
       (¬ r18 = 0 →
        Q (1 : Int32) h18))))))))
noncomputable def wX12_beneath_34b (S : Sh) (a0 : Nat) (x1 : Int32) (x2 : Int32) (Q : Int32 → Hp → Prop) (B34 : Hp → Int32 → Int32 → Prop) (h : Hp) (x4 : Int32) (x5 : Int32) : Prop :=
  (S a0).1 = 13 ∧
  inA S (gR h a0 20) 20 ((x1 - (1 : Int32))) ∧
  (((gI h (gR h a0 20) (ix ((x1 - (1 : Int32))))) ≤ x5 →
   (wX12_good S h a0 (-2 : Int32) (fun r89 h89 =>
    Q r89 h89))) ∧
   (¬ (gI h (gR h a0 20) (ix ((x1 - (1 : Int32))))) ≤ x5 →
    (wX12_pair S h x1 x5 x2 (fun r55 h55 =>
     inA S (gR h a0 48) 22 r55 ∧
     ((¬ (gI h55 (gR h a0 48) (ix r55)) = 0 →
      ((¬ x4 = 0 →
       (B34 h55 ((x4 + (-1 : Int32))) ((x5 + (1 : Int32))))) ∧
       (x4 = 0 →
        (wX12_good S h55 a0 x5 (fun r73 h73 =>
         Q r73 h73))))) ∧
      ((gI h55 (gR h a0 48) (ix r55)) = 0 →
       (B34 h55 x4 ((x5 + (1 : Int32))))))))))
noncomputable def wX12_beneath_34 (S : Sh) (a0 : Nat) (x1 : Int32) (x2 : Int32) (Q : Int32 → Hp → Prop) (n : Nat) : Hp → Int32 → Int32 → Prop := Nat.rec (motive := fun _ => Hp → Int32 → Int32 → Prop) (fun _ _ _ => False) (fun _ B34 h x4 x5 => wX12_beneath_34b S a0 x1 x2 Q B34 h x4 x5) n
noncomputable def wX12_beneath (S : Sh) (h : Hp) (a0 : Nat) (x1 : Int32) (x2 : Int32) (x3 : Int32) (Q : Int32 → Hp → Prop) : Prop :=
  (S a0).1 = 13 ∧
  (wX12_isState S ((pI h a0 0 (0 : Int32))) a0 x1 x2 (fun r8 h8 =>
   ((r8 = 0 →
    (wX12_refused S h8 a0 (1 : Int32) (fun r24 h24 =>
     Q r24 h24))) ∧
    (¬ r8 = 0 →
     ((x1 = 0 →
      (wX12_refused S h8 a0 (1 : Int32) (fun r24 h24 =>
       Q r24 h24))) ∧
      (¬ x1 = 0 →
       ((0 ≤ x3 →
        (∃ n34, wX12_beneath_34 S a0 x1 x2 Q n34 h8 x3 (0 : Int32))) ∧
        (¬ 0 ≤ x3 →
         (wX12_refused S h8 a0 (1 : Int32) (fun r24 h24 =>
          Q r24 h24))))))))))
noncomputable def wX12_beside_27b (S : Sh) (a0 : Nat) (Q : Int32 → Hp → Prop) (B27 : Hp → Int32 → Int32 → Prop) (h : Hp) (x2 : Int32) (x3 : Int32) : Prop :=
  (((100 : Int32) ≤ x3 →
   (S a0).1 = 13 ∧
   (wX12_good S h a0 (-2 : Int32) (fun r67 h67 =>
    Q r67 h67))) ∧
   (¬ (100 : Int32) ≤ x3 →
    (S a0).1 = 13 ∧
    inA S (gR h a0 59) 22 x3 ∧
    ((¬ (gI h (gR h a0 59) (ix x3)) = 0 →
     ((¬ x2 = 0 →
      (B27 h ((x2 + (-1 : Int32))) ((x3 + (1 : Int32))))) ∧
      (x2 = 0 →
       (wX12_good S h a0 x3 (fun r51 h51 =>
        Q r51 h51))))) ∧
     ((gI h (gR h a0 59) (ix x3)) = 0 →
      (B27 h x2 ((x3 + (1 : Int32))))))))
noncomputable def wX12_beside_27 (S : Sh) (a0 : Nat) (Q : Int32 → Hp → Prop) (n : Nat) : Hp → Int32 → Int32 → Prop := Nat.rec (motive := fun _ => Hp → Int32 → Int32 → Prop) (fun _ _ _ => False) (fun _ B27 h x2 x3 => wX12_beside_27b S a0 Q B27 h x2 x3) n
noncomputable def wX12_beside (S : Sh) (h : Hp) (a0 : Nat) (x1 : Int32) (Q : Int32 → Hp → Prop) : Prop :=
  (S a0).1 = 13 ∧
  ∀ h2 : Hp, h2 = (pI h a0 0 (0 : Int32)) →
  (((gI h2 a0 56) = (-1 : Int32) →
   (wX12_refused S h2 a0 (1 : Int32) (fun r19 h19 =>
    Q r19 h19))) ∧
   (¬ (gI h2 a0 56) = (-1 : Int32) →
    ((0 ≤ x1 →
     (∃ n27, wX12_beside_27 S a0 Q n27 h2 x1 (0 : Int32))) ∧
     (¬ 0 ≤ x1 →
      (wX12_refused S h2 a0 (1 : Int32) (fun r19 h19 =>
       Q r19 h19))))))
noncomputable def wX12_besideMany_4b (S : Sh) (a0 : Nat) (Q : Int32 → Hp → Prop) (B4 : Hp → Int32 → Int32 → Prop) (h : Hp) (x1 : Int32) (x2 : Int32) : Prop :=
  (((100 : Int32) ≤ x2 →
   Q x1 h) ∧
   (¬ (100 : Int32) ≤ x2 →
    (S a0).1 = 13 ∧
    inA S (gR h a0 59) 22 x2 ∧
    (((gI h (gR h a0 59) (ix x2)) = 0 →
     (B4 h ((x1 + (0 : Int32))) ((x2 + (1 : Int32))))) ∧
     (¬ (gI h (gR h a0 59) (ix x2)) = 0 →
      (B4 h ((x1 + (1 : Int32))) ((x2 + (1 : Int32))))))))
noncomputable def wX12_besideMany_4 (S : Sh) (a0 : Nat) (Q : Int32 → Hp → Prop) (n : Nat) : Hp → Int32 → Int32 → Prop := Nat.rec (motive := fun _ => Hp → Int32 → Int32 → Prop) (fun _ _ _ => False) (fun _ B4 h x1 x2 => wX12_besideMany_4b S a0 Q B4 h x1 x2) n
noncomputable def wX12_besideMany (S : Sh) (h : Hp) (a0 : Nat) (Q : Int32 → Hp → Prop) : Prop :=
  (∃ n4, wX12_besideMany_4 S a0 Q n4 h (0 : Int32) (0 : Int32))
noncomputable def wX12_joined (S : Sh) (h : Hp) (x0 : Int32) (x1 : Int32) (x2 : Int32) (Q : Int32 → Hp → Prop) : Prop :=
  ((x0 = (4 : Int32) →
   Q (x1 + x2) h) ∧
   (¬ x0 = (4 : Int32) →
    ((x0 = (5 : Int32) →
     Q (x1 - x2) h) ∧
     (¬ x0 = (5 : Int32) →
      ((x0 = (6 : Int32) →
       Q (x1 * x2) h) ∧
       (¬ x0 = (6 : Int32) →
        ((x0 = (7 : Int32) →
         ((x2 ≤ x1 →
          Q (0 : Int32) h) ∧
          (¬ x2 ≤ x1 →
           Q (1 : Int32) h))) ∧
         (¬ x0 = (7 : Int32) →
          ((x0 = (8 : Int32) →
           ((x1 ≤ x2 →
            Q (0 : Int32) h) ∧
            (¬ x1 ≤ x2 →
             Q (1 : Int32) h))) ∧
           (¬ x0 = (8 : Int32) →
            ((x0 = (9 : Int32) →
             ((¬ x1 = x2 →
              Q (0 : Int32) h) ∧
              (x1 = x2 →
               Q (1 : Int32) h))) ∧
             (¬ x0 = (9 : Int32) →
              ((x0 = (10 : Int32) →
               Q (x1 ||| x2) h) ∧
               (¬ x0 = (10 : Int32) →
                ((x0 = (11 : Int32) →
                 Q (x1 &&& x2) h) ∧
                 (¬ x0 = (11 : Int32) →
                  Q (x1 ||| x2) h))))))))))))))))
noncomputable def wX12_valueOf_16b (S : Sh) (a0 : Nat) (x1 : Int32) (x3 : Int32) (Q : Int32 → Hp → Prop) (B16 : Hp → Int32 → Int32 → Int32 → Prop) (h : Hp) (x4 : Int32) (x5 : Int32) (x6 : Int32) : Prop :=
  ((x6 < x3 →
   Q x5 h) ∧
   (¬ x6 < x3 →
    (S a0).1 = 13 ∧
    inA S (gR h a0 24) 20 ((((3 : Int32) * x1) + x6)) ∧
    inA S (gR h a0 23) 20 ((((3 : Int32) * x1) + x6)) ∧
    ∀ xv47 : Int32, xv47 = (((gI h (gR h a0 24) (ix ((((3 : Int32) * x1) + x6)))) - (gI h (gR h a0 23) (ix ((((3 : Int32) * x1) + x6))))) + (1 : Int32)) →
    ¬ xv47 = 0 ∧
    ∀ xv66 : Int32, xv66 = ((gI h (gR h a0 23) (ix ((((3 : Int32) * x1) + x6)))) + (rem32 x4 xv47)) →
    (B16 h (x4 / xv47) xv66 ((x6 + (-1 : Int32))))))
noncomputable def wX12_valueOf_16 (S : Sh) (a0 : Nat) (x1 : Int32) (x3 : Int32) (Q : Int32 → Hp → Prop) (n : Nat) : Hp → Int32 → Int32 → Int32 → Prop := Nat.rec (motive := fun _ => Hp → Int32 → Int32 → Int32 → Prop) (fun _ _ _ _ => False) (fun _ B16 h x4 x5 x6 => wX12_valueOf_16b S a0 x1 x3 Q B16 h x4 x5 x6) n
noncomputable def wX12_valueOf (S : Sh) (h : Hp) (a0 : Nat) (x1 : Int32) (x2 : Int32) (x3 : Int32) (Q : Int32 → Hp → Prop) : Prop :=
  (S a0).1 = 13 ∧
  inA S (gR h a0 17) 20 x1 ∧
  ∀ xv14 : Int32, xv14 = ((gI h (gR h a0 17) (ix x1)) - (1 : Int32)) →
  (∃ n16, wX12_valueOf_16 S a0 x1 x3 Q n16 h x2 (0 : Int32) xv14)
noncomputable def wX12_told_j187 (S : Sh) (B6 : Hp → Int32 → Int32 → Prop) (h : Hp) (a0 : Nat) (x1 : Int32) (x3 : Int32) (x4 : Int32) (x5 : Int32) (x6 : Int32) (x7 : Int32) (x8 : Int32) (Q : Int32 → Hp → Prop) : Prop :=
  (S a0).1 = 13 ∧
  inA S (gR h a0 39) 20 x8 ∧
  inA S (gR h a0 46) 20 (((x7 + (-1 : Int32)) - (1 : Int32))) ∧
  inA S (gR h a0 46) 20 ((x7 + (-1 : Int32))) ∧
  (wX12_joined S h ((gI h (gR h a0 39) (ix x8))) ((gI h (gR h a0 46) (ix (((x7 + (-1 : Int32)) - (1 : Int32)))))) ((gI h (gR h a0 46) (ix ((x7 + (-1 : Int32)))))) (fun r221 h221 =>
   (B6 ((pI h221 (gR h a0 46) (ix (((x7 + (-1 : Int32)) - (1 : Int32)))) r221)) ((x7 + (-1 : Int32))) ((x8 + (1 : Int32))))))
noncomputable def wX12_told_6b (S : Sh) (a0 : Nat) (x1 : Int32) (x3 : Int32) (x4 : Int32) (x5 : Int32) (x6 : Int32) (Q : Int32 → Hp → Prop) (B6 : Hp → Int32 → Int32 → Prop) (h : Hp) (x7 : Int32) (x8 : Int32) : Prop :=
  ((x3 ≤ x8 →
   (S a0).1 = 13 ∧
   inA S (gR h a0 46) 20 (0 : Int32) ∧
   Q ((gI h (gR h a0 46) (ix (0 : Int32)))) h) ∧
   (¬ x3 ≤ x8 →
    (S a0).1 = 13 ∧
    inA S (gR h a0 40) 20 x8 ∧
    ∀ xv19 : Int32, xv19 = (gI h (gR h a0 40) (ix x8)) →
    inA S (gR h a0 39) 20 x8 ∧
    (((gI h (gR h a0 39) (ix x8)) = (0 : Int32) →
     inA S (gR h a0 46) 20 x7 ∧
     (B6 ((pI h (gR h a0 46) (ix x7) xv19)) ((x7 + (1 : Int32))) ((x8 + (1 : Int32))))) ∧
     (¬ (gI h (gR h a0 39) (ix x8)) = (0 : Int32) →
      (((gI h (gR h a0 39) (ix x8)) = (1 : Int32) →
       (wX12_valueOf S h a0 x1 x5 xv19 (fun r115 h115 =>
        inA S (gR h a0 46) 20 x7 ∧
        (B6 ((pI h115 (gR h a0 46) (ix x7) r115)) ((x7 + (1 : Int32))) ((x8 + (1 : Int32))))))) ∧
       (¬ (gI h (gR h a0 39) (ix x8)) = (1 : Int32) →
        (((gI h (gR h a0 39) (ix x8)) = (2 : Int32) →
         (wX12_valueOf S h a0 ((x1 - (1 : Int32))) x4 xv19 (fun r139 h139 =>
          inA S (gR h a0 46) 20 x7 ∧
          (B6 ((pI h139 (gR h a0 46) (ix x7) r139)) ((x7 + (1 : Int32))) ((x8 + (1 : Int32))))))) ∧
         (¬ (gI h (gR h a0 39) (ix x8)) = (2 : Int32) →
          (((gI h (gR h a0 39) (ix x8)) = (3 : Int32) →
           inA S (gR h a0 46) 20 x7 ∧
           (B6 ((pI h (gR h a0 46) (ix x7) x6)) ((x7 + (1 : Int32))) ((x8 + (1 : Int32))))) ∧
           (¬ (gI h (gR h a0 39) (ix x8)) = (3 : Int32) →
            (((gI h (gR h a0 39) (ix x8)) = (4 : Int32) →
             (wX12_told_j187 S B6 h a0 x1 x3 x4 x5 x6 x7 x8 Q)) ∧
             (¬ (gI h (gR h a0 39) (ix x8)) = (4 : Int32) →
              (((gI h (gR h a0 39) (ix x8)) = (5 : Int32) →
               (wX12_told_j187 S B6 h a0 x1 x3 x4 x5 x6 x7 x8 Q)) ∧
               (¬ (gI h (gR h a0 39) (ix x8)) = (5 : Int32) →
                (((gI h (gR h a0 39) (ix x8)) = (6 : Int32) →
                 (wX12_told_j187 S B6 h a0 x1 x3 x4 x5 x6 x7 x8 Q)) ∧
                 (¬ (gI h (gR h a0 39) (ix x8)) = (6 : Int32) →
                  (((gI h (gR h a0 39) (ix x8)) = (7 : Int32) →
                   (wX12_told_j187 S B6 h a0 x1 x3 x4 x5 x6 x7 x8 Q)) ∧
                   (¬ (gI h (gR h a0 39) (ix x8)) = (7 : Int32) →
                    (((gI h (gR h a0 39) (ix x8)) = (8 : Int32) →
                     (wX12_told_j187 S B6 h a0 x1 x3 x4 x5 x6 x7 x8 Q)) ∧
                     (¬ (gI h (gR h a0 39) (ix x8)) = (8 : Int32) →
                      (((gI h (gR h a0 39) (ix x8)) = (9 : Int32) →
                       (wX12_told_j187 S B6 h a0 x1 x3 x4 x5 x6 x7 x8 Q)) ∧
                       (¬ (gI h (gR h a0 39) (ix x8)) = (9 : Int32) →
                        (((gI h (gR h a0 39) (ix x8)) = (10 : Int32) →
                         inA S (gR h a0 46) 20 ((x7 - (1 : Int32))) ∧
                         (B6 ((pI h (gR h a0 46) (ix ((x7 - (1 : Int32)))) (((1 : Int32) - (gI h (gR h a0 46) (ix ((x7 - (1 : Int32))))))))) x7 ((x8 + (1 : Int32))))) ∧
                         (¬ (gI h (gR h a0 39) (ix x8)) = (10 : Int32) →
                          (wX12_told_j187 S B6 h a0 x1 x3 x4 x5 x6 x7 x8 Q)))))))))))))))))))))))))
noncomputable def wX12_told_6 (S : Sh) (a0 : Nat) (x1 : Int32) (x3 : Int32) (x4 : Int32) (x5 : Int32) (x6 : Int32) (Q : Int32 → Hp → Prop) (n : Nat) : Hp → Int32 → Int32 → Prop := Nat.rec (motive := fun _ => Hp → Int32 → Int32 → Prop) (fun _ _ _ => False) (fun _ B6 h x7 x8 => wX12_told_6b S a0 x1 x3 x4 x5 x6 Q B6 h x7 x8) n
noncomputable def wX12_told (S : Sh) (h : Hp) (a0 : Nat) (x1 : Int32) (x2 : Int32) (x3 : Int32) (x4 : Int32) (x5 : Int32) (x6 : Int32) (Q : Int32 → Hp → Prop) : Prop :=
  (∃ n6, wX12_told_6 S a0 x1 x3 x4 x5 x6 Q n6 h (0 : Int32) x2)
noncomputable def wX12_canBe (S : Sh) (h : Hp) (a0 : Nat) (x1 : Int32) (x2 : Int32) (x3 : Int32) (x4 : Int32) (Q : Int32 → Hp → Prop) : Prop :=
  ∀ xv5 : Int32, xv5 = (((4 : Int32) * x1) + x2) →
  (S a0).1 = 13 ∧
  inA S (gR h a0 36) 22 xv5 ∧
  ((¬ (gI h (gR h a0 36) (ix xv5)) = 0 →
   Q (0 : Int32) h) ∧
   ((gI h (gR h a0 36) (ix xv5)) = 0 →
    inA S (gR h a0 31) 20 xv5 ∧
    inA S (gR h a0 32) 20 xv5 ∧
    (wX12_told S h a0 x1 ((gI h (gR h a0 31) (ix xv5))) ((gI h (gR h a0 32) (ix xv5))) (0 : Int32) x3 x4 (fun r37 h37 =>
     ((¬ r37 = (1 : Int32) →
      Q (0 : Int32) h37) ∧
      (r37 = (1 : Int32) →
       Q (1 : Int32) h37))))))
noncomputable def wX12_isPick (S : Sh) (h : Hp) (a0 : Nat) (x1 : Int32) (x2 : Int32) (x3 : Int32) (Q : Int32 → Hp → Prop) : Prop :=
  (S a0).1 = 13 ∧
  inA S (gR h a0 29) 20 ((((4 : Int32) * x1) + x2)) ∧
  inA S (gR h a0 30) 20 ((((4 : Int32) * x1) + x2)) ∧
  (wX12_in S h x3 ((gI h (gR h a0 29) (ix ((((4 : Int32) * x1) + x2))))) ((gI h (gR h a0 30) (ix ((((4 : Int32) * x1) + x2))))) (fun r21 h21 =>
   r21 &&& 1 = r21 ∧
   Q r21 h21))
noncomputable def wX12_can (S : Sh) (h : Hp) (a0 : Nat) (x1 : Int32) (x2 : Int32) (x3 : Int32) (x4 : Int32) (Q : Int32 → Hp → Prop) : Prop :=
  (S a0).1 = 13 ∧
  (wX12_isEvent S ((pI h a0 0 (0 : Int32))) a0 x1 x2 (fun r8 h8 =>
   ((r8 = 0 →
    (wX12_refused S h8 a0 (1 : Int32) (fun r25 h25 =>
     Q r25 h25))) ∧
    (¬ r8 = 0 →
     (wX12_isState S h8 a0 x1 x3 (fun r17 h17 =>
      ((¬ r17 = 0 →
       (wX12_isPick S h17 a0 x1 x2 x4 (fun r34 h34 =>
        ((¬ r34 = 0 →
         (wX12_canBe S h34 a0 x1 x2 x3 x4 (fun r53 h53 =>
          ((r53 = 0 →
           (wX12_good S h53 a0 (0 : Int32) (fun r64 h64 =>
            Q r64 h64))) ∧
           (¬ r53 = 0 →
            (wX12_good S h53 a0 (1 : Int32) (fun r64 h64 =>
             Q r64 h64))))))) ∧
         (r34 = 0 →
          (wX12_refused S h34 a0 (2 : Int32) (fun r42 h42 =>
           Q r42 h42))))))) ∧
       (r17 = 0 →
        (wX12_refused S h17 a0 (1 : Int32) (fun r25 h25 =>
         Q r25 h25))))))))))
noncomputable def wX12_canBeAny_12b (S : Sh) (a0 : Nat) (x1 : Int32) (x2 : Int32) (x3 : Int32) (Q : Int32 → Hp → Prop) (B12 : Hp → Int32 → Prop) (h : Hp) (x4 : Int32) : Prop :=
  (S a0).1 = 13 ∧
  inA S (gR h a0 30) 20 ((((4 : Int32) * x1) + x2)) ∧
  (((gI h (gR h a0 30) (ix ((((4 : Int32) * x1) + x2)))) < x4 →
   Q (0 : Int32) h) ∧
   (¬ (gI h (gR h a0 30) (ix ((((4 : Int32) * x1) + x2)))) < x4 →
    (wX12_canBe S h a0 x1 x2 x3 x4 (fun r33 h33 =>
     ((r33 = 0 →
      (B12 h33 ((x4 + (1 : Int32))))) ∧
      (¬ r33 = 0 →
       Q (1 : Int32) h33))))))
noncomputable def wX12_canBeAny_12 (S : Sh) (a0 : Nat) (x1 : Int32) (x2 : Int32) (x3 : Int32) (Q : Int32 → Hp → Prop) (n : Nat) : Hp → Int32 → Prop := Nat.rec (motive := fun _ => Hp → Int32 → Prop) (fun _ _ => False) (fun _ B12 h x4 => wX12_canBeAny_12b S a0 x1 x2 x3 Q B12 h x4) n
noncomputable def wX12_canBeAny (S : Sh) (h : Hp) (a0 : Nat) (x1 : Int32) (x2 : Int32) (x3 : Int32) (Q : Int32 → Hp → Prop) : Prop :=
  (S a0).1 = 13 ∧
  inA S (gR h a0 29) 20 ((((4 : Int32) * x1) + x2)) ∧
  ∀ xv10 : Int32, xv10 = (gI h (gR h a0 29) (ix ((((4 : Int32) * x1) + x2)))) →
  (∃ n12, wX12_canBeAny_12 S a0 x1 x2 x3 Q n12 h xv10)
noncomputable def wX12_canGoOn_2b (S : Sh) (a0 : Nat) (x1 : Int32) (x2 : Int32) (Q : Int32 → Hp → Prop) (B2 : Hp → Int32 → Prop) (h : Hp) (x3 : Int32) : Prop :=
  (S a0).1 = 13 ∧
  inA S (gR h a0 19) 20 x1 ∧
  (((gI h (gR h a0 19) (ix x1)) ≤ x3 →
   Q (0 : Int32) h) ∧
   (¬ (gI h (gR h a0 19) (ix x1)) ≤ x3 →
    (wX12_canBeAny S h a0 x1 x3 x2 (fun r16 h16 =>
     ((r16 = 0 →
      (B2 h16 ((x3 + (1 : Int32))))) ∧
      (¬ r16 = 0 →
       Q (1 : Int32) h16))))))
noncomputable def wX12_canGoOn_2 (S : Sh) (a0 : Nat) (x1 : Int32) (x2 : Int32) (Q : Int32 → Hp → Prop) (n : Nat) : Hp → Int32 → Prop := Nat.rec (motive := fun _ => Hp → Int32 → Prop) (fun _ _ => False) (fun _ B2 h x3 => wX12_canGoOn_2b S a0 x1 x2 Q B2 h x3) n
noncomputable def wX12_canGoOn (S : Sh) (h : Hp) (a0 : Nat) (x1 : Int32) (x2 : Int32) (Q : Int32 → Hp → Prop) : Prop :=
  (∃ n2, wX12_canGoOn_2 S a0 x1 x2 Q n2 h (0 : Int32))
noncomputable def wX12_givenBy_j122 (S : Sh) (B13 : Hp → Int32 → Int32 → Prop) (h : Hp) (a0 : Nat) (x1 : Int32) (x3 : Int32) (x4 : Int32) (x5 : Int32) (x6 : Int32) (x7 : Int32) (x8 : Int32) (x9 : Int32) (s0 : Int32) (Q : Int32 → Hp → Prop) : Prop :=
  (wX12_in S h s0 x8 x9 (fun r130 h130 =>
   ((¬ r130 = 0 →
    ∀ xv155 : Int32, xv155 = (((x6 * ((x9 - x8) + (1 : Int32))) + s0) - x8) →
    (B13 h130 xv155 ((x7 + (1 : Int32))))) ∧
    (r130 = 0 →
     Q (-2 : Int32) h130))))
noncomputable def wX12_givenBy_j71 (S : Sh) (B13 : Hp → Int32 → Int32 → Prop) (h : Hp) (a0 : Nat) (x1 : Int32) (x3 : Int32) (x4 : Int32) (x5 : Int32) (x6 : Int32) (x7 : Int32) (x8 : Int32) (x9 : Int32) (s0 : Int32) (Q : Int32 → Hp → Prop) : Prop :=
  ((s0 = 0 →
   (S a0).1 = 13 ∧
   (wX12_valueOf S h a0 x1 x3 x7 (fun r119 h119 =>
    (wX12_givenBy_j122 S B13 h119 a0 x1 x3 x4 x5 x6 x7 x8 x9 r119 Q)))) ∧
   (¬ s0 = 0 →
    (S a0).1 = 13 ∧
    inA S (gR h a0 34) 20 ((((3 : Int32) * x5) + x7)) ∧
    inA S (gR h a0 35) 20 ((((3 : Int32) * x5) + x7)) ∧
    (wX12_told S h a0 x1 ((gI h (gR h a0 34) (ix ((((3 : Int32) * x5) + x7))))) ((gI h (gR h a0 35) (ix ((((3 : Int32) * x5) + x7))))) (0 : Int32) x3 x4 (fun r108 h108 =>
     (wX12_givenBy_j122 S B13 h108 a0 x1 x3 x4 x5 x6 x7 x8 x9 r108 Q)))))
noncomputable def wX12_givenBy_13b (S : Sh) (a0 : Nat) (x1 : Int32) (x3 : Int32) (x4 : Int32) (x5 : Int32) (Q : Int32 → Hp → Prop) (B13 : Hp → Int32 → Int32 → Prop) (h : Hp) (x6 : Int32) (x7 : Int32) : Prop :=
  (S a0).1 = 13 ∧
  inA S (gR h a0 17) 20 x1 ∧
  (((gI h (gR h a0 17) (ix x1)) ≤ x7 →
   Q x6 h) ∧
   (¬ (gI h (gR h a0 17) (ix x1)) ≤ x7 →
    inA S (gR h a0 23) 20 ((((3 : Int32) * x1) + x7)) ∧
    ∀ xv35 : Int32, xv35 = (gI h (gR h a0 23) (ix ((((3 : Int32) * x1) + x7)))) →
    inA S (gR h a0 24) 20 ((((3 : Int32) * x1) + x7)) ∧
    ∀ xv48 : Int32, xv48 = (gI h (gR h a0 24) (ix ((((3 : Int32) * x1) + x7)))) →
    inA S (gR h a0 33) 20 x5 ∧
    ((¬ ((shr32 ((gI h (gR h a0 33) (ix x5))) x7) &&& (1 : Int32)) = (1 : Int32) →
     (wX12_givenBy_j71 S B13 h a0 x1 x3 x4 x5 x6 x7 xv35 xv48 (0 : Int32) Q)) ∧
     (((shr32 ((gI h (gR h a0 33) (ix x5))) x7) &&& (1 : Int32)) = (1 : Int32) →
      (wX12_givenBy_j71 S B13 h a0 x1 x3 x4 x5 x6 x7 xv35 xv48 (1 : Int32) Q)))))
noncomputable def wX12_givenBy_13 (S : Sh) (a0 : Nat) (x1 : Int32) (x3 : Int32) (x4 : Int32) (x5 : Int32) (Q : Int32 → Hp → Prop) (n : Nat) : Hp → Int32 → Int32 → Prop := Nat.rec (motive := fun _ => Hp → Int32 → Int32 → Prop) (fun _ _ _ => False) (fun _ B13 h x6 x7 => wX12_givenBy_13b S a0 x1 x3 x4 x5 Q B13 h x6 x7) n
noncomputable def wX12_givenBy (S : Sh) (h : Hp) (a0 : Nat) (x1 : Int32) (x2 : Int32) (x3 : Int32) (x4 : Int32) (Q : Int32 → Hp → Prop) : Prop :=
  ∀ xv5 : Int32, xv5 = (((4 : Int32) * x1) + x2) →
  (∃ n13, wX12_givenBy_13 S a0 x1 x3 x4 xv5 Q n13 h (0 : Int32) (0 : Int32))
noncomputable def wX12_isAnswered_14b (S : Sh) (a0 : Nat) (x1 : Int32) (x2 : Int32) (x3 : Int32) (x4 : Int32) (Q : Int32 → Hp → Prop) (B14 : Hp → Int32 → Prop) (h : Hp) (x5 : Int32) : Prop :=
  (S a0).1 = 13 ∧
  inA S (gR h a0 30) 20 ((((4 : Int32) * (x1 - (1 : Int32))) + x2)) ∧
  (((gI h (gR h a0 30) (ix ((((4 : Int32) * (x1 - (1 : Int32))) + x2)))) < x5 →
   Q (0 : Int32) h) ∧
   (¬ (gI h (gR h a0 30) (ix ((((4 : Int32) * (x1 - (1 : Int32))) + x2)))) < x5 →
    (wX12_canBe S h a0 ((x1 - (1 : Int32))) x2 x3 x5 (fun r39 h39 =>
     ((¬ r39 = 0 →
      (wX12_givenBy S h39 a0 ((x1 - (1 : Int32))) x2 x3 x5 (fun r56 h56 =>
       ((r56 = (-2 : Int32) →
        (B14 h56 ((x5 + (1 : Int32))))) ∧
        (¬ r56 = (-2 : Int32) →
         (wX12_pair S h56 x1 r56 x4 (fun r77 h77 =>
          inA S (gR h56 a0 48) 22 r77 ∧
          (((gI h77 (gR h56 a0 48) (ix r77)) = 0 →
           (B14 h77 ((x5 + (1 : Int32))))) ∧
           (¬ (gI h77 (gR h56 a0 48) (ix r77)) = 0 →
            Q (1 : Int32) h77))))))))) ∧
      (r39 = 0 →
       (B14 h39 ((x5 + (1 : Int32))))))))))
noncomputable def wX12_isAnswered_14 (S : Sh) (a0 : Nat) (x1 : Int32) (x2 : Int32) (x3 : Int32) (x4 : Int32) (Q : Int32 → Hp → Prop) (n : Nat) : Hp → Int32 → Prop := Nat.rec (motive := fun _ => Hp → Int32 → Prop) (fun _ _ => False) (fun _ B14 h x5 => wX12_isAnswered_14b S a0 x1 x2 x3 x4 Q B14 h x5) n
noncomputable def wX12_isAnswered (S : Sh) (h : Hp) (a0 : Nat) (x1 : Int32) (x2 : Int32) (x3 : Int32) (x4 : Int32) (Q : Int32 → Hp → Prop) : Prop :=
  (S a0).1 = 13 ∧
  inA S (gR h a0 29) 20 ((((4 : Int32) * (x1 - (1 : Int32))) + x2)) ∧
  ∀ xv12 : Int32, xv12 = (gI h (gR h a0 29) (ix ((((4 : Int32) * (x1 - (1 : Int32))) + x2)))) →
  (∃ n14, wX12_isAnswered_14 S a0 x1 x2 x3 x4 Q n14 h xv12)
noncomputable def wX12_variantOf (S : Sh) (h : Hp) (a0 : Nat) (x1 : Int32) (x2 : Int32) (Q : Int32 → Hp → Prop) : Prop :=
  (S a0).1 = 13 ∧
  inA S (gR h a0 21) 20 x1 ∧
  inA S (gR h a0 22) 20 x1 ∧
  (wX12_told S h a0 x1 ((gI h (gR h a0 21) (ix x1))) ((gI h (gR h a0 22) (ix x1))) (0 : Int32) x2 (0 : Int32) (fun r17 h17 =>
   Q r17 h17))
noncomputable def wX12_fails_j118 (S : Sh) (h : Hp) (Q : Int32 → Hp → Prop) : Prop :=
  Q (1 : Int32) h
noncomputable def wX12_fails (S : Sh) (h : Hp) (a0 : Nat) (x1 : Int32) (x2 : Int32) (x3 : Int32) (x4 : Int32) (x5 : Int32) (x6 : Int32) (Q : Int32 → Hp → Prop) : Prop :=
  (S a0).1 = 13 ∧
  inA S (gR h a0 28) 20 ((((4 : Int32) * x1) + x2)) ∧
  ∀ xv10 : Int32, xv10 = (gI h (gR h a0 28) (ix ((((4 : Int32) * x1) + x2)))) →
  (wX12_givenBy S h a0 x1 x2 x5 x6 (fun r19 h19 =>
   ((¬ x3 = (1 : Int32) →
    ((¬ x3 = (2 : Int32) →
     ((¬ r19 = (-2 : Int32) →
      ((¬ x1 = 0 →
       ((¬ xv10 = (-2 : Int32) →
        (wX12_isAnswered S h19 a0 x1 xv10 x4 r19 (fun r192 h192 =>
         ((¬ r192 = 0 →
          Q (0 : Int32) h192) ∧
          (r192 = 0 →
           Q (1 : Int32) h192))))) ∧
        (xv10 = (-2 : Int32) →
         (wX12_pair S h19 x1 x4 r19 (fun r169 h169 =>
          inA S (gR h19 a0 48) 22 r169 ∧
          ((¬ (gI h169 (gR h19 a0 48) (ix r169)) = 0 →
           Q (0 : Int32) h169) ∧
           ((gI h169 (gR h19 a0 48) (ix r169)) = 0 →
            Q (1 : Int32) h169))))))) ∧
       (x1 = 0 →
        inA S (gR h19 a0 47) 22 r19 ∧
        ((¬ (gI h19 (gR h19 a0 47) (ix r19)) = 0 →
         Q (0 : Int32) h19) ∧
         ((gI h19 (gR h19 a0 47) (ix r19)) = 0 →
          Q (1 : Int32) h19))))) ∧
      (r19 = (-2 : Int32) →
       Q (1 : Int32) h19))) ∧
     (x3 = (2 : Int32) →
      ((x1 = 0 →
       Q (0 : Int32) h19) ∧
       (¬ x1 = 0 →
        ((xv10 = (-2 : Int32) →
         inA S (gR h19 a0 21) 20 x1 ∧
         (((gI h19 (gR h19 a0 21) (ix x1)) = (-1 : Int32) →
          (wX12_fails_j118 S h19 Q)) ∧
          (¬ (gI h19 (gR h19 a0 21) (ix x1)) = (-1 : Int32) →
           ((r19 = (-2 : Int32) →
            (wX12_fails_j118 S h19 Q)) ∧
            (¬ r19 = (-2 : Int32) →
             (wX12_variantOf S h19 a0 x1 r19 (fun r95 h95 =>
              ((r95 < 0 →
               (wX12_fails_j118 S h95 Q)) ∧
               (¬ r95 < 0 →
                (wX12_variantOf S h95 a0 x1 r19 (fun r105 h105 =>
                 (wX12_variantOf S h105 a0 x1 x5 (fun r112 h112 =>
                  ((r105 < r112 →
                   Q (0 : Int32) h112) ∧
                   (¬ r105 < r112 →
                    (wX12_fails_j118 S h112 Q)))))))))))))))) ∧
         (¬ xv10 = (-2 : Int32) →
          Q (0 : Int32) h19))))))) ∧
    (x3 = (1 : Int32) →
     ((xv10 = (-2 : Int32) →
      Q (0 : Int32) h19) ∧
      (¬ xv10 = (-2 : Int32) →
       (wX12_canBeAny S h19 a0 ((x1 - (1 : Int32))) xv10 x4 (fun r44 h44 =>
        ((¬ r44 = 0 →
         Q (0 : Int32) h44) ∧
         (r44 = 0 →
          Q (1 : Int32) h44))))))))))
noncomputable def wX12_failing_89b (S : Sh) (B6 : Hp → Int32 → Int32 → Prop) (B30 : Hp → Int32 → Int32 → Prop) (a0 : Nat) (x1 : Int32) (x2 : Int32) (x3 : Int32) (x4 : Int32) (x6 : Int32) (x7 : Int32) (Q : Int32 → Hp → Prop) (B89 : Hp → Int32 → Int32 → Prop) (h : Hp) (x5 : Int32) (x8 : Int32) : Prop :=
  (S a0).1 = 13 ∧
  inA S (gR h a0 30) 20 ((((4 : Int32) * x1) + x2)) ∧
  (((gI h (gR h a0 30) (ix ((((4 : Int32) * x1) + x2)))) < x8 →
   (B30 h x5 ((x7 + (1 : Int32))))) ∧
   (¬ (gI h (gR h a0 30) (ix ((((4 : Int32) * x1) + x2)))) < x8 →
    (wX12_canBe S h a0 x1 x2 x7 x8 (fun r111 h111 =>
     ((r111 = 0 →
      (B89 h111 x5 ((x8 + (1 : Int32))))) ∧
      (¬ r111 = 0 →
       (wX12_fails S h111 a0 x1 x2 x3 x6 x7 x8 (fun r127 h127 =>
        ((¬ r127 = 0 →
         ((¬ x5 = 0 →
          (B89 h127 ((x5 + (1 : Int32))) ((x8 + (1 : Int32))))) ∧
          (x5 = 0 →
           ((x4 = 0 →
            (B89 h127 ((x5 + (1 : Int32))) ((x8 + (1 : Int32))))) ∧
            (¬ x4 = 0 →
             (wX12_shows S h127 a0 x1 x6 x7 x8 (fun h154 =>
              (B89 h154 ((x5 + (1 : Int32))) ((x8 + (1 : Int32))))))))))) ∧
         (r127 = 0 →
          (B89 h127 x5 ((x8 + (1 : Int32))))))))))))))
noncomputable def wX12_failing_89 (S : Sh) (B6 : Hp → Int32 → Int32 → Prop) (B30 : Hp → Int32 → Int32 → Prop) (a0 : Nat) (x1 : Int32) (x2 : Int32) (x3 : Int32) (x4 : Int32) (x6 : Int32) (x7 : Int32) (Q : Int32 → Hp → Prop) (n : Nat) : Hp → Int32 → Int32 → Prop := Nat.rec (motive := fun _ => Hp → Int32 → Int32 → Prop) (fun _ _ _ => False) (fun _ B89 h x5 x8 => wX12_failing_89b S B6 B30 a0 x1 x2 x3 x4 x6 x7 Q B89 h x5 x8) n
noncomputable def wX12_failing_j77 (S : Sh) (B6 : Hp → Int32 → Int32 → Prop) (B30 : Hp → Int32 → Int32 → Prop) (h : Hp) (a0 : Nat) (x1 : Int32) (x2 : Int32) (x3 : Int32) (x4 : Int32) (x5 : Int32) (x6 : Int32) (x7 : Int32) (Q : Int32 → Hp → Prop) : Prop :=
  (S a0).1 = 13 ∧
  inA S (gR h a0 29) 20 ((((4 : Int32) * x1) + x2)) ∧
  ∀ xv87 : Int32, xv87 = (gI h (gR h a0 29) (ix ((((4 : Int32) * x1) + x2)))) →
  (∃ n89, wX12_failing_89 S B6 B30 a0 x1 x2 x3 x4 x6 x7 Q n89 h x5 xv87)
noncomputable def wX12_failing_30b (S : Sh) (B6 : Hp → Int32 → Int32 → Prop) (a0 : Nat) (x1 : Int32) (x2 : Int32) (x3 : Int32) (x4 : Int32) (x6 : Int32) (Q : Int32 → Hp → Prop) (B30 : Hp → Int32 → Int32 → Prop) (h : Hp) (x5 : Int32) (x7 : Int32) : Prop :=
  (S a0).1 = 13 ∧
  inA S (gR h a0 20) 20 x1 ∧
  (((gI h (gR h a0 20) (ix x1)) ≤ x7 →
   (B6 h x5 ((x6 + (1 : Int32))))) ∧
   (¬ (gI h (gR h a0 20) (ix x1)) ≤ x7 →
    ((¬ x1 = 0 →
     (wX12_pair S h x1 x6 x7 (fun r67 h67 =>
      inA S (gR h a0 48) 22 r67 ∧
      ((¬ (gI h67 (gR h a0 48) (ix r67)) = 0 →
       (wX12_failing_j77 S B6 B30 h67 a0 x1 x2 x3 x4 x5 x6 x7 Q)) ∧
       ((gI h67 (gR h a0 48) (ix r67)) = 0 →
        (B30 h67 x5 ((x7 + (1 : Int32))))))))) ∧
     (x1 = 0 →
      inA S (gR h a0 47) 22 x7 ∧
      ((¬ (gI h (gR h a0 47) (ix x7)) = 0 →
       (wX12_failing_j77 S B6 B30 h a0 x1 x2 x3 x4 x5 x6 x7 Q)) ∧
       ((gI h (gR h a0 47) (ix x7)) = 0 →
        (B30 h x5 ((x7 + (1 : Int32))))))))))
noncomputable def wX12_failing_30 (S : Sh) (B6 : Hp → Int32 → Int32 → Prop) (a0 : Nat) (x1 : Int32) (x2 : Int32) (x3 : Int32) (x4 : Int32) (x6 : Int32) (Q : Int32 → Hp → Prop) (n : Nat) : Hp → Int32 → Int32 → Prop := Nat.rec (motive := fun _ => Hp → Int32 → Int32 → Prop) (fun _ _ _ => False) (fun _ B30 h x5 x7 => wX12_failing_30b S B6 a0 x1 x2 x3 x4 x6 Q B30 h x5 x7) n
noncomputable def wX12_failing_j24 (S : Sh) (B6 : Hp → Int32 → Int32 → Prop) (h : Hp) (a0 : Nat) (x1 : Int32) (x2 : Int32) (x3 : Int32) (x4 : Int32) (x5 : Int32) (x6 : Int32) (s0 : Int32) (s1 : Int32) (Q : Int32 → Hp → Prop) : Prop :=
  ((s1 ≤ s0 →
   Q x5 h) ∧
   (¬ s1 ≤ s0 →
    (∃ n30, wX12_failing_30 S B6 a0 x1 x2 x3 x4 x6 Q n30 h x5 (0 : Int32))))
noncomputable def wX12_failing_6b (S : Sh) (a0 : Nat) (x1 : Int32) (x2 : Int32) (x3 : Int32) (x4 : Int32) (Q : Int32 → Hp → Prop) (B6 : Hp → Int32 → Int32 → Prop) (h : Hp) (x5 : Int32) (x6 : Int32) : Prop :=
  ((¬ x1 = 0 →
   (S a0).1 = 13 ∧
   inA S (gR h a0 20) 20 ((x1 - (1 : Int32))) ∧
   (wX12_failing_j24 S B6 h a0 x1 x2 x3 x4 x5 x6 x6 ((gI h (gR h a0 20) (ix ((x1 - (1 : Int32)))))) Q)) ∧
   (x1 = 0 →
    (wX12_failing_j24 S B6 h a0 x1 x2 x3 x4 x5 x6 x6 (1 : Int32) Q)))
noncomputable def wX12_failing_6 (S : Sh) (a0 : Nat) (x1 : Int32) (x2 : Int32) (x3 : Int32) (x4 : Int32) (Q : Int32 → Hp → Prop) (n : Nat) : Hp → Int32 → Int32 → Prop := Nat.rec (motive := fun _ => Hp → Int32 → Int32 → Prop) (fun _ _ _ => False) (fun _ B6 h x5 x6 => wX12_failing_6b S a0 x1 x2 x3 x4 Q B6 h x5 x6) n
noncomputable def wX12_failing (S : Sh) (h : Hp) (a0 : Nat) (x1 : Int32) (x2 : Int32) (x3 : Int32) (x4 : Int32) (Q : Int32 → Hp → Prop) : Prop :=
  (∃ n6, wX12_failing_6 S a0 x1 x2 x3 x4 Q n6 h (0 : Int32) (0 : Int32))
noncomputable def wX12_cases (S : Sh) (h : Hp) (a0 : Nat) (x1 : Int32) (x2 : Int32) (x3 : Int32) (Q : Int32 → Hp → Prop) : Prop :=
  (S a0).1 = 13 ∧
  (wX12_isEvent S ((pI h a0 0 (0 : Int32))) a0 x1 x2 (fun r8 h8 =>
   ((r8 = 0 →
    (wX12_refused S h8 a0 (1 : Int32) (fun r40 h40 =>
     Q r40 h40))) ∧
    (¬ r8 = 0 →
     (wX12_in S h8 x3 (0 : Int32) (2 : Int32) (fun r17 h17 =>
      ((r17 = 0 →
       (wX12_refused S h17 a0 (1 : Int32) (fun r40 h40 =>
        Q r40 h40))) ∧
       (¬ r17 = 0 →
        (wX12_failing S h17 a0 x1 x2 x3 (0 : Int32) (fun r29 h29 =>
         (wX12_good S h29 a0 r29 (fun r32 h32 =>
          Q r32 h32))))))))))))
noncomputable def wX12_draw (S : Sh) (h : Hp) (a0 : Nat) (x1 : Int32) (Q : Int32 → Hp → Prop) : Prop :=
  (S a0).1 = 13 ∧
  ¬ (2147483648 : Int64) = 0 ∧
  ∀ h17 : Hp, h17 = (pJ h a0 61 ((rem64 ((((1103515245 : Int64) * (gJ h a0 61)) + (12345 : Int64))) (2147483648 : Int64)))) →
  ¬ (65536 : Int64) = 0 ∧
  ¬ (x1.toInt64) = 0 ∧
  Q ((((rem64 (((gJ h17 a0 61) / (65536 : Int64))) (x1.toInt64))).toInt32)) h17
noncomputable def wX12_goes (S : Sh) (h : Hp) (a0 : Nat) (x1 : Int32) (x2 : Int32) (x3 : Int32) (x4 : Int32) (Q : Int32 → Hp → Prop) : Prop :=
  (S a0).1 = 13 ∧
  (wX12_canBe S h a0 x1 x2 x3 x4 (fun r6 h6 =>
   ((r6 = 0 →
    Q (0 : Int32) h6) ∧
    (¬ r6 = 0 →
     (wX12_givenBy S h6 a0 x1 x2 x3 x4 (fun r18 h18 =>
      ((r18 = (-2 : Int32) →
       Q (0 : Int32) h18) ∧
       (¬ r18 = (-2 : Int32) →
        Q (1 : Int32) h18))))))))
noncomputable def wX12_follows_j189 (S : Sh) (B63 : Hp → Int32 → Prop) (B137 : Hp → Int32 → Prop) (h : Hp) (a0 : Nat) (x2 : Int32) (x3 : Int32) (x4 : Int32) (x5 : Int32) (x6 : Int32) (s0 : Int32) (Q : Hp → Prop) : Prop :=
  ((s0 = (-2 : Int32) →
   (B137 h ((x6 + (1 : Int32))))) ∧
   (¬ s0 = (-2 : Int32) →
    (S a0).1 = 13 ∧
    (wX12_pair S h x3 s0 x2 (fun r206 h206 =>
     inA S (gR h a0 48) 22 r206 ∧
     (((gI h206 (gR h a0 48) (ix r206)) = 0 →
      (B137 h206 ((x6 + (1 : Int32))))) ∧
      (¬ (gI h206 (gR h a0 48) (ix r206)) = 0 →
       inA S (gR h206 a0 59) 22 s0 ∧
       (B137 ((pI h206 (gR h206 a0 59) (ix s0) (((1 : Int32) &&& 1)))) ((x6 + (1 : Int32))))))))))
noncomputable def wX12_follows_137b (S : Sh) (B63 : Hp → Int32 → Prop) (a0 : Nat) (x2 : Int32) (x3 : Int32) (x4 : Int32) (x5 : Int32) (Q : Hp → Prop) (B137 : Hp → Int32 → Prop) (h : Hp) (x6 : Int32) : Prop :=
  (S a0).1 = 13 ∧
  inA S (gR h a0 30) 20 ((((4 : Int32) * (x3 - (1 : Int32))) + x4)) ∧
  (((gI h (gR h a0 30) (ix ((((4 : Int32) * (x3 - (1 : Int32))) + x4)))) < x6 →
   (B63 h ((x5 + (1 : Int32))))) ∧
   (¬ (gI h (gR h a0 30) (ix ((((4 : Int32) * (x3 - (1 : Int32))) + x4)))) < x6 →
    (wX12_canBe S h a0 ((x3 - (1 : Int32))) x4 x5 x6 (fun r165 h165 =>
     ((r165 = 0 →
      (wX12_follows_j189 S B63 B137 h165 a0 x2 x3 x4 x5 x6 (-2 : Int32) Q)) ∧
      (¬ r165 = 0 →
       (wX12_givenBy S h165 a0 ((x3 - (1 : Int32))) x4 x5 x6 (fun r181 h181 =>
        (wX12_follows_j189 S B63 B137 h181 a0 x2 x3 x4 x5 x6 r181 Q)))))))))
noncomputable def wX12_follows_137 (S : Sh) (B63 : Hp → Int32 → Prop) (a0 : Nat) (x2 : Int32) (x3 : Int32) (x4 : Int32) (x5 : Int32) (Q : Hp → Prop) (n : Nat) : Hp → Int32 → Prop := Nat.rec (motive := fun _ => Hp → Int32 → Prop) (fun _ _ => False) (fun _ B137 h x6 => wX12_follows_137b S B63 a0 x2 x3 x4 x5 Q B137 h x6) n
noncomputable def wX12_follows_63b (S : Sh) (a0 : Nat) (x2 : Int32) (x3 : Int32) (x4 : Int32) (Q : Hp → Prop) (B63 : Hp → Int32 → Prop) (h : Hp) (x5 : Int32) : Prop :=
  (S a0).1 = 13 ∧
  inA S (gR h a0 20) 20 ((x3 - (1 : Int32))) ∧
  (((gI h (gR h a0 20) (ix ((x3 - (1 : Int32))))) ≤ x5 →
   Q h) ∧
   (¬ (gI h (gR h a0 20) (ix ((x3 - (1 : Int32))))) ≤ x5 →
    inA S (gR h a0 60) 22 x5 ∧
    ((¬ (gI h (gR h a0 60) (ix x5)) = 0 →
     ((¬ x4 = (-2 : Int32) →
      inA S (gR h a0 29) 20 ((((4 : Int32) * (x3 - (1 : Int32))) + x4)) ∧
      ∀ xv135 : Int32, xv135 = (gI h (gR h a0 29) (ix ((((4 : Int32) * (x3 - (1 : Int32))) + x4)))) →
      (∃ n137, wX12_follows_137 S B63 a0 x2 x3 x4 x5 Q n137 h xv135)) ∧
      (x4 = (-2 : Int32) →
       (wX12_pair S h x3 x5 x2 (fun r104 h104 =>
        inA S (gR h a0 48) 22 r104 ∧
        (((gI h104 (gR h a0 48) (ix r104)) = 0 →
         (B63 h104 ((x5 + (1 : Int32))))) ∧
         (¬ (gI h104 (gR h a0 48) (ix r104)) = 0 →
          inA S (gR h104 a0 59) 22 x5 ∧
          (B63 ((pI h104 (gR h104 a0 59) (ix x5) (((1 : Int32) &&& 1)))) ((x5 + (1 : Int32))))))))))) ∧
     ((gI h (gR h a0 60) (ix x5)) = 0 →
      (B63 h ((x5 + (1 : Int32))))))))
noncomputable def wX12_follows_63 (S : Sh) (a0 : Nat) (x2 : Int32) (x3 : Int32) (x4 : Int32) (Q : Hp → Prop) (n : Nat) : Hp → Int32 → Prop := Nat.rec (motive := fun _ => Hp → Int32 → Prop) (fun _ _ => False) (fun _ B63 h x5 => wX12_follows_63b S a0 x2 x3 x4 Q B63 h x5) n
noncomputable def wX12_follows_j60 (S : Sh) (h : Hp) (a0 : Nat) (x2 : Int32) (x3 : Int32) (x4 : Int32) (Q : Hp → Prop) : Prop :=
  (∃ n63, wX12_follows_63 S a0 x2 x3 x4 Q n63 h (0 : Int32))
noncomputable def wX12_follows_25b (S : Sh) (a0 : Nat) (x2 : Int32) (x3 : Int32) (x4 : Int32) (Q : Hp → Prop) (B25 : Hp → Int32 → Prop) (h : Hp) (x5 : Int32) : Prop :=
  (((100 : Int32) ≤ x5 →
   (wX12_follows_j60 S h a0 x2 x3 x4 Q)) ∧
   (¬ (100 : Int32) ≤ x5 →
    (S a0).1 = 13 ∧
    inA S (gR h a0 59) 22 x5 ∧
    inA S (gR h a0 60) 22 x5 ∧
    ∀ h45 : Hp, h45 = (pI h (gR h a0 60) (ix x5) (((gI h (gR h a0 59) (ix x5)) &&& 1))) →
    inA S (gR h45 a0 59) 22 x5 ∧
    (B25 ((pI h45 (gR h45 a0 59) (ix x5) (((0 : Int32) &&& 1)))) ((x5 + (1 : Int32))))))
noncomputable def wX12_follows_25 (S : Sh) (a0 : Nat) (x2 : Int32) (x3 : Int32) (x4 : Int32) (Q : Hp → Prop) (n : Nat) : Hp → Int32 → Prop := Nat.rec (motive := fun _ => Hp → Int32 → Prop) (fun _ _ => False) (fun _ B25 h x5 => wX12_follows_25b S a0 x2 x3 x4 Q B25 h x5) n
noncomputable def wX12_follows (S : Sh) (h : Hp) (a0 : Nat) (x1 : Int32) (x2 : Int32) (Q : Hp → Prop) : Prop :=
  (S a0).1 = 13 ∧
  ((¬ (gI h a0 56) = 0 →
   inA S (gR h a0 28) 20 ((((4 : Int32) * (gI h a0 56)) + x1)) ∧
   ∀ xv20 : Int32, xv20 = (gI h (gR h a0 28) (ix ((((4 : Int32) * (gI h a0 56)) + x1)))) →
   (∃ n25, wX12_follows_25 S a0 x2 (gI h a0 56) xv20 Q n25 h (0 : Int32))) ∧
   ((gI h a0 56) = 0 →
    Q h))
noncomputable def wX12_makes (S : Sh) (h : Hp) (a0 : Nat) (x1 : Int32) (x2 : Int32) (Q : Hp → Prop) : Prop :=
  (S a0).1 = 13 ∧
  (wX12_givenBy S h a0 (gI h a0 56) x1 (gI h a0 57) x2 (fun r11 h11 =>
   (wX12_follows S h11 a0 x1 r11 (fun h18 =>
    ∀ h23 : Hp, h23 = (pI h18 a0 57 r11) →
    Q ((pI h23 a0 58 (((gI h23 a0 58) + (1 : Int32)))))))))
noncomputable def wX12_ways_32b (S : Sh) (B4 : Hp → Int32 → Int32 → Prop) (a0 : Nat) (x1 : Int32) (x3 : Int32) (Q : Int32 → Hp → Prop) (B32 : Hp → Int32 → Int32 → Prop) (h : Hp) (x2 : Int32) (x4 : Int32) : Prop :=
  (S a0).1 = 13 ∧
  inA S (gR h a0 30) 20 ((((4 : Int32) * (gI h a0 56)) + x3)) ∧
  (((gI h (gR h a0 30) (ix ((((4 : Int32) * (gI h a0 56)) + x3)))) < x4 →
   (B4 h x2 ((x3 + (1 : Int32))))) ∧
   (¬ (gI h (gR h a0 30) (ix ((((4 : Int32) * (gI h a0 56)) + x3)))) < x4 →
    (wX12_goes S h a0 (gI h a0 56) x3 (gI h a0 57) x4 (fun r62 h62 =>
     ((¬ r62 = 0 →
      ((¬ x2 = x1 →
       (B32 h62 ((x2 + (1 : Int32))) ((x4 + (1 : Int32))))) ∧
       (x2 = x1 →
        (wX12_makes S h62 a0 x3 x4 (fun h80 =>
         Q x2 h80))))) ∧
      (r62 = 0 →
       (B32 h62 x2 ((x4 + (1 : Int32))))))))))
noncomputable def wX12_ways_32 (S : Sh) (B4 : Hp → Int32 → Int32 → Prop) (a0 : Nat) (x1 : Int32) (x3 : Int32) (Q : Int32 → Hp → Prop) (n : Nat) : Hp → Int32 → Int32 → Prop := Nat.rec (motive := fun _ => Hp → Int32 → Int32 → Prop) (fun _ _ _ => False) (fun _ B32 h x2 x4 => wX12_ways_32b S B4 a0 x1 x3 Q B32 h x2 x4) n
noncomputable def wX12_ways_4b (S : Sh) (a0 : Nat) (x1 : Int32) (Q : Int32 → Hp → Prop) (B4 : Hp → Int32 → Int32 → Prop) (h : Hp) (x2 : Int32) (x3 : Int32) : Prop :=
  (S a0).1 = 13 ∧
  inA S (gR h a0 19) 20 (gI h a0 56) ∧
  (((gI h (gR h a0 19) (ix (gI h a0 56))) ≤ x3 →
   Q x2 h) ∧
   (¬ (gI h (gR h a0 19) (ix (gI h a0 56))) ≤ x3 →
    inA S (gR h a0 29) 20 ((((4 : Int32) * (gI h a0 56)) + x3)) ∧
    ∀ xv30 : Int32, xv30 = (gI h (gR h a0 29) (ix ((((4 : Int32) * (gI h a0 56)) + x3)))) →
    (∃ n32, wX12_ways_32 S B4 a0 x1 x3 Q n32 h x2 xv30)))
noncomputable def wX12_ways_4 (S : Sh) (a0 : Nat) (x1 : Int32) (Q : Int32 → Hp → Prop) (n : Nat) : Hp → Int32 → Int32 → Prop := Nat.rec (motive := fun _ => Hp → Int32 → Int32 → Prop) (fun _ _ _ => False) (fun _ B4 h x2 x3 => wX12_ways_4b S a0 x1 Q B4 h x2 x3) n
noncomputable def wX12_ways (S : Sh) (h : Hp) (a0 : Nat) (x1 : Int32) (Q : Int32 → Hp → Prop) : Prop :=
  (∃ n4, wX12_ways_4 S a0 x1 Q n4 h (0 : Int32) (0 : Int32))
noncomputable def wX12_draws_54b (S : Sh) (a0 : Nat) (x1 : Int32) (Q : Int32 → Hp → Prop) (B54 : Hp → Int32 → Int32 → Prop) (h : Hp) (x3 : Int32) (x4 : Int32) : Prop :=
  ((x1 ≤ x3 →
   (S a0).1 = 13 ∧
   (wX12_good S h a0 x3 (fun r91 h91 =>
    Q r91 h91))) ∧
   (¬ x1 ≤ x3 →
    ((x4 ≤ 0 →
     (S a0).1 = 13 ∧
     (wX12_good S h a0 x3 (fun r91 h91 =>
      Q r91 h91))) ∧
     (¬ x4 ≤ 0 →
      (S a0).1 = 13 ∧
      (wX12_draw S h a0 x4 (fun r68 h68 =>
       (wX12_ways S h68 a0 r68 (fun r71 h71 =>
        (wX12_ways S h71 a0 (-1 : Int32) (fun r81 h81 =>
         (B54 h81 ((x3 + (1 : Int32))) r81)))))))))))
noncomputable def wX12_draws_54 (S : Sh) (a0 : Nat) (x1 : Int32) (Q : Int32 → Hp → Prop) (n : Nat) : Hp → Int32 → Int32 → Prop := Nat.rec (motive := fun _ => Hp → Int32 → Int32 → Prop) (fun _ _ _ => False) (fun _ B54 h x3 x4 => wX12_draws_54b S a0 x1 Q B54 h x3 x4) n
noncomputable def wX12_draws (S : Sh) (h : Hp) (a0 : Nat) (x1 : Int32) (x2 : Int32) (Q : Int32 → Hp → Prop) : Prop :=
  (S a0).1 = 13 ∧
  ∀ h2 : Hp, h2 = (pI h a0 0 (0 : Int32)) →
  ((¬ (gI h2 a0 56) = (-1 : Int32) →
   (wX12_in S h2 x1 (1 : Int32) (40 : Int32) (fun r23 h23 =>
    ((r23 = 0 →
     (wX12_refused S h23 a0 (2 : Int32) (fun r35 h35 =>
      Q r35 h35))) ∧
     (¬ r23 = 0 →
      ((0 ≤ x2 →
       (wX12_ways S ((pJ h23 a0 61 (x2.toInt64))) a0 (-1 : Int32) (fun r49 h49 =>
        (∃ n54, wX12_draws_54 S a0 x1 Q n54 h49 (0 : Int32) r49)))) ∧
       (¬ 0 ≤ x2 →
        (wX12_refused S h23 a0 (2 : Int32) (fun r35 h35 =>
         Q r35 h35))))))))) ∧
   ((gI h2 a0 56) = (-1 : Int32) →
    (wX12_refused S h2 a0 (1 : Int32) (fun r15 h15 =>
     Q r15 h15))))
noncomputable def wX12_goesOn_j99 (S : Sh) (h : Hp) (a0 : Nat) (x1 : Int32) (x2 : Int32) (x3 : Int32) (x4 : Int32) (Q : Int32 → Hp → Prop) : Prop :=
  ((x2 = 0 →
   Q (0 : Int32) h) ∧
   (¬ x2 = 0 →
    (S a0).1 = 13 ∧
    (wX12_shows S h a0 x1 x3 x4 (0 : Int32) (fun h109 =>
     Q (0 : Int32) h109))))
noncomputable def wX12_goesOn_j86 (S : Sh) (B2 : Hp → Int32 → Prop) (B25 : Hp → Int32 → Prop) (h : Hp) (a0 : Nat) (x1 : Int32) (x2 : Int32) (x3 : Int32) (x4 : Int32) (Q : Int32 → Hp → Prop) : Prop :=
  (S a0).1 = 13 ∧
  (wX12_canGoOn S h a0 x1 x4 (fun r90 h90 =>
   ((r90 = 0 →
    (wX12_goesOn_j99 S h90 a0 x1 x2 x3 x4 Q)) ∧
    (¬ r90 = 0 →
     (B25 h90 ((x4 + (1 : Int32))))))))
noncomputable def wX12_goesOn_j71 (S : Sh) (B2 : Hp → Int32 → Prop) (B25 : Hp → Int32 → Prop) (h : Hp) (a0 : Nat) (x1 : Int32) (x2 : Int32) (x3 : Int32) (x4 : Int32) (Q : Int32 → Hp → Prop) : Prop :=
  ((x1 ≤ 0 →
   (wX12_goesOn_j86 S B2 B25 h a0 x1 x2 x3 x4 Q)) ∧
   (¬ x1 ≤ 0 →
    (S a0).1 = 13 ∧
    (wX12_canGoOn S h a0 ((x1 - (1 : Int32))) x3 (fun r80 h80 =>
     ((r80 = 0 →
      (B25 h80 ((x4 + (1 : Int32))))) ∧
      (¬ r80 = 0 →
       (wX12_goesOn_j86 S B2 B25 h80 a0 x1 x2 x3 x4 Q)))))))
noncomputable def wX12_goesOn_25b (S : Sh) (B2 : Hp → Int32 → Prop) (a0 : Nat) (x1 : Int32) (x2 : Int32) (x3 : Int32) (Q : Int32 → Hp → Prop) (B25 : Hp → Int32 → Prop) (h : Hp) (x4 : Int32) : Prop :=
  (S a0).1 = 13 ∧
  inA S (gR h a0 20) 20 x1 ∧
  (((gI h (gR h a0 20) (ix x1)) ≤ x4 →
   (B2 h ((x3 + (1 : Int32))))) ∧
   (¬ (gI h (gR h a0 20) (ix x1)) ≤ x4 →
    ((¬ x1 = 0 →
     (wX12_pair S h x1 x3 x4 (fun r61 h61 =>
      inA S (gR h a0 48) 22 r61 ∧
      ((¬ (gI h61 (gR h a0 48) (ix r61)) = 0 →
       (wX12_goesOn_j71 S B2 B25 h61 a0 x1 x2 x3 x4 Q)) ∧
       ((gI h61 (gR h a0 48) (ix r61)) = 0 →
        (B25 h61 ((x4 + (1 : Int32))))))))) ∧
     (x1 = 0 →
      inA S (gR h a0 47) 22 x4 ∧
      ((¬ (gI h (gR h a0 47) (ix x4)) = 0 →
       (wX12_goesOn_j71 S B2 B25 h a0 x1 x2 x3 x4 Q)) ∧
       ((gI h (gR h a0 47) (ix x4)) = 0 →
        (B25 h ((x4 + (1 : Int32))))))))))
noncomputable def wX12_goesOn_25 (S : Sh) (B2 : Hp → Int32 → Prop) (a0 : Nat) (x1 : Int32) (x2 : Int32) (x3 : Int32) (Q : Int32 → Hp → Prop) (n : Nat) : Hp → Int32 → Prop := Nat.rec (motive := fun _ => Hp → Int32 → Prop) (fun _ _ => False) (fun _ B25 h x4 => wX12_goesOn_25b S B2 a0 x1 x2 x3 Q B25 h x4) n
noncomputable def wX12_goesOn_j19 (S : Sh) (B2 : Hp → Int32 → Prop) (h : Hp) (a0 : Nat) (x1 : Int32) (x2 : Int32) (x3 : Int32) (s0 : Int32) (s1 : Int32) (Q : Int32 → Hp → Prop) : Prop :=
  ((s1 ≤ s0 →
   Q (1 : Int32) h) ∧
   (¬ s1 ≤ s0 →
    (∃ n25, wX12_goesOn_25 S B2 a0 x1 x2 x3 Q n25 h (0 : Int32))))
noncomputable def wX12_goesOn_2b (S : Sh) (a0 : Nat) (x1 : Int32) (x2 : Int32) (Q : Int32 → Hp → Prop) (B2 : Hp → Int32 → Prop) (h : Hp) (x3 : Int32) : Prop :=
  ((¬ x1 = 0 →
   (S a0).1 = 13 ∧
   inA S (gR h a0 20) 20 ((x1 - (1 : Int32))) ∧
   (wX12_goesOn_j19 S B2 h a0 x1 x2 x3 x3 ((gI h (gR h a0 20) (ix ((x1 - (1 : Int32)))))) Q)) ∧
   (x1 = 0 →
    (wX12_goesOn_j19 S B2 h a0 x1 x2 x3 x3 (1 : Int32) Q)))
noncomputable def wX12_goesOn_2 (S : Sh) (a0 : Nat) (x1 : Int32) (x2 : Int32) (Q : Int32 → Hp → Prop) (n : Nat) : Hp → Int32 → Prop := Nat.rec (motive := fun _ => Hp → Int32 → Prop) (fun _ _ => False) (fun _ B2 h x3 => wX12_goesOn_2b S a0 x1 x2 Q B2 h x3) n
noncomputable def wX12_goesOn (S : Sh) (h : Hp) (a0 : Nat) (x1 : Int32) (x2 : Int32) (Q : Int32 → Hp → Prop) : Prop :=
  (∃ n2, wX12_goesOn_2 S a0 x1 x2 Q n2 h (0 : Int32))
noncomputable def wX12_duty_j42 (S : Sh) (h : Hp) (a0 : Nat) (x1 : Int32) (x2 : Int32) (x3 : Int32) (Q : Int32 → Hp → Prop) : Prop :=
  (S a0).1 = 13 ∧
  ∀ h44 : Hp, h44 = (pI h a0 53 (0 : Int32)) →
  ((¬ x3 = (3 : Int32) →
   ((¬ x3 = (4 : Int32) →
    (wX12_failing S h44 a0 x1 x2 x3 (1 : Int32) (fun r101 h101 =>
     ((¬ r101 = 0 →
      (wX12_good S h101 a0 (0 : Int32) (fun r112 h112 =>
       Q r112 h112))) ∧
      (r101 = 0 →
       (wX12_good S h101 a0 (1 : Int32) (fun r112 h112 =>
        Q r112 h112))))))) ∧
    (x3 = (4 : Int32) →
     (wX12_goesOn S h44 a0 x1 (1 : Int32) (fun r80 h80 =>
      ((r80 = 0 →
       (wX12_good S h80 a0 (0 : Int32) (fun r91 h91 =>
        Q r91 h91))) ∧
       (¬ r80 = 0 →
        (wX12_good S h80 a0 (1 : Int32) (fun r91 h91 =>
         Q r91 h91))))))))) ∧
   (x3 = (3 : Int32) →
    (wX12_begins_ S h44 a0 x1 (1 : Int32) (fun r56 h56 =>
     ((r56 = 0 →
      (wX12_good S h56 a0 (0 : Int32) (fun r67 h67 =>
       Q r67 h67))) ∧
      (¬ r56 = 0 →
       (wX12_good S h56 a0 (1 : Int32) (fun r67 h67 =>
        Q r67 h67))))))))
noncomputable def wX12_duty (S : Sh) (h : Hp) (a0 : Nat) (x1 : Int32) (x2 : Int32) (x3 : Int32) (Q : Int32 → Hp → Prop) : Prop :=
  (S a0).1 = 13 ∧
  (wX12_isMachine S ((pI h a0 0 (0 : Int32))) a0 x1 (fun r7 h7 =>
   ((r7 = 0 →
    (wX12_refused S h7 a0 (1 : Int32) (fun r38 h38 =>
     Q r38 h38))) ∧
    (¬ r7 = 0 →
     (wX12_in S h7 x3 (0 : Int32) (4 : Int32) (fun r16 h16 =>
      ((r16 = 0 →
       (wX12_refused S h16 a0 (1 : Int32) (fun r38 h38 =>
        Q r38 h38))) ∧
       (¬ r16 = 0 →
        (((3 : Int32) ≤ x3 →
         (wX12_duty_j42 S h16 a0 x1 x2 x3 Q)) ∧
         (¬ (3 : Int32) ≤ x3 →
          (wX12_isEvent S h16 a0 x1 x2 (fun r30 h30 =>
           ((¬ r30 = 0 →
            (wX12_duty_j42 S h30 a0 x1 x2 x3 Q)) ∧
            (r30 = 0 →
             (wX12_refused S h30 a0 (1 : Int32) (fun r38 h38 =>
              Q r38 h38))))))))))))))))
noncomputable def wX12_emits (S : Sh) (h : Hp) (a0 : Nat) (x1 : Int32) (x2 : Int32) (Q : Hp → Prop) : Prop :=
  (S a0).1 = 13 ∧
  inA S (gR h a0 39) 20 (((700 : Int32) + (gI h a0 41))) ∧
  ∀ h13 : Hp, h13 = (pI h (gR h a0 39) (ix (((700 : Int32) + (gI h a0 41)))) x1) →
  inA S (gR h13 a0 40) 20 (((700 : Int32) + (gI h13 a0 41))) ∧
  ∀ h27 : Hp, h27 = (pI h13 (gR h13 a0 40) (ix (((700 : Int32) + (gI h13 a0 41)))) x2) →
  Q ((pI h27 a0 41 (((gI h27 a0 41) + (1 : Int32)))))
noncomputable def wX12_event (S : Sh) (h : Hp) (a0 : Nat) (x1 : Int32) (x2 : Int32) (x3 : Int32) (Q : Int32 → Hp → Prop) : Prop :=
  (S a0).1 = 13 ∧
  (wX12_isEvent S ((pI h a0 0 (0 : Int32))) a0 x1 x2 (fun r8 h8 =>
   ((¬ r8 = 0 →
    ∀ xv25 : Int32, xv25 = (((4 : Int32) * x1) + x2) →
    ((x3 = (0 : Int32) →
     inA S (gR h8 a0 28) 20 xv25 ∧
     (wX12_good S h8 a0 ((gI h8 (gR h8 a0 28) (ix xv25))) (fun r72 h72 =>
      Q r72 h72))) ∧
     (¬ x3 = (0 : Int32) →
      ((x3 = (1 : Int32) →
       inA S (gR h8 a0 29) 20 xv25 ∧
       (wX12_good S h8 a0 ((gI h8 (gR h8 a0 29) (ix xv25))) (fun r84 h84 =>
        Q r84 h84))) ∧
       (¬ x3 = (1 : Int32) →
        ((x3 = (2 : Int32) →
         inA S (gR h8 a0 30) 20 xv25 ∧
         (wX12_good S h8 a0 ((gI h8 (gR h8 a0 30) (ix xv25))) (fun r96 h96 =>
          Q r96 h96))) ∧
         (¬ x3 = (2 : Int32) →
          ((x3 = (3 : Int32) →
           inA S (gR h8 a0 33) 20 xv25 ∧
           (wX12_good S h8 a0 ((gI h8 (gR h8 a0 33) (ix xv25))) (fun r108 h108 =>
            Q r108 h108))) ∧
           (¬ x3 = (3 : Int32) →
            ((x3 = (4 : Int32) →
             inA S (gR h8 a0 36) 22 xv25 ∧
             (((gI h8 (gR h8 a0 36) (ix xv25)) = 0 →
              (wX12_good S h8 a0 (0 : Int32) (fun r128 h128 =>
               Q r128 h128))) ∧
              (¬ (gI h8 (gR h8 a0 36) (ix xv25)) = 0 →
               (wX12_good S h8 a0 (1 : Int32) (fun r128 h128 =>
                Q r128 h128))))) ∧
             (¬ x3 = (4 : Int32) →
              (wX12_refused S h8 a0 (1 : Int32) (fun r134 h134 =>
               Q r134 h134))))))))))))) ∧
    (r8 = 0 →
     (wX12_refused S h8 a0 (1 : Int32) (fun r16 h16 =>
      Q r16 h16))))))
noncomputable def wX12_eventIn_3b (S : Sh) (a0 : Nat) (x1 : Int32) (j2 : Int64) (Q : Int32 → Hp → Prop) (B3 : Hp → Int32 → Prop) (h : Hp) (x4 : Int32) : Prop :=
  (S a0).1 = 13 ∧
  inA S (gR h a0 19) 20 x1 ∧
  (((gI h (gR h a0 19) (ix x1)) ≤ x4 →
   Q (-1 : Int32) h) ∧
   (¬ (gI h (gR h a0 19) (ix x1)) ≤ x4 →
    inA S (gR h a0 16) 23 ((((4 : Int32) * x1) + x4)) ∧
    ((¬ (lg_cmp ((gJ h (gR h a0 16) (ix ((((4 : Int32) * x1) + x4))))) j2) = 0 →
     (B3 h ((x4 + (1 : Int32))))) ∧
     ((lg_cmp ((gJ h (gR h a0 16) (ix ((((4 : Int32) * x1) + x4))))) j2) = 0 →
      Q x4 h))))
noncomputable def wX12_eventIn_3 (S : Sh) (a0 : Nat) (x1 : Int32) (j2 : Int64) (Q : Int32 → Hp → Prop) (n : Nat) : Hp → Int32 → Prop := Nat.rec (motive := fun _ => Hp → Int32 → Prop) (fun _ _ => False) (fun _ B3 h x4 => wX12_eventIn_3b S a0 x1 j2 Q B3 h x4) n
noncomputable def wX12_eventIn (S : Sh) (h : Hp) (a0 : Nat) (x1 : Int32) (j2 : Int64) (Q : Int32 → Hp → Prop) : Prop :=
  (∃ n3, wX12_eventIn_3 S a0 x1 j2 Q n3 h (0 : Int32))
noncomputable def wX12_eventsNow_31b (S : Sh) (B4 : Hp → Int32 → Int32 → Prop) (a0 : Nat) (x2 : Int32) (Q : Int32 → Hp → Prop) (B31 : Hp → Int32 → Int32 → Prop) (h : Hp) (x1 : Int32) (x3 : Int32) : Prop :=
  (S a0).1 = 13 ∧
  inA S (gR h a0 30) 20 ((((4 : Int32) * (gI h a0 56)) + x2)) ∧
  (((gI h (gR h a0 30) (ix ((((4 : Int32) * (gI h a0 56)) + x2)))) < x3 →
   (B4 h x1 ((x2 + (1 : Int32))))) ∧
   (¬ (gI h (gR h a0 30) (ix ((((4 : Int32) * (gI h a0 56)) + x2)))) < x3 →
    (wX12_goes S h a0 (gI h a0 56) x2 (gI h a0 57) x3 (fun r59 h59 =>
     ((r59 = 0 →
      (B31 h59 x1 ((x3 + (1 : Int32))))) ∧
      (¬ r59 = 0 →
       ∀ xv70 : Int32, xv70 = (x1 ||| (shl32 (1 : Int32) x2)) →
       (B31 h59 xv70 ((x3 + (1 : Int32))))))))))
noncomputable def wX12_eventsNow_31 (S : Sh) (B4 : Hp → Int32 → Int32 → Prop) (a0 : Nat) (x2 : Int32) (Q : Int32 → Hp → Prop) (n : Nat) : Hp → Int32 → Int32 → Prop := Nat.rec (motive := fun _ => Hp → Int32 → Int32 → Prop) (fun _ _ _ => False) (fun _ B31 h x1 x3 => wX12_eventsNow_31b S B4 a0 x2 Q B31 h x1 x3) n
noncomputable def wX12_eventsNow_4b (S : Sh) (a0 : Nat) (Q : Int32 → Hp → Prop) (B4 : Hp → Int32 → Int32 → Prop) (h : Hp) (x1 : Int32) (x2 : Int32) : Prop :=
  (S a0).1 = 13 ∧
  inA S (gR h a0 19) 20 (gI h a0 56) ∧
  (((gI h (gR h a0 19) (ix (gI h a0 56))) ≤ x2 →
   Q x1 h) ∧
   (¬ (gI h (gR h a0 19) (ix (gI h a0 56))) ≤ x2 →
    inA S (gR h a0 29) 20 ((((4 : Int32) * (gI h a0 56)) + x2)) ∧
    ∀ xv30 : Int32, xv30 = (gI h (gR h a0 29) (ix ((((4 : Int32) * (gI h a0 56)) + x2)))) →
    (∃ n31, wX12_eventsNow_31 S B4 a0 x2 Q n31 h x1 xv30)))
noncomputable def wX12_eventsNow_4 (S : Sh) (a0 : Nat) (Q : Int32 → Hp → Prop) (n : Nat) : Hp → Int32 → Int32 → Prop := Nat.rec (motive := fun _ => Hp → Int32 → Int32 → Prop) (fun _ _ _ => False) (fun _ B4 h x1 x2 => wX12_eventsNow_4b S a0 Q B4 h x1 x2) n
noncomputable def wX12_eventsNow (S : Sh) (h : Hp) (a0 : Nat) (Q : Int32 → Hp → Prop) : Prop :=
  (∃ n4, wX12_eventsNow_4 S a0 Q n4 h (0 : Int32) (0 : Int32))
noncomputable def wX12_fault (S : Sh) (h : Hp) (a0 : Nat) (Q : Int32 → Hp → Prop) : Prop :=
  (S a0).1 = 13 ∧
  ∀ h2 : Hp, h2 = (pI h a0 0 (0 : Int32)) →
  Q (gI h2 a0 7) h2
noncomputable def wX12_feed_j76 (S : Sh) (B23 : Hp → Int32 → Prop) (h : Hp) (a0 : Nat) (x1 : Int32) (x2 : Int32) (x3 : Int32) (x4 : Int32) (x5 : Int32) (x6 : Int32) (s0 : Int32) (Q : Int32 → Hp → Prop) : Prop :=
  (S a0).1 = 13 ∧
  ¬ (4 : Int32) = 0 ∧
  inA S (gR h a0 3) 20 (((gI h a0 4) + x6)) ∧
  (B23 ((pI h (gR h a0 3) (ix (((gI h a0 4) + x6))) (((shr32 s0 (((24 : Int32) - ((8 : Int32) * (rem32 x6 (4 : Int32)))))) &&& (255 : Int32))))) ((x6 + (1 : Int32))))
noncomputable def wX12_feed_23b (S : Sh) (a0 : Nat) (x1 : Int32) (x2 : Int32) (x3 : Int32) (x4 : Int32) (x5 : Int32) (Q : Int32 → Hp → Prop) (B23 : Hp → Int32 → Prop) (h : Hp) (x6 : Int32) : Prop :=
  (((20 : Int32) ≤ x6 →
   (S a0).1 = 13 ∧
   ∀ h121 : Hp, h121 = (pI h a0 4 (((gI h a0 4) + (20 : Int32)))) →
   Q (gI h121 a0 4) h121) ∧
   (¬ (20 : Int32) ≤ x6 →
    (((4 : Int32) ≤ x6 →
     (((8 : Int32) ≤ x6 →
      (((12 : Int32) ≤ x6 →
       (((16 : Int32) ≤ x6 →
        (wX12_feed_j76 S B23 h a0 x1 x2 x3 x4 x5 x6 x5 Q)) ∧
        (¬ (16 : Int32) ≤ x6 →
         (wX12_feed_j76 S B23 h a0 x1 x2 x3 x4 x5 x6 x4 Q)))) ∧
       (¬ (12 : Int32) ≤ x6 →
        (wX12_feed_j76 S B23 h a0 x1 x2 x3 x4 x5 x6 x3 Q)))) ∧
      (¬ (8 : Int32) ≤ x6 →
       (wX12_feed_j76 S B23 h a0 x1 x2 x3 x4 x5 x6 x2 Q)))) ∧
     (¬ (4 : Int32) ≤ x6 →
      (wX12_feed_j76 S B23 h a0 x1 x2 x3 x4 x5 x6 x1 Q)))))
noncomputable def wX12_feed_23 (S : Sh) (a0 : Nat) (x1 : Int32) (x2 : Int32) (x3 : Int32) (x4 : Int32) (x5 : Int32) (Q : Int32 → Hp → Prop) (n : Nat) : Hp → Int32 → Prop := Nat.rec (motive := fun _ => Hp → Int32 → Prop) (fun _ _ => False) (fun _ B23 h x6 => wX12_feed_23b S a0 x1 x2 x3 x4 x5 Q B23 h x6) n
noncomputable def wX12_feed (S : Sh) (h : Hp) (a0 : Nat) (x1 : Int32) (x2 : Int32) (x3 : Int32) (x4 : Int32) (x5 : Int32) (Q : Int32 → Hp → Prop) : Prop :=
  (S a0).1 = 13 ∧
  ∀ h2 : Hp, h2 = (pI h a0 0 (0 : Int32)) →
  ((((gI h2 a0 4) + (20 : Int32)) ≤ (600 : Int32) →
   (∃ n23, wX12_feed_23 S a0 x1 x2 x3 x4 x5 Q n23 h2 (0 : Int32))) ∧
   (¬ ((gI h2 a0 4) + (20 : Int32)) ≤ (600 : Int32) →
    Q (-1 : Int32) h2))
noncomputable def wX12_flaw (S : Sh) (h : Hp) (a0 : Nat) (x1 : Int32) (Q : Hp → Prop) : Prop :=
  (S a0).1 = 13 ∧
  (((gI h a0 7) ≤ 0 →
   ∀ h10 : Hp, h10 = (pI h a0 7 x1) →
   Q ((pI h10 a0 8 (gI h10 a0 10)))) ∧
   (¬ (gI h a0 7) ≤ 0 →
    Q h))
noncomputable def wX12_gives (S : Sh) (h : Hp) (a0 : Nat) (x1 : Int32) (x2 : Int32) (x3 : Int32) (x4 : Int32) (Q : Int32 → Hp → Prop) : Prop :=
  (S a0).1 = 13 ∧
  (wX12_isEvent S ((pI h a0 0 (0 : Int32))) a0 x1 x2 (fun r8 h8 =>
   ((r8 = 0 →
    (wX12_refused S h8 a0 (1 : Int32) (fun r25 h25 =>
     Q r25 h25))) ∧
    (¬ r8 = 0 →
     (wX12_isState S h8 a0 x1 x3 (fun r17 h17 =>
      ((¬ r17 = 0 →
       (wX12_isPick S h17 a0 x1 x2 x4 (fun r34 h34 =>
        ((r34 = 0 →
         (wX12_refused S h34 a0 (2 : Int32) (fun r58 h58 =>
          Q r58 h58))) ∧
         (¬ r34 = 0 →
          (wX12_givenBy S h34 a0 x1 x2 x3 x4 (fun r47 h47 =>
           (wX12_good S h47 a0 r47 (fun r50 h50 =>
            Q r50 h50))))))))) ∧
       (r17 = 0 →
        (wX12_refused S h17 a0 (1 : Int32) (fun r25 h25 =>
         Q r25 h25))))))))))
noncomputable def wX12_glued (S : Sh) (h : Hp) (a0 : Nat) (x1 : Int32) (x2 : Int32) (x3 : Int32) (Q : Int32 → Hp → Prop) : Prop :=
  (S a0).1 = 13 ∧
  (wX12_isState S ((pI h a0 0 (0 : Int32))) a0 x1 x3 (fun r8 h8 =>
   ((r8 = 0 →
    (wX12_refused S h8 a0 (1 : Int32) (fun r31 h31 =>
     Q r31 h31))) ∧
    (¬ r8 = 0 →
     ((x1 = 0 →
      (wX12_refused S h8 a0 (1 : Int32) (fun r31 h31 =>
       Q r31 h31))) ∧
      (¬ x1 = 0 →
       (wX12_isState S h8 a0 ((x1 - (1 : Int32))) x2 (fun r23 h23 =>
        ((¬ r23 = 0 →
         (wX12_pair S h23 x1 x2 x3 (fun r43 h43 =>
          inA S (gR h23 a0 48) 22 r43 ∧
          (((gI h43 (gR h23 a0 48) (ix r43)) = 0 →
           (wX12_good S h43 a0 (0 : Int32) (fun r55 h55 =>
            Q r55 h55))) ∧
           (¬ (gI h43 (gR h23 a0 48) (ix r43)) = 0 →
            (wX12_good S h43 a0 (1 : Int32) (fun r55 h55 =>
             Q r55 h55))))))) ∧
         (r23 = 0 →
          (wX12_refused S h23 a0 (1 : Int32) (fun r31 h31 =>
           Q r31 h31))))))))))))
noncomputable def wX12_holdsAll_3b (S : Sh) (a0 : Nat) (x1 : Int32) (x2 : Int32) (x3 : Int32) (Q : Int32 → Hp → Prop) (B3 : Hp → Int32 → Prop) (h : Hp) (x4 : Int32) : Prop :=
  (S a0).1 = 13 ∧
  inA S (gR h a0 18) 20 x1 ∧
  (((gI h (gR h a0 18) (ix x1)) ≤ x4 →
   Q (1 : Int32) h) ∧
   (¬ (gI h (gR h a0 18) (ix x1)) ≤ x4 →
    inA S (gR h a0 26) 20 ((((4 : Int32) * x1) + x4)) ∧
    inA S (gR h a0 27) 20 ((((4 : Int32) * x1) + x4)) ∧
    (wX12_told S h a0 x1 ((gI h (gR h a0 26) (ix ((((4 : Int32) * x1) + x4))))) ((gI h (gR h a0 27) (ix ((((4 : Int32) * x1) + x4))))) x2 x3 (0 : Int32) (fun r41 h41 =>
     ((¬ r41 = 0 →
      (B3 h41 ((x4 + (1 : Int32))))) ∧
      (r41 = 0 →
       Q (0 : Int32) h41))))))
noncomputable def wX12_holdsAll_3 (S : Sh) (a0 : Nat) (x1 : Int32) (x2 : Int32) (x3 : Int32) (Q : Int32 → Hp → Prop) (n : Nat) : Hp → Int32 → Prop := Nat.rec (motive := fun _ => Hp → Int32 → Prop) (fun _ _ => False) (fun _ B3 h x4 => wX12_holdsAll_3b S a0 x1 x2 x3 Q B3 h x4) n
noncomputable def wX12_holdsAll (S : Sh) (h : Hp) (a0 : Nat) (x1 : Int32) (x2 : Int32) (x3 : Int32) (Q : Int32 → Hp → Prop) : Prop :=
  (∃ n3, wX12_holdsAll_3 S a0 x1 x2 x3 Q n3 h (0 : Int32))
noncomputable def wX12_glues_j91 (S : Sh) (B2 : Hp → Int32 → Prop) (B44 : Hp → Int32 → Prop) (h : Hp) (a0 : Nat) (x1 : Int32) (x2 : Int32) (x3 : Int32) (s0 : Int32) (Q : Hp → Prop) : Prop :=
  (S a0).1 = 13 ∧
  (wX12_pair S h x1 x3 x2 (fun r100 h100 =>
   inA S (gR h a0 48) 22 r100 ∧
   ∀ h105 : Hp, h105 = (pI h100 (gR h a0 48) (ix r100) (s0 &&& 1)) →
   ((s0 = 0 →
    (B44 h105 ((x3 + (1 : Int32))))) ∧
    (¬ s0 = 0 →
     inA S (gR h105 a0 47) 22 ((((100 : Int32) * x1) + x2)) ∧
     (B44 ((pI h105 (gR h105 a0 47) (ix ((((100 : Int32) * x1) + x2))) (((1 : Int32) &&& 1)))) ((x3 + (1 : Int32))))))))
noncomputable def wX12_glues_j90 (S : Sh) (B2 : Hp → Int32 → Prop) (B44 : Hp → Int32 → Prop) (h : Hp) (a0 : Nat) (x1 : Int32) (x2 : Int32) (x3 : Int32) (Q : Hp → Prop) : Prop :=
  (wX12_glues_j91 S B2 B44 h a0 x1 x2 x3 (0 : Int32) Q)
noncomputable def wX12_glues_44b (S : Sh) (B2 : Hp → Int32 → Prop) (a0 : Nat) (x1 : Int32) (x2 : Int32) (Q : Hp → Prop) (B44 : Hp → Int32 → Prop) (h : Hp) (x3 : Int32) : Prop :=
  ((x1 ≤ 0 →
   (B2 h ((x2 + (1 : Int32))))) ∧
   (¬ x1 ≤ 0 →
    (S a0).1 = 13 ∧
    inA S (gR h a0 20) 20 ((x1 - (1 : Int32))) ∧
    (((gI h (gR h a0 20) (ix ((x1 - (1 : Int32))))) ≤ x3 →
     (B2 h ((x2 + (1 : Int32))))) ∧
     (¬ (gI h (gR h a0 20) (ix ((x1 - (1 : Int32))))) ≤ x3 →
      inA S (gR h a0 47) 22 ((((100 : Int32) * (x1 - (1 : Int32))) + x3)) ∧
      (((gI h (gR h a0 47) (ix ((((100 : Int32) * (x1 - (1 : Int32))) + x3)))) = 0 →
       (wX12_glues_j90 S B2 B44 h a0 x1 x2 x3 Q)) ∧
       (¬ (gI h (gR h a0 47) (ix ((((100 : Int32) * (x1 - (1 : Int32))) + x3)))) = 0 →
        (wX12_holdsAll S h a0 x1 x3 x2 (fun r80 h80 =>
         ((r80 = 0 →
          (wX12_glues_j90 S B2 B44 h80 a0 x1 x2 x3 Q)) ∧
          (¬ r80 = 0 →
           (wX12_glues_j91 S B2 B44 h80 a0 x1 x2 x3 (1 : Int32) Q)))))))))))
noncomputable def wX12_glues_44 (S : Sh) (B2 : Hp → Int32 → Prop) (a0 : Nat) (x1 : Int32) (x2 : Int32) (Q : Hp → Prop) (n : Nat) : Hp → Int32 → Prop := Nat.rec (motive := fun _ => Hp → Int32 → Prop) (fun _ _ => False) (fun _ B44 h x3 => wX12_glues_44b S B2 a0 x1 x2 Q B44 h x3) n
noncomputable def wX12_glues_j41 (S : Sh) (B2 : Hp → Int32 → Prop) (h : Hp) (a0 : Nat) (x1 : Int32) (x2 : Int32) (s0 : Nat) (s1 : Int32) (s2 : Int32) (Q : Hp → Prop) : Prop :=
  inA S s0 22 s1 ∧
  (∃ n44, wX12_glues_44 S B2 a0 x1 x2 Q n44 ((pI h s0 (ix s1) (s2 &&& 1))) (0 : Int32))
noncomputable def wX12_glues_j40 (S : Sh) (B2 : Hp → Int32 → Prop) (h : Hp) (a0 : Nat) (x1 : Int32) (x2 : Int32) (s0 : Nat) (s1 : Int32) (Q : Hp → Prop) : Prop :=
  (wX12_glues_j41 S B2 h a0 x1 x2 s0 s1 (0 : Int32) Q)
noncomputable def wX12_glues_2b (S : Sh) (a0 : Nat) (x1 : Int32) (Q : Hp → Prop) (B2 : Hp → Int32 → Prop) (h : Hp) (x2 : Int32) : Prop :=
  (S a0).1 = 13 ∧
  inA S (gR h a0 20) 20 x1 ∧
  (((gI h (gR h a0 20) (ix x1)) ≤ x2 →
   Q h) ∧
   (¬ (gI h (gR h a0 20) (ix x1)) ≤ x2 →
    ((¬ x1 = 0 →
     (wX12_glues_j40 S B2 h a0 x1 x2 (gR h a0 47) ((((100 : Int32) * x1) + x2)) Q)) ∧
     (x1 = 0 →
      (wX12_holdsAll S h a0 (0 : Int32) (0 : Int32) x2 (fun r30 h30 =>
       ((r30 = 0 →
        (wX12_glues_j40 S B2 h30 a0 x1 x2 (gR h a0 47) ((((100 : Int32) * x1) + x2)) Q)) ∧
        (¬ r30 = 0 →
         (wX12_glues_j41 S B2 h30 a0 x1 x2 (gR h a0 47) ((((100 : Int32) * x1) + x2)) (1 : Int32) Q)))))))))
noncomputable def wX12_glues_2 (S : Sh) (a0 : Nat) (x1 : Int32) (Q : Hp → Prop) (n : Nat) : Hp → Int32 → Prop := Nat.rec (motive := fun _ => Hp → Int32 → Prop) (fun _ _ => False) (fun _ B2 h x2 => wX12_glues_2b S a0 x1 Q B2 h x2) n
noncomputable def wX12_glues (S : Sh) (h : Hp) (a0 : Nat) (x1 : Int32) (Q : Hp → Prop) : Prop :=
  (∃ n2, wX12_glues_2 S a0 x1 Q n2 h (0 : Int32))
noncomputable def wX12_isDigitAt (S : Sh) (h : Hp) (a0 : Nat) (x1 : Int32) (Q : Int32 → Hp → Prop) : Prop :=
  (S a0).1 = 13 ∧
  (((gI h a0 5) ≤ x1 →
   Q (0 : Int32) h) ∧
   (¬ (gI h a0 5) ≤ x1 →
    inA S (gR h a0 3) 20 x1 ∧
    (wX12_in S h ((gI h (gR h a0 3) (ix x1))) (48 : Int32) (57 : Int32) (fun r18 h18 =>
     ((r18 = 0 →
      Q (0 : Int32) h18) ∧
      (¬ r18 = 0 →
       Q (1 : Int32) h18))))))
noncomputable def wX12_isLetterAt (S : Sh) (h : Hp) (a0 : Nat) (x1 : Int32) (Q : Int32 → Hp → Prop) : Prop :=
  (S a0).1 = 13 ∧
  (((gI h a0 5) ≤ x1 →
   Q (0 : Int32) h) ∧
   (¬ (gI h a0 5) ≤ x1 →
    inA S (gR h a0 3) 20 x1 ∧
    (wX12_in S h ((gI h (gR h a0 3) (ix x1))) (97 : Int32) (122 : Int32) (fun r18 h18 =>
     ((r18 = 0 →
      Q (0 : Int32) h18) ∧
      (¬ r18 = 0 →
       Q (1 : Int32) h18))))))
noncomputable def wX12_isSignOf_j72 (S : Sh) (h : Hp) (Q : Int32 → Hp → Prop) : Prop :=
  Q (1 : Int32) h
noncomputable def wX12_isSignOf (S : Sh) (h : Hp) (x0 : Int32) (Q : Int32 → Hp → Prop) : Prop :=
  ((x0 = (59 : Int32) →
   (wX12_isSignOf_j72 S h Q)) ∧
   (¬ x0 = (59 : Int32) →
    ((x0 = (44 : Int32) →
     (wX12_isSignOf_j72 S h Q)) ∧
     (¬ x0 = (44 : Int32) →
      ((x0 = (61 : Int32) →
       (wX12_isSignOf_j72 S h Q)) ∧
       (¬ x0 = (61 : Int32) →
        ((x0 = (60 : Int32) →
         (wX12_isSignOf_j72 S h Q)) ∧
         (¬ x0 = (60 : Int32) →
          ((x0 = (62 : Int32) →
           (wX12_isSignOf_j72 S h Q)) ∧
           (¬ x0 = (62 : Int32) →
            ((x0 = (43 : Int32) →
             (wX12_isSignOf_j72 S h Q)) ∧
             (¬ x0 = (43 : Int32) →
              ((x0 = (45 : Int32) →
               (wX12_isSignOf_j72 S h Q)) ∧
               (¬ x0 = (45 : Int32) →
                ((x0 = (42 : Int32) →
                 (wX12_isSignOf_j72 S h Q)) ∧
                 (¬ x0 = (42 : Int32) →
                  ((x0 = (40 : Int32) →
                   (wX12_isSignOf_j72 S h Q)) ∧
                   (¬ x0 = (40 : Int32) →
                    ((x0 = (41 : Int32) →
                     (wX12_isSignOf_j72 S h Q)) ∧
                     (¬ x0 = (41 : Int32) →
                      ((x0 = (91 : Int32) →
                       (wX12_isSignOf_j72 S h Q)) ∧
                       (¬ x0 = (91 : Int32) →
                        ((¬ x0 = (93 : Int32) →
                         Q (0 : Int32) h) ∧
                         (x0 = (93 : Int32) →
                          (wX12_isSignOf_j72 S h Q)))))))))))))))))))))))))
noncomputable def wX12_goOn_j278 (S : Sh) (h : Hp) (s0 : Nat) (s1 : Int32) (Q : Hp → Prop) : Prop :=
  (S s0).1 = 13 ∧
  Q (pI h s0 9 s1)
noncomputable def wX12_goOn_j259 (S : Sh) (h : Hp) (a0 : Nat) (Q : Hp → Prop) : Prop :=
  (S a0).1 = 13 ∧
  ((((gI h a0 6) - (gI h a0 10)) ≤ (3 : Int32) →
   (wX12_goOn_j278 S h a0 (3 : Int32) Q)) ∧
   (¬ ((gI h a0 6) - (gI h a0 10)) ≤ (3 : Int32) →
    (wX12_goOn_j278 S h a0 (0 : Int32) Q)))
noncomputable def wX12_goOn_j246 (S : Sh) (B198 : Hp → Prop) (h : Hp) (a0 : Nat) (Q : Hp → Prop) : Prop :=
  (S a0).1 = 13 ∧
  (B198 ((pI h a0 6 (((gI h a0 6) + (1 : Int32))))))
noncomputable def wX12_goOn_198b (S : Sh) (a0 : Nat) (Q : Hp → Prop) (B198 : Hp → Prop) (h : Hp) : Prop :=
  (S a0).1 = 13 ∧
  (wX12_isDigitAt S h a0 (gI h a0 6) (fun r203 h203 =>
   ((r203 = 0 →
    (wX12_goOn_j259 S h203 a0 Q)) ∧
    (¬ r203 = 0 →
     (((3 : Int32) ≤ ((gI h203 a0 6) - (gI h203 a0 10)) →
      (wX12_goOn_j246 S B198 h203 a0 Q)) ∧
      (¬ (3 : Int32) ≤ ((gI h203 a0 6) - (gI h203 a0 10)) →
       inA S (gR h203 a0 3) 20 (gI h203 a0 6) ∧
       (wX12_goOn_j246 S B198 ((pI h203 a0 12 (((((10 : Int32) * (gI h203 a0 12)) + (gI h203 (gR h203 a0 3) (ix (gI h203 a0 6)))) - (48 : Int32))))) a0 Q)))))))
noncomputable def wX12_goOn_198 (S : Sh) (a0 : Nat) (Q : Hp → Prop) (n : Nat) : Hp → Prop := Nat.rec (motive := fun _ => Hp → Prop) (fun _ => False) (fun _ B198 h => wX12_goOn_198b S a0 Q B198 h) n
noncomputable def wX12_goOn_j176 (S : Sh) (h : Hp) (s0 : Nat) (s1 : Int32) (Q : Hp → Prop) : Prop :=
  (S s0).1 = 13 ∧
  Q (pI h s0 9 s1)
noncomputable def wX12_goOn_j156 (S : Sh) (h : Hp) (a0 : Nat) (Q : Hp → Prop) : Prop :=
  (S a0).1 = 13 ∧
  ((((gI h a0 6) - (gI h a0 10)) ≤ (7 : Int32) →
   (wX12_goOn_j176 S h a0 (2 : Int32) Q)) ∧
   (¬ ((gI h a0 6) - (gI h a0 10)) ≤ (7 : Int32) →
    (wX12_goOn_j176 S h a0 (0 : Int32) Q)))
noncomputable def wX12_goOn_j143 (S : Sh) (B89 : Hp → Prop) (h : Hp) (a0 : Nat) (Q : Hp → Prop) : Prop :=
  (S a0).1 = 13 ∧
  (B89 ((pI h a0 6 (((gI h a0 6) + (1 : Int32))))))
noncomputable def wX12_goOn_89b (S : Sh) (a0 : Nat) (Q : Hp → Prop) (B89 : Hp → Prop) (h : Hp) : Prop :=
  (S a0).1 = 13 ∧
  (wX12_isLetterAt S h a0 (gI h a0 6) (fun r94 h94 =>
   ((r94 = 0 →
    (wX12_goOn_j156 S h94 a0 Q)) ∧
    (¬ r94 = 0 →
     (((7 : Int32) ≤ ((gI h94 a0 6) - (gI h94 a0 10)) →
      (wX12_goOn_j143 S B89 h94 a0 Q)) ∧
      (¬ (7 : Int32) ≤ ((gI h94 a0 6) - (gI h94 a0 10)) →
       inA S (gR h94 a0 3) 20 (gI h94 a0 6) ∧
       (wX12_goOn_j143 S B89 ((pJ h94 a0 13 ((((((gJ h94 a0 13) * (32 : Int64)) + (((gI h94 (gR h94 a0 3) (ix (gI h94 a0 6)))).toInt64)) - (97 : Int64)) + (1 : Int64))))) a0 Q)))))))
noncomputable def wX12_goOn_89 (S : Sh) (a0 : Nat) (Q : Hp → Prop) (n : Nat) : Hp → Prop := Nat.rec (motive := fun _ => Hp → Prop) (fun _ => False) (fun _ B89 h => wX12_goOn_89b S a0 Q B89 h) n
noncomputable def wX12_goOn_j46 (S : Sh) (h : Hp) (a0 : Nat) (Q : Hp → Prop) : Prop :=
  (S a0).1 = 13 ∧
  ∀ h51 : Hp, h51 = (pI h a0 10 (gI h a0 6)) →
  ((¬ (gI h51 a0 6) = (gI h51 a0 5) →
   (wX12_isLetterAt S h51 a0 (gI h51 a0 6) (fun r78 h78 =>
    ((r78 = 0 →
     (wX12_isDigitAt S h78 a0 (gI h78 a0 6) (fun r187 h187 =>
      ((r187 = 0 →
       inA S (gR h187 a0 3) 20 (gI h187 a0 6) ∧
       ∀ h294 : Hp, h294 = (pI h187 a0 11 ((gI h187 (gR h187 a0 3) (ix (gI h187 a0 6))))) →
       (wX12_isSignOf S h294 (gI h294 a0 11) (fun r302 h302 =>
        ((r302 = 0 →
         ∀ h313 : Hp, h313 = (pI h302 a0 9 (0 : Int32)) →
         Q ((pI h313 a0 6 (((gI h313 a0 6) + (1 : Int32)))))) ∧
         (¬ r302 = 0 →
          ∀ h313 : Hp, h313 = (pI h302 a0 9 (4 : Int32)) →
          Q ((pI h313 a0 6 (((gI h313 a0 6) + (1 : Int32)))))))))) ∧
       (¬ r187 = 0 →
        (∃ n198, wX12_goOn_198 S a0 Q n198 ((pI h187 a0 12 (0 : Int32))))))))) ∧
     (¬ r78 = 0 →
      (∃ n89, wX12_goOn_89 S a0 Q n89 ((pJ h78 a0 13 (0 : Int64))))))))) ∧
   ((gI h51 a0 6) = (gI h51 a0 5) →
    Q ((pI h51 a0 9 (1 : Int32)))))
noncomputable def wX12_goOn_8b (S : Sh) (a0 : Nat) (Q : Hp → Prop) (B8 : Hp → Prop) (h : Hp) : Prop :=
  (S a0).1 = 13 ∧
  (((gI h a0 5) ≤ (gI h a0 6) →
   (wX12_goOn_j46 S h a0 Q)) ∧
   (¬ (gI h a0 5) ≤ (gI h a0 6) →
    inA S (gR h a0 3) 20 (gI h a0 6) ∧
    ((¬ (gI h (gR h a0 3) (ix (gI h a0 6))) = (32 : Int32) →
     (wX12_goOn_j46 S h a0 Q)) ∧
     ((gI h (gR h a0 3) (ix (gI h a0 6))) = (32 : Int32) →
      (B8 ((pI h a0 6 (((gI h a0 6) + (1 : Int32))))))))))
noncomputable def wX12_goOn_8 (S : Sh) (a0 : Nat) (Q : Hp → Prop) (n : Nat) : Hp → Prop := Nat.rec (motive := fun _ => Hp → Prop) (fun _ => False) (fun _ B8 h => wX12_goOn_8b S a0 Q B8 h) n
noncomputable def wX12_goOn (S : Sh) (h : Hp) (a0 : Nat) (Q : Hp → Prop) : Prop :=
  (S a0).1 = 13 ∧
  (((gI h a0 7) ≤ 0 →
   (∃ n8, wX12_goOn_8 S a0 Q n8 h)) ∧
   (¬ (gI h a0 7) ≤ 0 →
    Q h))
noncomputable def wX12_holds_409b (S : Sh) (a0 : Nat) (Q : Hp → Prop) (B409 : Hp → Int32 → Prop) (h : Hp) (x1 : Int32) : Prop :=
  (S a0).1 = 13 ∧
  (((gI h a0 41) ≤ x1 →
   Q h) ∧
   (¬ (gI h a0 41) ≤ x1 →
    inA S (gR h a0 39) 20 (((700 : Int32) + x1)) ∧
    inA S (gR h a0 39) 20 x1 ∧
    ∀ h432 : Hp, h432 = (pI h (gR h a0 39) (ix x1) ((gI h (gR h a0 39) (ix (((700 : Int32) + x1)))))) →
    inA S (gR h432 a0 40) 20 (((700 : Int32) + x1)) ∧
    inA S (gR h432 a0 40) 20 x1 ∧
    (B409 ((pI h432 (gR h432 a0 40) (ix x1) ((gI h432 (gR h432 a0 40) (ix (((700 : Int32) + x1))))))) ((x1 + (1 : Int32))))))
noncomputable def wX12_holds_409 (S : Sh) (a0 : Nat) (Q : Hp → Prop) (n : Nat) : Hp → Int32 → Prop := Nat.rec (motive := fun _ => Hp → Int32 → Prop) (fun _ _ => False) (fun _ B409 h x1 => wX12_holds_409b S a0 Q B409 h x1) n
noncomputable def wX12_holds_j407 (S : Sh) (h : Hp) (a0 : Nat) (Q : Hp → Prop) : Prop :=
  (∃ n409, wX12_holds_409 S a0 Q n409 h (0 : Int32))
noncomputable def wX12_holds_365b (S : Sh) (a0 : Nat) (Q : Hp → Prop) (B365 : Hp → Int32 → Prop) (h : Hp) (x1 : Int32) : Prop :=
  (((36 : Int32) ≤ x1 →
   (wX12_holds_j407 S h a0 Q)) ∧
   (¬ (36 : Int32) ≤ x1 →
    (S a0).1 = 13 ∧
    inA S (gR h a0 34) 20 (((36 : Int32) + x1)) ∧
    inA S (gR h a0 34) 20 x1 ∧
    ∀ h385 : Hp, h385 = (pI h (gR h a0 34) (ix x1) ((gI h (gR h a0 34) (ix (((36 : Int32) + x1)))))) →
    inA S (gR h385 a0 35) 20 (((36 : Int32) + x1)) ∧
    inA S (gR h385 a0 35) 20 x1 ∧
    (B365 ((pI h385 (gR h385 a0 35) (ix x1) ((gI h385 (gR h385 a0 35) (ix (((36 : Int32) + x1))))))) ((x1 + (1 : Int32))))))
noncomputable def wX12_holds_365 (S : Sh) (a0 : Nat) (Q : Hp → Prop) (n : Nat) : Hp → Int32 → Prop := Nat.rec (motive := fun _ => Hp → Int32 → Prop) (fun _ _ => False) (fun _ B365 h x1 => wX12_holds_365b S a0 Q B365 h x1) n
noncomputable def wX12_holds_j363 (S : Sh) (h : Hp) (a0 : Nat) (Q : Hp → Prop) : Prop :=
  (∃ n365, wX12_holds_365 S a0 Q n365 h (0 : Int32))
noncomputable def wX12_holds_209b (S : Sh) (a0 : Nat) (Q : Hp → Prop) (B209 : Hp → Int32 → Prop) (h : Hp) (x1 : Int32) : Prop :=
  (((12 : Int32) ≤ x1 →
   (wX12_holds_j363 S h a0 Q)) ∧
   (¬ (12 : Int32) ≤ x1 →
    (S a0).1 = 13 ∧
    inA S (gR h a0 26) 20 (((12 : Int32) + x1)) ∧
    inA S (gR h a0 26) 20 x1 ∧
    ∀ h229 : Hp, h229 = (pI h (gR h a0 26) (ix x1) ((gI h (gR h a0 26) (ix (((12 : Int32) + x1)))))) →
    inA S (gR h229 a0 27) 20 (((12 : Int32) + x1)) ∧
    inA S (gR h229 a0 27) 20 x1 ∧
    ∀ h244 : Hp, h244 = (pI h229 (gR h229 a0 27) (ix x1) ((gI h229 (gR h229 a0 27) (ix (((12 : Int32) + x1)))))) →
    inA S (gR h244 a0 16) 23 (((12 : Int32) + x1)) ∧
    inA S (gR h244 a0 16) 23 x1 ∧
    ∀ h259 : Hp, h259 = (pJ h244 (gR h244 a0 16) (ix x1) ((gJ h244 (gR h244 a0 16) (ix (((12 : Int32) + x1)))))) →
    inA S (gR h259 a0 28) 20 (((12 : Int32) + x1)) ∧
    inA S (gR h259 a0 28) 20 x1 ∧
    ∀ h274 : Hp, h274 = (pI h259 (gR h259 a0 28) (ix x1) ((gI h259 (gR h259 a0 28) (ix (((12 : Int32) + x1)))))) →
    inA S (gR h274 a0 29) 20 (((12 : Int32) + x1)) ∧
    inA S (gR h274 a0 29) 20 x1 ∧
    ∀ h289 : Hp, h289 = (pI h274 (gR h274 a0 29) (ix x1) ((gI h274 (gR h274 a0 29) (ix (((12 : Int32) + x1)))))) →
    inA S (gR h289 a0 30) 20 (((12 : Int32) + x1)) ∧
    inA S (gR h289 a0 30) 20 x1 ∧
    ∀ h304 : Hp, h304 = (pI h289 (gR h289 a0 30) (ix x1) ((gI h289 (gR h289 a0 30) (ix (((12 : Int32) + x1)))))) →
    inA S (gR h304 a0 31) 20 (((12 : Int32) + x1)) ∧
    inA S (gR h304 a0 31) 20 x1 ∧
    ∀ h319 : Hp, h319 = (pI h304 (gR h304 a0 31) (ix x1) ((gI h304 (gR h304 a0 31) (ix (((12 : Int32) + x1)))))) →
    inA S (gR h319 a0 32) 20 (((12 : Int32) + x1)) ∧
    inA S (gR h319 a0 32) 20 x1 ∧
    ∀ h334 : Hp, h334 = (pI h319 (gR h319 a0 32) (ix x1) ((gI h319 (gR h319 a0 32) (ix (((12 : Int32) + x1)))))) →
    inA S (gR h334 a0 33) 20 (((12 : Int32) + x1)) ∧
    inA S (gR h334 a0 33) 20 x1 ∧
    ∀ h349 : Hp, h349 = (pI h334 (gR h334 a0 33) (ix x1) ((gI h334 (gR h334 a0 33) (ix (((12 : Int32) + x1)))))) →
    inA S (gR h349 a0 36) 22 x1 ∧
    (B209 ((pI h349 (gR h349 a0 36) (ix x1) (((0 : Int32) &&& 1)))) ((x1 + (1 : Int32))))))
noncomputable def wX12_holds_209 (S : Sh) (a0 : Nat) (Q : Hp → Prop) (n : Nat) : Hp → Int32 → Prop := Nat.rec (motive := fun _ => Hp → Int32 → Prop) (fun _ _ => False) (fun _ B209 h x1 => wX12_holds_209b S a0 Q B209 h x1) n
noncomputable def wX12_holds_j207 (S : Sh) (h : Hp) (a0 : Nat) (Q : Hp → Prop) : Prop :=
  (∃ n209, wX12_holds_209 S a0 Q n209 h (0 : Int32))
noncomputable def wX12_holds_135b (S : Sh) (a0 : Nat) (Q : Hp → Prop) (B135 : Hp → Int32 → Prop) (h : Hp) (x1 : Int32) : Prop :=
  (((9 : Int32) ≤ x1 →
   (wX12_holds_j207 S h a0 Q)) ∧
   (¬ (9 : Int32) ≤ x1 →
    (S a0).1 = 13 ∧
    inA S (gR h a0 15) 23 (((9 : Int32) + x1)) ∧
    inA S (gR h a0 15) 23 x1 ∧
    ∀ h155 : Hp, h155 = (pJ h (gR h a0 15) (ix x1) ((gJ h (gR h a0 15) (ix (((9 : Int32) + x1)))))) →
    inA S (gR h155 a0 23) 20 (((9 : Int32) + x1)) ∧
    inA S (gR h155 a0 23) 20 x1 ∧
    ∀ h170 : Hp, h170 = (pI h155 (gR h155 a0 23) (ix x1) ((gI h155 (gR h155 a0 23) (ix (((9 : Int32) + x1)))))) →
    inA S (gR h170 a0 24) 20 (((9 : Int32) + x1)) ∧
    inA S (gR h170 a0 24) 20 x1 ∧
    ∀ h185 : Hp, h185 = (pI h170 (gR h170 a0 24) (ix x1) ((gI h170 (gR h170 a0 24) (ix (((9 : Int32) + x1)))))) →
    inA S (gR h185 a0 25) 20 (((9 : Int32) + x1)) ∧
    inA S (gR h185 a0 25) 20 x1 ∧
    (B135 ((pI h185 (gR h185 a0 25) (ix x1) ((gI h185 (gR h185 a0 25) (ix (((9 : Int32) + x1))))))) ((x1 + (1 : Int32))))))
noncomputable def wX12_holds_135 (S : Sh) (a0 : Nat) (Q : Hp → Prop) (n : Nat) : Hp → Int32 → Prop := Nat.rec (motive := fun _ => Hp → Int32 → Prop) (fun _ _ => False) (fun _ B135 h x1 => wX12_holds_135b S a0 Q B135 h x1) n
noncomputable def wX12_holds_j133 (S : Sh) (h : Hp) (a0 : Nat) (Q : Hp → Prop) : Prop :=
  (∃ n135, wX12_holds_135 S a0 Q n135 h (0 : Int32))
noncomputable def wX12_holds_j90 (S : Sh) (B10 : Hp → Int32 → Prop) (h : Hp) (a0 : Nat) (x1 : Int32) (x2 : Int32) (s0 : Nat) (s1 : Int32) (s2 : Int32) (Q : Hp → Prop) : Prop :=
  inA S s0 20 s1 ∧
  ∀ h90 : Hp, h90 = (pI h s0 (ix s1) s2) →
  (S a0).1 = 13 ∧
  inA S (gR h90 a0 20) 20 x2 ∧
  inA S (gR h90 a0 20) 20 x1 ∧
  ∀ h102 : Hp, h102 = (pI h90 (gR h90 a0 20) (ix x1) ((gI h90 (gR h90 a0 20) (ix x2)))) →
  inA S (gR h102 a0 21) 20 x2 ∧
  inA S (gR h102 a0 21) 20 x1 ∧
  ∀ h114 : Hp, h114 = (pI h102 (gR h102 a0 21) (ix x1) ((gI h102 (gR h102 a0 21) (ix x2)))) →
  inA S (gR h114 a0 22) 20 x2 ∧
  inA S (gR h114 a0 22) 20 x1 ∧
  (B10 ((pI h114 (gR h114 a0 22) (ix x1) ((gI h114 (gR h114 a0 22) (ix x2))))) ((x1 + (1 : Int32))))
noncomputable def wX12_holds_j54 (S : Sh) (B10 : Hp → Int32 → Prop) (h : Hp) (a0 : Nat) (x1 : Int32) (x2 : Int32) (s0 : Nat) (s1 : Int32) (s2 : Int32) (Q : Hp → Prop) : Prop :=
  inA S s0 20 s1 ∧
  ∀ h54 : Hp, h54 = (pI h s0 (ix s1) s2) →
  (S a0).1 = 13 ∧
  inA S (gR h54 a0 18) 20 x2 ∧
  inA S (gR h54 a0 18) 20 x1 ∧
  ∀ h66 : Hp, h66 = (pI h54 (gR h54 a0 18) (ix x1) ((gI h54 (gR h54 a0 18) (ix x2)))) →
  (((gI h66 a0 38) ≤ x1 →
   (wX12_holds_j90 S B10 h66 a0 x1 x2 (gR h66 a0 19) x1 (0 : Int32) Q)) ∧
   (¬ (gI h66 a0 38) ≤ x1 →
    inA S (gR h66 a0 19) 20 x2 ∧
    (wX12_holds_j90 S B10 h66 a0 x1 x2 (gR h66 a0 19) x1 ((gI h66 (gR h66 a0 19) (ix x2))) Q)))
noncomputable def wX12_holds_10b (S : Sh) (a0 : Nat) (Q : Hp → Prop) (B10 : Hp → Int32 → Prop) (h : Hp) (x1 : Int32) : Prop :=
  (((3 : Int32) ≤ x1 →
   (wX12_holds_j133 S h a0 Q)) ∧
   (¬ (3 : Int32) ≤ x1 →
    (S a0).1 = 13 ∧
    inA S (gR h a0 14) 23 (((3 : Int32) + x1)) ∧
    inA S (gR h a0 14) 23 x1 ∧
    ∀ h30 : Hp, h30 = (pJ h (gR h a0 14) (ix x1) ((gJ h (gR h a0 14) (ix (((3 : Int32) + x1)))))) →
    (((gI h30 a0 38) ≤ x1 →
     (wX12_holds_j54 S B10 h30 a0 x1 (((3 : Int32) + x1)) (gR h30 a0 17) x1 (0 : Int32) Q)) ∧
     (¬ (gI h30 a0 38) ≤ x1 →
      inA S (gR h30 a0 17) 20 (((3 : Int32) + x1)) ∧
      (wX12_holds_j54 S B10 h30 a0 x1 (((3 : Int32) + x1)) (gR h30 a0 17) x1 ((gI h30 (gR h30 a0 17) (ix (((3 : Int32) + x1))))) Q)))))
noncomputable def wX12_holds_10 (S : Sh) (a0 : Nat) (Q : Hp → Prop) (n : Nat) : Hp → Int32 → Prop := Nat.rec (motive := fun _ => Hp → Int32 → Prop) (fun _ _ => False) (fun _ B10 h x1 => wX12_holds_10b S a0 Q B10 h x1) n
noncomputable def wX12_holds (S : Sh) (h : Hp) (a0 : Nat) (Q : Hp → Prop) : Prop :=
  (S a0).1 = 13 ∧
  (∃ n10, wX12_holds_10 S a0 Q n10 ((pI h a0 37 (gI h a0 38))) (0 : Int32))
noncomputable def wX12_init  (S : Sh) (z : Nat) (h : Hp) (a0 : Nat) (Q : Sh → Nat → Hp → Prop) : Prop :=
  (S a0).1 ≠ 0 ∧
  (S a0).1 = 13 ∧
  ∀ h6 : Hp, h6 = (pI h a0 2 (-1 : Int32)) →
  h0 h6 z ∧
  0 + 1 ≤ 34 ∧
  0 + 600 ≤ 25498 ∧
  ((uS S z (20, 600)) a0).1 = 13 ∧
  ∀ h15 : Hp, h15 = (pR h6 a0 3 z) →
  h0 h15 (z + 1) ∧
  1 + 1 ≤ 34 ∧
  600 + 6 ≤ 25498 ∧
  ((uS ((uS S z (20, 600))) (z + 1) (23, 6)) a0).1 = 13 ∧
  ∀ h23 : Hp, h23 = (pR h15 a0 14 (z + 1)) →
  h0 h23 (z + 2) ∧
  2 + 1 ≤ 34 ∧
  606 + 18 ≤ 25498 ∧
  ((uS ((uS ((uS S z (20, 600))) (z + 1) (23, 6))) (z + 2) (23, 18)) a0).1 = 13 ∧
  ∀ h31 : Hp, h31 = (pR h23 a0 15 (z + 2)) →
  h0 h31 (z + 3) ∧
  3 + 1 ≤ 34 ∧
  624 + 24 ≤ 25498 ∧
  ((uS ((uS ((uS ((uS S z (20, 600))) (z + 1) (23, 6))) (z + 2) (23, 18))) (z + 3) (23, 24)) a0).1 = 13 ∧
  ∀ h39 : Hp, h39 = (pR h31 a0 16 (z + 3)) →
  h0 h39 (z + 4) ∧
  4 + 1 ≤ 34 ∧
  648 + 6 ≤ 25498 ∧
  ((uS ((uS ((uS ((uS ((uS S z (20, 600))) (z + 1) (23, 6))) (z + 2) (23, 18))) (z + 3) (23, 24))) (z + 4) (20, 6)) a0).1 = 13 ∧
  ∀ h47 : Hp, h47 = (pR h39 a0 17 (z + 4)) →
  h0 h47 (z + 5) ∧
  5 + 1 ≤ 34 ∧
  654 + 6 ≤ 25498 ∧
  ((uS ((uS ((uS ((uS ((uS ((uS S z (20, 600))) (z + 1) (23, 6))) (z + 2) (23, 18))) (z + 3) (23, 24))) (z + 4) (20, 6))) (z + 5) (20, 6)) a0).1 = 13 ∧
  ∀ h55 : Hp, h55 = (pR h47 a0 18 (z + 5)) →
  h0 h55 (z + 6) ∧
  6 + 1 ≤ 34 ∧
  660 + 6 ≤ 25498 ∧
  ((uS ((uS ((uS ((uS ((uS ((uS ((uS S z (20, 600))) (z + 1) (23, 6))) (z + 2) (23, 18))) (z + 3) (23, 24))) (z + 4) (20, 6))) (z + 5) (20, 6))) (z + 6) (20, 6)) a0).1 = 13 ∧
  ∀ h63 : Hp, h63 = (pR h55 a0 19 (z + 6)) →
  h0 h63 (z + 7) ∧
  7 + 1 ≤ 34 ∧
  666 + 6 ≤ 25498 ∧
  ((uS ((uS ((uS ((uS ((uS ((uS ((uS ((uS S z (20, 600))) (z + 1) (23, 6))) (z + 2) (23, 18))) (z + 3) (23, 24))) (z + 4) (20, 6))) (z + 5) (20, 6))) (z + 6) (20, 6))) (z + 7) (20, 6)) a0).1 = 13 ∧
  ∀ h71 : Hp, h71 = (pR h63 a0 20 (z + 7)) →
  h0 h71 (z + 8) ∧
  8 + 1 ≤ 34 ∧
  672 + 6 ≤ 25498 ∧
  ((uS ((uS ((uS ((uS ((uS ((uS ((uS ((uS ((uS S z (20, 600))) (z + 1) (23, 6))) (z + 2) (23, 18))) (z + 3) (23, 24))) (z + 4) (20, 6))) (z + 5) (20, 6))) (z + 6) (20, 6))) (z + 7) (20, 6))) (z + 8) (20, 6)) a0).1 = 13 ∧
  ∀ h79 : Hp, h79 = (pR h71 a0 21 (z + 8)) →
  h0 h79 (z + 9) ∧
  9 + 1 ≤ 34 ∧
  678 + 6 ≤ 25498 ∧
  ((uS ((uS ((uS ((uS ((uS ((uS ((uS ((uS ((uS ((uS S z (20, 600))) (z + 1) (23, 6))) (z + 2) (23, 18))) (z + 3) (23, 24))) (z + 4) (20, 6))) (z + 5) (20, 6))) (z + 6) (20, 6))) (z + 7) (20, 6))) (z + 8) (20, 6))) (z + 9) (20, 6)) a0).1 = 13 ∧
  ∀ h87 : Hp, h87 = (pR h79 a0 22 (z + 9)) →
  h0 h87 (z + 10) ∧
  10 + 1 ≤ 34 ∧
  684 + 18 ≤ 25498 ∧
  ((uS ((uS ((uS ((uS ((uS ((uS ((uS ((uS ((uS ((uS ((uS S z (20, 600))) (z + 1) (23, 6))) (z + 2) (23, 18))) (z + 3) (23, 24))) (z + 4) (20, 6))) (z + 5) (20, 6))) (z + 6) (20, 6))) (z + 7) (20, 6))) (z + 8) (20, 6))) (z + 9) (20, 6))) (z + 10) (20, 18)) a0).1 = 13 ∧
  ∀ h95 : Hp, h95 = (pR h87 a0 23 (z + 10)) →
  h0 h95 (z + 11) ∧
  11 + 1 ≤ 34 ∧
  702 + 18 ≤ 25498 ∧
  ((uS ((uS ((uS ((uS ((uS ((uS ((uS ((uS ((uS ((uS ((uS ((uS S z (20, 600))) (z + 1) (23, 6))) (z + 2) (23, 18))) (z + 3) (23, 24))) (z + 4) (20, 6))) (z + 5) (20, 6))) (z + 6) (20, 6))) (z + 7) (20, 6))) (z + 8) (20, 6))) (z + 9) (20, 6))) (z + 10) (20, 18))) (z + 11) (20, 18)) a0).1 = 13 ∧
  ∀ h103 : Hp, h103 = (pR h95 a0 24 (z + 11)) →
  h0 h103 (z + 12) ∧
  12 + 1 ≤ 34 ∧
  720 + 18 ≤ 25498 ∧
  ((uS ((uS ((uS ((uS ((uS ((uS ((uS ((uS ((uS ((uS ((uS ((uS ((uS S z (20, 600))) (z + 1) (23, 6))) (z + 2) (23, 18))) (z + 3) (23, 24))) (z + 4) (20, 6))) (z + 5) (20, 6))) (z + 6) (20, 6))) (z + 7) (20, 6))) (z + 8) (20, 6))) (z + 9) (20, 6))) (z + 10) (20, 18))) (z + 11) (20, 18))) (z + 12) (20, 18)) a0).1 = 13 ∧
  ∀ h111 : Hp, h111 = (pR h103 a0 25 (z + 12)) →
  h0 h111 (z + 13) ∧
  13 + 1 ≤ 34 ∧
  738 + 24 ≤ 25498 ∧
  ((uS ((uS ((uS ((uS ((uS ((uS ((uS ((uS ((uS ((uS ((uS ((uS ((uS ((uS S z (20, 600))) (z + 1) (23, 6))) (z + 2) (23, 18))) (z + 3) (23, 24))) (z + 4) (20, 6))) (z + 5) (20, 6))) (z + 6) (20, 6))) (z + 7) (20, 6))) (z + 8) (20, 6))) (z + 9) (20, 6))) (z + 10) (20, 18))) (z + 11) (20, 18))) (z + 12) (20, 18))) (z + 13) (20, 24)) a0).1 = 13 ∧
  ∀ h119 : Hp, h119 = (pR h111 a0 26 (z + 13)) →
  h0 h119 (z + 14) ∧
  14 + 1 ≤ 34 ∧
  762 + 24 ≤ 25498 ∧
  ((uS ((uS ((uS ((uS ((uS ((uS ((uS ((uS ((uS ((uS ((uS ((uS ((uS ((uS ((uS S z (20, 600))) (z + 1) (23, 6))) (z + 2) (23, 18))) (z + 3) (23, 24))) (z + 4) (20, 6))) (z + 5) (20, 6))) (z + 6) (20, 6))) (z + 7) (20, 6))) (z + 8) (20, 6))) (z + 9) (20, 6))) (z + 10) (20, 18))) (z + 11) (20, 18))) (z + 12) (20, 18))) (z + 13) (20, 24))) (z + 14) (20, 24)) a0).1 = 13 ∧
  ∀ h127 : Hp, h127 = (pR h119 a0 27 (z + 14)) →
  h0 h127 (z + 15) ∧
  15 + 1 ≤ 34 ∧
  786 + 24 ≤ 25498 ∧
  ((uS ((uS ((uS ((uS ((uS ((uS ((uS ((uS ((uS ((uS ((uS ((uS ((uS ((uS ((uS ((uS S z (20, 600))) (z + 1) (23, 6))) (z + 2) (23, 18))) (z + 3) (23, 24))) (z + 4) (20, 6))) (z + 5) (20, 6))) (z + 6) (20, 6))) (z + 7) (20, 6))) (z + 8) (20, 6))) (z + 9) (20, 6))) (z + 10) (20, 18))) (z + 11) (20, 18))) (z + 12) (20, 18))) (z + 13) (20, 24))) (z + 14) (20, 24))) (z + 15) (20, 24)) a0).1 = 13 ∧
  ∀ h135 : Hp, h135 = (pR h127 a0 28 (z + 15)) →
  h0 h135 (z + 16) ∧
  16 + 1 ≤ 34 ∧
  810 + 24 ≤ 25498 ∧
  ((uS ((uS ((uS ((uS ((uS ((uS ((uS ((uS ((uS ((uS ((uS ((uS ((uS ((uS ((uS ((uS ((uS S z (20, 600))) (z + 1) (23, 6))) (z + 2) (23, 18))) (z + 3) (23, 24))) (z + 4) (20, 6))) (z + 5) (20, 6))) (z + 6) (20, 6))) (z + 7) (20, 6))) (z + 8) (20, 6))) (z + 9) (20, 6))) (z + 10) (20, 18))) (z + 11) (20, 18))) (z + 12) (20, 18))) (z + 13) (20, 24))) (z + 14) (20, 24))) (z + 15) (20, 24))) (z + 16) (20, 24)) a0).1 = 13 ∧
  ∀ h143 : Hp, h143 = (pR h135 a0 29 (z + 16)) →
  h0 h143 (z + 17) ∧
  17 + 1 ≤ 34 ∧
  834 + 24 ≤ 25498 ∧
  ((uS ((uS ((uS ((uS ((uS ((uS ((uS ((uS ((uS ((uS ((uS ((uS ((uS ((uS ((uS ((uS ((uS ((uS S z (20, 600))) (z + 1) (23, 6))) (z + 2) (23, 18))) (z + 3) (23, 24))) (z + 4) (20, 6))) (z + 5) (20, 6))) (z + 6) (20, 6))) (z + 7) (20, 6))) (z + 8) (20, 6))) (z + 9) (20, 6))) (z + 10) (20, 18))) (z + 11) (20, 18))) (z + 12) (20, 18))) (z + 13) (20, 24))) (z + 14) (20, 24))) (z + 15) (20, 24))) (z + 16) (20, 24))) (z + 17) (20, 24)) a0).1 = 13 ∧
  ∀ h151 : Hp, h151 = (pR h143 a0 30 (z + 17)) →
  h0 h151 (z + 18) ∧
  18 + 1 ≤ 34 ∧
  858 + 24 ≤ 25498 ∧
  ((uS ((uS ((uS ((uS ((uS ((uS ((uS ((uS ((uS ((uS ((uS ((uS ((uS ((uS ((uS ((uS ((uS ((uS ((uS S z (20, 600))) (z + 1) (23, 6))) (z + 2) (23, 18))) (z + 3) (23, 24))) (z + 4) (20, 6))) (z + 5) (20, 6))) (z + 6) (20, 6))) (z + 7) (20, 6))) (z + 8) (20, 6))) (z + 9) (20, 6))) (z + 10) (20, 18))) (z + 11) (20, 18))) (z + 12) (20, 18))) (z + 13) (20, 24))) (z + 14) (20, 24))) (z + 15) (20, 24))) (z + 16) (20, 24))) (z + 17) (20, 24))) (z + 18) (20, 24)) a0).1 = 13 ∧
  ∀ h159 : Hp, h159 = (pR h151 a0 31 (z + 18)) →
  h0 h159 (z + 19) ∧
  19 + 1 ≤ 34 ∧
  882 + 24 ≤ 25498 ∧
  ((uS ((uS ((uS ((uS ((uS ((uS ((uS ((uS ((uS ((uS ((uS ((uS ((uS ((uS ((uS ((uS ((uS ((uS ((uS ((uS S z (20, 600))) (z + 1) (23, 6))) (z + 2) (23, 18))) (z + 3) (23, 24))) (z + 4) (20, 6))) (z + 5) (20, 6))) (z + 6) (20, 6))) (z + 7) (20, 6))) (z + 8) (20, 6))) (z + 9) (20, 6))) (z + 10) (20, 18))) (z + 11) (20, 18))) (z + 12) (20, 18))) (z + 13) (20, 24))) (z + 14) (20, 24))) (z + 15) (20, 24))) (z + 16) (20, 24))) (z + 17) (20, 24))) (z + 18) (20, 24))) (z + 19) (20, 24)) a0).1 = 13 ∧
  ∀ h167 : Hp, h167 = (pR h159 a0 32 (z + 19)) →
  h0 h167 (z + 20) ∧
  20 + 1 ≤ 34 ∧
  906 + 24 ≤ 25498 ∧
  ((uS ((uS ((uS ((uS ((uS ((uS ((uS ((uS ((uS ((uS ((uS ((uS ((uS ((uS ((uS ((uS ((uS ((uS ((uS ((uS ((uS S z (20, 600))) (z + 1) (23, 6))) (z + 2) (23, 18))) (z + 3) (23, 24))) (z + 4) (20, 6))) (z + 5) (20, 6))) (z + 6) (20, 6))) (z + 7) (20, 6))) (z + 8) (20, 6))) (z + 9) (20, 6))) (z + 10) (20, 18))) (z + 11) (20, 18))) (z + 12) (20, 18))) (z + 13) (20, 24))) (z + 14) (20, 24))) (z + 15) (20, 24))) (z + 16) (20, 24))) (z + 17) (20, 24))) (z + 18) (20, 24))) (z + 19) (20, 24))) (z + 20) (20, 24)) a0).1 = 13 ∧
  ∀ h175 : Hp, h175 = (pR h167 a0 33 (z + 20)) →
  h0 h175 (z + 21) ∧
  21 + 1 ≤ 34 ∧
  930 + 72 ≤ 25498 ∧
  ((uS ((uS ((uS ((uS ((uS ((uS ((uS ((uS ((uS ((uS ((uS ((uS ((uS ((uS ((uS ((uS ((uS ((uS ((uS ((uS ((uS ((uS S z (20, 600))) (z + 1) (23, 6))) (z + 2) (23, 18))) (z + 3) (23, 24))) (z + 4) (20, 6))) (z + 5) (20, 6))) (z + 6) (20, 6))) (z + 7) (20, 6))) (z + 8) (20, 6))) (z + 9) (20, 6))) (z + 10) (20, 18))) (z + 11) (20, 18))) (z + 12) (20, 18))) (z + 13) (20, 24))) (z + 14) (20, 24))) (z + 15) (20, 24))) (z + 16) (20, 24))) (z + 17) (20, 24))) (z + 18) (20, 24))) (z + 19) (20, 24))) (z + 20) (20, 24))) (z + 21) (20, 72)) a0).1 = 13 ∧
  ∀ h183 : Hp, h183 = (pR h175 a0 34 (z + 21)) →
  h0 h183 (z + 22) ∧
  22 + 1 ≤ 34 ∧
  1002 + 72 ≤ 25498 ∧
  ((uS ((uS ((uS ((uS ((uS ((uS ((uS ((uS ((uS ((uS ((uS ((uS ((uS ((uS ((uS ((uS ((uS ((uS ((uS ((uS ((uS ((uS ((uS S z (20, 600))) (z + 1) (23, 6))) (z + 2) (23, 18))) (z + 3) (23, 24))) (z + 4) (20, 6))) (z + 5) (20, 6))) (z + 6) (20, 6))) (z + 7) (20, 6))) (z + 8) (20, 6))) (z + 9) (20, 6))) (z + 10) (20, 18))) (z + 11) (20, 18))) (z + 12) (20, 18))) (z + 13) (20, 24))) (z + 14) (20, 24))) (z + 15) (20, 24))) (z + 16) (20, 24))) (z + 17) (20, 24))) (z + 18) (20, 24))) (z + 19) (20, 24))) (z + 20) (20, 24))) (z + 21) (20, 72))) (z + 22) (20, 72)) a0).1 = 13 ∧
  ∀ h191 : Hp, h191 = (pR h183 a0 35 (z + 22)) →
  h0 h191 (z + 23) ∧
  23 + 1 ≤ 34 ∧
  1074 + 24 ≤ 25498 ∧
  ((uS ((uS ((uS ((uS ((uS ((uS ((uS ((uS ((uS ((uS ((uS ((uS ((uS ((uS ((uS ((uS ((uS ((uS ((uS ((uS ((uS ((uS ((uS ((uS S z (20, 600))) (z + 1) (23, 6))) (z + 2) (23, 18))) (z + 3) (23, 24))) (z + 4) (20, 6))) (z + 5) (20, 6))) (z + 6) (20, 6))) (z + 7) (20, 6))) (z + 8) (20, 6))) (z + 9) (20, 6))) (z + 10) (20, 18))) (z + 11) (20, 18))) (z + 12) (20, 18))) (z + 13) (20, 24))) (z + 14) (20, 24))) (z + 15) (20, 24))) (z + 16) (20, 24))) (z + 17) (20, 24))) (z + 18) (20, 24))) (z + 19) (20, 24))) (z + 20) (20, 24))) (z + 21) (20, 72))) (z + 22) (20, 72))) (z + 23) (22, 24)) a0).1 = 13 ∧
  ∀ h199 : Hp, h199 = (pR h191 a0 36 (z + 23)) →
  h0 h199 (z + 24) ∧
  24 + 1 ≤ 34 ∧
  1098 + 1400 ≤ 25498 ∧
  ((uS ((uS ((uS ((uS ((uS ((uS ((uS ((uS ((uS ((uS ((uS ((uS ((uS ((uS ((uS ((uS ((uS ((uS ((uS ((uS ((uS ((uS ((uS ((uS ((uS S z (20, 600))) (z + 1) (23, 6))) (z + 2) (23, 18))) (z + 3) (23, 24))) (z + 4) (20, 6))) (z + 5) (20, 6))) (z + 6) (20, 6))) (z + 7) (20, 6))) (z + 8) (20, 6))) (z + 9) (20, 6))) (z + 10) (20, 18))) (z + 11) (20, 18))) (z + 12) (20, 18))) (z + 13) (20, 24))) (z + 14) (20, 24))) (z + 15) (20, 24))) (z + 16) (20, 24))) (z + 17) (20, 24))) (z + 18) (20, 24))) (z + 19) (20, 24))) (z + 20) (20, 24))) (z + 21) (20, 72))) (z + 22) (20, 72))) (z + 23) (22, 24))) (z + 24) (20, 1400)) a0).1 = 13 ∧
  ∀ h208 : Hp, h208 = (pR h199 a0 39 (z + 24)) →
  h0 h208 (z + 25) ∧
  25 + 1 ≤ 34 ∧
  2498 + 1400 ≤ 25498 ∧
  ((uS ((uS ((uS ((uS ((uS ((uS ((uS ((uS ((uS ((uS ((uS ((uS ((uS ((uS ((uS ((uS ((uS ((uS ((uS ((uS ((uS ((uS ((uS ((uS ((uS ((uS S z (20, 600))) (z + 1) (23, 6))) (z + 2) (23, 18))) (z + 3) (23, 24))) (z + 4) (20, 6))) (z + 5) (20, 6))) (z + 6) (20, 6))) (z + 7) (20, 6))) (z + 8) (20, 6))) (z + 9) (20, 6))) (z + 10) (20, 18))) (z + 11) (20, 18))) (z + 12) (20, 18))) (z + 13) (20, 24))) (z + 14) (20, 24))) (z + 15) (20, 24))) (z + 16) (20, 24))) (z + 17) (20, 24))) (z + 18) (20, 24))) (z + 19) (20, 24))) (z + 20) (20, 24))) (z + 21) (20, 72))) (z + 22) (20, 72))) (z + 23) (22, 24))) (z + 24) (20, 1400))) (z + 25) (20, 1400)) a0).1 = 13 ∧
  ∀ h217 : Hp, h217 = (pR h208 a0 40 (z + 25)) →
  h0 h217 (z + 26) ∧
  26 + 1 ≤ 34 ∧
  3898 + 700 ≤ 25498 ∧
  ((uS ((uS ((uS ((uS ((uS ((uS ((uS ((uS ((uS ((uS ((uS ((uS ((uS ((uS ((uS ((uS ((uS ((uS ((uS ((uS ((uS ((uS ((uS ((uS ((uS ((uS ((uS S z (20, 600))) (z + 1) (23, 6))) (z + 2) (23, 18))) (z + 3) (23, 24))) (z + 4) (20, 6))) (z + 5) (20, 6))) (z + 6) (20, 6))) (z + 7) (20, 6))) (z + 8) (20, 6))) (z + 9) (20, 6))) (z + 10) (20, 18))) (z + 11) (20, 18))) (z + 12) (20, 18))) (z + 13) (20, 24))) (z + 14) (20, 24))) (z + 15) (20, 24))) (z + 16) (20, 24))) (z + 17) (20, 24))) (z + 18) (20, 24))) (z + 19) (20, 24))) (z + 20) (20, 24))) (z + 21) (20, 72))) (z + 22) (20, 72))) (z + 23) (22, 24))) (z + 24) (20, 1400))) (z + 25) (20, 1400))) (z + 26) (20, 700)) a0).1 = 13 ∧
  ∀ h226 : Hp, h226 = (pR h217 a0 46 (z + 26)) →
  h0 h226 (z + 27) ∧
  27 + 1 ≤ 34 ∧
  4598 + 300 ≤ 25498 ∧
  ((uS ((uS ((uS ((uS ((uS ((uS ((uS ((uS ((uS ((uS ((uS ((uS ((uS ((uS ((uS ((uS ((uS ((uS ((uS ((uS ((uS ((uS ((uS ((uS ((uS ((uS ((uS ((uS S z (20, 600))) (z + 1) (23, 6))) (z + 2) (23, 18))) (z + 3) (23, 24))) (z + 4) (20, 6))) (z + 5) (20, 6))) (z + 6) (20, 6))) (z + 7) (20, 6))) (z + 8) (20, 6))) (z + 9) (20, 6))) (z + 10) (20, 18))) (z + 11) (20, 18))) (z + 12) (20, 18))) (z + 13) (20, 24))) (z + 14) (20, 24))) (z + 15) (20, 24))) (z + 16) (20, 24))) (z + 17) (20, 24))) (z + 18) (20, 24))) (z + 19) (20, 24))) (z + 20) (20, 24))) (z + 21) (20, 72))) (z + 22) (20, 72))) (z + 23) (22, 24))) (z + 24) (20, 1400))) (z + 25) (20, 1400))) (z + 26) (20, 700))) (z + 27) (22, 300)) a0).1 = 13 ∧
  ∀ h235 : Hp, h235 = (pR h226 a0 47 (z + 27)) →
  h0 h235 (z + 28) ∧
  28 + 1 ≤ 34 ∧
  4898 + 20000 ≤ 25498 ∧
  ((uS ((uS ((uS ((uS ((uS ((uS ((uS ((uS ((uS ((uS ((uS ((uS ((uS ((uS ((uS ((uS ((uS ((uS ((uS ((uS ((uS ((uS ((uS ((uS ((uS ((uS ((uS ((uS ((uS S z (20, 600))) (z + 1) (23, 6))) (z + 2) (23, 18))) (z + 3) (23, 24))) (z + 4) (20, 6))) (z + 5) (20, 6))) (z + 6) (20, 6))) (z + 7) (20, 6))) (z + 8) (20, 6))) (z + 9) (20, 6))) (z + 10) (20, 18))) (z + 11) (20, 18))) (z + 12) (20, 18))) (z + 13) (20, 24))) (z + 14) (20, 24))) (z + 15) (20, 24))) (z + 16) (20, 24))) (z + 17) (20, 24))) (z + 18) (20, 24))) (z + 19) (20, 24))) (z + 20) (20, 24))) (z + 21) (20, 72))) (z + 22) (20, 72))) (z + 23) (22, 24))) (z + 24) (20, 1400))) (z + 25) (20, 1400))) (z + 26) (20, 700))) (z + 27) (22, 300))) (z + 28) (22, 20000)) a0).1 = 13 ∧
  ∀ h244 : Hp, h244 = (pR h235 a0 48 (z + 28)) →
  h0 h244 (z + 29) ∧
  29 + 1 ≤ 34 ∧
  24898 + 200 ≤ 25498 ∧
  ((uS ((uS ((uS ((uS ((uS ((uS ((uS ((uS ((uS ((uS ((uS ((uS ((uS ((uS ((uS ((uS ((uS ((uS ((uS ((uS ((uS ((uS ((uS ((uS ((uS ((uS ((uS ((uS ((uS ((uS S z (20, 600))) (z + 1) (23, 6))) (z + 2) (23, 18))) (z + 3) (23, 24))) (z + 4) (20, 6))) (z + 5) (20, 6))) (z + 6) (20, 6))) (z + 7) (20, 6))) (z + 8) (20, 6))) (z + 9) (20, 6))) (z + 10) (20, 18))) (z + 11) (20, 18))) (z + 12) (20, 18))) (z + 13) (20, 24))) (z + 14) (20, 24))) (z + 15) (20, 24))) (z + 16) (20, 24))) (z + 17) (20, 24))) (z + 18) (20, 24))) (z + 19) (20, 24))) (z + 20) (20, 24))) (z + 21) (20, 72))) (z + 22) (20, 72))) (z + 23) (22, 24))) (z + 24) (20, 1400))) (z + 25) (20, 1400))) (z + 26) (20, 700))) (z + 27) (22, 300))) (z + 28) (22, 20000))) (z + 29) (20, 200)) a0).1 = 13 ∧
  ∀ h253 : Hp, h253 = (pR h244 a0 54 (z + 29)) →
  ∀ h258 : Hp, h258 = (pI h253 a0 56 (-1 : Int32)) →
  h0 h258 (z + 30) ∧
  30 + 1 ≤ 34 ∧
  25098 + 100 ≤ 25498 ∧
  ((uS ((uS ((uS ((uS ((uS ((uS ((uS ((uS ((uS ((uS ((uS ((uS ((uS ((uS ((uS ((uS ((uS ((uS ((uS ((uS ((uS ((uS ((uS ((uS ((uS ((uS ((uS ((uS ((uS ((uS ((uS S z (20, 600))) (z + 1) (23, 6))) (z + 2) (23, 18))) (z + 3) (23, 24))) (z + 4) (20, 6))) (z + 5) (20, 6))) (z + 6) (20, 6))) (z + 7) (20, 6))) (z + 8) (20, 6))) (z + 9) (20, 6))) (z + 10) (20, 18))) (z + 11) (20, 18))) (z + 12) (20, 18))) (z + 13) (20, 24))) (z + 14) (20, 24))) (z + 15) (20, 24))) (z + 16) (20, 24))) (z + 17) (20, 24))) (z + 18) (20, 24))) (z + 19) (20, 24))) (z + 20) (20, 24))) (z + 21) (20, 72))) (z + 22) (20, 72))) (z + 23) (22, 24))) (z + 24) (20, 1400))) (z + 25) (20, 1400))) (z + 26) (20, 700))) (z + 27) (22, 300))) (z + 28) (22, 20000))) (z + 29) (20, 200))) (z + 30) (22, 100)) a0).1 = 13 ∧
  ∀ h266 : Hp, h266 = (pR h258 a0 59 (z + 30)) →
  h0 h266 (z + 31) ∧
  31 + 1 ≤ 34 ∧
  25198 + 100 ≤ 25498 ∧
  ((uS ((uS ((uS ((uS ((uS ((uS ((uS ((uS ((uS ((uS ((uS ((uS ((uS ((uS ((uS ((uS ((uS ((uS ((uS ((uS ((uS ((uS ((uS ((uS ((uS ((uS ((uS ((uS ((uS ((uS ((uS ((uS S z (20, 600))) (z + 1) (23, 6))) (z + 2) (23, 18))) (z + 3) (23, 24))) (z + 4) (20, 6))) (z + 5) (20, 6))) (z + 6) (20, 6))) (z + 7) (20, 6))) (z + 8) (20, 6))) (z + 9) (20, 6))) (z + 10) (20, 18))) (z + 11) (20, 18))) (z + 12) (20, 18))) (z + 13) (20, 24))) (z + 14) (20, 24))) (z + 15) (20, 24))) (z + 16) (20, 24))) (z + 17) (20, 24))) (z + 18) (20, 24))) (z + 19) (20, 24))) (z + 20) (20, 24))) (z + 21) (20, 72))) (z + 22) (20, 72))) (z + 23) (22, 24))) (z + 24) (20, 1400))) (z + 25) (20, 1400))) (z + 26) (20, 700))) (z + 27) (22, 300))) (z + 28) (22, 20000))) (z + 29) (20, 200))) (z + 30) (22, 100))) (z + 31) (22, 100)) a0).1 = 13 ∧
  ∀ h274 : Hp, h274 = (pR h266 a0 60 (z + 31)) →
  h0 h274 (z + 32) ∧
  32 + 1 ≤ 34 ∧
  25298 + 100 ≤ 25498 ∧
  ((uS ((uS ((uS ((uS ((uS ((uS ((uS ((uS ((uS ((uS ((uS ((uS ((uS ((uS ((uS ((uS ((uS ((uS ((uS ((uS ((uS ((uS ((uS ((uS ((uS ((uS ((uS ((uS ((uS ((uS ((uS ((uS ((uS S z (20, 600))) (z + 1) (23, 6))) (z + 2) (23, 18))) (z + 3) (23, 24))) (z + 4) (20, 6))) (z + 5) (20, 6))) (z + 6) (20, 6))) (z + 7) (20, 6))) (z + 8) (20, 6))) (z + 9) (20, 6))) (z + 10) (20, 18))) (z + 11) (20, 18))) (z + 12) (20, 18))) (z + 13) (20, 24))) (z + 14) (20, 24))) (z + 15) (20, 24))) (z + 16) (20, 24))) (z + 17) (20, 24))) (z + 18) (20, 24))) (z + 19) (20, 24))) (z + 20) (20, 24))) (z + 21) (20, 72))) (z + 22) (20, 72))) (z + 23) (22, 24))) (z + 24) (20, 1400))) (z + 25) (20, 1400))) (z + 26) (20, 700))) (z + 27) (22, 300))) (z + 28) (22, 20000))) (z + 29) (20, 200))) (z + 30) (22, 100))) (z + 31) (22, 100))) (z + 32) (20, 100)) a0).1 = 13 ∧
  ∀ h282 : Hp, h282 = (pR h274 a0 62 (z + 32)) →
  h0 h282 (z + 33) ∧
  33 + 1 ≤ 34 ∧
  25398 + 100 ≤ 25498 ∧
  ((uS ((uS ((uS ((uS ((uS ((uS ((uS ((uS ((uS ((uS ((uS ((uS ((uS ((uS ((uS ((uS ((uS ((uS ((uS ((uS ((uS ((uS ((uS ((uS ((uS ((uS ((uS ((uS ((uS ((uS ((uS ((uS ((uS ((uS S z (20, 600))) (z + 1) (23, 6))) (z + 2) (23, 18))) (z + 3) (23, 24))) (z + 4) (20, 6))) (z + 5) (20, 6))) (z + 6) (20, 6))) (z + 7) (20, 6))) (z + 8) (20, 6))) (z + 9) (20, 6))) (z + 10) (20, 18))) (z + 11) (20, 18))) (z + 12) (20, 18))) (z + 13) (20, 24))) (z + 14) (20, 24))) (z + 15) (20, 24))) (z + 16) (20, 24))) (z + 17) (20, 24))) (z + 18) (20, 24))) (z + 19) (20, 24))) (z + 20) (20, 24))) (z + 21) (20, 72))) (z + 22) (20, 72))) (z + 23) (22, 24))) (z + 24) (20, 1400))) (z + 25) (20, 1400))) (z + 26) (20, 700))) (z + 27) (22, 300))) (z + 28) (22, 20000))) (z + 29) (20, 200))) (z + 30) (22, 100))) (z + 31) (22, 100))) (z + 32) (20, 100))) (z + 33) (20, 100)) a0).1 = 13 ∧
  34 ≤ 34 ∧ 25498 ≤ 25498 ∧ Q ((uS ((uS ((uS ((uS ((uS ((uS ((uS ((uS ((uS ((uS ((uS ((uS ((uS ((uS ((uS ((uS ((uS ((uS ((uS ((uS ((uS ((uS ((uS ((uS ((uS ((uS ((uS ((uS ((uS ((uS ((uS ((uS ((uS ((uS S z (20, 600))) (z + 1) (23, 6))) (z + 2) (23, 18))) (z + 3) (23, 24))) (z + 4) (20, 6))) (z + 5) (20, 6))) (z + 6) (20, 6))) (z + 7) (20, 6))) (z + 8) (20, 6))) (z + 9) (20, 6))) (z + 10) (20, 18))) (z + 11) (20, 18))) (z + 12) (20, 18))) (z + 13) (20, 24))) (z + 14) (20, 24))) (z + 15) (20, 24))) (z + 16) (20, 24))) (z + 17) (20, 24))) (z + 18) (20, 24))) (z + 19) (20, 24))) (z + 20) (20, 24))) (z + 21) (20, 72))) (z + 22) (20, 72))) (z + 23) (22, 24))) (z + 24) (20, 1400))) (z + 25) (20, 1400))) (z + 26) (20, 700))) (z + 27) (22, 300))) (z + 28) (22, 20000))) (z + 29) (20, 200))) (z + 30) (22, 100))) (z + 31) (22, 100))) (z + 32) (20, 100))) (z + 33) (20, 100))) (z + 34) ((pR h282 a0 63 (z + 33)))
noncomputable def wX12_inks (S : Sh) (h : Hp) (a0 : Nat) (x1 : Int32) (Q : Hp → Prop) : Prop :=
  (S a0).1 = 13 ∧
  inA S (gR h a0 54) 20 (gI h a0 55) ∧
  ∀ h9 : Hp, h9 = (pI h (gR h a0 54) (ix (gI h a0 55)) x1) →
  Q ((pI h9 a0 55 (((gI h9 a0 55) + (1 : Int32)))))
noncomputable def wX12_inksNumber_b (S : Sh) (Gr : Nat → Hp → Nat → Int32 → (Hp → Prop) → Prop) (h : Hp) (a0 : Nat) (x1 : Int32) (Q : Hp → Prop) : Prop :=
  ((x1 ≤ (9 : Int32) →
   ¬ (10 : Int32) = 0 ∧
   (S a0).1 = 13 ∧
   (wX12_inks S h a0 (((48 : Int32) + (rem32 x1 (10 : Int32)))) (fun h22 =>
    Q h22))) ∧
   (¬ x1 ≤ (9 : Int32) →
    ¬ (10 : Int32) = 0 ∧
    (S a0).1 = 13 ∧
    (Gr 0 h a0 ((x1 / (10 : Int32))) (fun h11 =>
     (wX12_inks S h11 a0 (((48 : Int32) + (rem32 x1 (10 : Int32)))) (fun h22 =>
      Q h22))))))
noncomputable def wX12N (S : Sh) (d : Nat) : Nat → Hp → Nat → Int32 → (Hp → Prop) → Prop := Nat.rec (motive := fun _ => Nat → Hp → Nat → Int32 → (Hp → Prop) → Prop) (fun _ _ _ _ _ => False) (fun _ Gr sel h a0 x1 Q => wX12_inksNumber_b S Gr h a0 x1 Q) d
noncomputable def wX12_inksNumber (S : Sh) (h : Hp) (a0 : Nat) (x1 : Int32) (Q : Hp → Prop) : Prop := wX12N S 6 0 h a0 x1 Q
noncomputable def wX12_letterOf_47b (S : Sh) (x2 : Int32) (Q : Int32 → Hp → Prop) (B47 : Hp → Int64 → Int32 → Prop) (h : Hp) (j4 : Int64) (x6 : Int32) : Prop :=
  ((x6 ≤ x2 →
   ¬ (32 : Int64) = 0 ∧
   Q (((((rem64 j4 (32 : Int64))).toInt32) - (1 : Int32))) h) ∧
   (¬ x6 ≤ x2 →
    ¬ (32 : Int64) = 0 ∧
    (B47 h ((j4 / (32 : Int64))) ((x6 + (-1 : Int32))))))
noncomputable def wX12_letterOf_47 (S : Sh) (x2 : Int32) (Q : Int32 → Hp → Prop) (n : Nat) : Hp → Int64 → Int32 → Prop := Nat.rec (motive := fun _ => Hp → Int64 → Int32 → Prop) (fun _ _ _ => False) (fun _ B47 h j4 x6 => wX12_letterOf_47b S x2 Q B47 h j4 x6) n
noncomputable def wX12_letterOf_j26 (S : Sh) (h : Hp) (j0 : Int64) (x2 : Int32) (x3 : Int32) (Q : Int32 → Hp → Prop) : Prop :=
  (wX12_in S h x2 (0 : Int32) ((x3 - (1 : Int32))) (fun r31 h31 =>
   ((¬ r31 = 0 →
    (∃ n47, wX12_letterOf_47 S x2 Q n47 h31 j0 ((x3 - (1 : Int32))))) ∧
    (r31 = 0 →
     Q (-1 : Int32) h31))))
noncomputable def wX12_letterOf_5b (S : Sh) (j0 : Int64) (x2 : Int32) (Q : Int32 → Hp → Prop) (B5 : Hp → Int32 → Int64 → Prop) (h : Hp) (x3 : Int32) (j4 : Int64) : Prop :=
  (((lg_cmp j4 (0 : Int64)) ≤ 0 →
   (wX12_letterOf_j26 S h j0 x2 x3 Q)) ∧
   (¬ (lg_cmp j4 (0 : Int64)) ≤ 0 →
    ¬ (32 : Int64) = 0 ∧
    (B5 h ((x3 + (1 : Int32))) ((j4 / (32 : Int64))))))
noncomputable def wX12_letterOf_5 (S : Sh) (j0 : Int64) (x2 : Int32) (Q : Int32 → Hp → Prop) (n : Nat) : Hp → Int32 → Int64 → Prop := Nat.rec (motive := fun _ => Hp → Int32 → Int64 → Prop) (fun _ _ _ => False) (fun _ B5 h x3 j4 => wX12_letterOf_5b S j0 x2 Q B5 h x3 j4) n
noncomputable def wX12_letterOf (S : Sh) (h : Hp) (j0 : Int64) (x2 : Int32) (Q : Int32 → Hp → Prop) : Prop :=
  (∃ n5, wX12_letterOf_5 S j0 x2 Q n5 h (0 : Int32) j0)
noncomputable def wX12_inksState_j62 (S : Sh) (B2 : Hp → Int32 → Prop) (h : Hp) (a0 : Nat) (x1 : Int32) (x2 : Int32) (x3 : Int32) (Q : Hp → Prop) : Prop :=
  (S a0).1 = 13 ∧
  (wX12_inks S h a0 (61 : Int32) (fun h65 =>
   (wX12_valueOf S h65 a0 x1 x2 x3 (fun r73 h73 =>
    (wX12_inksNumber S h73 a0 r73 (fun h76 =>
     (wX12_inks S h76 a0 (32 : Int32) (fun h82 =>
      (B2 h82 ((x3 + (1 : Int32))))))))))))
noncomputable def wX12_inksState_15b (S : Sh) (B2 : Hp → Int32 → Prop) (a0 : Nat) (x1 : Int32) (x2 : Int32) (x3 : Int32) (Q : Hp → Prop) (B15 : Hp → Int32 → Prop) (h : Hp) (x4 : Int32) : Prop :=
  (S a0).1 = 13 ∧
  inA S (gR h a0 15) 23 ((((3 : Int32) * x1) + x3)) ∧
  (wX12_letterOf S h ((gJ h (gR h a0 15) (ix ((((3 : Int32) * x1) + x3))))) x4 (fun r27 h27 =>
   ((r27 = (-1 : Int32) →
    (wX12_inksState_j62 S B2 h27 a0 x1 x2 x3 Q)) ∧
    (¬ r27 = (-1 : Int32) →
     inA S (gR h27 a0 15) 23 ((((3 : Int32) * x1) + x3)) ∧
     (wX12_letterOf S h27 ((gJ h27 (gR h27 a0 15) (ix ((((3 : Int32) * x1) + x3))))) x4 (fun r49 h49 =>
      (wX12_inks S h49 a0 (((97 : Int32) + r49)) (fun h53 =>
       (B15 h53 ((x4 + (1 : Int32))))))))))))
noncomputable def wX12_inksState_15 (S : Sh) (B2 : Hp → Int32 → Prop) (a0 : Nat) (x1 : Int32) (x2 : Int32) (x3 : Int32) (Q : Hp → Prop) (n : Nat) : Hp → Int32 → Prop := Nat.rec (motive := fun _ => Hp → Int32 → Prop) (fun _ _ => False) (fun _ B15 h x4 => wX12_inksState_15b S B2 a0 x1 x2 x3 Q B15 h x4) n
noncomputable def wX12_inksState_2b (S : Sh) (a0 : Nat) (x1 : Int32) (x2 : Int32) (Q : Hp → Prop) (B2 : Hp → Int32 → Prop) (h : Hp) (x3 : Int32) : Prop :=
  (S a0).1 = 13 ∧
  inA S (gR h a0 17) 20 x1 ∧
  (((gI h (gR h a0 17) (ix x1)) ≤ x3 →
   Q h) ∧
   (¬ (gI h (gR h a0 17) (ix x1)) ≤ x3 →
    (∃ n15, wX12_inksState_15 S B2 a0 x1 x2 x3 Q n15 h (0 : Int32))))
noncomputable def wX12_inksState_2 (S : Sh) (a0 : Nat) (x1 : Int32) (x2 : Int32) (Q : Hp → Prop) (n : Nat) : Hp → Int32 → Prop := Nat.rec (motive := fun _ => Hp → Int32 → Prop) (fun _ _ => False) (fun _ B2 h x3 => wX12_inksState_2b S a0 x1 x2 Q B2 h x3) n
noncomputable def wX12_inksState (S : Sh) (h : Hp) (a0 : Nat) (x1 : Int32) (x2 : Int32) (Q : Hp → Prop) : Prop :=
  (∃ n2, wX12_inksState_2 S a0 x1 x2 Q n2 h (0 : Int32))
noncomputable def wX12_wordOf_4b (S : Sh) (K : Nat → Nat) (a0 : Nat) (Q : Int64 → Hp → Prop) (B4 : Hp → Int64 → Int32 → Prop) (h : Hp) (j1 : Int64) (x3 : Int32) : Prop :=
  (wJ0_length_8abf5 K h a0 (fun r6 h6 =>
   ((r6 ≤ x3 →
    Q j1 h6) ∧
    (¬ r6 ≤ x3 →
     (wJ0_charAt_5068e K h6 a0 x3 (fun r19 h19 =>
      ∀ jv30 : Int64, jv30 = ((((j1 * (32 : Int64)) + (r19.toInt64)) - (97 : Int64)) + (1 : Int64)) →
      (B4 h19 jv30 ((x3 + (1 : Int32))))))))))
noncomputable def wX12_wordOf_4 (S : Sh) (K : Nat → Nat) (a0 : Nat) (Q : Int64 → Hp → Prop) (n : Nat) : Hp → Int64 → Int32 → Prop := Nat.rec (motive := fun _ => Hp → Int64 → Int32 → Prop) (fun _ _ _ => False) (fun _ B4 h j1 x3 => wX12_wordOf_4b S K a0 Q B4 h j1 x3) n
noncomputable def wX12_wordOf (S : Sh) (K : Nat → Nat) (h : Hp) (a0 : Nat) (Q : Int64 → Hp → Prop) : Prop :=
  (∃ n4, wX12_wordOf_4 S K a0 Q n4 h (0 : Int64) (0 : Int32))
noncomputable def wX12_isWord (S : Sh) (K : Nat → Nat) (h : Hp) (a0 : Nat) (a1 : Nat) (Q : Int32 → Hp → Prop) : Prop :=
  (S a0).1 = 13 ∧
  ((¬ (gI h a0 7) = 0 →
   Q (0 : Int32) h) ∧
   ((gI h a0 7) = 0 →
    ((¬ (gI h a0 9) = (2 : Int32) →
     Q (0 : Int32) h) ∧
     ((gI h a0 9) = (2 : Int32) →
      (wX12_wordOf S K h a1 (fun r20 h20 =>
       ((¬ (lg_cmp (gJ h a0 13) r20) = 0 →
        Q (0 : Int32) h20) ∧
        ((lg_cmp (gJ h a0 13) r20) = 0 →
         Q (1 : Int32) h20))))))))
noncomputable def wX12_isOwn_j154 (S : Sh) (K : Nat → Nat) (h : Hp) (Q : Int32 → Hp → Prop) : Prop :=
  Q (1 : Int32) h
noncomputable def wX12_isOwn_j77 (S : Sh) (K : Nat → Nat) (h : Hp) (a0 : Nat) (s0 : Int32) (Q : Int32 → Hp → Prop) : Prop :=
  ((¬ s0 = 0 →
   (wX12_isOwn_j154 S K h Q)) ∧
   (s0 = 0 →
    (S a0).1 = 13 ∧
    (wX12_isWord S K h a0 (K 10) (fun r85 h85 =>
     ((¬ r85 = 0 →
      (wX12_isOwn_j154 S K h85 Q)) ∧
      (r85 = 0 →
       (wX12_isWord S K h85 a0 (K 11) (fun r94 h94 =>
        ((¬ r94 = 0 →
         (wX12_isOwn_j154 S K h94 Q)) ∧
         (r94 = 0 →
          (wX12_isWord S K h94 a0 (K 12) (fun r103 h103 =>
           ((¬ r103 = 0 →
            (wX12_isOwn_j154 S K h103 Q)) ∧
            (r103 = 0 →
             (wX12_isWord S K h103 a0 (K 13) (fun r112 h112 =>
              ((¬ r112 = 0 →
               (wX12_isOwn_j154 S K h112 Q)) ∧
               (r112 = 0 →
                (wX12_isWord S K h112 a0 (K 14) (fun r121 h121 =>
                 ((¬ r121 = 0 →
                  (wX12_isOwn_j154 S K h121 Q)) ∧
                  (r121 = 0 →
                   (wX12_isWord S K h121 a0 (K 15) (fun r130 h130 =>
                    ((¬ r130 = 0 →
                     (wX12_isOwn_j154 S K h130 Q)) ∧
                     (r130 = 0 →
                      (wX12_isWord S K h130 a0 (K 16) (fun r139 h139 =>
                       ((¬ r139 = 0 →
                        (wX12_isOwn_j154 S K h139 Q)) ∧
                        (r139 = 0 →
                         (wX12_isWord S K h139 a0 (K 17) (fun r148 h148 =>
                          ((r148 = 0 →
                           Q (0 : Int32) h148) ∧
                           (¬ r148 = 0 →
                            (wX12_isOwn_j154 S K h148 Q)))))))))))))))))))))))))))))))))))
noncomputable def wX12_isOwn_j72 (S : Sh) (K : Nat → Nat) (h : Hp) (a0 : Nat) (Q : Int32 → Hp → Prop) : Prop :=
  (wX12_isOwn_j77 S K h a0 (1 : Int32) Q)
noncomputable def wX12_isOwn (S : Sh) (K : Nat → Nat) (h : Hp) (a0 : Nat) (Q : Int32 → Hp → Prop) : Prop :=
  (S a0).1 = 13 ∧
  (wX12_isWord S K h a0 (K 2) (fun r3 h3 =>
   ((¬ r3 = 0 →
    (wX12_isOwn_j72 S K h3 a0 Q)) ∧
    (r3 = 0 →
     (wX12_isWord S K h3 a0 (K 3) (fun r12 h12 =>
      ((¬ r12 = 0 →
       (wX12_isOwn_j72 S K h12 a0 Q)) ∧
       (r12 = 0 →
        (wX12_isWord S K h12 a0 (K 4) (fun r21 h21 =>
         ((¬ r21 = 0 →
          (wX12_isOwn_j72 S K h21 a0 Q)) ∧
          (r21 = 0 →
           (wX12_isWord S K h21 a0 (K 5) (fun r30 h30 =>
            ((¬ r30 = 0 →
             (wX12_isOwn_j72 S K h30 a0 Q)) ∧
             (r30 = 0 →
              (wX12_isWord S K h30 a0 (K 6) (fun r39 h39 =>
               ((¬ r39 = 0 →
                (wX12_isOwn_j72 S K h39 a0 Q)) ∧
                (r39 = 0 →
                 (wX12_isWord S K h39 a0 (K 7) (fun r48 h48 =>
                  ((¬ r48 = 0 →
                   (wX12_isOwn_j72 S K h48 a0 Q)) ∧
                   (r48 = 0 →
                    (wX12_isWord S K h48 a0 (K 8) (fun r57 h57 =>
                     ((¬ r57 = 0 →
                      (wX12_isOwn_j72 S K h57 a0 Q)) ∧
                      (r57 = 0 →
                       (wX12_isWord S K h57 a0 (K 9) (fun r66 h66 =>
                        ((r66 = 0 →
                         (wX12_isOwn_j77 S K h66 a0 (0 : Int32) Q)) ∧
                         (¬ r66 = 0 →
                          (wX12_isOwn_j72 S K h66 a0 Q)))))))))))))))))))))))))))))))))
noncomputable def wX12_isName (S : Sh) (K : Nat → Nat) (h : Hp) (a0 : Nat) (Q : Int32 → Hp → Prop) : Prop :=
  (S a0).1 = 13 ∧
  ((¬ (gI h a0 7) = 0 →
   Q (0 : Int32) h) ∧
   ((gI h a0 7) = 0 →
    ((¬ (gI h a0 9) = (2 : Int32) →
     Q (0 : Int32) h) ∧
     ((gI h a0 9) = (2 : Int32) →
      (wX12_isOwn S K h a0 (fun r16 h16 =>
       ((¬ r16 = 0 →
        Q (0 : Int32) h16) ∧
        (r16 = 0 →
         Q (1 : Int32) h16))))))))
noncomputable def wX12_isSign (S : Sh) (h : Hp) (a0 : Nat) (x1 : Int32) (Q : Int32 → Hp → Prop) : Prop :=
  (S a0).1 = 13 ∧
  ((¬ (gI h a0 7) = 0 →
   Q (0 : Int32) h) ∧
   ((gI h a0 7) = 0 →
    ((¬ (gI h a0 9) = (4 : Int32) →
     Q (0 : Int32) h) ∧
     ((gI h a0 9) = (4 : Int32) →
      ((¬ (gI h a0 11) = x1 →
       Q (0 : Int32) h) ∧
       ((gI h a0 11) = x1 →
        Q (1 : Int32) h))))))
noncomputable def wX12_varOf_3b (S : Sh) (a0 : Nat) (x1 : Int32) (j2 : Int64) (Q : Int32 → Hp → Prop) (B3 : Hp → Int32 → Prop) (h : Hp) (x4 : Int32) : Prop :=
  (S a0).1 = 13 ∧
  inA S (gR h a0 17) 20 x1 ∧
  (((gI h (gR h a0 17) (ix x1)) ≤ x4 →
   Q (-1 : Int32) h) ∧
   (¬ (gI h (gR h a0 17) (ix x1)) ≤ x4 →
    inA S (gR h a0 15) 23 ((((3 : Int32) * x1) + x4)) ∧
    ((¬ (lg_cmp ((gJ h (gR h a0 15) (ix ((((3 : Int32) * x1) + x4))))) j2) = 0 →
     (B3 h ((x4 + (1 : Int32))))) ∧
     ((lg_cmp ((gJ h (gR h a0 15) (ix ((((3 : Int32) * x1) + x4))))) j2) = 0 →
      Q x4 h))))
noncomputable def wX12_varOf_3 (S : Sh) (a0 : Nat) (x1 : Int32) (j2 : Int64) (Q : Int32 → Hp → Prop) (n : Nat) : Hp → Int32 → Prop := Nat.rec (motive := fun _ => Hp → Int32 → Prop) (fun _ _ => False) (fun _ B3 h x4 => wX12_varOf_3b S a0 x1 j2 Q B3 h x4) n
noncomputable def wX12_varOf (S : Sh) (h : Hp) (a0 : Nat) (x1 : Int32) (j2 : Int64) (Q : Int32 → Hp → Prop) : Prop :=
  (∃ n3, wX12_varOf_3 S a0 x1 j2 Q n3 h (0 : Int32))
noncomputable def wX12_isTold_2b (S : Sh) (a0 : Nat) (j1 : Int64) (Q : Int32 → Hp → Prop) (B2 : Hp → Int32 → Prop) (h : Hp) (x3 : Int32) : Prop :=
  (S a0).1 = 13 ∧
  ((((3 : Int32) + (gI h a0 38)) ≤ x3 →
   Q (0 : Int32) h) ∧
   (¬ ((3 : Int32) + (gI h a0 38)) ≤ x3 →
    inA S (gR h a0 14) 23 x3 ∧
    (((lg_cmp ((gJ h (gR h a0 14) (ix x3))) j1) = 0 →
     Q (1 : Int32) h) ∧
     (¬ (lg_cmp ((gJ h (gR h a0 14) (ix x3))) j1) = 0 →
      (wX12_varOf S h a0 x3 j1 (fun r26 h26 =>
       ((¬ r26 = (-1 : Int32) →
        Q (1 : Int32) h26) ∧
        (r26 = (-1 : Int32) →
         (wX12_eventIn S h26 a0 x3 j1 (fun r36 h36 =>
          ((r36 = (-1 : Int32) →
           (B2 h36 ((x3 + (1 : Int32))))) ∧
           (¬ r36 = (-1 : Int32) →
            Q (1 : Int32) h36))))))))))))
noncomputable def wX12_isTold_2 (S : Sh) (a0 : Nat) (j1 : Int64) (Q : Int32 → Hp → Prop) (n : Nat) : Hp → Int32 → Prop := Nat.rec (motive := fun _ => Hp → Int32 → Prop) (fun _ _ => False) (fun _ B2 h x3 => wX12_isTold_2b S a0 j1 Q B2 h x3) n
noncomputable def wX12_isTold (S : Sh) (h : Hp) (a0 : Nat) (j1 : Int64) (Q : Int32 → Hp → Prop) : Prop :=
  (∃ n2, wX12_isTold_2 S a0 j1 Q n2 h (3 : Int32))
noncomputable def wX12_isVar (S : Sh) (h : Hp) (a0 : Nat) (x1 : Int32) (x2 : Int32) (Q : Int32 → Hp → Prop) : Prop :=
  (S a0).1 = 13 ∧
  (wX12_isMachine S h a0 x1 (fun r2 h2 =>
   ((r2 = 0 →
    Q (0 : Int32) h2) ∧
    (¬ r2 = 0 →
     inA S (gR h2 a0 17) 20 x1 ∧
     (wX12_in S h2 x2 (0 : Int32) (((gI h2 (gR h2 a0 17) (ix x1)) - (1 : Int32))) (fun r18 h18 =>
      ((r18 = 0 →
       Q (0 : Int32) h18) ∧
       (¬ r18 = 0 →
        Q (1 : Int32) h18))))))))
noncomputable def wX12_leads_24b (S : Sh) (B2 : Hp → Int32 → Prop) (a0 : Nat) (x1 : Int32) (x2 : Int32) (x3 : Int32) (Q : Int32 → Hp → Prop) (B24 : Hp → Int32 → Prop) (h : Hp) (x4 : Int32) : Prop :=
  (S a0).1 = 13 ∧
  inA S (gR h a0 30) 20 ((((4 : Int32) * x1) + x3)) ∧
  (((gI h (gR h a0 30) (ix ((((4 : Int32) * x1) + x3)))) < x4 →
   (B2 h ((x3 + (1 : Int32))))) ∧
   (¬ (gI h (gR h a0 30) (ix ((((4 : Int32) * x1) + x3)))) < x4 →
    (wX12_goes S h a0 x1 x3 x2 x4 (fun r45 h45 =>
     ((r45 = 0 →
      (B24 h45 ((x4 + (1 : Int32))))) ∧
      (¬ r45 = 0 →
       Q (1 : Int32) h45))))))
noncomputable def wX12_leads_24 (S : Sh) (B2 : Hp → Int32 → Prop) (a0 : Nat) (x1 : Int32) (x2 : Int32) (x3 : Int32) (Q : Int32 → Hp → Prop) (n : Nat) : Hp → Int32 → Prop := Nat.rec (motive := fun _ => Hp → Int32 → Prop) (fun _ _ => False) (fun _ B24 h x4 => wX12_leads_24b S B2 a0 x1 x2 x3 Q B24 h x4) n
noncomputable def wX12_leads_2b (S : Sh) (a0 : Nat) (x1 : Int32) (x2 : Int32) (Q : Int32 → Hp → Prop) (B2 : Hp → Int32 → Prop) (h : Hp) (x3 : Int32) : Prop :=
  (S a0).1 = 13 ∧
  inA S (gR h a0 19) 20 x1 ∧
  (((gI h (gR h a0 19) (ix x1)) ≤ x3 →
   Q (0 : Int32) h) ∧
   (¬ (gI h (gR h a0 19) (ix x1)) ≤ x3 →
    inA S (gR h a0 29) 20 ((((4 : Int32) * x1) + x3)) ∧
    ∀ xv22 : Int32, xv22 = (gI h (gR h a0 29) (ix ((((4 : Int32) * x1) + x3)))) →
    (∃ n24, wX12_leads_24 S B2 a0 x1 x2 x3 Q n24 h xv22)))
noncomputable def wX12_leads_2 (S : Sh) (a0 : Nat) (x1 : Int32) (x2 : Int32) (Q : Int32 → Hp → Prop) (n : Nat) : Hp → Int32 → Prop := Nat.rec (motive := fun _ => Hp → Int32 → Prop) (fun _ _ => False) (fun _ B2 h x3 => wX12_leads_2b S a0 x1 x2 Q B2 h x3) n
noncomputable def wX12_leads (S : Sh) (h : Hp) (a0 : Nat) (x1 : Int32) (x2 : Int32) (Q : Int32 → Hp → Prop) : Prop :=
  (∃ n2, wX12_leads_2 S a0 x1 x2 Q n2 h (0 : Int32))
noncomputable def wX12_letter_j72 (S : Sh) (h : Hp) (x4 : Int32) (Q : Int32 → Hp → Prop) : Prop :=
  ((¬ x4 = (-1 : Int32) →
   Q x4 h) ∧
   (x4 = (-1 : Int32) →
    Q (0 : Int32) h))
noncomputable def wX12_letter_j61 (S : Sh) (h : Hp) (a0 : Nat) (x4 : Int32) (Q : Int32 → Hp → Prop) : Prop :=
  ((¬ x4 = (-1 : Int32) →
   (wX12_letter_j72 S h x4 Q)) ∧
   (x4 = (-1 : Int32) →
    (S a0).1 = 13 ∧
    (wX12_letter_j72 S ((pI h a0 0 (1 : Int32))) x4 Q)))
noncomputable def wX12_letter_j36 (S : Sh) (h : Hp) (a0 : Nat) (x1 : Int32) (x2 : Int32) (x3 : Int32) (x4 : Int32) (Q : Int32 → Hp → Prop) : Prop :=
  (S a0).1 = 13 ∧
  (wX12_isVar S h a0 x1 x2 (fun r39 h39 =>
   ((r39 = 0 →
    (wX12_letter_j61 S h39 a0 x4 Q)) ∧
    (¬ r39 = 0 →
     inA S (gR h39 a0 15) 23 ((((3 : Int32) * x1) + x2)) ∧
     (wX12_letterOf S h39 ((gJ h39 (gR h39 a0 15) (ix ((((3 : Int32) * x1) + x2))))) x3 (fun r56 h56 =>
      (wX12_letter_j61 S h56 a0 r56 Q)))))))
noncomputable def wX12_letter (S : Sh) (h : Hp) (a0 : Nat) (x1 : Int32) (x2 : Int32) (x3 : Int32) (Q : Int32 → Hp → Prop) : Prop :=
  (S a0).1 = 13 ∧
  ∀ h2 : Hp, h2 = (pI h a0 0 (0 : Int32)) →
  ((¬ x2 = (-1 : Int32) →
   (wX12_letter_j36 S h2 a0 x1 x2 x3 (-1 : Int32) Q)) ∧
   (x2 = (-1 : Int32) →
    (wX12_isMachine S h2 a0 x1 (fun r15 h15 =>
     ((r15 = 0 →
      (wX12_letter_j36 S h15 a0 x1 x2 x3 (-1 : Int32) Q)) ∧
      (¬ r15 = 0 →
       inA S (gR h15 a0 14) 23 x1 ∧
       (wX12_letterOf S h15 ((gJ h15 (gR h15 a0 14) (ix x1))) x3 (fun r28 h28 =>
        (wX12_letter_j61 S h28 a0 r28 Q)))))))))
noncomputable def wX12_pairs_23b (S : Sh) (B4 : Hp → Int32 → Int32 → Prop) (a0 : Nat) (x1 : Int32) (x3 : Int32) (Q : Int32 → Hp → Prop) (B23 : Hp → Int32 → Int32 → Prop) (h : Hp) (x2 : Int32) (x4 : Int32) : Prop :=
  (S a0).1 = 13 ∧
  inA S (gR h a0 20) 20 x1 ∧
  (((gI h (gR h a0 20) (ix x1)) ≤ x4 →
   (B4 h x2 ((x3 + (1 : Int32))))) ∧
   (¬ (gI h (gR h a0 20) (ix x1)) ≤ x4 →
    (wX12_pair S h x1 x3 x4 (fun r43 h43 =>
     inA S (gR h a0 48) 22 r43 ∧
     (((gI h43 (gR h a0 48) (ix r43)) = 0 →
      (B23 h43 ((x2 + (0 : Int32))) ((x4 + (1 : Int32))))) ∧
      (¬ (gI h43 (gR h a0 48) (ix r43)) = 0 →
       (B23 h43 ((x2 + (1 : Int32))) ((x4 + (1 : Int32))))))))))
noncomputable def wX12_pairs_23 (S : Sh) (B4 : Hp → Int32 → Int32 → Prop) (a0 : Nat) (x1 : Int32) (x3 : Int32) (Q : Int32 → Hp → Prop) (n : Nat) : Hp → Int32 → Int32 → Prop := Nat.rec (motive := fun _ => Hp → Int32 → Int32 → Prop) (fun _ _ _ => False) (fun _ B23 h x2 x4 => wX12_pairs_23b S B4 a0 x1 x3 Q B23 h x2 x4) n
noncomputable def wX12_pairs_4b (S : Sh) (a0 : Nat) (x1 : Int32) (Q : Int32 → Hp → Prop) (B4 : Hp → Int32 → Int32 → Prop) (h : Hp) (x2 : Int32) (x3 : Int32) : Prop :=
  ((x1 ≤ 0 →
   Q x2 h) ∧
   (¬ x1 ≤ 0 →
    (S a0).1 = 13 ∧
    inA S (gR h a0 20) 20 ((x1 - (1 : Int32))) ∧
    (((gI h (gR h a0 20) (ix ((x1 - (1 : Int32))))) ≤ x3 →
     Q x2 h) ∧
     (¬ (gI h (gR h a0 20) (ix ((x1 - (1 : Int32))))) ≤ x3 →
      (∃ n23, wX12_pairs_23 S B4 a0 x1 x3 Q n23 h x2 (0 : Int32))))))
noncomputable def wX12_pairs_4 (S : Sh) (a0 : Nat) (x1 : Int32) (Q : Int32 → Hp → Prop) (n : Nat) : Hp → Int32 → Int32 → Prop := Nat.rec (motive := fun _ => Hp → Int32 → Int32 → Prop) (fun _ _ _ => False) (fun _ B4 h x2 x3 => wX12_pairs_4b S a0 x1 Q B4 h x2 x3) n
noncomputable def wX12_pairs (S : Sh) (h : Hp) (a0 : Nat) (x1 : Int32) (Q : Int32 → Hp → Prop) : Prop :=
  (∃ n4, wX12_pairs_4 S a0 x1 Q n4 h (0 : Int32) (0 : Int32))
noncomputable def wX12_machine_208b (S : Sh) (a0 : Nat) (x1 : Int32) (Q : Int32 → Hp → Prop) (B208 : Hp → Int32 → Int32 → Prop) (h : Hp) (x3 : Int32) (x4 : Int32) : Prop :=
  (S a0).1 = 13 ∧
  inA S (gR h a0 19) 20 x1 ∧
  (((gI h (gR h a0 19) (ix x1)) ≤ x4 →
   (wX12_good S h a0 x3 (fun r251 h251 =>
    Q r251 h251))) ∧
   (¬ (gI h (gR h a0 19) (ix x1)) ≤ x4 →
    inA S (gR h a0 28) 20 ((((4 : Int32) * x1) + x4)) ∧
    ((¬ (gI h (gR h a0 28) (ix ((((4 : Int32) * x1) + x4)))) = (-2 : Int32) →
     (B208 h ((x3 + (0 : Int32))) ((x4 + (1 : Int32))))) ∧
     ((gI h (gR h a0 28) (ix ((((4 : Int32) * x1) + x4)))) = (-2 : Int32) →
      (B208 h ((x3 + (1 : Int32))) ((x4 + (1 : Int32))))))))
noncomputable def wX12_machine_208 (S : Sh) (a0 : Nat) (x1 : Int32) (Q : Int32 → Hp → Prop) (n : Nat) : Hp → Int32 → Int32 → Prop := Nat.rec (motive := fun _ => Hp → Int32 → Int32 → Prop) (fun _ _ _ => False) (fun _ B208 h x3 x4 => wX12_machine_208b S a0 x1 Q B208 h x3 x4) n
noncomputable def wX12_machine_149b (S : Sh) (a0 : Nat) (x1 : Int32) (Q : Int32 → Hp → Prop) (B149 : Hp → Int32 → Int32 → Prop) (h : Hp) (x3 : Int32) (x4 : Int32) : Prop :=
  (S a0).1 = 13 ∧
  inA S (gR h a0 20) 20 x1 ∧
  (((gI h (gR h a0 20) (ix x1)) ≤ x4 →
   (wX12_good S h a0 x3 (fun r191 h191 =>
    Q r191 h191))) ∧
   (¬ (gI h (gR h a0 20) (ix x1)) ≤ x4 →
    inA S (gR h a0 47) 22 ((((100 : Int32) * x1) + x4)) ∧
    (((gI h (gR h a0 47) (ix ((((100 : Int32) * x1) + x4)))) = 0 →
     (B149 h ((x3 + (0 : Int32))) ((x4 + (1 : Int32))))) ∧
     (¬ (gI h (gR h a0 47) (ix ((((100 : Int32) * x1) + x4)))) = 0 →
      (B149 h ((x3 + (1 : Int32))) ((x4 + (1 : Int32))))))))
noncomputable def wX12_machine_149 (S : Sh) (a0 : Nat) (x1 : Int32) (Q : Int32 → Hp → Prop) (n : Nat) : Hp → Int32 → Int32 → Prop := Nat.rec (motive := fun _ => Hp → Int32 → Int32 → Prop) (fun _ _ _ => False) (fun _ B149 h x3 x4 => wX12_machine_149b S a0 x1 Q B149 h x3 x4) n
noncomputable def wX12_machine (S : Sh) (h : Hp) (a0 : Nat) (x1 : Int32) (x2 : Int32) (Q : Int32 → Hp → Prop) : Prop :=
  (S a0).1 = 13 ∧
  (wX12_isMachine S ((pI h a0 0 (0 : Int32))) a0 x1 (fun r7 h7 =>
   ((¬ r7 = 0 →
    ((x2 = (0 : Int32) →
     inA S (gR h7 a0 17) 20 x1 ∧
     (wX12_good S h7 a0 ((gI h7 (gR h7 a0 17) (ix x1))) (fun r79 h79 =>
      Q r79 h79))) ∧
     (¬ x2 = (0 : Int32) →
      ((x2 = (1 : Int32) →
       inA S (gR h7 a0 18) 20 x1 ∧
       (wX12_good S h7 a0 ((gI h7 (gR h7 a0 18) (ix x1))) (fun r90 h90 =>
        Q r90 h90))) ∧
       (¬ x2 = (1 : Int32) →
        ((x2 = (2 : Int32) →
         inA S (gR h7 a0 19) 20 x1 ∧
         (wX12_good S h7 a0 ((gI h7 (gR h7 a0 19) (ix x1))) (fun r101 h101 =>
          Q r101 h101))) ∧
         (¬ x2 = (2 : Int32) →
          ((x2 = (3 : Int32) →
           inA S (gR h7 a0 20) 20 x1 ∧
           (wX12_good S h7 a0 ((gI h7 (gR h7 a0 20) (ix x1))) (fun r112 h112 =>
            Q r112 h112))) ∧
           (¬ x2 = (3 : Int32) →
            ((x2 = (4 : Int32) →
             (wX12_beginOf S h7 a0 x1 (fun r119 h119 =>
              (wX12_good S h119 a0 r119 (fun r122 h122 =>
               Q r122 h122))))) ∧
             (¬ x2 = (4 : Int32) →
              ((x2 = (5 : Int32) →
               inA S (gR h7 a0 21) 20 x1 ∧
               ((¬ (gI h7 (gR h7 a0 21) (ix x1)) = (-1 : Int32) →
                (wX12_good S h7 a0 (1 : Int32) (fun r142 h142 =>
                 Q r142 h142))) ∧
                ((gI h7 (gR h7 a0 21) (ix x1)) = (-1 : Int32) →
                 (wX12_good S h7 a0 (0 : Int32) (fun r142 h142 =>
                  Q r142 h142))))) ∧
               (¬ x2 = (5 : Int32) →
                ((x2 = (6 : Int32) →
                 (∃ n149, wX12_machine_149 S a0 x1 Q n149 h7 (0 : Int32) (0 : Int32))) ∧
                 (¬ x2 = (6 : Int32) →
                  ((x2 = (7 : Int32) →
                   (wX12_pairs S h7 a0 x1 (fun r198 h198 =>
                    (wX12_good S h198 a0 r198 (fun r201 h201 =>
                     Q r201 h201))))) ∧
                   (¬ x2 = (7 : Int32) →
                    ((x2 = (8 : Int32) →
                     (∃ n208, wX12_machine_208 S a0 x1 Q n208 h7 (0 : Int32) (0 : Int32))) ∧
                     (¬ x2 = (8 : Int32) →
                      (wX12_refused S h7 a0 (1 : Int32) (fun r257 h257 =>
                       Q r257 h257))))))))))))))))))))) ∧
    (r7 = 0 →
     (wX12_refused S h7 a0 (1 : Int32) (fun r15 h15 =>
      Q r15 h15))))))
noncomputable def wX12_passesSign (S : Sh) (h : Hp) (a0 : Nat) (x1 : Int32) (Q : Int32 → Hp → Prop) : Prop :=
  (S a0).1 = 13 ∧
  (wX12_isSign S h a0 x1 (fun r2 h2 =>
   ((¬ r2 = 0 →
    (wX12_goOn S h2 a0 (fun h11 =>
     Q (1 : Int32) h11))) ∧
    (r2 = 0 →
     Q (0 : Int32) h2))))
noncomputable def wX12_needs (S : Sh) (K : Nat → Nat) (h : Hp) (a0 : Nat) (a1 : Nat) (Q : Hp → Prop) : Prop :=
  (S a0).1 = 13 ∧
  (wX12_isWord S K h a0 a1 (fun r2 h2 =>
   ((¬ r2 = 0 →
    (wX12_goOn S h2 a0 (fun h14 =>
     Q h14))) ∧
    (r2 = 0 →
     (wX12_flaw S h2 a0 (1 : Int32) (fun h10 =>
      (wX12_goOn S h10 a0 (fun h14 =>
       Q h14))))))))
noncomputable def wX12_passes (S : Sh) (K : Nat → Nat) (h : Hp) (a0 : Nat) (a1 : Nat) (Q : Int32 → Hp → Prop) : Prop :=
  (S a0).1 = 13 ∧
  (wX12_isWord S K h a0 a1 (fun r2 h2 =>
   ((¬ r2 = 0 →
    (wX12_goOn S h2 a0 (fun h11 =>
     Q (1 : Int32) h11))) ∧
    (r2 = 0 →
     Q (0 : Int32) h2))))
noncomputable def wX12_needsSign (S : Sh) (h : Hp) (a0 : Nat) (x1 : Int32) (Q : Hp → Prop) : Prop :=
  (S a0).1 = 13 ∧
  (wX12_isSign S h a0 x1 (fun r2 h2 =>
   ((¬ r2 = 0 →
    (wX12_goOn S h2 a0 (fun h14 =>
     Q h14))) ∧
    (r2 = 0 →
     (wX12_flaw S h2 a0 (1 : Int32) (fun h10 =>
      (wX12_goOn S h10 a0 (fun h14 =>
       Q h14))))))))
noncomputable def wX12_opens (S : Sh) (h : Hp) (a0 : Nat) (Q : Hp → Prop) : Prop :=
  (S a0).1 = 13 ∧
  ((¬ (gI h a0 43) = (8 : Int32) →
   Q ((pI h a0 43 (((gI h a0 43) + (1 : Int32)))))) ∧
   ((gI h a0 43) = (8 : Int32) →
    (wX12_flaw S h a0 (4 : Int32) (fun h11 =>
     Q ((pI h11 a0 43 (((gI h11 a0 43) + (1 : Int32)))))))))
noncomputable def wX12_readTest_4b (S : Sh) (K : Nat → Nat) (Gr : Nat → Hp → Nat → (Hp → Prop) → Prop) (a0 : Nat) (Q : Hp → Prop) (B4 : Hp → Prop) (h : Hp) : Prop :=
  (S a0).1 = 13 ∧
  (wX12_passes S K h a0 (K 14) (fun r7 h7 =>
   ((r7 = 0 →
    Q h7) ∧
    (¬ r7 = 0 →
     (Gr 1 h7 a0 (fun h14 =>
      (wX12_emits S h14 a0 (12 : Int32) (0 : Int32) (fun h21 =>
       (B4 h21)))))))))
noncomputable def wX12_readTest_4 (S : Sh) (K : Nat → Nat) (Gr : Nat → Hp → Nat → (Hp → Prop) → Prop) (a0 : Nat) (Q : Hp → Prop) (n : Nat) : Hp → Prop := Nat.rec (motive := fun _ => Hp → Prop) (fun _ => False) (fun _ B4 h => wX12_readTest_4b S K Gr a0 Q B4 h) n
noncomputable def wX12_readTest_b (S : Sh) (K : Nat → Nat) (Gr : Nat → Hp → Nat → (Hp → Prop) → Prop) (h : Hp) (a0 : Nat) (Q : Hp → Prop) : Prop :=
  (S a0).1 = 13 ∧
  (Gr 1 h a0 (fun h1 =>
   (∃ n4, wX12_readTest_4 S K Gr a0 Q n4 h1)))
noncomputable def wX12_readBoth_4b (S : Sh) (K : Nat → Nat) (Gr : Nat → Hp → Nat → (Hp → Prop) → Prop) (a0 : Nat) (Q : Hp → Prop) (B4 : Hp → Prop) (h : Hp) : Prop :=
  (S a0).1 = 13 ∧
  (wX12_passes S K h a0 (K 15) (fun r7 h7 =>
   ((r7 = 0 →
    Q h7) ∧
    (¬ r7 = 0 →
     (Gr 2 h7 a0 (fun h14 =>
      (wX12_emits S h14 a0 (11 : Int32) (0 : Int32) (fun h21 =>
       (B4 h21)))))))))
noncomputable def wX12_readBoth_4 (S : Sh) (K : Nat → Nat) (Gr : Nat → Hp → Nat → (Hp → Prop) → Prop) (a0 : Nat) (Q : Hp → Prop) (n : Nat) : Hp → Prop := Nat.rec (motive := fun _ => Hp → Prop) (fun _ => False) (fun _ B4 h => wX12_readBoth_4b S K Gr a0 Q B4 h) n
noncomputable def wX12_readBoth_b (S : Sh) (K : Nat → Nat) (Gr : Nat → Hp → Nat → (Hp → Prop) → Prop) (h : Hp) (a0 : Nat) (Q : Hp → Prop) : Prop :=
  (S a0).1 = 13 ∧
  (Gr 2 h a0 (fun h1 =>
   (∃ n4, wX12_readBoth_4 S K Gr a0 Q n4 h1)))
noncomputable def wX12_readFact_j119 (S : Sh) (K : Nat → Nat) (Gr : Nat → Hp → Nat → (Hp → Prop) → Prop) (h : Hp) (a0 : Nat) (s0 : Int32) (Q : Hp → Prop) : Prop :=
  ((¬ s0 = (9 : Int32) →
   (S a0).1 = 13 ∧
   (wX12_goOn S h a0 (fun h141 =>
    (Gr 3 h141 a0 (fun h145 =>
     (wX12_emits S h145 a0 s0 (0 : Int32) (fun h151 =>
      Q h151))))))) ∧
   (s0 = (9 : Int32) →
    (S a0).1 = 13 ∧
    (wX12_isSign S h a0 (61 : Int32) (fun r129 h129 =>
     ((¬ r129 = 0 →
      (wX12_goOn S h129 a0 (fun h141 =>
       (Gr 3 h141 a0 (fun h145 =>
        (wX12_emits S h145 a0 s0 (0 : Int32) (fun h151 =>
         Q h151))))))) ∧
      (r129 = 0 →
       (wX12_flaw S h129 a0 (1 : Int32) (fun h137 =>
        (wX12_goOn S h137 a0 (fun h141 =>
         (Gr 3 h141 a0 (fun h145 =>
          (wX12_emits S h145 a0 s0 (0 : Int32) (fun h151 =>
           Q h151))))))))))))))
noncomputable def wX12_readFact_b (S : Sh) (K : Nat → Nat) (Gr : Nat → Hp → Nat → (Hp → Prop) → Prop) (h : Hp) (a0 : Nat) (Q : Hp → Prop) : Prop :=
  (S a0).1 = 13 ∧
  (((gI h a0 7) ≤ 0 →
   (wX12_isWord S K h a0 (K 16) (fun r11 h11 =>
    ((r11 = 0 →
     (wX12_isSign S h11 a0 (40 : Int32) (fun r50 h50 =>
      ((r50 = 0 →
       (Gr 3 h50 a0 (fun h86 =>
        (wX12_isSign S h86 a0 (60 : Int32) (fun r92 h92 =>
         ((r92 = 0 →
          (wX12_isSign S h92 a0 (62 : Int32) (fun r106 h106 =>
           ((r106 = 0 →
            (wX12_readFact_j119 S K Gr h106 a0 (9 : Int32) Q)) ∧
            (¬ r106 = 0 →
             (wX12_readFact_j119 S K Gr h106 a0 (8 : Int32) Q)))))) ∧
          (¬ r92 = 0 →
           (wX12_readFact_j119 S K Gr h92 a0 (7 : Int32) Q)))))))) ∧
       (¬ r50 = 0 →
        (wX12_opens S h50 a0 (fun h57 =>
         (wX12_goOn S h57 a0 (fun h61 =>
          (Gr 0 h61 a0 (fun h65 =>
           (wX12_needsSign S h65 a0 (41 : Int32) (fun h71 =>
            Q ((pI h71 a0 43 (((gI h71 a0 43) - (1 : Int32)))))))))))))))))) ∧
     (¬ r11 = 0 →
      (wX12_opens S h11 a0 (fun h18 =>
       (wX12_goOn S h18 a0 (fun h22 =>
        (Gr 2 h22 a0 (fun h26 =>
         (wX12_emits S h26 a0 (10 : Int32) (0 : Int32) (fun h33 =>
          Q ((pI h33 a0 43 (((gI h33 a0 43) - (1 : Int32)))))))))))))))))) ∧
   (¬ (gI h a0 7) ≤ 0 →
    Q h))
noncomputable def wX12_readSum_j36 (S : Sh) (K : Nat → Nat) (Gr : Nat → Hp → Nat → (Hp → Prop) → Prop) (B4 : Hp → Prop) (h : Hp) (a0 : Nat) (s0 : Int32) (Q : Hp → Prop) : Prop :=
  (S a0).1 = 13 ∧
  (wX12_goOn S h a0 (fun h38 =>
   (Gr 4 h38 a0 (fun h42 =>
    (wX12_emits S h42 a0 s0 (0 : Int32) (fun h48 =>
     (B4 h48)))))))
noncomputable def wX12_readSum_j22 (S : Sh) (K : Nat → Nat) (Gr : Nat → Hp → Nat → (Hp → Prop) → Prop) (B4 : Hp → Prop) (h : Hp) (a0 : Nat) (Q : Hp → Prop) : Prop :=
  (S a0).1 = 13 ∧
  ((¬ (gI h a0 11) = (43 : Int32) →
   (wX12_readSum_j36 S K Gr B4 h a0 (5 : Int32) Q)) ∧
   ((gI h a0 11) = (43 : Int32) →
    (wX12_readSum_j36 S K Gr B4 h a0 (4 : Int32) Q)))
noncomputable def wX12_readSum_4b (S : Sh) (K : Nat → Nat) (Gr : Nat → Hp → Nat → (Hp → Prop) → Prop) (a0 : Nat) (Q : Hp → Prop) (B4 : Hp → Prop) (h : Hp) : Prop :=
  (S a0).1 = 13 ∧
  (wX12_isSign S h a0 (43 : Int32) (fun r7 h7 =>
   ((¬ r7 = 0 →
    (wX12_readSum_j22 S K Gr B4 h7 a0 Q)) ∧
    (r7 = 0 →
     (wX12_isSign S h7 a0 (45 : Int32) (fun r16 h16 =>
      ((r16 = 0 →
       Q h16) ∧
       (¬ r16 = 0 →
        (wX12_readSum_j22 S K Gr B4 h16 a0 Q)))))))))
noncomputable def wX12_readSum_4 (S : Sh) (K : Nat → Nat) (Gr : Nat → Hp → Nat → (Hp → Prop) → Prop) (a0 : Nat) (Q : Hp → Prop) (n : Nat) : Hp → Prop := Nat.rec (motive := fun _ => Hp → Prop) (fun _ => False) (fun _ B4 h => wX12_readSum_4b S K Gr a0 Q B4 h) n
noncomputable def wX12_readSum_b (S : Sh) (K : Nat → Nat) (Gr : Nat → Hp → Nat → (Hp → Prop) → Prop) (h : Hp) (a0 : Nat) (Q : Hp → Prop) : Prop :=
  (S a0).1 = 13 ∧
  (Gr 4 h a0 (fun h1 =>
   (∃ n4, wX12_readSum_4 S K Gr a0 Q n4 h1)))
noncomputable def wX12_readTerm_4b (S : Sh) (K : Nat → Nat) (Gr : Nat → Hp → Nat → (Hp → Prop) → Prop) (a0 : Nat) (Q : Hp → Prop) (B4 : Hp → Prop) (h : Hp) : Prop :=
  (S a0).1 = 13 ∧
  (wX12_passesSign S h a0 (42 : Int32) (fun r7 h7 =>
   ((r7 = 0 →
    Q h7) ∧
    (¬ r7 = 0 →
     (Gr 5 h7 a0 (fun h14 =>
      (wX12_emits S h14 a0 (6 : Int32) (0 : Int32) (fun h21 =>
       (B4 h21)))))))))
noncomputable def wX12_readTerm_4 (S : Sh) (K : Nat → Nat) (Gr : Nat → Hp → Nat → (Hp → Prop) → Prop) (a0 : Nat) (Q : Hp → Prop) (n : Nat) : Hp → Prop := Nat.rec (motive := fun _ => Hp → Prop) (fun _ => False) (fun _ B4 h => wX12_readTerm_4b S K Gr a0 Q B4 h) n
noncomputable def wX12_readTerm_b (S : Sh) (K : Nat → Nat) (Gr : Nat → Hp → Nat → (Hp → Prop) → Prop) (h : Hp) (a0 : Nat) (Q : Hp → Prop) : Prop :=
  (S a0).1 = 13 ∧
  (Gr 5 h a0 (fun h1 =>
   (∃ n4, wX12_readTerm_4 S K Gr a0 Q n4 h1)))
noncomputable def wX12_readAtom_j273 (S : Sh) (K : Nat → Nat) (Gr : Nat → Hp → Nat → (Hp → Prop) → Prop) (h : Hp) (a0 : Nat) (x3 : Int32) (x4 : Int32) (s0 : Nat) (s1 : Int32) (Q : Hp → Prop) : Prop :=
  ((x3 = (-1 : Int32) →
   (S s0).1 = 13 ∧
   (wX12_emits S h s0 s1 x4 (fun h284 =>
    (S a0).1 = 13 ∧
    (wX12_goOn S h284 a0 (fun h288 =>
     Q h288))))) ∧
   (¬ x3 = (-1 : Int32) →
    (S s0).1 = 13 ∧
    (wX12_emits S h s0 s1 x3 (fun h284 =>
     (S a0).1 = 13 ∧
     (wX12_goOn S h284 a0 (fun h288 =>
      Q h288))))))
noncomputable def wX12_readAtom_j169 (S : Sh) (K : Nat → Nat) (Gr : Nat → Hp → Nat → (Hp → Prop) → Prop) (h : Hp) (a0 : Nat) (x3 : Int32) (x4 : Int32) (Q : Hp → Prop) : Prop :=
  (S a0).1 = 13 ∧
  (wX12_isSign S ((pI h a0 42 (((gI h a0 42) + (1 : Int32))))) a0 (91 : Int32) (fun r182 h182 =>
   ((r182 = 0 →
    ((¬ (gI h182 a0 9) = (3 : Int32) →
     (wX12_isWord S K h182 a0 (K 17) (fun r240 h240 =>
      ((r240 = 0 →
       ((¬ (gI h240 a0 7) = 0 →
        (wX12_goOn S h240 a0 (fun h288 =>
         Q h288))) ∧
        ((gI h240 a0 7) = 0 →
         ((x3 = (-1 : Int32) →
          (wX12_readAtom_j273 S K Gr h240 a0 x3 x4 a0 (2 : Int32) Q)) ∧
          (¬ x3 = (-1 : Int32) →
           (wX12_readAtom_j273 S K Gr h240 a0 x3 x4 a0 (1 : Int32) Q)))))) ∧
       (¬ r240 = 0 →
        (wX12_emits S h240 a0 (3 : Int32) (0 : Int32) (fun h249 =>
         (wX12_goOn S h249 a0 (fun h288 =>
          Q h288))))))))) ∧
     ((gI h182 a0 9) = (3 : Int32) →
      (wX12_emits S h182 a0 (0 : Int32) (gI h182 a0 12) (fun h231 =>
       (wX12_goOn S h231 a0 (fun h288 =>
        Q h288))))))) ∧
    (¬ r182 = 0 →
     (wX12_opens S h182 a0 (fun h189 =>
      (wX12_goOn S h189 a0 (fun h193 =>
       (Gr 3 h193 a0 (fun h197 =>
        (wX12_needsSign S h197 a0 (93 : Int32) (fun h203 =>
         Q ((pI h203 a0 43 (((gI h203 a0 43) - (1 : Int32)))))))))))))))))
noncomputable def wX12_readAtom_j155 (S : Sh) (K : Nat → Nat) (Gr : Nat → Hp → Nat → (Hp → Prop) → Prop) (h : Hp) (a0 : Nat) (x3 : Int32) (x4 : Int32) (Q : Hp → Prop) : Prop :=
  (S a0).1 = 13 ∧
  ((¬ (gI h a0 42) = (30 : Int32) →
   (wX12_readAtom_j169 S K Gr h a0 x3 x4 Q)) ∧
   ((gI h a0 42) = (30 : Int32) →
    (wX12_flaw S h a0 (4 : Int32) (fun h166 =>
     (wX12_readAtom_j169 S K Gr h166 a0 x3 x4 Q)))))
noncomputable def wX12_readAtom_j130 (S : Sh) (K : Nat → Nat) (Gr : Nat → Hp → Nat → (Hp → Prop) → Prop) (h : Hp) (a0 : Nat) (x3 : Int32) (s0 : Int32) (Q : Hp → Prop) : Prop :=
  (S a0).1 = 13 ∧
  (wX12_isName S K h a0 (fun r133 h133 =>
   ((r133 = 0 →
    (wX12_readAtom_j155 S K Gr h133 a0 x3 s0 Q)) ∧
    (¬ r133 = 0 →
     ((¬ x3 = (-1 : Int32) →
      (wX12_readAtom_j155 S K Gr h133 a0 x3 s0 Q)) ∧
      (x3 = (-1 : Int32) →
       ((¬ s0 = (-1 : Int32) →
        (wX12_readAtom_j155 S K Gr h133 a0 x3 s0 Q)) ∧
        (s0 = (-1 : Int32) →
         (wX12_flaw S h133 a0 (3 : Int32) (fun h152 =>
          (wX12_readAtom_j155 S K Gr h152 a0 x3 s0 Q)))))))))))
noncomputable def wX12_readAtom_j129 (S : Sh) (K : Nat → Nat) (Gr : Nat → Hp → Nat → (Hp → Prop) → Prop) (h : Hp) (a0 : Nat) (x3 : Int32) (Q : Hp → Prop) : Prop :=
  (wX12_readAtom_j130 S K Gr h a0 x3 (-1 : Int32) Q)
noncomputable def wX12_readAtom_j92 (S : Sh) (K : Nat → Nat) (Gr : Nat → Hp → Nat → (Hp → Prop) → Prop) (h : Hp) (a0 : Nat) (x2 : Int32) (s0 : Int32) (Q : Hp → Prop) : Prop :=
  (S a0).1 = 13 ∧
  (wX12_isName S K h a0 (fun r94 h94 =>
   ((r94 = 0 →
    (wX12_readAtom_j129 S K Gr h94 a0 s0 Q)) ∧
    (¬ r94 = 0 →
     (((gI h94 a0 44) = 0 →
      (wX12_readAtom_j129 S K Gr h94 a0 s0 Q)) ∧
      (¬ (gI h94 a0 44) = 0 →
       (((gI h94 a0 38) ≤ (1 : Int32) →
        (wX12_readAtom_j129 S K Gr h94 a0 s0 Q)) ∧
        (¬ (gI h94 a0 38) ≤ (1 : Int32) →
         (wX12_varOf S h94 a0 ((x2 - (1 : Int32))) (gJ h94 a0 13) (fun r123 h123 =>
          (wX12_readAtom_j130 S K Gr h123 a0 s0 r123 Q)))))))))))
noncomputable def wX12_readAtom_j63 (S : Sh) (K : Nat → Nat) (Gr : Nat → Hp → Nat → (Hp → Prop) → Prop) (h : Hp) (a0 : Nat) (Q : Hp → Prop) : Prop :=
  (S a0).1 = 13 ∧
  ∀ xv71 : Int32, xv71 = (((3 : Int32) + (gI h a0 38)) - (1 : Int32)) →
  (wX12_isName S K h a0 (fun r73 h73 =>
   ((r73 = 0 →
    (wX12_readAtom_j92 S K Gr h73 a0 xv71 (-1 : Int32) Q)) ∧
    (¬ r73 = 0 →
     (wX12_varOf S h73 a0 xv71 (gJ h73 a0 13) (fun r85 h85 =>
      (wX12_readAtom_j92 S K Gr h85 a0 xv71 r85 Q)))))))
noncomputable def wX12_readAtom_j53 (S : Sh) (K : Nat → Nat) (Gr : Nat → Hp → Nat → (Hp → Prop) → Prop) (h : Hp) (a0 : Nat) (s0 : Int32) (Q : Hp → Prop) : Prop :=
  ((¬ s0 = 0 →
   (wX12_readAtom_j63 S K Gr h a0 Q)) ∧
   (s0 = 0 →
    (S a0).1 = 13 ∧
    (wX12_flaw S h a0 (1 : Int32) (fun h60 =>
     (wX12_readAtom_j63 S K Gr h60 a0 Q)))))
noncomputable def wX12_readAtom_j48 (S : Sh) (K : Nat → Nat) (Gr : Nat → Hp → Nat → (Hp → Prop) → Prop) (h : Hp) (a0 : Nat) (Q : Hp → Prop) : Prop :=
  (wX12_readAtom_j53 S K Gr h a0 (1 : Int32) Q)
noncomputable def wX12_readAtom_j39 (S : Sh) (K : Nat → Nat) (Gr : Nat → Hp → Nat → (Hp → Prop) → Prop) (h : Hp) (a0 : Nat) (Q : Hp → Prop) : Prop :=
  (S a0).1 = 13 ∧
  (wX12_isSign S h a0 (91 : Int32) (fun r42 h42 =>
   ((r42 = 0 →
    (wX12_readAtom_j53 S K Gr h42 a0 (0 : Int32) Q)) ∧
    (¬ r42 = 0 →
     (wX12_readAtom_j48 S K Gr h42 a0 Q)))))
noncomputable def wX12_readAtom_b (S : Sh) (K : Nat → Nat) (Gr : Nat → Hp → Nat → (Hp → Prop) → Prop) (h : Hp) (a0 : Nat) (Q : Hp → Prop) : Prop :=
  (S a0).1 = 13 ∧
  (((gI h a0 7) ≤ 0 →
   (((gI h a0 9) = (3 : Int32) →
    (wX12_readAtom_j48 S K Gr h a0 Q)) ∧
    (¬ (gI h a0 9) = (3 : Int32) →
     (wX12_isName S K h a0 (fun r17 h17 =>
      ((¬ r17 = 0 →
       (wX12_readAtom_j48 S K Gr h17 a0 Q)) ∧
       (r17 = 0 →
        (wX12_isWord S K h17 a0 (K 17) (fun r26 h26 =>
         ((r26 = 0 →
          (wX12_readAtom_j39 S K Gr h26 a0 Q)) ∧
          (¬ r26 = 0 →
           ((¬ (gI h26 a0 45) = 0 →
            (wX12_readAtom_j48 S K Gr h26 a0 Q)) ∧
            ((gI h26 a0 45) = 0 →
             (wX12_readAtom_j39 S K Gr h26 a0 Q)))))))))))))) ∧
   (¬ (gI h a0 7) ≤ 0 →
    Q h))
noncomputable def wX12R (S : Sh) (K : Nat → Nat) (d : Nat) : Nat → Hp → Nat → (Hp → Prop) → Prop := Nat.rec (motive := fun _ => Nat → Hp → Nat → (Hp → Prop) → Prop) (fun _ _ _ _ => False) (fun _ Gr sel h a0 Q => if sel = 0 then wX12_readTest_b S K Gr h a0 Q else if sel = 1 then wX12_readBoth_b S K Gr h a0 Q else if sel = 2 then wX12_readFact_b S K Gr h a0 Q else if sel = 3 then wX12_readSum_b S K Gr h a0 Q else if sel = 4 then wX12_readTerm_b S K Gr h a0 Q else wX12_readAtom_b S K Gr h a0 Q) d
noncomputable def wX12_readTest (S : Sh) (K : Nat → Nat) (h : Hp) (a0 : Nat) (Q : Hp → Prop) : Prop := wX12R S K 60 0 h a0 Q
noncomputable def wX12_readBoth (S : Sh) (K : Nat → Nat) (h : Hp) (a0 : Nat) (Q : Hp → Prop) : Prop := wX12R S K 60 1 h a0 Q
noncomputable def wX12_readFact (S : Sh) (K : Nat → Nat) (h : Hp) (a0 : Nat) (Q : Hp → Prop) : Prop := wX12R S K 60 2 h a0 Q
noncomputable def wX12_readSum (S : Sh) (K : Nat → Nat) (h : Hp) (a0 : Nat) (Q : Hp → Prop) : Prop := wX12R S K 60 3 h a0 Q
noncomputable def wX12_readTerm (S : Sh) (K : Nat → Nat) (h : Hp) (a0 : Nat) (Q : Hp → Prop) : Prop := wX12R S K 60 4 h a0 Q
noncomputable def wX12_readAtom (S : Sh) (K : Nat → Nat) (h : Hp) (a0 : Nat) (Q : Hp → Prop) : Prop := wX12R S K 60 5 h a0 Q
noncomputable def wX12_readGiven_j68 (S : Sh) (K : Nat → Nat) (h : Hp) (a0 : Nat) (x2 : Int32) (x3 : Int32) (Q : Hp → Prop) : Prop :=
  (S a0).1 = 13 ∧
  (wX12_goOn S h a0 (fun h69 =>
   (wX12_needsSign S h69 a0 (61 : Int32) (fun h75 =>
    (wX12_begins S h75 a0 (0 : Int32) (1 : Int32) (fun h81 =>
     (wX12_readSum S K h81 a0 (fun h91 =>
      (((gI h91 a0 7) ≤ 0 →
       inA S (gR h91 a0 33) 20 x2 ∧
       ∀ h113 : Hp, h113 = (pI h91 (gR h91 a0 33) (ix x2) (((gI h91 (gR h91 a0 33) (ix x2)) ||| (shl32 (1 : Int32) x3)))) →
       inA S (gR h113 a0 34) 20 ((((3 : Int32) * x2) + x3)) ∧
       ∀ h125 : Hp, h125 = (pI h113 (gR h113 a0 34) (ix ((((3 : Int32) * x2) + x3))) (gI h81 a0 41)) →
       inA S (gR h125 a0 35) 20 ((((3 : Int32) * x2) + x3)) ∧
       Q ((pI h125 (gR h125 a0 35) (ix ((((3 : Int32) * x2) + x3))) (gI h125 a0 41)))) ∧
       (¬ (gI h91 a0 7) ≤ 0 →
        Q h91))))))))))
noncomputable def wX12_readGiven_j63 (S : Sh) (K : Nat → Nat) (h : Hp) (a0 : Nat) (x2 : Int32) (x3 : Int32) (Q : Hp → Prop) : Prop :=
  (S a0).1 = 13 ∧
  (wX12_flaw S h a0 (3 : Int32) (fun h65 =>
   (wX12_readGiven_j68 S K h65 a0 x2 x3 Q)))
noncomputable def wX12_readGiven_j28 (S : Sh) (K : Nat → Nat) (h : Hp) (a0 : Nat) (x2 : Int32) (s0 : Int32) (Q : Hp → Prop) : Prop :=
  (S a0).1 = 13 ∧
  (wX12_isName S K h a0 (fun r30 h30 =>
   ((¬ r30 = 0 →
    ((s0 = (-1 : Int32) →
     (wX12_readGiven_j63 S K h30 a0 x2 s0 Q)) ∧
     (¬ s0 = (-1 : Int32) →
      inA S (gR h30 a0 33) 20 x2 ∧
      ((¬ ((shr32 ((gI h30 (gR h30 a0 33) (ix x2))) s0) &&& (1 : Int32)) = (1 : Int32) →
       (wX12_readGiven_j68 S K h30 a0 x2 s0 Q)) ∧
       (((shr32 ((gI h30 (gR h30 a0 33) (ix x2))) s0) &&& (1 : Int32)) = (1 : Int32) →
        (wX12_readGiven_j63 S K h30 a0 x2 s0 Q)))))) ∧
    (r30 = 0 →
     (wX12_flaw S h30 a0 (1 : Int32) (fun h38 =>
      (wX12_readGiven_j68 S K h38 a0 x2 s0 Q)))))))
noncomputable def wX12_readGiven (S : Sh) (K : Nat → Nat) (h : Hp) (a0 : Nat) (x1 : Int32) (x2 : Int32) (Q : Hp → Prop) : Prop :=
  (S a0).1 = 13 ∧
  (((gI h a0 7) ≤ 0 →
   (wX12_isName S K h a0 (fun r9 h9 =>
    ((r9 = 0 →
     (wX12_readGiven_j28 S K h9 a0 x2 (-1 : Int32) Q)) ∧
     (¬ r9 = 0 →
      (wX12_varOf S h9 a0 x1 (gJ h9 a0 13) (fun r21 h21 =>
       (wX12_readGiven_j28 S K h21 a0 x2 r21 Q)))))))) ∧
   (¬ (gI h a0 7) ≤ 0 →
    Q h))
noncomputable def wX12_readNew (S : Sh) (K : Nat → Nat) (h : Hp) (a0 : Nat) (Q : Int64 → Hp → Prop) : Prop :=
  (S a0).1 = 13 ∧
  (wX12_isName S K h a0 (fun r1 h1 =>
   ((¬ r1 = 0 →
    (wX12_isTold S h1 a0 (gJ h1 a0 13) (fun r20 h20 =>
     ((r20 = 0 →
      (wX12_goOn S h20 a0 (fun h37 =>
       Q (gJ h20 a0 13) h37))) ∧
      (¬ r20 = 0 →
       (wX12_flaw S h20 a0 (3 : Int32) (fun h28 =>
        (wX12_goOn S h28 a0 (fun h37 =>
         Q (gJ h28 a0 13) h37))))))))) ∧
    (r1 = 0 →
     (wX12_flaw S h1 a0 (1 : Int32) (fun h9 =>
      (wX12_goOn S h9 a0 (fun h37 =>
       Q (gJ h9 a0 13) h37))))))))
noncomputable def wX12_readOf_j41 (S : Sh) (K : Nat → Nat) (h : Hp) (a0 : Nat) (x2 : Int32) (Q : Int32 → Hp → Prop) : Prop :=
  (S a0).1 = 13 ∧
  ((¬ (gI h a0 7) = 0 →
   (wX12_goOn S h a0 (fun h59 =>
    Q x2 h59))) ∧
   ((gI h a0 7) = 0 →
    ((¬ x2 = (-1 : Int32) →
     (wX12_goOn S h a0 (fun h59 =>
      Q x2 h59))) ∧
     (x2 = (-1 : Int32) →
      (wX12_flaw S h a0 (3 : Int32) (fun h55 =>
       (wX12_goOn S h55 a0 (fun h59 =>
        Q x2 h59))))))))
noncomputable def wX12_readOf_j40 (S : Sh) (K : Nat → Nat) (h : Hp) (a0 : Nat) (s0 : Int32) (Q : Int32 → Hp → Prop) : Prop :=
  (wX12_readOf_j41 S K h a0 s0 Q)
noncomputable def wX12_readOf (S : Sh) (K : Nat → Nat) (h : Hp) (a0 : Nat) (x1 : Int32) (Q : Int32 → Hp → Prop) : Prop :=
  (S a0).1 = 13 ∧
  (wX12_isName S K h a0 (fun r3 h3 =>
   ((¬ r3 = 0 →
    (((gI h3 a0 38) ≤ (1 : Int32) →
     (wX12_readOf_j40 S K h3 a0 (-1 : Int32) Q)) ∧
     (¬ (gI h3 a0 38) ≤ (1 : Int32) →
      (wX12_eventIn S h3 a0 ((x1 - (1 : Int32))) (gJ h3 a0 13) (fun r33 h33 =>
       (wX12_readOf_j40 S K h33 a0 r33 Q)))))) ∧
    (r3 = 0 →
     (wX12_flaw S h3 a0 (1 : Int32) (fun h11 =>
      (wX12_readOf_j41 S K h11 a0 (-1 : Int32) Q)))))))
noncomputable def wX12_readWhole (S : Sh) (h : Hp) (a0 : Nat) (x1 : Int32) (x2 : Int32) (Q : Int32 → Hp → Prop) : Prop :=
  (S a0).1 = 13 ∧
  (((gI h a0 9) = (3 : Int32) →
   (wX12_in S h (gI h a0 12) x1 x2 (fun r22 h22 =>
    ((¬ r22 = 0 →
     (wX12_goOn S h22 a0 (fun h39 =>
      Q (gI h22 a0 12) h39))) ∧
     (r22 = 0 →
      (wX12_flaw S h22 a0 (2 : Int32) (fun h30 =>
       (wX12_goOn S h30 a0 (fun h39 =>
        Q (gI h30 a0 12) h39))))))))) ∧
   (¬ (gI h a0 9) = (3 : Int32) →
    (wX12_flaw S h a0 (1 : Int32) (fun h10 =>
     (wX12_goOn S h10 a0 (fun h39 =>
      Q (gI h10 a0 12) h39))))))
noncomputable def wX12_readEvent_j211 (S : Sh) (K : Nat → Nat) (h : Hp) (a0 : Nat) (x1 : Int32) (j2 : Int64) (x4 : Int32) (x5 : Int32) (x6 : Int32) (x7 : Int32) (x8 : Int32) (x9 : Int32) (Q : Hp → Prop) : Prop :=
  (S a0).1 = 13 ∧
  (((gI h a0 7) ≤ 0 →
   inA S (gR h a0 16) 23 x7 ∧
   ∀ h226 : Hp, h226 = (pJ h (gR h a0 16) (ix x7) j2) →
   inA S (gR h226 a0 28) 20 x7 ∧
   ∀ h235 : Hp, h235 = (pI h226 (gR h226 a0 28) (ix x7) x4) →
   inA S (gR h235 a0 29) 20 x7 ∧
   ∀ h244 : Hp, h244 = (pI h235 (gR h235 a0 29) (ix x7) x5) →
   inA S (gR h244 a0 30) 20 x7 ∧
   ∀ h253 : Hp, h253 = (pI h244 (gR h244 a0 30) (ix x7) x6) →
   inA S (gR h253 a0 31) 20 x7 ∧
   ∀ h262 : Hp, h262 = (pI h253 (gR h253 a0 31) (ix x7) x8) →
   inA S (gR h262 a0 32) 20 x7 ∧
   ∀ h271 : Hp, h271 = (pI h262 (gR h262 a0 32) (ix x7) x9) →
   inA S (gR h271 a0 19) 20 x1 ∧
   Q ((pI h271 (gR h271 a0 19) (ix x1) (((gI h271 (gR h271 a0 19) (ix x1)) + (1 : Int32)))))) ∧
   (¬ (gI h a0 7) ≤ 0 →
    Q h))
noncomputable def wX12_readEvent_192b (S : Sh) (K : Nat → Nat) (a0 : Nat) (x1 : Int32) (j2 : Int64) (x4 : Int32) (x5 : Int32) (x6 : Int32) (x7 : Int32) (x8 : Int32) (x9 : Int32) (Q : Hp → Prop) (B192 : Hp → Prop) (h : Hp) : Prop :=
  (S a0).1 = 13 ∧
  (wX12_passesSign S h a0 (44 : Int32) (fun r195 h195 =>
   ((r195 = 0 →
    (wX12_readEvent_j211 S K h195 a0 x1 j2 x4 x5 x6 x7 x8 x9 Q)) ∧
    (¬ r195 = 0 →
     (wX12_readGiven S K h195 a0 x1 x7 (fun h205 =>
      (B192 h205)))))))
noncomputable def wX12_readEvent_192 (S : Sh) (K : Nat → Nat) (a0 : Nat) (x1 : Int32) (j2 : Int64) (x4 : Int32) (x5 : Int32) (x6 : Int32) (x7 : Int32) (x8 : Int32) (x9 : Int32) (Q : Hp → Prop) (n : Nat) : Hp → Prop := Nat.rec (motive := fun _ => Hp → Prop) (fun _ => False) (fun _ B192 h => wX12_readEvent_192b S K a0 x1 j2 x4 x5 x6 x7 x8 x9 Q B192 h) n
noncomputable def wX12_readEvent_j131 (S : Sh) (K : Nat → Nat) (h : Hp) (a0 : Nat) (x1 : Int32) (j2 : Int64) (x4 : Int32) (x5 : Int32) (x6 : Int32) (Q : Hp → Prop) : Prop :=
  (S a0).1 = 13 ∧
  inA S (gR h a0 19) 20 x1 ∧
  ∀ xv141 : Int32, xv141 = (((4 : Int32) * x1) + (gI h (gR h a0 19) (ix x1))) →
  (wX12_needs S K h a0 (K 11) (fun h146 =>
   (wX12_begins S h146 a0 (0 : Int32) (1 : Int32) (fun h152 =>
    (wX12_readTest S K h152 a0 (fun h162 =>
     (wX12_needs S K h162 a0 (K 12) (fun h174 =>
      inA S (gR h174 a0 33) 20 xv141 ∧
      (wX12_readGiven S K ((pI h174 (gR h174 a0 33) (ix xv141) (0 : Int32))) a0 x1 xv141 (fun h189 =>
       (∃ n192, wX12_readEvent_192 S K a0 x1 j2 x4 x5 x6 xv141 (gI h152 a0 41) (gI h162 a0 41) Q n192 h189)))))))))))
noncomputable def wX12_readEvent_j121 (S : Sh) (K : Nat → Nat) (h : Hp) (a0 : Nat) (x1 : Int32) (j2 : Int64) (x4 : Int32) (x5 : Int32) (Q : Hp → Prop) : Prop :=
  (S a0).1 = 13 ∧
  (wX12_readWhole S h a0 x5 (99 : Int32) (fun r126 h126 =>
   (wX12_readEvent_j131 S K h126 a0 x1 j2 x4 x5 r126 Q)))
noncomputable def wX12_readEvent_j43 (S : Sh) (K : Nat → Nat) (h : Hp) (a0 : Nat) (x1 : Int32) (j2 : Int64) (s0 : Int32) (Q : Hp → Prop) : Prop :=
  (S a0).1 = 13 ∧
  (wX12_passes S K h a0 (K 10) (fun r54 h54 =>
   ((r54 = 0 →
    (wX12_readEvent_j131 S K h54 a0 x1 j2 s0 (0 : Int32) (0 : Int32) Q)) ∧
    (¬ r54 = 0 →
     (wX12_readWhole S h54 a0 (0 : Int32) (99 : Int32) (fun r64 h64 =>
      (wX12_needs S K h64 a0 (K 5) (fun h72 =>
       ((¬ (gI h72 a0 7) = 0 →
        (wX12_readEvent_j121 S K h72 a0 x1 j2 s0 r64 Q)) ∧
        ((gI h72 a0 7) = 0 →
         ((¬ (gI h72 a0 9) = (3 : Int32) →
          (wX12_readEvent_j121 S K h72 a0 x1 j2 s0 r64 Q)) ∧
          ((gI h72 a0 9) = (3 : Int32) →
           (wX12_in S h72 (gI h72 a0 12) r64 (99 : Int32) (fun r98 h98 =>
            ((r98 = 0 →
             (wX12_readEvent_j121 S K h98 a0 x1 j2 s0 r64 Q)) ∧
             (¬ r98 = 0 →
              ((((gI h98 a0 12) - r64) < (10 : Int32) →
               (wX12_readEvent_j121 S K h98 a0 x1 j2 s0 r64 Q)) ∧
               (¬ ((gI h98 a0 12) - r64) < (10 : Int32) →
                (wX12_flaw S h98 a0 (4 : Int32) (fun h118 =>
                 (wX12_readEvent_j121 S K h118 a0 x1 j2 s0 r64 Q)))))))))))))))))))))
noncomputable def wX12_readEvent_j15 (S : Sh) (K : Nat → Nat) (h : Hp) (a0 : Nat) (x1 : Int32) (Q : Hp → Prop) : Prop :=
  (S a0).1 = 13 ∧
  (wX12_goOn S h a0 (fun h16 =>
   (wX12_readNew S K h16 a0 (fun r20 h20 =>
    (wX12_passes S K h20 a0 (K 9) (fun r27 h27 =>
     ((r27 = 0 →
      (wX12_readEvent_j43 S K h27 a0 x1 r20 (-2 : Int32) Q)) ∧
      (¬ r27 = 0 →
       (wX12_readOf S K h27 a0 x1 (fun r35 h35 =>
        (wX12_readEvent_j43 S K h35 a0 x1 r20 r35 Q)))))))))))
noncomputable def wX12_readEvent (S : Sh) (K : Nat → Nat) (h : Hp) (a0 : Nat) (x1 : Int32) (Q : Hp → Prop) : Prop :=
  (S a0).1 = 13 ∧
  inA S (gR h a0 19) 20 x1 ∧
  ((¬ (gI h (gR h a0 19) (ix x1)) = (4 : Int32) →
   (wX12_readEvent_j15 S K h a0 x1 Q)) ∧
   ((gI h (gR h a0 19) (ix x1)) = (4 : Int32) →
    (wX12_flaw S h a0 (4 : Int32) (fun h12 =>
     (wX12_readEvent_j15 S K h12 a0 x1 Q)))))
noncomputable def wX12_readLaw_j15 (S : Sh) (K : Nat → Nat) (h : Hp) (a0 : Nat) (x1 : Int32) (Q : Hp → Prop) : Prop :=
  (S a0).1 = 13 ∧
  (wX12_goOn S h a0 (fun h16 =>
   (wX12_begins S h16 a0 (1 : Int32) (0 : Int32) (fun h22 =>
    (wX12_readTest S K h22 a0 (fun h31 =>
     (((gI h31 a0 7) ≤ 0 →
      inA S (gR h31 a0 18) 20 x1 ∧
      inA S (gR h31 a0 26) 20 ((((4 : Int32) * x1) + (gI h31 (gR h31 a0 18) (ix x1)))) ∧
      ∀ h57 : Hp, h57 = (pI h31 (gR h31 a0 26) (ix ((((4 : Int32) * x1) + (gI h31 (gR h31 a0 18) (ix x1))))) (gI h22 a0 41)) →
      inA S (gR h57 a0 18) 20 x1 ∧
      inA S (gR h57 a0 27) 20 ((((4 : Int32) * x1) + (gI h57 (gR h57 a0 18) (ix x1)))) ∧
      ∀ h76 : Hp, h76 = (pI h57 (gR h57 a0 27) (ix ((((4 : Int32) * x1) + (gI h57 (gR h57 a0 18) (ix x1))))) (gI h57 a0 41)) →
      inA S (gR h76 a0 18) 20 x1 ∧
      Q ((pI h76 (gR h76 a0 18) (ix x1) (((gI h76 (gR h76 a0 18) (ix x1)) + (1 : Int32)))))) ∧
      (¬ (gI h31 a0 7) ≤ 0 →
       Q h31))))))))
noncomputable def wX12_readLaw (S : Sh) (K : Nat → Nat) (h : Hp) (a0 : Nat) (x1 : Int32) (Q : Hp → Prop) : Prop :=
  (S a0).1 = 13 ∧
  inA S (gR h a0 18) 20 x1 ∧
  ((¬ (gI h (gR h a0 18) (ix x1)) = (4 : Int32) →
   (wX12_readLaw_j15 S K h a0 x1 Q)) ∧
   ((gI h (gR h a0 18) (ix x1)) = (4 : Int32) →
    (wX12_flaw S h a0 (4 : Int32) (fun h12 =>
     (wX12_readLaw_j15 S K h12 a0 x1 Q)))))
noncomputable def wX12_readMachine_j41 (S : Sh) (K : Nat → Nat) (h : Hp) (a0 : Nat) (Q : Hp → Prop) : Prop :=
  (S a0).1 = 13 ∧
  (wX12_goOn S h a0 (fun h42 =>
   (wX12_readNew S K h42 a0 (fun r46 h46 =>
    (((gI h46 a0 7) ≤ 0 →
     ∀ xv64 : Int32, xv64 = ((3 : Int32) + (gI h46 a0 38)) →
     inA S (gR h46 a0 14) 23 xv64 ∧
     ∀ h71 : Hp, h71 = (pJ h46 (gR h46 a0 14) (ix xv64) r46) →
     inA S (gR h71 a0 17) 20 xv64 ∧
     ∀ h78 : Hp, h78 = (pI h71 (gR h71 a0 17) (ix xv64) (0 : Int32)) →
     inA S (gR h78 a0 18) 20 xv64 ∧
     ∀ h85 : Hp, h85 = (pI h78 (gR h78 a0 18) (ix xv64) (0 : Int32)) →
     inA S (gR h85 a0 19) 20 xv64 ∧
     ∀ h92 : Hp, h92 = (pI h85 (gR h85 a0 19) (ix xv64) (0 : Int32)) →
     inA S (gR h92 a0 20) 20 xv64 ∧
     ∀ h99 : Hp, h99 = (pI h92 (gR h92 a0 20) (ix xv64) (1 : Int32)) →
     inA S (gR h99 a0 21) 20 xv64 ∧
     ∀ h106 : Hp, h106 = (pI h99 (gR h99 a0 21) (ix xv64) (-1 : Int32)) →
     Q ((pI h106 a0 38 (((gI h106 a0 38) + (1 : Int32)))))) ∧
     (¬ (gI h46 a0 7) ≤ 0 →
      Q h46))))))
noncomputable def wX12_readMachine_j13 (S : Sh) (K : Nat → Nat) (h : Hp) (a0 : Nat) (Q : Hp → Prop) : Prop :=
  (S a0).1 = 13 ∧
  (((gI h a0 38) ≤ 0 →
   (wX12_readMachine_j41 S K h a0 Q)) ∧
   (¬ (gI h a0 38) ≤ 0 →
    inA S (gR h a0 17) 20 ((((3 : Int32) + (gI h a0 38)) - (1 : Int32))) ∧
    ((¬ (gI h (gR h a0 17) (ix ((((3 : Int32) + (gI h a0 38)) - (1 : Int32))))) = 0 →
     (wX12_readMachine_j41 S K h a0 Q)) ∧
     ((gI h (gR h a0 17) (ix ((((3 : Int32) + (gI h a0 38)) - (1 : Int32))))) = 0 →
      (wX12_flaw S h a0 (5 : Int32) (fun h38 =>
       (wX12_readMachine_j41 S K h38 a0 Q)))))))
noncomputable def wX12_readMachine (S : Sh) (K : Nat → Nat) (h : Hp) (a0 : Nat) (Q : Hp → Prop) : Prop :=
  (S a0).1 = 13 ∧
  ((¬ (gI h a0 38) = (3 : Int32) →
   (wX12_readMachine_j13 S K h a0 Q)) ∧
   ((gI h a0 38) = (3 : Int32) →
    (wX12_flaw S h a0 (4 : Int32) (fun h10 =>
     (wX12_readMachine_j13 S K h10 a0 Q)))))
noncomputable def wX12_readVar_j128 (S : Sh) (K : Nat → Nat) (h : Hp) (a0 : Nat) (x1 : Int32) (j2 : Int64) (x4 : Int32) (Q : Hp → Prop) : Prop :=
  (S a0).1 = 13 ∧
  (wX12_readWhole S h a0 x4 (9 : Int32) (fun r133 h133 =>
   (wX12_needs S K h133 a0 (K 6) (fun h141 =>
    (wX12_readWhole S h141 a0 x4 r133 (fun r149 h149 =>
     (((gI h149 a0 7) ≤ 0 →
      inA S (gR h149 a0 17) 20 x1 ∧
      ∀ xv172 : Int32, xv172 = (((3 : Int32) * x1) + (gI h149 (gR h149 a0 17) (ix x1))) →
      inA S (gR h149 a0 15) 23 xv172 ∧
      ∀ h181 : Hp, h181 = (pJ h149 (gR h149 a0 15) (ix xv172) j2) →
      inA S (gR h181 a0 23) 20 xv172 ∧
      ∀ h190 : Hp, h190 = (pI h181 (gR h181 a0 23) (ix xv172) x4) →
      inA S (gR h190 a0 24) 20 xv172 ∧
      ∀ h199 : Hp, h199 = (pI h190 (gR h190 a0 24) (ix xv172) r133) →
      inA S (gR h199 a0 25) 20 xv172 ∧
      ∀ h208 : Hp, h208 = (pI h199 (gR h199 a0 25) (ix xv172) r149) →
      inA S (gR h208 a0 20) 20 x1 ∧
      ∀ h224 : Hp, h224 = (pI h208 (gR h208 a0 20) (ix x1) (((gI h208 (gR h208 a0 20) (ix x1)) * ((r133 - x4) + (1 : Int32))))) →
      inA S (gR h224 a0 17) 20 x1 ∧
      Q ((pI h224 (gR h224 a0 17) (ix x1) (((gI h224 (gR h224 a0 17) (ix x1)) + (1 : Int32)))))) ∧
      (¬ (gI h149 a0 7) ≤ 0 →
       Q h149))))))))
noncomputable def wX12_readVar_j43 (S : Sh) (K : Nat → Nat) (h : Hp) (a0 : Nat) (x1 : Int32) (Q : Hp → Prop) : Prop :=
  (S a0).1 = 13 ∧
  (wX12_goOn S h a0 (fun h44 =>
   (wX12_readNew S K h44 a0 (fun r48 h48 =>
    (wX12_needs S K h48 a0 (K 4) (fun h55 =>
     (wX12_readWhole S h55 a0 (0 : Int32) (9 : Int32) (fun r62 h62 =>
      (wX12_needs S K h62 a0 (K 5) (fun h70 =>
       ((¬ (gI h70 a0 7) = 0 →
        (wX12_readVar_j128 S K h70 a0 x1 r48 r62 Q)) ∧
        ((gI h70 a0 7) = 0 →
         ((¬ (gI h70 a0 9) = (3 : Int32) →
          (wX12_readVar_j128 S K h70 a0 x1 r48 r62 Q)) ∧
          ((gI h70 a0 9) = (3 : Int32) →
           (wX12_in S h70 (gI h70 a0 12) r62 (9 : Int32) (fun r96 h96 =>
            ((r96 = 0 →
             (wX12_readVar_j128 S K h96 a0 x1 r48 r62 Q)) ∧
             (¬ r96 = 0 →
              inA S (gR h96 a0 20) 20 x1 ∧
              ((((gI h96 (gR h96 a0 20) (ix x1)) * (((gI h96 a0 12) - r62) + (1 : Int32))) ≤ (100 : Int32) →
               (wX12_readVar_j128 S K h96 a0 x1 r48 r62 Q)) ∧
               (¬ ((gI h96 (gR h96 a0 20) (ix x1)) * (((gI h96 a0 12) - r62) + (1 : Int32))) ≤ (100 : Int32) →
                (wX12_flaw S h96 a0 (4 : Int32) (fun h125 =>
                 (wX12_readVar_j128 S K h125 a0 x1 r48 r62 Q)))))))))))))))))))))))
noncomputable def wX12_readVar_j38 (S : Sh) (K : Nat → Nat) (h : Hp) (a0 : Nat) (x1 : Int32) (Q : Hp → Prop) : Prop :=
  (S a0).1 = 13 ∧
  (wX12_flaw S h a0 (4 : Int32) (fun h40 =>
   (wX12_readVar_j43 S K h40 a0 x1 Q)))
noncomputable def wX12_readVar (S : Sh) (K : Nat → Nat) (h : Hp) (a0 : Nat) (x1 : Int32) (Q : Hp → Prop) : Prop :=
  (S a0).1 = 13 ∧
  inA S (gR h a0 17) 20 x1 ∧
  (((gI h (gR h a0 17) (ix x1)) = (3 : Int32) →
   (wX12_readVar_j38 S K h a0 x1 Q)) ∧
   (¬ (gI h (gR h a0 17) (ix x1)) = (3 : Int32) →
    inA S (gR h a0 18) 20 x1 ∧
    ((0 < (gI h (gR h a0 18) (ix x1)) →
     (wX12_readVar_j38 S K h a0 x1 Q)) ∧
     (¬ 0 < (gI h (gR h a0 18) (ix x1)) →
      inA S (gR h a0 19) 20 x1 ∧
      ((0 < (gI h (gR h a0 19) (ix x1)) →
       (wX12_readVar_j38 S K h a0 x1 Q)) ∧
       (¬ 0 < (gI h (gR h a0 19) (ix x1)) →
        inA S (gR h a0 21) 20 x1 ∧
        (((gI h (gR h a0 21) (ix x1)) = (-1 : Int32) →
         (wX12_readVar_j43 S K h a0 x1 Q)) ∧
         (¬ (gI h (gR h a0 21) (ix x1)) = (-1 : Int32) →
          (wX12_readVar_j38 S K h a0 x1 Q)))))))))
noncomputable def wX12_readVariant_j15 (S : Sh) (K : Nat → Nat) (h : Hp) (a0 : Nat) (x1 : Int32) (Q : Hp → Prop) : Prop :=
  (S a0).1 = 13 ∧
  (wX12_goOn S h a0 (fun h16 =>
   (wX12_begins S h16 a0 (0 : Int32) (0 : Int32) (fun h22 =>
    (wX12_readSum S K h22 a0 (fun h31 =>
     (((gI h31 a0 7) ≤ 0 →
      inA S (gR h31 a0 21) 20 x1 ∧
      ∀ h48 : Hp, h48 = (pI h31 (gR h31 a0 21) (ix x1) (gI h22 a0 41)) →
      inA S (gR h48 a0 22) 20 x1 ∧
      Q ((pI h48 (gR h48 a0 22) (ix x1) (gI h48 a0 41)))) ∧
      (¬ (gI h31 a0 7) ≤ 0 →
       Q h31))))))))
noncomputable def wX12_readVariant (S : Sh) (K : Nat → Nat) (h : Hp) (a0 : Nat) (x1 : Int32) (Q : Hp → Prop) : Prop :=
  (S a0).1 = 13 ∧
  inA S (gR h a0 21) 20 x1 ∧
  (((gI h (gR h a0 21) (ix x1)) = (-1 : Int32) →
   (wX12_readVariant_j15 S K h a0 x1 Q)) ∧
   (¬ (gI h (gR h a0 21) (ix x1)) = (-1 : Int32) →
    (wX12_flaw S h a0 (4 : Int32) (fun h12 =>
     (wX12_readVariant_j15 S K h12 a0 x1 Q)))))
noncomputable def wX12_readLine_j102 (S : Sh) (K : Nat → Nat) (h : Hp) (a0 : Nat) (x1 : Int32) (x2 : Int32) (Q : Hp → Prop) : Prop :=
  (S a0).1 = 13 ∧
  (((gI h a0 7) ≤ 0 →
   ((x2 = 0 →
    (wX12_isWord S K h a0 (K 7) (fun r125 h125 =>
     ((r125 = 0 →
      (wX12_isWord S K h125 a0 (K 8) (fun r142 h142 =>
       ((r142 = 0 →
        (wX12_readVariant S K h142 a0 x1 (fun h158 =>
         Q h158))) ∧
        (¬ r142 = 0 →
         (wX12_readEvent S K h142 a0 x1 (fun h150 =>
          Q h150))))))) ∧
      (¬ r125 = 0 →
       (wX12_readLaw S K h125 a0 x1 (fun h133 =>
        Q h133))))))) ∧
    (¬ x2 = 0 →
     (wX12_readVar S K h a0 x1 (fun h116 =>
      Q h116))))) ∧
   (¬ (gI h a0 7) ≤ 0 →
    Q h))
noncomputable def wX12_readLine_j97 (S : Sh) (K : Nat → Nat) (h : Hp) (a0 : Nat) (x1 : Int32) (x2 : Int32) (Q : Hp → Prop) : Prop :=
  (S a0).1 = 13 ∧
  (wX12_flaw S h a0 (5 : Int32) (fun h99 =>
   (wX12_readLine_j102 S K h99 a0 x1 x2 Q)))
noncomputable def wX12_readLine_j77 (S : Sh) (K : Nat → Nat) (h : Hp) (a0 : Nat) (x1 : Int32) (x2 : Int32) (Q : Hp → Prop) : Prop :=
  (S a0).1 = 13 ∧
  (((gI h a0 38) = 0 →
   (wX12_readLine_j97 S K h a0 x1 x2 Q)) ∧
   (¬ (gI h a0 38) = 0 →
    ((¬ x2 = 0 →
     (wX12_readLine_j102 S K h a0 x1 x2 Q)) ∧
     (x2 = 0 →
      inA S (gR h a0 17) 20 x1 ∧
      ((¬ (gI h (gR h a0 17) (ix x1)) = 0 →
       (wX12_readLine_j102 S K h a0 x1 x2 Q)) ∧
       ((gI h (gR h a0 17) (ix x1)) = 0 →
        (wX12_readLine_j97 S K h a0 x1 x2 Q)))))))
noncomputable def wX12_readLine (S : Sh) (K : Nat → Nat) (h : Hp) (a0 : Nat) (Q : Hp → Prop) : Prop :=
  (S a0).1 = 13 ∧
  (((gI h a0 7) ≤ 0 →
   ∀ xv16 : Int32, xv16 = (((3 : Int32) + (gI h a0 38)) - (1 : Int32)) →
   (wX12_isWord S K h a0 (K 2) (fun r20 h20 =>
    ((r20 = 0 →
     (wX12_isWord S K h20 a0 (K 3) (fun r34 h34 =>
      ((¬ r34 = 0 →
       (wX12_readLine_j77 S K h34 a0 xv16 r34 Q)) ∧
       (r34 = 0 →
        (wX12_isWord S K h34 a0 (K 7) (fun r45 h45 =>
         ((¬ r45 = 0 →
          (wX12_readLine_j77 S K h45 a0 xv16 r34 Q)) ∧
          (r45 = 0 →
           (wX12_isWord S K h45 a0 (K 8) (fun r54 h54 =>
            ((¬ r54 = 0 →
             (wX12_readLine_j77 S K h54 a0 xv16 r34 Q)) ∧
             (r54 = 0 →
              (wX12_isWord S K h54 a0 (K 13) (fun r63 h63 =>
               ((¬ r63 = 0 →
                (wX12_readLine_j77 S K h63 a0 xv16 r34 Q)) ∧
                (r63 = 0 →
                 (wX12_flaw S h63 a0 (1 : Int32) (fun h71 =>
                  (wX12_readLine_j102 S K h71 a0 xv16 r34 Q)))))))))))))))))))) ∧
     (¬ r20 = 0 →
      (wX12_readMachine S K h20 a0 (fun h27 =>
       Q h27))))))) ∧
   (¬ (gI h a0 7) ≤ 0 →
    Q h))
noncomputable def wX12_readAll_j54 (S : Sh) (K : Nat → Nat) (h : Hp) (a0 : Nat) (Q : Hp → Prop) : Prop :=
  (S a0).1 = 13 ∧
  ((¬ (gI h a0 7) = 0 →
   Q h) ∧
   ((gI h a0 7) = 0 →
    (((gI h a0 38) = 0 →
     (wX12_flaw S h a0 (5 : Int32) (fun h86 =>
      Q h86))) ∧
     (¬ (gI h a0 38) = 0 →
      inA S (gR h a0 17) 20 ((((3 : Int32) + (gI h a0 38)) - (1 : Int32))) ∧
      ((¬ (gI h (gR h a0 17) (ix ((((3 : Int32) + (gI h a0 38)) - (1 : Int32))))) = 0 →
       Q h) ∧
       ((gI h (gR h a0 17) (ix ((((3 : Int32) + (gI h a0 38)) - (1 : Int32))))) = 0 →
        (wX12_flaw S h a0 (5 : Int32) (fun h86 =>
         Q h86))))))))
noncomputable def wX12_readAll_j34 (S : Sh) (K : Nat → Nat) (h : Hp) (a0 : Nat) (Q : Hp → Prop) : Prop :=
  (S a0).1 = 13 ∧
  ((¬ (gI h a0 7) = 0 →
   (wX12_readAll_j54 S K h a0 Q)) ∧
   ((gI h a0 7) = 0 →
    (((gI h a0 9) = (1 : Int32) →
     (wX12_readAll_j54 S K h a0 Q)) ∧
     (¬ (gI h a0 9) = (1 : Int32) →
      (wX12_flaw S h a0 (1 : Int32) (fun h51 =>
       (wX12_readAll_j54 S K h51 a0 Q)))))))
noncomputable def wX12_readAll_18b (S : Sh) (K : Nat → Nat) (a0 : Nat) (Q : Hp → Prop) (B18 : Hp → Prop) (h : Hp) : Prop :=
  (S a0).1 = 13 ∧
  (wX12_passesSign S h a0 (59 : Int32) (fun r21 h21 =>
   ((r21 = 0 →
    (wX12_readAll_j34 S K h21 a0 Q)) ∧
    (¬ r21 = 0 →
     (wX12_readLine S K h21 a0 (fun h28 =>
      (B18 h28)))))))
noncomputable def wX12_readAll_18 (S : Sh) (K : Nat → Nat) (a0 : Nat) (Q : Hp → Prop) (n : Nat) : Hp → Prop := Nat.rec (motive := fun _ => Hp → Prop) (fun _ => False) (fun _ B18 h => wX12_readAll_18b S K a0 Q B18 h) n
noncomputable def wX12_readAll (S : Sh) (K : Nat → Nat) (h : Hp) (a0 : Nat) (Q : Hp → Prop) : Prop :=
  (S a0).1 = 13 ∧
  ∀ h2 : Hp, h2 = (pI h a0 38 (0 : Int32)) →
  (wX12_goOn S ((pI h2 a0 41 (0 : Int32))) a0 (fun h11 =>
   (wX12_readLine S K h11 a0 (fun h15 =>
    (∃ n18, wX12_readAll_18 S K a0 Q n18 h15)))))
noncomputable def wX12_machines_j94 (S : Sh) (K : Nat → Nat) (h : Hp) (a0 : Nat) (Q : Int32 → Hp → Prop) : Prop :=
  (S a0).1 = 13 ∧
  ∀ h96 : Hp, h96 = (pI h a0 56 (-1 : Int32)) →
  ∀ h101 : Hp, h101 = (pI h96 a0 53 (0 : Int32)) →
  (wX12_good S h101 a0 (gI h101 a0 37) (fun r109 h109 =>
   Q r109 h109))
noncomputable def wX12_machines_75b (S : Sh) (K : Nat → Nat) (a0 : Nat) (Q : Int32 → Hp → Prop) (B75 : Hp → Int32 → Prop) (h : Hp) (x2 : Int32) : Prop :=
  (S a0).1 = 13 ∧
  (((gI h a0 37) ≤ x2 →
   (wX12_machines_j94 S K h a0 Q)) ∧
   (¬ (gI h a0 37) ≤ x2 →
    (wX12_glues S h a0 x2 (fun h85 =>
     (B75 h85 ((x2 + (1 : Int32))))))))
noncomputable def wX12_machines_75 (S : Sh) (K : Nat → Nat) (a0 : Nat) (Q : Int32 → Hp → Prop) (n : Nat) : Hp → Int32 → Prop := Nat.rec (motive := fun _ => Hp → Int32 → Prop) (fun _ _ => False) (fun _ B75 h x2 => wX12_machines_75b S K a0 Q B75 h x2) n
noncomputable def wX12_machines (S : Sh) (K : Nat → Nat) (h : Hp) (a0 : Nat) (x1 : Int32) (Q : Int32 → Hp → Prop) : Prop :=
  (S a0).1 = 13 ∧
  ∀ h2 : Hp, h2 = (pI h a0 0 (0 : Int32)) →
  (wX12_in S h2 x1 (0 : Int32) (gI h2 a0 4) (fun r11 h11 =>
   ((¬ r11 = 0 →
    ∀ h25 : Hp, h25 = (pI h11 a0 5 x1) →
    ∀ h30 : Hp, h30 = (pI h25 a0 4 (0 : Int32)) →
    ∀ h35 : Hp, h35 = (pI h30 a0 6 (0 : Int32)) →
    (wX12_readAll S K ((pI h35 a0 7 (0 : Int32))) a0 (fun h44 =>
     (((gI h44 a0 7) ≤ 0 →
      (wX12_holds S h44 a0 (fun h70 =>
       (∃ n75, wX12_machines_75 S K a0 Q n75 h70 (0 : Int32))))) ∧
      (¬ (gI h44 a0 7) ≤ 0 →
       ∀ h56 : Hp, h56 = (pI h44 a0 1 (4 : Int32)) →
       Q (-1 : Int32) ((pI h56 a0 2 (gI h56 a0 8)))))))) ∧
    (r11 = 0 →
     (wX12_refused S h11 a0 (2 : Int32) (fun r19 h19 =>
      Q r19 h19))))))
noncomputable def wX12_now (S : Sh) (h : Hp) (a0 : Nat) (x1 : Int32) (Q : Int32 → Hp → Prop) : Prop :=
  (S a0).1 = 13 ∧
  ∀ h2 : Hp, h2 = (pI h a0 0 (0 : Int32)) →
  ((¬ (gI h2 a0 56) = (-1 : Int32) →
   ((x1 = (0 : Int32) →
    (wX12_good S h2 a0 (gI h2 a0 56) (fun r61 h61 =>
     Q r61 h61))) ∧
    (¬ x1 = (0 : Int32) →
     ((x1 = (1 : Int32) →
      (wX12_good S h2 a0 (gI h2 a0 57) (fun r70 h70 =>
       Q r70 h70))) ∧
      (¬ x1 = (1 : Int32) →
       ((x1 = (2 : Int32) →
        (wX12_good S h2 a0 (gI h2 a0 58) (fun r79 h79 =>
         Q r79 h79))) ∧
        (¬ x1 = (2 : Int32) →
         ((x1 = (3 : Int32) →
          (wX12_besideMany S h2 a0 (fun r85 h85 =>
           (wX12_good S h85 a0 r85 (fun r88 h88 =>
            Q r88 h88))))) ∧
          (¬ x1 = (3 : Int32) →
           ((x1 = (4 : Int32) →
            (wX12_eventsNow S h2 a0 (fun r94 h94 =>
             (wX12_good S h94 a0 r94 (fun r97 h97 =>
              Q r97 h97))))) ∧
            (¬ x1 = (4 : Int32) →
             (wX12_refused S h2 a0 (1 : Int32) (fun r103 h103 =>
              Q r103 h103))))))))))))) ∧
   ((gI h2 a0 56) = (-1 : Int32) →
    (wX12_refused S h2 a0 (1 : Int32) (fun r15 h15 =>
     Q r15 h15))))
noncomputable def wX12_octet (S : Sh) (h : Hp) (a0 : Nat) (x1 : Int32) (Q : Int32 → Hp → Prop) : Prop :=
  (S a0).1 = 13 ∧
  ∀ h2 : Hp, h2 = (pI h a0 0 (0 : Int32)) →
  ((0 ≤ x1 →
   (((gI h2 a0 55) ≤ x1 →
    (wX12_good S h2 a0 (-2 : Int32) (fun r35 h35 =>
     Q r35 h35))) ∧
    (¬ (gI h2 a0 55) ≤ x1 →
     inA S (gR h2 a0 54) 20 x1 ∧
     (wX12_good S h2 a0 ((gI h2 (gR h2 a0 54) (ix x1))) (fun r35 h35 =>
      Q r35 h35))))) ∧
   (¬ 0 ≤ x1 →
    (wX12_refused S h2 a0 (1 : Int32) (fun r11 h11 =>
     Q r11 h11))))
noncomputable def wX12_open_64b (S : Sh) (B51 : Hp → Int32 → Int32 → Prop) (a0 : Nat) (x1 : Int32) (x3 : Int32) (Q : Int32 → Hp → Prop) (B64 : Hp → Int32 → Int32 → Prop) (h : Hp) (x2 : Int32) (x4 : Int32) : Prop :=
  (((2 : Int32) < x4 →
   (B51 h x2 ((x3 + (1 : Int32))))) ∧
   (¬ (2 : Int32) < x4 →
    (S a0).1 = 13 ∧
    (wX12_failing S h a0 x1 x3 x4 (0 : Int32) (fun r77 h77 =>
     ((r77 ≤ 0 →
      (B64 h77 ((x2 + (0 : Int32))) ((x4 + (1 : Int32))))) ∧
      (¬ r77 ≤ 0 →
       (B64 h77 ((x2 + (1 : Int32))) ((x4 + (1 : Int32))))))))))
noncomputable def wX12_open_64 (S : Sh) (B51 : Hp → Int32 → Int32 → Prop) (a0 : Nat) (x1 : Int32) (x3 : Int32) (Q : Int32 → Hp → Prop) (n : Nat) : Hp → Int32 → Int32 → Prop := Nat.rec (motive := fun _ => Hp → Int32 → Int32 → Prop) (fun _ _ _ => False) (fun _ B64 h x2 x4 => wX12_open_64b S B51 a0 x1 x3 Q B64 h x2 x4) n
noncomputable def wX12_open_51b (S : Sh) (a0 : Nat) (x1 : Int32) (Q : Int32 → Hp → Prop) (B51 : Hp → Int32 → Int32 → Prop) (h : Hp) (x2 : Int32) (x3 : Int32) : Prop :=
  (S a0).1 = 13 ∧
  inA S (gR h a0 19) 20 x1 ∧
  (((gI h (gR h a0 19) (ix x1)) ≤ x3 →
   (wX12_good S h a0 x2 (fun r104 h104 =>
    Q r104 h104))) ∧
   (¬ (gI h (gR h a0 19) (ix x1)) ≤ x3 →
    (∃ n64, wX12_open_64 S B51 a0 x1 x3 Q n64 h x2 (0 : Int32))))
noncomputable def wX12_open_51 (S : Sh) (a0 : Nat) (x1 : Int32) (Q : Int32 → Hp → Prop) (n : Nat) : Hp → Int32 → Int32 → Prop := Nat.rec (motive := fun _ => Hp → Int32 → Int32 → Prop) (fun _ _ _ => False) (fun _ B51 h x2 x3 => wX12_open_51b S a0 x1 Q B51 h x2 x3) n
noncomputable def wX12_open_j47 (S : Sh) (h : Hp) (a0 : Nat) (x1 : Int32) (s0 : Int32) (s1 : Int32) (Q : Int32 → Hp → Prop) : Prop :=
  (∃ n51, wX12_open_51 S a0 x1 Q n51 h (s0 + s1) (0 : Int32))
noncomputable def wX12_open_j33 (S : Sh) (h : Hp) (a0 : Nat) (x1 : Int32) (s0 : Int32) (Q : Int32 → Hp → Prop) : Prop :=
  (S a0).1 = 13 ∧
  (wX12_goesOn S h a0 x1 (0 : Int32) (fun r36 h36 =>
   ((r36 = 0 →
    (wX12_open_j47 S h36 a0 x1 s0 (1 : Int32) Q)) ∧
    (¬ r36 = 0 →
     (wX12_open_j47 S h36 a0 x1 s0 (0 : Int32) Q)))))
noncomputable def wX12_open (S : Sh) (h : Hp) (a0 : Nat) (x1 : Int32) (Q : Int32 → Hp → Prop) : Prop :=
  (S a0).1 = 13 ∧
  (wX12_isMachine S ((pI h a0 0 (0 : Int32))) a0 x1 (fun r7 h7 =>
   ((¬ r7 = 0 →
    (wX12_begins_ S h7 a0 x1 (0 : Int32) (fun r22 h22 =>
     ((r22 = 0 →
      (wX12_open_j33 S h22 a0 x1 (1 : Int32) Q)) ∧
      (¬ r22 = 0 →
       (wX12_open_j33 S h22 a0 x1 (0 : Int32) Q)))))) ∧
    (r7 = 0 →
     (wX12_refused S h7 a0 (1 : Int32) (fun r15 h15 =>
      Q r15 h15))))))
noncomputable def wX12_spreads_j135 (S : Sh) (B52 : Hp → Int32 → Prop) (B62 : Hp → Int32 → Prop) (B84 : Hp → Int32 → Prop) (h : Hp) (a0 : Nat) (x1 : Int32) (x2 : Int32) (x3 : Int32) (x4 : Int32) (s0 : Int32) (Q : Hp → Prop) : Prop :=
  ((s0 = (-2 : Int32) →
   (B84 h ((x4 + (1 : Int32))))) ∧
   (¬ s0 = (-2 : Int32) →
    (S a0).1 = 13 ∧
    inA S (gR h a0 62) 20 s0 ∧
    (((gI h (gR h a0 62) (ix s0)) = (-2 : Int32) →
     inA S (gR h a0 63) 20 x2 ∧
     inA S (gR h a0 62) 20 ((gI h (gR h a0 63) (ix x2))) ∧
     ∀ h178 : Hp, h178 = (pI h (gR h a0 62) (ix s0) (((gI h (gR h a0 62) (ix ((gI h (gR h a0 63) (ix x2))))) + (1 : Int32)))) →
     inA S (gR h178 a0 63) 20 (gI h178 a0 64) ∧
     ∀ h189 : Hp, h189 = (pI h178 (gR h178 a0 63) (ix (gI h178 a0 64)) s0) →
     (B84 ((pI h189 a0 64 (((gI h189 a0 64) + (1 : Int32))))) ((x4 + (1 : Int32))))) ∧
     (¬ (gI h (gR h a0 62) (ix s0)) = (-2 : Int32) →
      (B84 h ((x4 + (1 : Int32))))))))
noncomputable def wX12_spreads_84b (S : Sh) (B52 : Hp → Int32 → Prop) (B62 : Hp → Int32 → Prop) (a0 : Nat) (x1 : Int32) (x2 : Int32) (x3 : Int32) (Q : Hp → Prop) (B84 : Hp → Int32 → Prop) (h : Hp) (x4 : Int32) : Prop :=
  (S a0).1 = 13 ∧
  inA S (gR h a0 30) 20 ((((4 : Int32) * x1) + x3)) ∧
  (((gI h (gR h a0 30) (ix ((((4 : Int32) * x1) + x3)))) < x4 →
   (B62 h ((x3 + (1 : Int32))))) ∧
   (¬ (gI h (gR h a0 30) (ix ((((4 : Int32) * x1) + x3)))) < x4 →
    inA S (gR h a0 63) 20 x2 ∧
    (wX12_canBe S h a0 x1 x3 ((gI h (gR h a0 63) (ix x2))) x4 (fun r110 h110 =>
     ((r110 = 0 →
      (wX12_spreads_j135 S B52 B62 B84 h110 a0 x1 x2 x3 x4 (-2 : Int32) Q)) ∧
      (¬ r110 = 0 →
       inA S (gR h110 a0 63) 20 x2 ∧
       (wX12_givenBy S h110 a0 x1 x3 ((gI h110 (gR h110 a0 63) (ix x2))) x4 (fun r127 h127 =>
        (wX12_spreads_j135 S B52 B62 B84 h127 a0 x1 x2 x3 x4 r127 Q)))))))))
noncomputable def wX12_spreads_84 (S : Sh) (B52 : Hp → Int32 → Prop) (B62 : Hp → Int32 → Prop) (a0 : Nat) (x1 : Int32) (x2 : Int32) (x3 : Int32) (Q : Hp → Prop) (n : Nat) : Hp → Int32 → Prop := Nat.rec (motive := fun _ => Hp → Int32 → Prop) (fun _ _ => False) (fun _ B84 h x4 => wX12_spreads_84b S B52 B62 a0 x1 x2 x3 Q B84 h x4) n
noncomputable def wX12_spreads_62b (S : Sh) (B52 : Hp → Int32 → Prop) (a0 : Nat) (x1 : Int32) (x2 : Int32) (Q : Hp → Prop) (B62 : Hp → Int32 → Prop) (h : Hp) (x3 : Int32) : Prop :=
  (S a0).1 = 13 ∧
  inA S (gR h a0 19) 20 x1 ∧
  (((gI h (gR h a0 19) (ix x1)) ≤ x3 →
   (B52 h ((x2 + (1 : Int32))))) ∧
   (¬ (gI h (gR h a0 19) (ix x1)) ≤ x3 →
    inA S (gR h a0 29) 20 ((((4 : Int32) * x1) + x3)) ∧
    ∀ xv82 : Int32, xv82 = (gI h (gR h a0 29) (ix ((((4 : Int32) * x1) + x3)))) →
    (∃ n84, wX12_spreads_84 S B52 B62 a0 x1 x2 x3 Q n84 h xv82)))
noncomputable def wX12_spreads_62 (S : Sh) (B52 : Hp → Int32 → Prop) (a0 : Nat) (x1 : Int32) (x2 : Int32) (Q : Hp → Prop) (n : Nat) : Hp → Int32 → Prop := Nat.rec (motive := fun _ => Hp → Int32 → Prop) (fun _ _ => False) (fun _ B62 h x3 => wX12_spreads_62b S B52 a0 x1 x2 Q B62 h x3) n
noncomputable def wX12_spreads_52b (S : Sh) (a0 : Nat) (x1 : Int32) (Q : Hp → Prop) (B52 : Hp → Int32 → Prop) (h : Hp) (x2 : Int32) : Prop :=
  (S a0).1 = 13 ∧
  (((gI h a0 64) ≤ x2 →
   Q h) ∧
   (¬ (gI h a0 64) ≤ x2 →
    (∃ n62, wX12_spreads_62 S B52 a0 x1 x2 Q n62 h (0 : Int32))))
noncomputable def wX12_spreads_52 (S : Sh) (a0 : Nat) (x1 : Int32) (Q : Hp → Prop) (n : Nat) : Hp → Int32 → Prop := Nat.rec (motive := fun _ => Hp → Int32 → Prop) (fun _ _ => False) (fun _ B52 h x2 => wX12_spreads_52b S a0 x1 Q B52 h x2) n
noncomputable def wX12_spreads_j22 (S : Sh) (h : Hp) (a0 : Nat) (x1 : Int32) (Q : Hp → Prop) : Prop :=
  (S a0).1 = 13 ∧
  ∀ h24 : Hp, h24 = (pI h a0 64 (1 : Int32)) →
  (wX12_beginOf S h24 a0 x1 (fun r34 h34 =>
   inA S (gR h24 a0 63) 20 (0 : Int32) ∧
   ∀ h37 : Hp, h37 = (pI h34 (gR h24 a0 63) (ix (0 : Int32)) r34) →
   inA S (gR h37 a0 63) 20 (0 : Int32) ∧
   inA S (gR h37 a0 62) 20 ((gI h37 (gR h37 a0 63) (ix (0 : Int32)))) ∧
   (∃ n52, wX12_spreads_52 S a0 x1 Q n52 ((pI h37 (gR h37 a0 62) (ix ((gI h37 (gR h37 a0 63) (ix (0 : Int32))))) (0 : Int32))) (0 : Int32))))
noncomputable def wX12_spreads_2b (S : Sh) (a0 : Nat) (x1 : Int32) (Q : Hp → Prop) (B2 : Hp → Int32 → Prop) (h : Hp) (x2 : Int32) : Prop :=
  (((100 : Int32) ≤ x2 →
   (wX12_spreads_j22 S h a0 x1 Q)) ∧
   (¬ (100 : Int32) ≤ x2 →
    (S a0).1 = 13 ∧
    inA S (gR h a0 62) 20 x2 ∧
    (B2 ((pI h (gR h a0 62) (ix x2) (-2 : Int32))) ((x2 + (1 : Int32))))))
noncomputable def wX12_spreads_2 (S : Sh) (a0 : Nat) (x1 : Int32) (Q : Hp → Prop) (n : Nat) : Hp → Int32 → Prop := Nat.rec (motive := fun _ => Hp → Int32 → Prop) (fun _ _ => False) (fun _ B2 h x2 => wX12_spreads_2b S a0 x1 Q B2 h x2) n
noncomputable def wX12_spreads (S : Sh) (h : Hp) (a0 : Nat) (x1 : Int32) (Q : Hp → Prop) : Prop :=
  (∃ n2, wX12_spreads_2 S a0 x1 Q n2 h (0 : Int32))
noncomputable def wX12_reach (S : Sh) (h : Hp) (a0 : Nat) (x1 : Int32) (Q : Int32 → Hp → Prop) : Prop :=
  (S a0).1 = 13 ∧
  (wX12_isMachine S ((pI h a0 0 (0 : Int32))) a0 x1 (fun r7 h7 =>
   ((¬ r7 = 0 →
    (wX12_spreads S h7 a0 x1 (fun h21 =>
     (wX12_good S h21 a0 (gI h21 a0 64) (fun r29 h29 =>
      Q r29 h29))))) ∧
    (r7 = 0 →
     (wX12_refused S h7 a0 (1 : Int32) (fun r15 h15 =>
      Q r15 h15))))))
noncomputable def wX12_run_40b (S : Sh) (a0 : Nat) (x1 : Int32) (Q : Int32 → Hp → Prop) (B40 : Hp → Int32 → Prop) (h : Hp) (x2 : Int32) : Prop :=
  (((100 : Int32) ≤ x2 →
   (S a0).1 = 13 ∧
   (wX12_good S h a0 (gI h a0 57) (fun r100 h100 =>
    Q r100 h100))) ∧
   (¬ (100 : Int32) ≤ x2 →
    (S a0).1 = 13 ∧
    ((x1 ≤ 0 →
     inA S (gR h a0 59) 22 x2 ∧
     (B40 ((pI h (gR h a0 59) (ix x2) (((0 : Int32) &&& 1)))) ((x2 + (1 : Int32))))) ∧
     (¬ x1 ≤ 0 →
      (wX12_beginOf S h a0 ((x1 - (1 : Int32))) (fun r60 h60 =>
       ((¬ x2 = r60 →
        inA S (gR h a0 59) 22 x2 ∧
        (B40 ((pI h60 (gR h a0 59) (ix x2) (((0 : Int32) &&& 1)))) ((x2 + (1 : Int32))))) ∧
        (x2 = r60 →
         (wX12_pair S h60 x1 x2 (gI h60 a0 57) (fun r76 h76 =>
          inA S (gR h60 a0 48) 22 r76 ∧
          (((gI h76 (gR h60 a0 48) (ix r76)) = 0 →
           inA S (gR h a0 59) 22 x2 ∧
           (B40 ((pI h76 (gR h a0 59) (ix x2) (((0 : Int32) &&& 1)))) ((x2 + (1 : Int32))))) ∧
           (¬ (gI h76 (gR h60 a0 48) (ix r76)) = 0 →
            inA S (gR h a0 59) 22 x2 ∧
            (B40 ((pI h76 (gR h a0 59) (ix x2) (((1 : Int32) &&& 1)))) ((x2 + (1 : Int32))))))))))))))))
noncomputable def wX12_run_40 (S : Sh) (a0 : Nat) (x1 : Int32) (Q : Int32 → Hp → Prop) (n : Nat) : Hp → Int32 → Prop := Nat.rec (motive := fun _ => Hp → Int32 → Prop) (fun _ _ => False) (fun _ B40 h x2 => wX12_run_40b S a0 x1 Q B40 h x2) n
noncomputable def wX12_run (S : Sh) (h : Hp) (a0 : Nat) (x1 : Int32) (Q : Int32 → Hp → Prop) : Prop :=
  (S a0).1 = 13 ∧
  (wX12_isMachine S ((pI h a0 0 (0 : Int32))) a0 x1 (fun r7 h7 =>
   ((¬ r7 = 0 →
    (wX12_beginOf S (pI h7 a0 56 x1) a0 x1 (fun r27 h27 =>
     ∀ h30 : Hp, h30 = (pI h27 a0 57 r27) →
     (∃ n40, wX12_run_40 S a0 x1 Q n40 ((pI h30 a0 58 (0 : Int32))) (0 : Int32))))) ∧
    (r7 = 0 →
     (wX12_refused S h7 a0 (1 : Int32) (fun r15 h15 =>
      Q r15 h15))))))
noncomputable def wX12_shown (S : Sh) (h : Hp) (a0 : Nat) (x1 : Int32) (Q : Int32 → Hp → Prop) : Prop :=
  (S a0).1 = 13 ∧
  (wX12_in S ((pI h a0 0 (0 : Int32))) x1 (0 : Int32) (2 : Int32) (fun r8 h8 =>
   ((¬ r8 = 0 →
    ((¬ (gI h8 a0 53) = 0 →
     ((¬ x1 = 0 →
      ((¬ x1 = (1 : Int32) →
       (wX12_good S h8 a0 (gI h8 a0 52) (fun r60 h60 =>
        Q r60 h60))) ∧
       (x1 = (1 : Int32) →
        (wX12_good S h8 a0 (gI h8 a0 51) (fun r60 h60 =>
         Q r60 h60))))) ∧
      (x1 = 0 →
       (wX12_good S h8 a0 (gI h8 a0 50) (fun r60 h60 =>
        Q r60 h60))))) ∧
     ((gI h8 a0 53) = 0 →
      (wX12_good S h8 a0 (-2 : Int32) (fun r60 h60 =>
       Q r60 h60))))) ∧
    (r8 = 0 →
     (wX12_refused S h8 a0 (1 : Int32) (fun r16 h16 =>
      Q r16 h16))))))
noncomputable def wX12_size (S : Sh) (h : Hp) (a0 : Nat) (Q : Int32 → Hp → Prop) : Prop :=
  (S a0).1 = 13 ∧
  ∀ h2 : Hp, h2 = (pI h a0 0 (0 : Int32)) →
  Q (gI h2 a0 4) h2
noncomputable def wX12_sound_j34 (S : Sh) (h : Hp) (s0 : Nat) (s1 : Int32) (Q : Int32 → Hp → Prop) : Prop :=
  (S s0).1 = 13 ∧
  (wX12_good S h s0 s1 (fun r34 h34 =>
   Q r34 h34))
noncomputable def wX12_sound (S : Sh) (h : Hp) (a0 : Nat) (x1 : Int32) (x2 : Int32) (Q : Int32 → Hp → Prop) : Prop :=
  (S a0).1 = 13 ∧
  (wX12_isState S ((pI h a0 0 (0 : Int32))) a0 x1 x2 (fun r8 h8 =>
   ((r8 = 0 →
    (wX12_refused S h8 a0 (1 : Int32) (fun r42 h42 =>
     Q r42 h42))) ∧
    (¬ r8 = 0 →
     inA S (gR h8 a0 47) 22 ((((100 : Int32) * x1) + x2)) ∧
     (((gI h8 (gR h8 a0 47) (ix ((((100 : Int32) * x1) + x2)))) = 0 →
      (wX12_sound_j34 S h8 a0 (0 : Int32) Q)) ∧
      (¬ (gI h8 (gR h8 a0 47) (ix ((((100 : Int32) * x1) + x2)))) = 0 →
       (wX12_sound_j34 S h8 a0 (1 : Int32) Q)))))))
noncomputable def wX12_step (S : Sh) (h : Hp) (a0 : Nat) (x1 : Int32) (x2 : Int32) (Q : Int32 → Hp → Prop) : Prop :=
  (S a0).1 = 13 ∧
  ∀ h2 : Hp, h2 = (pI h a0 0 (0 : Int32)) →
  (((gI h2 a0 56) = (-1 : Int32) →
   (wX12_refused S h2 a0 (1 : Int32) (fun r27 h27 =>
    Q r27 h27))) ∧
   (¬ (gI h2 a0 56) = (-1 : Int32) →
    (wX12_isEvent S h2 a0 (gI h2 a0 56) x1 (fun r19 h19 =>
     ((¬ r19 = 0 →
      (wX12_isPick S h19 a0 (gI h19 a0 56) x1 x2 (fun r38 h38 =>
       ((¬ r38 = 0 →
        (wX12_goes S h38 a0 (gI h38 a0 56) x1 (gI h38 a0 57) x2 (fun r61 h61 =>
         ((¬ r61 = 0 →
          (wX12_makes S h61 a0 x1 x2 (fun h76 =>
           (wX12_good S h76 a0 (gI h76 a0 57) (fun r84 h84 =>
            Q r84 h84))))) ∧
          (r61 = 0 →
           (wX12_refused S h61 a0 (5 : Int32) (fun r69 h69 =>
            Q r69 h69))))))) ∧
        (r38 = 0 →
         (wX12_refused S h38 a0 (2 : Int32) (fun r46 h46 =>
          Q r46 h46))))))) ∧
      (r19 = 0 →
       (wX12_refused S h19 a0 (1 : Int32) (fun r27 h27 =>
        Q r27 h27))))))))
noncomputable def wX12_steps (S : Sh) (h : Hp) (a0 : Nat) (x1 : Int32) (x2 : Int32) (Q : Int32 → Hp → Prop) : Prop :=
  (S a0).1 = 13 ∧
  (wX12_isState S ((pI h a0 0 (0 : Int32))) a0 x1 x2 (fun r8 h8 =>
   ((¬ r8 = 0 →
    (wX12_spreads S h8 a0 x1 (fun h22 =>
     inA S (gR h22 a0 62) 20 x2 ∧
     (wX12_good S h22 a0 ((gI h22 (gR h22 a0 62) (ix x2))) (fun r32 h32 =>
      Q r32 h32))))) ∧
    (r8 = 0 →
     (wX12_refused S h8 a0 (1 : Int32) (fun r16 h16 =>
      Q r16 h16))))))
noncomputable def wX12_stuck_29b (S : Sh) (a0 : Nat) (x1 : Int32) (Q : Int32 → Hp → Prop) (B29 : Hp → Int32 → Int32 → Prop) (h : Hp) (x2 : Int32) (x3 : Int32) : Prop :=
  (S a0).1 = 13 ∧
  inA S (gR h a0 20) 20 x1 ∧
  (((gI h (gR h a0 20) (ix x1)) ≤ x3 →
   (wX12_good S h a0 x2 (fun r90 h90 =>
    Q r90 h90))) ∧
   (¬ (gI h (gR h a0 20) (ix x1)) ≤ x3 →
    inA S (gR h a0 62) 20 x3 ∧
    (((gI h (gR h a0 62) (ix x3)) = (-2 : Int32) →
     (B29 h x2 ((x3 + (1 : Int32))))) ∧
     (¬ (gI h (gR h a0 62) (ix x3)) = (-2 : Int32) →
      (wX12_leads S h a0 x1 x3 (fun r53 h53 =>
       ((¬ r53 = 0 →
        (B29 h53 x2 ((x3 + (1 : Int32))))) ∧
        (r53 = 0 →
         ((x2 = (-2 : Int32) →
          (B29 h53 x3 ((x3 + (1 : Int32))))) ∧
          (¬ x2 = (-2 : Int32) →
           inA S (gR h53 a0 62) 20 x3 ∧
           inA S (gR h53 a0 62) 20 x2 ∧
           (((gI h53 (gR h53 a0 62) (ix x2)) ≤ (gI h53 (gR h53 a0 62) (ix x3)) →
            (B29 h53 x2 ((x3 + (1 : Int32))))) ∧
            (¬ (gI h53 (gR h53 a0 62) (ix x2)) ≤ (gI h53 (gR h53 a0 62) (ix x3)) →
             (B29 h53 x3 ((x3 + (1 : Int32))))))))))))))))
noncomputable def wX12_stuck_29 (S : Sh) (a0 : Nat) (x1 : Int32) (Q : Int32 → Hp → Prop) (n : Nat) : Hp → Int32 → Int32 → Prop := Nat.rec (motive := fun _ => Hp → Int32 → Int32 → Prop) (fun _ _ _ => False) (fun _ B29 h x2 x3 => wX12_stuck_29b S a0 x1 Q B29 h x2 x3) n
noncomputable def wX12_stuck (S : Sh) (h : Hp) (a0 : Nat) (x1 : Int32) (Q : Int32 → Hp → Prop) : Prop :=
  (S a0).1 = 13 ∧
  (wX12_isMachine S ((pI h a0 0 (0 : Int32))) a0 x1 (fun r7 h7 =>
   ((¬ r7 = 0 →
    (wX12_spreads S h7 a0 x1 (fun h21 =>
     (∃ n29, wX12_stuck_29 S a0 x1 Q n29 h21 (-2 : Int32) (0 : Int32))))) ∧
    (r7 = 0 →
     (wX12_refused S h7 a0 (1 : Int32) (fun r15 h15 =>
      Q r15 h15))))))
noncomputable def wX12_thrown (S : Sh) (h : Hp) (a0 : Nat) (Q : Int32 → Hp → Prop) : Prop :=
  (S a0).1 = 13 ∧
  Q (gI h a0 0) h
noncomputable def wX12_trouble (S : Sh) (h : Hp) (a0 : Nat) (Q : Int32 → Hp → Prop) : Prop :=
  (S a0).1 = 13 ∧
  ∀ h2 : Hp, h2 = (pI h a0 0 (0 : Int32)) →
  Q (gI h2 a0 1) h2
noncomputable def wX12_unsound_28b (S : Sh) (a0 : Nat) (x1 : Int32) (Q : Int32 → Hp → Prop) (B28 : Hp → Int32 → Int32 → Prop) (h : Hp) (x2 : Int32) (x3 : Int32) : Prop :=
  (S a0).1 = 13 ∧
  (((gI h a0 64) ≤ x3 →
   (wX12_good S h a0 x2 (fun r71 h71 =>
    Q r71 h71))) ∧
   (¬ (gI h a0 64) ≤ x3 →
    inA S (gR h a0 63) 20 x3 ∧
    inA S (gR h a0 47) 22 ((((100 : Int32) * x1) + (gI h (gR h a0 63) (ix x3)))) ∧
    (((gI h (gR h a0 47) (ix ((((100 : Int32) * x1) + (gI h (gR h a0 63) (ix x3)))))) = 0 →
     (B28 h ((x2 + (1 : Int32))) ((x3 + (1 : Int32))))) ∧
     (¬ (gI h (gR h a0 47) (ix ((((100 : Int32) * x1) + (gI h (gR h a0 63) (ix x3)))))) = 0 →
      (B28 h ((x2 + (0 : Int32))) ((x3 + (1 : Int32))))))))
noncomputable def wX12_unsound_28 (S : Sh) (a0 : Nat) (x1 : Int32) (Q : Int32 → Hp → Prop) (n : Nat) : Hp → Int32 → Int32 → Prop := Nat.rec (motive := fun _ => Hp → Int32 → Int32 → Prop) (fun _ _ _ => False) (fun _ B28 h x2 x3 => wX12_unsound_28b S a0 x1 Q B28 h x2 x3) n
noncomputable def wX12_unsound (S : Sh) (h : Hp) (a0 : Nat) (x1 : Int32) (Q : Int32 → Hp → Prop) : Prop :=
  (S a0).1 = 13 ∧
  (wX12_isMachine S ((pI h a0 0 (0 : Int32))) a0 x1 (fun r7 h7 =>
   ((¬ r7 = 0 →
    (wX12_spreads S h7 a0 x1 (fun h21 =>
     (∃ n28, wX12_unsound_28 S a0 x1 Q n28 h21 (0 : Int32) (0 : Int32))))) ∧
    (r7 = 0 →
     (wX12_refused S h7 a0 (1 : Int32) (fun r15 h15 =>
      Q r15 h15))))))
noncomputable def wX12_value (S : Sh) (h : Hp) (a0 : Nat) (x1 : Int32) (x2 : Int32) (x3 : Int32) (Q : Int32 → Hp → Prop) : Prop :=
  (S a0).1 = 13 ∧
  (wX12_isState S ((pI h a0 0 (0 : Int32))) a0 x1 x2 (fun r8 h8 =>
   ((r8 = 0 →
    (wX12_refused S h8 a0 (1 : Int32) (fun r39 h39 =>
     Q r39 h39))) ∧
    (¬ r8 = 0 →
     (wX12_isVar S h8 a0 x1 x3 (fun r17 h17 =>
      ((r17 = 0 →
       (wX12_refused S h17 a0 (1 : Int32) (fun r39 h39 =>
        Q r39 h39))) ∧
       (¬ r17 = 0 →
        (wX12_valueOf S h17 a0 x1 x2 x3 (fun r28 h28 =>
         (wX12_good S h28 a0 r28 (fun r31 h31 =>
          Q r31 h31))))))))))))
noncomputable def wX12_variable (S : Sh) (h : Hp) (a0 : Nat) (x1 : Int32) (x2 : Int32) (x3 : Int32) (Q : Int32 → Hp → Prop) : Prop :=
  (S a0).1 = 13 ∧
  (wX12_isVar S ((pI h a0 0 (0 : Int32))) a0 x1 x2 (fun r8 h8 =>
   ((¬ r8 = 0 →
    ∀ xv25 : Int32, xv25 = (((3 : Int32) * x1) + x2) →
    ((x3 = (0 : Int32) →
     inA S (gR h8 a0 23) 20 xv25 ∧
     (wX12_good S h8 a0 ((gI h8 (gR h8 a0 23) (ix xv25))) (fun r64 h64 =>
      Q r64 h64))) ∧
     (¬ x3 = (0 : Int32) →
      ((x3 = (1 : Int32) →
       inA S (gR h8 a0 24) 20 xv25 ∧
       (wX12_good S h8 a0 ((gI h8 (gR h8 a0 24) (ix xv25))) (fun r76 h76 =>
        Q r76 h76))) ∧
       (¬ x3 = (1 : Int32) →
        ((x3 = (2 : Int32) →
         inA S (gR h8 a0 25) 20 xv25 ∧
         (wX12_good S h8 a0 ((gI h8 (gR h8 a0 25) (ix xv25))) (fun r88 h88 =>
          Q r88 h88))) ∧
         (¬ x3 = (2 : Int32) →
          (wX12_refused S h8 a0 (1 : Int32) (fun r94 h94 =>
           Q r94 h94))))))))) ∧
    (r8 = 0 →
     (wX12_refused S h8 a0 (1 : Int32) (fun r16 h16 =>
      Q r16 h16))))))
noncomputable def wX12_variant_j33 (S : Sh) (h : Hp) (a0 : Nat) (x1 : Int32) (x2 : Int32) (s0 : Int32) (Q : Int32 → Hp → Prop) : Prop :=
  ((¬ s0 = 0 →
   (S a0).1 = 13 ∧
   (wX12_refused S h a0 s0 (fun r51 h51 =>
    Q (0 : Int32) h51))) ∧
   (s0 = 0 →
    (S a0).1 = 13 ∧
    (wX12_variantOf S h a0 x1 x2 (fun r42 h42 =>
     (wX12_good S h42 a0 r42 (fun r45 h45 =>
      Q r45 h45))))))
noncomputable def wX12_variant (S : Sh) (h : Hp) (a0 : Nat) (x1 : Int32) (x2 : Int32) (Q : Int32 → Hp → Prop) : Prop :=
  (S a0).1 = 13 ∧
  (wX12_isState S ((pI h a0 0 (0 : Int32))) a0 x1 x2 (fun r8 h8 =>
   ((¬ r8 = 0 →
    inA S (gR h8 a0 21) 20 x1 ∧
    ((¬ (gI h8 (gR h8 a0 21) (ix x1)) = (-1 : Int32) →
     (wX12_variant_j33 S h8 a0 x1 x2 (0 : Int32) Q)) ∧
     ((gI h8 (gR h8 a0 21) (ix x1)) = (-1 : Int32) →
      (wX12_variant_j33 S h8 a0 x1 x2 (5 : Int32) Q)))) ∧
    (r8 = 0 →
     (wX12_variant_j33 S h8 a0 x1 x2 (1 : Int32) Q)))))
noncomputable def wX12_where (S : Sh) (h : Hp) (a0 : Nat) (Q : Int32 → Hp → Prop) : Prop :=
  (S a0).1 = 13 ∧
  ∀ h2 : Hp, h2 = (pI h a0 0 (0 : Int32)) →
  Q (gI h2 a0 2) h2
noncomputable def wX12_write_j44 (S : Sh) (h : Hp) (a0 : Nat) (Q : Int32 → Hp → Prop) : Prop :=
  (S a0).1 = 13 ∧
  (wX12_inksState S h a0 (gI h a0 49) (gI h a0 51) (fun h53 =>
   (wX12_inks S h53 a0 (112 : Int32) (fun h59 =>
    (wX12_inks S h59 a0 (105 : Int32) (fun h65 =>
     (wX12_inks S h65 a0 (99 : Int32) (fun h71 =>
      (wX12_inks S h71 a0 (107 : Int32) (fun h77 =>
       (wX12_inks S h77 a0 (61 : Int32) (fun h83 =>
        (wX12_inksNumber S h83 a0 (gI h83 a0 52) (fun h91 =>
         (wX12_good S h91 a0 (gI h91 a0 55) (fun r99 h99 =>
          Q r99 h99))))))))))))))))
noncomputable def wX12_write (S : Sh) (h : Hp) (a0 : Nat) (Q : Int32 → Hp → Prop) : Prop :=
  (S a0).1 = 13 ∧
  ∀ h2 : Hp, h2 = (pI h a0 0 (0 : Int32)) →
  ((¬ (gI h2 a0 53) = 0 →
   ∀ h20 : Hp, h20 = (pI h2 a0 55 (0 : Int32)) →
   (((gI h20 a0 49) ≤ 0 →
    (wX12_write_j44 S h20 a0 Q)) ∧
    (¬ (gI h20 a0 49) ≤ 0 →
     (wX12_inksState S h20 a0 (((gI h20 a0 49) - (1 : Int32))) (gI h20 a0 50) (fun h41 =>
      (wX12_write_j44 S h41 a0 Q)))))) ∧
   ((gI h2 a0 53) = 0 →
    (wX12_refused S h2 a0 (5 : Int32) (fun r14 h14 =>
     Q r14 h14))))
noncomputable def wL_law_j1379 (S : Sh) (K : Nat → Nat) (xs : Nat → Int32) (Ls : Nat) (B23 : Nat → Nat → Hp → Int32 → Prop) (nc ns : Nat) (h : Hp) (a1 : Nat) (a2 : Nat) (a3 : Nat) (x4 : Int32) (Q : Int32 → Hp → Prop) : Prop :=
  (B23 nc ns h ((x4 + (6 : Int32))))
noncomputable def wL_law_j1294 (S : Sh) (K : Nat → Nat) (xs : Nat → Int32) (Ls : Nat) (B23 : Nat → Nat → Hp → Int32 → Prop) (nc ns : Nat) (h : Hp) (a1 : Nat) (a2 : Nat) (a3 : Nat) (x4 : Int32) (s0 : Int32) (s1 : Nat) (s2 : Int32) (s3 : Int32) (s4 : Int32) (Q : Int32 → Hp → Prop) : Prop :=
  nc ≤ 600002 ∧
  ns ≤ 7302232 ∧
  (S s1).1 = 13 ∧
  (wX12_aside S h s1 s2 s3 s4 (fun r1294 h1294 =>
   ((s0 = r1294 →
    (B23 nc ns h1294 ((x4 + (6 : Int32))))) ∧
    (¬ s0 = r1294 →
     Q (0 : Int32) h1294))))
noncomputable def wL_law_j1264 (S : Sh) (K : Nat → Nat) (xs : Nat → Int32) (Ls : Nat) (B23 : Nat → Nat → Hp → Int32 → Prop) (nc ns : Nat) (h : Hp) (a1 : Nat) (a2 : Nat) (a3 : Nat) (x4 : Int32) (s0 : Nat) (s1 : Int32) (s2 : Int32) (s3 : Int32) (Q : Int32 → Hp → Prop) : Prop :=
  nc ≤ 600002 ∧
  ns ≤ 7302232 ∧
  (S s0).1 = 12 ∧
  (wX11_aside S h s0 s1 s2 s3 (fun r1264 h1264 =>
   vp_in ((x4 + (1 : Int32))) Ls ∧
   vp_in ((x4 + (2 : Int32))) Ls ∧
   vp_in ((x4 + (3 : Int32))) Ls ∧
   (((xs (ix ((x4 + (3 : Int32))))) = 0 →
    (wL_law_j1294 S K xs Ls B23 nc ns h1264 a1 a2 a3 x4 r1264 a2 ((xs (ix ((x4 + (1 : Int32)))))) ((xs (ix ((x4 + (2 : Int32)))))) (0 : Int32) Q)) ∧
    (¬ (xs (ix ((x4 + (3 : Int32))))) = 0 →
     (wL_law_j1294 S K xs Ls B23 nc ns h1264 a1 a2 a3 x4 r1264 a2 ((xs (ix ((x4 + (1 : Int32)))))) ((xs (ix ((x4 + (2 : Int32)))))) (1 : Int32) Q)))))
noncomputable def wL_law_23b (S : Sh) (K : Nat → Nat) (xs : Nat → Int32) (Ls : Nat) (a1 : Nat) (a2 : Nat) (a3 : Nat) (Q : Int32 → Hp → Prop) (B23 : Nat → Nat → Hp → Int32 → Prop) (nc ns : Nat) (h : Hp) (x4 : Int32) : Prop :=
  ((((nI Ls) - (6 : Int32)) < x4 →
   nc ≤ 600002 ∧
   ns ≤ 7302232 ∧
   Q (1 : Int32) h) ∧
   (¬ ((nI Ls) - (6 : Int32)) < x4 →
    vp_in x4 Ls ∧
    ((((xs (ix x4)) &&& (63 : Int32)) = (0 : Int32) →
     vp_in ((x4 + (1 : Int32))) Ls ∧
     vp_in ((x4 + (2 : Int32))) Ls ∧
     vp_in ((x4 + (3 : Int32))) Ls ∧
     vp_in ((x4 + (4 : Int32))) Ls ∧
     vp_in ((x4 + (5 : Int32))) Ls ∧
     nc ≤ 600002 ∧
     ns ≤ 7302232 ∧
     (S a1).1 = 12 ∧
     (wX11_feed S h a1 ((xs (ix ((x4 + (1 : Int32)))))) ((xs (ix ((x4 + (2 : Int32)))))) ((xs (ix ((x4 + (3 : Int32)))))) ((xs (ix ((x4 + (4 : Int32)))))) ((xs (ix ((x4 + (5 : Int32)))))) (fun r219 h219 =>
      (S a2).1 = 13 ∧
      (wX12_feed S h219 a2 ((xs (ix ((x4 + (1 : Int32)))))) ((xs (ix ((x4 + (2 : Int32)))))) ((xs (ix ((x4 + (3 : Int32)))))) ((xs (ix ((x4 + (4 : Int32)))))) ((xs (ix ((x4 + (5 : Int32)))))) (fun r253 h253 =>
       ((r219 = r253 →
        (B23 nc ns h253 ((x4 + (6 : Int32))))) ∧
        (¬ r219 = r253 →
         Q (0 : Int32) h253))))))) ∧
     (¬ ((xs (ix x4)) &&& (63 : Int32)) = (0 : Int32) →
      ((((xs (ix x4)) &&& (63 : Int32)) = (1 : Int32) →
       vp_in ((x4 + (1 : Int32))) Ls ∧
       nc ≤ 600002 ∧
       ns ≤ 7302232 ∧
       (S a1).1 = 12 ∧
       (wX11_machines S h a1 ((xs (ix ((x4 + (1 : Int32)))))) (fun r268 h268 =>
        (S a2).1 = 13 ∧
        (wX12_machines S K h268 a2 ((xs (ix ((x4 + (1 : Int32)))))) (fun r278 h278 =>
         ((r268 = r278 →
          (B23 nc ns h278 ((x4 + (6 : Int32))))) ∧
          (¬ r268 = r278 →
           Q (0 : Int32) h278))))))) ∧
       (¬ ((xs (ix x4)) &&& (63 : Int32)) = (1 : Int32) →
        ((((xs (ix x4)) &&& (63 : Int32)) = (2 : Int32) →
         nc ≤ 600002 ∧
         ns ≤ 7302232 ∧
         (S a1).1 = 12 ∧
         (wX11_fault S h a1 (fun r287 h287 =>
          (S a2).1 = 13 ∧
          (wX12_fault S h287 a2 (fun r291 h291 =>
           ((r287 = r291 →
            (B23 nc ns h291 ((x4 + (6 : Int32))))) ∧
            (¬ r287 = r291 →
             Q (0 : Int32) h291))))))) ∧
         (¬ ((xs (ix x4)) &&& (63 : Int32)) = (2 : Int32) →
          ((((xs (ix x4)) &&& (63 : Int32)) = (3 : Int32) →
           nc ≤ 600002 ∧
           ns ≤ 7302232 ∧
           (S a1).1 = 12 ∧
           (wX11_where S h a1 (fun r300 h300 =>
            (S a2).1 = 13 ∧
            (wX12_where S h300 a2 (fun r304 h304 =>
             ((r300 = r304 →
              (B23 nc ns h304 ((x4 + (6 : Int32))))) ∧
              (¬ r300 = r304 →
               Q (0 : Int32) h304))))))) ∧
           (¬ ((xs (ix x4)) &&& (63 : Int32)) = (3 : Int32) →
            ((((xs (ix x4)) &&& (63 : Int32)) = (4 : Int32) →
             vp_in ((x4 + (1 : Int32))) Ls ∧
             vp_in ((x4 + (2 : Int32))) Ls ∧
             nc ≤ 600002 ∧
             ns ≤ 7302232 ∧
             (S a1).1 = 12 ∧
             (wX11_machine S h a1 ((xs (ix ((x4 + (1 : Int32)))))) ((xs (ix ((x4 + (2 : Int32)))))) (fun r325 h325 =>
              (S a2).1 = 13 ∧
              (wX12_machine S h325 a2 ((xs (ix ((x4 + (1 : Int32)))))) ((xs (ix ((x4 + (2 : Int32)))))) (fun r341 h341 =>
               ((r325 = r341 →
                (B23 nc ns h341 ((x4 + (6 : Int32))))) ∧
                (¬ r325 = r341 →
                 Q (0 : Int32) h341))))))) ∧
             (¬ ((xs (ix x4)) &&& (63 : Int32)) = (4 : Int32) →
              ((((xs (ix x4)) &&& (63 : Int32)) = (5 : Int32) →
               vp_in ((x4 + (1 : Int32))) Ls ∧
               vp_in ((x4 + (2 : Int32))) Ls ∧
               vp_in ((x4 + (3 : Int32))) Ls ∧
               nc ≤ 600002 ∧
               ns ≤ 7302232 ∧
               (S a1).1 = 12 ∧
               (wX11_variable S h a1 ((xs (ix ((x4 + (1 : Int32)))))) ((xs (ix ((x4 + (2 : Int32)))))) ((xs (ix ((x4 + (3 : Int32)))))) (fun r368 h368 =>
                (S a2).1 = 13 ∧
                (wX12_variable S h368 a2 ((xs (ix ((x4 + (1 : Int32)))))) ((xs (ix ((x4 + (2 : Int32)))))) ((xs (ix ((x4 + (3 : Int32)))))) (fun r390 h390 =>
                 ((r368 = r390 →
                  (B23 nc ns h390 ((x4 + (6 : Int32))))) ∧
                  (¬ r368 = r390 →
                   Q (0 : Int32) h390))))))) ∧
               (¬ ((xs (ix x4)) &&& (63 : Int32)) = (5 : Int32) →
                ((((xs (ix x4)) &&& (63 : Int32)) = (6 : Int32) →
                 vp_in ((x4 + (1 : Int32))) Ls ∧
                 vp_in ((x4 + (2 : Int32))) Ls ∧
                 vp_in ((x4 + (3 : Int32))) Ls ∧
                 nc ≤ 600002 ∧
                 ns ≤ 7302232 ∧
                 (S a1).1 = 12 ∧
                 (wX11_event S h a1 ((xs (ix ((x4 + (1 : Int32)))))) ((xs (ix ((x4 + (2 : Int32)))))) ((xs (ix ((x4 + (3 : Int32)))))) (fun r417 h417 =>
                  (S a2).1 = 13 ∧
                  (wX12_event S h417 a2 ((xs (ix ((x4 + (1 : Int32)))))) ((xs (ix ((x4 + (2 : Int32)))))) ((xs (ix ((x4 + (3 : Int32)))))) (fun r439 h439 =>
                   ((r417 = r439 →
                    (B23 nc ns h439 ((x4 + (6 : Int32))))) ∧
                    (¬ r417 = r439 →
                     Q (0 : Int32) h439))))))) ∧
                 (¬ ((xs (ix x4)) &&& (63 : Int32)) = (6 : Int32) →
                  ((((xs (ix x4)) &&& (63 : Int32)) = (7 : Int32) →
                   vp_in ((x4 + (1 : Int32))) Ls ∧
                   vp_in ((x4 + (2 : Int32))) Ls ∧
                   vp_in ((x4 + (3 : Int32))) Ls ∧
                   nc ≤ 600002 ∧
                   ns ≤ 7302232 ∧
                   (S a1).1 = 12 ∧
                   (wX11_value S h a1 ((xs (ix ((x4 + (1 : Int32)))))) ((xs (ix ((x4 + (2 : Int32)))))) ((xs (ix ((x4 + (3 : Int32)))))) (fun r466 h466 =>
                    (S a2).1 = 13 ∧
                    (wX12_value S h466 a2 ((xs (ix ((x4 + (1 : Int32)))))) ((xs (ix ((x4 + (2 : Int32)))))) ((xs (ix ((x4 + (3 : Int32)))))) (fun r488 h488 =>
                     ((r466 = r488 →
                      (B23 nc ns h488 ((x4 + (6 : Int32))))) ∧
                      (¬ r466 = r488 →
                       Q (0 : Int32) h488))))))) ∧
                   (¬ ((xs (ix x4)) &&& (63 : Int32)) = (7 : Int32) →
                    ((((xs (ix x4)) &&& (63 : Int32)) = (8 : Int32) →
                     vp_in ((x4 + (1 : Int32))) Ls ∧
                     vp_in ((x4 + (2 : Int32))) Ls ∧
                     nc ≤ 600002 ∧
                     ns ≤ 7302232 ∧
                     (S a1).1 = 12 ∧
                     (wX11_sound S h a1 ((xs (ix ((x4 + (1 : Int32)))))) ((xs (ix ((x4 + (2 : Int32)))))) (fun r509 h509 =>
                      (S a2).1 = 13 ∧
                      (wX12_sound S h509 a2 ((xs (ix ((x4 + (1 : Int32)))))) ((xs (ix ((x4 + (2 : Int32)))))) (fun r525 h525 =>
                       ((r509 = r525 →
                        (B23 nc ns h525 ((x4 + (6 : Int32))))) ∧
                        (¬ r509 = r525 →
                         Q (0 : Int32) h525))))))) ∧
                     (¬ ((xs (ix x4)) &&& (63 : Int32)) = (8 : Int32) →
                      ((((xs (ix x4)) &&& (63 : Int32)) = (9 : Int32) →
                       vp_in ((x4 + (1 : Int32))) Ls ∧
                       vp_in ((x4 + (2 : Int32))) Ls ∧
                       vp_in ((x4 + (3 : Int32))) Ls ∧
                       nc ≤ 600002 ∧
                       ns ≤ 7302232 ∧
                       (S a1).1 = 12 ∧
                       (wX11_glued S h a1 ((xs (ix ((x4 + (1 : Int32)))))) ((xs (ix ((x4 + (2 : Int32)))))) ((xs (ix ((x4 + (3 : Int32)))))) (fun r552 h552 =>
                        (S a2).1 = 13 ∧
                        (wX12_glued S h552 a2 ((xs (ix ((x4 + (1 : Int32)))))) ((xs (ix ((x4 + (2 : Int32)))))) ((xs (ix ((x4 + (3 : Int32)))))) (fun r574 h574 =>
                         ((r552 = r574 →
                          (B23 nc ns h574 ((x4 + (6 : Int32))))) ∧
                          (¬ r552 = r574 →
                           Q (0 : Int32) h574))))))) ∧
                       (¬ ((xs (ix x4)) &&& (63 : Int32)) = (9 : Int32) →
                        ((((xs (ix x4)) &&& (63 : Int32)) = (10 : Int32) →
                         vp_in ((x4 + (1 : Int32))) Ls ∧
                         vp_in ((x4 + (2 : Int32))) Ls ∧
                         vp_in ((x4 + (3 : Int32))) Ls ∧
                         nc ≤ 600002 ∧
                         ns ≤ 7302232 ∧
                         (S a1).1 = 12 ∧
                         (wX11_beneath S h a1 ((xs (ix ((x4 + (1 : Int32)))))) ((xs (ix ((x4 + (2 : Int32)))))) ((xs (ix ((x4 + (3 : Int32)))))) (fun r601 h601 =>
                          (S a2).1 = 13 ∧
                          (wX12_beneath S h601 a2 ((xs (ix ((x4 + (1 : Int32)))))) ((xs (ix ((x4 + (2 : Int32)))))) ((xs (ix ((x4 + (3 : Int32)))))) (fun r623 h623 =>
                           ((r601 = r623 →
                            (B23 nc ns h623 ((x4 + (6 : Int32))))) ∧
                            (¬ r601 = r623 →
                             Q (0 : Int32) h623))))))) ∧
                         (¬ ((xs (ix x4)) &&& (63 : Int32)) = (10 : Int32) →
                          ((((xs (ix x4)) &&& (63 : Int32)) = (11 : Int32) →
                           vp_in ((x4 + (1 : Int32))) Ls ∧
                           vp_in ((x4 + (2 : Int32))) Ls ∧
                           vp_in ((x4 + (3 : Int32))) Ls ∧
                           vp_in ((x4 + (4 : Int32))) Ls ∧
                           nc ≤ 600002 ∧
                           ns ≤ 7302232 ∧
                           (S a1).1 = 12 ∧
                           (wX11_can S h a1 ((xs (ix ((x4 + (1 : Int32)))))) ((xs (ix ((x4 + (2 : Int32)))))) ((xs (ix ((x4 + (3 : Int32)))))) ((xs (ix ((x4 + (4 : Int32)))))) (fun r656 h656 =>
                            (S a2).1 = 13 ∧
                            (wX12_can S h656 a2 ((xs (ix ((x4 + (1 : Int32)))))) ((xs (ix ((x4 + (2 : Int32)))))) ((xs (ix ((x4 + (3 : Int32)))))) ((xs (ix ((x4 + (4 : Int32)))))) (fun r684 h684 =>
                             ((r656 = r684 →
                              (B23 nc ns h684 ((x4 + (6 : Int32))))) ∧
                              (¬ r656 = r684 →
                               Q (0 : Int32) h684))))))) ∧
                           (¬ ((xs (ix x4)) &&& (63 : Int32)) = (11 : Int32) →
                            ((((xs (ix x4)) &&& (63 : Int32)) = (12 : Int32) →
                             vp_in ((x4 + (1 : Int32))) Ls ∧
                             vp_in ((x4 + (2 : Int32))) Ls ∧
                             vp_in ((x4 + (3 : Int32))) Ls ∧
                             vp_in ((x4 + (4 : Int32))) Ls ∧
                             nc ≤ 600002 ∧
                             ns ≤ 7302232 ∧
                             (S a1).1 = 12 ∧
                             (wX11_gives S h a1 ((xs (ix ((x4 + (1 : Int32)))))) ((xs (ix ((x4 + (2 : Int32)))))) ((xs (ix ((x4 + (3 : Int32)))))) ((xs (ix ((x4 + (4 : Int32)))))) (fun r717 h717 =>
                              (S a2).1 = 13 ∧
                              (wX12_gives S h717 a2 ((xs (ix ((x4 + (1 : Int32)))))) ((xs (ix ((x4 + (2 : Int32)))))) ((xs (ix ((x4 + (3 : Int32)))))) ((xs (ix ((x4 + (4 : Int32)))))) (fun r745 h745 =>
                               ((r717 = r745 →
                                (B23 nc ns h745 ((x4 + (6 : Int32))))) ∧
                                (¬ r717 = r745 →
                                 Q (0 : Int32) h745))))))) ∧
                             (¬ ((xs (ix x4)) &&& (63 : Int32)) = (12 : Int32) →
                              ((((xs (ix x4)) &&& (63 : Int32)) = (13 : Int32) →
                               vp_in ((x4 + (1 : Int32))) Ls ∧
                               vp_in ((x4 + (2 : Int32))) Ls ∧
                               nc ≤ 600002 ∧
                               ns ≤ 7302232 ∧
                               (S a1).1 = 12 ∧
                               (wX11_variant S h a1 ((xs (ix ((x4 + (1 : Int32)))))) ((xs (ix ((x4 + (2 : Int32)))))) (fun r766 h766 =>
                                (S a2).1 = 13 ∧
                                (wX12_variant S h766 a2 ((xs (ix ((x4 + (1 : Int32)))))) ((xs (ix ((x4 + (2 : Int32)))))) (fun r782 h782 =>
                                 ((r766 = r782 →
                                  (B23 nc ns h782 ((x4 + (6 : Int32))))) ∧
                                  (¬ r766 = r782 →
                                   Q (0 : Int32) h782))))))) ∧
                               (¬ ((xs (ix x4)) &&& (63 : Int32)) = (13 : Int32) →
                                ((((xs (ix x4)) &&& (63 : Int32)) = (14 : Int32) →
                                 vp_in ((x4 + (1 : Int32))) Ls ∧
                                 vp_in ((x4 + (2 : Int32))) Ls ∧
                                 vp_in ((x4 + (3 : Int32))) Ls ∧
                                 nc ≤ 600002 ∧
                                 ns ≤ 7302232 ∧
                                 (S a1).1 = 12 ∧
                                 (wX11_duty S h a1 ((xs (ix ((x4 + (1 : Int32)))))) ((xs (ix ((x4 + (2 : Int32)))))) ((xs (ix ((x4 + (3 : Int32)))))) (fun r809 h809 =>
                                  (S a2).1 = 13 ∧
                                  (wX12_duty S h809 a2 ((xs (ix ((x4 + (1 : Int32)))))) ((xs (ix ((x4 + (2 : Int32)))))) ((xs (ix ((x4 + (3 : Int32)))))) (fun r831 h831 =>
                                   ((r809 = r831 →
                                    (B23 nc ns h831 ((x4 + (6 : Int32))))) ∧
                                    (¬ r809 = r831 →
                                     Q (0 : Int32) h831))))))) ∧
                                 (¬ ((xs (ix x4)) &&& (63 : Int32)) = (14 : Int32) →
                                  ((((xs (ix x4)) &&& (63 : Int32)) = (15 : Int32) →
                                   vp_in ((x4 + (1 : Int32))) Ls ∧
                                   nc ≤ 600002 ∧
                                   ns ≤ 7302232 ∧
                                   (S a1).1 = 12 ∧
                                   (wX11_shown S h a1 ((xs (ix ((x4 + (1 : Int32)))))) (fun r846 h846 =>
                                    (S a2).1 = 13 ∧
                                    (wX12_shown S h846 a2 ((xs (ix ((x4 + (1 : Int32)))))) (fun r856 h856 =>
                                     ((r846 = r856 →
                                      (B23 nc ns h856 ((x4 + (6 : Int32))))) ∧
                                      (¬ r846 = r856 →
                                       Q (0 : Int32) h856))))))) ∧
                                   (¬ ((xs (ix x4)) &&& (63 : Int32)) = (15 : Int32) →
                                    ((((xs (ix x4)) &&& (63 : Int32)) = (16 : Int32) →
                                     vp_in ((x4 + (1 : Int32))) Ls ∧
                                     nc ≤ 600002 ∧
                                     ns ≤ 7302232 ∧
                                     (S a1).1 = 12 ∧
                                     (wX11_open S h a1 ((xs (ix ((x4 + (1 : Int32)))))) (fun r871 h871 =>
                                      (S a2).1 = 13 ∧
                                      (wX12_open S h871 a2 ((xs (ix ((x4 + (1 : Int32)))))) (fun r881 h881 =>
                                       ((r871 = r881 →
                                        (B23 nc ns h881 ((x4 + (6 : Int32))))) ∧
                                        (¬ r871 = r881 →
                                         Q (0 : Int32) h881))))))) ∧
                                     (¬ ((xs (ix x4)) &&& (63 : Int32)) = (16 : Int32) →
                                      ((((xs (ix x4)) &&& (63 : Int32)) = (17 : Int32) →
                                       vp_in ((x4 + (1 : Int32))) Ls ∧
                                       vp_in ((x4 + (2 : Int32))) Ls ∧
                                       vp_in ((x4 + (3 : Int32))) Ls ∧
                                       nc ≤ 600002 ∧
                                       ns ≤ 7302232 ∧
                                       (S a1).1 = 12 ∧
                                       (wX11_cases S h a1 ((xs (ix ((x4 + (1 : Int32)))))) ((xs (ix ((x4 + (2 : Int32)))))) ((xs (ix ((x4 + (3 : Int32)))))) (fun r908 h908 =>
                                        (S a2).1 = 13 ∧
                                        (wX12_cases S h908 a2 ((xs (ix ((x4 + (1 : Int32)))))) ((xs (ix ((x4 + (2 : Int32)))))) ((xs (ix ((x4 + (3 : Int32)))))) (fun r930 h930 =>
                                         ((r908 = r930 →
                                          (B23 nc ns h930 ((x4 + (6 : Int32))))) ∧
                                          (¬ r908 = r930 →
                                           Q (0 : Int32) h930))))))) ∧
                                       (¬ ((xs (ix x4)) &&& (63 : Int32)) = (17 : Int32) →
                                        ((((xs (ix x4)) &&& (63 : Int32)) = (18 : Int32) →
                                         nc ≤ 600002 ∧
                                         ns ≤ 7302232 ∧
                                         (S a1).1 = 12 ∧
                                         (wX11_write S K h a1 (fun r939 h939 =>
                                          (S a2).1 = 13 ∧
                                          (wX12_write S h939 a2 (fun r943 h943 =>
                                           ((r939 = r943 →
                                            (B23 nc ns h943 ((x4 + (6 : Int32))))) ∧
                                            (¬ r939 = r943 →
                                             Q (0 : Int32) h943))))))) ∧
                                         (¬ ((xs (ix x4)) &&& (63 : Int32)) = (18 : Int32) →
                                          ((((xs (ix x4)) &&& (63 : Int32)) = (19 : Int32) →
                                           vp_in ((x4 + (1 : Int32))) Ls ∧
                                           nc ≤ 600002 ∧
                                           ns ≤ 7302232 ∧
                                           (S a1).1 = 12 ∧
                                           (wX11_octet S h a1 ((xs (ix ((x4 + (1 : Int32)))))) (fun r958 h958 =>
                                            (S a2).1 = 13 ∧
                                            (wX12_octet S h958 a2 ((xs (ix ((x4 + (1 : Int32)))))) (fun r968 h968 =>
                                             ((r958 = r968 →
                                              (B23 nc ns h968 ((x4 + (6 : Int32))))) ∧
                                              (¬ r958 = r968 →
                                               Q (0 : Int32) h968))))))) ∧
                                           (¬ ((xs (ix x4)) &&& (63 : Int32)) = (19 : Int32) →
                                            ((((xs (ix x4)) &&& (63 : Int32)) = (20 : Int32) →
                                             vp_in ((x4 + (1 : Int32))) Ls ∧
                                             nc ≤ 600002 ∧
                                             ns ≤ 7302232 ∧
                                             (S a1).1 = 12 ∧
                                             (wX11_run S h a1 ((xs (ix ((x4 + (1 : Int32)))))) (fun r983 h983 =>
                                              (S a2).1 = 13 ∧
                                              (wX12_run S h983 a2 ((xs (ix ((x4 + (1 : Int32)))))) (fun r993 h993 =>
                                               ((r983 = r993 →
                                                (B23 nc ns h993 ((x4 + (6 : Int32))))) ∧
                                                (¬ r983 = r993 →
                                                 Q (0 : Int32) h993))))))) ∧
                                             (¬ ((xs (ix x4)) &&& (63 : Int32)) = (20 : Int32) →
                                              ((((xs (ix x4)) &&& (63 : Int32)) = (21 : Int32) →
                                               vp_in ((x4 + (1 : Int32))) Ls ∧
                                               vp_in ((x4 + (2 : Int32))) Ls ∧
                                               nc ≤ 600002 ∧
                                               ns ≤ 7302232 ∧
                                               (S a1).1 = 12 ∧
                                               (wX11_step S h a1 ((xs (ix ((x4 + (1 : Int32)))))) ((xs (ix ((x4 + (2 : Int32)))))) (fun r1014 h1014 =>
                                                (S a2).1 = 13 ∧
                                                (wX12_step S h1014 a2 ((xs (ix ((x4 + (1 : Int32)))))) ((xs (ix ((x4 + (2 : Int32)))))) (fun r1030 h1030 =>
                                                 ((r1014 = r1030 →
                                                  (B23 nc ns h1030 ((x4 + (6 : Int32))))) ∧
                                                  (¬ r1014 = r1030 →
                                                   Q (0 : Int32) h1030))))))) ∧
                                               (¬ ((xs (ix x4)) &&& (63 : Int32)) = (21 : Int32) →
                                                ((((xs (ix x4)) &&& (63 : Int32)) = (22 : Int32) →
                                                 vp_in ((x4 + (1 : Int32))) Ls ∧
                                                 nc ≤ 600002 ∧
                                                 ns ≤ 7302232 ∧
                                                 (S a1).1 = 12 ∧
                                                 (wX11_now S h a1 ((xs (ix ((x4 + (1 : Int32)))))) (fun r1045 h1045 =>
                                                  (S a2).1 = 13 ∧
                                                  (wX12_now S h1045 a2 ((xs (ix ((x4 + (1 : Int32)))))) (fun r1055 h1055 =>
                                                   ((r1045 = r1055 →
                                                    (B23 nc ns h1055 ((x4 + (6 : Int32))))) ∧
                                                    (¬ r1045 = r1055 →
                                                     Q (0 : Int32) h1055))))))) ∧
                                                 (¬ ((xs (ix x4)) &&& (63 : Int32)) = (22 : Int32) →
                                                  ((((xs (ix x4)) &&& (63 : Int32)) = (23 : Int32) →
                                                   vp_in ((x4 + (1 : Int32))) Ls ∧
                                                   nc ≤ 600002 ∧
                                                   ns ≤ 7302232 ∧
                                                   (S a1).1 = 12 ∧
                                                   (wX11_beside S h a1 ((xs (ix ((x4 + (1 : Int32)))))) (fun r1070 h1070 =>
                                                    (S a2).1 = 13 ∧
                                                    (wX12_beside S h1070 a2 ((xs (ix ((x4 + (1 : Int32)))))) (fun r1080 h1080 =>
                                                     ((r1070 = r1080 →
                                                      (B23 nc ns h1080 ((x4 + (6 : Int32))))) ∧
                                                      (¬ r1070 = r1080 →
                                                       Q (0 : Int32) h1080))))))) ∧
                                                   (¬ ((xs (ix x4)) &&& (63 : Int32)) = (23 : Int32) →
                                                    ((((xs (ix x4)) &&& (63 : Int32)) = (24 : Int32) →
                                                     vp_in ((x4 + (1 : Int32))) Ls ∧
                                                     vp_in ((x4 + (2 : Int32))) Ls ∧
                                                     nc ≤ 600002 ∧
                                                     ns ≤ 7302232 ∧
                                                     (S a1).1 = 12 ∧
                                                     (wX11_draws S h a1 ((xs (ix ((x4 + (1 : Int32)))))) ((xs (ix ((x4 + (2 : Int32)))))) (fun r1101 h1101 =>
                                                      (S a2).1 = 13 ∧
                                                      (wX12_draws S h1101 a2 ((xs (ix ((x4 + (1 : Int32)))))) ((xs (ix ((x4 + (2 : Int32)))))) (fun r1117 h1117 =>
                                                       ((r1101 = r1117 →
                                                        (B23 nc ns h1117 ((x4 + (6 : Int32))))) ∧
                                                        (¬ r1101 = r1117 →
                                                         Q (0 : Int32) h1117))))))) ∧
                                                     (¬ ((xs (ix x4)) &&& (63 : Int32)) = (24 : Int32) →
                                                      ((((xs (ix x4)) &&& (63 : Int32)) = (25 : Int32) →
                                                       vp_in ((x4 + (1 : Int32))) Ls ∧
                                                       nc ≤ 600002 ∧
                                                       ns ≤ 7302232 ∧
                                                       (S a1).1 = 12 ∧
                                                       (wX11_reach S h a1 ((xs (ix ((x4 + (1 : Int32)))))) (fun r1132 h1132 =>
                                                        (S a2).1 = 13 ∧
                                                        (wX12_reach S h1132 a2 ((xs (ix ((x4 + (1 : Int32)))))) (fun r1142 h1142 =>
                                                         ((r1132 = r1142 →
                                                          (B23 nc ns h1142 ((x4 + (6 : Int32))))) ∧
                                                          (¬ r1132 = r1142 →
                                                           Q (0 : Int32) h1142))))))) ∧
                                                       (¬ ((xs (ix x4)) &&& (63 : Int32)) = (25 : Int32) →
                                                        ((((xs (ix x4)) &&& (63 : Int32)) = (26 : Int32) →
                                                         vp_in ((x4 + (1 : Int32))) Ls ∧
                                                         vp_in ((x4 + (2 : Int32))) Ls ∧
                                                         nc ≤ 600002 ∧
                                                         ns ≤ 7302232 ∧
                                                         (S a1).1 = 12 ∧
                                                         (wX11_steps S h a1 ((xs (ix ((x4 + (1 : Int32)))))) ((xs (ix ((x4 + (2 : Int32)))))) (fun r1163 h1163 =>
                                                          (S a2).1 = 13 ∧
                                                          (wX12_steps S h1163 a2 ((xs (ix ((x4 + (1 : Int32)))))) ((xs (ix ((x4 + (2 : Int32)))))) (fun r1179 h1179 =>
                                                           ((r1163 = r1179 →
                                                            (B23 nc ns h1179 ((x4 + (6 : Int32))))) ∧
                                                            (¬ r1163 = r1179 →
                                                             Q (0 : Int32) h1179))))))) ∧
                                                         (¬ ((xs (ix x4)) &&& (63 : Int32)) = (26 : Int32) →
                                                          ((((xs (ix x4)) &&& (63 : Int32)) = (27 : Int32) →
                                                           vp_in ((x4 + (1 : Int32))) Ls ∧
                                                           nc ≤ 600002 ∧
                                                           ns ≤ 7302232 ∧
                                                           (S a1).1 = 12 ∧
                                                           (wX11_stuck S h a1 ((xs (ix ((x4 + (1 : Int32)))))) (fun r1194 h1194 =>
                                                            (S a2).1 = 13 ∧
                                                            (wX12_stuck S h1194 a2 ((xs (ix ((x4 + (1 : Int32)))))) (fun r1204 h1204 =>
                                                             ((r1194 = r1204 →
                                                              (B23 nc ns h1204 ((x4 + (6 : Int32))))) ∧
                                                              (¬ r1194 = r1204 →
                                                               Q (0 : Int32) h1204))))))) ∧
                                                           (¬ ((xs (ix x4)) &&& (63 : Int32)) = (27 : Int32) →
                                                            ((((xs (ix x4)) &&& (63 : Int32)) = (28 : Int32) →
                                                             vp_in ((x4 + (1 : Int32))) Ls ∧
                                                             nc ≤ 600002 ∧
                                                             ns ≤ 7302232 ∧
                                                             (S a1).1 = 12 ∧
                                                             (wX11_unsound S h a1 ((xs (ix ((x4 + (1 : Int32)))))) (fun r1219 h1219 =>
                                                              (S a2).1 = 13 ∧
                                                              (wX12_unsound S h1219 a2 ((xs (ix ((x4 + (1 : Int32)))))) (fun r1229 h1229 =>
                                                               ((r1219 = r1229 →
                                                                (B23 nc ns h1229 ((x4 + (6 : Int32))))) ∧
                                                                (¬ r1219 = r1229 →
                                                                 Q (0 : Int32) h1229))))))) ∧
                                                             (¬ ((xs (ix x4)) &&& (63 : Int32)) = (28 : Int32) →
                                                              ((((xs (ix x4)) &&& (63 : Int32)) = (29 : Int32) →
                                                               vp_in ((x4 + (1 : Int32))) Ls ∧
                                                               vp_in ((x4 + (2 : Int32))) Ls ∧
                                                               vp_in ((x4 + (3 : Int32))) Ls ∧
                                                               (((xs (ix ((x4 + (3 : Int32))))) = 0 →
                                                                (wL_law_j1264 S K xs Ls B23 nc ns h a1 a2 a3 x4 a1 ((xs (ix ((x4 + (1 : Int32)))))) ((xs (ix ((x4 + (2 : Int32)))))) (0 : Int32) Q)) ∧
                                                                (¬ (xs (ix ((x4 + (3 : Int32))))) = 0 →
                                                                 (wL_law_j1264 S K xs Ls B23 nc ns h a1 a2 a3 x4 a1 ((xs (ix ((x4 + (1 : Int32)))))) ((xs (ix ((x4 + (2 : Int32)))))) (1 : Int32) Q)))) ∧
                                                               (¬ ((xs (ix x4)) &&& (63 : Int32)) = (29 : Int32) →
                                                                ((((xs (ix x4)) &&& (63 : Int32)) = (30 : Int32) →
                                                                 vp_in ((x4 + (1 : Int32))) Ls ∧
                                                                 vp_in ((x4 + (2 : Int32))) Ls ∧
                                                                 vp_in ((x4 + (3 : Int32))) Ls ∧
                                                                 nc + 1 ≤ 600002 ∧
                                                                 ns + 6 ≤ 7302232 ∧
                                                                 (wL_letter S h a1 ((xs (ix ((x4 + (1 : Int32)))))) ((xs (ix ((x4 + (2 : Int32)))))) ((xs (ix ((x4 + (3 : Int32)))))) a3 (fun r1322 h1322 =>
                                                                  (nc + 1) ≤ 600002 ∧
                                                                  (ns + 6) ≤ 7302232 ∧
                                                                  (S a2).1 = 13 ∧
                                                                  (wX12_letter S h1322 a2 ((xs (ix ((x4 + (1 : Int32)))))) ((xs (ix ((x4 + (2 : Int32)))))) ((xs (ix ((x4 + (3 : Int32)))))) (fun r1346 h1346 =>
                                                                   (wX12_thrown S h1346 a2 (fun r1352 h1352 =>
                                                                    ((r1352 = r1322 →
                                                                     ((¬ r1322 = 0 →
                                                                      (wL_law_j1379 S K xs Ls B23 (nc + 1) (ns + 6) h1352 a1 a2 a3 x4 Q)) ∧
                                                                      (r1322 = 0 →
                                                                       inA S a3 23 (0 : Int32) ∧
                                                                       (((lg_cmp ((gJ h1352 a3 (ix (0 : Int32)))) (r1346.toInt64)) = 0 →
                                                                        (wL_law_j1379 S K xs Ls B23 (nc + 1) (ns + 6) h1352 a1 a2 a3 x4 Q)) ∧
                                                                        (¬ (lg_cmp ((gJ h1352 a3 (ix (0 : Int32)))) (r1346.toInt64)) = 0 →
                                                                         Q (0 : Int32) h1352))))) ∧
                                                                     (¬ r1352 = r1322 →
                                                                      Q (0 : Int32) h1352))))))))) ∧
                                                                 (¬ ((xs (ix x4)) &&& (63 : Int32)) = (30 : Int32) →
                                                                  ((((xs (ix x4)) &&& (63 : Int32)) = (31 : Int32) →
                                                                   nc ≤ 600002 ∧
                                                                   ns ≤ 7302232 ∧
                                                                   (S a1).1 = 12 ∧
                                                                   (wX11_size S h a1 (fun r1383 h1383 =>
                                                                    (S a2).1 = 13 ∧
                                                                    (wX12_size S h1383 a2 (fun r1387 h1387 =>
                                                                     ((r1383 = r1387 →
                                                                      (B23 nc ns h1387 ((x4 + (6 : Int32))))) ∧
                                                                      (¬ r1383 = r1387 →
                                                                       Q (0 : Int32) h1387))))))) ∧
                                                                   (¬ ((xs (ix x4)) &&& (63 : Int32)) = (31 : Int32) →
                                                                    ((((xs (ix x4)) &&& (63 : Int32)) = (32 : Int32) →
                                                                     nc ≤ 600002 ∧
                                                                     ns ≤ 7302232 ∧
                                                                     (S a1).1 = 12 ∧
                                                                     (wX11_trouble S h a1 (fun r1396 h1396 =>
                                                                      (S a2).1 = 13 ∧
                                                                      (wX12_trouble S h1396 a2 (fun r1400 h1400 =>
                                                                       ((r1396 = r1400 →
                                                                        (B23 nc ns h1400 ((x4 + (6 : Int32))))) ∧
                                                                        (¬ r1396 = r1400 →
                                                                         Q (0 : Int32) h1400))))))) ∧
                                                                     (¬ ((xs (ix x4)) &&& (63 : Int32)) = (32 : Int32) →
                                                                      (B23 nc ns h ((x4 + (6 : Int32))))))))))))))))))))))))))))))))))))))))))))))))))))))))))))))))))))))))
noncomputable def wL_law_23 (S : Sh) (K : Nat → Nat) (xs : Nat → Int32) (Ls : Nat) (a1 : Nat) (a2 : Nat) (a3 : Nat) (Q : Int32 → Hp → Prop) (n : Nat) : Nat → Nat → Hp → Int32 → Prop := Nat.rec (motive := fun _ => Nat → Nat → Hp → Int32 → Prop) (fun _ _ _ _ => False) (fun _ B23 nc ns h x4 => wL_law_23b S K xs Ls a1 a2 a3 Q B23 nc ns h x4) n
