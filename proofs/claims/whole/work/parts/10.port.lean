/-! ===== Port (laid by wip/whole/gen.py) ===== -/
theorem hdV_X3_copyFrom : yX3_copyFrom.cls = RX3 ∧ yX3_copyFrom.cls ≠ "java/lang/invoke/MethodHandle" ∧ yX3_copyFrom.cls ≠ "java/lang/invoke/VarHandle" ∧ (parseMethodDescriptor yX3_copyFrom.desc).map (fun d => d.parameters.length) = some 1 := by decide +kernel
theorem hdV_X3_hasThing : yX3_hasThing.cls = RX3 ∧ yX3_hasThing.cls ≠ "java/lang/invoke/MethodHandle" ∧ yX3_hasThing.cls ≠ "java/lang/invoke/VarHandle" ∧ (parseMethodDescriptor yX3_hasThing.desc).map (fun d => d.parameters.length) = some 1 := by decide +kernel
theorem hdV_X3_hasRope : yX3_hasRope.cls = RX3 ∧ yX3_hasRope.cls ≠ "java/lang/invoke/MethodHandle" ∧ yX3_hasRope.cls ≠ "java/lang/invoke/VarHandle" ∧ (parseMethodDescriptor yX3_hasRope.desc).map (fun d => d.parameters.length) = some 1 := by decide +kernel
theorem hdV_X3_hasPair : yX3_hasPair.cls = RX3 ∧ yX3_hasPair.cls ≠ "java/lang/invoke/MethodHandle" ∧ yX3_hasPair.cls ≠ "java/lang/invoke/VarHandle" ∧ (parseMethodDescriptor yX3_hasPair.desc).map (fun d => d.parameters.length) = some 2 := by decide +kernel
theorem hdV_X3_addThing : yX3_addThing.cls = RX3 ∧ yX3_addThing.cls ≠ "java/lang/invoke/MethodHandle" ∧ yX3_addThing.cls ≠ "java/lang/invoke/VarHandle" ∧ (parseMethodDescriptor yX3_addThing.desc).map (fun d => d.parameters.length) = some 3 := by decide +kernel
theorem hdV_X3_addRope : yX3_addRope.cls = RX3 ∧ yX3_addRope.cls ≠ "java/lang/invoke/MethodHandle" ∧ yX3_addRope.cls ≠ "java/lang/invoke/VarHandle" ∧ (parseMethodDescriptor yX3_addRope.desc).map (fun d => d.parameters.length) = some 2 := by decide +kernel
theorem hdV_X3_dropRope : yX3_dropRope.cls = RX3 ∧ yX3_dropRope.cls ≠ "java/lang/invoke/MethodHandle" ∧ yX3_dropRope.cls ≠ "java/lang/invoke/VarHandle" ∧ (parseMethodDescriptor yX3_dropRope.desc).map (fun d => d.parameters.length) = some 1 := by decide +kernel
theorem hdV_X3_heftOf : yX3_heftOf.cls = RX3 ∧ yX3_heftOf.cls ≠ "java/lang/invoke/MethodHandle" ∧ yX3_heftOf.cls ≠ "java/lang/invoke/VarHandle" ∧ (parseMethodDescriptor yX3_heftOf.desc).map (fun d => d.parameters.length) = some 1 := by decide +kernel
theorem hdV_X3_heavierEnd : yX3_heavierEnd.cls = RX3 ∧ yX3_heavierEnd.cls ≠ "java/lang/invoke/MethodHandle" ∧ yX3_heavierEnd.cls ≠ "java/lang/invoke/VarHandle" ∧ (parseMethodDescriptor yX3_heavierEnd.desc).map (fun d => d.parameters.length) = some 1 := by decide +kernel
theorem hdV_X3_farEnd : yX3_farEnd.cls = RX3 ∧ yX3_farEnd.cls ≠ "java/lang/invoke/MethodHandle" ∧ yX3_farEnd.cls ≠ "java/lang/invoke/VarHandle" ∧ (parseMethodDescriptor yX3_farEnd.desc).map (fun d => d.parameters.length) = some 2 := by decide +kernel
theorem hdV_X3_shift : yX3_shift.cls = RX3 ∧ yX3_shift.cls ≠ "java/lang/invoke/MethodHandle" ∧ yX3_shift.cls ≠ "java/lang/invoke/VarHandle" ∧ (parseMethodDescriptor yX3_shift.desc).map (fun d => d.parameters.length) = some 2 := by decide +kernel
theorem hdV_X3_goHour : yX3_goHour.cls = RX3 ∧ yX3_goHour.cls ≠ "java/lang/invoke/MethodHandle" ∧ yX3_goHour.cls ≠ "java/lang/invoke/VarHandle" ∧ (parseMethodDescriptor yX3_goHour.desc).map (fun d => d.parameters.length) = some 1 := by decide +kernel
theorem hdV_X3_goHours : yX3_goHours.cls = RX3 ∧ yX3_goHours.cls ≠ "java/lang/invoke/MethodHandle" ∧ yX3_goHours.cls ≠ "java/lang/invoke/VarHandle" ∧ (parseMethodDescriptor yX3_goHours.desc).map (fun d => d.parameters.length) = some 1 := by decide +kernel
theorem hdV_X3_looseRopes : yX3_looseRopes.cls = RX3 ∧ yX3_looseRopes.cls ≠ "java/lang/invoke/MethodHandle" ∧ yX3_looseRopes.cls ≠ "java/lang/invoke/VarHandle" ∧ (parseMethodDescriptor yX3_looseRopes.desc).map (fun d => d.parameters.length) = some 0 := by decide +kernel
theorem hdV_X3_allHeights : yX3_allHeights.cls = RX3 ∧ yX3_allHeights.cls ≠ "java/lang/invoke/MethodHandle" ∧ yX3_allHeights.cls ≠ "java/lang/invoke/VarHandle" ∧ (parseMethodDescriptor yX3_allHeights.desc).map (fun d => d.parameters.length) = some 0 := by decide +kernel
theorem hdV_X3_allStones : yX3_allStones.cls = RX3 ∧ yX3_allStones.cls ≠ "java/lang/invoke/MethodHandle" ∧ yX3_allStones.cls ≠ "java/lang/invoke/VarHandle" ∧ (parseMethodDescriptor yX3_allStones.desc).map (fun d => d.parameters.length) = some 0 := by decide +kernel
theorem hdV_X3_allHeft : yX3_allHeft.cls = RX3 ∧ yX3_allHeft.cls ≠ "java/lang/invoke/MethodHandle" ∧ yX3_allHeft.cls ≠ "java/lang/invoke/VarHandle" ∧ (parseMethodDescriptor yX3_allHeft.desc).map (fun d => d.parameters.length) = some 0 := by decide +kernel
def wX3_copyFrom (P : RT) (R : RT) (Q : RT → Prop) : Prop := (∀ P_1 : RT, P_1 = set2 P 30 7 (R 30 7) → (∀ P_2 : RT, P_2 = set2 P_1 30 8 (R 30 8) → (∀ P_3 : RT, P_3 = set2 P_2 30 9 (R 30 9) → ((¬ (P_3 30 7) < 0 ∧ ((P_3 30 7)).toNatClampNeg ≤ 8 ∧ ((P_3 30 7)).toNatClampNeg ≤ 8) ∧ (∀ P_5 : RT, P_5 = cpy2 P_3 0 (R 0) 0 0 ((P_3 30 7)).toNatClampNeg → ((¬ (P_5 30 7) < 0 ∧ ((P_5 30 7)).toNatClampNeg ≤ 8 ∧ ((P_5 30 7)).toNatClampNeg ≤ 8) ∧ (∀ P_7 : RT, P_7 = cpy2 P_5 1 (R 1) 0 0 ((P_5 30 7)).toNatClampNeg → ((¬ (P_7 30 7) < 0 ∧ ((P_7 30 7)).toNatClampNeg ≤ 8 ∧ ((P_7 30 7)).toNatClampNeg ≤ 8) ∧ (∀ P_9 : RT, P_9 = cpy2 P_7 2 (R 2) 0 0 ((P_7 30 7)).toNatClampNeg → ((¬ (P_9 30 7) < 0 ∧ ((P_9 30 7)).toNatClampNeg ≤ 8 ∧ ((P_9 30 7)).toNatClampNeg ≤ 8) ∧ (∀ P_11 : RT, P_11 = cpy2 P_9 3 (R 3) 0 0 ((P_9 30 7)).toNatClampNeg → ((¬ (P_11 30 7) < 0 ∧ ((P_11 30 7)).toNatClampNeg ≤ 8 ∧ ((P_11 30 7)).toNatClampNeg ≤ 8) ∧ (∀ P_13 : RT, P_13 = cpy2 P_11 4 (R 4) 0 0 ((P_11 30 7)).toNatClampNeg → ((¬ (P_13 30 8) < 0 ∧ ((P_13 30 8)).toNatClampNeg ≤ 6 ∧ ((P_13 30 8)).toNatClampNeg ≤ 6) ∧ (∀ P_15 : RT, P_15 = cpy2 P_13 5 (R 5) 0 0 ((P_13 30 8)).toNatClampNeg → ((¬ (P_15 30 8) < 0 ∧ ((P_15 30 8)).toNatClampNeg ≤ 6 ∧ ((P_15 30 8)).toNatClampNeg ≤ 6) ∧ (∀ P_17 : RT, P_17 = cpy2 P_15 6 (R 6) 0 0 ((P_15 30 8)).toNatClampNeg → (Q P_17))))))))))))))))))
def wX3_hasThing (P : RT) (x1 : Int32) (Q : Int32 → Prop) : Prop := (if x1 < (0 : Int32) then (Q (0 : Int32)) else (if (P 30 7) ≤ x1 then (Q (0 : Int32)) else (Q (1 : Int32))))
def wX3_hasRope (P : RT) (x1 : Int32) (Q : Int32 → Prop) : Prop := (if x1 < (0 : Int32) then (Q (0 : Int32)) else (if (P 30 8) ≤ x1 then (Q (0 : Int32)) else (Q (1 : Int32))))
def wX3_hasPair (P : RT) (x1 : Int32) (x2 : Int32) (Q : Int32 → Prop) : Prop := (wX3_hasThing P x1 (fun (r_1 : Int32) => (if r_1 = (0 : Int32) then (Q (0 : Int32)) else (wX3_hasThing P x2 (fun (r_3 : Int32) => (if r_3 = (0 : Int32) then (Q (0 : Int32)) else (if x1 = x2 then (Q (0 : Int32)) else (Q (1 : Int32)))))))))
def wX3_addThing (P : RT) (x1 : Int32) (x2 : Int32) (x3 : Int32) (Q : RT → Prop) : Prop := (vp_in (P 30 7) 8 ∧ (∀ P_2 : RT, P_2 = set2 P 0 ((P 30 7)).toNatClampNeg x1 → (vp_in (P_2 30 7) 8 ∧ (∀ P_4 : RT, P_4 = set2 P_2 1 ((P_2 30 7)).toNatClampNeg x2 → (vp_in (P_4 30 7) 8 ∧ (∀ P_6 : RT, P_6 = set2 P_4 2 ((P_4 30 7)).toNatClampNeg x3 → (vp_in (P_6 30 7) 8 ∧ (∀ P_8 : RT, P_8 = set2 P_6 3 ((P_6 30 7)).toNatClampNeg (0 : Int32) → (vp_in (P_8 30 7) 8 ∧ (∀ P_10 : RT, P_10 = set2 P_8 4 ((P_8 30 7)).toNatClampNeg (0 : Int32) → (∀ P_11 : RT, P_11 = set2 P_10 30 7 ((P_10 30 7) + (1 : Int32)) → (Q P_11))))))))))))
def wX3_addRope (P : RT) (x1 : Int32) (x2 : Int32) (Q : Int32 → RT → Prop) : Prop := (vp_in (P 30 8) 6 ∧ (∀ P_2 : RT, P_2 = set2 P 5 ((P 30 8)).toNatClampNeg x1 → (vp_in (P_2 30 8) 6 ∧ (∀ P_4 : RT, P_4 = set2 P_2 6 ((P_2 30 8)).toNatClampNeg x2 → (∀ P_5 : RT, P_5 = set2 P_4 30 8 ((P_4 30 8) + (1 : Int32)) → (Q ((P_5 30 8) - (1 : Int32)) P_5))))))
def bX3_dropRope_12 (Q : Int32 → RT → Prop) : Nat → RT → Int32 → Prop
  | 0, _, _ => False
  | n + 1, P, x2 => (if (P 30 8) ≤ x2 then (Q (P 30 8) P) else (vp_in (x2 + (1 : Int32)) 6 ∧ (vp_in x2 6 ∧ (∀ P_4 : RT, P_4 = set2 P 5 (x2).toNatClampNeg (P 5 ((x2 + (1 : Int32))).toNatClampNeg) → (∀ P_5 : RT, P_5 = set2 P_4 6 (x2).toNatClampNeg (P_4 6 ((x2 + (1 : Int32))).toNatClampNeg) → (∀ x2_6 : Int32, x2_6 = (x2 + (1 : Int32)) → (bX3_dropRope_12 Q n P_5 x2_6)))))))
def wX3_dropRope (P : RT) (x1 : Int32) (Q : Int32 → RT → Prop) : Prop := (∀ P_1 : RT, P_1 = set2 P 30 8 ((P 30 8) - (1 : Int32)) → (∃ j : Nat, bX3_dropRope_12 Q j P_1 x1))
def bX3_heftOf_132 (P : RT) (Q : Int32 → Prop) (x3 : Int32) (x6 : Int32) : Prop := (if x3 = (3 : Int32) then (if ((P 30 9) - (P 30 9) / (2 : Int32) * (2 : Int32)) = (1 : Int32) then (∀ x6_3 : Int32, x6_3 = (x6 + (5 : Int32)) → (Q x6_3)) else (Q x6)) else (Q x6))
def bX3_heftOf_113 (P : RT) (Q : Int32 → Prop) (x3 : Int32) (x4 : Int32) (x5 : Int32) (x6 : Int32) : Prop := (if x4 = (0 : Int32) then (bX3_heftOf_132 P Q x3 x6) else (if (5 : Int32) < x5 then (bX3_heftOf_132 P Q x3 x6) else (if x6 ≤ (0 : Int32) then (bX3_heftOf_132 P Q x3 x6) else (∀ x6_4 : Int32, x6_4 = (x6 + (-1 : Int32)) → (bX3_heftOf_132 P Q x3 x6_4)))))
def bX3_heftOf_88 (P : RT) (Q : Int32 → Prop) (x1 : Int32) (x3 : Int32) (x4 : Int32) (x5 : Int32) (x6 : Int32) : Prop := (if x5 < (12 : Int32) then (bX3_heftOf_113 P Q x3 x4 x5 x6) else (if (17 : Int32) < x5 then (bX3_heftOf_113 P Q x3 x4 x5 x6) else (vp_in x1 8 ∧ (∀ x6_4 : Int32, x6_4 = (x6 + (P 1 (x1).toNatClampNeg)) → (bX3_heftOf_113 P Q x3 x4 x5 x6_4)))))
def bX3_heftOf_64 (P : RT) (Q : Int32 → Prop) (x1 : Int32) (x2 : Int32) (x3 : Int32) (t0 : Int32) : Prop := (∀ x5_1 : Int32, x5_1 = ((P 30 9) - (P 30 9) / (24 : Int32) * (24 : Int32)) → (if x3 = (1 : Int32) then (bX3_heftOf_88 P Q x1 x3 t0 x5_1 x2) else (if t0 = (0 : Int32) then (bX3_heftOf_113 P Q x3 t0 x5_1 x2) else (bX3_heftOf_88 P Q x1 x3 t0 x5_1 x2))))
def bX3_heftOf_59 (P : RT) (Q : Int32 → Prop) (x1 : Int32) (x2 : Int32) (x3 : Int32) : Prop := (bX3_heftOf_64 P Q x1 x2 x3 (1 : Int32))
def wX3_heftOf (P : RT) (x1 : Int32) (Q : Int32 → Prop) : Prop := (vp_in x1 8 ∧ (∀ x2_2 : Int32, x2_2 = ((P 2 (x1).toNatClampNeg) + ((2 : Int32) * (P 3 (x1).toNatClampNeg))) → (∀ x3_3 : Int32, x3_3 = (P 0 (x1).toNatClampNeg) → (if x3_3 = (4 : Int32) then (Q (x2_2 / (2 : Int32))) else (if x3_3 = (5 : Int32) then (Q ((x2_2 + (20 : Int32)) + (P 1 (x1).toNatClampNeg))) else (if x3_3 = (2 : Int32) then (bX3_heftOf_59 P Q x1 x2_2 x3_3) else (if x3_3 = (3 : Int32) then (bX3_heftOf_59 P Q x1 x2_2 x3_3) else (bX3_heftOf_64 P Q x1 x2_2 x3_3 (0 : Int32)))))))))
def wX3_heavierEnd (P : RT) (x1 : Int32) (Q : Int32 → Prop) : Prop := (vp_in x1 6 ∧ (wX3_heftOf P (P 5 (x1).toNatClampNeg) (fun (r_2 : Int32) => (wX3_heftOf P (P 6 (x1).toNatClampNeg) (fun (r_3 : Int32) => (∀ x2_4 : Int32, x2_4 = (r_2 - r_3) → (if x2_4 = (0 : Int32) then (Q (-9 : Int32)) else (if x2_4 ≤ (0 : Int32) then (Q (P 6 (x1).toNatClampNeg)) else (Q (P 5 (x1).toNatClampNeg))))))))))
def wX3_farEnd (P : RT) (x1 : Int32) (x2 : Int32) (Q : Int32 → Prop) : Prop := (vp_in x1 6 ∧ (if (P 5 (x1).toNatClampNeg) = x2 then (Q (P 6 (x1).toNatClampNeg)) else (Q (P 5 (x1).toNatClampNeg))))
def bX3_shift_19 (Q : RT → Prop) (P : RT) (x2 : Int32) : Prop := (vp_in x2 8 ∧ (if (20 : Int32) ≤ (P 4 (x2).toNatClampNeg) then (Q P) else (∀ P_3 : RT, P_3 = set2 P 4 (x2).toNatClampNeg ((P 4 (x2).toNatClampNeg) + (1 : Int32)) → (Q P_3))))
def wX3_shift (P : RT) (x1 : Int32) (x2 : Int32) (Q : RT → Prop) : Prop := (vp_in x1 8 ∧ (if (P 4 (x1).toNatClampNeg) ≤ (0 : Int32) then (bX3_shift_19 Q P x2) else (∀ P_3 : RT, P_3 = set2 P 4 (x1).toNatClampNeg ((P 4 (x1).toNatClampNeg) - (1 : Int32)) → (bX3_shift_19 Q P_3 x2))))
def bX3_goHour_93 (K12 : RT → Int32 → Int32 → Prop) (Q : RT → Prop) (P : RT) (x1 : Int32) (x2 : Int32) : Prop := (∀ x2_1 : Int32, x2_1 = (x2 + (1 : Int32)) → (K12 P x1 x2_1))
def bX3_goHour_50 (K12 : RT → Int32 → Int32 → Prop) (Q : RT → Prop) (P : RT) (x1 : Int32) (x2 : Int32) (x3 : Int32) : Prop := (if x3 ≤ (0 : Int32) then (if (0 : Int32) ≤ x3 then (bX3_goHour_93 K12 Q P x1 x2) else (vp_in x2 6 ∧ (wX3_shift P (P 6 (x2).toNatClampNeg) (P 5 (x2).toNatClampNeg) (fun (P_4 : RT) => (bX3_goHour_93 K12 Q P_4 x1 x2))))) else (vp_in x2 6 ∧ (wX3_shift P (P 5 (x2).toNatClampNeg) (P 6 (x2).toNatClampNeg) (fun (P_6 : RT) => (bX3_goHour_93 K12 Q P_6 x1 x2)))))
def bX3_goHour_12 (Q : RT → Prop) : Nat → RT → Int32 → Int32 → Prop
  | 0, _, _, _ => False
  | n + 1, P, x1, x2 => (if (P 30 8) ≤ x2 then (Q P) else (vp_in x2 6 ∧ (wX3_heftOf P (P 5 (x2).toNatClampNeg) (fun (r_3 : Int32) => (wX3_heftOf P (P 6 (x2).toNatClampNeg) (fun (r_4 : Int32) => (∀ x3_5 : Int32, x3_5 = (r_3 - r_4) → (if x2 = x1 then (∀ x3_7 : Int32, x3_7 = (-x3_5) → (bX3_goHour_50 (fun (P_ : RT) (x1_ : Int32) (x2_ : Int32) => bX3_goHour_12 Q n P_ x1_ x2_) Q P x1 x2 x3_7)) else (bX3_goHour_50 (fun (P_ : RT) (x1_ : Int32) (x2_ : Int32) => bX3_goHour_12 Q n P_ x1_ x2_) Q P x1 x2 x3_5)))))))))
def wX3_goHour (P : RT) (x1 : Int32) (Q : RT → Prop) : Prop := (∀ P_1 : RT, P_1 = set2 P 30 9 ((P 30 9) + (1 : Int32)) → (∃ j : Nat, bX3_goHour_12 Q j P_1 x1 (0 : Int32)))
def bX3_goHours_2 (Q : RT → Prop) : Nat → RT → Int32 → Int32 → Prop
  | 0, _, _, _ => False
  | n + 1, P, x1, x2 => (if x1 ≤ x2 then (Q P) else (wX3_goHour P (-9 : Int32) (fun (P_2 : RT) => (∀ x2_3 : Int32, x2_3 = (x2 + (1 : Int32)) → (bX3_goHours_2 Q n P_2 x1 x2_3)))))
def wX3_goHours (P : RT) (x1 : Int32) (Q : RT → Prop) : Prop := (∃ j : Nat, bX3_goHours_2 Q j P x1 (0 : Int32))
def bX3_looseRopes_28 (K4 : Int32 → Int32 → Prop) (P : RT) (Q : Int32 → Prop) (x1 : Int32) (x2 : Int32) : Prop := (∀ x2_1 : Int32, x2_1 = (x2 + (1 : Int32)) → (K4 x1 x2_1))
def bX3_looseRopes_4 (P : RT) (Q : Int32 → Prop) : Nat → Int32 → Int32 → Prop
  | 0, _, _ => False
  | n + 1, x1, x2 => (if (P 30 8) ≤ x2 then (Q x1) else (wX3_heavierEnd P x2 (fun (r_2 : Int32) => (if r_2 = (-9 : Int32) then (∀ x1_4 : Int32, x1_4 = (x1 ||| ((1 : Int32) <<< (x2 &&& 31))) → (bX3_looseRopes_28 (fun (x1_ : Int32) (x2_ : Int32) => bX3_looseRopes_4 P Q n x1_ x2_) P Q x1_4 x2)) else (bX3_looseRopes_28 (fun (x1_ : Int32) (x2_ : Int32) => bX3_looseRopes_4 P Q n x1_ x2_) P Q x1 x2)))))
def wX3_looseRopes (P : RT) (Q : Int32 → Prop) : Prop := (∃ j : Nat, bX3_looseRopes_4 P Q j (0 : Int32) (0 : Int32))
def bX3_allHeights_4 (P : RT) (Q : Int32 → Prop) : Nat → Int32 → Int32 → Prop
  | 0, _, _ => False
  | n + 1, x1, x2 => (if (P 30 7) ≤ x2 then (Q x1) else (vp_in x2 8 ∧ (∀ x1_3 : Int32, x1_3 = (x1 + (P 4 (x2).toNatClampNeg)) → (∀ x2_4 : Int32, x2_4 = (x2 + (1 : Int32)) → (bX3_allHeights_4 P Q n x1_3 x2_4)))))
def wX3_allHeights (P : RT) (Q : Int32 → Prop) : Prop := (∃ j : Nat, bX3_allHeights_4 P Q j (0 : Int32) (0 : Int32))
def bX3_allStones_4 (P : RT) (Q : Int32 → Prop) : Nat → Int32 → Int32 → Prop
  | 0, _, _ => False
  | n + 1, x1, x2 => (if (P 30 7) ≤ x2 then (Q x1) else (vp_in x2 8 ∧ (∀ x1_3 : Int32, x1_3 = (x1 + (P 3 (x2).toNatClampNeg)) → (∀ x2_4 : Int32, x2_4 = (x2 + (1 : Int32)) → (bX3_allStones_4 P Q n x1_3 x2_4)))))
def wX3_allStones (P : RT) (Q : Int32 → Prop) : Prop := (∃ j : Nat, bX3_allStones_4 P Q j (0 : Int32) (0 : Int32))
def bX3_allHeft_4 (P : RT) (Q : Int32 → Prop) : Nat → Int32 → Int32 → Prop
  | 0, _, _ => False
  | n + 1, x1, x2 => (if (P 30 7) ≤ x2 then (Q x1) else (wX3_heftOf P x2 (fun (r_2 : Int32) => (∀ x1_3 : Int32, x1_3 = (x1 + r_2) → (∀ x2_4 : Int32, x2_4 = (x2 + (1 : Int32)) → (bX3_allHeft_4 P Q n x1_3 x2_4))))))
def wX3_allHeft (P : RT) (Q : Int32 → Prop) : Prop := (∃ j : Nat, bX3_allHeft_4 P Q j (0 : Int32) (0 : Int32))
abbrev rmX3_copyFrom : Room := { frames := 1, cells := 0, slots := 0, locals := 18 }
set_option maxHeartbeats 4000000 in
set_option maxRecDepth 100000 in
theorem m_X3_copyFrom (l : Launch) (z : KT) (qP : Nat → Nat) (qR : Nat → Nat) (P : RT) (R : RT) (Q : RT → Prop) (h : wX3_copyFrom P R Q) : CV l yX3_copyFrom cX3_copyFrom 2 rmX3_copyFrom z [.ref (qP 0), .ref (qR 0)] (pW z qP P ++ (pW z qR R)) (fun u : RT => (pW z qP u ++ (pW z qR R))) (fun u : RT => Q u) := by
  refine CV.of rfl (Nat.le_of_ble_eq_true rfl) ?_
  intro p e s m below meth c A ls M hw hl
  have M : Mc p s m _ meth c cX3_copyFrom 2 none RX3 z A := M
  obtain ⟨hx, hb, -, -, hown, hts, -, -, -, hN, hsr, -⟩ := id M
  have hl : lv_has ls 2 [(0, .ref (qP 0)), (1, .ref (qR 0))] := hl
  unfold wX3_copyFrom at h
  generalize s.heap = H at hw ⊢
  generalize ([] : List Loc) = locs at hw ⊢
  refine lv_aload_n hx hb dX3_copyFrom_0 rfl (lv_at hl 0 rfl) ?_
  refine lv_aload_n hx hb dX3_copyFrom_1 rfl (lv_at hl 1 rfl) ?_
  refine gt_f (v := .int (R 30 7)) M inlX3 hw 8 rfl rfl 7 (by decide) fl_X3_33 rfl rfl dX3_copyFrom_2 ?_
  refine st_f (P := P) (r := 30) (j := 7) (wN := fun P_1 => (pW z qP P_1 ++ (pW z qR R))) M inlX3 tyX3_ok nmX3 hw 0 rfl rfl 7 (by decide) fl_X3_33 rfl rfl rfl rfl rfl (Nat.le_of_ble_eq_true rfl) rfl dX3_copyFrom_5 (fun P_1 H locs eP_1 hw => ?_)
  replace h := h P_1 eP_1
  refine lv_aload_n hx hb dX3_copyFrom_8 rfl (lv_at hl 0 rfl) ?_
  refine lv_aload_n hx hb dX3_copyFrom_9 rfl (lv_at hl 1 rfl) ?_
  refine gt_f (v := .int (R 30 8)) M inlX3 hw 8 rfl rfl 8 (by decide) fl_X3_37 rfl rfl dX3_copyFrom_10 ?_
  refine st_f (P := P_1) (r := 30) (j := 8) (wN := fun P_2 => (pW z qP P_2 ++ (pW z qR R))) M inlX3 tyX3_ok nmX3 hw 0 rfl rfl 8 (by decide) fl_X3_37 rfl rfl rfl rfl rfl (Nat.le_of_ble_eq_true rfl) rfl dX3_copyFrom_13 (fun P_2 H locs eP_2 hw => ?_)
  replace h := h P_2 eP_2
  refine lv_aload_n hx hb dX3_copyFrom_16 rfl (lv_at hl 0 rfl) ?_
  refine lv_aload_n hx hb dX3_copyFrom_17 rfl (lv_at hl 1 rfl) ?_
  refine gt_f (v := .int (R 30 9)) M inlX3 hw 8 rfl rfl 9 (by decide) fl_X3_40 rfl rfl dX3_copyFrom_18 ?_
  refine st_f (P := P_2) (r := 30) (j := 9) (wN := fun P_3 => (pW z qP P_3 ++ (pW z qR R))) M inlX3 tyX3_ok nmX3 hw 0 rfl rfl 9 (by decide) fl_X3_40 rfl rfl rfl rfl rfl (Nat.le_of_ble_eq_true rfl) rfl dX3_copyFrom_21 (fun P_3 H locs eP_3 hw => ?_)
  replace h := h P_3 eP_3
  refine lv_aload_n hx hb dX3_copyFrom_24 rfl (lv_at hl 1 rfl) ?_
  refine gt_f (v := .ref (qR 1)) M inlX3 hw 8 rfl rfl 0 (by decide) fl_X3_9 rfl rfl dX3_copyFrom_25 ?_
  refine lv_iconst (v := 0) hx hb dX3_copyFrom_28 (by decide) ?_
  refine lv_aload_n hx hb dX3_copyFrom_29 rfl (lv_at hl 0 rfl) ?_
  refine gt_f (v := .ref (qP 1)) M inlX3 hw 0 rfl rfl 0 (by decide) fl_X3_9 rfl rfl dX3_copyFrom_30 ?_
  refine lv_iconst (v := 0) hx hb dX3_copyFrom_33 (by decide) ?_
  refine lv_aload_n hx hb dX3_copyFrom_34 rfl (lv_at hl 0 rfl) ?_
  refine gt_f (v := .int (P_3 30 7)) M inlX3 hw 0 rfl rfl 7 (by decide) fl_X3_33 rfl rfl dX3_copyFrom_35 ?_
  obtain ⟨a_4, h⟩ := h
  refine cp_i (P := P_3) (r := 0) (wN := fun P_5 => (pW z qP P_5 ++ (pW z qR R))) M ml_X3_43 hl.1 hw 9 1 rfl rfl rfl a_4 (Nat.le_of_ble_eq_true rfl) (Nat.le_of_ble_eq_true rfl) dX3_copyFrom_38 (fun P_5 H locs eP_5 hw => ?_)
  replace h := h P_5 eP_5
  refine lv_aload_n hx hb dX3_copyFrom_41 rfl (lv_at hl 1 rfl) ?_
  refine gt_f (v := .ref (qR 2)) M inlX3 hw 8 rfl rfl 1 (by decide) fl_X3_15 rfl rfl dX3_copyFrom_42 ?_
  refine lv_iconst (v := 0) hx hb dX3_copyFrom_45 (by decide) ?_
  refine lv_aload_n hx hb dX3_copyFrom_46 rfl (lv_at hl 0 rfl) ?_
  refine gt_f (v := .ref (qP 2)) M inlX3 hw 0 rfl rfl 1 (by decide) fl_X3_15 rfl rfl dX3_copyFrom_47 ?_
  refine lv_iconst (v := 0) hx hb dX3_copyFrom_50 (by decide) ?_
  refine lv_aload_n hx hb dX3_copyFrom_51 rfl (lv_at hl 0 rfl) ?_
  refine gt_f (v := .int (P_5 30 7)) M inlX3 hw 0 rfl rfl 7 (by decide) fl_X3_33 rfl rfl dX3_copyFrom_52 ?_
  obtain ⟨a_6, h⟩ := h
  refine cp_i (P := P_5) (r := 1) (wN := fun P_7 => (pW z qP P_7 ++ (pW z qR R))) M ml_X3_43 hl.1 hw 10 2 rfl rfl rfl a_6 (Nat.le_of_ble_eq_true rfl) (Nat.le_of_ble_eq_true rfl) dX3_copyFrom_55 (fun P_7 H locs eP_7 hw => ?_)
  replace h := h P_7 eP_7
  refine lv_aload_n hx hb dX3_copyFrom_58 rfl (lv_at hl 1 rfl) ?_
  refine gt_f (v := .ref (qR 3)) M inlX3 hw 8 rfl rfl 2 (by decide) fl_X3_18 rfl rfl dX3_copyFrom_59 ?_
  refine lv_iconst (v := 0) hx hb dX3_copyFrom_62 (by decide) ?_
  refine lv_aload_n hx hb dX3_copyFrom_63 rfl (lv_at hl 0 rfl) ?_
  refine gt_f (v := .ref (qP 3)) M inlX3 hw 0 rfl rfl 2 (by decide) fl_X3_18 rfl rfl dX3_copyFrom_64 ?_
  refine lv_iconst (v := 0) hx hb dX3_copyFrom_67 (by decide) ?_
  refine lv_aload_n hx hb dX3_copyFrom_68 rfl (lv_at hl 0 rfl) ?_
  refine gt_f (v := .int (P_7 30 7)) M inlX3 hw 0 rfl rfl 7 (by decide) fl_X3_33 rfl rfl dX3_copyFrom_69 ?_
  obtain ⟨a_8, h⟩ := h
  refine cp_i (P := P_7) (r := 2) (wN := fun P_9 => (pW z qP P_9 ++ (pW z qR R))) M ml_X3_43 hl.1 hw 11 3 rfl rfl rfl a_8 (Nat.le_of_ble_eq_true rfl) (Nat.le_of_ble_eq_true rfl) dX3_copyFrom_72 (fun P_9 H locs eP_9 hw => ?_)
  replace h := h P_9 eP_9
  refine lv_aload_n hx hb dX3_copyFrom_75 rfl (lv_at hl 1 rfl) ?_
  refine gt_f (v := .ref (qR 4)) M inlX3 hw 8 rfl rfl 3 (by decide) fl_X3_21 rfl rfl dX3_copyFrom_76 ?_
  refine lv_iconst (v := 0) hx hb dX3_copyFrom_79 (by decide) ?_
  refine lv_aload_n hx hb dX3_copyFrom_80 rfl (lv_at hl 0 rfl) ?_
  refine gt_f (v := .ref (qP 4)) M inlX3 hw 0 rfl rfl 3 (by decide) fl_X3_21 rfl rfl dX3_copyFrom_81 ?_
  refine lv_iconst (v := 0) hx hb dX3_copyFrom_84 (by decide) ?_
  refine lv_aload_n hx hb dX3_copyFrom_85 rfl (lv_at hl 0 rfl) ?_
  refine gt_f (v := .int (P_9 30 7)) M inlX3 hw 0 rfl rfl 7 (by decide) fl_X3_33 rfl rfl dX3_copyFrom_86 ?_
  obtain ⟨a_10, h⟩ := h
  refine cp_i (P := P_9) (r := 3) (wN := fun P_11 => (pW z qP P_11 ++ (pW z qR R))) M ml_X3_43 hl.1 hw 12 4 rfl rfl rfl a_10 (Nat.le_of_ble_eq_true rfl) (Nat.le_of_ble_eq_true rfl) dX3_copyFrom_89 (fun P_11 H locs eP_11 hw => ?_)
  replace h := h P_11 eP_11
  refine lv_aload_n hx hb dX3_copyFrom_92 rfl (lv_at hl 1 rfl) ?_
  refine gt_f (v := .ref (qR 5)) M inlX3 hw 8 rfl rfl 4 (by decide) fl_X3_24 rfl rfl dX3_copyFrom_93 ?_
  refine lv_iconst (v := 0) hx hb dX3_copyFrom_96 (by decide) ?_
  refine lv_aload_n hx hb dX3_copyFrom_97 rfl (lv_at hl 0 rfl) ?_
  refine gt_f (v := .ref (qP 5)) M inlX3 hw 0 rfl rfl 4 (by decide) fl_X3_24 rfl rfl dX3_copyFrom_98 ?_
  refine lv_iconst (v := 0) hx hb dX3_copyFrom_101 (by decide) ?_
  refine lv_aload_n hx hb dX3_copyFrom_102 rfl (lv_at hl 0 rfl) ?_
  refine gt_f (v := .int (P_11 30 7)) M inlX3 hw 0 rfl rfl 7 (by decide) fl_X3_33 rfl rfl dX3_copyFrom_103 ?_
  obtain ⟨a_12, h⟩ := h
  refine cp_i (P := P_11) (r := 4) (wN := fun P_13 => (pW z qP P_13 ++ (pW z qR R))) M ml_X3_43 hl.1 hw 13 5 rfl rfl rfl a_12 (Nat.le_of_ble_eq_true rfl) (Nat.le_of_ble_eq_true rfl) dX3_copyFrom_106 (fun P_13 H locs eP_13 hw => ?_)
  replace h := h P_13 eP_13
  refine lv_aload_n hx hb dX3_copyFrom_109 rfl (lv_at hl 1 rfl) ?_
  refine gt_f (v := .ref (qR 6)) M inlX3 hw 8 rfl rfl 5 (by decide) fl_X3_27 rfl rfl dX3_copyFrom_110 ?_
  refine lv_iconst (v := 0) hx hb dX3_copyFrom_113 (by decide) ?_
  refine lv_aload_n hx hb dX3_copyFrom_114 rfl (lv_at hl 0 rfl) ?_
  refine gt_f (v := .ref (qP 6)) M inlX3 hw 0 rfl rfl 5 (by decide) fl_X3_27 rfl rfl dX3_copyFrom_115 ?_
  refine lv_iconst (v := 0) hx hb dX3_copyFrom_118 (by decide) ?_
  refine lv_aload_n hx hb dX3_copyFrom_119 rfl (lv_at hl 0 rfl) ?_
  refine gt_f (v := .int (P_13 30 8)) M inlX3 hw 0 rfl rfl 8 (by decide) fl_X3_37 rfl rfl dX3_copyFrom_120 ?_
  obtain ⟨a_14, h⟩ := h
  refine cp_i (P := P_13) (r := 5) (wN := fun P_15 => (pW z qP P_15 ++ (pW z qR R))) M ml_X3_43 hl.1 hw 14 6 rfl rfl rfl a_14 (Nat.le_of_ble_eq_true rfl) (Nat.le_of_ble_eq_true rfl) dX3_copyFrom_123 (fun P_15 H locs eP_15 hw => ?_)
  replace h := h P_15 eP_15
  refine lv_aload_n hx hb dX3_copyFrom_126 rfl (lv_at hl 1 rfl) ?_
  refine gt_f (v := .ref (qR 7)) M inlX3 hw 8 rfl rfl 6 (by decide) fl_X3_30 rfl rfl dX3_copyFrom_127 ?_
  refine lv_iconst (v := 0) hx hb dX3_copyFrom_130 (by decide) ?_
  refine lv_aload_n hx hb dX3_copyFrom_131 rfl (lv_at hl 0 rfl) ?_
  refine gt_f (v := .ref (qP 7)) M inlX3 hw 0 rfl rfl 6 (by decide) fl_X3_30 rfl rfl dX3_copyFrom_132 ?_
  refine lv_iconst (v := 0) hx hb dX3_copyFrom_135 (by decide) ?_
  refine lv_aload_n hx hb dX3_copyFrom_136 rfl (lv_at hl 0 rfl) ?_
  refine gt_f (v := .int (P_15 30 8)) M inlX3 hw 0 rfl rfl 8 (by decide) fl_X3_37 rfl rfl dX3_copyFrom_137 ?_
  obtain ⟨a_16, h⟩ := h
  refine cp_i (P := P_15) (r := 6) (wN := fun P_17 => (pW z qP P_17 ++ (pW z qR R))) M ml_X3_43 hl.1 hw 15 7 rfl rfl rfl a_16 (Nat.le_of_ble_eq_true rfl) (Nat.le_of_ble_eq_true rfl) dX3_copyFrom_140 (fun P_17 H locs eP_17 hw => ?_)
  replace h := h P_17 eP_17
  exact rt_v M P_17 hw h dX3_copyFrom_143
abbrev rmX3_hasThing : Room := { frames := 0, cells := 0, slots := 0, locals := 0 }
set_option maxHeartbeats 4000000 in
set_option maxRecDepth 100000 in
theorem m_X3_hasThing (l : Launch) (z : KT) (qP : Nat → Nat) (P : RT) (x1 : Int32) (Q : Int32 → Prop) (h : wX3_hasThing P x1 Q) : CI l yX3_hasThing cX3_hasThing 2 .boolean rmX3_hasThing z [.ref (qP 0), .int x1] (pW z qP P) (fun _ : Unit => (pW z qP P)) (fun (r : Int32) (_ : Unit) => Q r) := by
  refine CI.of rfl (Nat.le_of_ble_eq_true rfl) ?_
  intro p e s m below meth c A ls M hw hl
  have M : Mc p s m _ meth c cX3_hasThing 2 (some .boolean) RX3 z A := M
  obtain ⟨hx, hb, -, -, hown, hts, -, -, -, hN, hsr, -⟩ := id M
  have hl : lv_has ls 2 [(0, .ref (qP 0)), (1, .int x1)] := hl
  unfold wX3_hasThing at h
  generalize s.heap = H at hw ⊢
  generalize ([] : List Loc) = locs at hw ⊢
  refine lv_iload_n hx hb dX3_hasThing_0 rfl (lv_at hl 1 rfl) ?_
  refine lv_if_lt (tgt := 16) hx hb dX3_hasThing_1 (by decide) (fun c_1 => ?_) (fun c_1 => ?_)
  · replace h := iT c_1 h
    refine lv_iconst (v := 0) hx hb dX3_hasThing_16 (by decide) ?_
    exact rt_z M () hw bz0 h dX3_hasThing_17
  · replace h := iF c_1 h
    refine lv_iload_n hx hb dX3_hasThing_4 rfl (lv_at hl 1 rfl) ?_
    refine lv_aload_n hx hb dX3_hasThing_5 rfl (lv_at hl 0 rfl) ?_
    refine gt_f (v := .int (P 30 7)) M inlX3 hw 0 rfl rfl 7 (by decide) fl_X3_33 rfl rfl dX3_hasThing_6 ?_
    refine lv_icmp_ge (tgt := 16) hx hb dX3_hasThing_9 (by decide) (fun c_2 => ?_) (fun c_2 => ?_)
    · replace h := iT c_2 h
      refine lv_iconst (v := 0) hx hb dX3_hasThing_16 (by decide) ?_
      exact rt_z M () hw bz0 h dX3_hasThing_17
    · replace h := iF c_2 h
      refine lv_iconst (v := 1) hx hb dX3_hasThing_12 (by decide) ?_
      refine lv_goto (tgt := 17) hx hb dX3_hasThing_13 (by decide) ?_
      exact rt_z M () hw bz1 h dX3_hasThing_17
abbrev rmX3_hasRope : Room := { frames := 0, cells := 0, slots := 0, locals := 0 }
set_option maxHeartbeats 4000000 in
set_option maxRecDepth 100000 in
theorem m_X3_hasRope (l : Launch) (z : KT) (qP : Nat → Nat) (P : RT) (x1 : Int32) (Q : Int32 → Prop) (h : wX3_hasRope P x1 Q) : CI l yX3_hasRope cX3_hasRope 2 .boolean rmX3_hasRope z [.ref (qP 0), .int x1] (pW z qP P) (fun _ : Unit => (pW z qP P)) (fun (r : Int32) (_ : Unit) => Q r) := by
  refine CI.of rfl (Nat.le_of_ble_eq_true rfl) ?_
  intro p e s m below meth c A ls M hw hl
  have M : Mc p s m _ meth c cX3_hasRope 2 (some .boolean) RX3 z A := M
  obtain ⟨hx, hb, -, -, hown, hts, -, -, -, hN, hsr, -⟩ := id M
  have hl : lv_has ls 2 [(0, .ref (qP 0)), (1, .int x1)] := hl
  unfold wX3_hasRope at h
  generalize s.heap = H at hw ⊢
  generalize ([] : List Loc) = locs at hw ⊢
  refine lv_iload_n hx hb dX3_hasRope_0 rfl (lv_at hl 1 rfl) ?_
  refine lv_if_lt (tgt := 16) hx hb dX3_hasRope_1 (by decide) (fun c_1 => ?_) (fun c_1 => ?_)
  · replace h := iT c_1 h
    refine lv_iconst (v := 0) hx hb dX3_hasRope_16 (by decide) ?_
    exact rt_z M () hw bz0 h dX3_hasRope_17
  · replace h := iF c_1 h
    refine lv_iload_n hx hb dX3_hasRope_4 rfl (lv_at hl 1 rfl) ?_
    refine lv_aload_n hx hb dX3_hasRope_5 rfl (lv_at hl 0 rfl) ?_
    refine gt_f (v := .int (P 30 8)) M inlX3 hw 0 rfl rfl 8 (by decide) fl_X3_37 rfl rfl dX3_hasRope_6 ?_
    refine lv_icmp_ge (tgt := 16) hx hb dX3_hasRope_9 (by decide) (fun c_2 => ?_) (fun c_2 => ?_)
    · replace h := iT c_2 h
      refine lv_iconst (v := 0) hx hb dX3_hasRope_16 (by decide) ?_
      exact rt_z M () hw bz0 h dX3_hasRope_17
    · replace h := iF c_2 h
      refine lv_iconst (v := 1) hx hb dX3_hasRope_12 (by decide) ?_
      refine lv_goto (tgt := 17) hx hb dX3_hasRope_13 (by decide) ?_
      exact rt_z M () hw bz1 h dX3_hasRope_17
abbrev rmX3_hasPair : Room := { frames := 1, cells := 0, slots := 0, locals := 21 }
set_option maxHeartbeats 4000000 in
set_option maxRecDepth 100000 in
theorem m_X3_hasPair (l : Launch) (z : KT) (qP : Nat → Nat) (P : RT) (x1 : Int32) (x2 : Int32) (Q : Int32 → Prop) (h : wX3_hasPair P x1 x2 Q) : CI l yX3_hasPair cX3_hasPair 3 .boolean rmX3_hasPair z [.ref (qP 0), .int x1, .int x2] (pW z qP P) (fun _ : Unit => (pW z qP P)) (fun (r : Int32) (_ : Unit) => Q r) := by
  refine CI.of rfl (Nat.le_of_ble_eq_true rfl) ?_
  intro p e s m below meth c A ls M hw hl
  have M : Mc p s m _ meth c cX3_hasPair 3 (some .boolean) RX3 z A := M
  obtain ⟨hx, hb, -, -, hown, hts, -, -, -, hN, hsr, -⟩ := id M
  have hl : lv_has ls 3 [(0, .ref (qP 0)), (1, .int x1), (2, .int x2)] := hl
  unfold wX3_hasPair at h
  generalize s.heap = H at hw ⊢
  generalize ([] : List Loc) = locs at hw ⊢
  refine lv_aload_n hx hb dX3_hasPair_0 rfl (lv_at hl 0 rfl) ?_
  refine lv_iload_n hx hb dX3_hasPair_1 rfl (lv_at hl 1 rfl) ?_
  refine fr_Vi (wN := fun _ : Unit => (pW z qP P)) M (m_X3_hasThing l z qP P x1 _ h) (cwV 1 hts (gdV cd_X3_hasThing ml_X3_49 im_X3_hasThing se_X3_hasThing in_X3) rfl rfl rfl hdV_X3_hasThing ⟨(Nat.le_of_ble_eq_true rfl), (Nat.le_of_ble_eq_true rfl)⟩) (Cut.self _) (Prm.self _ 8 (fun _ => rfl)) 0 rfl rfl rfl hw rfl hl.1 rfl (Nat.le_of_ble_eq_true rfl) dX3_hasPair_2 (fun r_1 u_ H locs h hw => ?_)
  have hw : Hw s z A (pW z qP P) H locs := hw
  try dsimp only at h
  refine lv_if_eq (tgt := 25) hx hb dX3_hasPair_5 (by decide) (fun c_2 => ?_) (fun c_2 => ?_)
  · replace h := iT c_2 h
    refine lv_iconst (v := 0) hx hb dX3_hasPair_25 (by decide) ?_
    exact rt_z M () hw bz0 h dX3_hasPair_26
  · replace h := iF c_2 h
    refine lv_aload_n hx hb dX3_hasPair_8 rfl (lv_at hl 0 rfl) ?_
    refine lv_iload_n hx hb dX3_hasPair_9 rfl (lv_at hl 2 rfl) ?_
    refine fr_Vi (wN := fun _ : Unit => (pW z qP P)) M (m_X3_hasThing l z qP P x2 _ h) (cwV 1 hts (gdV cd_X3_hasThing ml_X3_49 im_X3_hasThing se_X3_hasThing in_X3) rfl rfl rfl hdV_X3_hasThing ⟨(Nat.le_of_ble_eq_true rfl), (Nat.le_of_ble_eq_true rfl)⟩) (Cut.self _) (Prm.self _ 8 (fun _ => rfl)) 0 rfl rfl rfl hw rfl hl.1 rfl (Nat.le_of_ble_eq_true rfl) dX3_hasPair_10 (fun r_3 u_ H locs h hw => ?_)
    have hw : Hw s z A (pW z qP P) H locs := hw
    try dsimp only at h
    refine lv_if_eq (tgt := 25) hx hb dX3_hasPair_13 (by decide) (fun c_4 => ?_) (fun c_4 => ?_)
    · replace h := iT c_4 h
      refine lv_iconst (v := 0) hx hb dX3_hasPair_25 (by decide) ?_
      exact rt_z M () hw bz0 h dX3_hasPair_26
    · replace h := iF c_4 h
      refine lv_iload_n hx hb dX3_hasPair_16 rfl (lv_at hl 1 rfl) ?_
      refine lv_iload_n hx hb dX3_hasPair_17 rfl (lv_at hl 2 rfl) ?_
      refine lv_icmp_eq (tgt := 25) hx hb dX3_hasPair_18 (by decide) (fun c_5 => ?_) (fun c_5 => ?_)
      · replace h := iT c_5 h
        refine lv_iconst (v := 0) hx hb dX3_hasPair_25 (by decide) ?_
        exact rt_z M () hw bz0 h dX3_hasPair_26
      · replace h := iF c_5 h
        refine lv_iconst (v := 1) hx hb dX3_hasPair_21 (by decide) ?_
        refine lv_goto (tgt := 26) hx hb dX3_hasPair_22 (by decide) ?_
        exact rt_z M () hw bz1 h dX3_hasPair_26
abbrev rmX3_addThing : Room := { frames := 0, cells := 0, slots := 0, locals := 0 }
set_option maxHeartbeats 4000000 in
set_option maxRecDepth 100000 in
theorem m_X3_addThing (l : Launch) (z : KT) (qP : Nat → Nat) (P : RT) (x1 : Int32) (x2 : Int32) (x3 : Int32) (Q : RT → Prop) (h : wX3_addThing P x1 x2 x3 Q) : CV l yX3_addThing cX3_addThing 4 rmX3_addThing z [.ref (qP 0), .int x1, .int x2, .int x3] (pW z qP P) (fun u : RT => (pW z qP u)) (fun u : RT => Q u) := by
  refine CV.of rfl (Nat.le_of_ble_eq_true rfl) ?_
  intro p e s m below meth c A ls M hw hl
  have M : Mc p s m _ meth c cX3_addThing 4 none RX3 z A := M
  obtain ⟨hx, hb, -, -, hown, hts, -, -, -, hN, hsr, -⟩ := id M
  have hl : lv_has ls 4 [(0, .ref (qP 0)), (1, .int x1), (2, .int x2), (3, .int x3)] := hl
  unfold wX3_addThing at h
  generalize s.heap = H at hw ⊢
  generalize ([] : List Loc) = locs at hw ⊢
  refine lv_aload_n hx hb dX3_addThing_0 rfl (lv_at hl 0 rfl) ?_
  refine gt_f (v := .ref (qP 1)) M inlX3 hw 0 rfl rfl 0 (by decide) fl_X3_9 rfl rfl dX3_addThing_1 ?_
  refine lv_aload_n hx hb dX3_addThing_4 rfl (lv_at hl 0 rfl) ?_
  refine gt_f (v := .int (P 30 7)) M inlX3 hw 0 rfl rfl 7 (by decide) fl_X3_33 rfl rfl dX3_addThing_5 ?_
  refine lv_iload_n hx hb dX3_addThing_8 rfl (lv_at hl 1 rfl) ?_
  obtain ⟨a_1, h⟩ := h
  refine st_i (P := P) (r := 0) (wN := fun P_2 => (pW z qP P_2)) M hw 1 rfl rfl a_1 dX3_addThing_9 (fun P_2 H locs eP_2 hw => ?_)
  replace h := h P_2 eP_2
  refine lv_aload_n hx hb dX3_addThing_10 rfl (lv_at hl 0 rfl) ?_
  refine gt_f (v := .ref (qP 2)) M inlX3 hw 0 rfl rfl 1 (by decide) fl_X3_15 rfl rfl dX3_addThing_11 ?_
  refine lv_aload_n hx hb dX3_addThing_14 rfl (lv_at hl 0 rfl) ?_
  refine gt_f (v := .int (P_2 30 7)) M inlX3 hw 0 rfl rfl 7 (by decide) fl_X3_33 rfl rfl dX3_addThing_15 ?_
  refine lv_iload_n hx hb dX3_addThing_18 rfl (lv_at hl 2 rfl) ?_
  obtain ⟨a_3, h⟩ := h
  refine st_i (P := P_2) (r := 1) (wN := fun P_4 => (pW z qP P_4)) M hw 2 rfl rfl a_3 dX3_addThing_19 (fun P_4 H locs eP_4 hw => ?_)
  replace h := h P_4 eP_4
  refine lv_aload_n hx hb dX3_addThing_20 rfl (lv_at hl 0 rfl) ?_
  refine gt_f (v := .ref (qP 3)) M inlX3 hw 0 rfl rfl 2 (by decide) fl_X3_18 rfl rfl dX3_addThing_21 ?_
  refine lv_aload_n hx hb dX3_addThing_24 rfl (lv_at hl 0 rfl) ?_
  refine gt_f (v := .int (P_4 30 7)) M inlX3 hw 0 rfl rfl 7 (by decide) fl_X3_33 rfl rfl dX3_addThing_25 ?_
  refine lv_iload_n hx hb dX3_addThing_28 rfl (lv_at hl 3 rfl) ?_
  obtain ⟨a_5, h⟩ := h
  refine st_i (P := P_4) (r := 2) (wN := fun P_6 => (pW z qP P_6)) M hw 3 rfl rfl a_5 dX3_addThing_29 (fun P_6 H locs eP_6 hw => ?_)
  replace h := h P_6 eP_6
  refine lv_aload_n hx hb dX3_addThing_30 rfl (lv_at hl 0 rfl) ?_
  refine gt_f (v := .ref (qP 4)) M inlX3 hw 0 rfl rfl 3 (by decide) fl_X3_21 rfl rfl dX3_addThing_31 ?_
  refine lv_aload_n hx hb dX3_addThing_34 rfl (lv_at hl 0 rfl) ?_
  refine gt_f (v := .int (P_6 30 7)) M inlX3 hw 0 rfl rfl 7 (by decide) fl_X3_33 rfl rfl dX3_addThing_35 ?_
  refine lv_iconst (v := 0) hx hb dX3_addThing_38 (by decide) ?_
  obtain ⟨a_7, h⟩ := h
  refine st_i (P := P_6) (r := 3) (wN := fun P_8 => (pW z qP P_8)) M hw 4 rfl rfl a_7 dX3_addThing_39 (fun P_8 H locs eP_8 hw => ?_)
  replace h := h P_8 eP_8
  refine lv_aload_n hx hb dX3_addThing_40 rfl (lv_at hl 0 rfl) ?_
  refine gt_f (v := .ref (qP 5)) M inlX3 hw 0 rfl rfl 4 (by decide) fl_X3_24 rfl rfl dX3_addThing_41 ?_
  refine lv_aload_n hx hb dX3_addThing_44 rfl (lv_at hl 0 rfl) ?_
  refine gt_f (v := .int (P_8 30 7)) M inlX3 hw 0 rfl rfl 7 (by decide) fl_X3_33 rfl rfl dX3_addThing_45 ?_
  refine lv_iconst (v := 0) hx hb dX3_addThing_48 (by decide) ?_
  obtain ⟨a_9, h⟩ := h
  refine st_i (P := P_8) (r := 4) (wN := fun P_10 => (pW z qP P_10)) M hw 5 rfl rfl a_9 dX3_addThing_49 (fun P_10 H locs eP_10 hw => ?_)
  replace h := h P_10 eP_10
  refine lv_aload_n hx hb dX3_addThing_50 rfl (lv_at hl 0 rfl) ?_
  refine lv_dup hx hb dX3_addThing_51 rfl ?_
  refine gt_f (v := .int (P_10 30 7)) M inlX3 hw 0 rfl rfl 7 (by decide) fl_X3_33 rfl rfl dX3_addThing_52 ?_
  refine lv_iconst (v := 1) hx hb dX3_addThing_55 (by decide) ?_
  refine lv_iadd hx hb dX3_addThing_56 ?_
  refine st_f (P := P_10) (r := 30) (j := 7) (wN := fun P_11 => (pW z qP P_11)) M inlX3 tyX3_ok nmX3 hw 0 rfl rfl 7 (by decide) fl_X3_33 rfl rfl rfl rfl rfl (Nat.le_of_ble_eq_true rfl) rfl dX3_addThing_57 (fun P_11 H locs eP_11 hw => ?_)
  replace h := h P_11 eP_11
  exact rt_v M P_11 hw h dX3_addThing_60
abbrev rmX3_addRope : Room := { frames := 0, cells := 0, slots := 0, locals := 0 }
set_option maxHeartbeats 4000000 in
set_option maxRecDepth 100000 in
theorem m_X3_addRope (l : Launch) (z : KT) (qP : Nat → Nat) (P : RT) (x1 : Int32) (x2 : Int32) (Q : Int32 → RT → Prop) (h : wX3_addRope P x1 x2 Q) : CI l yX3_addRope cX3_addRope 3 .int rmX3_addRope z [.ref (qP 0), .int x1, .int x2] (pW z qP P) (fun u : RT => (pW z qP u)) (fun (r : Int32) (u : RT) => Q r u) := by
  refine CI.of rfl (Nat.le_of_ble_eq_true rfl) ?_
  intro p e s m below meth c A ls M hw hl
  have M : Mc p s m _ meth c cX3_addRope 3 (some .int) RX3 z A := M
  obtain ⟨hx, hb, -, -, hown, hts, -, -, -, hN, hsr, -⟩ := id M
  have hl : lv_has ls 3 [(0, .ref (qP 0)), (1, .int x1), (2, .int x2)] := hl
  unfold wX3_addRope at h
  generalize s.heap = H at hw ⊢
  generalize ([] : List Loc) = locs at hw ⊢
  refine lv_aload_n hx hb dX3_addRope_0 rfl (lv_at hl 0 rfl) ?_
  refine gt_f (v := .ref (qP 6)) M inlX3 hw 0 rfl rfl 5 (by decide) fl_X3_27 rfl rfl dX3_addRope_1 ?_
  refine lv_aload_n hx hb dX3_addRope_4 rfl (lv_at hl 0 rfl) ?_
  refine gt_f (v := .int (P 30 8)) M inlX3 hw 0 rfl rfl 8 (by decide) fl_X3_37 rfl rfl dX3_addRope_5 ?_
  refine lv_iload_n hx hb dX3_addRope_8 rfl (lv_at hl 1 rfl) ?_
  obtain ⟨a_1, h⟩ := h
  refine st_i (P := P) (r := 5) (wN := fun P_2 => (pW z qP P_2)) M hw 6 rfl rfl a_1 dX3_addRope_9 (fun P_2 H locs eP_2 hw => ?_)
  replace h := h P_2 eP_2
  refine lv_aload_n hx hb dX3_addRope_10 rfl (lv_at hl 0 rfl) ?_
  refine gt_f (v := .ref (qP 7)) M inlX3 hw 0 rfl rfl 6 (by decide) fl_X3_30 rfl rfl dX3_addRope_11 ?_
  refine lv_aload_n hx hb dX3_addRope_14 rfl (lv_at hl 0 rfl) ?_
  refine gt_f (v := .int (P_2 30 8)) M inlX3 hw 0 rfl rfl 8 (by decide) fl_X3_37 rfl rfl dX3_addRope_15 ?_
  refine lv_iload_n hx hb dX3_addRope_18 rfl (lv_at hl 2 rfl) ?_
  obtain ⟨a_3, h⟩ := h
  refine st_i (P := P_2) (r := 6) (wN := fun P_4 => (pW z qP P_4)) M hw 7 rfl rfl a_3 dX3_addRope_19 (fun P_4 H locs eP_4 hw => ?_)
  replace h := h P_4 eP_4
  refine lv_aload_n hx hb dX3_addRope_20 rfl (lv_at hl 0 rfl) ?_
  refine lv_dup hx hb dX3_addRope_21 rfl ?_
  refine gt_f (v := .int (P_4 30 8)) M inlX3 hw 0 rfl rfl 8 (by decide) fl_X3_37 rfl rfl dX3_addRope_22 ?_
  refine lv_iconst (v := 1) hx hb dX3_addRope_25 (by decide) ?_
  refine lv_iadd hx hb dX3_addRope_26 ?_
  refine st_f (P := P_4) (r := 30) (j := 8) (wN := fun P_5 => (pW z qP P_5)) M inlX3 tyX3_ok nmX3 hw 0 rfl rfl 8 (by decide) fl_X3_37 rfl rfl rfl rfl rfl (Nat.le_of_ble_eq_true rfl) rfl dX3_addRope_27 (fun P_5 H locs eP_5 hw => ?_)
  replace h := h P_5 eP_5
  refine lv_aload_n hx hb dX3_addRope_30 rfl (lv_at hl 0 rfl) ?_
  refine gt_f (v := .int (P_5 30 8)) M inlX3 hw 0 rfl rfl 8 (by decide) fl_X3_37 rfl rfl dX3_addRope_31 ?_
  refine lv_iconst (v := 1) hx hb dX3_addRope_34 (by decide) ?_
  refine lv_isub hx hb dX3_addRope_35 ?_
  exact rt_i M P_5 hw h dX3_addRope_36
abbrev rmX3_dropRope : Room := { frames := 0, cells := 0, slots := 0, locals := 0 }
set_option maxHeartbeats 4000000 in
set_option maxRecDepth 100000 in
theorem kX3_dropRope_12 {p : Program} {l : Launch} {e : Env} {s : State} {m : MethodId} {args : Array Value} {below : List Frame} {meth : Method} {c : Code} {z : KT} {A : Nat → Prop} {qP : Nat → Nat} {Q : Int32 → RT → Prop} (M : Mc p s m args meth c cX3_dropRope 3 (some .int) RX3 z A) : ∀ (n : Nat) (P : RT) (x2 : Int32) (H : Heap) (locs : List Loc) (ls : Array Slot), Hw s z A (pW z qP P) H locs → lv_has ls 3 [(0, .ref (qP 0)), (2, .int x2)] → bX3_dropRope_12 Q n P x2 → W p l e rmX3_dropRope s m args below meth c H locs 0 0 (MQ below (va_Qi (fun (r : Int32) (u : RT) => Q r u) (fun u t => cAt z A ((fun u : RT => (pW z qP u)) u) t) A) args s 0 0 A) (F0 m 12 ls []) := by
  obtain ⟨hx, hb, -, -, hown, hts, -, -, -, hN, hsr, -⟩ := id M
  intro n
  induction n with
  | zero => intro P x2 H locs ls hw hl h; exact False.elim h
  | succ n ih =>
    intro P x2 H locs ls hw hl h
    rw [bX3_dropRope_12] at h
    refine lv_iload_n hx hb dX3_dropRope_12 rfl (lv_at hl 1 rfl) ?_
    refine lv_aload_n hx hb dX3_dropRope_13 rfl (lv_at hl 0 rfl) ?_
    refine gt_f (v := .int (P 30 8)) M inlX3 hw 0 rfl rfl 8 (by decide) fl_X3_37 rfl rfl dX3_dropRope_14 ?_
    refine lv_icmp_ge (tgt := 54) hx hb dX3_dropRope_17 (by decide) (fun c_1 => ?_) (fun c_1 => ?_)
    · replace h := iT c_1 h
      refine lv_aload_n hx hb dX3_dropRope_54 rfl (lv_at hl 0 rfl) ?_
      refine gt_f (v := .int (P 30 8)) M inlX3 hw 0 rfl rfl 8 (by decide) fl_X3_37 rfl rfl dX3_dropRope_55 ?_
      exact rt_i M P hw h dX3_dropRope_58
    · replace h := iF c_1 h
      refine lv_aload_n hx hb dX3_dropRope_20 rfl (lv_at hl 0 rfl) ?_
      refine gt_f (v := .ref (qP 6)) M inlX3 hw 0 rfl rfl 5 (by decide) fl_X3_27 rfl rfl dX3_dropRope_21 ?_
      refine lv_iload_n hx hb dX3_dropRope_24 rfl (lv_at hl 1 rfl) ?_
      refine lv_aload_n hx hb dX3_dropRope_25 rfl (lv_at hl 0 rfl) ?_
      refine gt_f (v := .ref (qP 6)) M inlX3 hw 0 rfl rfl 5 (by decide) fl_X3_27 rfl rfl dX3_dropRope_26 ?_
      refine lv_iload_n hx hb dX3_dropRope_29 rfl (lv_at hl 1 rfl) ?_
      refine lv_iconst (v := 1) hx hb dX3_dropRope_30 (by decide) ?_
      refine lv_iadd hx hb dX3_dropRope_31 ?_
      obtain ⟨a_2, h⟩ := h
      refine ld_i M hw 6 rfl a_2 dX3_dropRope_32 ?_
      obtain ⟨a_3, h⟩ := h
      refine st_i (P := P) (r := 5) (wN := fun P_4 => (pW z qP P_4)) M hw 6 rfl rfl a_3 dX3_dropRope_33 (fun P_4 H locs eP_4 hw => ?_)
      replace h := h P_4 eP_4
      refine lv_aload_n hx hb dX3_dropRope_34 rfl (lv_at hl 0 rfl) ?_
      refine gt_f (v := .ref (qP 7)) M inlX3 hw 0 rfl rfl 6 (by decide) fl_X3_30 rfl rfl dX3_dropRope_35 ?_
      refine lv_iload_n hx hb dX3_dropRope_38 rfl (lv_at hl 1 rfl) ?_
      refine lv_aload_n hx hb dX3_dropRope_39 rfl (lv_at hl 0 rfl) ?_
      refine gt_f (v := .ref (qP 7)) M inlX3 hw 0 rfl rfl 6 (by decide) fl_X3_30 rfl rfl dX3_dropRope_40 ?_
      refine lv_iload_n hx hb dX3_dropRope_43 rfl (lv_at hl 1 rfl) ?_
      refine lv_iconst (v := 1) hx hb dX3_dropRope_44 (by decide) ?_
      refine lv_iadd hx hb dX3_dropRope_45 ?_
      refine ld_i M hw 7 rfl a_2 dX3_dropRope_46 ?_
      refine st_i (P := P_4) (r := 6) (wN := fun P_5 => (pW z qP P_5)) M hw 7 rfl rfl a_3 dX3_dropRope_47 (fun P_5 H locs eP_5 hw => ?_)
      replace h := h P_5 eP_5
      obtain ⟨x2_6, ex2_6⟩ : ∃ y : Int32, y = (x2 + (1 : Int32)) := ⟨_, rfl⟩
      replace h := h x2_6 ex2_6
      refine lv_iinc (v := x2_6) (lv' := [(2, .int x2_6), (0, .ref (qP 0))]) hx hb dX3_dropRope_48 hl (k := 1) rfl (by rw [ex2_6]; rfl) (by decide) rfl (fun ls hl => ?_)
      refine lv_goto (tgt := 12) hx hb dX3_dropRope_51 (by decide) ?_
      exact ih P_5 x2_6 H locs ls hw (lv_sub hl [1, 0] rfl) h
set_option maxHeartbeats 4000000 in
set_option maxRecDepth 100000 in
theorem m_X3_dropRope (l : Launch) (z : KT) (qP : Nat → Nat) (P : RT) (x1 : Int32) (Q : Int32 → RT → Prop) (h : wX3_dropRope P x1 Q) : CI l yX3_dropRope cX3_dropRope 3 .int rmX3_dropRope z [.ref (qP 0), .int x1] (pW z qP P) (fun u : RT => (pW z qP u)) (fun (r : Int32) (u : RT) => Q r u) := by
  refine CI.of rfl (Nat.le_of_ble_eq_true rfl) ?_
  intro p e s m below meth c A ls M hw hl
  have M : Mc p s m _ meth c cX3_dropRope 3 (some .int) RX3 z A := M
  obtain ⟨hx, hb, -, -, hown, hts, -, -, -, hN, hsr, -⟩ := id M
  have hl : lv_has ls 3 [(0, .ref (qP 0)), (1, .int x1)] := hl
  unfold wX3_dropRope at h
  generalize s.heap = H at hw ⊢
  generalize ([] : List Loc) = locs at hw ⊢
  refine lv_aload_n hx hb dX3_dropRope_0 rfl (lv_at hl 0 rfl) ?_
  refine lv_dup hx hb dX3_dropRope_1 rfl ?_
  refine gt_f (v := .int (P 30 8)) M inlX3 hw 0 rfl rfl 8 (by decide) fl_X3_37 rfl rfl dX3_dropRope_2 ?_
  refine lv_iconst (v := 1) hx hb dX3_dropRope_5 (by decide) ?_
  refine lv_isub hx hb dX3_dropRope_6 ?_
  refine st_f (P := P) (r := 30) (j := 8) (wN := fun P_1 => (pW z qP P_1)) M inlX3 tyX3_ok nmX3 hw 0 rfl rfl 8 (by decide) fl_X3_37 rfl rfl rfl rfl rfl (Nat.le_of_ble_eq_true rfl) rfl dX3_dropRope_7 (fun P_1 H locs eP_1 hw => ?_)
  replace h := h P_1 eP_1
  refine lv_iload_n hx hb dX3_dropRope_10 rfl (lv_at hl 1 rfl) ?_
  refine lv_istore_n (lv' := [(2, .int x1), (0, .ref (qP 0)), (1, .int x1)]) hx hb dX3_dropRope_11 rfl hl (by decide) rfl (fun ls hl => ?_)
  obtain ⟨n0, h⟩ := h; exact kX3_dropRope_12 M n0 P_1 x1 H locs ls hw (lv_sub hl [1, 0] rfl) h
abbrev rmX3_heftOf : Room := { frames := 0, cells := 0, slots := 0, locals := 0 }
set_option maxHeartbeats 4000000 in
set_option maxRecDepth 100000 in
theorem kX3_heftOf_132 {p : Program} {l : Launch} {e : Env} {s : State} {m : MethodId} {args : Array Value} {below : List Frame} {meth : Method} {c : Code} {z : KT} {A : Nat → Prop} {qP : Nat → Nat} {P : RT} {Q : Int32 → Prop} (M : Mc p s m args meth c cX3_heftOf 7 (some .int) RX3 z A) : ∀ (x3 : Int32) (x6 : Int32) (H : Heap) (locs : List Loc) (ls : Array Slot), Hw s z A (pW z qP P) H locs → lv_has ls 7 [(0, .ref (qP 0)), (3, .int x3), (6, .int x6)] → bX3_heftOf_132 P Q x3 x6 → W p l e rmX3_heftOf s m args below meth c H locs 0 0 (MQ below (va_Qi (fun (r : Int32) (_ : Unit) => Q r) (fun u t => cAt z A ((fun _ : Unit => (pW z qP P)) u) t) A) args s 0 0 A) (F0 m 132 ls []) := by
  obtain ⟨hx, hb, -, -, hown, hts, -, -, -, hN, hsr, -⟩ := id M
  intro x3 x6 H locs ls hw hl h
  unfold bX3_heftOf_132 at h
  refine lv_iload_n hx hb dX3_heftOf_132 rfl (lv_at hl 1 rfl) ?_
  refine lv_iconst (v := 3) hx hb dX3_heftOf_133 (by decide) ?_
  refine lv_icmp_ne (tgt := 150) hx hb dX3_heftOf_134 (by decide) (fun c_1 => ?_) (fun c_1 => ?_)
  · replace h := iF c_1 h
    refine lv_iload hx hb dX3_heftOf_150 (lv_at hl 2 rfl) ?_
    exact rt_i M () hw h dX3_heftOf_152
  · replace h := iT c_1 h
    refine lv_aload_n hx hb dX3_heftOf_137 rfl (lv_at hl 0 rfl) ?_
    refine gt_f (v := .int (P 30 9)) M inlX3 hw 0 rfl rfl 9 (by decide) fl_X3_40 rfl rfl dX3_heftOf_138 ?_
    refine lv_iconst (v := 2) hx hb dX3_heftOf_141 (by decide) ?_
    refine lv_irem hx hb dX3_heftOf_142 (by decide) ?_
    refine lv_iconst (v := 1) hx hb dX3_heftOf_143 (by decide) ?_
    refine lv_icmp_ne (tgt := 150) hx hb dX3_heftOf_144 (by decide) (fun c_2 => ?_) (fun c_2 => ?_)
    · replace h := iF c_2 h
      refine lv_iload hx hb dX3_heftOf_150 (lv_at hl 2 rfl) ?_
      exact rt_i M () hw h dX3_heftOf_152
    · replace h := iT c_2 h
      obtain ⟨x6_3, ex6_3⟩ : ∃ y : Int32, y = (x6 + (5 : Int32)) := ⟨_, rfl⟩
      replace h := h x6_3 ex6_3
      refine lv_iinc (v := x6_3) (lv' := [(6, .int x6_3), (0, .ref (qP 0)), (3, .int x3)]) hx hb dX3_heftOf_147 hl (k := 2) rfl (by rw [ex6_3]; rfl) (by decide) rfl (fun ls hl => ?_)
      refine lv_iload hx hb dX3_heftOf_150 (lv_at hl 0 rfl) ?_
      exact rt_i M () hw h dX3_heftOf_152
set_option maxHeartbeats 4000000 in
set_option maxRecDepth 100000 in
theorem kX3_heftOf_113 {p : Program} {l : Launch} {e : Env} {s : State} {m : MethodId} {args : Array Value} {below : List Frame} {meth : Method} {c : Code} {z : KT} {A : Nat → Prop} {qP : Nat → Nat} {P : RT} {Q : Int32 → Prop} (M : Mc p s m args meth c cX3_heftOf 7 (some .int) RX3 z A) : ∀ (x3 : Int32) (x4 : Int32) (x5 : Int32) (x6 : Int32) (H : Heap) (locs : List Loc) (ls : Array Slot), Hw s z A (pW z qP P) H locs → lv_has ls 7 [(0, .ref (qP 0)), (3, .int x3), (4, .int x4), (5, .int x5), (6, .int x6)] → bX3_heftOf_113 P Q x3 x4 x5 x6 → W p l e rmX3_heftOf s m args below meth c H locs 0 0 (MQ below (va_Qi (fun (r : Int32) (_ : Unit) => Q r) (fun u t => cAt z A ((fun _ : Unit => (pW z qP P)) u) t) A) args s 0 0 A) (F0 m 113 ls []) := by
  obtain ⟨hx, hb, -, -, hown, hts, -, -, -, hN, hsr, -⟩ := id M
  intro x3 x4 x5 x6 H locs ls hw hl h
  unfold bX3_heftOf_113 at h
  refine lv_iload hx hb dX3_heftOf_113 (lv_at hl 2 rfl) ?_
  refine lv_if_eq (tgt := 132) hx hb dX3_heftOf_115 (by decide) (fun c_1 => ?_) (fun c_1 => ?_)
  · replace h := iT c_1 h
    exact kX3_heftOf_132 M x3 x6 H locs ls hw (lv_sub hl [0, 1, 4] rfl) h
  · replace h := iF c_1 h
    refine lv_iload hx hb dX3_heftOf_118 (lv_at hl 3 rfl) ?_
    refine lv_iconst (v := 5) hx hb dX3_heftOf_120 (by decide) ?_
    refine lv_icmp_gt (tgt := 132) hx hb dX3_heftOf_121 (by decide) (fun c_2 => ?_) (fun c_2 => ?_)
    · replace h := iT c_2 h
      exact kX3_heftOf_132 M x3 x6 H locs ls hw (lv_sub hl [0, 1, 4] rfl) h
    · replace h := iF c_2 h
      refine lv_iload hx hb dX3_heftOf_124 (lv_at hl 4 rfl) ?_
      refine lv_if_le (tgt := 132) hx hb dX3_heftOf_126 (by decide) (fun c_3 => ?_) (fun c_3 => ?_)
      · replace h := iT c_3 h
        exact kX3_heftOf_132 M x3 x6 H locs ls hw (lv_sub hl [0, 1, 4] rfl) h
      · replace h := iF c_3 h
        obtain ⟨x6_4, ex6_4⟩ : ∃ y : Int32, y = (x6 + (-1 : Int32)) := ⟨_, rfl⟩
        replace h := h x6_4 ex6_4
        refine lv_iinc (v := x6_4) (lv' := [(6, .int x6_4), (0, .ref (qP 0)), (3, .int x3), (4, .int x4), (5, .int x5)]) hx hb dX3_heftOf_129 hl (k := 4) rfl (by rw [ex6_4]; rfl) (by decide) rfl (fun ls hl => ?_)
        exact kX3_heftOf_132 M x3 x6_4 H locs ls hw (lv_sub hl [1, 2, 0] rfl) h
set_option maxHeartbeats 4000000 in
set_option maxRecDepth 100000 in
theorem kX3_heftOf_88 {p : Program} {l : Launch} {e : Env} {s : State} {m : MethodId} {args : Array Value} {below : List Frame} {meth : Method} {c : Code} {z : KT} {A : Nat → Prop} {qP : Nat → Nat} {P : RT} {Q : Int32 → Prop} (M : Mc p s m args meth c cX3_heftOf 7 (some .int) RX3 z A) : ∀ (x1 : Int32) (x3 : Int32) (x4 : Int32) (x5 : Int32) (x6 : Int32) (H : Heap) (locs : List Loc) (ls : Array Slot), Hw s z A (pW z qP P) H locs → lv_has ls 7 [(0, .ref (qP 0)), (1, .int x1), (3, .int x3), (4, .int x4), (5, .int x5), (6, .int x6)] → bX3_heftOf_88 P Q x1 x3 x4 x5 x6 → W p l e rmX3_heftOf s m args below meth c H locs 0 0 (MQ below (va_Qi (fun (r : Int32) (_ : Unit) => Q r) (fun u t => cAt z A ((fun _ : Unit => (pW z qP P)) u) t) A) args s 0 0 A) (F0 m 88 ls []) := by
  obtain ⟨hx, hb, -, -, hown, hts, -, -, -, hN, hsr, -⟩ := id M
  intro x1 x3 x4 x5 x6 H locs ls hw hl h
  unfold bX3_heftOf_88 at h
  refine lv_iload hx hb dX3_heftOf_88 (lv_at hl 4 rfl) ?_
  refine lv_bipush (v := 12) hx hb dX3_heftOf_90 (by decide) ?_
  refine lv_icmp_lt (tgt := 113) hx hb dX3_heftOf_92 (by decide) (fun c_1 => ?_) (fun c_1 => ?_)
  · replace h := iT c_1 h
    exact kX3_heftOf_113 M x3 x4 x5 x6 H locs ls hw (lv_sub hl [0, 2, 3, 4, 5] rfl) h
  · replace h := iF c_1 h
    refine lv_iload hx hb dX3_heftOf_95 (lv_at hl 4 rfl) ?_
    refine lv_bipush (v := 17) hx hb dX3_heftOf_97 (by decide) ?_
    refine lv_icmp_gt (tgt := 113) hx hb dX3_heftOf_99 (by decide) (fun c_2 => ?_) (fun c_2 => ?_)
    · replace h := iT c_2 h
      exact kX3_heftOf_113 M x3 x4 x5 x6 H locs ls hw (lv_sub hl [0, 2, 3, 4, 5] rfl) h
    · replace h := iF c_2 h
      refine lv_iload hx hb dX3_heftOf_102 (lv_at hl 5 rfl) ?_
      refine lv_aload_n hx hb dX3_heftOf_104 rfl (lv_at hl 0 rfl) ?_
      refine gt_f (v := .ref (qP 2)) M inlX3 hw 0 rfl rfl 1 (by decide) fl_X3_15 rfl rfl dX3_heftOf_105 ?_
      refine lv_iload_n hx hb dX3_heftOf_108 rfl (lv_at hl 1 rfl) ?_
      obtain ⟨a_3, h⟩ := h
      refine ld_i M hw 2 rfl a_3 dX3_heftOf_109 ?_
      refine lv_iadd hx hb dX3_heftOf_110 ?_
      refine lv_topi (fun x6_4 ex6_4 => ?_)
      replace h := h x6_4 ex6_4
      refine lv_istore (lv' := [(6, .int x6_4), (0, .ref (qP 0)), (1, .int x1), (3, .int x3), (4, .int x4), (5, .int x5)]) hx hb dX3_heftOf_111 hl (by decide) rfl (fun ls hl => ?_)
      exact kX3_heftOf_113 M x3 x4 x5 x6_4 H locs ls hw (lv_sub hl [1, 3, 4, 5, 0] rfl) h
set_option maxHeartbeats 4000000 in
set_option maxRecDepth 100000 in
theorem kX3_heftOf_64 {p : Program} {l : Launch} {e : Env} {s : State} {m : MethodId} {args : Array Value} {below : List Frame} {meth : Method} {c : Code} {z : KT} {A : Nat → Prop} {qP : Nat → Nat} {P : RT} {Q : Int32 → Prop} (M : Mc p s m args meth c cX3_heftOf 7 (some .int) RX3 z A) : ∀ (x1 : Int32) (x2 : Int32) (x3 : Int32) (t0 : Int32) (H : Heap) (locs : List Loc) (ls : Array Slot), Hw s z A (pW z qP P) H locs → lv_has ls 7 [(0, .ref (qP 0)), (1, .int x1), (2, .int x2), (3, .int x3)] → bX3_heftOf_64 P Q x1 x2 x3 t0 → W p l e rmX3_heftOf s m args below meth c H locs 0 0 (MQ below (va_Qi (fun (r : Int32) (_ : Unit) => Q r) (fun u t => cAt z A ((fun _ : Unit => (pW z qP P)) u) t) A) args s 0 0 A) (F0 m 64 ls [.int t0]) := by
  obtain ⟨hx, hb, -, -, hown, hts, -, -, -, hN, hsr, -⟩ := id M
  intro x1 x2 x3 t0 H locs ls hw hl h
  unfold bX3_heftOf_64 at h
  refine lv_istore (lv' := [(4, .int t0), (0, .ref (qP 0)), (1, .int x1), (2, .int x2), (3, .int x3)]) hx hb dX3_heftOf_64 hl (by decide) rfl (fun ls hl => ?_)
  refine lv_aload_n hx hb dX3_heftOf_66 rfl (lv_at hl 1 rfl) ?_
  refine gt_f (v := .int (P 30 9)) M inlX3 hw 0 rfl rfl 9 (by decide) fl_X3_40 rfl rfl dX3_heftOf_67 ?_
  refine lv_bipush (v := 24) hx hb dX3_heftOf_70 (by decide) ?_
  refine lv_irem hx hb dX3_heftOf_72 (by decide) ?_
  refine lv_topi (fun x5_1 ex5_1 => ?_)
  replace h := h x5_1 ex5_1
  refine lv_istore (lv' := [(5, .int x5_1), (4, .int t0), (0, .ref (qP 0)), (1, .int x1), (2, .int x2), (3, .int x3)]) hx hb dX3_heftOf_73 hl (by decide) rfl (fun ls hl => ?_)
  refine lv_iload_n hx hb dX3_heftOf_75 rfl (lv_at hl 4 rfl) ?_
  refine lv_istore (lv' := [(6, .int x2), (5, .int x5_1), (4, .int t0), (0, .ref (qP 0)), (1, .int x1), (2, .int x2), (3, .int x3)]) hx hb dX3_heftOf_76 hl (by decide) rfl (fun ls hl => ?_)
  refine lv_iload_n hx hb dX3_heftOf_78 rfl (lv_at hl 6 rfl) ?_
  refine lv_iconst (v := 1) hx hb dX3_heftOf_79 (by decide) ?_
  refine lv_icmp_eq (tgt := 88) hx hb dX3_heftOf_80 (by decide) (fun c_2 => ?_) (fun c_2 => ?_)
  · replace h := iT c_2 h
    exact kX3_heftOf_88 M x1 x3 t0 x5_1 x2 H locs ls hw (lv_sub hl [3, 4, 6, 2, 1, 0] rfl) h
  · replace h := iF c_2 h
    refine lv_iload hx hb dX3_heftOf_83 (lv_at hl 2 rfl) ?_
    refine lv_if_eq (tgt := 113) hx hb dX3_heftOf_85 (by decide) (fun c_3 => ?_) (fun c_3 => ?_)
    · replace h := iT c_3 h
      exact kX3_heftOf_113 M x3 t0 x5_1 x2 H locs ls hw (lv_sub hl [3, 6, 2, 1, 0] rfl) h
    · replace h := iF c_3 h
      exact kX3_heftOf_88 M x1 x3 t0 x5_1 x2 H locs ls hw (lv_sub hl [3, 4, 6, 2, 1, 0] rfl) h
set_option maxHeartbeats 4000000 in
set_option maxRecDepth 100000 in
theorem kX3_heftOf_59 {p : Program} {l : Launch} {e : Env} {s : State} {m : MethodId} {args : Array Value} {below : List Frame} {meth : Method} {c : Code} {z : KT} {A : Nat → Prop} {qP : Nat → Nat} {P : RT} {Q : Int32 → Prop} (M : Mc p s m args meth c cX3_heftOf 7 (some .int) RX3 z A) : ∀ (x1 : Int32) (x2 : Int32) (x3 : Int32) (H : Heap) (locs : List Loc) (ls : Array Slot), Hw s z A (pW z qP P) H locs → lv_has ls 7 [(0, .ref (qP 0)), (1, .int x1), (2, .int x2), (3, .int x3)] → bX3_heftOf_59 P Q x1 x2 x3 → W p l e rmX3_heftOf s m args below meth c H locs 0 0 (MQ below (va_Qi (fun (r : Int32) (_ : Unit) => Q r) (fun u t => cAt z A ((fun _ : Unit => (pW z qP P)) u) t) A) args s 0 0 A) (F0 m 59 ls []) := by
  obtain ⟨hx, hb, -, -, hown, hts, -, -, -, hN, hsr, -⟩ := id M
  intro x1 x2 x3 H locs ls hw hl h
  unfold bX3_heftOf_59 at h
  refine lv_iconst (v := 1) hx hb dX3_heftOf_59 (by decide) ?_
  refine lv_goto (tgt := 64) hx hb dX3_heftOf_60 (by decide) ?_
  exact kX3_heftOf_64 M x1 x2 x3 (1 : Int32) H locs ls hw (lv_sub hl [0, 1, 2, 3] rfl) h
set_option maxHeartbeats 4000000 in
set_option maxRecDepth 100000 in
theorem m_X3_heftOf (l : Launch) (z : KT) (qP : Nat → Nat) (P : RT) (x1 : Int32) (Q : Int32 → Prop) (h : wX3_heftOf P x1 Q) : CI l yX3_heftOf cX3_heftOf 7 .int rmX3_heftOf z [.ref (qP 0), .int x1] (pW z qP P) (fun _ : Unit => (pW z qP P)) (fun (r : Int32) (_ : Unit) => Q r) := by
  refine CI.of rfl (Nat.le_of_ble_eq_true rfl) ?_
  intro p e s m below meth c A ls M hw hl
  have M : Mc p s m _ meth c cX3_heftOf 7 (some .int) RX3 z A := M
  obtain ⟨hx, hb, -, -, hown, hts, -, -, -, hN, hsr, -⟩ := id M
  have hl : lv_has ls 7 [(0, .ref (qP 0)), (1, .int x1)] := hl
  unfold wX3_heftOf at h
  generalize s.heap = H at hw ⊢
  generalize ([] : List Loc) = locs at hw ⊢
  refine lv_aload_n hx hb dX3_heftOf_0 rfl (lv_at hl 0 rfl) ?_
  refine gt_f (v := .ref (qP 3)) M inlX3 hw 0 rfl rfl 2 (by decide) fl_X3_18 rfl rfl dX3_heftOf_1 ?_
  refine lv_iload_n hx hb dX3_heftOf_4 rfl (lv_at hl 1 rfl) ?_
  obtain ⟨a_1, h⟩ := h
  refine ld_i M hw 3 rfl a_1 dX3_heftOf_5 ?_
  refine lv_iconst (v := 2) hx hb dX3_heftOf_6 (by decide) ?_
  refine lv_aload_n hx hb dX3_heftOf_7 rfl (lv_at hl 0 rfl) ?_
  refine gt_f (v := .ref (qP 4)) M inlX3 hw 0 rfl rfl 3 (by decide) fl_X3_21 rfl rfl dX3_heftOf_8 ?_
  refine lv_iload_n hx hb dX3_heftOf_11 rfl (lv_at hl 1 rfl) ?_
  refine ld_i M hw 4 rfl a_1 dX3_heftOf_12 ?_
  refine lv_imul hx hb dX3_heftOf_13 ?_
  refine lv_iadd hx hb dX3_heftOf_14 ?_
  refine lv_topi (fun x2_2 ex2_2 => ?_)
  replace h := h x2_2 ex2_2
  refine lv_istore_n (lv' := [(2, .int x2_2), (0, .ref (qP 0)), (1, .int x1)]) hx hb dX3_heftOf_15 rfl hl (by decide) rfl (fun ls hl => ?_)
  refine lv_aload_n hx hb dX3_heftOf_16 rfl (lv_at hl 1 rfl) ?_
  refine gt_f (v := .ref (qP 1)) M inlX3 hw 0 rfl rfl 0 (by decide) fl_X3_9 rfl rfl dX3_heftOf_17 ?_
  refine lv_iload_n hx hb dX3_heftOf_20 rfl (lv_at hl 2 rfl) ?_
  refine ld_i M hw 1 rfl a_1 dX3_heftOf_21 ?_
  refine lv_topi (fun x3_3 ex3_3 => ?_)
  replace h := h x3_3 ex3_3
  refine lv_istore_n (lv' := [(3, .int x3_3), (2, .int x2_2), (0, .ref (qP 0)), (1, .int x1)]) hx hb dX3_heftOf_22 rfl hl (by decide) rfl (fun ls hl => ?_)
  refine lv_iload_n hx hb dX3_heftOf_23 rfl (lv_at hl 0 rfl) ?_
  refine lv_iconst (v := 4) hx hb dX3_heftOf_24 (by decide) ?_
  refine lv_icmp_ne (tgt := 32) hx hb dX3_heftOf_25 (by decide) (fun c_4 => ?_) (fun c_4 => ?_)
  · replace h := iF c_4 h
    refine lv_iload_n hx hb dX3_heftOf_32 rfl (lv_at hl 0 rfl) ?_
    refine lv_iconst (v := 5) hx hb dX3_heftOf_33 (by decide) ?_
    refine lv_icmp_ne (tgt := 49) hx hb dX3_heftOf_34 (by decide) (fun c_5 => ?_) (fun c_5 => ?_)
    · replace h := iF c_5 h
      refine lv_iload_n hx hb dX3_heftOf_49 rfl (lv_at hl 0 rfl) ?_
      refine lv_iconst (v := 2) hx hb dX3_heftOf_50 (by decide) ?_
      refine lv_icmp_eq (tgt := 59) hx hb dX3_heftOf_51 (by decide) (fun c_6 => ?_) (fun c_6 => ?_)
      · replace h := iT c_6 h
        exact kX3_heftOf_59 M x1 x2_2 x3_3 H locs ls hw (lv_sub hl [2, 3, 1, 0] rfl) h
      · replace h := iF c_6 h
        refine lv_iload_n hx hb dX3_heftOf_54 rfl (lv_at hl 0 rfl) ?_
        refine lv_iconst (v := 3) hx hb dX3_heftOf_55 (by decide) ?_
        refine lv_icmp_ne (tgt := 63) hx hb dX3_heftOf_56 (by decide) (fun c_7 => ?_) (fun c_7 => ?_)
        · replace h := iF c_7 h
          refine lv_iconst (v := 0) hx hb dX3_heftOf_63 (by decide) ?_
          exact kX3_heftOf_64 M x1 x2_2 x3_3 (0 : Int32) H locs ls hw (lv_sub hl [2, 3, 1, 0] rfl) h
        · replace h := iT c_7 h
          exact kX3_heftOf_59 M x1 x2_2 x3_3 H locs ls hw (lv_sub hl [2, 3, 1, 0] rfl) h
    · replace h := iT c_5 h
      refine lv_iload_n hx hb dX3_heftOf_37 rfl (lv_at hl 1 rfl) ?_
      refine lv_bipush (v := 20) hx hb dX3_heftOf_38 (by decide) ?_
      refine lv_iadd hx hb dX3_heftOf_40 ?_
      refine lv_aload_n hx hb dX3_heftOf_41 rfl (lv_at hl 2 rfl) ?_
      refine gt_f (v := .ref (qP 2)) M inlX3 hw 0 rfl rfl 1 (by decide) fl_X3_15 rfl rfl dX3_heftOf_42 ?_
      refine lv_iload_n hx hb dX3_heftOf_45 rfl (lv_at hl 3 rfl) ?_
      refine ld_i M hw 2 rfl a_1 dX3_heftOf_46 ?_
      refine lv_iadd hx hb dX3_heftOf_47 ?_
      exact rt_i M () hw h dX3_heftOf_48
  · replace h := iT c_4 h
    refine lv_iload_n hx hb dX3_heftOf_28 rfl (lv_at hl 1 rfl) ?_
    refine lv_iconst (v := 2) hx hb dX3_heftOf_29 (by decide) ?_
    refine lv_idiv hx hb dX3_heftOf_30 (by decide) ?_
    exact rt_i M () hw h dX3_heftOf_31
abbrev rmX3_heavierEnd : Room := { frames := 1, cells := 0, slots := 0, locals := 26 }
set_option maxHeartbeats 4000000 in
set_option maxRecDepth 100000 in
theorem m_X3_heavierEnd (l : Launch) (z : KT) (qP : Nat → Nat) (P : RT) (x1 : Int32) (Q : Int32 → Prop) (h : wX3_heavierEnd P x1 Q) : CI l yX3_heavierEnd cX3_heavierEnd 3 .int rmX3_heavierEnd z [.ref (qP 0), .int x1] (pW z qP P) (fun _ : Unit => (pW z qP P)) (fun (r : Int32) (_ : Unit) => Q r) := by
  refine CI.of rfl (Nat.le_of_ble_eq_true rfl) ?_
  intro p e s m below meth c A ls M hw hl
  have M : Mc p s m _ meth c cX3_heavierEnd 3 (some .int) RX3 z A := M
  obtain ⟨hx, hb, -, -, hown, hts, -, -, -, hN, hsr, -⟩ := id M
  have hl : lv_has ls 3 [(0, .ref (qP 0)), (1, .int x1)] := hl
  unfold wX3_heavierEnd at h
  generalize s.heap = H at hw ⊢
  generalize ([] : List Loc) = locs at hw ⊢
  refine lv_aload_n hx hb dX3_heavierEnd_0 rfl (lv_at hl 0 rfl) ?_
  refine lv_aload_n hx hb dX3_heavierEnd_1 rfl (lv_at hl 0 rfl) ?_
  refine gt_f (v := .ref (qP 6)) M inlX3 hw 0 rfl rfl 5 (by decide) fl_X3_27 rfl rfl dX3_heavierEnd_2 ?_
  refine lv_iload_n hx hb dX3_heavierEnd_5 rfl (lv_at hl 1 rfl) ?_
  obtain ⟨a_1, h⟩ := h
  refine ld_i M hw 6 rfl a_1 dX3_heavierEnd_6 ?_
  refine fr_Vi (wN := fun _ : Unit => (pW z qP P)) M (m_X3_heftOf l z qP P (P 5 (x1).toNatClampNeg) _ h) (cwV 1 hts (gdV cd_X3_heftOf ml_X3_53 im_X3_heftOf se_X3_heftOf in_X3) rfl rfl rfl hdV_X3_heftOf ⟨(Nat.le_of_ble_eq_true rfl), (Nat.le_of_ble_eq_true rfl)⟩) (Cut.self _) (Prm.self _ 8 (fun _ => rfl)) 0 rfl rfl rfl hw rfl hl.1 rfl (Nat.le_of_ble_eq_true rfl) dX3_heavierEnd_7 (fun r_2 u_ H locs h hw => ?_)
  have hw : Hw s z A (pW z qP P) H locs := hw
  try dsimp only at h
  refine lv_aload_n hx hb dX3_heavierEnd_10 rfl (lv_at hl 0 rfl) ?_
  refine lv_aload_n hx hb dX3_heavierEnd_11 rfl (lv_at hl 0 rfl) ?_
  refine gt_f (v := .ref (qP 7)) M inlX3 hw 0 rfl rfl 6 (by decide) fl_X3_30 rfl rfl dX3_heavierEnd_12 ?_
  refine lv_iload_n hx hb dX3_heavierEnd_15 rfl (lv_at hl 1 rfl) ?_
  refine ld_i M hw 7 rfl a_1 dX3_heavierEnd_16 ?_
  refine fr_Vi (wN := fun _ : Unit => (pW z qP P)) M (m_X3_heftOf l z qP P (P 6 (x1).toNatClampNeg) _ h) (cwV 1 hts (gdV cd_X3_heftOf ml_X3_53 im_X3_heftOf se_X3_heftOf in_X3) rfl rfl rfl hdV_X3_heftOf ⟨(Nat.le_of_ble_eq_true rfl), (Nat.le_of_ble_eq_true rfl)⟩) (Cut.self _) (Prm.self _ 8 (fun _ => rfl)) 0 rfl rfl rfl hw rfl hl.1 rfl (Nat.le_of_ble_eq_true rfl) dX3_heavierEnd_17 (fun r_3 u_ H locs h hw => ?_)
  have hw : Hw s z A (pW z qP P) H locs := hw
  try dsimp only at h
  refine lv_isub hx hb dX3_heavierEnd_20 ?_
  refine lv_topi (fun x2_4 ex2_4 => ?_)
  replace h := h x2_4 ex2_4
  refine lv_istore_n (lv' := [(2, .int x2_4), (0, .ref (qP 0)), (1, .int x1)]) hx hb dX3_heavierEnd_21 rfl hl (by decide) rfl (fun ls hl => ?_)
  refine lv_iload_n hx hb dX3_heavierEnd_22 rfl (lv_at hl 0 rfl) ?_
  refine lv_if_ne (tgt := 29) hx hb dX3_heavierEnd_23 (by decide) (fun c_5 => ?_) (fun c_5 => ?_)
  · replace h := iF c_5 h
    refine lv_iload_n hx hb dX3_heavierEnd_29 rfl (lv_at hl 0 rfl) ?_
    refine lv_if_le (tgt := 42) hx hb dX3_heavierEnd_30 (by decide) (fun c_6 => ?_) (fun c_6 => ?_)
    · replace h := iT c_6 h
      refine lv_aload_n hx hb dX3_heavierEnd_42 rfl (lv_at hl 1 rfl) ?_
      refine gt_f (v := .ref (qP 7)) M inlX3 hw 0 rfl rfl 6 (by decide) fl_X3_30 rfl rfl dX3_heavierEnd_43 ?_
      refine lv_iload_n hx hb dX3_heavierEnd_46 rfl (lv_at hl 2 rfl) ?_
      refine ld_i M hw 7 rfl a_1 dX3_heavierEnd_47 ?_
      exact rt_i M () hw h dX3_heavierEnd_48
    · replace h := iF c_6 h
      refine lv_aload_n hx hb dX3_heavierEnd_33 rfl (lv_at hl 1 rfl) ?_
      refine gt_f (v := .ref (qP 6)) M inlX3 hw 0 rfl rfl 5 (by decide) fl_X3_27 rfl rfl dX3_heavierEnd_34 ?_
      refine lv_iload_n hx hb dX3_heavierEnd_37 rfl (lv_at hl 2 rfl) ?_
      refine ld_i M hw 6 rfl a_1 dX3_heavierEnd_38 ?_
      refine lv_goto (tgt := 48) hx hb dX3_heavierEnd_39 (by decide) ?_
      exact rt_i M () hw h dX3_heavierEnd_48
  · replace h := iT c_5 h
    refine lv_bipush (v := -9) hx hb dX3_heavierEnd_26 (by decide) ?_
    exact rt_i M () hw h dX3_heavierEnd_28
abbrev rmX3_farEnd : Room := { frames := 0, cells := 0, slots := 0, locals := 0 }
set_option maxHeartbeats 4000000 in
set_option maxRecDepth 100000 in
theorem m_X3_farEnd (l : Launch) (z : KT) (qP : Nat → Nat) (P : RT) (x1 : Int32) (x2 : Int32) (Q : Int32 → Prop) (h : wX3_farEnd P x1 x2 Q) : CI l yX3_farEnd cX3_farEnd 3 .int rmX3_farEnd z [.ref (qP 0), .int x1, .int x2] (pW z qP P) (fun _ : Unit => (pW z qP P)) (fun (r : Int32) (_ : Unit) => Q r) := by
  refine CI.of rfl (Nat.le_of_ble_eq_true rfl) ?_
  intro p e s m below meth c A ls M hw hl
  have M : Mc p s m _ meth c cX3_farEnd 3 (some .int) RX3 z A := M
  obtain ⟨hx, hb, -, -, hown, hts, -, -, -, hN, hsr, -⟩ := id M
  have hl : lv_has ls 3 [(0, .ref (qP 0)), (1, .int x1), (2, .int x2)] := hl
  unfold wX3_farEnd at h
  generalize s.heap = H at hw ⊢
  generalize ([] : List Loc) = locs at hw ⊢
  refine lv_aload_n hx hb dX3_farEnd_0 rfl (lv_at hl 0 rfl) ?_
  refine gt_f (v := .ref (qP 6)) M inlX3 hw 0 rfl rfl 5 (by decide) fl_X3_27 rfl rfl dX3_farEnd_1 ?_
  refine lv_iload_n hx hb dX3_farEnd_4 rfl (lv_at hl 1 rfl) ?_
  obtain ⟨a_1, h⟩ := h
  refine ld_i M hw 6 rfl a_1 dX3_farEnd_5 ?_
  refine lv_iload_n hx hb dX3_farEnd_6 rfl (lv_at hl 2 rfl) ?_
  refine lv_icmp_ne (tgt := 19) hx hb dX3_farEnd_7 (by decide) (fun c_2 => ?_) (fun c_2 => ?_)
  · replace h := iF c_2 h
    refine lv_aload_n hx hb dX3_farEnd_19 rfl (lv_at hl 0 rfl) ?_
    refine gt_f (v := .ref (qP 6)) M inlX3 hw 0 rfl rfl 5 (by decide) fl_X3_27 rfl rfl dX3_farEnd_20 ?_
    refine lv_iload_n hx hb dX3_farEnd_23 rfl (lv_at hl 1 rfl) ?_
    refine ld_i M hw 6 rfl a_1 dX3_farEnd_24 ?_
    exact rt_i M () hw h dX3_farEnd_25
  · replace h := iT c_2 h
    refine lv_aload_n hx hb dX3_farEnd_10 rfl (lv_at hl 0 rfl) ?_
    refine gt_f (v := .ref (qP 7)) M inlX3 hw 0 rfl rfl 6 (by decide) fl_X3_30 rfl rfl dX3_farEnd_11 ?_
    refine lv_iload_n hx hb dX3_farEnd_14 rfl (lv_at hl 1 rfl) ?_
    refine ld_i M hw 7 rfl a_1 dX3_farEnd_15 ?_
    refine lv_goto (tgt := 25) hx hb dX3_farEnd_16 (by decide) ?_
    exact rt_i M () hw h dX3_farEnd_25
abbrev rmX3_shift : Room := { frames := 0, cells := 0, slots := 0, locals := 0 }
set_option maxHeartbeats 4000000 in
set_option maxRecDepth 100000 in
theorem kX3_shift_19 {p : Program} {l : Launch} {e : Env} {s : State} {m : MethodId} {args : Array Value} {below : List Frame} {meth : Method} {c : Code} {z : KT} {A : Nat → Prop} {qP : Nat → Nat} {Q : RT → Prop} (M : Mc p s m args meth c cX3_shift 3 none RX3 z A) : ∀ (P : RT) (x2 : Int32) (H : Heap) (locs : List Loc) (ls : Array Slot), Hw s z A (pW z qP P) H locs → lv_has ls 3 [(0, .ref (qP 0)), (2, .int x2)] → bX3_shift_19 Q P x2 → W p l e rmX3_shift s m args below meth c H locs 0 0 (MQ below (va_Qv (fun u : RT => Q u) (fun u t => cAt z A ((fun u : RT => (pW z qP u)) u) t) A) args s 0 0 A) (F0 m 19 ls []) := by
  obtain ⟨hx, hb, -, -, hown, hts, -, -, -, hN, hsr, -⟩ := id M
  intro P x2 H locs ls hw hl h
  unfold bX3_shift_19 at h
  refine lv_aload_n hx hb dX3_shift_19 rfl (lv_at hl 0 rfl) ?_
  refine gt_f (v := .ref (qP 5)) M inlX3 hw 0 rfl rfl 4 (by decide) fl_X3_24 rfl rfl dX3_shift_20 ?_
  refine lv_iload_n hx hb dX3_shift_23 rfl (lv_at hl 1 rfl) ?_
  obtain ⟨a_1, h⟩ := h
  refine ld_i M hw 5 rfl a_1 dX3_shift_24 ?_
  refine lv_bipush (v := 20) hx hb dX3_shift_25 (by decide) ?_
  refine lv_icmp_ge (tgt := 40) hx hb dX3_shift_27 (by decide) (fun c_2 => ?_) (fun c_2 => ?_)
  · replace h := iT c_2 h
    exact rt_v M P hw h dX3_shift_40
  · replace h := iF c_2 h
    refine lv_aload_n hx hb dX3_shift_30 rfl (lv_at hl 0 rfl) ?_
    refine gt_f (v := .ref (qP 5)) M inlX3 hw 0 rfl rfl 4 (by decide) fl_X3_24 rfl rfl dX3_shift_31 ?_
    refine lv_iload_n hx hb dX3_shift_34 rfl (lv_at hl 1 rfl) ?_
    refine lv_dup2_11 hx hb dX3_shift_35 rfl rfl ?_
    refine ld_i M hw 5 rfl a_1 dX3_shift_36 ?_
    refine lv_iconst (v := 1) hx hb dX3_shift_37 (by decide) ?_
    refine lv_iadd hx hb dX3_shift_38 ?_
    refine st_i (P := P) (r := 4) (wN := fun P_3 => (pW z qP P_3)) M hw 5 rfl rfl a_1 dX3_shift_39 (fun P_3 H locs eP_3 hw => ?_)
    replace h := h P_3 eP_3
    exact rt_v M P_3 hw h dX3_shift_40
set_option maxHeartbeats 4000000 in
set_option maxRecDepth 100000 in
theorem m_X3_shift (l : Launch) (z : KT) (qP : Nat → Nat) (P : RT) (x1 : Int32) (x2 : Int32) (Q : RT → Prop) (h : wX3_shift P x1 x2 Q) : CV l yX3_shift cX3_shift 3 rmX3_shift z [.ref (qP 0), .int x1, .int x2] (pW z qP P) (fun u : RT => (pW z qP u)) (fun u : RT => Q u) := by
  refine CV.of rfl (Nat.le_of_ble_eq_true rfl) ?_
  intro p e s m below meth c A ls M hw hl
  have M : Mc p s m _ meth c cX3_shift 3 none RX3 z A := M
  obtain ⟨hx, hb, -, -, hown, hts, -, -, -, hN, hsr, -⟩ := id M
  have hl : lv_has ls 3 [(0, .ref (qP 0)), (1, .int x1), (2, .int x2)] := hl
  unfold wX3_shift at h
  generalize s.heap = H at hw ⊢
  generalize ([] : List Loc) = locs at hw ⊢
  refine lv_aload_n hx hb dX3_shift_0 rfl (lv_at hl 0 rfl) ?_
  refine gt_f (v := .ref (qP 5)) M inlX3 hw 0 rfl rfl 4 (by decide) fl_X3_24 rfl rfl dX3_shift_1 ?_
  refine lv_iload_n hx hb dX3_shift_4 rfl (lv_at hl 1 rfl) ?_
  obtain ⟨a_1, h⟩ := h
  refine ld_i M hw 5 rfl a_1 dX3_shift_5 ?_
  refine lv_if_le (tgt := 19) hx hb dX3_shift_6 (by decide) (fun c_2 => ?_) (fun c_2 => ?_)
  · replace h := iT c_2 h
    exact kX3_shift_19 M P x2 H locs ls hw (lv_sub hl [0, 2] rfl) h
  · replace h := iF c_2 h
    refine lv_aload_n hx hb dX3_shift_9 rfl (lv_at hl 0 rfl) ?_
    refine gt_f (v := .ref (qP 5)) M inlX3 hw 0 rfl rfl 4 (by decide) fl_X3_24 rfl rfl dX3_shift_10 ?_
    refine lv_iload_n hx hb dX3_shift_13 rfl (lv_at hl 1 rfl) ?_
    refine lv_dup2_11 hx hb dX3_shift_14 rfl rfl ?_
    refine ld_i M hw 5 rfl a_1 dX3_shift_15 ?_
    refine lv_iconst (v := 1) hx hb dX3_shift_16 (by decide) ?_
    refine lv_isub hx hb dX3_shift_17 ?_
    refine st_i (P := P) (r := 4) (wN := fun P_3 => (pW z qP P_3)) M hw 5 rfl rfl a_1 dX3_shift_18 (fun P_3 H locs eP_3 hw => ?_)
    replace h := h P_3 eP_3
    exact kX3_shift_19 M P_3 x2 H locs ls hw (lv_sub hl [0, 2] rfl) h
abbrev rmX3_goHour : Room := { frames := 1, cells := 0, slots := 0, locals := 26 }
set_option maxHeartbeats 4000000 in
set_option maxRecDepth 100000 in
theorem kX3_goHour_93 {p : Program} {l : Launch} {e : Env} {s : State} {m : MethodId} {args : Array Value} {below : List Frame} {meth : Method} {c : Code} {z : KT} {A : Nat → Prop} {qP : Nat → Nat} {K12 : RT → Int32 → Int32 → Prop} {Q : RT → Prop} (M : Mc p s m args meth c cX3_goHour 4 none RX3 z A) (hK12 : ∀ (P : RT) (x1 : Int32) (x2 : Int32) (H : Heap) (locs : List Loc) (ls : Array Slot), Hw s z A (pW z qP P) H locs → lv_has ls 4 [(0, .ref (qP 0)), (1, .int x1), (2, .int x2)] → K12 P x1 x2 → W p l e rmX3_goHour s m args below meth c H locs 0 0 (MQ below (va_Qv (fun u : RT => Q u) (fun u t => cAt z A ((fun u : RT => (pW z qP u)) u) t) A) args s 0 0 A) (F0 m 12 ls [])) : ∀ (P : RT) (x1 : Int32) (x2 : Int32) (H : Heap) (locs : List Loc) (ls : Array Slot), Hw s z A (pW z qP P) H locs → lv_has ls 4 [(0, .ref (qP 0)), (1, .int x1), (2, .int x2)] → bX3_goHour_93 K12 Q P x1 x2 → W p l e rmX3_goHour s m args below meth c H locs 0 0 (MQ below (va_Qv (fun u : RT => Q u) (fun u t => cAt z A ((fun u : RT => (pW z qP u)) u) t) A) args s 0 0 A) (F0 m 93 ls []) := by
  obtain ⟨hx, hb, -, -, hown, hts, -, -, -, hN, hsr, -⟩ := id M
  intro P x1 x2 H locs ls hw hl h
  unfold bX3_goHour_93 at h
  obtain ⟨x2_1, ex2_1⟩ : ∃ y : Int32, y = (x2 + (1 : Int32)) := ⟨_, rfl⟩
  replace h := h x2_1 ex2_1
  refine lv_iinc (v := x2_1) (lv' := [(2, .int x2_1), (0, .ref (qP 0)), (1, .int x1)]) hx hb dX3_goHour_93 hl (k := 2) rfl (by rw [ex2_1]; rfl) (by decide) rfl (fun ls hl => ?_)
  refine lv_goto (tgt := 12) hx hb dX3_goHour_96 (by decide) ?_
  exact hK12 P x1 x2_1 H locs ls hw (lv_sub hl [1, 2, 0] rfl) h
set_option maxHeartbeats 4000000 in
set_option maxRecDepth 100000 in
theorem kX3_goHour_50 {p : Program} {l : Launch} {e : Env} {s : State} {m : MethodId} {args : Array Value} {below : List Frame} {meth : Method} {c : Code} {z : KT} {A : Nat → Prop} {qP : Nat → Nat} {K12 : RT → Int32 → Int32 → Prop} {Q : RT → Prop} (M : Mc p s m args meth c cX3_goHour 4 none RX3 z A) (hK12 : ∀ (P : RT) (x1 : Int32) (x2 : Int32) (H : Heap) (locs : List Loc) (ls : Array Slot), Hw s z A (pW z qP P) H locs → lv_has ls 4 [(0, .ref (qP 0)), (1, .int x1), (2, .int x2)] → K12 P x1 x2 → W p l e rmX3_goHour s m args below meth c H locs 0 0 (MQ below (va_Qv (fun u : RT => Q u) (fun u t => cAt z A ((fun u : RT => (pW z qP u)) u) t) A) args s 0 0 A) (F0 m 12 ls [])) : ∀ (P : RT) (x1 : Int32) (x2 : Int32) (x3 : Int32) (H : Heap) (locs : List Loc) (ls : Array Slot), Hw s z A (pW z qP P) H locs → lv_has ls 4 [(0, .ref (qP 0)), (1, .int x1), (2, .int x2), (3, .int x3)] → bX3_goHour_50 K12 Q P x1 x2 x3 → W p l e rmX3_goHour s m args below meth c H locs 0 0 (MQ below (va_Qv (fun u : RT => Q u) (fun u t => cAt z A ((fun u : RT => (pW z qP u)) u) t) A) args s 0 0 A) (F0 m 50 ls []) := by
  obtain ⟨hx, hb, -, -, hown, hts, -, -, -, hN, hsr, -⟩ := id M
  intro P x1 x2 x3 H locs ls hw hl h
  unfold bX3_goHour_50 at h
  refine lv_iload_n hx hb dX3_goHour_50 rfl (lv_at hl 3 rfl) ?_
  refine lv_if_le (tgt := 73) hx hb dX3_goHour_51 (by decide) (fun c_1 => ?_) (fun c_1 => ?_)
  · replace h := iT c_1 h
    refine lv_iload_n hx hb dX3_goHour_73 rfl (lv_at hl 3 rfl) ?_
    refine lv_if_ge (tgt := 93) hx hb dX3_goHour_74 (by decide) (fun c_2 => ?_) (fun c_2 => ?_)
    · replace h := iT c_2 h
      exact kX3_goHour_93 M hK12 P x1 x2 H locs ls hw (lv_sub hl [0, 1, 2] rfl) h
    · replace h := iF c_2 h
      refine lv_aload_n hx hb dX3_goHour_77 rfl (lv_at hl 0 rfl) ?_
      refine lv_aload_n hx hb dX3_goHour_78 rfl (lv_at hl 0 rfl) ?_
      refine gt_f (v := .ref (qP 7)) M inlX3 hw 0 rfl rfl 6 (by decide) fl_X3_30 rfl rfl dX3_goHour_79 ?_
      refine lv_iload_n hx hb dX3_goHour_82 rfl (lv_at hl 2 rfl) ?_
      obtain ⟨a_3, h⟩ := h
      refine ld_i M hw 7 rfl a_3 dX3_goHour_83 ?_
      refine lv_aload_n hx hb dX3_goHour_84 rfl (lv_at hl 0 rfl) ?_
      refine gt_f (v := .ref (qP 6)) M inlX3 hw 0 rfl rfl 5 (by decide) fl_X3_27 rfl rfl dX3_goHour_85 ?_
      refine lv_iload_n hx hb dX3_goHour_88 rfl (lv_at hl 2 rfl) ?_
      refine ld_i M hw 6 rfl a_3 dX3_goHour_89 ?_
      refine fr_Vv (wN := fun u : RT => (pW z qP u)) M (m_X3_shift l z qP P (P 6 (x2).toNatClampNeg) (P 5 (x2).toNatClampNeg) _ h) (cwV 2 hts (gdV cd_X3_shift ml_X3_57 im_X3_shift se_X3_shift in_X3) rfl rfl rfl hdV_X3_shift ⟨(Nat.le_of_ble_eq_true rfl), (Nat.le_of_ble_eq_true rfl)⟩) (Cut.self _) (Prm.self _ 8 (fun _ => rfl)) 0 rfl rfl rfl hw rfl hl.1 rfl (Nat.le_of_ble_eq_true rfl) dX3_goHour_90 (fun u_ H locs h hw => ?_)
      obtain ⟨P_4, rfl⟩ : ∃ z9 : RT, z9 = u_ := ⟨_, rfl⟩
      have hw : Hw s z A (pW z qP P_4) H locs := hw
      try dsimp only at h
      exact kX3_goHour_93 M hK12 P_4 x1 x2 H locs ls hw (lv_sub hl [0, 1, 2] rfl) h
  · replace h := iF c_1 h
    refine lv_aload_n hx hb dX3_goHour_54 rfl (lv_at hl 0 rfl) ?_
    refine lv_aload_n hx hb dX3_goHour_55 rfl (lv_at hl 0 rfl) ?_
    refine gt_f (v := .ref (qP 6)) M inlX3 hw 0 rfl rfl 5 (by decide) fl_X3_27 rfl rfl dX3_goHour_56 ?_
    refine lv_iload_n hx hb dX3_goHour_59 rfl (lv_at hl 2 rfl) ?_
    obtain ⟨a_5, h⟩ := h
    refine ld_i M hw 6 rfl a_5 dX3_goHour_60 ?_
    refine lv_aload_n hx hb dX3_goHour_61 rfl (lv_at hl 0 rfl) ?_
    refine gt_f (v := .ref (qP 7)) M inlX3 hw 0 rfl rfl 6 (by decide) fl_X3_30 rfl rfl dX3_goHour_62 ?_
    refine lv_iload_n hx hb dX3_goHour_65 rfl (lv_at hl 2 rfl) ?_
    refine ld_i M hw 7 rfl a_5 dX3_goHour_66 ?_
    refine fr_Vv (wN := fun u : RT => (pW z qP u)) M (m_X3_shift l z qP P (P 5 (x2).toNatClampNeg) (P 6 (x2).toNatClampNeg) _ h) (cwV 2 hts (gdV cd_X3_shift ml_X3_57 im_X3_shift se_X3_shift in_X3) rfl rfl rfl hdV_X3_shift ⟨(Nat.le_of_ble_eq_true rfl), (Nat.le_of_ble_eq_true rfl)⟩) (Cut.self _) (Prm.self _ 8 (fun _ => rfl)) 0 rfl rfl rfl hw rfl hl.1 rfl (Nat.le_of_ble_eq_true rfl) dX3_goHour_67 (fun u_ H locs h hw => ?_)
    obtain ⟨P_6, rfl⟩ : ∃ z9 : RT, z9 = u_ := ⟨_, rfl⟩
    have hw : Hw s z A (pW z qP P_6) H locs := hw
    try dsimp only at h
    refine lv_goto (tgt := 93) hx hb dX3_goHour_70 (by decide) ?_
    exact kX3_goHour_93 M hK12 P_6 x1 x2 H locs ls hw (lv_sub hl [0, 1, 2] rfl) h
set_option maxHeartbeats 4000000 in
set_option maxRecDepth 100000 in
theorem kX3_goHour_12 {p : Program} {l : Launch} {e : Env} {s : State} {m : MethodId} {args : Array Value} {below : List Frame} {meth : Method} {c : Code} {z : KT} {A : Nat → Prop} {qP : Nat → Nat} {Q : RT → Prop} (M : Mc p s m args meth c cX3_goHour 4 none RX3 z A) : ∀ (n : Nat) (P : RT) (x1 : Int32) (x2 : Int32) (H : Heap) (locs : List Loc) (ls : Array Slot), Hw s z A (pW z qP P) H locs → lv_has ls 4 [(0, .ref (qP 0)), (1, .int x1), (2, .int x2)] → bX3_goHour_12 Q n P x1 x2 → W p l e rmX3_goHour s m args below meth c H locs 0 0 (MQ below (va_Qv (fun u : RT => Q u) (fun u t => cAt z A ((fun u : RT => (pW z qP u)) u) t) A) args s 0 0 A) (F0 m 12 ls []) := by
  obtain ⟨hx, hb, -, -, hown, hts, -, -, -, hN, hsr, -⟩ := id M
  intro n
  induction n with
  | zero => intro P x1 x2 H locs ls hw hl h; exact False.elim h
  | succ n ih =>
    intro P x1 x2 H locs ls hw hl h
    rw [bX3_goHour_12] at h
    refine lv_iload_n hx hb dX3_goHour_12 rfl (lv_at hl 2 rfl) ?_
    refine lv_aload_n hx hb dX3_goHour_13 rfl (lv_at hl 0 rfl) ?_
    refine gt_f (v := .int (P 30 8)) M inlX3 hw 0 rfl rfl 8 (by decide) fl_X3_37 rfl rfl dX3_goHour_14 ?_
    refine lv_icmp_ge (tgt := 99) hx hb dX3_goHour_17 (by decide) (fun c_1 => ?_) (fun c_1 => ?_)
    · replace h := iT c_1 h
      exact rt_v M P hw h dX3_goHour_99
    · replace h := iF c_1 h
      refine lv_aload_n hx hb dX3_goHour_20 rfl (lv_at hl 0 rfl) ?_
      refine lv_aload_n hx hb dX3_goHour_21 rfl (lv_at hl 0 rfl) ?_
      refine gt_f (v := .ref (qP 6)) M inlX3 hw 0 rfl rfl 5 (by decide) fl_X3_27 rfl rfl dX3_goHour_22 ?_
      refine lv_iload_n hx hb dX3_goHour_25 rfl (lv_at hl 2 rfl) ?_
      obtain ⟨a_2, h⟩ := h
      refine ld_i M hw 6 rfl a_2 dX3_goHour_26 ?_
      refine fr_Vi (wN := fun _ : Unit => (pW z qP P)) M (m_X3_heftOf l z qP P (P 5 (x2).toNatClampNeg) _ h) (cwV 1 hts (gdV cd_X3_heftOf ml_X3_53 im_X3_heftOf se_X3_heftOf in_X3) rfl rfl rfl hdV_X3_heftOf ⟨(Nat.le_of_ble_eq_true rfl), (Nat.le_of_ble_eq_true rfl)⟩) (Cut.self _) (Prm.self _ 8 (fun _ => rfl)) 0 rfl rfl rfl hw rfl hl.1 rfl (Nat.le_of_ble_eq_true rfl) dX3_goHour_27 (fun r_3 u_ H locs h hw => ?_)
      have hw : Hw s z A (pW z qP P) H locs := hw
      try dsimp only at h
      refine lv_aload_n hx hb dX3_goHour_30 rfl (lv_at hl 0 rfl) ?_
      refine lv_aload_n hx hb dX3_goHour_31 rfl (lv_at hl 0 rfl) ?_
      refine gt_f (v := .ref (qP 7)) M inlX3 hw 0 rfl rfl 6 (by decide) fl_X3_30 rfl rfl dX3_goHour_32 ?_
      refine lv_iload_n hx hb dX3_goHour_35 rfl (lv_at hl 2 rfl) ?_
      refine ld_i M hw 7 rfl a_2 dX3_goHour_36 ?_
      refine fr_Vi (wN := fun _ : Unit => (pW z qP P)) M (m_X3_heftOf l z qP P (P 6 (x2).toNatClampNeg) _ h) (cwV 1 hts (gdV cd_X3_heftOf ml_X3_53 im_X3_heftOf se_X3_heftOf in_X3) rfl rfl rfl hdV_X3_heftOf ⟨(Nat.le_of_ble_eq_true rfl), (Nat.le_of_ble_eq_true rfl)⟩) (Cut.self _) (Prm.self _ 8 (fun _ => rfl)) 0 rfl rfl rfl hw rfl hl.1 rfl (Nat.le_of_ble_eq_true rfl) dX3_goHour_37 (fun r_4 u_ H locs h hw => ?_)
      have hw : Hw s z A (pW z qP P) H locs := hw
      try dsimp only at h
      refine lv_isub hx hb dX3_goHour_40 ?_
      refine lv_topi (fun x3_5 ex3_5 => ?_)
      replace h := h x3_5 ex3_5
      refine lv_istore_n (lv' := [(3, .int x3_5), (0, .ref (qP 0)), (1, .int x1), (2, .int x2)]) hx hb dX3_goHour_41 rfl hl (by decide) rfl (fun ls hl => ?_)
      refine lv_iload_n hx hb dX3_goHour_42 rfl (lv_at hl 3 rfl) ?_
      refine lv_iload_n hx hb dX3_goHour_43 rfl (lv_at hl 2 rfl) ?_
      refine lv_icmp_ne (tgt := 50) hx hb dX3_goHour_44 (by decide) (fun c_6 => ?_) (fun c_6 => ?_)
      · replace h := iF c_6 h
        exact kX3_goHour_50 M ih P x1 x2 x3_5 H locs ls hw (lv_sub hl [1, 2, 3, 0] rfl) h
      · replace h := iT c_6 h
        refine lv_iload_n hx hb dX3_goHour_47 rfl (lv_at hl 0 rfl) ?_
        refine lv_ineg hx hb dX3_goHour_48 ?_
        refine lv_topi (fun x3_7 ex3_7 => ?_)
        replace h := h x3_7 ex3_7
        refine lv_istore_n (lv' := [(3, .int x3_7), (0, .ref (qP 0)), (1, .int x1), (2, .int x2)]) hx hb dX3_goHour_49 rfl hl (by decide) rfl (fun ls hl => ?_)
        exact kX3_goHour_50 M ih P x1 x2 x3_7 H locs ls hw (lv_sub hl [1, 2, 3, 0] rfl) h
set_option maxHeartbeats 4000000 in
set_option maxRecDepth 100000 in
theorem m_X3_goHour (l : Launch) (z : KT) (qP : Nat → Nat) (P : RT) (x1 : Int32) (Q : RT → Prop) (h : wX3_goHour P x1 Q) : CV l yX3_goHour cX3_goHour 4 rmX3_goHour z [.ref (qP 0), .int x1] (pW z qP P) (fun u : RT => (pW z qP u)) (fun u : RT => Q u) := by
  refine CV.of rfl (Nat.le_of_ble_eq_true rfl) ?_
  intro p e s m below meth c A ls M hw hl
  have M : Mc p s m _ meth c cX3_goHour 4 none RX3 z A := M
  obtain ⟨hx, hb, -, -, hown, hts, -, -, -, hN, hsr, -⟩ := id M
  have hl : lv_has ls 4 [(0, .ref (qP 0)), (1, .int x1)] := hl
  unfold wX3_goHour at h
  generalize s.heap = H at hw ⊢
  generalize ([] : List Loc) = locs at hw ⊢
  refine lv_aload_n hx hb dX3_goHour_0 rfl (lv_at hl 0 rfl) ?_
  refine lv_dup hx hb dX3_goHour_1 rfl ?_
  refine gt_f (v := .int (P 30 9)) M inlX3 hw 0 rfl rfl 9 (by decide) fl_X3_40 rfl rfl dX3_goHour_2 ?_
  refine lv_iconst (v := 1) hx hb dX3_goHour_5 (by decide) ?_
  refine lv_iadd hx hb dX3_goHour_6 ?_
  refine st_f (P := P) (r := 30) (j := 9) (wN := fun P_1 => (pW z qP P_1)) M inlX3 tyX3_ok nmX3 hw 0 rfl rfl 9 (by decide) fl_X3_40 rfl rfl rfl rfl rfl (Nat.le_of_ble_eq_true rfl) rfl dX3_goHour_7 (fun P_1 H locs eP_1 hw => ?_)
  replace h := h P_1 eP_1
  refine lv_iconst (v := 0) hx hb dX3_goHour_10 (by decide) ?_
  refine lv_istore_n (lv' := [(2, .int (0 : Int32)), (0, .ref (qP 0)), (1, .int x1)]) hx hb dX3_goHour_11 rfl hl (by decide) rfl (fun ls hl => ?_)
  obtain ⟨n0, h⟩ := h; exact kX3_goHour_12 M n0 P_1 x1 (0 : Int32) H locs ls hw (lv_sub hl [1, 2, 0] rfl) h
abbrev rmX3_goHours : Room := { frames := 2, cells := 0, slots := 0, locals := 49 }
set_option maxHeartbeats 4000000 in
set_option maxRecDepth 100000 in
theorem kX3_goHours_2 {p : Program} {l : Launch} {e : Env} {s : State} {m : MethodId} {args : Array Value} {below : List Frame} {meth : Method} {c : Code} {z : KT} {A : Nat → Prop} {qP : Nat → Nat} {Q : RT → Prop} (M : Mc p s m args meth c cX3_goHours 3 none RX3 z A) : ∀ (n : Nat) (P : RT) (x1 : Int32) (x2 : Int32) (H : Heap) (locs : List Loc) (ls : Array Slot), Hw s z A (pW z qP P) H locs → lv_has ls 3 [(0, .ref (qP 0)), (1, .int x1), (2, .int x2)] → bX3_goHours_2 Q n P x1 x2 → W p l e rmX3_goHours s m args below meth c H locs 0 0 (MQ below (va_Qv (fun u : RT => Q u) (fun u t => cAt z A ((fun u : RT => (pW z qP u)) u) t) A) args s 0 0 A) (F0 m 2 ls []) := by
  obtain ⟨hx, hb, -, -, hown, hts, -, -, -, hN, hsr, -⟩ := id M
  intro n
  induction n with
  | zero => intro P x1 x2 H locs ls hw hl h; exact False.elim h
  | succ n ih =>
    intro P x1 x2 H locs ls hw hl h
    rw [bX3_goHours_2] at h
    refine lv_iload_n hx hb dX3_goHours_2 rfl (lv_at hl 2 rfl) ?_
    refine lv_iload_n hx hb dX3_goHours_3 rfl (lv_at hl 1 rfl) ?_
    refine lv_icmp_ge (tgt := 19) hx hb dX3_goHours_4 (by decide) (fun c_1 => ?_) (fun c_1 => ?_)
    · replace h := iT c_1 h
      exact rt_v M P hw h dX3_goHours_19
    · replace h := iF c_1 h
      refine lv_aload_n hx hb dX3_goHours_7 rfl (lv_at hl 0 rfl) ?_
      refine lv_bipush (v := -9) hx hb dX3_goHours_8 (by decide) ?_
      refine fr_Vv (wN := fun u : RT => (pW z qP u)) M (m_X3_goHour l z qP P (-9 : Int32) _ h) (cwV 1 hts (gdV cd_X3_goHour ml_X3_61 im_X3_goHour se_X3_goHour in_X3) rfl rfl rfl hdV_X3_goHour ⟨(Nat.le_of_ble_eq_true rfl), (Nat.le_of_ble_eq_true rfl)⟩) (Cut.self _) (Prm.self _ 8 (fun _ => rfl)) 0 rfl rfl rfl hw rfl hl.1 rfl (Nat.le_of_ble_eq_true rfl) dX3_goHours_10 (fun u_ H locs h hw => ?_)
      obtain ⟨P_2, rfl⟩ : ∃ z9 : RT, z9 = u_ := ⟨_, rfl⟩
      have hw : Hw s z A (pW z qP P_2) H locs := hw
      try dsimp only at h
      obtain ⟨x2_3, ex2_3⟩ : ∃ y : Int32, y = (x2 + (1 : Int32)) := ⟨_, rfl⟩
      replace h := h x2_3 ex2_3
      refine lv_iinc (v := x2_3) (lv' := [(2, .int x2_3), (0, .ref (qP 0)), (1, .int x1)]) hx hb dX3_goHours_13 hl (k := 2) rfl (by rw [ex2_3]; rfl) (by decide) rfl (fun ls hl => ?_)
      refine lv_goto (tgt := 2) hx hb dX3_goHours_16 (by decide) ?_
      exact ih P_2 x1 x2_3 H locs ls hw (lv_sub hl [1, 2, 0] rfl) h
set_option maxHeartbeats 4000000 in
set_option maxRecDepth 100000 in
theorem m_X3_goHours (l : Launch) (z : KT) (qP : Nat → Nat) (P : RT) (x1 : Int32) (Q : RT → Prop) (h : wX3_goHours P x1 Q) : CV l yX3_goHours cX3_goHours 3 rmX3_goHours z [.ref (qP 0), .int x1] (pW z qP P) (fun u : RT => (pW z qP u)) (fun u : RT => Q u) := by
  refine CV.of rfl (Nat.le_of_ble_eq_true rfl) ?_
  intro p e s m below meth c A ls M hw hl
  have M : Mc p s m _ meth c cX3_goHours 3 none RX3 z A := M
  obtain ⟨hx, hb, -, -, hown, hts, -, -, -, hN, hsr, -⟩ := id M
  have hl : lv_has ls 3 [(0, .ref (qP 0)), (1, .int x1)] := hl
  unfold wX3_goHours at h
  generalize s.heap = H at hw ⊢
  generalize ([] : List Loc) = locs at hw ⊢
  refine lv_iconst (v := 0) hx hb dX3_goHours_0 (by decide) ?_
  refine lv_istore_n (lv' := [(2, .int (0 : Int32)), (0, .ref (qP 0)), (1, .int x1)]) hx hb dX3_goHours_1 rfl hl (by decide) rfl (fun ls hl => ?_)
  obtain ⟨n0, h⟩ := h; exact kX3_goHours_2 M n0 P x1 (0 : Int32) H locs ls hw (lv_sub hl [1, 2, 0] rfl) h
abbrev rmX3_looseRopes : Room := { frames := 2, cells := 0, slots := 0, locals := 48 }
set_option maxHeartbeats 4000000 in
set_option maxRecDepth 100000 in
theorem kX3_looseRopes_28 {p : Program} {l : Launch} {e : Env} {s : State} {m : MethodId} {args : Array Value} {below : List Frame} {meth : Method} {c : Code} {z : KT} {A : Nat → Prop} {qP : Nat → Nat} {K4 : Int32 → Int32 → Prop} {P : RT} {Q : Int32 → Prop} (M : Mc p s m args meth c cX3_looseRopes 3 (some .int) RX3 z A) (hK4 : ∀ (x1 : Int32) (x2 : Int32) (H : Heap) (locs : List Loc) (ls : Array Slot), Hw s z A (pW z qP P) H locs → lv_has ls 3 [(0, .ref (qP 0)), (1, .int x1), (2, .int x2)] → K4 x1 x2 → W p l e rmX3_looseRopes s m args below meth c H locs 0 0 (MQ below (va_Qi (fun (r : Int32) (_ : Unit) => Q r) (fun u t => cAt z A ((fun _ : Unit => (pW z qP P)) u) t) A) args s 0 0 A) (F0 m 4 ls [])) : ∀ (x1 : Int32) (x2 : Int32) (H : Heap) (locs : List Loc) (ls : Array Slot), Hw s z A (pW z qP P) H locs → lv_has ls 3 [(0, .ref (qP 0)), (1, .int x1), (2, .int x2)] → bX3_looseRopes_28 K4 P Q x1 x2 → W p l e rmX3_looseRopes s m args below meth c H locs 0 0 (MQ below (va_Qi (fun (r : Int32) (_ : Unit) => Q r) (fun u t => cAt z A ((fun _ : Unit => (pW z qP P)) u) t) A) args s 0 0 A) (F0 m 28 ls []) := by
  obtain ⟨hx, hb, -, -, hown, hts, -, -, -, hN, hsr, -⟩ := id M
  intro x1 x2 H locs ls hw hl h
  unfold bX3_looseRopes_28 at h
  obtain ⟨x2_1, ex2_1⟩ : ∃ y : Int32, y = (x2 + (1 : Int32)) := ⟨_, rfl⟩
  replace h := h x2_1 ex2_1
  refine lv_iinc (v := x2_1) (lv' := [(2, .int x2_1), (0, .ref (qP 0)), (1, .int x1)]) hx hb dX3_looseRopes_28 hl (k := 2) rfl (by rw [ex2_1]; rfl) (by decide) rfl (fun ls hl => ?_)
  refine lv_goto (tgt := 4) hx hb dX3_looseRopes_31 (by decide) ?_
  exact hK4 x1 x2_1 H locs ls hw (lv_sub hl [1, 2, 0] rfl) h
set_option maxHeartbeats 4000000 in
set_option maxRecDepth 100000 in
theorem kX3_looseRopes_4 {p : Program} {l : Launch} {e : Env} {s : State} {m : MethodId} {args : Array Value} {below : List Frame} {meth : Method} {c : Code} {z : KT} {A : Nat → Prop} {qP : Nat → Nat} {P : RT} {Q : Int32 → Prop} (M : Mc p s m args meth c cX3_looseRopes 3 (some .int) RX3 z A) : ∀ (n : Nat) (x1 : Int32) (x2 : Int32) (H : Heap) (locs : List Loc) (ls : Array Slot), Hw s z A (pW z qP P) H locs → lv_has ls 3 [(0, .ref (qP 0)), (1, .int x1), (2, .int x2)] → bX3_looseRopes_4 P Q n x1 x2 → W p l e rmX3_looseRopes s m args below meth c H locs 0 0 (MQ below (va_Qi (fun (r : Int32) (_ : Unit) => Q r) (fun u t => cAt z A ((fun _ : Unit => (pW z qP P)) u) t) A) args s 0 0 A) (F0 m 4 ls []) := by
  obtain ⟨hx, hb, -, -, hown, hts, -, -, -, hN, hsr, -⟩ := id M
  intro n
  induction n with
  | zero => intro x1 x2 H locs ls hw hl h; exact False.elim h
  | succ n ih =>
    intro x1 x2 H locs ls hw hl h
    rw [bX3_looseRopes_4] at h
    refine lv_iload_n hx hb dX3_looseRopes_4 rfl (lv_at hl 2 rfl) ?_
    refine lv_aload_n hx hb dX3_looseRopes_5 rfl (lv_at hl 0 rfl) ?_
    refine gt_f (v := .int (P 30 8)) M inlX3 hw 0 rfl rfl 8 (by decide) fl_X3_37 rfl rfl dX3_looseRopes_6 ?_
    refine lv_icmp_ge (tgt := 34) hx hb dX3_looseRopes_9 (by decide) (fun c_1 => ?_) (fun c_1 => ?_)
    · replace h := iT c_1 h
      refine lv_iload_n hx hb dX3_looseRopes_34 rfl (lv_at hl 1 rfl) ?_
      exact rt_i M () hw h dX3_looseRopes_35
    · replace h := iF c_1 h
      refine lv_aload_n hx hb dX3_looseRopes_12 rfl (lv_at hl 0 rfl) ?_
      refine lv_iload_n hx hb dX3_looseRopes_13 rfl (lv_at hl 2 rfl) ?_
      refine fr_Vi (wN := fun _ : Unit => (pW z qP P)) M (m_X3_heavierEnd l z qP P x2 _ h) (cwV 1 hts (gdV cd_X3_heavierEnd ml_X3_65 im_X3_heavierEnd se_X3_heavierEnd in_X3) rfl rfl rfl hdV_X3_heavierEnd ⟨(Nat.le_of_ble_eq_true rfl), (Nat.le_of_ble_eq_true rfl)⟩) (Cut.self _) (Prm.self _ 8 (fun _ => rfl)) 0 rfl rfl rfl hw rfl hl.1 rfl (Nat.le_of_ble_eq_true rfl) dX3_looseRopes_14 (fun r_2 u_ H locs h hw => ?_)
      have hw : Hw s z A (pW z qP P) H locs := hw
      try dsimp only at h
      refine lv_bipush (v := -9) hx hb dX3_looseRopes_17 (by decide) ?_
      refine lv_icmp_ne (tgt := 28) hx hb dX3_looseRopes_19 (by decide) (fun c_3 => ?_) (fun c_3 => ?_)
      · replace h := iF c_3 h
        exact kX3_looseRopes_28 M ih x1 x2 H locs ls hw (lv_sub hl [0, 1, 2] rfl) h
      · replace h := iT c_3 h
        refine lv_iload_n hx hb dX3_looseRopes_22 rfl (lv_at hl 1 rfl) ?_
        refine lv_iconst (v := 1) hx hb dX3_looseRopes_23 (by decide) ?_
        refine lv_iload_n hx hb dX3_looseRopes_24 rfl (lv_at hl 2 rfl) ?_
        refine lv_ishl hx hb dX3_looseRopes_25 ?_
        refine lv_ior hx hb dX3_looseRopes_26 ?_
        refine lv_topi (fun x1_4 ex1_4 => ?_)
        replace h := h x1_4 ex1_4
        refine lv_istore_n (lv' := [(1, .int x1_4), (0, .ref (qP 0)), (2, .int x2)]) hx hb dX3_looseRopes_27 rfl hl (by decide) rfl (fun ls hl => ?_)
        exact kX3_looseRopes_28 M ih x1_4 x2 H locs ls hw (lv_sub hl [1, 0, 2] rfl) h
set_option maxHeartbeats 4000000 in
set_option maxRecDepth 100000 in
theorem m_X3_looseRopes (l : Launch) (z : KT) (qP : Nat → Nat) (P : RT) (Q : Int32 → Prop) (h : wX3_looseRopes P Q) : CI l yX3_looseRopes cX3_looseRopes 3 .int rmX3_looseRopes z [.ref (qP 0)] (pW z qP P) (fun _ : Unit => (pW z qP P)) (fun (r : Int32) (_ : Unit) => Q r) := by
  refine CI.of rfl (Nat.le_of_ble_eq_true rfl) ?_
  intro p e s m below meth c A ls M hw hl
  have M : Mc p s m _ meth c cX3_looseRopes 3 (some .int) RX3 z A := M
  obtain ⟨hx, hb, -, -, hown, hts, -, -, -, hN, hsr, -⟩ := id M
  have hl : lv_has ls 3 [(0, .ref (qP 0))] := hl
  unfold wX3_looseRopes at h
  generalize s.heap = H at hw ⊢
  generalize ([] : List Loc) = locs at hw ⊢
  refine lv_iconst (v := 0) hx hb dX3_looseRopes_0 (by decide) ?_
  refine lv_istore_n (lv' := [(1, .int (0 : Int32)), (0, .ref (qP 0))]) hx hb dX3_looseRopes_1 rfl hl (by decide) rfl (fun ls hl => ?_)
  refine lv_iconst (v := 0) hx hb dX3_looseRopes_2 (by decide) ?_
  refine lv_istore_n (lv' := [(2, .int (0 : Int32)), (1, .int (0 : Int32)), (0, .ref (qP 0))]) hx hb dX3_looseRopes_3 rfl hl (by decide) rfl (fun ls hl => ?_)
  obtain ⟨n0, h⟩ := h; exact kX3_looseRopes_4 M n0 (0 : Int32) (0 : Int32) H locs ls hw (lv_sub hl [2, 1, 0] rfl) h
abbrev rmX3_allHeights : Room := { frames := 0, cells := 0, slots := 0, locals := 0 }
set_option maxHeartbeats 4000000 in
set_option maxRecDepth 100000 in
theorem kX3_allHeights_4 {p : Program} {l : Launch} {e : Env} {s : State} {m : MethodId} {args : Array Value} {below : List Frame} {meth : Method} {c : Code} {z : KT} {A : Nat → Prop} {qP : Nat → Nat} {P : RT} {Q : Int32 → Prop} (M : Mc p s m args meth c cX3_allHeights 3 (some .int) RX3 z A) : ∀ (n : Nat) (x1 : Int32) (x2 : Int32) (H : Heap) (locs : List Loc) (ls : Array Slot), Hw s z A (pW z qP P) H locs → lv_has ls 3 [(0, .ref (qP 0)), (1, .int x1), (2, .int x2)] → bX3_allHeights_4 P Q n x1 x2 → W p l e rmX3_allHeights s m args below meth c H locs 0 0 (MQ below (va_Qi (fun (r : Int32) (_ : Unit) => Q r) (fun u t => cAt z A ((fun _ : Unit => (pW z qP P)) u) t) A) args s 0 0 A) (F0 m 4 ls []) := by
  obtain ⟨hx, hb, -, -, hown, hts, -, -, -, hN, hsr, -⟩ := id M
  intro n
  induction n with
  | zero => intro x1 x2 H locs ls hw hl h; exact False.elim h
  | succ n ih =>
    intro x1 x2 H locs ls hw hl h
    rw [bX3_allHeights_4] at h
    refine lv_iload_n hx hb dX3_allHeights_4 rfl (lv_at hl 2 rfl) ?_
    refine lv_aload_n hx hb dX3_allHeights_5 rfl (lv_at hl 0 rfl) ?_
    refine gt_f (v := .int (P 30 7)) M inlX3 hw 0 rfl rfl 7 (by decide) fl_X3_33 rfl rfl dX3_allHeights_6 ?_
    refine lv_icmp_ge (tgt := 27) hx hb dX3_allHeights_9 (by decide) (fun c_1 => ?_) (fun c_1 => ?_)
    · replace h := iT c_1 h
      refine lv_iload_n hx hb dX3_allHeights_27 rfl (lv_at hl 1 rfl) ?_
      exact rt_i M () hw h dX3_allHeights_28
    · replace h := iF c_1 h
      refine lv_iload_n hx hb dX3_allHeights_12 rfl (lv_at hl 1 rfl) ?_
      refine lv_aload_n hx hb dX3_allHeights_13 rfl (lv_at hl 0 rfl) ?_
      refine gt_f (v := .ref (qP 5)) M inlX3 hw 0 rfl rfl 4 (by decide) fl_X3_24 rfl rfl dX3_allHeights_14 ?_
      refine lv_iload_n hx hb dX3_allHeights_17 rfl (lv_at hl 2 rfl) ?_
      obtain ⟨a_2, h⟩ := h
      refine ld_i M hw 5 rfl a_2 dX3_allHeights_18 ?_
      refine lv_iadd hx hb dX3_allHeights_19 ?_
      refine lv_topi (fun x1_3 ex1_3 => ?_)
      replace h := h x1_3 ex1_3
      refine lv_istore_n (lv' := [(1, .int x1_3), (0, .ref (qP 0)), (2, .int x2)]) hx hb dX3_allHeights_20 rfl hl (by decide) rfl (fun ls hl => ?_)
      obtain ⟨x2_4, ex2_4⟩ : ∃ y : Int32, y = (x2 + (1 : Int32)) := ⟨_, rfl⟩
      replace h := h x2_4 ex2_4
      refine lv_iinc (v := x2_4) (lv' := [(2, .int x2_4), (1, .int x1_3), (0, .ref (qP 0))]) hx hb dX3_allHeights_21 hl (k := 2) rfl (by rw [ex2_4]; rfl) (by decide) rfl (fun ls hl => ?_)
      refine lv_goto (tgt := 4) hx hb dX3_allHeights_24 (by decide) ?_
      exact ih x1_3 x2_4 H locs ls hw (lv_sub hl [2, 1, 0] rfl) h
set_option maxHeartbeats 4000000 in
set_option maxRecDepth 100000 in
theorem m_X3_allHeights (l : Launch) (z : KT) (qP : Nat → Nat) (P : RT) (Q : Int32 → Prop) (h : wX3_allHeights P Q) : CI l yX3_allHeights cX3_allHeights 3 .int rmX3_allHeights z [.ref (qP 0)] (pW z qP P) (fun _ : Unit => (pW z qP P)) (fun (r : Int32) (_ : Unit) => Q r) := by
  refine CI.of rfl (Nat.le_of_ble_eq_true rfl) ?_
  intro p e s m below meth c A ls M hw hl
  have M : Mc p s m _ meth c cX3_allHeights 3 (some .int) RX3 z A := M
  obtain ⟨hx, hb, -, -, hown, hts, -, -, -, hN, hsr, -⟩ := id M
  have hl : lv_has ls 3 [(0, .ref (qP 0))] := hl
  unfold wX3_allHeights at h
  generalize s.heap = H at hw ⊢
  generalize ([] : List Loc) = locs at hw ⊢
  refine lv_iconst (v := 0) hx hb dX3_allHeights_0 (by decide) ?_
  refine lv_istore_n (lv' := [(1, .int (0 : Int32)), (0, .ref (qP 0))]) hx hb dX3_allHeights_1 rfl hl (by decide) rfl (fun ls hl => ?_)
  refine lv_iconst (v := 0) hx hb dX3_allHeights_2 (by decide) ?_
  refine lv_istore_n (lv' := [(2, .int (0 : Int32)), (1, .int (0 : Int32)), (0, .ref (qP 0))]) hx hb dX3_allHeights_3 rfl hl (by decide) rfl (fun ls hl => ?_)
  obtain ⟨n0, h⟩ := h; exact kX3_allHeights_4 M n0 (0 : Int32) (0 : Int32) H locs ls hw (lv_sub hl [2, 1, 0] rfl) h
abbrev rmX3_allStones : Room := { frames := 0, cells := 0, slots := 0, locals := 0 }
set_option maxHeartbeats 4000000 in
set_option maxRecDepth 100000 in
theorem kX3_allStones_4 {p : Program} {l : Launch} {e : Env} {s : State} {m : MethodId} {args : Array Value} {below : List Frame} {meth : Method} {c : Code} {z : KT} {A : Nat → Prop} {qP : Nat → Nat} {P : RT} {Q : Int32 → Prop} (M : Mc p s m args meth c cX3_allStones 3 (some .int) RX3 z A) : ∀ (n : Nat) (x1 : Int32) (x2 : Int32) (H : Heap) (locs : List Loc) (ls : Array Slot), Hw s z A (pW z qP P) H locs → lv_has ls 3 [(0, .ref (qP 0)), (1, .int x1), (2, .int x2)] → bX3_allStones_4 P Q n x1 x2 → W p l e rmX3_allStones s m args below meth c H locs 0 0 (MQ below (va_Qi (fun (r : Int32) (_ : Unit) => Q r) (fun u t => cAt z A ((fun _ : Unit => (pW z qP P)) u) t) A) args s 0 0 A) (F0 m 4 ls []) := by
  obtain ⟨hx, hb, -, -, hown, hts, -, -, -, hN, hsr, -⟩ := id M
  intro n
  induction n with
  | zero => intro x1 x2 H locs ls hw hl h; exact False.elim h
  | succ n ih =>
    intro x1 x2 H locs ls hw hl h
    rw [bX3_allStones_4] at h
    refine lv_iload_n hx hb dX3_allStones_4 rfl (lv_at hl 2 rfl) ?_
    refine lv_aload_n hx hb dX3_allStones_5 rfl (lv_at hl 0 rfl) ?_
    refine gt_f (v := .int (P 30 7)) M inlX3 hw 0 rfl rfl 7 (by decide) fl_X3_33 rfl rfl dX3_allStones_6 ?_
    refine lv_icmp_ge (tgt := 27) hx hb dX3_allStones_9 (by decide) (fun c_1 => ?_) (fun c_1 => ?_)
    · replace h := iT c_1 h
      refine lv_iload_n hx hb dX3_allStones_27 rfl (lv_at hl 1 rfl) ?_
      exact rt_i M () hw h dX3_allStones_28
    · replace h := iF c_1 h
      refine lv_iload_n hx hb dX3_allStones_12 rfl (lv_at hl 1 rfl) ?_
      refine lv_aload_n hx hb dX3_allStones_13 rfl (lv_at hl 0 rfl) ?_
      refine gt_f (v := .ref (qP 4)) M inlX3 hw 0 rfl rfl 3 (by decide) fl_X3_21 rfl rfl dX3_allStones_14 ?_
      refine lv_iload_n hx hb dX3_allStones_17 rfl (lv_at hl 2 rfl) ?_
      obtain ⟨a_2, h⟩ := h
      refine ld_i M hw 4 rfl a_2 dX3_allStones_18 ?_
      refine lv_iadd hx hb dX3_allStones_19 ?_
      refine lv_topi (fun x1_3 ex1_3 => ?_)
      replace h := h x1_3 ex1_3
      refine lv_istore_n (lv' := [(1, .int x1_3), (0, .ref (qP 0)), (2, .int x2)]) hx hb dX3_allStones_20 rfl hl (by decide) rfl (fun ls hl => ?_)
      obtain ⟨x2_4, ex2_4⟩ : ∃ y : Int32, y = (x2 + (1 : Int32)) := ⟨_, rfl⟩
      replace h := h x2_4 ex2_4
      refine lv_iinc (v := x2_4) (lv' := [(2, .int x2_4), (1, .int x1_3), (0, .ref (qP 0))]) hx hb dX3_allStones_21 hl (k := 2) rfl (by rw [ex2_4]; rfl) (by decide) rfl (fun ls hl => ?_)
      refine lv_goto (tgt := 4) hx hb dX3_allStones_24 (by decide) ?_
      exact ih x1_3 x2_4 H locs ls hw (lv_sub hl [2, 1, 0] rfl) h
set_option maxHeartbeats 4000000 in
set_option maxRecDepth 100000 in
theorem m_X3_allStones (l : Launch) (z : KT) (qP : Nat → Nat) (P : RT) (Q : Int32 → Prop) (h : wX3_allStones P Q) : CI l yX3_allStones cX3_allStones 3 .int rmX3_allStones z [.ref (qP 0)] (pW z qP P) (fun _ : Unit => (pW z qP P)) (fun (r : Int32) (_ : Unit) => Q r) := by
  refine CI.of rfl (Nat.le_of_ble_eq_true rfl) ?_
  intro p e s m below meth c A ls M hw hl
  have M : Mc p s m _ meth c cX3_allStones 3 (some .int) RX3 z A := M
  obtain ⟨hx, hb, -, -, hown, hts, -, -, -, hN, hsr, -⟩ := id M
  have hl : lv_has ls 3 [(0, .ref (qP 0))] := hl
  unfold wX3_allStones at h
  generalize s.heap = H at hw ⊢
  generalize ([] : List Loc) = locs at hw ⊢
  refine lv_iconst (v := 0) hx hb dX3_allStones_0 (by decide) ?_
  refine lv_istore_n (lv' := [(1, .int (0 : Int32)), (0, .ref (qP 0))]) hx hb dX3_allStones_1 rfl hl (by decide) rfl (fun ls hl => ?_)
  refine lv_iconst (v := 0) hx hb dX3_allStones_2 (by decide) ?_
  refine lv_istore_n (lv' := [(2, .int (0 : Int32)), (1, .int (0 : Int32)), (0, .ref (qP 0))]) hx hb dX3_allStones_3 rfl hl (by decide) rfl (fun ls hl => ?_)
  obtain ⟨n0, h⟩ := h; exact kX3_allStones_4 M n0 (0 : Int32) (0 : Int32) H locs ls hw (lv_sub hl [2, 1, 0] rfl) h
abbrev rmX3_allHeft : Room := { frames := 1, cells := 0, slots := 0, locals := 26 }
set_option maxHeartbeats 4000000 in
set_option maxRecDepth 100000 in
theorem kX3_allHeft_4 {p : Program} {l : Launch} {e : Env} {s : State} {m : MethodId} {args : Array Value} {below : List Frame} {meth : Method} {c : Code} {z : KT} {A : Nat → Prop} {qP : Nat → Nat} {P : RT} {Q : Int32 → Prop} (M : Mc p s m args meth c cX3_allHeft 3 (some .int) RX3 z A) : ∀ (n : Nat) (x1 : Int32) (x2 : Int32) (H : Heap) (locs : List Loc) (ls : Array Slot), Hw s z A (pW z qP P) H locs → lv_has ls 3 [(0, .ref (qP 0)), (1, .int x1), (2, .int x2)] → bX3_allHeft_4 P Q n x1 x2 → W p l e rmX3_allHeft s m args below meth c H locs 0 0 (MQ below (va_Qi (fun (r : Int32) (_ : Unit) => Q r) (fun u t => cAt z A ((fun _ : Unit => (pW z qP P)) u) t) A) args s 0 0 A) (F0 m 4 ls []) := by
  obtain ⟨hx, hb, -, -, hown, hts, -, -, -, hN, hsr, -⟩ := id M
  intro n
  induction n with
  | zero => intro x1 x2 H locs ls hw hl h; exact False.elim h
  | succ n ih =>
    intro x1 x2 H locs ls hw hl h
    rw [bX3_allHeft_4] at h
    refine lv_iload_n hx hb dX3_allHeft_4 rfl (lv_at hl 2 rfl) ?_
    refine lv_aload_n hx hb dX3_allHeft_5 rfl (lv_at hl 0 rfl) ?_
    refine gt_f (v := .int (P 30 7)) M inlX3 hw 0 rfl rfl 7 (by decide) fl_X3_33 rfl rfl dX3_allHeft_6 ?_
    refine lv_icmp_ge (tgt := 26) hx hb dX3_allHeft_9 (by decide) (fun c_1 => ?_) (fun c_1 => ?_)
    · replace h := iT c_1 h
      refine lv_iload_n hx hb dX3_allHeft_26 rfl (lv_at hl 1 rfl) ?_
      exact rt_i M () hw h dX3_allHeft_27
    · replace h := iF c_1 h
      refine lv_iload_n hx hb dX3_allHeft_12 rfl (lv_at hl 1 rfl) ?_
      refine lv_aload_n hx hb dX3_allHeft_13 rfl (lv_at hl 0 rfl) ?_
      refine lv_iload_n hx hb dX3_allHeft_14 rfl (lv_at hl 2 rfl) ?_
      refine fr_Vi (wN := fun _ : Unit => (pW z qP P)) M (m_X3_heftOf l z qP P x2 _ h) (cwV 1 hts (gdV cd_X3_heftOf ml_X3_53 im_X3_heftOf se_X3_heftOf in_X3) rfl rfl rfl hdV_X3_heftOf ⟨(Nat.le_of_ble_eq_true rfl), (Nat.le_of_ble_eq_true rfl)⟩) (Cut.self _) (Prm.self _ 8 (fun _ => rfl)) 0 rfl rfl rfl hw rfl hl.1 rfl (Nat.le_of_ble_eq_true rfl) dX3_allHeft_15 (fun r_2 u_ H locs h hw => ?_)
      have hw : Hw s z A (pW z qP P) H locs := hw
      try dsimp only at h
      refine lv_iadd hx hb dX3_allHeft_18 ?_
      refine lv_topi (fun x1_3 ex1_3 => ?_)
      replace h := h x1_3 ex1_3
      refine lv_istore_n (lv' := [(1, .int x1_3), (0, .ref (qP 0)), (2, .int x2)]) hx hb dX3_allHeft_19 rfl hl (by decide) rfl (fun ls hl => ?_)
      obtain ⟨x2_4, ex2_4⟩ : ∃ y : Int32, y = (x2 + (1 : Int32)) := ⟨_, rfl⟩
      replace h := h x2_4 ex2_4
      refine lv_iinc (v := x2_4) (lv' := [(2, .int x2_4), (1, .int x1_3), (0, .ref (qP 0))]) hx hb dX3_allHeft_20 hl (k := 2) rfl (by rw [ex2_4]; rfl) (by decide) rfl (fun ls hl => ?_)
      refine lv_goto (tgt := 4) hx hb dX3_allHeft_23 (by decide) ?_
      exact ih x1_3 x2_4 H locs ls hw (lv_sub hl [2, 1, 0] rfl) h
set_option maxHeartbeats 4000000 in
set_option maxRecDepth 100000 in
theorem m_X3_allHeft (l : Launch) (z : KT) (qP : Nat → Nat) (P : RT) (Q : Int32 → Prop) (h : wX3_allHeft P Q) : CI l yX3_allHeft cX3_allHeft 3 .int rmX3_allHeft z [.ref (qP 0)] (pW z qP P) (fun _ : Unit => (pW z qP P)) (fun (r : Int32) (_ : Unit) => Q r) := by
  refine CI.of rfl (Nat.le_of_ble_eq_true rfl) ?_
  intro p e s m below meth c A ls M hw hl
  have M : Mc p s m _ meth c cX3_allHeft 3 (some .int) RX3 z A := M
  obtain ⟨hx, hb, -, -, hown, hts, -, -, -, hN, hsr, -⟩ := id M
  have hl : lv_has ls 3 [(0, .ref (qP 0))] := hl
  unfold wX3_allHeft at h
  generalize s.heap = H at hw ⊢
  generalize ([] : List Loc) = locs at hw ⊢
  refine lv_iconst (v := 0) hx hb dX3_allHeft_0 (by decide) ?_
  refine lv_istore_n (lv' := [(1, .int (0 : Int32)), (0, .ref (qP 0))]) hx hb dX3_allHeft_1 rfl hl (by decide) rfl (fun ls hl => ?_)
  refine lv_iconst (v := 0) hx hb dX3_allHeft_2 (by decide) ?_
  refine lv_istore_n (lv' := [(2, .int (0 : Int32)), (1, .int (0 : Int32)), (0, .ref (qP 0))]) hx hb dX3_allHeft_3 rfl hl (by decide) rfl (fun ls hl => ?_)
  obtain ⟨n0, h⟩ := h; exact kX3_allHeft_4 M n0 (0 : Int32) (0 : Int32) H locs ls hw (lv_sub hl [2, 1, 0] rfl) h
