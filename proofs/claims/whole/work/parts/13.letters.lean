/-! ===== Letters (laid by wip/whole/gen.py) ===== -/
theorem hdV_X0_add : yX0_add.cls = RX0 ∧ yX0_add.cls ≠ "java/lang/invoke/MethodHandle" ∧ yX0_add.cls ≠ "java/lang/invoke/VarHandle" ∧ (parseMethodDescriptor yX0_add.desc).map (fun d => d.parameters.length) = some 1 := by decide +kernel
theorem hdS_X0_shapeOf : yX0_shapeOf.cls ≠ "java/lang/invoke/MethodHandle" ∧ yX0_shapeOf.cls ≠ "java/lang/invoke/VarHandle" ∧ (parseMethodDescriptor yX0_shapeOf.desc).map (fun d => d.parameters.length) = some 1 := by decide +kernel
theorem hdS_X0_kindOf : yX0_kindOf.cls ≠ "java/lang/invoke/MethodHandle" ∧ yX0_kindOf.cls ≠ "java/lang/invoke/VarHandle" ∧ (parseMethodDescriptor yX0_kindOf.desc).map (fun d => d.parameters.length) = some 1 := by decide +kernel
theorem hdS_X0_fits : yX0_fits.cls ≠ "java/lang/invoke/MethodHandle" ∧ yX0_fits.cls ≠ "java/lang/invoke/VarHandle" ∧ (parseMethodDescriptor yX0_fits.desc).map (fun d => d.parameters.length) = some 2 := by decide +kernel
theorem hdV_X0_firstBadPlace : yX0_firstBadPlace.cls = RX0 ∧ yX0_firstBadPlace.cls ≠ "java/lang/invoke/MethodHandle" ∧ yX0_firstBadPlace.cls ≠ "java/lang/invoke/VarHandle" ∧ (parseMethodDescriptor yX0_firstBadPlace.desc).map (fun d => d.parameters.length) = some 0 := by decide +kernel
theorem hdV_X0_digit : yX0_digit.cls = RX0 ∧ yX0_digit.cls ≠ "java/lang/invoke/MethodHandle" ∧ yX0_digit.cls ≠ "java/lang/invoke/VarHandle" ∧ (parseMethodDescriptor yX0_digit.desc).map (fun d => d.parameters.length) = some 1 := by decide +kernel
theorem hdV_X0_number : yX0_number.cls = RX0 ∧ yX0_number.cls ≠ "java/lang/invoke/MethodHandle" ∧ yX0_number.cls ≠ "java/lang/invoke/VarHandle" ∧ (parseMethodDescriptor yX0_number.desc).map (fun d => d.parameters.length) = some 1 := by decide +kernel
theorem hdS_X0_tellThing : yX0_tellThing.cls ≠ "java/lang/invoke/MethodHandle" ∧ yX0_tellThing.cls ≠ "java/lang/invoke/VarHandle" ∧ (parseMethodDescriptor yX0_tellThing.desc).map (fun d => d.parameters.length) = some 4 := by decide +kernel
theorem hdS_X0_tellRope : yX0_tellRope.cls ≠ "java/lang/invoke/MethodHandle" ∧ yX0_tellRope.cls ≠ "java/lang/invoke/VarHandle" ∧ (parseMethodDescriptor yX0_tellRope.desc).map (fun d => d.parameters.length) = some 3 := by decide +kernel
theorem hdS_X0_tellCut : yX0_tellCut.cls ≠ "java/lang/invoke/MethodHandle" ∧ yX0_tellCut.cls ≠ "java/lang/invoke/VarHandle" ∧ (parseMethodDescriptor yX0_tellCut.desc).map (fun d => d.parameters.length) = some 2 := by decide +kernel
theorem hdS_X0_tellStones : yX0_tellStones.cls ≠ "java/lang/invoke/MethodHandle" ∧ yX0_tellStones.cls ≠ "java/lang/invoke/VarHandle" ∧ (parseMethodDescriptor yX0_tellStones.desc).map (fun d => d.parameters.length) = some 3 := by decide +kernel
theorem hdS_X0_tellHeight : yX0_tellHeight.cls ≠ "java/lang/invoke/MethodHandle" ∧ yX0_tellHeight.cls ≠ "java/lang/invoke/VarHandle" ∧ (parseMethodDescriptor yX0_tellHeight.desc).map (fun d => d.parameters.length) = some 3 := by decide +kernel
theorem hdS_X0_tellHours : yX0_tellHours.cls ≠ "java/lang/invoke/MethodHandle" ∧ yX0_tellHours.cls ≠ "java/lang/invoke/VarHandle" ∧ (parseMethodDescriptor yX0_tellHours.desc).map (fun d => d.parameters.length) = some 2 := by decide +kernel
theorem hdV_X0_tellStatement : yX0_tellStatement.cls = RX0 ∧ yX0_tellStatement.cls ≠ "java/lang/invoke/MethodHandle" ∧ yX0_tellStatement.cls ≠ "java/lang/invoke/VarHandle" ∧ (parseMethodDescriptor yX0_tellStatement.desc).map (fun d => d.parameters.length) = some 2 := by decide +kernel
theorem hdV_X0_tellTo : yX0_tellTo.cls = RX0 ∧ yX0_tellTo.cls ≠ "java/lang/invoke/MethodHandle" ∧ yX0_tellTo.cls ≠ "java/lang/invoke/VarHandle" ∧ (parseMethodDescriptor yX0_tellTo.desc).map (fun d => d.parameters.length) = some 1 := by decide +kernel
theorem cut_9 {z : KT} {qL : Nat → Nat} {qP : Nat → Nat} {L : RT} {P : RT} : Cut (lW z qL L ++ (pW z qP P)) (lW z qL L) (pW z qP P) := ⟨[0, 1], [2, 3, 4, 5, 6, 7, 8, 9], rfl, rfl, rfl, rfl, by decide⟩
theorem prm_9 {z : KT} {qL : Nat → Nat} {qP : Nat → Nat} {L : RT} {P : RT} : Prm (S := Unit) (pW z qP P) (fun _ => (lW z qL L)) (fun _ => (lW z qL L ++ (pW z qP P))) := ⟨[8, 9, 0, 1, 2, 3, 4, 5, 6, 7], rfl, fun _ => rfl⟩
theorem cut_10 {z : KT} {qL : Nat → Nat} {qP : Nat → Nat} {L : RT} {P : RT} : Cut (lW z qL L ++ (pW z qP P)) (pW z qP P) (lW z qL L) := ⟨[2, 3, 4, 5, 6, 7, 8, 9], [0, 1], rfl, rfl, rfl, rfl, by decide⟩
theorem prm_10 {z : KT} {qL : Nat → Nat} {qP : Nat → Nat} {L : RT} : Prm (S := RT) (lW z qL L) (fun u => (pW z qP u)) (fun u => (lW z qL L ++ (pW z qP u))) := ⟨[0, 1, 2, 3, 4, 5, 6, 7, 8, 9], rfl, fun _ => rfl⟩
def wX0_add (L : RT) (x1 : Int32) (Q : Int32 → RT → Prop) : Prop := (vp_in (L 30 1) 96 ∧ (∀ L_2 : RT, L_2 = set2 L 0 ((L 30 1)).toNatClampNeg x1 → (∀ L_3 : RT, L_3 = set2 L_2 30 1 ((L_2 30 1) + (1 : Int32)) → (Q (L_3 30 1) L_3))))
def wX0_shapeOf (x0 : Int32) (Q : Nat → Prop) : Prop := (if x0 = (99 : Int32) then (Q (2 : Nat)) else (if x0 = (100 : Int32) then (Q (6 : Nat)) else (if x0 = (101 : Int32) then (Q (6 : Nat)) else (if x0 = (102 : Int32) then (Q (6 : Nat)) else (if x0 = (103 : Int32) then (Q (6 : Nat)) else (if x0 = (104 : Int32) then (Q (5 : Nat)) else (if x0 = (105 : Int32) then (Q (6 : Nat)) else (if x0 = (106 : Int32) then (Q (6 : Nat)) else (if x0 = (107 : Int32) then (Q (6 : Nat)) else (if x0 = (108 : Int32) then (Q (6 : Nat)) else (if x0 = (109 : Int32) then (Q (6 : Nat)) else (if x0 = (110 : Int32) then (Q (6 : Nat)) else (if x0 = (111 : Int32) then (Q (6 : Nat)) else (if x0 = (112 : Int32) then (Q (6 : Nat)) else (if x0 = (113 : Int32) then (Q (6 : Nat)) else (if x0 = (114 : Int32) then (Q (1 : Nat)) else (if x0 = (115 : Int32) then (Q (3 : Nat)) else (if x0 = (116 : Int32) then (Q (0 : Nat)) else (if x0 = (117 : Int32) then (Q (4 : Nat)) else (Q (6 : Nat)))))))))))))))))))))
def bX0_kindOf_2 (Q : Int32 → Prop) : Nat → Int32 → Int32 → Prop
  | 0, _, _ => False
  | n + 1, x0, x1 => (if (6 : Int32) ≤ x1 then (Q (-9 : Int32)) else ((7 : Nat) < 8 ∧ ((¬ x1 < 0 ∧ x1 < nI (sLen.getD (7 : Nat) 0)) ∧ (∀ r_3 : Int32, r_3 = sCh (7 : Nat) x1 → (if r_3 = x0 then (Q x1) else (∀ x1_6 : Int32, x1_6 = (x1 + (1 : Int32)) → (bX0_kindOf_2 Q n x0 x1_6)))))))
def wX0_kindOf (x0 : Int32) (Q : Int32 → Prop) : Prop := (∃ j : Nat, bX0_kindOf_2 Q j x0 (0 : Int32))
def wX0_fits (x0 : Int32) (x1 : Int32) (Q : Int32 → Prop) : Prop := (if x1 = (48 : Int32) then (if x0 < (48 : Int32) then (Q (0 : Int32)) else (if (57 : Int32) < x0 then (Q (0 : Int32)) else (Q (1 : Int32)))) else (if x1 = (107 : Int32) then (wX0_kindOf  x0 (fun (r_6 : Int32) => (if r_6 < (0 : Int32) then (Q (0 : Int32)) else (Q (1 : Int32))))) else (if x0 = x1 then (Q (1 : Int32)) else (Q (0 : Int32)))))
def bX0_firstBadPlace_43 (K4 : Int32 → Prop) (L : RT) (Q : Int32 → Prop) : Nat → Int32 → Int32 → Nat → Int32 → Prop
  | 0, _, _, _, _ => False
  | n + 1, x1, x2, s3, x4 => (if x1 ≤ x4 then (∀ x2_2 : Int32, x2_2 = (x2 + x1) → (K4 x2_2)) else (if (L 30 1) ≤ (x2 + x4) then (Q (x2 + x4)) else (vp_in (x2 + x4) 96 ∧ (s3 < 8 ∧ ((¬ x4 < 0 ∧ x4 < nI (sLen.getD s3 0)) ∧ (∀ r_6 : Int32, r_6 = sCh s3 x4 → (wX0_fits  (L 0 ((x2 + x4)).toNatClampNeg) r_6 (fun (r_8 : Int32) => (if r_8 = (0 : Int32) then (Q (x2 + x4)) else (∀ x4_10 : Int32, x4_10 = (x4 + (1 : Int32)) → (bX0_firstBadPlace_43 K4 L Q n x1 x2 s3 x4_10)))))))))))
def bX0_firstBadPlace_4 (L : RT) (Q : Int32 → Prop) : Nat → Int32 → Prop
  | 0, _ => False
  | n + 1, x2 => (if (L 30 1) ≤ x2 then (if (L 30 1) = (0 : Int32) then (Q (0 : Int32)) else (Q (-9 : Int32))) else (vp_in x2 96 ∧ (wX0_shapeOf  (L 0 (x2).toNatClampNeg) (fun (r_4 : Nat) => (r_4 < 8 ∧ (∀ r_6 : Int32, r_6 = nI (sLen.getD r_4 0) → (∀ x1_7 : Int32, x1_7 = (if (1 : Int32) < r_6 then r_6 else (1 : Int32)) → (r_4 < 8 ∧ (∀ r_9 : Int32, r_9 = (if nI (sLen.getD r_4 0) = 0 then 1 else 0) → (if r_9 = (0 : Int32) then (∃ j : Nat, bX0_firstBadPlace_43 (fun (x2_ : Int32) => bX0_firstBadPlace_4 L Q n x2_) L Q j x1_7 x2 r_4 (1 : Int32)) else (Q x2)))))))))))
def wX0_firstBadPlace (L : RT) (Q : Int32 → Prop) : Prop := (∃ j : Nat, bX0_firstBadPlace_4 L Q j (0 : Int32))
def wX0_digit (L : RT) (x1 : Int32) (Q : Int32 → Prop) : Prop := (vp_in x1 96 ∧ (Q ((L 0 (x1).toNatClampNeg) - (48 : Int32))))
def wX0_number (L : RT) (x1 : Int32) (Q : Int32 → Prop) : Prop := (wX0_digit L x1 (fun (r_1 : Int32) => (wX0_digit L (x1 + (1 : Int32)) (fun (r_2 : Int32) => (Q (((10 : Int32) * r_1) + r_2))))))
def wX0_tellThing (P : RT) (x1 : Int32) (x2 : Int32) (x3 : Int32) (Q : Int32 → RT → Prop) : Prop := (if (60 : Int32) < x3 then (Q (0 : Int32) P) else (if (P 30 7) < (8 : Int32) then (wX3_addThing P x1 x2 x3 (fun (P_3 : RT) => (Q (1 : Int32) P_3))) else (Q (0 : Int32) P)))
def wX0_tellRope (P : RT) (x1 : Int32) (x2 : Int32) (Q : Int32 → RT → Prop) : Prop := (wX3_hasPair P x1 x2 (fun (r_1 : Int32) => (if r_1 = (0 : Int32) then (Q (0 : Int32) P) else (if (P 30 8) < (6 : Int32) then (wX3_addRope P x1 x2 (fun (r_5 : Int32) (P_4 : RT) => (Q (1 : Int32) P_4))) else (Q (0 : Int32) P)))))
def wX0_tellCut (P : RT) (x1 : Int32) (Q : Int32 → RT → Prop) : Prop := (wX3_hasRope P x1 (fun (r_1 : Int32) => (if r_1 = (0 : Int32) then (Q (0 : Int32) P) else (wX3_dropRope P x1 (fun (r_4 : Int32) (P_3 : RT) => (Q (1 : Int32) P_3))))))
def wX0_tellStones (P : RT) (x1 : Int32) (x2 : Int32) (Q : Int32 → RT → Prop) : Prop := (wX3_hasThing P x1 (fun (r_1 : Int32) => (if r_1 = (0 : Int32) then (Q (0 : Int32) P) else (vp_in x1 8 ∧ (∀ P_4 : RT, P_4 = set2 P 3 (x1).toNatClampNeg x2 → (Q (1 : Int32) P_4))))))
def wX0_tellHeight (P : RT) (x1 : Int32) (x2 : Int32) (Q : Int32 → RT → Prop) : Prop := (wX3_hasThing P x1 (fun (r_1 : Int32) => (if r_1 = (0 : Int32) then (Q (0 : Int32) P) else (if x2 ≤ (20 : Int32) then (vp_in x1 8 ∧ (∀ P_5 : RT, P_5 = set2 P 4 (x1).toNatClampNeg x2 → (Q (1 : Int32) P_5))) else (Q (0 : Int32) P)))))
def wX0_tellHours (P : RT) (x1 : Int32) (Q : Int32 → RT → Prop) : Prop := (if x1 < (1 : Int32) then (Q (0 : Int32) P) else (if (60 : Int32) < x1 then (Q (0 : Int32) P) else (if ((P 30 9) + x1) ≤ (999 : Int32) then (wX3_goHours P x1 (fun (P_4 : RT) => (Q (1 : Int32) P_4))) else (Q (0 : Int32) P))))
def wX0_tellStatement (L : RT) (P : RT) (x2 : Int32) (Q : Int32 → RT → Prop) : Prop := (vp_in x2 96 ∧ (∀ s_2 : Int32, s_2 = (L 0 (x2).toNatClampNeg) → (if s_2 = (99 : Int32) then (wX0_digit L (x2 + (1 : Int32)) (fun (r_4 : Int32) => (wX0_tellCut P r_4 (fun (r_6 : Int32) (P_5 : RT) => (bz r_6 ∧ (Q r_6 P_5)))))) else (if s_2 = (114 : Int32) then (wX0_digit L (x2 + (1 : Int32)) (fun (r_9 : Int32) => (wX0_digit L (x2 + (2 : Int32)) (fun (r_10 : Int32) => (wX0_tellRope P r_9 r_10 (fun (r_12 : Int32) (P_11 : RT) => (bz r_12 ∧ (Q r_12 P_11)))))))) else (if s_2 = (115 : Int32) then (wX0_digit L (x2 + (1 : Int32)) (fun (r_15 : Int32) => (wX0_digit L (x2 + (2 : Int32)) (fun (r_16 : Int32) => (wX0_tellStones P r_15 r_16 (fun (r_18 : Int32) (P_17 : RT) => (bz r_18 ∧ (Q r_18 P_17)))))))) else (if s_2 = (116 : Int32) then (vp_in (x2 + (1 : Int32)) 96 ∧ (wX0_kindOf  (L 0 ((x2 + (1 : Int32))).toNatClampNeg) (fun (r_22 : Int32) => (wX0_digit L (x2 + (2 : Int32)) (fun (r_23 : Int32) => (wX0_number L (x2 + (3 : Int32)) (fun (r_24 : Int32) => (wX0_tellThing P r_22 r_23 r_24 (fun (r_26 : Int32) (P_25 : RT) => (bz r_26 ∧ (Q r_26 P_25))))))))))) else (if s_2 = (117 : Int32) then (wX0_digit L (x2 + (1 : Int32)) (fun (r_29 : Int32) => (wX0_number L (x2 + (2 : Int32)) (fun (r_30 : Int32) => (wX0_tellHeight P r_29 r_30 (fun (r_32 : Int32) (P_31 : RT) => (bz r_32 ∧ (Q r_32 P_31)))))))) else (wX0_number L (x2 + (1 : Int32)) (fun (r_34 : Int32) => (wX0_tellHours P r_34 (fun (r_36 : Int32) (P_35 : RT) => (bz r_36 ∧ (Q r_36 P_35)))))))))))))
def bX0_tellTo_25 (L : RT) (Q : Int32 → RT → Prop) : Nat → RT → Int32 → Int32 → Prop
  | 0, _, _, _ => False
  | n + 1, P, x3, x5 => (if (L 30 1) ≤ x5 then (Q x3 P) else (vp_in x5 96 ∧ (wX0_shapeOf  (L 0 (x5).toNatClampNeg) (fun (r_3 : Nat) => (r_3 < 8 ∧ (∀ r_5 : Int32, r_5 = nI (sLen.getD r_3 0) → (∀ x4_6 : Int32, x4_6 = (if (1 : Int32) < r_5 then r_5 else (1 : Int32)) → (wX0_tellStatement L P x5 (fun (r_8 : Int32) (P_7 : RT) => (if r_8 = (0 : Int32) then (Q ((-2000 : Int32) - x5) P_7) else (∀ x3_10 : Int32, x3_10 = (x3 + (1 : Int32)) → (∀ x5_11 : Int32, x5_11 = (x5 + x4_6) → (bX0_tellTo_25 L Q n P_7 x3_10 x5_11)))))))))))))
def wX0_tellTo (L : RT) (P : RT) (Q : Int32 → RT → Prop) : Prop := (wX0_firstBadPlace L  (fun (r_1 : Int32) => (if r_1 = (-9 : Int32) then (∃ j : Nat, bX0_tellTo_25 L Q j P (0 : Int32) (0 : Int32)) else (Q ((-1000 : Int32) - r_1) P))))
abbrev rmX0_add : Room := { frames := 0, cells := 0, slots := 0, locals := 0 }
set_option maxHeartbeats 4000000 in
set_option maxRecDepth 100000 in
theorem m_X0_add (l : Launch) (z : KT) (qL : Nat → Nat) (L : RT) (x1 : Int32) (Q : Int32 → RT → Prop) (h : wX0_add L x1 Q) : CI l yX0_add cX0_add 2 .int rmX0_add z [.ref (qL 0), .int x1] (lW z qL L) (fun u : RT => (lW z qL u)) (fun (r : Int32) (u : RT) => Q r u) := by
  refine CI.of rfl (Nat.le_of_ble_eq_true rfl) ?_
  intro p e s m below meth c A ls M hw hl
  have M : Mc p s m _ meth c cX0_add 2 (some .int) RX0 z A := M
  obtain ⟨hx, hb, -, -, hown, hts, -, -, -, hN, hsr, -⟩ := id M
  have hl : lv_has ls 2 [(0, .ref (qL 0)), (1, .int x1)] := hl
  unfold wX0_add at h
  generalize s.heap = H at hw ⊢
  generalize ([] : List Loc) = locs at hw ⊢
  refine lv_aload_n hx hb dX0_add_0 rfl (lv_at hl 0 rfl) ?_
  refine gt_f (v := .ref (qL 1)) M inlX0 hw 0 rfl rfl 0 (by decide) fl_X0_9 rfl rfl dX0_add_1 ?_
  refine lv_aload_n hx hb dX0_add_4 rfl (lv_at hl 0 rfl) ?_
  refine gt_f (v := .int (L 30 1)) M inlX0 hw 0 rfl rfl 1 (by decide) fl_X0_15 rfl rfl dX0_add_5 ?_
  refine lv_iload_n hx hb dX0_add_8 rfl (lv_at hl 1 rfl) ?_
  obtain ⟨a_1, h⟩ := h
  refine st_i (P := L) (r := 0) (wN := fun L_2 => (lW z qL L_2)) M hw 1 rfl rfl a_1 dX0_add_9 (fun L_2 H locs eL_2 hw => ?_)
  replace h := h L_2 eL_2
  refine lv_aload_n hx hb dX0_add_10 rfl (lv_at hl 0 rfl) ?_
  refine lv_dup hx hb dX0_add_11 rfl ?_
  refine gt_f (v := .int (L_2 30 1)) M inlX0 hw 0 rfl rfl 1 (by decide) fl_X0_15 rfl rfl dX0_add_12 ?_
  refine lv_iconst (v := 1) hx hb dX0_add_15 (by decide) ?_
  refine lv_iadd hx hb dX0_add_16 ?_
  refine st_f (P := L_2) (r := 30) (j := 1) (wN := fun L_3 => (lW z qL L_3)) M inlX0 tyX0_ok nmX0 hw 0 rfl rfl 1 (by decide) fl_X0_15 rfl rfl rfl rfl rfl (Nat.le_of_ble_eq_true rfl) rfl dX0_add_17 (fun L_3 H locs eL_3 hw => ?_)
  replace h := h L_3 eL_3
  refine lv_aload_n hx hb dX0_add_20 rfl (lv_at hl 0 rfl) ?_
  refine gt_f (v := .int (L_3 30 1)) M inlX0 hw 0 rfl rfl 1 (by decide) fl_X0_15 rfl rfl dX0_add_21 ?_
  exact rt_i M L_3 hw h dX0_add_24
abbrev rmX0_shapeOf : Room := { frames := 0, cells := 0, slots := 0, locals := 0 }
set_option maxHeartbeats 4000000 in
set_option maxRecDepth 100000 in
theorem m_X0_shapeOf (l : Launch) (z : KT) (x0 : Int32) (Q : Nat → Prop) (h : wX0_shapeOf x0 Q) : CR l yX0_shapeOf cX0_shapeOf 1 (.object "java/lang/String") rmX0_shapeOf z [.int x0] ([] : va_W) (fun _ : Unit => ([] : va_W)) (fun (r : Nat) (_ : Unit) => ∃ i : Nat, r = zK z i ∧ Q i) := by
  refine CR.of rfl (Nat.le_of_ble_eq_true rfl) ?_
  intro p e s m below meth c A ls M hw hl
  have M : Mc p s m _ meth c cX0_shapeOf 1 (some (.object "java/lang/String")) RX0 z A := M
  obtain ⟨hx, hb, -, -, hown, hts, -, -, -, hN, hsr, -⟩ := id M
  have hl : lv_has ls 1 [(0, .int x0)] := hl
  unfold wX0_shapeOf at h
  generalize s.heap = H at hw ⊢
  generalize ([] : List Loc) = locs at hw ⊢
  refine lv_iload_n hx hb dX0_shapeOf_0 rfl (lv_at hl 0 rfl) ?_
  by_cases c_2 : x0 = (99 : Int32)
  · replace h := iT c_2 h
    refine lv_tableIn (tgt := 98) hx hb dX0_shapeOf_1 (by rw [c_2]; decide) (by rw [c_2]; decide) (by rw [c_2]; rfl) (by decide) ?_
    refine va_ldcS hx hb hown hsr.2.2.1 dX0_shapeOf_98 ?_
    exact rt_r M () hw ⟨_, rfl, h⟩ dX0_shapeOf_100
  replace h := iF c_2 h
  by_cases c_3 : x0 = (100 : Int32)
  · replace h := iT c_3 h
    refine lv_tableIn (tgt := 110) hx hb dX0_shapeOf_1 (by rw [c_3]; decide) (by rw [c_3]; decide) (by rw [c_3]; rfl) (by decide) ?_
    refine va_ldcS hx hb hown hsr.2.2.2.2.2.2.1 dX0_shapeOf_110 ?_
    exact rt_r M () hw ⟨_, rfl, h⟩ dX0_shapeOf_112
  replace h := iF c_3 h
  by_cases c_4 : x0 = (101 : Int32)
  · replace h := iT c_4 h
    refine lv_tableIn (tgt := 110) hx hb dX0_shapeOf_1 (by rw [c_4]; decide) (by rw [c_4]; decide) (by rw [c_4]; rfl) (by decide) ?_
    refine va_ldcS hx hb hown hsr.2.2.2.2.2.2.1 dX0_shapeOf_110 ?_
    exact rt_r M () hw ⟨_, rfl, h⟩ dX0_shapeOf_112
  replace h := iF c_4 h
  by_cases c_5 : x0 = (102 : Int32)
  · replace h := iT c_5 h
    refine lv_tableIn (tgt := 110) hx hb dX0_shapeOf_1 (by rw [c_5]; decide) (by rw [c_5]; decide) (by rw [c_5]; rfl) (by decide) ?_
    refine va_ldcS hx hb hown hsr.2.2.2.2.2.2.1 dX0_shapeOf_110 ?_
    exact rt_r M () hw ⟨_, rfl, h⟩ dX0_shapeOf_112
  replace h := iF c_5 h
  by_cases c_6 : x0 = (103 : Int32)
  · replace h := iT c_6 h
    refine lv_tableIn (tgt := 110) hx hb dX0_shapeOf_1 (by rw [c_6]; decide) (by rw [c_6]; decide) (by rw [c_6]; rfl) (by decide) ?_
    refine va_ldcS hx hb hown hsr.2.2.2.2.2.2.1 dX0_shapeOf_110 ?_
    exact rt_r M () hw ⟨_, rfl, h⟩ dX0_shapeOf_112
  replace h := iF c_6 h
  by_cases c_7 : x0 = (104 : Int32)
  · replace h := iT c_7 h
    refine lv_tableIn (tgt := 107) hx hb dX0_shapeOf_1 (by rw [c_7]; decide) (by rw [c_7]; decide) (by rw [c_7]; rfl) (by decide) ?_
    refine va_ldcS hx hb hown hsr.2.2.2.2.2.1 dX0_shapeOf_107 ?_
    exact rt_r M () hw ⟨_, rfl, h⟩ dX0_shapeOf_109
  replace h := iF c_7 h
  by_cases c_8 : x0 = (105 : Int32)
  · replace h := iT c_8 h
    refine lv_tableIn (tgt := 110) hx hb dX0_shapeOf_1 (by rw [c_8]; decide) (by rw [c_8]; decide) (by rw [c_8]; rfl) (by decide) ?_
    refine va_ldcS hx hb hown hsr.2.2.2.2.2.2.1 dX0_shapeOf_110 ?_
    exact rt_r M () hw ⟨_, rfl, h⟩ dX0_shapeOf_112
  replace h := iF c_8 h
  by_cases c_9 : x0 = (106 : Int32)
  · replace h := iT c_9 h
    refine lv_tableIn (tgt := 110) hx hb dX0_shapeOf_1 (by rw [c_9]; decide) (by rw [c_9]; decide) (by rw [c_9]; rfl) (by decide) ?_
    refine va_ldcS hx hb hown hsr.2.2.2.2.2.2.1 dX0_shapeOf_110 ?_
    exact rt_r M () hw ⟨_, rfl, h⟩ dX0_shapeOf_112
  replace h := iF c_9 h
  by_cases c_10 : x0 = (107 : Int32)
  · replace h := iT c_10 h
    refine lv_tableIn (tgt := 110) hx hb dX0_shapeOf_1 (by rw [c_10]; decide) (by rw [c_10]; decide) (by rw [c_10]; rfl) (by decide) ?_
    refine va_ldcS hx hb hown hsr.2.2.2.2.2.2.1 dX0_shapeOf_110 ?_
    exact rt_r M () hw ⟨_, rfl, h⟩ dX0_shapeOf_112
  replace h := iF c_10 h
  by_cases c_11 : x0 = (108 : Int32)
  · replace h := iT c_11 h
    refine lv_tableIn (tgt := 110) hx hb dX0_shapeOf_1 (by rw [c_11]; decide) (by rw [c_11]; decide) (by rw [c_11]; rfl) (by decide) ?_
    refine va_ldcS hx hb hown hsr.2.2.2.2.2.2.1 dX0_shapeOf_110 ?_
    exact rt_r M () hw ⟨_, rfl, h⟩ dX0_shapeOf_112
  replace h := iF c_11 h
  by_cases c_12 : x0 = (109 : Int32)
  · replace h := iT c_12 h
    refine lv_tableIn (tgt := 110) hx hb dX0_shapeOf_1 (by rw [c_12]; decide) (by rw [c_12]; decide) (by rw [c_12]; rfl) (by decide) ?_
    refine va_ldcS hx hb hown hsr.2.2.2.2.2.2.1 dX0_shapeOf_110 ?_
    exact rt_r M () hw ⟨_, rfl, h⟩ dX0_shapeOf_112
  replace h := iF c_12 h
  by_cases c_13 : x0 = (110 : Int32)
  · replace h := iT c_13 h
    refine lv_tableIn (tgt := 110) hx hb dX0_shapeOf_1 (by rw [c_13]; decide) (by rw [c_13]; decide) (by rw [c_13]; rfl) (by decide) ?_
    refine va_ldcS hx hb hown hsr.2.2.2.2.2.2.1 dX0_shapeOf_110 ?_
    exact rt_r M () hw ⟨_, rfl, h⟩ dX0_shapeOf_112
  replace h := iF c_13 h
  by_cases c_14 : x0 = (111 : Int32)
  · replace h := iT c_14 h
    refine lv_tableIn (tgt := 110) hx hb dX0_shapeOf_1 (by rw [c_14]; decide) (by rw [c_14]; decide) (by rw [c_14]; rfl) (by decide) ?_
    refine va_ldcS hx hb hown hsr.2.2.2.2.2.2.1 dX0_shapeOf_110 ?_
    exact rt_r M () hw ⟨_, rfl, h⟩ dX0_shapeOf_112
  replace h := iF c_14 h
  by_cases c_15 : x0 = (112 : Int32)
  · replace h := iT c_15 h
    refine lv_tableIn (tgt := 110) hx hb dX0_shapeOf_1 (by rw [c_15]; decide) (by rw [c_15]; decide) (by rw [c_15]; rfl) (by decide) ?_
    refine va_ldcS hx hb hown hsr.2.2.2.2.2.2.1 dX0_shapeOf_110 ?_
    exact rt_r M () hw ⟨_, rfl, h⟩ dX0_shapeOf_112
  replace h := iF c_15 h
  by_cases c_16 : x0 = (113 : Int32)
  · replace h := iT c_16 h
    refine lv_tableIn (tgt := 110) hx hb dX0_shapeOf_1 (by rw [c_16]; decide) (by rw [c_16]; decide) (by rw [c_16]; rfl) (by decide) ?_
    refine va_ldcS hx hb hown hsr.2.2.2.2.2.2.1 dX0_shapeOf_110 ?_
    exact rt_r M () hw ⟨_, rfl, h⟩ dX0_shapeOf_112
  replace h := iF c_16 h
  by_cases c_17 : x0 = (114 : Int32)
  · replace h := iT c_17 h
    refine lv_tableIn (tgt := 95) hx hb dX0_shapeOf_1 (by rw [c_17]; decide) (by rw [c_17]; decide) (by rw [c_17]; rfl) (by decide) ?_
    refine va_ldcS hx hb hown hsr.2.1 dX0_shapeOf_95 ?_
    exact rt_r M () hw ⟨_, rfl, h⟩ dX0_shapeOf_97
  replace h := iF c_17 h
  by_cases c_18 : x0 = (115 : Int32)
  · replace h := iT c_18 h
    refine lv_tableIn (tgt := 101) hx hb dX0_shapeOf_1 (by rw [c_18]; decide) (by rw [c_18]; decide) (by rw [c_18]; rfl) (by decide) ?_
    refine va_ldcS hx hb hown hsr.2.2.2.1 dX0_shapeOf_101 ?_
    exact rt_r M () hw ⟨_, rfl, h⟩ dX0_shapeOf_103
  replace h := iF c_18 h
  by_cases c_19 : x0 = (116 : Int32)
  · replace h := iT c_19 h
    refine lv_tableIn (tgt := 92) hx hb dX0_shapeOf_1 (by rw [c_19]; decide) (by rw [c_19]; decide) (by rw [c_19]; rfl) (by decide) ?_
    refine va_ldcS hx hb hown hsr.1 dX0_shapeOf_92 ?_
    exact rt_r M () hw ⟨_, rfl, h⟩ dX0_shapeOf_94
  replace h := iF c_19 h
  by_cases c_20 : x0 = (117 : Int32)
  · replace h := iT c_20 h
    refine lv_tableIn (tgt := 104) hx hb dX0_shapeOf_1 (by rw [c_20]; decide) (by rw [c_20]; decide) (by rw [c_20]; rfl) (by decide) ?_
    refine va_ldcS hx hb hown hsr.2.2.2.2.1 dX0_shapeOf_104 ?_
    exact rt_r M () hw ⟨_, rfl, h⟩ dX0_shapeOf_106
  replace h := iF c_20 h
  refine lv_tableOut (tgt := 110) hx hb dX0_shapeOf_1 (by have q0 := lv_neT (a := 99) c_2 (by decide); have q1 := lv_neT (a := 100) c_3 (by decide); have q2 := lv_neT (a := 101) c_4 (by decide); have q3 := lv_neT (a := 102) c_5 (by decide); have q4 := lv_neT (a := 103) c_6 (by decide); have q5 := lv_neT (a := 104) c_7 (by decide); have q6 := lv_neT (a := 105) c_8 (by decide); have q7 := lv_neT (a := 106) c_9 (by decide); have q8 := lv_neT (a := 107) c_10 (by decide); have q9 := lv_neT (a := 108) c_11 (by decide); have q10 := lv_neT (a := 109) c_12 (by decide); have q11 := lv_neT (a := 110) c_13 (by decide); have q12 := lv_neT (a := 111) c_14 (by decide); have q13 := lv_neT (a := 112) c_15 (by decide); have q14 := lv_neT (a := 113) c_16 (by decide); have q15 := lv_neT (a := 114) c_17 (by decide); have q16 := lv_neT (a := 115) c_18 (by decide); have q17 := lv_neT (a := 116) c_19 (by decide); have q18 := lv_neT (a := 117) c_20 (by decide); omega) (by decide) ?_
  refine va_ldcS hx hb hown hsr.2.2.2.2.2.2.1 dX0_shapeOf_110 ?_
  exact rt_r M () hw ⟨_, rfl, h⟩ dX0_shapeOf_112
abbrev rmX0_kindOf : Room := { frames := 4, cells := 0, slots := 0, locals := 85 }
set_option maxHeartbeats 4000000 in
set_option maxRecDepth 100000 in
theorem kX0_kindOf_2 {p : Program} {l : Launch} {e : Env} {s : State} {m : MethodId} {args : Array Value} {below : List Frame} {meth : Method} {c : Code} {z : KT} {A : Nat → Prop} {Q : Int32 → Prop} (M : Mc p s m args meth c cX0_kindOf 2 (some .int) RX0 z A) : ∀ (n : Nat) (x0 : Int32) (x1 : Int32) (H : Heap) (locs : List Loc) (ls : Array Slot), Hw s z A ([] : va_W) H locs → lv_has ls 2 [(0, .int x0), (1, .int x1)] → bX0_kindOf_2 Q n x0 x1 → W p l e rmX0_kindOf s m args below meth c H locs 0 0 (MQ below (va_Qi (fun (r : Int32) (_ : Unit) => Q r) (fun u t => cAt z A ((fun _ : Unit => ([] : va_W)) u) t) A) args s 0 0 A) (F0 m 2 ls []) := by
  obtain ⟨hx, hb, -, -, hown, hts, -, -, -, hN, hsr, -⟩ := id M
  intro n
  induction n with
  | zero => intro x0 x1 H locs ls hw hl h; exact False.elim h
  | succ n ih =>
    intro x0 x1 H locs ls hw hl h
    rw [bX0_kindOf_2] at h
    refine lv_iload_n hx hb dX0_kindOf_2 rfl (lv_at hl 1 rfl) ?_
    refine lv_bipush (v := 6) hx hb dX0_kindOf_3 (by decide) ?_
    refine lv_icmp_ge (tgt := 26) hx hb dX0_kindOf_5 (by decide) (fun c_1 => ?_) (fun c_1 => ?_)
    · replace h := iT c_1 h
      refine lv_bipush (v := -9) hx hb dX0_kindOf_26 (by decide) ?_
      exact rt_i M () hw h dX0_kindOf_28
    · replace h := iF c_1 h
      refine va_ldcS hx hb hown hsr.2.2.2.2.2.2.2 dX0_kindOf_8 ?_
      refine lv_iload_n hx hb dX0_kindOf_10 rfl (lv_at hl 1 rfl) ?_
      obtain ⟨a_2, h⟩ := h
      obtain ⟨a_4, h⟩ := h
      refine fr_Ti M a_2 (m_J0_charAt l z (7 : Nat) a_2 x1 a_4.1 a_4.2) (cwV 1 hts (gdV cd_J0_charAt_5068e ml_X0_46 im_J0_charAt_5068e se_J0_charAt_5068e in_J0) rfl rfl rfl hdV_J0_charAt ⟨(Nat.le_of_ble_eq_true rfl), (Nat.le_of_ble_eq_true rfl)⟩) hw rfl hl.1 rfl (Nat.le_of_ble_eq_true rfl) dX0_kindOf_11 (fun r_3 H locs er_3 hw => ?_)
      replace h := h r_3 er_3
      refine lv_iload_n hx hb dX0_kindOf_14 rfl (lv_at hl 0 rfl) ?_
      refine lv_icmp_ne (tgt := 20) hx hb dX0_kindOf_15 (by decide) (fun c_5 => ?_) (fun c_5 => ?_)
      · replace h := iF c_5 h
        obtain ⟨x1_6, ex1_6⟩ : ∃ y : Int32, y = (x1 + (1 : Int32)) := ⟨_, rfl⟩
        replace h := h x1_6 ex1_6
        refine lv_iinc (v := x1_6) (lv' := [(1, .int x1_6), (0, .int x0)]) hx hb dX0_kindOf_20 hl (k := 1) rfl (by rw [ex1_6]; rfl) (by decide) rfl (fun ls hl => ?_)
        refine lv_goto (tgt := 2) hx hb dX0_kindOf_23 (by decide) ?_
        exact ih x0 x1_6 H locs ls hw (lv_sub hl [1, 0] rfl) h
      · replace h := iT c_5 h
        refine lv_iload_n hx hb dX0_kindOf_18 rfl (lv_at hl 1 rfl) ?_
        exact rt_i M () hw h dX0_kindOf_19
set_option maxHeartbeats 4000000 in
set_option maxRecDepth 100000 in
theorem m_X0_kindOf (l : Launch) (z : KT) (x0 : Int32) (Q : Int32 → Prop) (h : wX0_kindOf x0 Q) : CI l yX0_kindOf cX0_kindOf 2 .int rmX0_kindOf z [.int x0] ([] : va_W) (fun _ : Unit => ([] : va_W)) (fun (r : Int32) (_ : Unit) => Q r) := by
  refine CI.of rfl (Nat.le_of_ble_eq_true rfl) ?_
  intro p e s m below meth c A ls M hw hl
  have M : Mc p s m _ meth c cX0_kindOf 2 (some .int) RX0 z A := M
  obtain ⟨hx, hb, -, -, hown, hts, -, -, -, hN, hsr, -⟩ := id M
  have hl : lv_has ls 2 [(0, .int x0)] := hl
  unfold wX0_kindOf at h
  generalize s.heap = H at hw ⊢
  generalize ([] : List Loc) = locs at hw ⊢
  refine lv_iconst (v := 0) hx hb dX0_kindOf_0 (by decide) ?_
  refine lv_istore_n (lv' := [(1, .int (0 : Int32)), (0, .int x0)]) hx hb dX0_kindOf_1 rfl hl (by decide) rfl (fun ls hl => ?_)
  obtain ⟨n0, h⟩ := h; exact kX0_kindOf_2 M n0 x0 (0 : Int32) H locs ls hw (lv_sub hl [1, 0] rfl) h
abbrev rmX0_fits : Room := { frames := 5, cells := 0, slots := 0, locals := 106 }
set_option maxHeartbeats 4000000 in
set_option maxRecDepth 100000 in
theorem m_X0_fits (l : Launch) (z : KT) (x0 : Int32) (x1 : Int32) (Q : Int32 → Prop) (h : wX0_fits x0 x1 Q) : CI l yX0_fits cX0_fits 2 .boolean rmX0_fits z [.int x0, .int x1] ([] : va_W) (fun _ : Unit => ([] : va_W)) (fun (r : Int32) (_ : Unit) => Q r) := by
  refine CI.of rfl (Nat.le_of_ble_eq_true rfl) ?_
  intro p e s m below meth c A ls M hw hl
  have M : Mc p s m _ meth c cX0_fits 2 (some .boolean) RX0 z A := M
  obtain ⟨hx, hb, -, -, hown, hts, -, -, -, hN, hsr, -⟩ := id M
  have hl : lv_has ls 2 [(0, .int x0), (1, .int x1)] := hl
  unfold wX0_fits at h
  generalize s.heap = H at hw ⊢
  generalize ([] : List Loc) = locs at hw ⊢
  refine lv_iload_n hx hb dX0_fits_0 rfl (lv_at hl 1 rfl) ?_
  by_cases c_2 : x1 = (48 : Int32)
  · replace h := iT c_2 h
    refine lv_lookup (off := 40) (tgt := 41) hx hb dX0_fits_1 (by decide) (by first | (rw [c_2]; done) | (rw [c_2]; rfl)) (by decide) ?_
    refine lv_iload_n hx hb dX0_fits_41 rfl (lv_at hl 0 rfl) ?_
    refine lv_bipush (v := 48) hx hb dX0_fits_42 (by decide) ?_
    refine lv_icmp_lt (tgt := 57) hx hb dX0_fits_44 (by decide) (fun c_3 => ?_) (fun c_3 => ?_)
    · replace h := iT c_3 h
      refine lv_iconst (v := 0) hx hb dX0_fits_57 (by decide) ?_
      exact rt_z M () hw bz0 h dX0_fits_58
    · replace h := iF c_3 h
      refine lv_iload_n hx hb dX0_fits_47 rfl (lv_at hl 0 rfl) ?_
      refine lv_bipush (v := 57) hx hb dX0_fits_48 (by decide) ?_
      refine lv_icmp_gt (tgt := 57) hx hb dX0_fits_50 (by decide) (fun c_4 => ?_) (fun c_4 => ?_)
      · replace h := iT c_4 h
        refine lv_iconst (v := 0) hx hb dX0_fits_57 (by decide) ?_
        exact rt_z M () hw bz0 h dX0_fits_58
      · replace h := iF c_4 h
        refine lv_iconst (v := 1) hx hb dX0_fits_53 (by decide) ?_
        refine lv_goto (tgt := 58) hx hb dX0_fits_54 (by decide) ?_
        exact rt_z M () hw bz1 h dX0_fits_58
  replace h := iF c_2 h
  by_cases c_5 : x1 = (107 : Int32)
  · replace h := iT c_5 h
    refine lv_lookup (off := 27) (tgt := 28) hx hb dX0_fits_1 (by decide) (by first | (rw [c_5]; done) | (rw [c_5]; rfl)) (by decide) ?_
    refine lv_iload_n hx hb dX0_fits_28 rfl (lv_at hl 0 rfl) ?_
    refine fr_Si (wN := fun _ : Unit => ([] : va_W)) M (m_X0_kindOf l z x0 _ h) (va_cwS 1 hts (gdS cd_X0_kindOf ml_X0_68 st_X0_kindOf in_X0) rfl rfl rfl hdS_X0_kindOf ⟨(Nat.le_of_ble_eq_true rfl), (Nat.le_of_ble_eq_true rfl)⟩) (Cut.none _) (Prm.none _) hw rfl hl.1 rfl (Nat.le_of_ble_eq_true rfl) dX0_fits_29 (fun r_6 u_ H locs h hw => ?_)
    have hw : Hw s z A ([] : va_W) H locs := hw
    try dsimp only at h
    refine lv_if_lt (tgt := 39) hx hb dX0_fits_32 (by decide) (fun c_7 => ?_) (fun c_7 => ?_)
    · replace h := iT c_7 h
      refine lv_iconst (v := 0) hx hb dX0_fits_39 (by decide) ?_
      exact rt_z M () hw bz0 h dX0_fits_40
    · replace h := iF c_7 h
      refine lv_iconst (v := 1) hx hb dX0_fits_35 (by decide) ?_
      refine lv_goto (tgt := 40) hx hb dX0_fits_36 (by decide) ?_
      exact rt_z M () hw bz1 h dX0_fits_40
  replace h := iF c_5 h
  refine lv_lookup (off := 58) (tgt := 59) hx hb dX0_fits_1 (by decide) ((lv_osw c_2 (by decide)).trans <| (lv_osw c_5 (by decide)).trans <| rfl) (by decide) ?_
  refine lv_iload_n hx hb dX0_fits_59 rfl (lv_at hl 0 rfl) ?_
  refine lv_iload_n hx hb dX0_fits_60 rfl (lv_at hl 1 rfl) ?_
  refine lv_icmp_ne (tgt := 68) hx hb dX0_fits_61 (by decide) (fun c_8 => ?_) (fun c_8 => ?_)
  · replace h := iF c_8 h
    refine lv_iconst (v := 0) hx hb dX0_fits_68 (by decide) ?_
    exact rt_z M () hw bz0 h dX0_fits_69
  · replace h := iT c_8 h
    refine lv_iconst (v := 1) hx hb dX0_fits_64 (by decide) ?_
    refine lv_goto (tgt := 69) hx hb dX0_fits_65 (by decide) ?_
    exact rt_z M () hw bz1 h dX0_fits_69
abbrev rmX0_firstBadPlace : Room := { frames := 6, cells := 0, slots := 0, locals := 127 }
set_option maxHeartbeats 4000000 in
set_option maxRecDepth 100000 in
theorem kX0_firstBadPlace_43 {p : Program} {l : Launch} {e : Env} {s : State} {m : MethodId} {args : Array Value} {below : List Frame} {meth : Method} {c : Code} {z : KT} {A : Nat → Prop} {qL : Nat → Nat} {K4 : Int32 → Prop} {L : RT} {Q : Int32 → Prop} (M : Mc p s m args meth c cX0_firstBadPlace 5 (some .int) RX0 z A) (hK4 : ∀ (x2 : Int32) (H : Heap) (locs : List Loc) (ls : Array Slot), Hw s z A (lW z qL L) H locs → lv_has ls 5 [(0, .ref (qL 0)), (2, .int x2)] → K4 x2 → W p l e rmX0_firstBadPlace s m args below meth c H locs 0 0 (MQ below (va_Qi (fun (r : Int32) (_ : Unit) => Q r) (fun u t => cAt z A ((fun _ : Unit => (lW z qL L)) u) t) A) args s 0 0 A) (F0 m 4 ls [])) : ∀ (n : Nat) (x1 : Int32) (x2 : Int32) (s3 : Nat) (x4 : Int32) (H : Heap) (locs : List Loc) (ls : Array Slot), Hw s z A (lW z qL L) H locs → lv_has ls 5 [(0, .ref (qL 0)), (1, .int x1), (2, .int x2), (3, .ref (zK z s3)), (4, .int x4)] → bX0_firstBadPlace_43 K4 L Q n x1 x2 s3 x4 → W p l e rmX0_firstBadPlace s m args below meth c H locs 0 0 (MQ below (va_Qi (fun (r : Int32) (_ : Unit) => Q r) (fun u t => cAt z A ((fun _ : Unit => (lW z qL L)) u) t) A) args s 0 0 A) (F0 m 43 ls []) := by
  obtain ⟨hx, hb, -, -, hown, hts, -, -, -, hN, hsr, -⟩ := id M
  intro n
  induction n with
  | zero => intro x1 x2 s3 x4 H locs ls hw hl h; exact False.elim h
  | succ n ih =>
    intro x1 x2 s3 x4 H locs ls hw hl h
    rw [bX0_firstBadPlace_43] at h
    refine lv_iload hx hb dX0_firstBadPlace_43 (lv_at hl 4 rfl) ?_
    refine lv_iload_n hx hb dX0_firstBadPlace_45 rfl (lv_at hl 1 rfl) ?_
    refine lv_icmp_ge (tgt := 92) hx hb dX0_firstBadPlace_46 (by decide) (fun c_1 => ?_) (fun c_1 => ?_)
    · replace h := iT c_1 h
      refine lv_iload_n hx hb dX0_firstBadPlace_92 rfl (lv_at hl 2 rfl) ?_
      refine lv_iload_n hx hb dX0_firstBadPlace_93 rfl (lv_at hl 1 rfl) ?_
      refine lv_iadd hx hb dX0_firstBadPlace_94 ?_
      refine lv_topi (fun x2_2 ex2_2 => ?_)
      replace h := h x2_2 ex2_2
      refine lv_istore_n (lv' := [(2, .int x2_2), (0, .ref (qL 0)), (1, .int x1), (3, .ref (zK z s3)), (4, .int x4)]) hx hb dX0_firstBadPlace_95 rfl hl (by decide) rfl (fun ls hl => ?_)
      refine lv_goto (tgt := 4) hx hb dX0_firstBadPlace_96 (by decide) ?_
      exact hK4 x2_2 H locs ls hw (lv_sub hl [1, 0] rfl) h
    · replace h := iF c_1 h
      refine lv_iload_n hx hb dX0_firstBadPlace_49 rfl (lv_at hl 2 rfl) ?_
      refine lv_iload hx hb dX0_firstBadPlace_50 (lv_at hl 4 rfl) ?_
      refine lv_iadd hx hb dX0_firstBadPlace_52 ?_
      refine lv_aload_n hx hb dX0_firstBadPlace_53 rfl (lv_at hl 0 rfl) ?_
      refine gt_f (v := .int (L 30 1)) M inlX0 hw 0 rfl rfl 1 (by decide) fl_X0_15 rfl rfl dX0_firstBadPlace_54 ?_
      refine lv_icmp_ge (tgt := 81) hx hb dX0_firstBadPlace_57 (by decide) (fun c_3 => ?_) (fun c_3 => ?_)
      · replace h := iT c_3 h
        refine lv_iload_n hx hb dX0_firstBadPlace_81 rfl (lv_at hl 2 rfl) ?_
        refine lv_iload hx hb dX0_firstBadPlace_82 (lv_at hl 4 rfl) ?_
        refine lv_iadd hx hb dX0_firstBadPlace_84 ?_
        exact rt_i M () hw h dX0_firstBadPlace_85
      · replace h := iF c_3 h
        refine lv_aload_n hx hb dX0_firstBadPlace_60 rfl (lv_at hl 0 rfl) ?_
        refine gt_f (v := .ref (qL 1)) M inlX0 hw 0 rfl rfl 0 (by decide) fl_X0_9 rfl rfl dX0_firstBadPlace_61 ?_
        refine lv_iload_n hx hb dX0_firstBadPlace_64 rfl (lv_at hl 2 rfl) ?_
        refine lv_iload hx hb dX0_firstBadPlace_65 (lv_at hl 4 rfl) ?_
        refine lv_iadd hx hb dX0_firstBadPlace_67 ?_
        obtain ⟨a_4, h⟩ := h
        refine ld_i M hw 1 rfl a_4 dX0_firstBadPlace_68 ?_
        refine lv_aload_n hx hb dX0_firstBadPlace_69 rfl (lv_at hl 3 rfl) ?_
        refine lv_iload hx hb dX0_firstBadPlace_70 (lv_at hl 4 rfl) ?_
        obtain ⟨a_5, h⟩ := h
        obtain ⟨a_7, h⟩ := h
        refine fr_Ti M a_5 (m_J0_charAt l z s3 a_5 x4 a_7.1 a_7.2) (cwV 1 hts (gdV cd_J0_charAt_5068e ml_X0_46 im_J0_charAt_5068e se_J0_charAt_5068e in_J0) rfl rfl rfl hdV_J0_charAt ⟨(Nat.le_of_ble_eq_true rfl), (Nat.le_of_ble_eq_true rfl)⟩) hw rfl hl.1 rfl (Nat.le_of_ble_eq_true rfl) dX0_firstBadPlace_72 (fun r_6 H locs er_6 hw => ?_)
        replace h := h r_6 er_6
        refine fr_Si (wN := fun _ : Unit => (lW z qL L)) M (m_X0_fits l z (L 0 ((x2 + x4)).toNatClampNeg) r_6 _ h) (va_cwS 2 hts (gdS cd_X0_fits ml_X0_50 st_X0_fits in_X0) rfl rfl rfl hdS_X0_fits ⟨(Nat.le_of_ble_eq_true rfl), (Nat.le_of_ble_eq_true rfl)⟩) (Cut.none _) (Prm.none _) hw rfl hl.1 rfl (Nat.le_of_ble_eq_true rfl) dX0_firstBadPlace_75 (fun r_8 u_ H locs h hw => ?_)
        have hw : Hw s z A (lW z qL L) H locs := hw
        try dsimp only at h
        refine lv_if_ne (tgt := 86) hx hb dX0_firstBadPlace_78 (by decide) (fun c_9 => ?_) (fun c_9 => ?_)
        · replace h := iF c_9 h
          obtain ⟨x4_10, ex4_10⟩ : ∃ y : Int32, y = (x4 + (1 : Int32)) := ⟨_, rfl⟩
          replace h := h x4_10 ex4_10
          refine lv_iinc (v := x4_10) (lv' := [(4, .int x4_10), (0, .ref (qL 0)), (1, .int x1), (2, .int x2), (3, .ref (zK z s3))]) hx hb dX0_firstBadPlace_86 hl (k := 4) rfl (by rw [ex4_10]; rfl) (by decide) rfl (fun ls hl => ?_)
          refine lv_goto (tgt := 43) hx hb dX0_firstBadPlace_89 (by decide) ?_
          exact ih x1 x2 s3 x4_10 H locs ls hw (lv_sub hl [1, 2, 3, 4, 0] rfl) h
        · replace h := iT c_9 h
          refine lv_iload_n hx hb dX0_firstBadPlace_81 rfl (lv_at hl 2 rfl) ?_
          refine lv_iload hx hb dX0_firstBadPlace_82 (lv_at hl 4 rfl) ?_
          refine lv_iadd hx hb dX0_firstBadPlace_84 ?_
          exact rt_i M () hw h dX0_firstBadPlace_85
set_option maxHeartbeats 4000000 in
set_option maxRecDepth 100000 in
theorem kX0_firstBadPlace_4 {p : Program} {l : Launch} {e : Env} {s : State} {m : MethodId} {args : Array Value} {below : List Frame} {meth : Method} {c : Code} {z : KT} {A : Nat → Prop} {qL : Nat → Nat} {L : RT} {Q : Int32 → Prop} (M : Mc p s m args meth c cX0_firstBadPlace 5 (some .int) RX0 z A) : ∀ (n : Nat) (x2 : Int32) (H : Heap) (locs : List Loc) (ls : Array Slot), Hw s z A (lW z qL L) H locs → lv_has ls 5 [(0, .ref (qL 0)), (2, .int x2)] → bX0_firstBadPlace_4 L Q n x2 → W p l e rmX0_firstBadPlace s m args below meth c H locs 0 0 (MQ below (va_Qi (fun (r : Int32) (_ : Unit) => Q r) (fun u t => cAt z A ((fun _ : Unit => (lW z qL L)) u) t) A) args s 0 0 A) (F0 m 4 ls []) := by
  obtain ⟨hx, hb, -, -, hown, hts, -, -, -, hN, hsr, -⟩ := id M
  intro n
  induction n with
  | zero => intro x2 H locs ls hw hl h; exact False.elim h
  | succ n ih =>
    intro x2 H locs ls hw hl h
    rw [bX0_firstBadPlace_4] at h
    refine lv_iload_n hx hb dX0_firstBadPlace_4 rfl (lv_at hl 1 rfl) ?_
    refine lv_aload_n hx hb dX0_firstBadPlace_5 rfl (lv_at hl 0 rfl) ?_
    refine gt_f (v := .int (L 30 1)) M inlX0 hw 0 rfl rfl 1 (by decide) fl_X0_15 rfl rfl dX0_firstBadPlace_6 ?_
    refine lv_icmp_ge (tgt := 99) hx hb dX0_firstBadPlace_9 (by decide) (fun c_1 => ?_) (fun c_1 => ?_)
    · replace h := iT c_1 h
      refine lv_aload_n hx hb dX0_firstBadPlace_99 rfl (lv_at hl 0 rfl) ?_
      refine gt_f (v := .int (L 30 1)) M inlX0 hw 0 rfl rfl 1 (by decide) fl_X0_15 rfl rfl dX0_firstBadPlace_100 ?_
      refine lv_if_ne (tgt := 110) hx hb dX0_firstBadPlace_103 (by decide) (fun c_2 => ?_) (fun c_2 => ?_)
      · replace h := iF c_2 h
        refine lv_bipush (v := -9) hx hb dX0_firstBadPlace_110 (by decide) ?_
        exact rt_i M () hw h dX0_firstBadPlace_112
      · replace h := iT c_2 h
        refine lv_iconst (v := 0) hx hb dX0_firstBadPlace_106 (by decide) ?_
        refine lv_goto (tgt := 112) hx hb dX0_firstBadPlace_107 (by decide) ?_
        exact rt_i M () hw h dX0_firstBadPlace_112
    · replace h := iF c_1 h
      refine lv_aload_n hx hb dX0_firstBadPlace_12 rfl (lv_at hl 0 rfl) ?_
      refine gt_f (v := .ref (qL 1)) M inlX0 hw 0 rfl rfl 0 (by decide) fl_X0_9 rfl rfl dX0_firstBadPlace_13 ?_
      refine lv_iload_n hx hb dX0_firstBadPlace_16 rfl (lv_at hl 1 rfl) ?_
      obtain ⟨a_3, h⟩ := h
      refine ld_i M hw 1 rfl a_3 dX0_firstBadPlace_17 ?_
      refine fr_Sr (wN := fun _ : Unit => (lW z qL L)) M (m_X0_shapeOf l z (L 0 (x2).toNatClampNeg) _ h) (va_cwS 1 hts (gdS cd_X0_shapeOf ml_X0_23 st_X0_shapeOf in_X0) rfl rfl rfl hdS_X0_shapeOf ⟨(Nat.le_of_ble_eq_true rfl), (Nat.le_of_ble_eq_true rfl)⟩) (Cut.none _) (Prm.none _) hw rfl hl.1 rfl (Nat.le_of_ble_eq_true rfl) dX0_firstBadPlace_18 (fun ra_ u_ H locs h hw => ?_)
      obtain ⟨r_4, rfl, h⟩ := h
      have hw : Hw s z A (lW z qL L) H locs := hw
      try dsimp only at h
      refine lv_astore_n (lv' := [(3, .ref (zK z r_4)), (0, .ref (qL 0)), (2, .int x2)]) hx hb dX0_firstBadPlace_21 rfl hl (by decide) rfl (fun ls hl => ?_)
      refine lv_iconst (v := 1) hx hb dX0_firstBadPlace_22 (by decide) ?_
      refine lv_aload_n hx hb dX0_firstBadPlace_23 rfl (lv_at hl 0 rfl) ?_
      obtain ⟨a_5, h⟩ := h
      refine fr_Ti M a_5 (m_J0_length l z r_4 a_5) (cwV 0 hts (gdV cd_J0_length_8abf5 ml_X0_27 im_J0_length_8abf5 se_J0_length_8abf5 in_J0) rfl rfl rfl hdV_J0_length ⟨(Nat.le_of_ble_eq_true rfl), (Nat.le_of_ble_eq_true rfl)⟩) hw rfl hl.1 rfl (Nat.le_of_ble_eq_true rfl) dX0_firstBadPlace_24 (fun r_6 H locs er_6 hw => ?_)
      replace h := h r_6 er_6
      refine mx_i M ml_X0_32 hl.1 (Nat.le_of_ble_eq_true rfl) (Nat.le_of_ble_eq_true rfl) dX0_firstBadPlace_27 ?_
      refine lv_topi (fun x1_7 ex1_7 => ?_)
      replace h := h x1_7 ex1_7
      refine lv_istore_n (lv' := [(1, .int x1_7), (3, .ref (zK z r_4)), (0, .ref (qL 0)), (2, .int x2)]) hx hb dX0_firstBadPlace_30 rfl hl (by decide) rfl (fun ls hl => ?_)
      refine lv_aload_n hx hb dX0_firstBadPlace_31 rfl (lv_at hl 1 rfl) ?_
      obtain ⟨a_8, h⟩ := h
      refine fr_Ti M a_8 (m_J0_isEmpty l z r_4 a_8) (cwV 0 hts (gdV cd_J0_isEmpty_aae02 ml_X0_42 im_J0_isEmpty_aae02 se_J0_isEmpty_aae02 in_J0) rfl rfl rfl hdV_J0_isEmpty ⟨(Nat.le_of_ble_eq_true rfl), (Nat.le_of_ble_eq_true rfl)⟩) hw rfl hl.1 rfl (Nat.le_of_ble_eq_true rfl) dX0_firstBadPlace_32 (fun r_9 H locs er_9 hw => ?_)
      replace h := h r_9 er_9
      refine lv_if_eq (tgt := 40) hx hb dX0_firstBadPlace_35 (by decide) (fun c_10 => ?_) (fun c_10 => ?_)
      · replace h := iT c_10 h
        refine lv_iconst (v := 1) hx hb dX0_firstBadPlace_40 (by decide) ?_
        refine lv_istore (lv' := [(4, .int (1 : Int32)), (1, .int x1_7), (3, .ref (zK z r_4)), (0, .ref (qL 0)), (2, .int x2)]) hx hb dX0_firstBadPlace_41 hl (by decide) rfl (fun ls hl => ?_)
        obtain ⟨n0, h⟩ := h; exact kX0_firstBadPlace_43 M ih n0 x1_7 x2 r_4 (1 : Int32) H locs ls hw (lv_sub hl [3, 1, 4, 2, 0] rfl) h
      · replace h := iF c_10 h
        refine lv_iload_n hx hb dX0_firstBadPlace_38 rfl (lv_at hl 3 rfl) ?_
        exact rt_i M () hw h dX0_firstBadPlace_39
set_option maxHeartbeats 4000000 in
set_option maxRecDepth 100000 in
theorem m_X0_firstBadPlace (l : Launch) (z : KT) (qL : Nat → Nat) (L : RT) (Q : Int32 → Prop) (h : wX0_firstBadPlace L Q) : CI l yX0_firstBadPlace cX0_firstBadPlace 5 .int rmX0_firstBadPlace z [.ref (qL 0)] (lW z qL L) (fun _ : Unit => (lW z qL L)) (fun (r : Int32) (_ : Unit) => Q r) := by
  refine CI.of rfl (Nat.le_of_ble_eq_true rfl) ?_
  intro p e s m below meth c A ls M hw hl
  have M : Mc p s m _ meth c cX0_firstBadPlace 5 (some .int) RX0 z A := M
  obtain ⟨hx, hb, -, -, hown, hts, -, -, -, hN, hsr, -⟩ := id M
  have hl : lv_has ls 5 [(0, .ref (qL 0))] := hl
  unfold wX0_firstBadPlace at h
  generalize s.heap = H at hw ⊢
  generalize ([] : List Loc) = locs at hw ⊢
  refine lv_iconst (v := 1) hx hb dX0_firstBadPlace_0 (by decide) ?_
  refine lv_istore_n (lv' := [(1, .int (1 : Int32)), (0, .ref (qL 0))]) hx hb dX0_firstBadPlace_1 rfl hl (by decide) rfl (fun ls hl => ?_)
  refine lv_iconst (v := 0) hx hb dX0_firstBadPlace_2 (by decide) ?_
  refine lv_istore_n (lv' := [(2, .int (0 : Int32)), (1, .int (1 : Int32)), (0, .ref (qL 0))]) hx hb dX0_firstBadPlace_3 rfl hl (by decide) rfl (fun ls hl => ?_)
  obtain ⟨n0, h⟩ := h; exact kX0_firstBadPlace_4 M n0 (0 : Int32) H locs ls hw (lv_sub hl [2, 0] rfl) h
abbrev rmX0_digit : Room := { frames := 0, cells := 0, slots := 0, locals := 0 }
set_option maxHeartbeats 4000000 in
set_option maxRecDepth 100000 in
theorem m_X0_digit (l : Launch) (z : KT) (qL : Nat → Nat) (L : RT) (x1 : Int32) (Q : Int32 → Prop) (h : wX0_digit L x1 Q) : CI l yX0_digit cX0_digit 2 .int rmX0_digit z [.ref (qL 0), .int x1] (lW z qL L) (fun _ : Unit => (lW z qL L)) (fun (r : Int32) (_ : Unit) => Q r) := by
  refine CI.of rfl (Nat.le_of_ble_eq_true rfl) ?_
  intro p e s m below meth c A ls M hw hl
  have M : Mc p s m _ meth c cX0_digit 2 (some .int) RX0 z A := M
  obtain ⟨hx, hb, -, -, hown, hts, -, -, -, hN, hsr, -⟩ := id M
  have hl : lv_has ls 2 [(0, .ref (qL 0)), (1, .int x1)] := hl
  unfold wX0_digit at h
  generalize s.heap = H at hw ⊢
  generalize ([] : List Loc) = locs at hw ⊢
  refine lv_aload_n hx hb dX0_digit_0 rfl (lv_at hl 0 rfl) ?_
  refine gt_f (v := .ref (qL 1)) M inlX0 hw 0 rfl rfl 0 (by decide) fl_X0_9 rfl rfl dX0_digit_1 ?_
  refine lv_iload_n hx hb dX0_digit_4 rfl (lv_at hl 1 rfl) ?_
  obtain ⟨a_1, h⟩ := h
  refine ld_i M hw 1 rfl a_1 dX0_digit_5 ?_
  refine lv_bipush (v := 48) hx hb dX0_digit_6 (by decide) ?_
  refine lv_isub hx hb dX0_digit_8 ?_
  exact rt_i M () hw h dX0_digit_9
abbrev rmX0_number : Room := { frames := 1, cells := 0, slots := 0, locals := 21 }
set_option maxHeartbeats 4000000 in
set_option maxRecDepth 100000 in
theorem m_X0_number (l : Launch) (z : KT) (qL : Nat → Nat) (L : RT) (x1 : Int32) (Q : Int32 → Prop) (h : wX0_number L x1 Q) : CI l yX0_number cX0_number 2 .int rmX0_number z [.ref (qL 0), .int x1] (lW z qL L) (fun _ : Unit => (lW z qL L)) (fun (r : Int32) (_ : Unit) => Q r) := by
  refine CI.of rfl (Nat.le_of_ble_eq_true rfl) ?_
  intro p e s m below meth c A ls M hw hl
  have M : Mc p s m _ meth c cX0_number 2 (some .int) RX0 z A := M
  obtain ⟨hx, hb, -, -, hown, hts, -, -, -, hN, hsr, -⟩ := id M
  have hl : lv_has ls 2 [(0, .ref (qL 0)), (1, .int x1)] := hl
  unfold wX0_number at h
  generalize s.heap = H at hw ⊢
  generalize ([] : List Loc) = locs at hw ⊢
  refine lv_bipush (v := 10) hx hb dX0_number_0 (by decide) ?_
  refine lv_aload_n hx hb dX0_number_2 rfl (lv_at hl 0 rfl) ?_
  refine lv_iload_n hx hb dX0_number_3 rfl (lv_at hl 1 rfl) ?_
  refine fr_Vi (wN := fun _ : Unit => (lW z qL L)) M (m_X0_digit l z qL L x1 _ h) (cwV 1 hts (gdV cd_X0_digit ml_X0_74 im_X0_digit se_X0_digit in_X0) rfl rfl rfl hdV_X0_digit ⟨(Nat.le_of_ble_eq_true rfl), (Nat.le_of_ble_eq_true rfl)⟩) (Cut.self _) (Prm.self _ 2 (fun _ => rfl)) 0 rfl rfl rfl hw rfl hl.1 rfl (Nat.le_of_ble_eq_true rfl) dX0_number_4 (fun r_1 u_ H locs h hw => ?_)
  have hw : Hw s z A (lW z qL L) H locs := hw
  try dsimp only at h
  refine lv_imul hx hb dX0_number_7 ?_
  refine lv_aload_n hx hb dX0_number_8 rfl (lv_at hl 0 rfl) ?_
  refine lv_iload_n hx hb dX0_number_9 rfl (lv_at hl 1 rfl) ?_
  refine lv_iconst (v := 1) hx hb dX0_number_10 (by decide) ?_
  refine lv_iadd hx hb dX0_number_11 ?_
  refine fr_Vi (wN := fun _ : Unit => (lW z qL L)) M (m_X0_digit l z qL L (x1 + (1 : Int32)) _ h) (cwV 1 hts (gdV cd_X0_digit ml_X0_74 im_X0_digit se_X0_digit in_X0) rfl rfl rfl hdV_X0_digit ⟨(Nat.le_of_ble_eq_true rfl), (Nat.le_of_ble_eq_true rfl)⟩) (Cut.self _) (Prm.self _ 2 (fun _ => rfl)) 0 rfl rfl rfl hw rfl hl.1 rfl (Nat.le_of_ble_eq_true rfl) dX0_number_12 (fun r_2 u_ H locs h hw => ?_)
  have hw : Hw s z A (lW z qL L) H locs := hw
  try dsimp only at h
  refine lv_iadd hx hb dX0_number_15 ?_
  exact rt_i M () hw h dX0_number_16
abbrev rmX0_tellThing : Room := { frames := 1, cells := 0, slots := 0, locals := 23 }
set_option maxHeartbeats 4000000 in
set_option maxRecDepth 100000 in
theorem m_X0_tellThing (l : Launch) (z : KT) (qP : Nat → Nat) (P : RT) (x1 : Int32) (x2 : Int32) (x3 : Int32) (Q : Int32 → RT → Prop) (h : wX0_tellThing P x1 x2 x3 Q) : CI l yX0_tellThing cX0_tellThing 4 .boolean rmX0_tellThing z [.ref (qP 0), .int x1, .int x2, .int x3] (pW z qP P) (fun u : RT => (pW z qP u)) (fun (r : Int32) (u : RT) => Q r u) := by
  refine CI.of rfl (Nat.le_of_ble_eq_true rfl) ?_
  intro p e s m below meth c A ls M hw hl
  have M : Mc p s m _ meth c cX0_tellThing 4 (some .boolean) RX0 z A := M
  obtain ⟨hx, hb, -, -, hown, hts, -, -, -, hN, hsr, -⟩ := id M
  have hl : lv_has ls 4 [(0, .ref (qP 0)), (1, .int x1), (2, .int x2), (3, .int x3)] := hl
  unfold wX0_tellThing at h
  generalize s.heap = H at hw ⊢
  generalize ([] : List Loc) = locs at hw ⊢
  refine lv_iload_n hx hb dX0_tellThing_0 rfl (lv_at hl 3 rfl) ?_
  refine lv_bipush (v := 60) hx hb dX0_tellThing_1 (by decide) ?_
  refine lv_icmp_gt (tgt := 15) hx hb dX0_tellThing_3 (by decide) (fun c_1 => ?_) (fun c_1 => ?_)
  · replace h := iT c_1 h
    refine lv_iconst (v := 0) hx hb dX0_tellThing_15 (by decide) ?_
    exact rt_z M P hw bz0 h dX0_tellThing_16
  · replace h := iF c_1 h
    refine lv_aload_n hx hb dX0_tellThing_6 rfl (lv_at hl 0 rfl) ?_
    refine gt_f (v := .int (P 30 7)) M inlX3 hw 0 rfl rfl 7 (by decide) fl_X0_100 rfl rfl dX0_tellThing_7 ?_
    refine lv_bipush (v := 8) hx hb dX0_tellThing_10 (by decide) ?_
    refine lv_icmp_lt (tgt := 17) hx hb dX0_tellThing_12 (by decide) (fun c_2 => ?_) (fun c_2 => ?_)
    · replace h := iT c_2 h
      refine lv_aload_n hx hb dX0_tellThing_17 rfl (lv_at hl 0 rfl) ?_
      refine lv_iload_n hx hb dX0_tellThing_18 rfl (lv_at hl 1 rfl) ?_
      refine lv_iload_n hx hb dX0_tellThing_19 rfl (lv_at hl 2 rfl) ?_
      refine lv_iload_n hx hb dX0_tellThing_20 rfl (lv_at hl 3 rfl) ?_
      refine fr_Vv (wN := fun u : RT => (pW z qP u)) M (m_X3_addThing l z qP P x1 x2 x3 _ h) (cwV 3 hts (gdV cd_X3_addThing ml_X0_105 im_X3_addThing se_X3_addThing in_X3) rfl rfl rfl hdV_X3_addThing ⟨(Nat.le_of_ble_eq_true rfl), (Nat.le_of_ble_eq_true rfl)⟩) (Cut.self _) (Prm.self _ 8 (fun _ => rfl)) 0 rfl rfl rfl hw rfl hl.1 rfl (Nat.le_of_ble_eq_true rfl) dX0_tellThing_21 (fun u_ H locs h hw => ?_)
      obtain ⟨P_3, rfl⟩ : ∃ z9 : RT, z9 = u_ := ⟨_, rfl⟩
      have hw : Hw s z A (pW z qP P_3) H locs := hw
      try dsimp only at h
      refine lv_iconst (v := 1) hx hb dX0_tellThing_24 (by decide) ?_
      exact rt_z M P_3 hw bz1 h dX0_tellThing_25
    · replace h := iF c_2 h
      refine lv_iconst (v := 0) hx hb dX0_tellThing_15 (by decide) ?_
      exact rt_z M P hw bz0 h dX0_tellThing_16
abbrev rmX0_tellRope : Room := { frames := 2, cells := 0, slots := 0, locals := 43 }
set_option maxHeartbeats 4000000 in
set_option maxRecDepth 100000 in
theorem m_X0_tellRope (l : Launch) (z : KT) (qP : Nat → Nat) (P : RT) (x1 : Int32) (x2 : Int32) (Q : Int32 → RT → Prop) (h : wX0_tellRope P x1 x2 Q) : CI l yX0_tellRope cX0_tellRope 3 .boolean rmX0_tellRope z [.ref (qP 0), .int x1, .int x2] (pW z qP P) (fun u : RT => (pW z qP u)) (fun (r : Int32) (u : RT) => Q r u) := by
  refine CI.of rfl (Nat.le_of_ble_eq_true rfl) ?_
  intro p e s m below meth c A ls M hw hl
  have M : Mc p s m _ meth c cX0_tellRope 3 (some .boolean) RX0 z A := M
  obtain ⟨hx, hb, -, -, hown, hts, -, -, -, hN, hsr, -⟩ := id M
  have hl : lv_has ls 3 [(0, .ref (qP 0)), (1, .int x1), (2, .int x2)] := hl
  unfold wX0_tellRope at h
  generalize s.heap = H at hw ⊢
  generalize ([] : List Loc) = locs at hw ⊢
  refine lv_aload_n hx hb dX0_tellRope_0 rfl (lv_at hl 0 rfl) ?_
  refine lv_iload_n hx hb dX0_tellRope_1 rfl (lv_at hl 1 rfl) ?_
  refine lv_iload_n hx hb dX0_tellRope_2 rfl (lv_at hl 2 rfl) ?_
  refine fr_Vi (wN := fun _ : Unit => (pW z qP P)) M (m_X3_hasPair l z qP P x1 x2 _ h) (cwV 2 hts (gdV cd_X3_hasPair ml_X0_109 im_X3_hasPair se_X3_hasPair in_X3) rfl rfl rfl hdV_X3_hasPair ⟨(Nat.le_of_ble_eq_true rfl), (Nat.le_of_ble_eq_true rfl)⟩) (Cut.self _) (Prm.self _ 8 (fun _ => rfl)) 0 rfl rfl rfl hw rfl hl.1 rfl (Nat.le_of_ble_eq_true rfl) dX0_tellRope_3 (fun r_1 u_ H locs h hw => ?_)
  have hw : Hw s z A (pW z qP P) H locs := hw
  try dsimp only at h
  refine lv_if_eq (tgt := 18) hx hb dX0_tellRope_6 (by decide) (fun c_2 => ?_) (fun c_2 => ?_)
  · replace h := iT c_2 h
    refine lv_iconst (v := 0) hx hb dX0_tellRope_18 (by decide) ?_
    exact rt_z M P hw bz0 h dX0_tellRope_19
  · replace h := iF c_2 h
    refine lv_aload_n hx hb dX0_tellRope_9 rfl (lv_at hl 0 rfl) ?_
    refine gt_f (v := .int (P 30 8)) M inlX3 hw 0 rfl rfl 8 (by decide) fl_X0_113 rfl rfl dX0_tellRope_10 ?_
    refine lv_bipush (v := 6) hx hb dX0_tellRope_13 (by decide) ?_
    refine lv_icmp_lt (tgt := 20) hx hb dX0_tellRope_15 (by decide) (fun c_3 => ?_) (fun c_3 => ?_)
    · replace h := iT c_3 h
      refine lv_aload_n hx hb dX0_tellRope_20 rfl (lv_at hl 0 rfl) ?_
      refine lv_iload_n hx hb dX0_tellRope_21 rfl (lv_at hl 1 rfl) ?_
      refine lv_iload_n hx hb dX0_tellRope_22 rfl (lv_at hl 2 rfl) ?_
      refine fr_Vi (wN := fun u : RT => (pW z qP u)) M (m_X3_addRope l z qP P x1 x2 _ h) (cwV 2 hts (gdV cd_X3_addRope ml_X0_116 im_X3_addRope se_X3_addRope in_X3) rfl rfl rfl hdV_X3_addRope ⟨(Nat.le_of_ble_eq_true rfl), (Nat.le_of_ble_eq_true rfl)⟩) (Cut.self _) (Prm.self _ 8 (fun _ => rfl)) 0 rfl rfl rfl hw rfl hl.1 rfl (Nat.le_of_ble_eq_true rfl) dX0_tellRope_23 (fun r_5 u_ H locs h hw => ?_)
      obtain ⟨P_4, rfl⟩ : ∃ z9 : RT, z9 = u_ := ⟨_, rfl⟩
      have hw : Hw s z A (pW z qP P_4) H locs := hw
      try dsimp only at h
      refine lv_pop hx hb dX0_tellRope_26 rfl ?_
      refine lv_iconst (v := 1) hx hb dX0_tellRope_27 (by decide) ?_
      exact rt_z M P_4 hw bz1 h dX0_tellRope_28
    · replace h := iF c_3 h
      refine lv_iconst (v := 0) hx hb dX0_tellRope_18 (by decide) ?_
      exact rt_z M P hw bz0 h dX0_tellRope_19
abbrev rmX0_tellCut : Room := { frames := 1, cells := 0, slots := 0, locals := 22 }
set_option maxHeartbeats 4000000 in
set_option maxRecDepth 100000 in
theorem m_X0_tellCut (l : Launch) (z : KT) (qP : Nat → Nat) (P : RT) (x1 : Int32) (Q : Int32 → RT → Prop) (h : wX0_tellCut P x1 Q) : CI l yX0_tellCut cX0_tellCut 2 .boolean rmX0_tellCut z [.ref (qP 0), .int x1] (pW z qP P) (fun u : RT => (pW z qP u)) (fun (r : Int32) (u : RT) => Q r u) := by
  refine CI.of rfl (Nat.le_of_ble_eq_true rfl) ?_
  intro p e s m below meth c A ls M hw hl
  have M : Mc p s m _ meth c cX0_tellCut 2 (some .boolean) RX0 z A := M
  obtain ⟨hx, hb, -, -, hown, hts, -, -, -, hN, hsr, -⟩ := id M
  have hl : lv_has ls 2 [(0, .ref (qP 0)), (1, .int x1)] := hl
  unfold wX0_tellCut at h
  generalize s.heap = H at hw ⊢
  generalize ([] : List Loc) = locs at hw ⊢
  refine lv_aload_n hx hb dX0_tellCut_0 rfl (lv_at hl 0 rfl) ?_
  refine lv_iload_n hx hb dX0_tellCut_1 rfl (lv_at hl 1 rfl) ?_
  refine fr_Vi (wN := fun _ : Unit => (pW z qP P)) M (m_X3_hasRope l z qP P x1 _ h) (cwV 1 hts (gdV cd_X3_hasRope ml_X0_119 im_X3_hasRope se_X3_hasRope in_X3) rfl rfl rfl hdV_X3_hasRope ⟨(Nat.le_of_ble_eq_true rfl), (Nat.le_of_ble_eq_true rfl)⟩) (Cut.self _) (Prm.self _ 8 (fun _ => rfl)) 0 rfl rfl rfl hw rfl hl.1 rfl (Nat.le_of_ble_eq_true rfl) dX0_tellCut_2 (fun r_1 u_ H locs h hw => ?_)
  have hw : Hw s z A (pW z qP P) H locs := hw
  try dsimp only at h
  refine lv_if_ne (tgt := 10) hx hb dX0_tellCut_5 (by decide) (fun c_2 => ?_) (fun c_2 => ?_)
  · replace h := iF c_2 h
    refine lv_aload_n hx hb dX0_tellCut_10 rfl (lv_at hl 0 rfl) ?_
    refine lv_iload_n hx hb dX0_tellCut_11 rfl (lv_at hl 1 rfl) ?_
    refine fr_Vi (wN := fun u : RT => (pW z qP u)) M (m_X3_dropRope l z qP P x1 _ h) (cwV 1 hts (gdV cd_X3_dropRope ml_X0_123 im_X3_dropRope se_X3_dropRope in_X3) rfl rfl rfl hdV_X3_dropRope ⟨(Nat.le_of_ble_eq_true rfl), (Nat.le_of_ble_eq_true rfl)⟩) (Cut.self _) (Prm.self _ 8 (fun _ => rfl)) 0 rfl rfl rfl hw rfl hl.1 rfl (Nat.le_of_ble_eq_true rfl) dX0_tellCut_12 (fun r_4 u_ H locs h hw => ?_)
    obtain ⟨P_3, rfl⟩ : ∃ z9 : RT, z9 = u_ := ⟨_, rfl⟩
    have hw : Hw s z A (pW z qP P_3) H locs := hw
    try dsimp only at h
    refine lv_pop hx hb dX0_tellCut_15 rfl ?_
    refine lv_iconst (v := 1) hx hb dX0_tellCut_16 (by decide) ?_
    exact rt_z M P_3 hw bz1 h dX0_tellCut_17
  · replace h := iT c_2 h
    refine lv_iconst (v := 0) hx hb dX0_tellCut_8 (by decide) ?_
    exact rt_z M P hw bz0 h dX0_tellCut_9
abbrev rmX0_tellStones : Room := { frames := 1, cells := 0, slots := 0, locals := 21 }
set_option maxHeartbeats 4000000 in
set_option maxRecDepth 100000 in
theorem m_X0_tellStones (l : Launch) (z : KT) (qP : Nat → Nat) (P : RT) (x1 : Int32) (x2 : Int32) (Q : Int32 → RT → Prop) (h : wX0_tellStones P x1 x2 Q) : CI l yX0_tellStones cX0_tellStones 3 .boolean rmX0_tellStones z [.ref (qP 0), .int x1, .int x2] (pW z qP P) (fun u : RT => (pW z qP u)) (fun (r : Int32) (u : RT) => Q r u) := by
  refine CI.of rfl (Nat.le_of_ble_eq_true rfl) ?_
  intro p e s m below meth c A ls M hw hl
  have M : Mc p s m _ meth c cX0_tellStones 3 (some .boolean) RX0 z A := M
  obtain ⟨hx, hb, -, -, hown, hts, -, -, -, hN, hsr, -⟩ := id M
  have hl : lv_has ls 3 [(0, .ref (qP 0)), (1, .int x1), (2, .int x2)] := hl
  unfold wX0_tellStones at h
  generalize s.heap = H at hw ⊢
  generalize ([] : List Loc) = locs at hw ⊢
  refine lv_aload_n hx hb dX0_tellStones_0 rfl (lv_at hl 0 rfl) ?_
  refine lv_iload_n hx hb dX0_tellStones_1 rfl (lv_at hl 1 rfl) ?_
  refine fr_Vi (wN := fun _ : Unit => (pW z qP P)) M (m_X3_hasThing l z qP P x1 _ h) (cwV 1 hts (gdV cd_X3_hasThing ml_X0_126 im_X3_hasThing se_X3_hasThing in_X3) rfl rfl rfl hdV_X3_hasThing ⟨(Nat.le_of_ble_eq_true rfl), (Nat.le_of_ble_eq_true rfl)⟩) (Cut.self _) (Prm.self _ 8 (fun _ => rfl)) 0 rfl rfl rfl hw rfl hl.1 rfl (Nat.le_of_ble_eq_true rfl) dX0_tellStones_2 (fun r_1 u_ H locs h hw => ?_)
  have hw : Hw s z A (pW z qP P) H locs := hw
  try dsimp only at h
  refine lv_if_ne (tgt := 10) hx hb dX0_tellStones_5 (by decide) (fun c_2 => ?_) (fun c_2 => ?_)
  · replace h := iF c_2 h
    refine lv_aload_n hx hb dX0_tellStones_10 rfl (lv_at hl 0 rfl) ?_
    refine gt_f (v := .ref (qP 4)) M inlX3 hw 0 rfl rfl 3 (by decide) fl_X0_129 rfl rfl dX0_tellStones_11 ?_
    refine lv_iload_n hx hb dX0_tellStones_14 rfl (lv_at hl 1 rfl) ?_
    refine lv_iload_n hx hb dX0_tellStones_15 rfl (lv_at hl 2 rfl) ?_
    obtain ⟨a_3, h⟩ := h
    refine st_i (P := P) (r := 3) (wN := fun P_4 => (pW z qP P_4)) M hw 4 rfl rfl a_3 dX0_tellStones_16 (fun P_4 H locs eP_4 hw => ?_)
    replace h := h P_4 eP_4
    refine lv_iconst (v := 1) hx hb dX0_tellStones_17 (by decide) ?_
    exact rt_z M P_4 hw bz1 h dX0_tellStones_18
  · replace h := iT c_2 h
    refine lv_iconst (v := 0) hx hb dX0_tellStones_8 (by decide) ?_
    exact rt_z M P hw bz0 h dX0_tellStones_9
abbrev rmX0_tellHeight : Room := { frames := 1, cells := 0, slots := 0, locals := 21 }
set_option maxHeartbeats 4000000 in
set_option maxRecDepth 100000 in
theorem m_X0_tellHeight (l : Launch) (z : KT) (qP : Nat → Nat) (P : RT) (x1 : Int32) (x2 : Int32) (Q : Int32 → RT → Prop) (h : wX0_tellHeight P x1 x2 Q) : CI l yX0_tellHeight cX0_tellHeight 3 .boolean rmX0_tellHeight z [.ref (qP 0), .int x1, .int x2] (pW z qP P) (fun u : RT => (pW z qP u)) (fun (r : Int32) (u : RT) => Q r u) := by
  refine CI.of rfl (Nat.le_of_ble_eq_true rfl) ?_
  intro p e s m below meth c A ls M hw hl
  have M : Mc p s m _ meth c cX0_tellHeight 3 (some .boolean) RX0 z A := M
  obtain ⟨hx, hb, -, -, hown, hts, -, -, -, hN, hsr, -⟩ := id M
  have hl : lv_has ls 3 [(0, .ref (qP 0)), (1, .int x1), (2, .int x2)] := hl
  unfold wX0_tellHeight at h
  generalize s.heap = H at hw ⊢
  generalize ([] : List Loc) = locs at hw ⊢
  refine lv_aload_n hx hb dX0_tellHeight_0 rfl (lv_at hl 0 rfl) ?_
  refine lv_iload_n hx hb dX0_tellHeight_1 rfl (lv_at hl 1 rfl) ?_
  refine fr_Vi (wN := fun _ : Unit => (pW z qP P)) M (m_X3_hasThing l z qP P x1 _ h) (cwV 1 hts (gdV cd_X3_hasThing ml_X0_126 im_X3_hasThing se_X3_hasThing in_X3) rfl rfl rfl hdV_X3_hasThing ⟨(Nat.le_of_ble_eq_true rfl), (Nat.le_of_ble_eq_true rfl)⟩) (Cut.self _) (Prm.self _ 8 (fun _ => rfl)) 0 rfl rfl rfl hw rfl hl.1 rfl (Nat.le_of_ble_eq_true rfl) dX0_tellHeight_2 (fun r_1 u_ H locs h hw => ?_)
  have hw : Hw s z A (pW z qP P) H locs := hw
  try dsimp only at h
  refine lv_if_eq (tgt := 14) hx hb dX0_tellHeight_5 (by decide) (fun c_2 => ?_) (fun c_2 => ?_)
  · replace h := iT c_2 h
    refine lv_iconst (v := 0) hx hb dX0_tellHeight_14 (by decide) ?_
    exact rt_z M P hw bz0 h dX0_tellHeight_15
  · replace h := iF c_2 h
    refine lv_iload_n hx hb dX0_tellHeight_8 rfl (lv_at hl 2 rfl) ?_
    refine lv_bipush (v := 20) hx hb dX0_tellHeight_9 (by decide) ?_
    refine lv_icmp_le (tgt := 16) hx hb dX0_tellHeight_11 (by decide) (fun c_3 => ?_) (fun c_3 => ?_)
    · replace h := iT c_3 h
      refine lv_aload_n hx hb dX0_tellHeight_16 rfl (lv_at hl 0 rfl) ?_
      refine gt_f (v := .ref (qP 5)) M inlX3 hw 0 rfl rfl 4 (by decide) fl_X0_132 rfl rfl dX0_tellHeight_17 ?_
      refine lv_iload_n hx hb dX0_tellHeight_20 rfl (lv_at hl 1 rfl) ?_
      refine lv_iload_n hx hb dX0_tellHeight_21 rfl (lv_at hl 2 rfl) ?_
      obtain ⟨a_4, h⟩ := h
      refine st_i (P := P) (r := 4) (wN := fun P_5 => (pW z qP P_5)) M hw 5 rfl rfl a_4 dX0_tellHeight_22 (fun P_5 H locs eP_5 hw => ?_)
      replace h := h P_5 eP_5
      refine lv_iconst (v := 1) hx hb dX0_tellHeight_23 (by decide) ?_
      exact rt_z M P_5 hw bz1 h dX0_tellHeight_24
    · replace h := iF c_3 h
      refine lv_iconst (v := 0) hx hb dX0_tellHeight_14 (by decide) ?_
      exact rt_z M P hw bz0 h dX0_tellHeight_15
abbrev rmX0_tellHours : Room := { frames := 3, cells := 0, slots := 0, locals := 71 }
set_option maxHeartbeats 4000000 in
set_option maxRecDepth 100000 in
theorem m_X0_tellHours (l : Launch) (z : KT) (qP : Nat → Nat) (P : RT) (x1 : Int32) (Q : Int32 → RT → Prop) (h : wX0_tellHours P x1 Q) : CI l yX0_tellHours cX0_tellHours 2 .boolean rmX0_tellHours z [.ref (qP 0), .int x1] (pW z qP P) (fun u : RT => (pW z qP u)) (fun (r : Int32) (u : RT) => Q r u) := by
  refine CI.of rfl (Nat.le_of_ble_eq_true rfl) ?_
  intro p e s m below meth c A ls M hw hl
  have M : Mc p s m _ meth c cX0_tellHours 2 (some .boolean) RX0 z A := M
  obtain ⟨hx, hb, -, -, hown, hts, -, -, -, hN, hsr, -⟩ := id M
  have hl : lv_has ls 2 [(0, .ref (qP 0)), (1, .int x1)] := hl
  unfold wX0_tellHours at h
  generalize s.heap = H at hw ⊢
  generalize ([] : List Loc) = locs at hw ⊢
  refine lv_iload_n hx hb dX0_tellHours_0 rfl (lv_at hl 1 rfl) ?_
  refine lv_iconst (v := 1) hx hb dX0_tellHours_1 (by decide) ?_
  refine lv_icmp_lt (tgt := 23) hx hb dX0_tellHours_2 (by decide) (fun c_1 => ?_) (fun c_1 => ?_)
  · replace h := iT c_1 h
    refine lv_iconst (v := 0) hx hb dX0_tellHours_23 (by decide) ?_
    exact rt_z M P hw bz0 h dX0_tellHours_24
  · replace h := iF c_1 h
    refine lv_iload_n hx hb dX0_tellHours_5 rfl (lv_at hl 1 rfl) ?_
    refine lv_bipush (v := 60) hx hb dX0_tellHours_6 (by decide) ?_
    refine lv_icmp_gt (tgt := 23) hx hb dX0_tellHours_8 (by decide) (fun c_2 => ?_) (fun c_2 => ?_)
    · replace h := iT c_2 h
      refine lv_iconst (v := 0) hx hb dX0_tellHours_23 (by decide) ?_
      exact rt_z M P hw bz0 h dX0_tellHours_24
    · replace h := iF c_2 h
      refine lv_aload_n hx hb dX0_tellHours_11 rfl (lv_at hl 0 rfl) ?_
      refine gt_f (v := .int (P 30 9)) M inlX3 hw 0 rfl rfl 9 (by decide) fl_X0_135 rfl rfl dX0_tellHours_12 ?_
      refine lv_iload_n hx hb dX0_tellHours_15 rfl (lv_at hl 1 rfl) ?_
      refine lv_iadd hx hb dX0_tellHours_16 ?_
      refine lv_sipush (v := 999) hx hb dX0_tellHours_17 (by decide) ?_
      refine lv_icmp_le (tgt := 25) hx hb dX0_tellHours_20 (by decide) (fun c_3 => ?_) (fun c_3 => ?_)
      · replace h := iT c_3 h
        refine lv_aload_n hx hb dX0_tellHours_25 rfl (lv_at hl 0 rfl) ?_
        refine lv_iload_n hx hb dX0_tellHours_26 rfl (lv_at hl 1 rfl) ?_
        refine fr_Vv (wN := fun u : RT => (pW z qP u)) M (m_X3_goHours l z qP P x1 _ h) (cwV 1 hts (gdV cd_X3_goHours ml_X0_138 im_X3_goHours se_X3_goHours in_X3) rfl rfl rfl hdV_X3_goHours ⟨(Nat.le_of_ble_eq_true rfl), (Nat.le_of_ble_eq_true rfl)⟩) (Cut.self _) (Prm.self _ 8 (fun _ => rfl)) 0 rfl rfl rfl hw rfl hl.1 rfl (Nat.le_of_ble_eq_true rfl) dX0_tellHours_27 (fun u_ H locs h hw => ?_)
        obtain ⟨P_4, rfl⟩ : ∃ z9 : RT, z9 = u_ := ⟨_, rfl⟩
        have hw : Hw s z A (pW z qP P_4) H locs := hw
        try dsimp only at h
        refine lv_iconst (v := 1) hx hb dX0_tellHours_30 (by decide) ?_
        exact rt_z M P_4 hw bz1 h dX0_tellHours_31
      · replace h := iF c_3 h
        refine lv_iconst (v := 0) hx hb dX0_tellHours_23 (by decide) ?_
        exact rt_z M P hw bz0 h dX0_tellHours_24
abbrev rmX0_tellStatement : Room := { frames := 5, cells := 0, slots := 0, locals := 106 }
set_option maxHeartbeats 4000000 in
set_option maxRecDepth 100000 in
theorem m_X0_tellStatement (l : Launch) (z : KT) (qL : Nat → Nat) (qP : Nat → Nat) (L : RT) (P : RT) (x2 : Int32) (Q : Int32 → RT → Prop) (h : wX0_tellStatement L P x2 Q) : CI l yX0_tellStatement cX0_tellStatement 3 .boolean rmX0_tellStatement z [.ref (qL 0), .ref (qP 0), .int x2] (lW z qL L ++ (pW z qP P)) (fun u : RT => (lW z qL L ++ (pW z qP u))) (fun (r : Int32) (u : RT) => Q r u) := by
  refine CI.of rfl (Nat.le_of_ble_eq_true rfl) ?_
  intro p e s m below meth c A ls M hw hl
  have M : Mc p s m _ meth c cX0_tellStatement 3 (some .boolean) RX0 z A := M
  obtain ⟨hx, hb, -, -, hown, hts, -, -, -, hN, hsr, -⟩ := id M
  have hl : lv_has ls 3 [(0, .ref (qL 0)), (1, .ref (qP 0)), (2, .int x2)] := hl
  unfold wX0_tellStatement at h
  generalize s.heap = H at hw ⊢
  generalize ([] : List Loc) = locs at hw ⊢
  refine lv_aload_n hx hb dX0_tellStatement_0 rfl (lv_at hl 0 rfl) ?_
  refine gt_f (v := .ref (qL 1)) M inlX0 hw 0 rfl rfl 0 (by decide) fl_X0_9 rfl rfl dX0_tellStatement_1 ?_
  refine lv_iload_n hx hb dX0_tellStatement_4 rfl (lv_at hl 2 rfl) ?_
  obtain ⟨a_1, h⟩ := h
  refine ld_i M hw 1 rfl a_1 dX0_tellStatement_5 ?_
  refine lv_topi (fun s_2 es_2 => ?_)
  replace h := h s_2 es_2
  by_cases c_3 : s_2 = (99 : Int32)
  · replace h := iT c_3 h
    refine lv_lookup (off := 99) (tgt := 105) hx hb dX0_tellStatement_6 (by decide) (by first | (rw [c_3]; done) | (rw [c_3]; rfl)) (by decide) ?_
    refine lv_aload_n hx hb dX0_tellStatement_105 rfl (lv_at hl 1 rfl) ?_
    refine lv_aload_n hx hb dX0_tellStatement_106 rfl (lv_at hl 0 rfl) ?_
    refine lv_iload_n hx hb dX0_tellStatement_107 rfl (lv_at hl 2 rfl) ?_
    refine lv_iconst (v := 1) hx hb dX0_tellStatement_108 (by decide) ?_
    refine lv_iadd hx hb dX0_tellStatement_109 ?_
    refine fr_Vi (wN := fun _ : Unit => (lW z qL L ++ (pW z qP P))) M (m_X0_digit l z qL L (x2 + (1 : Int32)) _ h) (cwV 1 hts (gdV cd_X0_digit ml_X0_74 im_X0_digit se_X0_digit in_X0) rfl rfl rfl hdV_X0_digit ⟨(Nat.le_of_ble_eq_true rfl), (Nat.le_of_ble_eq_true rfl)⟩) cut_9 prm_9 0 rfl rfl rfl hw rfl hl.1 rfl (Nat.le_of_ble_eq_true rfl) dX0_tellStatement_110 (fun r_4 u_ H locs h hw => ?_)
    have hw : Hw s z A (lW z qL L ++ (pW z qP P)) H locs := hw
    try dsimp only at h
    refine fr_Si (wN := fun u : RT => (lW z qL L ++ (pW z qP u))) M (m_X0_tellCut l z qP P r_4 _ h) (va_cwS 2 hts (gdS cd_X0_tellCut ml_X0_88 st_X0_tellCut in_X0) rfl rfl rfl hdS_X0_tellCut ⟨(Nat.le_of_ble_eq_true rfl), (Nat.le_of_ble_eq_true rfl)⟩) cut_10 prm_10 hw rfl hl.1 rfl (Nat.le_of_ble_eq_true rfl) dX0_tellStatement_113 (fun r_6 u_ H locs h hw => ?_)
    obtain ⟨P_5, rfl⟩ : ∃ z9 : RT, z9 = u_ := ⟨_, rfl⟩
    have hw : Hw s z A (lW z qL L ++ (pW z qP P_5)) H locs := hw
    try dsimp only at h
    obtain ⟨a_7, h⟩ := h
    exact rt_z M P_5 hw a_7 h dX0_tellStatement_116
  replace h := iF c_3 h
  by_cases c_8 : s_2 = (114 : Int32)
  · replace h := iT c_8 h
    refine lv_lookup (off := 80) (tgt := 86) hx hb dX0_tellStatement_6 (by decide) (by first | (rw [c_8]; done) | (rw [c_8]; rfl)) (by decide) ?_
    refine lv_aload_n hx hb dX0_tellStatement_86 rfl (lv_at hl 1 rfl) ?_
    refine lv_aload_n hx hb dX0_tellStatement_87 rfl (lv_at hl 0 rfl) ?_
    refine lv_iload_n hx hb dX0_tellStatement_88 rfl (lv_at hl 2 rfl) ?_
    refine lv_iconst (v := 1) hx hb dX0_tellStatement_89 (by decide) ?_
    refine lv_iadd hx hb dX0_tellStatement_90 ?_
    refine fr_Vi (wN := fun _ : Unit => (lW z qL L ++ (pW z qP P))) M (m_X0_digit l z qL L (x2 + (1 : Int32)) _ h) (cwV 1 hts (gdV cd_X0_digit ml_X0_74 im_X0_digit se_X0_digit in_X0) rfl rfl rfl hdV_X0_digit ⟨(Nat.le_of_ble_eq_true rfl), (Nat.le_of_ble_eq_true rfl)⟩) cut_9 prm_9 0 rfl rfl rfl hw rfl hl.1 rfl (Nat.le_of_ble_eq_true rfl) dX0_tellStatement_91 (fun r_9 u_ H locs h hw => ?_)
    have hw : Hw s z A (lW z qL L ++ (pW z qP P)) H locs := hw
    try dsimp only at h
    refine lv_aload_n hx hb dX0_tellStatement_94 rfl (lv_at hl 0 rfl) ?_
    refine lv_iload_n hx hb dX0_tellStatement_95 rfl (lv_at hl 2 rfl) ?_
    refine lv_iconst (v := 2) hx hb dX0_tellStatement_96 (by decide) ?_
    refine lv_iadd hx hb dX0_tellStatement_97 ?_
    refine fr_Vi (wN := fun _ : Unit => (lW z qL L ++ (pW z qP P))) M (m_X0_digit l z qL L (x2 + (2 : Int32)) _ h) (cwV 1 hts (gdV cd_X0_digit ml_X0_74 im_X0_digit se_X0_digit in_X0) rfl rfl rfl hdV_X0_digit ⟨(Nat.le_of_ble_eq_true rfl), (Nat.le_of_ble_eq_true rfl)⟩) cut_9 prm_9 0 rfl rfl rfl hw rfl hl.1 rfl (Nat.le_of_ble_eq_true rfl) dX0_tellStatement_98 (fun r_10 u_ H locs h hw => ?_)
    have hw : Hw s z A (lW z qL L ++ (pW z qP P)) H locs := hw
    try dsimp only at h
    refine fr_Si (wN := fun u : RT => (lW z qL L ++ (pW z qP u))) M (m_X0_tellRope l z qP P r_9 r_10 _ h) (va_cwS 3 hts (gdS cd_X0_tellRope ml_X0_84 st_X0_tellRope in_X0) rfl rfl rfl hdS_X0_tellRope ⟨(Nat.le_of_ble_eq_true rfl), (Nat.le_of_ble_eq_true rfl)⟩) cut_10 prm_10 hw rfl hl.1 rfl (Nat.le_of_ble_eq_true rfl) dX0_tellStatement_101 (fun r_12 u_ H locs h hw => ?_)
    obtain ⟨P_11, rfl⟩ : ∃ z9 : RT, z9 = u_ := ⟨_, rfl⟩
    have hw : Hw s z A (lW z qL L ++ (pW z qP P_11)) H locs := hw
    try dsimp only at h
    obtain ⟨a_13, h⟩ := h
    exact rt_z M P_11 hw a_13 h dX0_tellStatement_104
  replace h := iF c_8 h
  by_cases c_14 : s_2 = (115 : Int32)
  · replace h := iT c_14 h
    refine lv_lookup (off := 111) (tgt := 117) hx hb dX0_tellStatement_6 (by decide) (by first | (rw [c_14]; done) | (rw [c_14]; rfl)) (by decide) ?_
    refine lv_aload_n hx hb dX0_tellStatement_117 rfl (lv_at hl 1 rfl) ?_
    refine lv_aload_n hx hb dX0_tellStatement_118 rfl (lv_at hl 0 rfl) ?_
    refine lv_iload_n hx hb dX0_tellStatement_119 rfl (lv_at hl 2 rfl) ?_
    refine lv_iconst (v := 1) hx hb dX0_tellStatement_120 (by decide) ?_
    refine lv_iadd hx hb dX0_tellStatement_121 ?_
    refine fr_Vi (wN := fun _ : Unit => (lW z qL L ++ (pW z qP P))) M (m_X0_digit l z qL L (x2 + (1 : Int32)) _ h) (cwV 1 hts (gdV cd_X0_digit ml_X0_74 im_X0_digit se_X0_digit in_X0) rfl rfl rfl hdV_X0_digit ⟨(Nat.le_of_ble_eq_true rfl), (Nat.le_of_ble_eq_true rfl)⟩) cut_9 prm_9 0 rfl rfl rfl hw rfl hl.1 rfl (Nat.le_of_ble_eq_true rfl) dX0_tellStatement_122 (fun r_15 u_ H locs h hw => ?_)
    have hw : Hw s z A (lW z qL L ++ (pW z qP P)) H locs := hw
    try dsimp only at h
    refine lv_aload_n hx hb dX0_tellStatement_125 rfl (lv_at hl 0 rfl) ?_
    refine lv_iload_n hx hb dX0_tellStatement_126 rfl (lv_at hl 2 rfl) ?_
    refine lv_iconst (v := 2) hx hb dX0_tellStatement_127 (by decide) ?_
    refine lv_iadd hx hb dX0_tellStatement_128 ?_
    refine fr_Vi (wN := fun _ : Unit => (lW z qL L ++ (pW z qP P))) M (m_X0_digit l z qL L (x2 + (2 : Int32)) _ h) (cwV 1 hts (gdV cd_X0_digit ml_X0_74 im_X0_digit se_X0_digit in_X0) rfl rfl rfl hdV_X0_digit ⟨(Nat.le_of_ble_eq_true rfl), (Nat.le_of_ble_eq_true rfl)⟩) cut_9 prm_9 0 rfl rfl rfl hw rfl hl.1 rfl (Nat.le_of_ble_eq_true rfl) dX0_tellStatement_129 (fun r_16 u_ H locs h hw => ?_)
    have hw : Hw s z A (lW z qL L ++ (pW z qP P)) H locs := hw
    try dsimp only at h
    refine fr_Si (wN := fun u : RT => (lW z qL L ++ (pW z qP u))) M (m_X0_tellStones l z qP P r_15 r_16 _ h) (va_cwS 3 hts (gdS cd_X0_tellStones ml_X0_91 st_X0_tellStones in_X0) rfl rfl rfl hdS_X0_tellStones ⟨(Nat.le_of_ble_eq_true rfl), (Nat.le_of_ble_eq_true rfl)⟩) cut_10 prm_10 hw rfl hl.1 rfl (Nat.le_of_ble_eq_true rfl) dX0_tellStatement_132 (fun r_18 u_ H locs h hw => ?_)
    obtain ⟨P_17, rfl⟩ : ∃ z9 : RT, z9 = u_ := ⟨_, rfl⟩
    have hw : Hw s z A (lW z qL L ++ (pW z qP P_17)) H locs := hw
    try dsimp only at h
    obtain ⟨a_19, h⟩ := h
    exact rt_z M P_17 hw a_19 h dX0_tellStatement_135
  replace h := iF c_14 h
  by_cases c_20 : s_2 = (116 : Int32)
  · replace h := iT c_20 h
    refine lv_lookup (off := 50) (tgt := 56) hx hb dX0_tellStatement_6 (by decide) (by first | (rw [c_20]; done) | (rw [c_20]; rfl)) (by decide) ?_
    refine lv_aload_n hx hb dX0_tellStatement_56 rfl (lv_at hl 1 rfl) ?_
    refine lv_aload_n hx hb dX0_tellStatement_57 rfl (lv_at hl 0 rfl) ?_
    refine gt_f (v := .ref (qL 1)) M inlX0 hw 0 rfl rfl 0 (by decide) fl_X0_9 rfl rfl dX0_tellStatement_58 ?_
    refine lv_iload_n hx hb dX0_tellStatement_61 rfl (lv_at hl 2 rfl) ?_
    refine lv_iconst (v := 1) hx hb dX0_tellStatement_62 (by decide) ?_
    refine lv_iadd hx hb dX0_tellStatement_63 ?_
    obtain ⟨a_21, h⟩ := h
    refine ld_i M hw 1 rfl a_21 dX0_tellStatement_64 ?_
    refine fr_Si (wN := fun _ : Unit => (lW z qL L ++ (pW z qP P))) M (m_X0_kindOf l z (L 0 ((x2 + (1 : Int32))).toNatClampNeg) _ h) (va_cwS 1 hts (gdS cd_X0_kindOf ml_X0_68 st_X0_kindOf in_X0) rfl rfl rfl hdS_X0_kindOf ⟨(Nat.le_of_ble_eq_true rfl), (Nat.le_of_ble_eq_true rfl)⟩) (Cut.none _) (Prm.none _) hw rfl hl.1 rfl (Nat.le_of_ble_eq_true rfl) dX0_tellStatement_65 (fun r_22 u_ H locs h hw => ?_)
    have hw : Hw s z A (lW z qL L ++ (pW z qP P)) H locs := hw
    try dsimp only at h
    refine lv_aload_n hx hb dX0_tellStatement_68 rfl (lv_at hl 0 rfl) ?_
    refine lv_iload_n hx hb dX0_tellStatement_69 rfl (lv_at hl 2 rfl) ?_
    refine lv_iconst (v := 2) hx hb dX0_tellStatement_70 (by decide) ?_
    refine lv_iadd hx hb dX0_tellStatement_71 ?_
    refine fr_Vi (wN := fun _ : Unit => (lW z qL L ++ (pW z qP P))) M (m_X0_digit l z qL L (x2 + (2 : Int32)) _ h) (cwV 1 hts (gdV cd_X0_digit ml_X0_74 im_X0_digit se_X0_digit in_X0) rfl rfl rfl hdV_X0_digit ⟨(Nat.le_of_ble_eq_true rfl), (Nat.le_of_ble_eq_true rfl)⟩) cut_9 prm_9 0 rfl rfl rfl hw rfl hl.1 rfl (Nat.le_of_ble_eq_true rfl) dX0_tellStatement_72 (fun r_23 u_ H locs h hw => ?_)
    have hw : Hw s z A (lW z qL L ++ (pW z qP P)) H locs := hw
    try dsimp only at h
    refine lv_aload_n hx hb dX0_tellStatement_75 rfl (lv_at hl 0 rfl) ?_
    refine lv_iload_n hx hb dX0_tellStatement_76 rfl (lv_at hl 2 rfl) ?_
    refine lv_iconst (v := 3) hx hb dX0_tellStatement_77 (by decide) ?_
    refine lv_iadd hx hb dX0_tellStatement_78 ?_
    refine fr_Vi (wN := fun _ : Unit => (lW z qL L ++ (pW z qP P))) M (m_X0_number l z qL L (x2 + (3 : Int32)) _ h) (cwV 1 hts (gdV cd_X0_number ml_X0_77 im_X0_number se_X0_number in_X0) rfl rfl rfl hdV_X0_number ⟨(Nat.le_of_ble_eq_true rfl), (Nat.le_of_ble_eq_true rfl)⟩) cut_9 prm_9 0 rfl rfl rfl hw rfl hl.1 rfl (Nat.le_of_ble_eq_true rfl) dX0_tellStatement_79 (fun r_24 u_ H locs h hw => ?_)
    have hw : Hw s z A (lW z qL L ++ (pW z qP P)) H locs := hw
    try dsimp only at h
    refine fr_Si (wN := fun u : RT => (lW z qL L ++ (pW z qP u))) M (m_X0_tellThing l z qP P r_22 r_23 r_24 _ h) (va_cwS 4 hts (gdS cd_X0_tellThing ml_X0_80 st_X0_tellThing in_X0) rfl rfl rfl hdS_X0_tellThing ⟨(Nat.le_of_ble_eq_true rfl), (Nat.le_of_ble_eq_true rfl)⟩) cut_10 prm_10 hw rfl hl.1 rfl (Nat.le_of_ble_eq_true rfl) dX0_tellStatement_82 (fun r_26 u_ H locs h hw => ?_)
    obtain ⟨P_25, rfl⟩ : ∃ z9 : RT, z9 = u_ := ⟨_, rfl⟩
    have hw : Hw s z A (lW z qL L ++ (pW z qP P_25)) H locs := hw
    try dsimp only at h
    obtain ⟨a_27, h⟩ := h
    exact rt_z M P_25 hw a_27 h dX0_tellStatement_85
  replace h := iF c_20 h
  by_cases c_28 : s_2 = (117 : Int32)
  · replace h := iT c_28 h
    refine lv_lookup (off := 130) (tgt := 136) hx hb dX0_tellStatement_6 (by decide) (by first | (rw [c_28]; done) | (rw [c_28]; rfl)) (by decide) ?_
    refine lv_aload_n hx hb dX0_tellStatement_136 rfl (lv_at hl 1 rfl) ?_
    refine lv_aload_n hx hb dX0_tellStatement_137 rfl (lv_at hl 0 rfl) ?_
    refine lv_iload_n hx hb dX0_tellStatement_138 rfl (lv_at hl 2 rfl) ?_
    refine lv_iconst (v := 1) hx hb dX0_tellStatement_139 (by decide) ?_
    refine lv_iadd hx hb dX0_tellStatement_140 ?_
    refine fr_Vi (wN := fun _ : Unit => (lW z qL L ++ (pW z qP P))) M (m_X0_digit l z qL L (x2 + (1 : Int32)) _ h) (cwV 1 hts (gdV cd_X0_digit ml_X0_74 im_X0_digit se_X0_digit in_X0) rfl rfl rfl hdV_X0_digit ⟨(Nat.le_of_ble_eq_true rfl), (Nat.le_of_ble_eq_true rfl)⟩) cut_9 prm_9 0 rfl rfl rfl hw rfl hl.1 rfl (Nat.le_of_ble_eq_true rfl) dX0_tellStatement_141 (fun r_29 u_ H locs h hw => ?_)
    have hw : Hw s z A (lW z qL L ++ (pW z qP P)) H locs := hw
    try dsimp only at h
    refine lv_aload_n hx hb dX0_tellStatement_144 rfl (lv_at hl 0 rfl) ?_
    refine lv_iload_n hx hb dX0_tellStatement_145 rfl (lv_at hl 2 rfl) ?_
    refine lv_iconst (v := 2) hx hb dX0_tellStatement_146 (by decide) ?_
    refine lv_iadd hx hb dX0_tellStatement_147 ?_
    refine fr_Vi (wN := fun _ : Unit => (lW z qL L ++ (pW z qP P))) M (m_X0_number l z qL L (x2 + (2 : Int32)) _ h) (cwV 1 hts (gdV cd_X0_number ml_X0_77 im_X0_number se_X0_number in_X0) rfl rfl rfl hdV_X0_number ⟨(Nat.le_of_ble_eq_true rfl), (Nat.le_of_ble_eq_true rfl)⟩) cut_9 prm_9 0 rfl rfl rfl hw rfl hl.1 rfl (Nat.le_of_ble_eq_true rfl) dX0_tellStatement_148 (fun r_30 u_ H locs h hw => ?_)
    have hw : Hw s z A (lW z qL L ++ (pW z qP P)) H locs := hw
    try dsimp only at h
    refine fr_Si (wN := fun u : RT => (lW z qL L ++ (pW z qP u))) M (m_X0_tellHeight l z qP P r_29 r_30 _ h) (va_cwS 3 hts (gdS cd_X0_tellHeight ml_X0_94 st_X0_tellHeight in_X0) rfl rfl rfl hdS_X0_tellHeight ⟨(Nat.le_of_ble_eq_true rfl), (Nat.le_of_ble_eq_true rfl)⟩) cut_10 prm_10 hw rfl hl.1 rfl (Nat.le_of_ble_eq_true rfl) dX0_tellStatement_151 (fun r_32 u_ H locs h hw => ?_)
    obtain ⟨P_31, rfl⟩ : ∃ z9 : RT, z9 = u_ := ⟨_, rfl⟩
    have hw : Hw s z A (lW z qL L ++ (pW z qP P_31)) H locs := hw
    try dsimp only at h
    obtain ⟨a_33, h⟩ := h
    exact rt_z M P_31 hw a_33 h dX0_tellStatement_154
  replace h := iF c_28 h
  refine lv_lookup (off := 149) (tgt := 155) hx hb dX0_tellStatement_6 (by decide) ((lv_osw c_3 (by decide)).trans <| (lv_osw c_8 (by decide)).trans <| (lv_osw c_14 (by decide)).trans <| (lv_osw c_20 (by decide)).trans <| (lv_osw c_28 (by decide)).trans <| rfl) (by decide) ?_
  refine lv_aload_n hx hb dX0_tellStatement_155 rfl (lv_at hl 1 rfl) ?_
  refine lv_aload_n hx hb dX0_tellStatement_156 rfl (lv_at hl 0 rfl) ?_
  refine lv_iload_n hx hb dX0_tellStatement_157 rfl (lv_at hl 2 rfl) ?_
  refine lv_iconst (v := 1) hx hb dX0_tellStatement_158 (by decide) ?_
  refine lv_iadd hx hb dX0_tellStatement_159 ?_
  refine fr_Vi (wN := fun _ : Unit => (lW z qL L ++ (pW z qP P))) M (m_X0_number l z qL L (x2 + (1 : Int32)) _ h) (cwV 1 hts (gdV cd_X0_number ml_X0_77 im_X0_number se_X0_number in_X0) rfl rfl rfl hdV_X0_number ⟨(Nat.le_of_ble_eq_true rfl), (Nat.le_of_ble_eq_true rfl)⟩) cut_9 prm_9 0 rfl rfl rfl hw rfl hl.1 rfl (Nat.le_of_ble_eq_true rfl) dX0_tellStatement_160 (fun r_34 u_ H locs h hw => ?_)
  have hw : Hw s z A (lW z qL L ++ (pW z qP P)) H locs := hw
  try dsimp only at h
  refine fr_Si (wN := fun u : RT => (lW z qL L ++ (pW z qP u))) M (m_X0_tellHours l z qP P r_34 _ h) (va_cwS 2 hts (gdS cd_X0_tellHours ml_X0_97 st_X0_tellHours in_X0) rfl rfl rfl hdS_X0_tellHours ⟨(Nat.le_of_ble_eq_true rfl), (Nat.le_of_ble_eq_true rfl)⟩) cut_10 prm_10 hw rfl hl.1 rfl (Nat.le_of_ble_eq_true rfl) dX0_tellStatement_163 (fun r_36 u_ H locs h hw => ?_)
  obtain ⟨P_35, rfl⟩ : ∃ z9 : RT, z9 = u_ := ⟨_, rfl⟩
  have hw : Hw s z A (lW z qL L ++ (pW z qP P_35)) H locs := hw
  try dsimp only at h
  obtain ⟨a_37, h⟩ := h
  exact rt_z M P_35 hw a_37 h dX0_tellStatement_166
abbrev rmX0_tellTo : Room := { frames := 7, cells := 0, slots := 0, locals := 151 }
set_option maxHeartbeats 4000000 in
set_option maxRecDepth 100000 in
theorem kX0_tellTo_25 {p : Program} {l : Launch} {e : Env} {s : State} {m : MethodId} {args : Array Value} {below : List Frame} {meth : Method} {c : Code} {z : KT} {A : Nat → Prop} {qL : Nat → Nat} {qP : Nat → Nat} {L : RT} {Q : Int32 → RT → Prop} (M : Mc p s m args meth c cX0_tellTo 6 (some .int) RX0 z A) : ∀ (n : Nat) (P : RT) (x3 : Int32) (x5 : Int32) (H : Heap) (locs : List Loc) (ls : Array Slot), Hw s z A (lW z qL L ++ (pW z qP P)) H locs → lv_has ls 6 [(0, .ref (qL 0)), (1, .ref (qP 0)), (3, .int x3), (5, .int x5)] → bX0_tellTo_25 L Q n P x3 x5 → W p l e rmX0_tellTo s m args below meth c H locs 0 0 (MQ below (va_Qi (fun (r : Int32) (u : RT) => Q r u) (fun u t => cAt z A ((fun u : RT => (lW z qL L ++ (pW z qP u))) u) t) A) args s 0 0 A) (F0 m 25 ls []) := by
  obtain ⟨hx, hb, -, -, hown, hts, -, -, -, hN, hsr, -⟩ := id M
  intro n
  induction n with
  | zero => intro P x3 x5 H locs ls hw hl h; exact False.elim h
  | succ n ih =>
    intro P x3 x5 H locs ls hw hl h
    rw [bX0_tellTo_25] at h
    refine lv_iload hx hb dX0_tellTo_25 (lv_at hl 3 rfl) ?_
    refine lv_aload_n hx hb dX0_tellTo_27 rfl (lv_at hl 0 rfl) ?_
    refine gt_f (v := .int (L 30 1)) M inlX0 hw 0 rfl rfl 1 (by decide) fl_X0_15 rfl rfl dX0_tellTo_28 ?_
    refine lv_icmp_ge (tgt := 83) hx hb dX0_tellTo_31 (by decide) (fun c_1 => ?_) (fun c_1 => ?_)
    · replace h := iT c_1 h
      refine lv_iload_n hx hb dX0_tellTo_83 rfl (lv_at hl 2 rfl) ?_
      exact rt_i M P hw h dX0_tellTo_84
    · replace h := iF c_1 h
      refine lv_iconst (v := 1) hx hb dX0_tellTo_34 (by decide) ?_
      refine lv_aload_n hx hb dX0_tellTo_35 rfl (lv_at hl 0 rfl) ?_
      refine gt_f (v := .ref (qL 1)) M inlX0 hw 0 rfl rfl 0 (by decide) fl_X0_9 rfl rfl dX0_tellTo_36 ?_
      refine lv_iload hx hb dX0_tellTo_39 (lv_at hl 3 rfl) ?_
      obtain ⟨a_2, h⟩ := h
      refine ld_i M hw 1 rfl a_2 dX0_tellTo_41 ?_
      refine fr_Sr (wN := fun _ : Unit => (lW z qL L ++ (pW z qP P))) M (m_X0_shapeOf l z (L 0 (x5).toNatClampNeg) _ h) (va_cwS 1 hts (gdS cd_X0_shapeOf ml_X0_23 st_X0_shapeOf in_X0) rfl rfl rfl hdS_X0_shapeOf ⟨(Nat.le_of_ble_eq_true rfl), (Nat.le_of_ble_eq_true rfl)⟩) (Cut.none _) (Prm.none _) hw rfl hl.1 rfl (Nat.le_of_ble_eq_true rfl) dX0_tellTo_42 (fun ra_ u_ H locs h hw => ?_)
      obtain ⟨r_3, rfl, h⟩ := h
      have hw : Hw s z A (lW z qL L ++ (pW z qP P)) H locs := hw
      try dsimp only at h
      obtain ⟨a_4, h⟩ := h
      refine fr_Ti M a_4 (m_J0_length l z r_3 a_4) (cwV 0 hts (gdV cd_J0_length_8abf5 ml_X0_27 im_J0_length_8abf5 se_J0_length_8abf5 in_J0) rfl rfl rfl hdV_J0_length ⟨(Nat.le_of_ble_eq_true rfl), (Nat.le_of_ble_eq_true rfl)⟩) hw rfl hl.1 rfl (Nat.le_of_ble_eq_true rfl) dX0_tellTo_45 (fun r_5 H locs er_5 hw => ?_)
      replace h := h r_5 er_5
      refine mx_i M ml_X0_32 hl.1 (Nat.le_of_ble_eq_true rfl) (Nat.le_of_ble_eq_true rfl) dX0_tellTo_48 ?_
      refine lv_topi (fun x4_6 ex4_6 => ?_)
      replace h := h x4_6 ex4_6
      refine lv_istore (lv' := [(4, .int x4_6), (0, .ref (qL 0)), (1, .ref (qP 0)), (3, .int x3), (5, .int x5)]) hx hb dX0_tellTo_51 hl (by decide) rfl (fun ls hl => ?_)
      refine lv_aload_n hx hb dX0_tellTo_53 rfl (lv_at hl 1 rfl) ?_
      refine lv_aload_n hx hb dX0_tellTo_54 rfl (lv_at hl 2 rfl) ?_
      refine lv_iload hx hb dX0_tellTo_55 (lv_at hl 4 rfl) ?_
      refine fr_Vi (wN := fun u : RT => (lW z qL L ++ (pW z qP u))) M (m_X0_tellStatement l z qL qP L P x5 _ h) (cwV 2 hts (gdV cd_X0_tellStatement ml_X0_38 im_X0_tellStatement se_X0_tellStatement in_X0) rfl rfl rfl hdV_X0_tellStatement ⟨(Nat.le_of_ble_eq_true rfl), (Nat.le_of_ble_eq_true rfl)⟩) (Cut.self _) (Prm.self _ 10 (fun _ => rfl)) 0 rfl rfl rfl hw rfl hl.1 rfl (Nat.le_of_ble_eq_true rfl) dX0_tellTo_57 (fun r_8 u_ H locs h hw => ?_)
      obtain ⟨P_7, rfl⟩ : ∃ z9 : RT, z9 = u_ := ⟨_, rfl⟩
      have hw : Hw s z A (lW z qL L ++ (pW z qP P_7)) H locs := hw
      try dsimp only at h
      refine lv_if_ne (tgt := 70) hx hb dX0_tellTo_60 (by decide) (fun c_9 => ?_) (fun c_9 => ?_)
      · replace h := iF c_9 h
        obtain ⟨x3_10, ex3_10⟩ : ∃ y : Int32, y = (x3 + (1 : Int32)) := ⟨_, rfl⟩
        replace h := h x3_10 ex3_10
        refine lv_iinc (v := x3_10) (lv' := [(3, .int x3_10), (4, .int x4_6), (0, .ref (qL 0)), (1, .ref (qP 0)), (5, .int x5)]) hx hb dX0_tellTo_70 hl (k := 3) rfl (by rw [ex3_10]; rfl) (by decide) rfl (fun ls hl => ?_)
        refine lv_iload hx hb dX0_tellTo_73 (lv_at hl 4 rfl) ?_
        refine lv_iload hx hb dX0_tellTo_75 (lv_at hl 1 rfl) ?_
        refine lv_iadd hx hb dX0_tellTo_77 ?_
        refine lv_topi (fun x5_11 ex5_11 => ?_)
        replace h := h x5_11 ex5_11
        refine lv_istore (lv' := [(5, .int x5_11), (3, .int x3_10), (4, .int x4_6), (0, .ref (qL 0)), (1, .ref (qP 0))]) hx hb dX0_tellTo_78 hl (by decide) rfl (fun ls hl => ?_)
        refine lv_goto (tgt := 25) hx hb dX0_tellTo_80 (by decide) ?_
        exact ih P_7 x3_10 x5_11 H locs ls hw (lv_sub hl [3, 4, 1, 0] rfl) h
      · replace h := iT c_9 h
        refine lv_sipush (v := -2000) hx hb dX0_tellTo_63 (by decide) ?_
        refine lv_iload hx hb dX0_tellTo_66 (lv_at hl 4 rfl) ?_
        refine lv_isub hx hb dX0_tellTo_68 ?_
        exact rt_i M P_7 hw h dX0_tellTo_69
set_option maxHeartbeats 4000000 in
set_option maxRecDepth 100000 in
theorem m_X0_tellTo (l : Launch) (z : KT) (qL : Nat → Nat) (qP : Nat → Nat) (L : RT) (P : RT) (Q : Int32 → RT → Prop) (h : wX0_tellTo L P Q) : CI l yX0_tellTo cX0_tellTo 6 .int rmX0_tellTo z [.ref (qL 0), .ref (qP 0)] (lW z qL L ++ (pW z qP P)) (fun u : RT => (lW z qL L ++ (pW z qP u))) (fun (r : Int32) (u : RT) => Q r u) := by
  refine CI.of rfl (Nat.le_of_ble_eq_true rfl) ?_
  intro p e s m below meth c A ls M hw hl
  have M : Mc p s m _ meth c cX0_tellTo 6 (some .int) RX0 z A := M
  obtain ⟨hx, hb, -, -, hown, hts, -, -, -, hN, hsr, -⟩ := id M
  have hl : lv_has ls 6 [(0, .ref (qL 0)), (1, .ref (qP 0))] := hl
  unfold wX0_tellTo at h
  generalize s.heap = H at hw ⊢
  generalize ([] : List Loc) = locs at hw ⊢
  refine lv_aload_n hx hb dX0_tellTo_0 rfl (lv_at hl 0 rfl) ?_
  refine fr_Vi (wN := fun _ : Unit => (lW z qL L ++ (pW z qP P))) M (m_X0_firstBadPlace l z qL L _ h) (cwV 0 hts (gdV cd_X0_firstBadPlace ml_X0_19 im_X0_firstBadPlace se_X0_firstBadPlace in_X0) rfl rfl rfl hdV_X0_firstBadPlace ⟨(Nat.le_of_ble_eq_true rfl), (Nat.le_of_ble_eq_true rfl)⟩) cut_9 prm_9 0 rfl rfl rfl hw rfl hl.1 rfl (Nat.le_of_ble_eq_true rfl) dX0_tellTo_1 (fun r_1 u_ H locs h hw => ?_)
  have hw : Hw s z A (lW z qL L ++ (pW z qP P)) H locs := hw
  try dsimp only at h
  refine lv_istore_n (lv' := [(2, .int r_1), (0, .ref (qL 0)), (1, .ref (qP 0))]) hx hb dX0_tellTo_4 rfl hl (by decide) rfl (fun ls hl => ?_)
  refine lv_iload_n hx hb dX0_tellTo_5 rfl (lv_at hl 0 rfl) ?_
  refine lv_bipush (v := -9) hx hb dX0_tellTo_6 (by decide) ?_
  refine lv_icmp_eq (tgt := 17) hx hb dX0_tellTo_8 (by decide) (fun c_2 => ?_) (fun c_2 => ?_)
  · replace h := iT c_2 h
    refine lv_iconst (v := 0) hx hb dX0_tellTo_17 (by decide) ?_
    refine lv_istore_n (lv' := [(3, .int (0 : Int32)), (2, .int r_1), (0, .ref (qL 0)), (1, .ref (qP 0))]) hx hb dX0_tellTo_18 rfl hl (by decide) rfl (fun ls hl => ?_)
    refine lv_iconst (v := 1) hx hb dX0_tellTo_19 (by decide) ?_
    refine lv_istore (lv' := [(4, .int (1 : Int32)), (3, .int (0 : Int32)), (2, .int r_1), (0, .ref (qL 0)), (1, .ref (qP 0))]) hx hb dX0_tellTo_20 hl (by decide) rfl (fun ls hl => ?_)
    refine lv_iconst (v := 0) hx hb dX0_tellTo_22 (by decide) ?_
    refine lv_istore (lv' := [(5, .int (0 : Int32)), (4, .int (1 : Int32)), (3, .int (0 : Int32)), (2, .int r_1), (0, .ref (qL 0)), (1, .ref (qP 0))]) hx hb dX0_tellTo_23 hl (by decide) rfl (fun ls hl => ?_)
    obtain ⟨n0, h⟩ := h; exact kX0_tellTo_25 M n0 P (0 : Int32) (0 : Int32) H locs ls hw (lv_sub hl [4, 5, 2, 0] rfl) h
  · replace h := iF c_2 h
    refine lv_sipush (v := -1000) hx hb dX0_tellTo_11 (by decide) ?_
    refine lv_iload_n hx hb dX0_tellTo_14 rfl (lv_at hl 0 rfl) ?_
    refine lv_isub hx hb dX0_tellTo_15 ?_
    exact rt_i M P hw h dX0_tellTo_16
