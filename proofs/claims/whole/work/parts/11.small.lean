/-! ===== Integer, numbers, Net, Scale, Told (laid by wip/whole/gen.py) ===== -/
theorem hdS_J6_bitCount_0f7a4 : yJ6_bitCount_0f7a4.cls ≠ "java/lang/invoke/MethodHandle" ∧ yJ6_bitCount_0f7a4.cls ≠ "java/lang/invoke/VarHandle" ∧ (parseMethodDescriptor yJ6_bitCount_0f7a4.desc).map (fun d => d.parameters.length) = some 1 := by decide +kernel
theorem hdS_J6_numberOfTrailingZeros_0f7a4 : yJ6_numberOfTrailingZeros_0f7a4.cls ≠ "java/lang/invoke/MethodHandle" ∧ yJ6_numberOfTrailingZeros_0f7a4.cls ≠ "java/lang/invoke/VarHandle" ∧ (parseMethodDescriptor yJ6_numberOfTrailingZeros_0f7a4.desc).map (fun d => d.parameters.length) = some 1 := by decide +kernel
theorem hdS_X6_rangeFault : yX6_rangeFault.cls ≠ "java/lang/invoke/MethodHandle" ∧ yX6_rangeFault.cls ≠ "java/lang/invoke/VarHandle" ∧ (parseMethodDescriptor yX6_rangeFault.desc).map (fun d => d.parameters.length) = some 3 := by decide +kernel
theorem hdS_X6_hasBit : yX6_hasBit.cls ≠ "java/lang/invoke/MethodHandle" ∧ yX6_hasBit.cls ≠ "java/lang/invoke/VarHandle" ∧ (parseMethodDescriptor yX6_hasBit.desc).map (fun d => d.parameters.length) = some 2 := by decide +kernel
theorem hdS_X6_power : yX6_power.cls ≠ "java/lang/invoke/MethodHandle" ∧ yX6_power.cls ≠ "java/lang/invoke/VarHandle" ∧ (parseMethodDescriptor yX6_power.desc).map (fun d => d.parameters.length) = some 2 := by decide +kernel
theorem hdS_X6_inLeastTerms : yX6_inLeastTerms.cls ≠ "java/lang/invoke/MethodHandle" ∧ yX6_inLeastTerms.cls ≠ "java/lang/invoke/VarHandle" ∧ (parseMethodDescriptor yX6_inLeastTerms.desc).map (fun d => d.parameters.length) = some 3 := by decide +kernel
theorem hdS_X2_hangingWith : yX2_hangingWith.cls ≠ "java/lang/invoke/MethodHandle" ∧ yX2_hangingWith.cls ≠ "java/lang/invoke/VarHandle" ∧ (parseMethodDescriptor yX2_hangingWith.desc).map (fun d => d.parameters.length) = some 2 := by decide +kernel
theorem hdS_X2_pieces : yX2_pieces.cls ≠ "java/lang/invoke/MethodHandle" ∧ yX2_pieces.cls ≠ "java/lang/invoke/VarHandle" ∧ (parseMethodDescriptor yX2_pieces.desc).map (fun d => d.parameters.length) = some 1 := by decide +kernel
theorem hdS_X2_greatestPiece : yX2_greatestPiece.cls ≠ "java/lang/invoke/MethodHandle" ∧ yX2_greatestPiece.cls ≠ "java/lang/invoke/VarHandle" ∧ (parseMethodDescriptor yX2_greatestPiece.desc).map (fun d => d.parameters.length) = some 1 := by decide +kernel
theorem hdS_X2_hasRing : yX2_hasRing.cls ≠ "java/lang/invoke/MethodHandle" ∧ yX2_hasRing.cls ≠ "java/lang/invoke/VarHandle" ∧ (parseMethodDescriptor yX2_hasRing.desc).map (fun d => d.parameters.length) = some 1 := by decide +kernel
theorem hdS_X2_heavierThan : yX2_heavierThan.cls ≠ "java/lang/invoke/MethodHandle" ∧ yX2_heavierThan.cls ≠ "java/lang/invoke/VarHandle" ∧ (parseMethodDescriptor yX2_heavierThan.desc).map (fun d => d.parameters.length) = some 2 := by decide +kernel
theorem hdS_X2_heaviestAbove : yX2_heaviestAbove.cls ≠ "java/lang/invoke/MethodHandle" ∧ yX2_heaviestAbove.cls ≠ "java/lang/invoke/VarHandle" ∧ (parseMethodDescriptor yX2_heaviestAbove.desc).map (fun d => d.parameters.length) = some 2 := by decide +kernel
theorem hdS_X4_rankOf : yX4_rankOf.cls ≠ "java/lang/invoke/MethodHandle" ∧ yX4_rankOf.cls ≠ "java/lang/invoke/VarHandle" ∧ (parseMethodDescriptor yX4_rankOf.desc).map (fun d => d.parameters.length) = some 2 := by decide +kernel
theorem hdS_X4_ranked : yX4_ranked.cls ≠ "java/lang/invoke/MethodHandle" ∧ yX4_ranked.cls ≠ "java/lang/invoke/VarHandle" ∧ (parseMethodDescriptor yX4_ranked.desc).map (fun d => d.parameters.length) = some 2 := by decide +kernel
theorem hdS_X4_countInside : yX4_countInside.cls ≠ "java/lang/invoke/MethodHandle" ∧ yX4_countInside.cls ≠ "java/lang/invoke/VarHandle" ∧ (parseMethodDescriptor yX4_countInside.desc).map (fun d => d.parameters.length) = some 3 := by decide +kernel
theorem hdS_X4_heftTogether : yX4_heftTogether.cls ≠ "java/lang/invoke/MethodHandle" ∧ yX4_heftTogether.cls ≠ "java/lang/invoke/VarHandle" ∧ (parseMethodDescriptor yX4_heftTogether.desc).map (fun d => d.parameters.length) = some 2 := by decide +kernel
theorem hdS_X4_counterweight : yX4_counterweight.cls ≠ "java/lang/invoke/MethodHandle" ∧ yX4_counterweight.cls ≠ "java/lang/invoke/VarHandle" ∧ (parseMethodDescriptor yX4_counterweight.desc).map (fun d => d.parameters.length) = some 2 := by decide +kernel
theorem hdS_X4_mostAlike : yX4_mostAlike.cls ≠ "java/lang/invoke/MethodHandle" ∧ yX4_mostAlike.cls ≠ "java/lang/invoke/VarHandle" ∧ (parseMethodDescriptor yX4_mostAlike.desc).map (fun d => d.parameters.length) = some 2 := by decide +kernel
theorem hdS_X4_apart : yX4_apart.cls ≠ "java/lang/invoke/MethodHandle" ∧ yX4_apart.cls ≠ "java/lang/invoke/VarHandle" ∧ (parseMethodDescriptor yX4_apart.desc).map (fun d => d.parameters.length) = some 2 := by decide +kernel
theorem hdS_X4_firstSide : yX4_firstSide.cls ≠ "java/lang/invoke/MethodHandle" ∧ yX4_firstSide.cls ≠ "java/lang/invoke/VarHandle" ∧ (parseMethodDescriptor yX4_firstSide.desc).map (fun d => d.parameters.length) = some 1 := by decide +kernel
theorem hdV_X5_add : yX5_add.cls = RX5 ∧ yX5_add.cls ≠ "java/lang/invoke/MethodHandle" ∧ yX5_add.cls ≠ "java/lang/invoke/VarHandle" ∧ (parseMethodDescriptor yX5_add.desc).map (fun d => d.parameters.length) = some 1 := by decide +kernel
theorem hdS_X5_isLighter : yX5_isLighter.cls ≠ "java/lang/invoke/MethodHandle" ∧ yX5_isLighter.cls ≠ "java/lang/invoke/VarHandle" ∧ (parseMethodDescriptor yX5_isLighter.desc).map (fun d => d.parameters.length) = some 3 := by decide +kernel
theorem hdV_X5_firstWrong : yX5_firstWrong.cls = RX5 ∧ yX5_firstWrong.cls ≠ "java/lang/invoke/MethodHandle" ∧ yX5_firstWrong.cls ≠ "java/lang/invoke/VarHandle" ∧ (parseMethodDescriptor yX5_firstWrong.desc).map (fun d => d.parameters.length) = some 1 := by decide +kernel
theorem cut_0 {z : KT} {qN : Nat → Nat} {qP : Nat → Nat} {N : RT} {P : RT} : Cut (nW z qN N ++ (pW z qP P)) (pW z qP P) (nW z qN N) := ⟨[2, 3, 4, 5, 6, 7, 8, 9], [0, 1], rfl, rfl, rfl, rfl, by decide⟩
theorem prm_0 {z : KT} {qN : Nat → Nat} {qP : Nat → Nat} {N : RT} {P : RT} : Prm (S := Unit) (nW z qN N) (fun _ => (pW z qP P)) (fun _ => (nW z qN N ++ (pW z qP P))) := ⟨[0, 1, 2, 3, 4, 5, 6, 7, 8, 9], rfl, fun _ => rfl⟩
def wJ6_bitCount (x0 : Int32) (Q : Int32 → Prop) : Prop := (∀ x0_1 : Int32, x0_1 = (x0 - ((((x0).toUInt32 >>> (((1 : Int32)).toUInt32 &&& Int32.toUInt32 31)).toInt32) &&& (1431655765 : Int32))) → (∀ x0_2 : Int32, x0_2 = ((x0_1 &&& (858993459 : Int32)) + ((((x0_1).toUInt32 >>> (((2 : Int32)).toUInt32 &&& Int32.toUInt32 31)).toInt32) &&& (858993459 : Int32))) → (∀ x0_3 : Int32, x0_3 = ((x0_2 + (((x0_2).toUInt32 >>> (((4 : Int32)).toUInt32 &&& Int32.toUInt32 31)).toInt32)) &&& (252645135 : Int32)) → (∀ x0_4 : Int32, x0_4 = (x0_3 + (((x0_3).toUInt32 >>> (((8 : Int32)).toUInt32 &&& Int32.toUInt32 31)).toInt32)) → (∀ x0_5 : Int32, x0_5 = (x0_4 + (((x0_4).toUInt32 >>> (((16 : Int32)).toUInt32 &&& Int32.toUInt32 31)).toInt32)) → (Q (x0_5 &&& (63 : Int32))))))))
def bJ6_numberOfTrailingZeros_62 (Q : Int32 → Prop) (x0 : Int32) (x1 : Int32) : Prop := (if x0 ≤ (4 : Int32) then (Q (x1 + (((x0).toUInt32 >>> (((1 : Int32)).toUInt32 &&& Int32.toUInt32 31)).toInt32))) else (∀ x1_2 : Int32, x1_2 = (x1 + (2 : Int32)) → (∀ x0_3 : Int32, x0_3 = (((x0).toUInt32 >>> (((2 : Int32)).toUInt32 &&& Int32.toUInt32 31)).toInt32) → (Q (x1_2 + (((x0_3).toUInt32 >>> (((1 : Int32)).toUInt32 &&& Int32.toUInt32 31)).toInt32))))))
def bJ6_numberOfTrailingZeros_49 (Q : Int32 → Prop) (x0 : Int32) (x1 : Int32) : Prop := (if x0 ≤ (16 : Int32) then (bJ6_numberOfTrailingZeros_62 Q x0 x1) else (∀ x1_2 : Int32, x1_2 = (x1 + (4 : Int32)) → (∀ x0_3 : Int32, x0_3 = (((x0).toUInt32 >>> (((4 : Int32)).toUInt32 &&& Int32.toUInt32 31)).toInt32) → (bJ6_numberOfTrailingZeros_62 Q x0_3 x1_2))))
def bJ6_numberOfTrailingZeros_34 (Q : Int32 → Prop) (x0 : Int32) (x1 : Int32) : Prop := (if x0 ≤ (256 : Int32) then (bJ6_numberOfTrailingZeros_49 Q x0 x1) else (∀ x1_2 : Int32, x1_2 = (x1 + (8 : Int32)) → (∀ x0_3 : Int32, x0_3 = (((x0).toUInt32 >>> (((8 : Int32)).toUInt32 &&& Int32.toUInt32 31)).toInt32) → (bJ6_numberOfTrailingZeros_49 Q x0_3 x1_2))))
def wJ6_numberOfTrailingZeros (x0 : Int32) (Q : Int32 → Prop) : Prop := (∀ x0_1 : Int32, x0_1 = ((x0 ^^^ (-1 : Int32)) &&& (x0 - (1 : Int32))) → (if (0 : Int32) < x0_1 then (if x0_1 ≤ (65536 : Int32) then (bJ6_numberOfTrailingZeros_34 Q x0_1 (1 : Int32)) else (∀ x1_4 : Int32, x1_4 = ((1 : Int32) + (16 : Int32)) → (∀ x0_5 : Int32, x0_5 = (((x0_1).toUInt32 >>> (((16 : Int32)).toUInt32 &&& Int32.toUInt32 31)).toInt32) → (bJ6_numberOfTrailingZeros_34 Q x0_5 x1_4)))) else (Q (x0_1 &&& (32 : Int32)))))
def wX6_rangeFault (x0 : Int32) (x1 : Int32) (x2 : Int32) (Q : Int32 → Prop) : Prop := (if x1 ≤ x0 then (if x0 ≤ x2 then (Q (0 : Int32)) else (Q (-6 : Int32))) else (Q (-4 : Int32)))
def wX6_hasBit (x0 : Int32) (x1 : Int32) (Q : Int32 → Prop) : Prop := (if (x0 &&& ((1 : Int32) <<< (x1 &&& 31))) = (0 : Int32) then (Q (0 : Int32)) else (Q (1 : Int32)))
def bX6_power_5 (Q : Int64 → Prop) : Nat → Int64 → Int32 → Int64 → Int32 → Prop
  | 0, _, _, _, _ => False
  | n + 1, y0, x2, y3, x5 => (if x2 ≤ x5 then (Q y3) else (∀ y3_2 : Int64, y3_2 = (y3 * y0) → (∀ x5_3 : Int32, x5_3 = (x5 + (1 : Int32)) → (bX6_power_5 Q n y0 x2 y3_2 x5_3))))
def wX6_power (y0 : Int64) (x2 : Int32) (Q : Int64 → Prop) : Prop := (∃ j : Nat, bX6_power_5 Q j y0 x2 (1 : Int64) (0 : Int32))
def bX6_inLeastTerms_44 (Q : Int64 → Prop) (y0 : Int64) (y2 : Int64) (x4 : Int32) (y5 : Int64) : Prop := (if (lg_cmp y5 (0 : Int64)) = (0 : Int32) then (Q ((x4).toInt64)) else (if x4 = (0 : Int32) then (¬ y5 = 0 ∧ (Q (y0 / y5))) else (¬ y5 = 0 ∧ (Q (y2 / y5)))))
def bX6_inLeastTerms_9 (Q : Int64 → Prop) : Nat → Int64 → Int64 → Int32 → Int64 → Int64 → Int32 → Prop
  | 0, _, _, _, _, _, _ => False
  | n + 1, y0, y2, x4, y5, y7, x9 => (if (100 : Int32) ≤ x9 then (bX6_inLeastTerms_44 Q y0 y2 x4 y5) else (if (lg_cmp y7 (0 : Int64)) = (0 : Int32) then (bX6_inLeastTerms_44 Q y0 y2 x4 y5) else (¬ y7 = 0 ∧ (∀ y10_4 : Int64, y10_4 = (y5 - y5 / y7 * y7) → (∀ x9_5 : Int32, x9_5 = (x9 + (1 : Int32)) → (bX6_inLeastTerms_9 Q n y0 y2 x4 y7 y10_4 x9_5))))))
def wX6_inLeastTerms (y0 : Int64) (y2 : Int64) (x4 : Int32) (Q : Int64 → Prop) : Prop := (∃ j : Nat, bX6_inLeastTerms_9 Q j y0 y2 x4 y2 y0 (0 : Int32))
def bX2_hangingWith_59 (K6 : Int32 → Int32 → Prop) (K17 : Int32 → Int32 → Int32 → Prop) (P : RT) (Q : Int32 → Prop) (x2 : Int32) (x3 : Int32) (x4 : Int32) : Prop := (∀ x4_1 : Int32, x4_1 = (x4 + (1 : Int32)) → (K17 x2 x3 x4_1))
def bX2_hangingWith_17 (K6 : Int32 → Int32 → Prop) (P : RT) (Q : Int32 → Prop) : Nat → Int32 → Int32 → Int32 → Prop
  | 0, _, _, _ => False
  | n + 1, x2, x3, x4 => (if (P 30 8) ≤ x4 then (∀ x3_2 : Int32, x3_2 = (x3 + (1 : Int32)) → (K6 x2 x3_2)) else (vp_in x4 6 ∧ (∀ x5_4 : Int32, x5_4 = (((1 : Int32) <<< ((P 5 (x4).toNatClampNeg) &&& 31)) ||| ((1 : Int32) <<< ((P 6 (x4).toNatClampNeg) &&& 31))) → (if (x2 &&& x5_4) = (0 : Int32) then (bX2_hangingWith_59 K6 (fun (x2_ : Int32) (x3_ : Int32) (x4_ : Int32) => bX2_hangingWith_17 K6 P Q n x2_ x3_ x4_) P Q x2 x3 x4) else (∀ x2_6 : Int32, x2_6 = (x2 ||| x5_4) → (bX2_hangingWith_59 K6 (fun (x2_ : Int32) (x3_ : Int32) (x4_ : Int32) => bX2_hangingWith_17 K6 P Q n x2_ x3_ x4_) P Q x2_6 x3 x4))))))
def bX2_hangingWith_6 (P : RT) (Q : Int32 → Prop) : Nat → Int32 → Int32 → Prop
  | 0, _, _ => False
  | n + 1, x2, x3 => (if (P 30 8) ≤ x3 then (Q x2) else (∃ j : Nat, bX2_hangingWith_17 (fun (x2_ : Int32) (x3_ : Int32) => bX2_hangingWith_6 P Q n x2_ x3_) P Q j x2 x3 (0 : Int32)))
def wX2_hangingWith (P : RT) (x1 : Int32) (Q : Int32 → Prop) : Prop := (∀ x2_1 : Int32, x2_1 = ((1 : Int32) <<< (x1 &&& 31)) → (∃ j : Nat, bX2_hangingWith_6 P Q j x2_1 (0 : Int32)))
def bX2_pieces_27 (K4 : Int32 → Int32 → Prop) (P : RT) (Q : Int32 → Prop) (x1 : Int32) (x2 : Int32) : Prop := (∀ x2_1 : Int32, x2_1 = (x2 + (1 : Int32)) → (K4 x1 x2_1))
def bX2_pieces_4 (P : RT) (Q : Int32 → Prop) : Nat → Int32 → Int32 → Prop
  | 0, _, _ => False
  | n + 1, x1, x2 => (if (P 30 7) ≤ x2 then (Q x1) else (wX2_hangingWith P x2 (fun (r_2 : Int32) => (wJ6_numberOfTrailingZeros  r_2 (fun (r_3 : Int32) => (if r_3 = x2 then (∀ x1_5 : Int32, x1_5 = (x1 + (1 : Int32)) → (bX2_pieces_27 (fun (x1_ : Int32) (x2_ : Int32) => bX2_pieces_4 P Q n x1_ x2_) P Q x1_5 x2)) else (bX2_pieces_27 (fun (x1_ : Int32) (x2_ : Int32) => bX2_pieces_4 P Q n x1_ x2_) P Q x1 x2)))))))
def wX2_pieces (P : RT) (Q : Int32 → Prop) : Prop := (∃ j : Nat, bX2_pieces_4 P Q j (0 : Int32) (0 : Int32))
def bX2_greatestPiece_4 (P : RT) (Q : Int32 → Prop) : Nat → Int32 → Int32 → Prop
  | 0, _, _ => False
  | n + 1, x1, x2 => (if (P 30 7) ≤ x2 then (Q x1) else (wX2_hangingWith P x2 (fun (r_2 : Int32) => (wJ6_bitCount  r_2 (fun (r_3 : Int32) => (∀ x1_4 : Int32, x1_4 = (if x1 < r_3 then r_3 else x1) → (∀ x2_5 : Int32, x2_5 = (x2 + (1 : Int32)) → (bX2_greatestPiece_4 P Q n x1_4 x2_5))))))))
def wX2_greatestPiece (P : RT) (Q : Int32 → Prop) : Prop := (∃ j : Nat, bX2_greatestPiece_4 P Q j (0 : Int32) (0 : Int32))
def wX2_hasRing (P : RT) (Q : Int32 → Prop) : Prop := (wX2_pieces P  (fun (r_1 : Int32) => (if (P 30 8) ≤ ((P 30 7) - r_1) then (Q (0 : Int32)) else (Q (1 : Int32)))))
def bX2_heavierThan_63 (K6 : Int32 → Int32 → Int32 → Prop) (K17 : Int32 → Int32 → Int32 → Int32 → Prop) (P : RT) (Q : Int32 → Prop) (x1 : Int32) (x2 : Int32) (x3 : Int32) (x4 : Int32) : Prop := (∀ x4_1 : Int32, x4_1 = (x4 + (1 : Int32)) → (K17 x1 x2 x3 x4_1))
def bX2_heavierThan_17 (K6 : Int32 → Int32 → Int32 → Prop) (P : RT) (Q : Int32 → Prop) : Nat → Int32 → Int32 → Int32 → Int32 → Prop
  | 0, _, _, _, _ => False
  | n + 1, x1, x2, x3, x4 => (if (P 30 8) ≤ x4 then (∀ x3_2 : Int32, x3_2 = (x3 + (1 : Int32)) → (K6 x1 x2 x3_2)) else (wX3_heavierEnd P x4 (fun (r_3 : Int32) => (if r_3 = (-9 : Int32) then (bX2_heavierThan_63 K6 (fun (x1_ : Int32) (x2_ : Int32) (x3_ : Int32) (x4_ : Int32) => bX2_heavierThan_17 K6 P Q n x1_ x2_ x3_ x4_) P Q x1 x2 x3 x4) else (wX3_farEnd P x4 r_3 (fun (r_5 : Int32) => (wX6_hasBit  x2 r_5 (fun (r_6 : Int32) => (if r_6 = (0 : Int32) then (bX2_heavierThan_63 K6 (fun (x1_ : Int32) (x2_ : Int32) (x3_ : Int32) (x4_ : Int32) => bX2_heavierThan_17 K6 P Q n x1_ x2_ x3_ x4_) P Q x1 x2 x3 x4) else (∀ x2_8 : Int32, x2_8 = (x2 ||| ((1 : Int32) <<< (r_3 &&& 31))) → (bX2_heavierThan_63 K6 (fun (x1_ : Int32) (x2_ : Int32) (x3_ : Int32) (x4_ : Int32) => bX2_heavierThan_17 K6 P Q n x1_ x2_ x3_ x4_) P Q x1 x2_8 x3 x4)))))))))))
def bX2_heavierThan_6 (P : RT) (Q : Int32 → Prop) : Nat → Int32 → Int32 → Int32 → Prop
  | 0, _, _, _ => False
  | n + 1, x1, x2, x3 => (if (P 30 8) ≤ x3 then (Q (x2 &&& (((1 : Int32) <<< (x1 &&& 31)) ^^^ (-1 : Int32)))) else (∃ j : Nat, bX2_heavierThan_17 (fun (x1_ : Int32) (x2_ : Int32) (x3_ : Int32) => bX2_heavierThan_6 P Q n x1_ x2_ x3_) P Q j x1 x2 x3 (0 : Int32)))
def wX2_heavierThan (P : RT) (x1 : Int32) (Q : Int32 → Prop) : Prop := (∀ x2_1 : Int32, x2_1 = ((1 : Int32) <<< (x1 &&& 31)) → (∃ j : Nat, bX2_heavierThan_6 P Q j x1 x2_1 (0 : Int32)))
def bX2_heaviestAbove_58 (K18 : Int32 → Int32 → Int32 → Int32 → Prop) (P : RT) (Q : Int32 → Prop) (x2 : Int32) (x3 : Int32) (x4 : Int32) (x5 : Int32) : Prop := (∀ x5_1 : Int32, x5_1 = (x5 + (1 : Int32)) → (K18 x2 x3 x4 x5_1))
def bX2_heaviestAbove_18 (P : RT) (Q : Int32 → Prop) : Nat → Int32 → Int32 → Int32 → Int32 → Prop
  | 0, _, _, _, _ => False
  | n + 1, x2, x3, x4, x5 => (if (P 30 7) ≤ x5 then (Q x3) else (wX6_hasBit  x2 x5 (fun (r_2 : Int32) => (if r_2 = (0 : Int32) then (bX2_heaviestAbove_58 (fun (x2_ : Int32) (x3_ : Int32) (x4_ : Int32) (x5_ : Int32) => bX2_heaviestAbove_18 P Q n x2_ x3_ x4_ x5_) P Q x2 x3 x4 x5) else (wX3_heftOf P x5 (fun (r_4 : Int32) => (if r_4 ≤ x4 then (bX2_heaviestAbove_58 (fun (x2_ : Int32) (x3_ : Int32) (x4_ : Int32) (x5_ : Int32) => bX2_heaviestAbove_18 P Q n x2_ x3_ x4_ x5_) P Q x2 x3 x4 x5) else (wX3_heftOf P x5 (fun (r_6 : Int32) => (bX2_heaviestAbove_58 (fun (x2_ : Int32) (x3_ : Int32) (x4_ : Int32) (x5_ : Int32) => bX2_heaviestAbove_18 P Q n x2_ x3_ x4_ x5_) P Q x2 x5 r_6 x5))))))))))
def wX2_heaviestAbove (P : RT) (x1 : Int32) (Q : Int32 → Prop) : Prop := (wX2_heavierThan P x1 (fun (r_1 : Int32) => (wX3_heftOf P x1 (fun (r_2 : Int32) => (∃ j : Nat, bX2_heaviestAbove_18 P Q j r_1 x1 r_2 (0 : Int32))))))
def bX4_rankOf_49 (K11 : Int32 → Int32 → Int32 → Int32 → Prop) (P : RT) (Q : Int32 → Prop) (x1 : Int32) (x2 : Int32) (x3 : Int32) (x4 : Int32) : Prop := (∀ x4_1 : Int32, x4_1 = (x4 + (1 : Int32)) → (K11 x1 x2 x3 x4_1))
def bX4_rankOf_46 (K11 : Int32 → Int32 → Int32 → Int32 → Prop) (P : RT) (Q : Int32 → Prop) (x1 : Int32) (x2 : Int32) (x3 : Int32) (x4 : Int32) : Prop := (∀ x3_1 : Int32, x3_1 = (x3 + (1 : Int32)) → (bX4_rankOf_49 K11 P Q x1 x2 x3_1 x4))
def bX4_rankOf_11 (P : RT) (Q : Int32 → Prop) : Nat → Int32 → Int32 → Int32 → Int32 → Prop
  | 0, _, _, _, _ => False
  | n + 1, x1, x2, x3, x4 => (if (P 30 7) ≤ x4 then (Q x3) else (wX3_heftOf P x4 (fun (r_2 : Int32) => (if x2 < r_2 then (bX4_rankOf_46 (fun (x1_ : Int32) (x2_ : Int32) (x3_ : Int32) (x4_ : Int32) => bX4_rankOf_11 P Q n x1_ x2_ x3_ x4_) P Q x1 x2 x3 x4) else (if r_2 = x2 then (if x1 ≤ x4 then (bX4_rankOf_49 (fun (x1_ : Int32) (x2_ : Int32) (x3_ : Int32) (x4_ : Int32) => bX4_rankOf_11 P Q n x1_ x2_ x3_ x4_) P Q x1 x2 x3 x4) else (bX4_rankOf_46 (fun (x1_ : Int32) (x2_ : Int32) (x3_ : Int32) (x4_ : Int32) => bX4_rankOf_11 P Q n x1_ x2_ x3_ x4_) P Q x1 x2 x3 x4)) else (bX4_rankOf_49 (fun (x1_ : Int32) (x2_ : Int32) (x3_ : Int32) (x4_ : Int32) => bX4_rankOf_11 P Q n x1_ x2_ x3_ x4_) P Q x1 x2 x3 x4))))))
def wX4_rankOf (P : RT) (x1 : Int32) (Q : Int32 → Prop) : Prop := (wX3_heftOf P x1 (fun (r_1 : Int32) => (∃ j : Nat, bX4_rankOf_11 P Q j x1 r_1 (0 : Int32) (0 : Int32))))
def bX4_ranked_2 (P : RT) (Q : Int32 → Prop) : Nat → Int32 → Int32 → Prop
  | 0, _, _ => False
  | n + 1, x1, x2 => (if (P 30 7) ≤ x2 then (Q (-9 : Int32)) else (wX4_rankOf P x2 (fun (r_2 : Int32) => (if r_2 = x1 then (Q x2) else (∀ x2_4 : Int32, x2_4 = (x2 + (1 : Int32)) → (bX4_ranked_2 P Q n x1 x2_4))))))
def wX4_ranked (P : RT) (x1 : Int32) (Q : Int32 → Prop) : Prop := (∃ j : Nat, bX4_ranked_2 P Q j x1 (0 : Int32))
def bX4_countInside_68 (K35 : Int32 → Int32 → Int32 → Int32 → Prop) (P : RT) (Q : Int32 → Prop) (x3 : Int32) (x4 : Int32) (x5 : Int32) (x6 : Int32) : Prop := (∀ x6_1 : Int32, x6_1 = (x6 + (1 : Int32)) → (K35 x3 x4 x5 x6_1))
def bX4_countInside_35 (P : RT) (Q : Int32 → Prop) : Nat → Int32 → Int32 → Int32 → Int32 → Prop
  | 0, _, _, _, _ => False
  | n + 1, x3, x4, x5, x6 => (if (P 30 7) ≤ x6 then (Q x5) else (wX3_heftOf P x6 (fun (r_2 : Int32) => (if r_2 ≤ x3 then (bX4_countInside_68 (fun (x3_ : Int32) (x4_ : Int32) (x5_ : Int32) (x6_ : Int32) => bX4_countInside_35 P Q n x3_ x4_ x5_ x6_) P Q x3 x4 x5 x6) else (if x4 ≤ r_2 then (bX4_countInside_68 (fun (x3_ : Int32) (x4_ : Int32) (x5_ : Int32) (x6_ : Int32) => bX4_countInside_35 P Q n x3_ x4_ x5_ x6_) P Q x3 x4 x5 x6) else (∀ x5_5 : Int32, x5_5 = (x5 + (1 : Int32)) → (bX4_countInside_68 (fun (x3_ : Int32) (x4_ : Int32) (x5_ : Int32) (x6_ : Int32) => bX4_countInside_35 P Q n x3_ x4_ x5_ x6_) P Q x3 x4 x5_5 x6)))))))
def wX4_countInside (P : RT) (x1 : Int32) (x2 : Int32) (Q : Int32 → Prop) : Prop := (wX3_heftOf P x1 (fun (r_1 : Int32) => (wX3_heftOf P x2 (fun (r_2 : Int32) => (∀ x3_3 : Int32, x3_3 = (if r_2 < r_1 then r_2 else r_1) → (wX3_heftOf P x1 (fun (r_4 : Int32) => (wX3_heftOf P x2 (fun (r_5 : Int32) => (∀ x4_6 : Int32, x4_6 = (if r_4 < r_5 then r_5 else r_4) → (∃ j : Nat, bX4_countInside_35 P Q j x3_3 x4_6 (0 : Int32) (0 : Int32))))))))))))
def bX4_heftTogether_28 (K4 : Int32 → Int32 → Int32 → Prop) (P : RT) (Q : Int32 → Prop) (x1 : Int32) (x2 : Int32) (x3 : Int32) : Prop := (∀ x3_1 : Int32, x3_1 = (x3 + (1 : Int32)) → (K4 x1 x2 x3_1))
def bX4_heftTogether_4 (P : RT) (Q : Int32 → Prop) : Nat → Int32 → Int32 → Int32 → Prop
  | 0, _, _, _ => False
  | n + 1, x1, x2, x3 => (if (P 30 7) ≤ x3 then (Q x2) else (wX6_hasBit  x1 x3 (fun (r_2 : Int32) => (if r_2 = (0 : Int32) then (bX4_heftTogether_28 (fun (x1_ : Int32) (x2_ : Int32) (x3_ : Int32) => bX4_heftTogether_4 P Q n x1_ x2_ x3_) P Q x1 x2 x3) else (wX3_heftOf P x3 (fun (r_4 : Int32) => (∀ x2_5 : Int32, x2_5 = (x2 + r_4) → (bX4_heftTogether_28 (fun (x1_ : Int32) (x2_ : Int32) (x3_ : Int32) => bX4_heftTogether_4 P Q n x1_ x2_ x3_) P Q x1 x2_5 x3))))))))
def wX4_heftTogether (P : RT) (x1 : Int32) (Q : Int32 → Prop) : Prop := (∃ j : Nat, bX4_heftTogether_4 P Q j x1 (0 : Int32) (0 : Int32))
def bX4_counterweight_67 (K16 : Int32 → Int32 → Int32 → Int32 → Int32 → Prop) (P : RT) (Q : Int32 → Prop) (x1 : Int32) (x2 : Int32) (x3 : Int32) (x4 : Int32) (x5 : Int32) : Prop := (∀ x5_1 : Int32, x5_1 = (x5 + (1 : Int32)) → (K16 x1 x2 x3 x4 x5_1))
def bX4_counterweight_16 (P : RT) (Q : Int32 → Prop) : Nat → Int32 → Int32 → Int32 → Int32 → Int32 → Prop
  | 0, _, _, _, _, _ => False
  | n + 1, x1, x2, x3, x4, x5 => (if ((1 : Int32) <<< ((P 30 7) &&& 31)) ≤ x5 then (Q x3) else (wJ6_bitCount  x5 (fun (r_2 : Int32) => (if x4 ≤ r_2 then (bX4_counterweight_67 (fun (x1_ : Int32) (x2_ : Int32) (x3_ : Int32) (x4_ : Int32) (x5_ : Int32) => bX4_counterweight_16 P Q n x1_ x2_ x3_ x4_ x5_) P Q x1 x2 x3 x4 x5) else (wX6_hasBit  x5 x1 (fun (r_4 : Int32) => (if r_4 = (0 : Int32) then (wX4_heftTogether P x5 (fun (r_6 : Int32) => (if r_6 = x2 then (bX4_counterweight_67 (fun (x1_ : Int32) (x2_ : Int32) (x3_ : Int32) (x4_ : Int32) (x5_ : Int32) => bX4_counterweight_16 P Q n x1_ x2_ x3_ x4_ x5_) P Q x1 x2 x5 r_2 x5) else (bX4_counterweight_67 (fun (x1_ : Int32) (x2_ : Int32) (x3_ : Int32) (x4_ : Int32) (x5_ : Int32) => bX4_counterweight_16 P Q n x1_ x2_ x3_ x4_ x5_) P Q x1 x2 x3 x4 x5)))) else (bX4_counterweight_67 (fun (x1_ : Int32) (x2_ : Int32) (x3_ : Int32) (x4_ : Int32) (x5_ : Int32) => bX4_counterweight_16 P Q n x1_ x2_ x3_ x4_ x5_) P Q x1 x2 x3 x4 x5))))))))
def wX4_counterweight (P : RT) (x1 : Int32) (Q : Int32 → Prop) : Prop := (wX3_heftOf P x1 (fun (r_1 : Int32) => (∃ j : Nat, bX4_counterweight_16 P Q j x1 r_1 (-9 : Int32) (9 : Int32) (0 : Int32))))
def bX4_mostAlike_58 (K16 : Int32 → Int32 → Int32 → Int32 → Int32 → Prop) (P : RT) (Q : Int32 → Prop) (x1 : Int32) (x2 : Int32) (x3 : Int32) (x4 : Int32) (x5 : Int32) : Prop := (∀ x5_1 : Int32, x5_1 = (x5 + (1 : Int32)) → (K16 x1 x2 x3 x4 x5_1))
def bX4_mostAlike_16 (P : RT) (Q : Int32 → Prop) : Nat → Int32 → Int32 → Int32 → Int32 → Int32 → Prop
  | 0, _, _, _, _, _ => False
  | n + 1, x1, x2, x3, x4, x5 => (if (P 30 7) ≤ x5 then (Q x3) else (wX3_heftOf P x5 (fun (r_2 : Int32) => (∀ x6_3 : Int32, x6_3 = (if 0 ≤ (r_2 - x2) then (r_2 - x2) else 0 - (r_2 - x2)) → (if x5 = x1 then (bX4_mostAlike_58 (fun (x1_ : Int32) (x2_ : Int32) (x3_ : Int32) (x4_ : Int32) (x5_ : Int32) => bX4_mostAlike_16 P Q n x1_ x2_ x3_ x4_ x5_) P Q x1 x2 x3 x4 x5) else (if x4 ≤ x6_3 then (bX4_mostAlike_58 (fun (x1_ : Int32) (x2_ : Int32) (x3_ : Int32) (x4_ : Int32) (x5_ : Int32) => bX4_mostAlike_16 P Q n x1_ x2_ x3_ x4_ x5_) P Q x1 x2 x3 x4 x5) else (bX4_mostAlike_58 (fun (x1_ : Int32) (x2_ : Int32) (x3_ : Int32) (x4_ : Int32) (x5_ : Int32) => bX4_mostAlike_16 P Q n x1_ x2_ x3_ x4_ x5_) P Q x1 x2 x5 x6_3 x5)))))))
def wX4_mostAlike (P : RT) (x1 : Int32) (Q : Int32 → Prop) : Prop := (wX3_heftOf P x1 (fun (r_1 : Int32) => (∃ j : Nat, bX4_mostAlike_16 P Q j x1 r_1 (-9 : Int32) (1000000 : Int32) (0 : Int32))))
def wX4_apart (P : RT) (x1 : Int32) (Q : Int32 → Prop) : Prop := (wX4_heftTogether P x1 (fun (r_1 : Int32) => (wX3_allHeft P  (fun (r_2 : Int32) => (Q (if 0 ≤ (((2 : Int32) * r_1) - r_2) then (((2 : Int32) * r_1) - r_2) else 0 - (((2 : Int32) * r_1) - r_2)))))))
def bX4_firstSide_36 (K8 : Int32 → Int32 → Int32 → Prop) (P : RT) (Q : Int32 → Prop) (x1 : Int32) (x2 : Int32) (x3 : Int32) : Prop := (∀ x3_1 : Int32, x3_1 = (x3 + (2 : Int32)) → (K8 x1 x2 x3_1))
def bX4_firstSide_8 (P : RT) (Q : Int32 → Prop) : Nat → Int32 → Int32 → Int32 → Prop
  | 0, _, _, _ => False
  | n + 1, x1, x2, x3 => (if ((1 : Int32) <<< ((P 30 7) &&& 31)) ≤ x3 then (Q x1) else (wX4_apart P x3 (fun (r_2 : Int32) => (if x2 ≤ r_2 then (bX4_firstSide_36 (fun (x1_ : Int32) (x2_ : Int32) (x3_ : Int32) => bX4_firstSide_8 P Q n x1_ x2_ x3_) P Q x1 x2 x3) else (bX4_firstSide_36 (fun (x1_ : Int32) (x2_ : Int32) (x3_ : Int32) => bX4_firstSide_8 P Q n x1_ x2_ x3_) P Q x3 r_2 x3)))))
def wX4_firstSide (P : RT) (Q : Int32 → Prop) : Prop := (∃ j : Nat, bX4_firstSide_8 P Q j (-9 : Int32) (1000000 : Int32) (1 : Int32))
def wX5_add (N : RT) (x1 : Int32) (Q : Int32 → RT → Prop) : Prop := (vp_in (N 30 1) 16 ∧ (∀ N_2 : RT, N_2 = set2 N 0 ((N 30 1)).toNatClampNeg x1 → (∀ N_3 : RT, N_3 = set2 N_2 30 1 ((N_2 30 1) + (1 : Int32)) → (Q (N_3 30 1) N_3))))
def wX5_isLighter (P : RT) (x1 : Int32) (x2 : Int32) (Q : Int32 → Prop) : Prop := (wX3_hasPair P x1 x2 (fun (r_1 : Int32) => (if r_1 = (0 : Int32) then (Q (0 : Int32)) else (wX3_heftOf P x1 (fun (r_3 : Int32) => (wX3_heftOf P x2 (fun (r_4 : Int32) => (if r_4 ≤ r_3 then (Q (0 : Int32)) else (Q (1 : Int32))))))))))
def bX5_firstWrong_2 (N : RT) (P : RT) (Q : Int32 → Prop) : Nat → Int32 → Prop
  | 0, _ => False
  | n + 1, x2 => (if (N 30 1) ≤ x2 then (Q (-9 : Int32)) else (if (N 30 1) ≤ (x2 + (1 : Int32)) then (Q x2) else (vp_in x2 16 ∧ (wX3_hasThing P (N 0 (x2).toNatClampNeg) (fun (r_4 : Int32) => (if r_4 = (0 : Int32) then (Q x2) else (vp_in (x2 + (1 : Int32)) 16 ∧ (wX5_isLighter P (N 0 (x2).toNatClampNeg) (N 0 ((x2 + (1 : Int32))).toNatClampNeg) (fun (r_7 : Int32) => (if r_7 = (0 : Int32) then (Q (x2 + (1 : Int32))) else (∀ x2_9 : Int32, x2_9 = (x2 + (2 : Int32)) → (bX5_firstWrong_2 N P Q n x2_9))))))))))))
def wX5_firstWrong (N : RT) (P : RT) (Q : Int32 → Prop) : Prop := (∃ j : Nat, bX5_firstWrong_2 N P Q j (0 : Int32))
abbrev rmJ6_bitCount : Room := { frames := 0, cells := 0, slots := 0, locals := 0 }
set_option maxHeartbeats 4000000 in
set_option maxRecDepth 100000 in
theorem m_J6_bitCount (l : Launch) (z : KT) (x0 : Int32) (Q : Int32 → Prop) (h : wJ6_bitCount x0 Q) : CI l yJ6_bitCount_0f7a4 cJ6_bitCount_0f7a4 1 .int rmJ6_bitCount z [.int x0] ([] : va_W) (fun _ : Unit => ([] : va_W)) (fun (r : Int32) (_ : Unit) => Q r) := by
  refine CI.of rfl (Nat.le_of_ble_eq_true rfl) ?_
  intro p e s m below meth c A ls M hw hl
  have M : Mc p s m _ meth c cJ6_bitCount_0f7a4 1 (some .int) RJ6 z A := M
  obtain ⟨hx, hb, -, -, hown, hts, -, -, -, hN, hsr, -⟩ := id M
  have hl : lv_has ls 1 [(0, .int x0)] := hl
  unfold wJ6_bitCount at h
  generalize s.heap = H at hw ⊢
  generalize ([] : List Loc) = locs at hw ⊢
  refine lv_iload_n hx hb dJ6_bitCount_0f7a4_0 rfl (lv_at hl 0 rfl) ?_
  refine lv_iload_n hx hb dJ6_bitCount_0f7a4_1 rfl (lv_at hl 0 rfl) ?_
  refine lv_iconst (v := 1) hx hb dJ6_bitCount_0f7a4_2 (by decide) ?_
  refine lv_iushr hx hb dJ6_bitCount_0f7a4_3 rfl ?_
  refine lv_ldcw hx hb hown (hts _ cn_J6_265) dJ6_bitCount_0f7a4_4 ?_
  refine lv_iand hx hb dJ6_bitCount_0f7a4_7 ?_
  refine lv_isub hx hb dJ6_bitCount_0f7a4_8 ?_
  refine lv_topi (fun x0_1 ex0_1 => ?_)
  replace h := h x0_1 ex0_1
  refine lv_istore_n (lv' := [(0, .int x0_1)]) hx hb dJ6_bitCount_0f7a4_9 rfl hl (by decide) rfl (fun ls hl => ?_)
  refine lv_iload_n hx hb dJ6_bitCount_0f7a4_10 rfl (lv_at hl 0 rfl) ?_
  refine lv_ldcw hx hb hown (hts _ cn_J6_266) dJ6_bitCount_0f7a4_11 ?_
  refine lv_iand hx hb dJ6_bitCount_0f7a4_14 ?_
  refine lv_iload_n hx hb dJ6_bitCount_0f7a4_15 rfl (lv_at hl 0 rfl) ?_
  refine lv_iconst (v := 2) hx hb dJ6_bitCount_0f7a4_16 (by decide) ?_
  refine lv_iushr hx hb dJ6_bitCount_0f7a4_17 rfl ?_
  refine lv_ldcw hx hb hown (hts _ cn_J6_266) dJ6_bitCount_0f7a4_18 ?_
  refine lv_iand hx hb dJ6_bitCount_0f7a4_21 ?_
  refine lv_iadd hx hb dJ6_bitCount_0f7a4_22 ?_
  refine lv_topi (fun x0_2 ex0_2 => ?_)
  replace h := h x0_2 ex0_2
  refine lv_istore_n (lv' := [(0, .int x0_2)]) hx hb dJ6_bitCount_0f7a4_23 rfl hl (by decide) rfl (fun ls hl => ?_)
  refine lv_iload_n hx hb dJ6_bitCount_0f7a4_24 rfl (lv_at hl 0 rfl) ?_
  refine lv_iload_n hx hb dJ6_bitCount_0f7a4_25 rfl (lv_at hl 0 rfl) ?_
  refine lv_iconst (v := 4) hx hb dJ6_bitCount_0f7a4_26 (by decide) ?_
  refine lv_iushr hx hb dJ6_bitCount_0f7a4_27 rfl ?_
  refine lv_iadd hx hb dJ6_bitCount_0f7a4_28 ?_
  refine lv_ldcw hx hb hown (hts _ cn_J6_267) dJ6_bitCount_0f7a4_29 ?_
  refine lv_iand hx hb dJ6_bitCount_0f7a4_32 ?_
  refine lv_topi (fun x0_3 ex0_3 => ?_)
  replace h := h x0_3 ex0_3
  refine lv_istore_n (lv' := [(0, .int x0_3)]) hx hb dJ6_bitCount_0f7a4_33 rfl hl (by decide) rfl (fun ls hl => ?_)
  refine lv_iload_n hx hb dJ6_bitCount_0f7a4_34 rfl (lv_at hl 0 rfl) ?_
  refine lv_iload_n hx hb dJ6_bitCount_0f7a4_35 rfl (lv_at hl 0 rfl) ?_
  refine lv_bipush (v := 8) hx hb dJ6_bitCount_0f7a4_36 (by decide) ?_
  refine lv_iushr hx hb dJ6_bitCount_0f7a4_38 rfl ?_
  refine lv_iadd hx hb dJ6_bitCount_0f7a4_39 ?_
  refine lv_topi (fun x0_4 ex0_4 => ?_)
  replace h := h x0_4 ex0_4
  refine lv_istore_n (lv' := [(0, .int x0_4)]) hx hb dJ6_bitCount_0f7a4_40 rfl hl (by decide) rfl (fun ls hl => ?_)
  refine lv_iload_n hx hb dJ6_bitCount_0f7a4_41 rfl (lv_at hl 0 rfl) ?_
  refine lv_iload_n hx hb dJ6_bitCount_0f7a4_42 rfl (lv_at hl 0 rfl) ?_
  refine lv_bipush (v := 16) hx hb dJ6_bitCount_0f7a4_43 (by decide) ?_
  refine lv_iushr hx hb dJ6_bitCount_0f7a4_45 rfl ?_
  refine lv_iadd hx hb dJ6_bitCount_0f7a4_46 ?_
  refine lv_topi (fun x0_5 ex0_5 => ?_)
  replace h := h x0_5 ex0_5
  refine lv_istore_n (lv' := [(0, .int x0_5)]) hx hb dJ6_bitCount_0f7a4_47 rfl hl (by decide) rfl (fun ls hl => ?_)
  refine lv_iload_n hx hb dJ6_bitCount_0f7a4_48 rfl (lv_at hl 0 rfl) ?_
  refine lv_bipush (v := 63) hx hb dJ6_bitCount_0f7a4_49 (by decide) ?_
  refine lv_iand hx hb dJ6_bitCount_0f7a4_51 ?_
  exact rt_i M () hw h dJ6_bitCount_0f7a4_52
abbrev rmJ6_numberOfTrailingZeros : Room := { frames := 0, cells := 0, slots := 0, locals := 0 }
set_option maxHeartbeats 4000000 in
set_option maxRecDepth 100000 in
theorem kJ6_numberOfTrailingZeros_62 {p : Program} {l : Launch} {e : Env} {s : State} {m : MethodId} {args : Array Value} {below : List Frame} {meth : Method} {c : Code} {z : KT} {A : Nat → Prop} {Q : Int32 → Prop} (M : Mc p s m args meth c cJ6_numberOfTrailingZeros_0f7a4 2 (some .int) RJ6 z A) : ∀ (x0 : Int32) (x1 : Int32) (H : Heap) (locs : List Loc) (ls : Array Slot), Hw s z A ([] : va_W) H locs → lv_has ls 2 [(0, .int x0), (1, .int x1)] → bJ6_numberOfTrailingZeros_62 Q x0 x1 → W p l e rmJ6_numberOfTrailingZeros s m args below meth c H locs 0 0 (MQ below (va_Qi (fun (r : Int32) (_ : Unit) => Q r) (fun u t => cAt z A ((fun _ : Unit => ([] : va_W)) u) t) A) args s 0 0 A) (F0 m 62 ls []) := by
  obtain ⟨hx, hb, -, -, hown, hts, -, -, -, hN, hsr, -⟩ := id M
  intro x0 x1 H locs ls hw hl h
  unfold bJ6_numberOfTrailingZeros_62 at h
  refine lv_iload_n hx hb dJ6_numberOfTrailingZeros_0f7a4_62 rfl (lv_at hl 0 rfl) ?_
  refine lv_iconst (v := 4) hx hb dJ6_numberOfTrailingZeros_0f7a4_63 (by decide) ?_
  refine lv_icmp_le (tgt := 74) hx hb dJ6_numberOfTrailingZeros_0f7a4_64 (by decide) (fun c_1 => ?_) (fun c_1 => ?_)
  · replace h := iT c_1 h
    refine lv_iload_n hx hb dJ6_numberOfTrailingZeros_0f7a4_74 rfl (lv_at hl 1 rfl) ?_
    refine lv_iload_n hx hb dJ6_numberOfTrailingZeros_0f7a4_75 rfl (lv_at hl 0 rfl) ?_
    refine lv_iconst (v := 1) hx hb dJ6_numberOfTrailingZeros_0f7a4_76 (by decide) ?_
    refine lv_iushr hx hb dJ6_numberOfTrailingZeros_0f7a4_77 rfl ?_
    refine lv_iadd hx hb dJ6_numberOfTrailingZeros_0f7a4_78 ?_
    exact rt_i M () hw h dJ6_numberOfTrailingZeros_0f7a4_79
  · replace h := iF c_1 h
    obtain ⟨x1_2, ex1_2⟩ : ∃ y : Int32, y = (x1 + (2 : Int32)) := ⟨_, rfl⟩
    replace h := h x1_2 ex1_2
    refine lv_iinc (v := x1_2) (lv' := [(1, .int x1_2), (0, .int x0)]) hx hb dJ6_numberOfTrailingZeros_0f7a4_67 hl (k := 1) rfl (by rw [ex1_2]; rfl) (by decide) rfl (fun ls hl => ?_)
    refine lv_iload_n hx hb dJ6_numberOfTrailingZeros_0f7a4_70 rfl (lv_at hl 1 rfl) ?_
    refine lv_iconst (v := 2) hx hb dJ6_numberOfTrailingZeros_0f7a4_71 (by decide) ?_
    refine lv_iushr hx hb dJ6_numberOfTrailingZeros_0f7a4_72 rfl ?_
    refine lv_topi (fun x0_3 ex0_3 => ?_)
    replace h := h x0_3 ex0_3
    refine lv_istore_n (lv' := [(0, .int x0_3), (1, .int x1_2)]) hx hb dJ6_numberOfTrailingZeros_0f7a4_73 rfl hl (by decide) rfl (fun ls hl => ?_)
    refine lv_iload_n hx hb dJ6_numberOfTrailingZeros_0f7a4_74 rfl (lv_at hl 1 rfl) ?_
    refine lv_iload_n hx hb dJ6_numberOfTrailingZeros_0f7a4_75 rfl (lv_at hl 0 rfl) ?_
    refine lv_iconst (v := 1) hx hb dJ6_numberOfTrailingZeros_0f7a4_76 (by decide) ?_
    refine lv_iushr hx hb dJ6_numberOfTrailingZeros_0f7a4_77 rfl ?_
    refine lv_iadd hx hb dJ6_numberOfTrailingZeros_0f7a4_78 ?_
    exact rt_i M () hw h dJ6_numberOfTrailingZeros_0f7a4_79
set_option maxHeartbeats 4000000 in
set_option maxRecDepth 100000 in
theorem kJ6_numberOfTrailingZeros_49 {p : Program} {l : Launch} {e : Env} {s : State} {m : MethodId} {args : Array Value} {below : List Frame} {meth : Method} {c : Code} {z : KT} {A : Nat → Prop} {Q : Int32 → Prop} (M : Mc p s m args meth c cJ6_numberOfTrailingZeros_0f7a4 2 (some .int) RJ6 z A) : ∀ (x0 : Int32) (x1 : Int32) (H : Heap) (locs : List Loc) (ls : Array Slot), Hw s z A ([] : va_W) H locs → lv_has ls 2 [(0, .int x0), (1, .int x1)] → bJ6_numberOfTrailingZeros_49 Q x0 x1 → W p l e rmJ6_numberOfTrailingZeros s m args below meth c H locs 0 0 (MQ below (va_Qi (fun (r : Int32) (_ : Unit) => Q r) (fun u t => cAt z A ((fun _ : Unit => ([] : va_W)) u) t) A) args s 0 0 A) (F0 m 49 ls []) := by
  obtain ⟨hx, hb, -, -, hown, hts, -, -, -, hN, hsr, -⟩ := id M
  intro x0 x1 H locs ls hw hl h
  unfold bJ6_numberOfTrailingZeros_49 at h
  refine lv_iload_n hx hb dJ6_numberOfTrailingZeros_0f7a4_49 rfl (lv_at hl 0 rfl) ?_
  refine lv_bipush (v := 16) hx hb dJ6_numberOfTrailingZeros_0f7a4_50 (by decide) ?_
  refine lv_icmp_le (tgt := 62) hx hb dJ6_numberOfTrailingZeros_0f7a4_52 (by decide) (fun c_1 => ?_) (fun c_1 => ?_)
  · replace h := iT c_1 h
    exact kJ6_numberOfTrailingZeros_62 M x0 x1 H locs ls hw (lv_sub hl [0, 1] rfl) h
  · replace h := iF c_1 h
    obtain ⟨x1_2, ex1_2⟩ : ∃ y : Int32, y = (x1 + (4 : Int32)) := ⟨_, rfl⟩
    replace h := h x1_2 ex1_2
    refine lv_iinc (v := x1_2) (lv' := [(1, .int x1_2), (0, .int x0)]) hx hb dJ6_numberOfTrailingZeros_0f7a4_55 hl (k := 1) rfl (by rw [ex1_2]; rfl) (by decide) rfl (fun ls hl => ?_)
    refine lv_iload_n hx hb dJ6_numberOfTrailingZeros_0f7a4_58 rfl (lv_at hl 1 rfl) ?_
    refine lv_iconst (v := 4) hx hb dJ6_numberOfTrailingZeros_0f7a4_59 (by decide) ?_
    refine lv_iushr hx hb dJ6_numberOfTrailingZeros_0f7a4_60 rfl ?_
    refine lv_topi (fun x0_3 ex0_3 => ?_)
    replace h := h x0_3 ex0_3
    refine lv_istore_n (lv' := [(0, .int x0_3), (1, .int x1_2)]) hx hb dJ6_numberOfTrailingZeros_0f7a4_61 rfl hl (by decide) rfl (fun ls hl => ?_)
    exact kJ6_numberOfTrailingZeros_62 M x0_3 x1_2 H locs ls hw (lv_sub hl [0, 1] rfl) h
set_option maxHeartbeats 4000000 in
set_option maxRecDepth 100000 in
theorem kJ6_numberOfTrailingZeros_34 {p : Program} {l : Launch} {e : Env} {s : State} {m : MethodId} {args : Array Value} {below : List Frame} {meth : Method} {c : Code} {z : KT} {A : Nat → Prop} {Q : Int32 → Prop} (M : Mc p s m args meth c cJ6_numberOfTrailingZeros_0f7a4 2 (some .int) RJ6 z A) : ∀ (x0 : Int32) (x1 : Int32) (H : Heap) (locs : List Loc) (ls : Array Slot), Hw s z A ([] : va_W) H locs → lv_has ls 2 [(0, .int x0), (1, .int x1)] → bJ6_numberOfTrailingZeros_34 Q x0 x1 → W p l e rmJ6_numberOfTrailingZeros s m args below meth c H locs 0 0 (MQ below (va_Qi (fun (r : Int32) (_ : Unit) => Q r) (fun u t => cAt z A ((fun _ : Unit => ([] : va_W)) u) t) A) args s 0 0 A) (F0 m 34 ls []) := by
  obtain ⟨hx, hb, -, -, hown, hts, -, -, -, hN, hsr, -⟩ := id M
  intro x0 x1 H locs ls hw hl h
  unfold bJ6_numberOfTrailingZeros_34 at h
  refine lv_iload_n hx hb dJ6_numberOfTrailingZeros_0f7a4_34 rfl (lv_at hl 0 rfl) ?_
  refine lv_sipush (v := 256) hx hb dJ6_numberOfTrailingZeros_0f7a4_35 (by decide) ?_
  refine lv_icmp_le (tgt := 49) hx hb dJ6_numberOfTrailingZeros_0f7a4_38 (by decide) (fun c_1 => ?_) (fun c_1 => ?_)
  · replace h := iT c_1 h
    exact kJ6_numberOfTrailingZeros_49 M x0 x1 H locs ls hw (lv_sub hl [0, 1] rfl) h
  · replace h := iF c_1 h
    obtain ⟨x1_2, ex1_2⟩ : ∃ y : Int32, y = (x1 + (8 : Int32)) := ⟨_, rfl⟩
    replace h := h x1_2 ex1_2
    refine lv_iinc (v := x1_2) (lv' := [(1, .int x1_2), (0, .int x0)]) hx hb dJ6_numberOfTrailingZeros_0f7a4_41 hl (k := 1) rfl (by rw [ex1_2]; rfl) (by decide) rfl (fun ls hl => ?_)
    refine lv_iload_n hx hb dJ6_numberOfTrailingZeros_0f7a4_44 rfl (lv_at hl 1 rfl) ?_
    refine lv_bipush (v := 8) hx hb dJ6_numberOfTrailingZeros_0f7a4_45 (by decide) ?_
    refine lv_iushr hx hb dJ6_numberOfTrailingZeros_0f7a4_47 rfl ?_
    refine lv_topi (fun x0_3 ex0_3 => ?_)
    replace h := h x0_3 ex0_3
    refine lv_istore_n (lv' := [(0, .int x0_3), (1, .int x1_2)]) hx hb dJ6_numberOfTrailingZeros_0f7a4_48 rfl hl (by decide) rfl (fun ls hl => ?_)
    exact kJ6_numberOfTrailingZeros_49 M x0_3 x1_2 H locs ls hw (lv_sub hl [0, 1] rfl) h
set_option maxHeartbeats 4000000 in
set_option maxRecDepth 100000 in
theorem m_J6_numberOfTrailingZeros (l : Launch) (z : KT) (x0 : Int32) (Q : Int32 → Prop) (h : wJ6_numberOfTrailingZeros x0 Q) : CI l yJ6_numberOfTrailingZeros_0f7a4 cJ6_numberOfTrailingZeros_0f7a4 2 .int rmJ6_numberOfTrailingZeros z [.int x0] ([] : va_W) (fun _ : Unit => ([] : va_W)) (fun (r : Int32) (_ : Unit) => Q r) := by
  refine CI.of rfl (Nat.le_of_ble_eq_true rfl) ?_
  intro p e s m below meth c A ls M hw hl
  have M : Mc p s m _ meth c cJ6_numberOfTrailingZeros_0f7a4 2 (some .int) RJ6 z A := M
  obtain ⟨hx, hb, -, -, hown, hts, -, -, -, hN, hsr, -⟩ := id M
  have hl : lv_has ls 2 [(0, .int x0)] := hl
  unfold wJ6_numberOfTrailingZeros at h
  generalize s.heap = H at hw ⊢
  generalize ([] : List Loc) = locs at hw ⊢
  refine lv_iload_n hx hb dJ6_numberOfTrailingZeros_0f7a4_0 rfl (lv_at hl 0 rfl) ?_
  refine lv_iconst (v := -1) hx hb dJ6_numberOfTrailingZeros_0f7a4_1 (by decide) ?_
  refine lv_ixor hx hb dJ6_numberOfTrailingZeros_0f7a4_2 ?_
  refine lv_iload_n hx hb dJ6_numberOfTrailingZeros_0f7a4_3 rfl (lv_at hl 0 rfl) ?_
  refine lv_iconst (v := 1) hx hb dJ6_numberOfTrailingZeros_0f7a4_4 (by decide) ?_
  refine lv_isub hx hb dJ6_numberOfTrailingZeros_0f7a4_5 ?_
  refine lv_iand hx hb dJ6_numberOfTrailingZeros_0f7a4_6 ?_
  refine lv_topi (fun x0_1 ex0_1 => ?_)
  replace h := h x0_1 ex0_1
  refine lv_istore_n (lv' := [(0, .int x0_1)]) hx hb dJ6_numberOfTrailingZeros_0f7a4_7 rfl hl (by decide) rfl (fun ls hl => ?_)
  refine lv_iload_n hx hb dJ6_numberOfTrailingZeros_0f7a4_8 rfl (lv_at hl 0 rfl) ?_
  refine lv_if_gt (tgt := 17) hx hb dJ6_numberOfTrailingZeros_0f7a4_9 (by decide) (fun c_2 => ?_) (fun c_2 => ?_)
  · replace h := iT c_2 h
    refine lv_iconst (v := 1) hx hb dJ6_numberOfTrailingZeros_0f7a4_17 (by decide) ?_
    refine lv_istore_n (lv' := [(1, .int (1 : Int32)), (0, .int x0_1)]) hx hb dJ6_numberOfTrailingZeros_0f7a4_18 rfl hl (by decide) rfl (fun ls hl => ?_)
    refine lv_iload_n hx hb dJ6_numberOfTrailingZeros_0f7a4_19 rfl (lv_at hl 1 rfl) ?_
    refine lv_ldcw hx hb hown (hts _ cn_J6_264) dJ6_numberOfTrailingZeros_0f7a4_20 ?_
    refine lv_icmp_le (tgt := 34) hx hb dJ6_numberOfTrailingZeros_0f7a4_23 (by decide) (fun c_3 => ?_) (fun c_3 => ?_)
    · replace h := iT c_3 h
      exact kJ6_numberOfTrailingZeros_34 M x0_1 (1 : Int32) H locs ls hw (lv_sub hl [1, 0] rfl) h
    · replace h := iF c_3 h
      obtain ⟨x1_4, ex1_4⟩ : ∃ y : Int32, y = ((1 : Int32) + (16 : Int32)) := ⟨_, rfl⟩
      replace h := h x1_4 ex1_4
      refine lv_iinc (v := x1_4) (lv' := [(1, .int x1_4), (0, .int x0_1)]) hx hb dJ6_numberOfTrailingZeros_0f7a4_26 hl (k := 0) rfl (by rw [ex1_4]; rfl) (by decide) rfl (fun ls hl => ?_)
      refine lv_iload_n hx hb dJ6_numberOfTrailingZeros_0f7a4_29 rfl (lv_at hl 1 rfl) ?_
      refine lv_bipush (v := 16) hx hb dJ6_numberOfTrailingZeros_0f7a4_30 (by decide) ?_
      refine lv_iushr hx hb dJ6_numberOfTrailingZeros_0f7a4_32 rfl ?_
      refine lv_topi (fun x0_5 ex0_5 => ?_)
      replace h := h x0_5 ex0_5
      refine lv_istore_n (lv' := [(0, .int x0_5), (1, .int x1_4)]) hx hb dJ6_numberOfTrailingZeros_0f7a4_33 rfl hl (by decide) rfl (fun ls hl => ?_)
      exact kJ6_numberOfTrailingZeros_34 M x0_5 x1_4 H locs ls hw (lv_sub hl [0, 1] rfl) h
  · replace h := iF c_2 h
    refine lv_iload_n hx hb dJ6_numberOfTrailingZeros_0f7a4_12 rfl (lv_at hl 0 rfl) ?_
    refine lv_bipush (v := 32) hx hb dJ6_numberOfTrailingZeros_0f7a4_13 (by decide) ?_
    refine lv_iand hx hb dJ6_numberOfTrailingZeros_0f7a4_15 ?_
    exact rt_i M () hw h dJ6_numberOfTrailingZeros_0f7a4_16
abbrev rmX6_rangeFault : Room := { frames := 0, cells := 0, slots := 0, locals := 0 }
set_option maxHeartbeats 4000000 in
set_option maxRecDepth 100000 in
theorem m_X6_rangeFault (l : Launch) (z : KT) (x0 : Int32) (x1 : Int32) (x2 : Int32) (Q : Int32 → Prop) (h : wX6_rangeFault x0 x1 x2 Q) : CI l yX6_rangeFault cX6_rangeFault 3 .int rmX6_rangeFault z [.int x0, .int x1, .int x2] ([] : va_W) (fun _ : Unit => ([] : va_W)) (fun (r : Int32) (_ : Unit) => Q r) := by
  refine CI.of rfl (Nat.le_of_ble_eq_true rfl) ?_
  intro p e s m below meth c A ls M hw hl
  have M : Mc p s m _ meth c cX6_rangeFault 3 (some .int) RX6 z A := M
  obtain ⟨hx, hb, -, -, hown, hts, -, -, -, hN, hsr, -⟩ := id M
  have hl : lv_has ls 3 [(0, .int x0), (1, .int x1), (2, .int x2)] := hl
  unfold wX6_rangeFault at h
  generalize s.heap = H at hw ⊢
  generalize ([] : List Loc) = locs at hw ⊢
  refine lv_iload_n hx hb dX6_rangeFault_0 rfl (lv_at hl 0 rfl) ?_
  refine lv_iload_n hx hb dX6_rangeFault_1 rfl (lv_at hl 1 rfl) ?_
  refine lv_icmp_ge (tgt := 8) hx hb dX6_rangeFault_2 (by decide) (fun c_1 => ?_) (fun c_1 => ?_)
  · replace h := iT c_1 h
    refine lv_iload_n hx hb dX6_rangeFault_8 rfl (lv_at hl 0 rfl) ?_
    refine lv_iload_n hx hb dX6_rangeFault_9 rfl (lv_at hl 2 rfl) ?_
    refine lv_icmp_le (tgt := 18) hx hb dX6_rangeFault_10 (by decide) (fun c_2 => ?_) (fun c_2 => ?_)
    · replace h := iT c_2 h
      refine lv_iconst (v := 0) hx hb dX6_rangeFault_18 (by decide) ?_
      exact rt_i M () hw h dX6_rangeFault_19
    · replace h := iF c_2 h
      refine lv_bipush (v := -6) hx hb dX6_rangeFault_13 (by decide) ?_
      refine lv_goto (tgt := 19) hx hb dX6_rangeFault_15 (by decide) ?_
      exact rt_i M () hw h dX6_rangeFault_19
  · replace h := iF c_1 h
    refine lv_bipush (v := -4) hx hb dX6_rangeFault_5 (by decide) ?_
    exact rt_i M () hw h dX6_rangeFault_7
abbrev rmX6_hasBit : Room := { frames := 0, cells := 0, slots := 0, locals := 0 }
set_option maxHeartbeats 4000000 in
set_option maxRecDepth 100000 in
theorem m_X6_hasBit (l : Launch) (z : KT) (x0 : Int32) (x1 : Int32) (Q : Int32 → Prop) (h : wX6_hasBit x0 x1 Q) : CI l yX6_hasBit cX6_hasBit 2 .boolean rmX6_hasBit z [.int x0, .int x1] ([] : va_W) (fun _ : Unit => ([] : va_W)) (fun (r : Int32) (_ : Unit) => Q r) := by
  refine CI.of rfl (Nat.le_of_ble_eq_true rfl) ?_
  intro p e s m below meth c A ls M hw hl
  have M : Mc p s m _ meth c cX6_hasBit 2 (some .boolean) RX6 z A := M
  obtain ⟨hx, hb, -, -, hown, hts, -, -, -, hN, hsr, -⟩ := id M
  have hl : lv_has ls 2 [(0, .int x0), (1, .int x1)] := hl
  unfold wX6_hasBit at h
  generalize s.heap = H at hw ⊢
  generalize ([] : List Loc) = locs at hw ⊢
  refine lv_iload_n hx hb dX6_hasBit_0 rfl (lv_at hl 0 rfl) ?_
  refine lv_iconst (v := 1) hx hb dX6_hasBit_1 (by decide) ?_
  refine lv_iload_n hx hb dX6_hasBit_2 rfl (lv_at hl 1 rfl) ?_
  refine lv_ishl hx hb dX6_hasBit_3 ?_
  refine lv_iand hx hb dX6_hasBit_4 ?_
  refine lv_if_eq (tgt := 12) hx hb dX6_hasBit_5 (by decide) (fun c_1 => ?_) (fun c_1 => ?_)
  · replace h := iT c_1 h
    refine lv_iconst (v := 0) hx hb dX6_hasBit_12 (by decide) ?_
    exact rt_z M () hw bz0 h dX6_hasBit_13
  · replace h := iF c_1 h
    refine lv_iconst (v := 1) hx hb dX6_hasBit_8 (by decide) ?_
    refine lv_goto (tgt := 13) hx hb dX6_hasBit_9 (by decide) ?_
    exact rt_z M () hw bz1 h dX6_hasBit_13
abbrev rmX6_power : Room := { frames := 0, cells := 0, slots := 0, locals := 0 }
set_option maxHeartbeats 4000000 in
set_option maxRecDepth 100000 in
theorem kX6_power_5 {p : Program} {l : Launch} {e : Env} {s : State} {m : MethodId} {args : Array Value} {below : List Frame} {meth : Method} {c : Code} {z : KT} {A : Nat → Prop} {Q : Int64 → Prop} (M : Mc p s m args meth c cX6_power 6 (some .long) RX6 z A) : ∀ (n : Nat) (y0 : Int64) (x2 : Int32) (y3 : Int64) (x5 : Int32) (H : Heap) (locs : List Loc) (ls : Array Slot), Hw s z A ([] : va_W) H locs → lv_has ls 6 [(0, .long y0), (2, .int x2), (3, .long y3), (5, .int x5)] → bX6_power_5 Q n y0 x2 y3 x5 → W p l e rmX6_power s m args below meth c H locs 0 0 (MQ below (va_Ql (fun (r : Int64) (_ : Unit) => Q r) (fun u t => cAt z A ((fun _ : Unit => ([] : va_W)) u) t) A) args s 0 0 A) (F0 m 5 ls []) := by
  obtain ⟨hx, hb, -, -, hown, hts, -, -, -, hN, hsr, -⟩ := id M
  intro n
  induction n with
  | zero => intro y0 x2 y3 x5 H locs ls hw hl h; exact False.elim h
  | succ n ih =>
    intro y0 x2 y3 x5 H locs ls hw hl h
    rw [bX6_power_5] at h
    refine lv_iload hx hb dX6_power_5 (lv_at hl 3 rfl) ?_
    refine lv_iload_n hx hb dX6_power_7 rfl (lv_at hl 1 rfl) ?_
    refine lv_icmp_ge (tgt := 21) hx hb dX6_power_8 (by decide) (fun c_1 => ?_) (fun c_1 => ?_)
    · replace h := iT c_1 h
      refine lv_lload_n hx hb dX6_power_21 rfl (lv_at hl 2 rfl) ?_
      exact rt_l M () hw h dX6_power_22
    · replace h := iF c_1 h
      refine lv_lload_n hx hb dX6_power_11 rfl (lv_at hl 2 rfl) ?_
      refine lv_lload_n hx hb dX6_power_12 rfl (lv_at hl 0 rfl) ?_
      refine lv_lmul hx hb dX6_power_13 ?_
      refine lv_topl (fun y3_2 ey3_2 => ?_)
      replace h := h y3_2 ey3_2
      refine lv_lstore_n (lv' := [(3, .long y3_2), (0, .long y0), (2, .int x2), (5, .int x5)]) hx hb dX6_power_14 rfl hl (by decide) rfl (fun ls hl => ?_)
      obtain ⟨x5_3, ex5_3⟩ : ∃ y : Int32, y = (x5 + (1 : Int32)) := ⟨_, rfl⟩
      replace h := h x5_3 ex5_3
      refine lv_iinc (v := x5_3) (lv' := [(5, .int x5_3), (3, .long y3_2), (0, .long y0), (2, .int x2)]) hx hb dX6_power_15 hl (k := 3) rfl (by rw [ex5_3]; rfl) (by decide) rfl (fun ls hl => ?_)
      refine lv_goto (tgt := 5) hx hb dX6_power_18 (by decide) ?_
      exact ih y0 x2 y3_2 x5_3 H locs ls hw (lv_sub hl [2, 3, 1, 0] rfl) h
set_option maxHeartbeats 4000000 in
set_option maxRecDepth 100000 in
theorem m_X6_power (l : Launch) (z : KT) (y0 : Int64) (x2 : Int32) (Q : Int64 → Prop) (h : wX6_power y0 x2 Q) : CL l yX6_power cX6_power 6 .long rmX6_power z [.long y0, .int x2] ([] : va_W) (fun _ : Unit => ([] : va_W)) (fun (r : Int64) (_ : Unit) => Q r) := by
  refine CL.of rfl (Nat.le_of_ble_eq_true rfl) ?_
  intro p e s m below meth c A ls M hw hl
  have M : Mc p s m _ meth c cX6_power 6 (some .long) RX6 z A := M
  obtain ⟨hx, hb, -, -, hown, hts, -, -, -, hN, hsr, -⟩ := id M
  have hl : lv_has ls 6 [(0, .long y0), (2, .int x2)] := hl
  unfold wX6_power at h
  generalize s.heap = H at hw ⊢
  generalize ([] : List Loc) = locs at hw ⊢
  refine lv_lconst (v := 1) hx hb dX6_power_0 rfl ?_
  refine lv_lstore_n (lv' := [(3, .long (1 : Int64)), (0, .long y0), (2, .int x2)]) hx hb dX6_power_1 rfl hl (by decide) rfl (fun ls hl => ?_)
  refine lv_iconst (v := 0) hx hb dX6_power_2 (by decide) ?_
  refine lv_istore (lv' := [(5, .int (0 : Int32)), (3, .long (1 : Int64)), (0, .long y0), (2, .int x2)]) hx hb dX6_power_3 hl (by decide) rfl (fun ls hl => ?_)
  obtain ⟨n0, h⟩ := h; exact kX6_power_5 M n0 y0 x2 (1 : Int64) (0 : Int32) H locs ls hw (lv_sub hl [2, 3, 1, 0] rfl) h
abbrev rmX6_inLeastTerms : Room := { frames := 0, cells := 0, slots := 0, locals := 0 }
set_option maxHeartbeats 4000000 in
set_option maxRecDepth 100000 in
theorem kX6_inLeastTerms_44 {p : Program} {l : Launch} {e : Env} {s : State} {m : MethodId} {args : Array Value} {below : List Frame} {meth : Method} {c : Code} {z : KT} {A : Nat → Prop} {Q : Int64 → Prop} (M : Mc p s m args meth c cX6_inLeastTerms 12 (some .long) RX6 z A) : ∀ (y0 : Int64) (y2 : Int64) (x4 : Int32) (y5 : Int64) (H : Heap) (locs : List Loc) (ls : Array Slot), Hw s z A ([] : va_W) H locs → lv_has ls 12 [(0, .long y0), (2, .long y2), (4, .int x4), (5, .long y5)] → bX6_inLeastTerms_44 Q y0 y2 x4 y5 → W p l e rmX6_inLeastTerms s m args below meth c H locs 0 0 (MQ below (va_Ql (fun (r : Int64) (_ : Unit) => Q r) (fun u t => cAt z A ((fun _ : Unit => ([] : va_W)) u) t) A) args s 0 0 A) (F0 m 44 ls []) := by
  obtain ⟨hx, hb, -, -, hown, hts, -, -, -, hN, hsr, -⟩ := id M
  intro y0 y2 x4 y5 H locs ls hw hl h
  unfold bX6_inLeastTerms_44 at h
  refine lv_lload hx hb dX6_inLeastTerms_44 (lv_at hl 3 rfl) ?_
  refine lv_lconst (v := 0) hx hb dX6_inLeastTerms_46 rfl ?_
  refine W.lcmp hx hb dX6_inLeastTerms_47 ?_
  refine lv_if_ne (tgt := 55) hx hb dX6_inLeastTerms_48 (by decide) (fun c_1 => ?_) (fun c_1 => ?_)
  · replace h := iF c_1 h
    refine lv_iload hx hb dX6_inLeastTerms_55 (lv_at hl 2 rfl) ?_
    refine lv_if_ne (tgt := 64) hx hb dX6_inLeastTerms_57 (by decide) (fun c_2 => ?_) (fun c_2 => ?_)
    · replace h := iF c_2 h
      refine lv_lload_n hx hb dX6_inLeastTerms_64 rfl (lv_at hl 1 rfl) ?_
      refine lv_lload hx hb dX6_inLeastTerms_65 (lv_at hl 3 rfl) ?_
      obtain ⟨a_3, h⟩ := h
      refine lv_ldiv hx hb dX6_inLeastTerms_67 a_3 ?_
      exact rt_l M () hw h dX6_inLeastTerms_68
    · replace h := iT c_2 h
      refine lv_lload_n hx hb dX6_inLeastTerms_60 rfl (lv_at hl 0 rfl) ?_
      refine lv_goto (tgt := 65) hx hb dX6_inLeastTerms_61 (by decide) ?_
      refine lv_lload hx hb dX6_inLeastTerms_65 (lv_at hl 3 rfl) ?_
      obtain ⟨a_4, h⟩ := h
      refine lv_ldiv hx hb dX6_inLeastTerms_67 a_4 ?_
      exact rt_l M () hw h dX6_inLeastTerms_68
  · replace h := iT c_1 h
    refine lv_iload hx hb dX6_inLeastTerms_51 (lv_at hl 2 rfl) ?_
    refine lv_i2l hx hb dX6_inLeastTerms_53 rfl ?_
    exact rt_l M () hw h dX6_inLeastTerms_54
set_option maxHeartbeats 4000000 in
set_option maxRecDepth 100000 in
theorem kX6_inLeastTerms_9 {p : Program} {l : Launch} {e : Env} {s : State} {m : MethodId} {args : Array Value} {below : List Frame} {meth : Method} {c : Code} {z : KT} {A : Nat → Prop} {Q : Int64 → Prop} (M : Mc p s m args meth c cX6_inLeastTerms 12 (some .long) RX6 z A) : ∀ (n : Nat) (y0 : Int64) (y2 : Int64) (x4 : Int32) (y5 : Int64) (y7 : Int64) (x9 : Int32) (H : Heap) (locs : List Loc) (ls : Array Slot), Hw s z A ([] : va_W) H locs → lv_has ls 12 [(0, .long y0), (2, .long y2), (4, .int x4), (5, .long y5), (7, .long y7), (9, .int x9)] → bX6_inLeastTerms_9 Q n y0 y2 x4 y5 y7 x9 → W p l e rmX6_inLeastTerms s m args below meth c H locs 0 0 (MQ below (va_Ql (fun (r : Int64) (_ : Unit) => Q r) (fun u t => cAt z A ((fun _ : Unit => ([] : va_W)) u) t) A) args s 0 0 A) (F0 m 9 ls []) := by
  obtain ⟨hx, hb, -, -, hown, hts, -, -, -, hN, hsr, -⟩ := id M
  intro n
  induction n with
  | zero => intro y0 y2 x4 y5 y7 x9 H locs ls hw hl h; exact False.elim h
  | succ n ih =>
    intro y0 y2 x4 y5 y7 x9 H locs ls hw hl h
    rw [bX6_inLeastTerms_9] at h
    refine lv_iload hx hb dX6_inLeastTerms_9 (lv_at hl 5 rfl) ?_
    refine lv_bipush (v := 100) hx hb dX6_inLeastTerms_11 (by decide) ?_
    refine lv_icmp_ge (tgt := 44) hx hb dX6_inLeastTerms_13 (by decide) (fun c_1 => ?_) (fun c_1 => ?_)
    · replace h := iT c_1 h
      exact kX6_inLeastTerms_44 M y0 y2 x4 y5 H locs ls hw (lv_sub hl [0, 1, 2, 3] rfl) h
    · replace h := iF c_1 h
      refine lv_lload hx hb dX6_inLeastTerms_16 (lv_at hl 4 rfl) ?_
      refine lv_lconst (v := 0) hx hb dX6_inLeastTerms_18 rfl ?_
      refine W.lcmp hx hb dX6_inLeastTerms_19 ?_
      refine lv_if_eq (tgt := 44) hx hb dX6_inLeastTerms_20 (by decide) (fun c_2 => ?_) (fun c_2 => ?_)
      · replace h := iT c_2 h
        exact kX6_inLeastTerms_44 M y0 y2 x4 y5 H locs ls hw (lv_sub hl [0, 1, 2, 3] rfl) h
      · replace h := iF c_2 h
        refine lv_lload hx hb dX6_inLeastTerms_23 (lv_at hl 3 rfl) ?_
        refine lv_lload hx hb dX6_inLeastTerms_25 (lv_at hl 4 rfl) ?_
        obtain ⟨a_3, h⟩ := h
        refine lv_lrem hx hb dX6_inLeastTerms_27 a_3 ?_
        refine lv_topl (fun y10_4 ey10_4 => ?_)
        replace h := h y10_4 ey10_4
        refine lv_lstore (lv' := [(10, .long y10_4), (0, .long y0), (2, .long y2), (4, .int x4), (5, .long y5), (7, .long y7), (9, .int x9)]) hx hb dX6_inLeastTerms_28 hl (by decide) rfl (fun ls hl => ?_)
        refine lv_lload hx hb dX6_inLeastTerms_30 (lv_at hl 5 rfl) ?_
        refine lv_lstore (lv' := [(5, .long y7), (10, .long y10_4), (0, .long y0), (2, .long y2), (4, .int x4), (7, .long y7), (9, .int x9)]) hx hb dX6_inLeastTerms_32 hl (by decide) rfl (fun ls hl => ?_)
        refine lv_lload hx hb dX6_inLeastTerms_34 (lv_at hl 1 rfl) ?_
        refine lv_lstore (lv' := [(7, .long y10_4), (5, .long y7), (10, .long y10_4), (0, .long y0), (2, .long y2), (4, .int x4), (9, .int x9)]) hx hb dX6_inLeastTerms_36 hl (by decide) rfl (fun ls hl => ?_)
        obtain ⟨x9_5, ex9_5⟩ : ∃ y : Int32, y = (x9 + (1 : Int32)) := ⟨_, rfl⟩
        replace h := h x9_5 ex9_5
        refine lv_iinc (v := x9_5) (lv' := [(9, .int x9_5), (7, .long y10_4), (5, .long y7), (10, .long y10_4), (0, .long y0), (2, .long y2), (4, .int x4)]) hx hb dX6_inLeastTerms_38 hl (k := 6) rfl (by rw [ex9_5]; rfl) (by decide) rfl (fun ls hl => ?_)
        refine lv_goto (tgt := 9) hx hb dX6_inLeastTerms_41 (by decide) ?_
        exact ih y0 y2 x4 y7 y10_4 x9_5 H locs ls hw (lv_sub hl [4, 5, 6, 2, 1, 0] rfl) h
set_option maxHeartbeats 4000000 in
set_option maxRecDepth 100000 in
theorem m_X6_inLeastTerms (l : Launch) (z : KT) (y0 : Int64) (y2 : Int64) (x4 : Int32) (Q : Int64 → Prop) (h : wX6_inLeastTerms y0 y2 x4 Q) : CL l yX6_inLeastTerms cX6_inLeastTerms 12 .long rmX6_inLeastTerms z [.long y0, .long y2, .int x4] ([] : va_W) (fun _ : Unit => ([] : va_W)) (fun (r : Int64) (_ : Unit) => Q r) := by
  refine CL.of rfl (Nat.le_of_ble_eq_true rfl) ?_
  intro p e s m below meth c A ls M hw hl
  have M : Mc p s m _ meth c cX6_inLeastTerms 12 (some .long) RX6 z A := M
  obtain ⟨hx, hb, -, -, hown, hts, -, -, -, hN, hsr, -⟩ := id M
  have hl : lv_has ls 12 [(0, .long y0), (2, .long y2), (4, .int x4)] := hl
  unfold wX6_inLeastTerms at h
  generalize s.heap = H at hw ⊢
  generalize ([] : List Loc) = locs at hw ⊢
  refine lv_lload_n hx hb dX6_inLeastTerms_0 rfl (lv_at hl 1 rfl) ?_
  refine lv_lstore (lv' := [(5, .long y2), (0, .long y0), (2, .long y2), (4, .int x4)]) hx hb dX6_inLeastTerms_1 hl (by decide) rfl (fun ls hl => ?_)
  refine lv_lload_n hx hb dX6_inLeastTerms_3 rfl (lv_at hl 1 rfl) ?_
  refine lv_lstore (lv' := [(7, .long y0), (5, .long y2), (0, .long y0), (2, .long y2), (4, .int x4)]) hx hb dX6_inLeastTerms_4 hl (by decide) rfl (fun ls hl => ?_)
  refine lv_iconst (v := 0) hx hb dX6_inLeastTerms_6 (by decide) ?_
  refine lv_istore (lv' := [(9, .int (0 : Int32)), (7, .long y0), (5, .long y2), (0, .long y0), (2, .long y2), (4, .int x4)]) hx hb dX6_inLeastTerms_7 hl (by decide) rfl (fun ls hl => ?_)
  obtain ⟨n0, h⟩ := h; exact kX6_inLeastTerms_9 M n0 y0 y2 x4 y2 y0 (0 : Int32) H locs ls hw (lv_sub hl [3, 4, 5, 2, 1, 0] rfl) h
abbrev rmX2_hangingWith : Room := { frames := 0, cells := 0, slots := 0, locals := 0 }
set_option maxHeartbeats 4000000 in
set_option maxRecDepth 100000 in
theorem kX2_hangingWith_59 {p : Program} {l : Launch} {e : Env} {s : State} {m : MethodId} {args : Array Value} {below : List Frame} {meth : Method} {c : Code} {z : KT} {A : Nat → Prop} {qP : Nat → Nat} {K6 : Int32 → Int32 → Prop} {K17 : Int32 → Int32 → Int32 → Prop} {P : RT} {Q : Int32 → Prop} (M : Mc p s m args meth c cX2_hangingWith 6 (some .int) RX2 z A) (hK6 : ∀ (x2 : Int32) (x3 : Int32) (H : Heap) (locs : List Loc) (ls : Array Slot), Hw s z A (pW z qP P) H locs → lv_has ls 6 [(0, .ref (qP 0)), (2, .int x2), (3, .int x3)] → K6 x2 x3 → W p l e rmX2_hangingWith s m args below meth c H locs 0 0 (MQ below (va_Qi (fun (r : Int32) (_ : Unit) => Q r) (fun u t => cAt z A ((fun _ : Unit => (pW z qP P)) u) t) A) args s 0 0 A) (F0 m 6 ls [])) (hK17 : ∀ (x2 : Int32) (x3 : Int32) (x4 : Int32) (H : Heap) (locs : List Loc) (ls : Array Slot), Hw s z A (pW z qP P) H locs → lv_has ls 6 [(0, .ref (qP 0)), (2, .int x2), (3, .int x3), (4, .int x4)] → K17 x2 x3 x4 → W p l e rmX2_hangingWith s m args below meth c H locs 0 0 (MQ below (va_Qi (fun (r : Int32) (_ : Unit) => Q r) (fun u t => cAt z A ((fun _ : Unit => (pW z qP P)) u) t) A) args s 0 0 A) (F0 m 17 ls [])) : ∀ (x2 : Int32) (x3 : Int32) (x4 : Int32) (H : Heap) (locs : List Loc) (ls : Array Slot), Hw s z A (pW z qP P) H locs → lv_has ls 6 [(0, .ref (qP 0)), (2, .int x2), (3, .int x3), (4, .int x4)] → bX2_hangingWith_59 K6 K17 P Q x2 x3 x4 → W p l e rmX2_hangingWith s m args below meth c H locs 0 0 (MQ below (va_Qi (fun (r : Int32) (_ : Unit) => Q r) (fun u t => cAt z A ((fun _ : Unit => (pW z qP P)) u) t) A) args s 0 0 A) (F0 m 59 ls []) := by
  obtain ⟨hx, hb, -, -, hown, hts, -, -, -, hN, hsr, -⟩ := id M
  intro x2 x3 x4 H locs ls hw hl h
  unfold bX2_hangingWith_59 at h
  obtain ⟨x4_1, ex4_1⟩ : ∃ y : Int32, y = (x4 + (1 : Int32)) := ⟨_, rfl⟩
  replace h := h x4_1 ex4_1
  refine lv_iinc (v := x4_1) (lv' := [(4, .int x4_1), (0, .ref (qP 0)), (2, .int x2), (3, .int x3)]) hx hb dX2_hangingWith_59 hl (k := 3) rfl (by rw [ex4_1]; rfl) (by decide) rfl (fun ls hl => ?_)
  refine lv_goto (tgt := 17) hx hb dX2_hangingWith_62 (by decide) ?_
  exact hK17 x2 x3 x4_1 H locs ls hw (lv_sub hl [1, 2, 3, 0] rfl) h
set_option maxHeartbeats 4000000 in
set_option maxRecDepth 100000 in
theorem kX2_hangingWith_17 {p : Program} {l : Launch} {e : Env} {s : State} {m : MethodId} {args : Array Value} {below : List Frame} {meth : Method} {c : Code} {z : KT} {A : Nat → Prop} {qP : Nat → Nat} {K6 : Int32 → Int32 → Prop} {P : RT} {Q : Int32 → Prop} (M : Mc p s m args meth c cX2_hangingWith 6 (some .int) RX2 z A) (hK6 : ∀ (x2 : Int32) (x3 : Int32) (H : Heap) (locs : List Loc) (ls : Array Slot), Hw s z A (pW z qP P) H locs → lv_has ls 6 [(0, .ref (qP 0)), (2, .int x2), (3, .int x3)] → K6 x2 x3 → W p l e rmX2_hangingWith s m args below meth c H locs 0 0 (MQ below (va_Qi (fun (r : Int32) (_ : Unit) => Q r) (fun u t => cAt z A ((fun _ : Unit => (pW z qP P)) u) t) A) args s 0 0 A) (F0 m 6 ls [])) : ∀ (n : Nat) (x2 : Int32) (x3 : Int32) (x4 : Int32) (H : Heap) (locs : List Loc) (ls : Array Slot), Hw s z A (pW z qP P) H locs → lv_has ls 6 [(0, .ref (qP 0)), (2, .int x2), (3, .int x3), (4, .int x4)] → bX2_hangingWith_17 K6 P Q n x2 x3 x4 → W p l e rmX2_hangingWith s m args below meth c H locs 0 0 (MQ below (va_Qi (fun (r : Int32) (_ : Unit) => Q r) (fun u t => cAt z A ((fun _ : Unit => (pW z qP P)) u) t) A) args s 0 0 A) (F0 m 17 ls []) := by
  obtain ⟨hx, hb, -, -, hown, hts, -, -, -, hN, hsr, -⟩ := id M
  intro n
  induction n with
  | zero => intro x2 x3 x4 H locs ls hw hl h; exact False.elim h
  | succ n ih =>
    intro x2 x3 x4 H locs ls hw hl h
    rw [bX2_hangingWith_17] at h
    refine lv_iload hx hb dX2_hangingWith_17 (lv_at hl 3 rfl) ?_
    refine lv_aload_n hx hb dX2_hangingWith_19 rfl (lv_at hl 0 rfl) ?_
    refine gt_f (v := .int (P 30 8)) M inlX3 hw 0 rfl rfl 8 (by decide) fl_X2_9 rfl rfl dX2_hangingWith_20 ?_
    refine lv_icmp_ge (tgt := 65) hx hb dX2_hangingWith_23 (by decide) (fun c_1 => ?_) (fun c_1 => ?_)
    · replace h := iT c_1 h
      obtain ⟨x3_2, ex3_2⟩ : ∃ y : Int32, y = (x3 + (1 : Int32)) := ⟨_, rfl⟩
      replace h := h x3_2 ex3_2
      refine lv_iinc (v := x3_2) (lv' := [(3, .int x3_2), (0, .ref (qP 0)), (2, .int x2), (4, .int x4)]) hx hb dX2_hangingWith_65 hl (k := 2) rfl (by rw [ex3_2]; rfl) (by decide) rfl (fun ls hl => ?_)
      refine lv_goto (tgt := 6) hx hb dX2_hangingWith_68 (by decide) ?_
      exact hK6 x2 x3_2 H locs ls hw (lv_sub hl [1, 2, 0] rfl) h
    · replace h := iF c_1 h
      refine lv_iconst (v := 1) hx hb dX2_hangingWith_26 (by decide) ?_
      refine lv_aload_n hx hb dX2_hangingWith_27 rfl (lv_at hl 0 rfl) ?_
      refine gt_f (v := .ref (qP 6)) M inlX3 hw 0 rfl rfl 5 (by decide) fl_X2_15 rfl rfl dX2_hangingWith_28 ?_
      refine lv_iload hx hb dX2_hangingWith_31 (lv_at hl 3 rfl) ?_
      obtain ⟨a_3, h⟩ := h
      refine ld_i M hw 6 rfl a_3 dX2_hangingWith_33 ?_
      refine lv_ishl hx hb dX2_hangingWith_34 ?_
      refine lv_iconst (v := 1) hx hb dX2_hangingWith_35 (by decide) ?_
      refine lv_aload_n hx hb dX2_hangingWith_36 rfl (lv_at hl 0 rfl) ?_
      refine gt_f (v := .ref (qP 7)) M inlX3 hw 0 rfl rfl 6 (by decide) fl_X2_19 rfl rfl dX2_hangingWith_37 ?_
      refine lv_iload hx hb dX2_hangingWith_40 (lv_at hl 3 rfl) ?_
      refine ld_i M hw 7 rfl a_3 dX2_hangingWith_42 ?_
      refine lv_ishl hx hb dX2_hangingWith_43 ?_
      refine lv_ior hx hb dX2_hangingWith_44 ?_
      refine lv_topi (fun x5_4 ex5_4 => ?_)
      replace h := h x5_4 ex5_4
      refine lv_istore (lv' := [(5, .int x5_4), (0, .ref (qP 0)), (2, .int x2), (3, .int x3), (4, .int x4)]) hx hb dX2_hangingWith_45 hl (by decide) rfl (fun ls hl => ?_)
      refine lv_iload_n hx hb dX2_hangingWith_47 rfl (lv_at hl 2 rfl) ?_
      refine lv_iload hx hb dX2_hangingWith_48 (lv_at hl 0 rfl) ?_
      refine lv_iand hx hb dX2_hangingWith_50 ?_
      refine lv_if_eq (tgt := 59) hx hb dX2_hangingWith_51 (by decide) (fun c_5 => ?_) (fun c_5 => ?_)
      · replace h := iT c_5 h
        exact kX2_hangingWith_59 M hK6 ih x2 x3 x4 H locs ls hw (lv_sub hl [1, 2, 3, 4] rfl) h
      · replace h := iF c_5 h
        refine lv_iload_n hx hb dX2_hangingWith_54 rfl (lv_at hl 2 rfl) ?_
        refine lv_iload hx hb dX2_hangingWith_55 (lv_at hl 0 rfl) ?_
        refine lv_ior hx hb dX2_hangingWith_57 ?_
        refine lv_topi (fun x2_6 ex2_6 => ?_)
        replace h := h x2_6 ex2_6
        refine lv_istore_n (lv' := [(2, .int x2_6), (5, .int x5_4), (0, .ref (qP 0)), (3, .int x3), (4, .int x4)]) hx hb dX2_hangingWith_58 rfl hl (by decide) rfl (fun ls hl => ?_)
        exact kX2_hangingWith_59 M hK6 ih x2_6 x3 x4 H locs ls hw (lv_sub hl [2, 0, 3, 4] rfl) h
set_option maxHeartbeats 4000000 in
set_option maxRecDepth 100000 in
theorem kX2_hangingWith_6 {p : Program} {l : Launch} {e : Env} {s : State} {m : MethodId} {args : Array Value} {below : List Frame} {meth : Method} {c : Code} {z : KT} {A : Nat → Prop} {qP : Nat → Nat} {P : RT} {Q : Int32 → Prop} (M : Mc p s m args meth c cX2_hangingWith 6 (some .int) RX2 z A) : ∀ (n : Nat) (x2 : Int32) (x3 : Int32) (H : Heap) (locs : List Loc) (ls : Array Slot), Hw s z A (pW z qP P) H locs → lv_has ls 6 [(0, .ref (qP 0)), (2, .int x2), (3, .int x3)] → bX2_hangingWith_6 P Q n x2 x3 → W p l e rmX2_hangingWith s m args below meth c H locs 0 0 (MQ below (va_Qi (fun (r : Int32) (_ : Unit) => Q r) (fun u t => cAt z A ((fun _ : Unit => (pW z qP P)) u) t) A) args s 0 0 A) (F0 m 6 ls []) := by
  obtain ⟨hx, hb, -, -, hown, hts, -, -, -, hN, hsr, -⟩ := id M
  intro n
  induction n with
  | zero => intro x2 x3 H locs ls hw hl h; exact False.elim h
  | succ n ih =>
    intro x2 x3 H locs ls hw hl h
    rw [bX2_hangingWith_6] at h
    refine lv_iload_n hx hb dX2_hangingWith_6 rfl (lv_at hl 2 rfl) ?_
    refine lv_aload_n hx hb dX2_hangingWith_7 rfl (lv_at hl 0 rfl) ?_
    refine gt_f (v := .int (P 30 8)) M inlX3 hw 0 rfl rfl 8 (by decide) fl_X2_9 rfl rfl dX2_hangingWith_8 ?_
    refine lv_icmp_ge (tgt := 71) hx hb dX2_hangingWith_11 (by decide) (fun c_1 => ?_) (fun c_1 => ?_)
    · replace h := iT c_1 h
      refine lv_iload_n hx hb dX2_hangingWith_71 rfl (lv_at hl 1 rfl) ?_
      exact rt_i M () hw h dX2_hangingWith_72
    · replace h := iF c_1 h
      refine lv_iconst (v := 0) hx hb dX2_hangingWith_14 (by decide) ?_
      refine lv_istore (lv' := [(4, .int (0 : Int32)), (0, .ref (qP 0)), (2, .int x2), (3, .int x3)]) hx hb dX2_hangingWith_15 hl (by decide) rfl (fun ls hl => ?_)
      obtain ⟨n0, h⟩ := h; exact kX2_hangingWith_17 M ih n0 x2 x3 (0 : Int32) H locs ls hw (lv_sub hl [1, 2, 3, 0] rfl) h
set_option maxHeartbeats 4000000 in
set_option maxRecDepth 100000 in
theorem m_X2_hangingWith (l : Launch) (z : KT) (qP : Nat → Nat) (P : RT) (x1 : Int32) (Q : Int32 → Prop) (h : wX2_hangingWith P x1 Q) : CI l yX2_hangingWith cX2_hangingWith 6 .int rmX2_hangingWith z [.ref (qP 0), .int x1] (pW z qP P) (fun _ : Unit => (pW z qP P)) (fun (r : Int32) (_ : Unit) => Q r) := by
  refine CI.of rfl (Nat.le_of_ble_eq_true rfl) ?_
  intro p e s m below meth c A ls M hw hl
  have M : Mc p s m _ meth c cX2_hangingWith 6 (some .int) RX2 z A := M
  obtain ⟨hx, hb, -, -, hown, hts, -, -, -, hN, hsr, -⟩ := id M
  have hl : lv_has ls 6 [(0, .ref (qP 0)), (1, .int x1)] := hl
  unfold wX2_hangingWith at h
  generalize s.heap = H at hw ⊢
  generalize ([] : List Loc) = locs at hw ⊢
  refine lv_iconst (v := 1) hx hb dX2_hangingWith_0 (by decide) ?_
  refine lv_iload_n hx hb dX2_hangingWith_1 rfl (lv_at hl 1 rfl) ?_
  refine lv_ishl hx hb dX2_hangingWith_2 ?_
  refine lv_topi (fun x2_1 ex2_1 => ?_)
  replace h := h x2_1 ex2_1
  refine lv_istore_n (lv' := [(2, .int x2_1), (0, .ref (qP 0)), (1, .int x1)]) hx hb dX2_hangingWith_3 rfl hl (by decide) rfl (fun ls hl => ?_)
  refine lv_iconst (v := 0) hx hb dX2_hangingWith_4 (by decide) ?_
  refine lv_istore_n (lv' := [(3, .int (0 : Int32)), (2, .int x2_1), (0, .ref (qP 0)), (1, .int x1)]) hx hb dX2_hangingWith_5 rfl hl (by decide) rfl (fun ls hl => ?_)
  obtain ⟨n0, h⟩ := h; exact kX2_hangingWith_6 M n0 x2_1 (0 : Int32) H locs ls hw (lv_sub hl [2, 1, 0] rfl) h
abbrev rmX2_pieces : Room := { frames := 1, cells := 0, slots := 0, locals := 25 }
set_option maxHeartbeats 4000000 in
set_option maxRecDepth 100000 in
theorem kX2_pieces_27 {p : Program} {l : Launch} {e : Env} {s : State} {m : MethodId} {args : Array Value} {below : List Frame} {meth : Method} {c : Code} {z : KT} {A : Nat → Prop} {qP : Nat → Nat} {K4 : Int32 → Int32 → Prop} {P : RT} {Q : Int32 → Prop} (M : Mc p s m args meth c cX2_pieces 3 (some .int) RX2 z A) (hK4 : ∀ (x1 : Int32) (x2 : Int32) (H : Heap) (locs : List Loc) (ls : Array Slot), Hw s z A (pW z qP P) H locs → lv_has ls 3 [(0, .ref (qP 0)), (1, .int x1), (2, .int x2)] → K4 x1 x2 → W p l e rmX2_pieces s m args below meth c H locs 0 0 (MQ below (va_Qi (fun (r : Int32) (_ : Unit) => Q r) (fun u t => cAt z A ((fun _ : Unit => (pW z qP P)) u) t) A) args s 0 0 A) (F0 m 4 ls [])) : ∀ (x1 : Int32) (x2 : Int32) (H : Heap) (locs : List Loc) (ls : Array Slot), Hw s z A (pW z qP P) H locs → lv_has ls 3 [(0, .ref (qP 0)), (1, .int x1), (2, .int x2)] → bX2_pieces_27 K4 P Q x1 x2 → W p l e rmX2_pieces s m args below meth c H locs 0 0 (MQ below (va_Qi (fun (r : Int32) (_ : Unit) => Q r) (fun u t => cAt z A ((fun _ : Unit => (pW z qP P)) u) t) A) args s 0 0 A) (F0 m 27 ls []) := by
  obtain ⟨hx, hb, -, -, hown, hts, -, -, -, hN, hsr, -⟩ := id M
  intro x1 x2 H locs ls hw hl h
  unfold bX2_pieces_27 at h
  obtain ⟨x2_1, ex2_1⟩ : ∃ y : Int32, y = (x2 + (1 : Int32)) := ⟨_, rfl⟩
  replace h := h x2_1 ex2_1
  refine lv_iinc (v := x2_1) (lv' := [(2, .int x2_1), (0, .ref (qP 0)), (1, .int x1)]) hx hb dX2_pieces_27 hl (k := 2) rfl (by rw [ex2_1]; rfl) (by decide) rfl (fun ls hl => ?_)
  refine lv_goto (tgt := 4) hx hb dX2_pieces_30 (by decide) ?_
  exact hK4 x1 x2_1 H locs ls hw (lv_sub hl [1, 2, 0] rfl) h
set_option maxHeartbeats 4000000 in
set_option maxRecDepth 100000 in
theorem kX2_pieces_4 {p : Program} {l : Launch} {e : Env} {s : State} {m : MethodId} {args : Array Value} {below : List Frame} {meth : Method} {c : Code} {z : KT} {A : Nat → Prop} {qP : Nat → Nat} {P : RT} {Q : Int32 → Prop} (M : Mc p s m args meth c cX2_pieces 3 (some .int) RX2 z A) : ∀ (n : Nat) (x1 : Int32) (x2 : Int32) (H : Heap) (locs : List Loc) (ls : Array Slot), Hw s z A (pW z qP P) H locs → lv_has ls 3 [(0, .ref (qP 0)), (1, .int x1), (2, .int x2)] → bX2_pieces_4 P Q n x1 x2 → W p l e rmX2_pieces s m args below meth c H locs 0 0 (MQ below (va_Qi (fun (r : Int32) (_ : Unit) => Q r) (fun u t => cAt z A ((fun _ : Unit => (pW z qP P)) u) t) A) args s 0 0 A) (F0 m 4 ls []) := by
  obtain ⟨hx, hb, -, -, hown, hts, -, -, -, hN, hsr, -⟩ := id M
  intro n
  induction n with
  | zero => intro x1 x2 H locs ls hw hl h; exact False.elim h
  | succ n ih =>
    intro x1 x2 H locs ls hw hl h
    rw [bX2_pieces_4] at h
    refine lv_iload_n hx hb dX2_pieces_4 rfl (lv_at hl 2 rfl) ?_
    refine lv_aload_n hx hb dX2_pieces_5 rfl (lv_at hl 0 rfl) ?_
    refine gt_f (v := .int (P 30 7)) M inlX3 hw 0 rfl rfl 7 (by decide) fl_X2_22 rfl rfl dX2_pieces_6 ?_
    refine lv_icmp_ge (tgt := 33) hx hb dX2_pieces_9 (by decide) (fun c_1 => ?_) (fun c_1 => ?_)
    · replace h := iT c_1 h
      refine lv_iload_n hx hb dX2_pieces_33 rfl (lv_at hl 1 rfl) ?_
      exact rt_i M () hw h dX2_pieces_34
    · replace h := iF c_1 h
      refine lv_aload_n hx hb dX2_pieces_12 rfl (lv_at hl 0 rfl) ?_
      refine lv_iload_n hx hb dX2_pieces_13 rfl (lv_at hl 2 rfl) ?_
      refine fr_Si (wN := fun _ : Unit => (pW z qP P)) M (m_X2_hangingWith l z qP P x2 _ h) (va_cwS 2 hts (gdS cd_X2_hangingWith ml_X2_25 st_X2_hangingWith in_X2) rfl rfl rfl hdS_X2_hangingWith ⟨(Nat.le_of_ble_eq_true rfl), (Nat.le_of_ble_eq_true rfl)⟩) (Cut.self _) (Prm.self _ 8 (fun _ => rfl)) hw rfl hl.1 rfl (Nat.le_of_ble_eq_true rfl) dX2_pieces_14 (fun r_2 u_ H locs h hw => ?_)
      have hw : Hw s z A (pW z qP P) H locs := hw
      try dsimp only at h
      refine fr_Si (wN := fun _ : Unit => (pW z qP P)) M (m_J6_numberOfTrailingZeros l z r_2 _ h) (va_cwS 1 hts (gdS cd_J6_numberOfTrailingZeros_0f7a4 ml_X2_31 st_J6_numberOfTrailingZeros_0f7a4 in_J6) rfl rfl rfl hdS_J6_numberOfTrailingZeros_0f7a4 ⟨(Nat.le_of_ble_eq_true rfl), (Nat.le_of_ble_eq_true rfl)⟩) (Cut.none _) (Prm.none _) hw rfl hl.1 rfl (Nat.le_of_ble_eq_true rfl) dX2_pieces_17 (fun r_3 u_ H locs h hw => ?_)
      have hw : Hw s z A (pW z qP P) H locs := hw
      try dsimp only at h
      refine lv_iload_n hx hb dX2_pieces_20 rfl (lv_at hl 2 rfl) ?_
      refine lv_icmp_ne (tgt := 27) hx hb dX2_pieces_21 (by decide) (fun c_4 => ?_) (fun c_4 => ?_)
      · replace h := iF c_4 h
        exact kX2_pieces_27 M ih x1 x2 H locs ls hw (lv_sub hl [0, 1, 2] rfl) h
      · replace h := iT c_4 h
        obtain ⟨x1_5, ex1_5⟩ : ∃ y : Int32, y = (x1 + (1 : Int32)) := ⟨_, rfl⟩
        replace h := h x1_5 ex1_5
        refine lv_iinc (v := x1_5) (lv' := [(1, .int x1_5), (0, .ref (qP 0)), (2, .int x2)]) hx hb dX2_pieces_24 hl (k := 1) rfl (by rw [ex1_5]; rfl) (by decide) rfl (fun ls hl => ?_)
        exact kX2_pieces_27 M ih x1_5 x2 H locs ls hw (lv_sub hl [1, 0, 2] rfl) h
set_option maxHeartbeats 4000000 in
set_option maxRecDepth 100000 in
theorem m_X2_pieces (l : Launch) (z : KT) (qP : Nat → Nat) (P : RT) (Q : Int32 → Prop) (h : wX2_pieces P Q) : CI l yX2_pieces cX2_pieces 3 .int rmX2_pieces z [.ref (qP 0)] (pW z qP P) (fun _ : Unit => (pW z qP P)) (fun (r : Int32) (_ : Unit) => Q r) := by
  refine CI.of rfl (Nat.le_of_ble_eq_true rfl) ?_
  intro p e s m below meth c A ls M hw hl
  have M : Mc p s m _ meth c cX2_pieces 3 (some .int) RX2 z A := M
  obtain ⟨hx, hb, -, -, hown, hts, -, -, -, hN, hsr, -⟩ := id M
  have hl : lv_has ls 3 [(0, .ref (qP 0))] := hl
  unfold wX2_pieces at h
  generalize s.heap = H at hw ⊢
  generalize ([] : List Loc) = locs at hw ⊢
  refine lv_iconst (v := 0) hx hb dX2_pieces_0 (by decide) ?_
  refine lv_istore_n (lv' := [(1, .int (0 : Int32)), (0, .ref (qP 0))]) hx hb dX2_pieces_1 rfl hl (by decide) rfl (fun ls hl => ?_)
  refine lv_iconst (v := 0) hx hb dX2_pieces_2 (by decide) ?_
  refine lv_istore_n (lv' := [(2, .int (0 : Int32)), (1, .int (0 : Int32)), (0, .ref (qP 0))]) hx hb dX2_pieces_3 rfl hl (by decide) rfl (fun ls hl => ?_)
  obtain ⟨n0, h⟩ := h; exact kX2_pieces_4 M n0 (0 : Int32) (0 : Int32) H locs ls hw (lv_sub hl [2, 1, 0] rfl) h
abbrev rmX2_greatestPiece : Room := { frames := 1, cells := 0, slots := 0, locals := 25 }
set_option maxHeartbeats 4000000 in
set_option maxRecDepth 100000 in
theorem kX2_greatestPiece_4 {p : Program} {l : Launch} {e : Env} {s : State} {m : MethodId} {args : Array Value} {below : List Frame} {meth : Method} {c : Code} {z : KT} {A : Nat → Prop} {qP : Nat → Nat} {P : RT} {Q : Int32 → Prop} (M : Mc p s m args meth c cX2_greatestPiece 3 (some .int) RX2 z A) : ∀ (n : Nat) (x1 : Int32) (x2 : Int32) (H : Heap) (locs : List Loc) (ls : Array Slot), Hw s z A (pW z qP P) H locs → lv_has ls 3 [(0, .ref (qP 0)), (1, .int x1), (2, .int x2)] → bX2_greatestPiece_4 P Q n x1 x2 → W p l e rmX2_greatestPiece s m args below meth c H locs 0 0 (MQ below (va_Qi (fun (r : Int32) (_ : Unit) => Q r) (fun u t => cAt z A ((fun _ : Unit => (pW z qP P)) u) t) A) args s 0 0 A) (F0 m 4 ls []) := by
  obtain ⟨hx, hb, -, -, hown, hts, -, -, -, hN, hsr, -⟩ := id M
  intro n
  induction n with
  | zero => intro x1 x2 H locs ls hw hl h; exact False.elim h
  | succ n ih =>
    intro x1 x2 H locs ls hw hl h
    rw [bX2_greatestPiece_4] at h
    refine lv_iload_n hx hb dX2_greatestPiece_4 rfl (lv_at hl 2 rfl) ?_
    refine lv_aload_n hx hb dX2_greatestPiece_5 rfl (lv_at hl 0 rfl) ?_
    refine gt_f (v := .int (P 30 7)) M inlX3 hw 0 rfl rfl 7 (by decide) fl_X2_22 rfl rfl dX2_greatestPiece_6 ?_
    refine lv_icmp_ge (tgt := 31) hx hb dX2_greatestPiece_9 (by decide) (fun c_1 => ?_) (fun c_1 => ?_)
    · replace h := iT c_1 h
      refine lv_iload_n hx hb dX2_greatestPiece_31 rfl (lv_at hl 1 rfl) ?_
      exact rt_i M () hw h dX2_greatestPiece_32
    · replace h := iF c_1 h
      refine lv_iload_n hx hb dX2_greatestPiece_12 rfl (lv_at hl 1 rfl) ?_
      refine lv_aload_n hx hb dX2_greatestPiece_13 rfl (lv_at hl 0 rfl) ?_
      refine lv_iload_n hx hb dX2_greatestPiece_14 rfl (lv_at hl 2 rfl) ?_
      refine fr_Si (wN := fun _ : Unit => (pW z qP P)) M (m_X2_hangingWith l z qP P x2 _ h) (va_cwS 2 hts (gdS cd_X2_hangingWith ml_X2_25 st_X2_hangingWith in_X2) rfl rfl rfl hdS_X2_hangingWith ⟨(Nat.le_of_ble_eq_true rfl), (Nat.le_of_ble_eq_true rfl)⟩) (Cut.self _) (Prm.self _ 8 (fun _ => rfl)) hw rfl hl.1 rfl (Nat.le_of_ble_eq_true rfl) dX2_greatestPiece_15 (fun r_2 u_ H locs h hw => ?_)
      have hw : Hw s z A (pW z qP P) H locs := hw
      try dsimp only at h
      refine fr_Si (wN := fun _ : Unit => (pW z qP P)) M (m_J6_bitCount l z r_2 _ h) (va_cwS 1 hts (gdS cd_J6_bitCount_0f7a4 ml_X2_37 st_J6_bitCount_0f7a4 in_J6) rfl rfl rfl hdS_J6_bitCount_0f7a4 ⟨(Nat.le_of_ble_eq_true rfl), (Nat.le_of_ble_eq_true rfl)⟩) (Cut.none _) (Prm.none _) hw rfl hl.1 rfl (Nat.le_of_ble_eq_true rfl) dX2_greatestPiece_18 (fun r_3 u_ H locs h hw => ?_)
      have hw : Hw s z A (pW z qP P) H locs := hw
      try dsimp only at h
      refine mx_i M ml_X2_40 hl.1 (Nat.le_of_ble_eq_true rfl) (Nat.le_of_ble_eq_true rfl) dX2_greatestPiece_21 ?_
      refine lv_topi (fun x1_4 ex1_4 => ?_)
      replace h := h x1_4 ex1_4
      refine lv_istore_n (lv' := [(1, .int x1_4), (0, .ref (qP 0)), (2, .int x2)]) hx hb dX2_greatestPiece_24 rfl hl (by decide) rfl (fun ls hl => ?_)
      obtain ⟨x2_5, ex2_5⟩ : ∃ y : Int32, y = (x2 + (1 : Int32)) := ⟨_, rfl⟩
      replace h := h x2_5 ex2_5
      refine lv_iinc (v := x2_5) (lv' := [(2, .int x2_5), (1, .int x1_4), (0, .ref (qP 0))]) hx hb dX2_greatestPiece_25 hl (k := 2) rfl (by rw [ex2_5]; rfl) (by decide) rfl (fun ls hl => ?_)
      refine lv_goto (tgt := 4) hx hb dX2_greatestPiece_28 (by decide) ?_
      exact ih x1_4 x2_5 H locs ls hw (lv_sub hl [2, 1, 0] rfl) h
set_option maxHeartbeats 4000000 in
set_option maxRecDepth 100000 in
theorem m_X2_greatestPiece (l : Launch) (z : KT) (qP : Nat → Nat) (P : RT) (Q : Int32 → Prop) (h : wX2_greatestPiece P Q) : CI l yX2_greatestPiece cX2_greatestPiece 3 .int rmX2_greatestPiece z [.ref (qP 0)] (pW z qP P) (fun _ : Unit => (pW z qP P)) (fun (r : Int32) (_ : Unit) => Q r) := by
  refine CI.of rfl (Nat.le_of_ble_eq_true rfl) ?_
  intro p e s m below meth c A ls M hw hl
  have M : Mc p s m _ meth c cX2_greatestPiece 3 (some .int) RX2 z A := M
  obtain ⟨hx, hb, -, -, hown, hts, -, -, -, hN, hsr, -⟩ := id M
  have hl : lv_has ls 3 [(0, .ref (qP 0))] := hl
  unfold wX2_greatestPiece at h
  generalize s.heap = H at hw ⊢
  generalize ([] : List Loc) = locs at hw ⊢
  refine lv_iconst (v := 0) hx hb dX2_greatestPiece_0 (by decide) ?_
  refine lv_istore_n (lv' := [(1, .int (0 : Int32)), (0, .ref (qP 0))]) hx hb dX2_greatestPiece_1 rfl hl (by decide) rfl (fun ls hl => ?_)
  refine lv_iconst (v := 0) hx hb dX2_greatestPiece_2 (by decide) ?_
  refine lv_istore_n (lv' := [(2, .int (0 : Int32)), (1, .int (0 : Int32)), (0, .ref (qP 0))]) hx hb dX2_greatestPiece_3 rfl hl (by decide) rfl (fun ls hl => ?_)
  obtain ⟨n0, h⟩ := h; exact kX2_greatestPiece_4 M n0 (0 : Int32) (0 : Int32) H locs ls hw (lv_sub hl [2, 1, 0] rfl) h
abbrev rmX2_hasRing : Room := { frames := 2, cells := 0, slots := 0, locals := 47 }
set_option maxHeartbeats 4000000 in
set_option maxRecDepth 100000 in
theorem m_X2_hasRing (l : Launch) (z : KT) (qP : Nat → Nat) (P : RT) (Q : Int32 → Prop) (h : wX2_hasRing P Q) : CI l yX2_hasRing cX2_hasRing 1 .boolean rmX2_hasRing z [.ref (qP 0)] (pW z qP P) (fun _ : Unit => (pW z qP P)) (fun (r : Int32) (_ : Unit) => Q r) := by
  refine CI.of rfl (Nat.le_of_ble_eq_true rfl) ?_
  intro p e s m below meth c A ls M hw hl
  have M : Mc p s m _ meth c cX2_hasRing 1 (some .boolean) RX2 z A := M
  obtain ⟨hx, hb, -, -, hown, hts, -, -, -, hN, hsr, -⟩ := id M
  have hl : lv_has ls 1 [(0, .ref (qP 0))] := hl
  unfold wX2_hasRing at h
  generalize s.heap = H at hw ⊢
  generalize ([] : List Loc) = locs at hw ⊢
  refine lv_aload_n hx hb dX2_hasRing_0 rfl (lv_at hl 0 rfl) ?_
  refine gt_f (v := .int (P 30 8)) M inlX3 hw 0 rfl rfl 8 (by decide) fl_X2_9 rfl rfl dX2_hasRing_1 ?_
  refine lv_aload_n hx hb dX2_hasRing_4 rfl (lv_at hl 0 rfl) ?_
  refine gt_f (v := .int (P 30 7)) M inlX3 hw 0 rfl rfl 7 (by decide) fl_X2_22 rfl rfl dX2_hasRing_5 ?_
  refine lv_aload_n hx hb dX2_hasRing_8 rfl (lv_at hl 0 rfl) ?_
  refine fr_Si (wN := fun _ : Unit => (pW z qP P)) M (m_X2_pieces l z qP P _ h) (va_cwS 1 hts (gdS cd_X2_pieces ml_X2_46 st_X2_pieces in_X2) rfl rfl rfl hdS_X2_pieces ⟨(Nat.le_of_ble_eq_true rfl), (Nat.le_of_ble_eq_true rfl)⟩) (Cut.self _) (Prm.self _ 8 (fun _ => rfl)) hw rfl hl.1 rfl (Nat.le_of_ble_eq_true rfl) dX2_hasRing_9 (fun r_1 u_ H locs h hw => ?_)
  have hw : Hw s z A (pW z qP P) H locs := hw
  try dsimp only at h
  refine lv_isub hx hb dX2_hasRing_12 ?_
  refine lv_icmp_le (tgt := 20) hx hb dX2_hasRing_13 (by decide) (fun c_2 => ?_) (fun c_2 => ?_)
  · replace h := iT c_2 h
    refine lv_iconst (v := 0) hx hb dX2_hasRing_20 (by decide) ?_
    exact rt_z M () hw bz0 h dX2_hasRing_21
  · replace h := iF c_2 h
    refine lv_iconst (v := 1) hx hb dX2_hasRing_16 (by decide) ?_
    refine lv_goto (tgt := 21) hx hb dX2_hasRing_17 (by decide) ?_
    exact rt_z M () hw bz1 h dX2_hasRing_21
abbrev rmX2_heavierThan : Room := { frames := 2, cells := 0, slots := 0, locals := 48 }
set_option maxHeartbeats 4000000 in
set_option maxRecDepth 100000 in
theorem kX2_heavierThan_63 {p : Program} {l : Launch} {e : Env} {s : State} {m : MethodId} {args : Array Value} {below : List Frame} {meth : Method} {c : Code} {z : KT} {A : Nat → Prop} {qP : Nat → Nat} {K6 : Int32 → Int32 → Int32 → Prop} {K17 : Int32 → Int32 → Int32 → Int32 → Prop} {P : RT} {Q : Int32 → Prop} (M : Mc p s m args meth c cX2_heavierThan 6 (some .int) RX2 z A) (hK6 : ∀ (x1 : Int32) (x2 : Int32) (x3 : Int32) (H : Heap) (locs : List Loc) (ls : Array Slot), Hw s z A (pW z qP P) H locs → lv_has ls 6 [(0, .ref (qP 0)), (1, .int x1), (2, .int x2), (3, .int x3)] → K6 x1 x2 x3 → W p l e rmX2_heavierThan s m args below meth c H locs 0 0 (MQ below (va_Qi (fun (r : Int32) (_ : Unit) => Q r) (fun u t => cAt z A ((fun _ : Unit => (pW z qP P)) u) t) A) args s 0 0 A) (F0 m 6 ls [])) (hK17 : ∀ (x1 : Int32) (x2 : Int32) (x3 : Int32) (x4 : Int32) (H : Heap) (locs : List Loc) (ls : Array Slot), Hw s z A (pW z qP P) H locs → lv_has ls 6 [(0, .ref (qP 0)), (1, .int x1), (2, .int x2), (3, .int x3), (4, .int x4)] → K17 x1 x2 x3 x4 → W p l e rmX2_heavierThan s m args below meth c H locs 0 0 (MQ below (va_Qi (fun (r : Int32) (_ : Unit) => Q r) (fun u t => cAt z A ((fun _ : Unit => (pW z qP P)) u) t) A) args s 0 0 A) (F0 m 17 ls [])) : ∀ (x1 : Int32) (x2 : Int32) (x3 : Int32) (x4 : Int32) (H : Heap) (locs : List Loc) (ls : Array Slot), Hw s z A (pW z qP P) H locs → lv_has ls 6 [(0, .ref (qP 0)), (1, .int x1), (2, .int x2), (3, .int x3), (4, .int x4)] → bX2_heavierThan_63 K6 K17 P Q x1 x2 x3 x4 → W p l e rmX2_heavierThan s m args below meth c H locs 0 0 (MQ below (va_Qi (fun (r : Int32) (_ : Unit) => Q r) (fun u t => cAt z A ((fun _ : Unit => (pW z qP P)) u) t) A) args s 0 0 A) (F0 m 63 ls []) := by
  obtain ⟨hx, hb, -, -, hown, hts, -, -, -, hN, hsr, -⟩ := id M
  intro x1 x2 x3 x4 H locs ls hw hl h
  unfold bX2_heavierThan_63 at h
  obtain ⟨x4_1, ex4_1⟩ : ∃ y : Int32, y = (x4 + (1 : Int32)) := ⟨_, rfl⟩
  replace h := h x4_1 ex4_1
  refine lv_iinc (v := x4_1) (lv' := [(4, .int x4_1), (0, .ref (qP 0)), (1, .int x1), (2, .int x2), (3, .int x3)]) hx hb dX2_heavierThan_63 hl (k := 4) rfl (by rw [ex4_1]; rfl) (by decide) rfl (fun ls hl => ?_)
  refine lv_goto (tgt := 17) hx hb dX2_heavierThan_66 (by decide) ?_
  exact hK17 x1 x2 x3 x4_1 H locs ls hw (lv_sub hl [1, 2, 3, 4, 0] rfl) h
set_option maxHeartbeats 4000000 in
set_option maxRecDepth 100000 in
theorem kX2_heavierThan_17 {p : Program} {l : Launch} {e : Env} {s : State} {m : MethodId} {args : Array Value} {below : List Frame} {meth : Method} {c : Code} {z : KT} {A : Nat → Prop} {qP : Nat → Nat} {K6 : Int32 → Int32 → Int32 → Prop} {P : RT} {Q : Int32 → Prop} (M : Mc p s m args meth c cX2_heavierThan 6 (some .int) RX2 z A) (hK6 : ∀ (x1 : Int32) (x2 : Int32) (x3 : Int32) (H : Heap) (locs : List Loc) (ls : Array Slot), Hw s z A (pW z qP P) H locs → lv_has ls 6 [(0, .ref (qP 0)), (1, .int x1), (2, .int x2), (3, .int x3)] → K6 x1 x2 x3 → W p l e rmX2_heavierThan s m args below meth c H locs 0 0 (MQ below (va_Qi (fun (r : Int32) (_ : Unit) => Q r) (fun u t => cAt z A ((fun _ : Unit => (pW z qP P)) u) t) A) args s 0 0 A) (F0 m 6 ls [])) : ∀ (n : Nat) (x1 : Int32) (x2 : Int32) (x3 : Int32) (x4 : Int32) (H : Heap) (locs : List Loc) (ls : Array Slot), Hw s z A (pW z qP P) H locs → lv_has ls 6 [(0, .ref (qP 0)), (1, .int x1), (2, .int x2), (3, .int x3), (4, .int x4)] → bX2_heavierThan_17 K6 P Q n x1 x2 x3 x4 → W p l e rmX2_heavierThan s m args below meth c H locs 0 0 (MQ below (va_Qi (fun (r : Int32) (_ : Unit) => Q r) (fun u t => cAt z A ((fun _ : Unit => (pW z qP P)) u) t) A) args s 0 0 A) (F0 m 17 ls []) := by
  obtain ⟨hx, hb, -, -, hown, hts, -, -, -, hN, hsr, -⟩ := id M
  intro n
  induction n with
  | zero => intro x1 x2 x3 x4 H locs ls hw hl h; exact False.elim h
  | succ n ih =>
    intro x1 x2 x3 x4 H locs ls hw hl h
    rw [bX2_heavierThan_17] at h
    refine lv_iload hx hb dX2_heavierThan_17 (lv_at hl 4 rfl) ?_
    refine lv_aload_n hx hb dX2_heavierThan_19 rfl (lv_at hl 0 rfl) ?_
    refine gt_f (v := .int (P 30 8)) M inlX3 hw 0 rfl rfl 8 (by decide) fl_X2_9 rfl rfl dX2_heavierThan_20 ?_
    refine lv_icmp_ge (tgt := 69) hx hb dX2_heavierThan_23 (by decide) (fun c_1 => ?_) (fun c_1 => ?_)
    · replace h := iT c_1 h
      obtain ⟨x3_2, ex3_2⟩ : ∃ y : Int32, y = (x3 + (1 : Int32)) := ⟨_, rfl⟩
      replace h := h x3_2 ex3_2
      refine lv_iinc (v := x3_2) (lv' := [(3, .int x3_2), (0, .ref (qP 0)), (1, .int x1), (2, .int x2), (4, .int x4)]) hx hb dX2_heavierThan_69 hl (k := 3) rfl (by rw [ex3_2]; rfl) (by decide) rfl (fun ls hl => ?_)
      refine lv_goto (tgt := 6) hx hb dX2_heavierThan_72 (by decide) ?_
      exact hK6 x1 x2 x3_2 H locs ls hw (lv_sub hl [1, 2, 3, 0] rfl) h
    · replace h := iF c_1 h
      refine lv_aload_n hx hb dX2_heavierThan_26 rfl (lv_at hl 0 rfl) ?_
      refine lv_iload hx hb dX2_heavierThan_27 (lv_at hl 4 rfl) ?_
      refine fr_Vi (wN := fun _ : Unit => (pW z qP P)) M (m_X3_heavierEnd l z qP P x4 _ h) (cwV 1 hts (gdV cd_X3_heavierEnd ml_X2_50 im_X3_heavierEnd se_X3_heavierEnd in_X3) rfl rfl rfl hdV_X3_heavierEnd ⟨(Nat.le_of_ble_eq_true rfl), (Nat.le_of_ble_eq_true rfl)⟩) (Cut.self _) (Prm.self _ 8 (fun _ => rfl)) 0 rfl rfl rfl hw rfl hl.1 rfl (Nat.le_of_ble_eq_true rfl) dX2_heavierThan_29 (fun r_3 u_ H locs h hw => ?_)
      have hw : Hw s z A (pW z qP P) H locs := hw
      try dsimp only at h
      refine lv_istore (lv' := [(5, .int r_3), (0, .ref (qP 0)), (1, .int x1), (2, .int x2), (3, .int x3), (4, .int x4)]) hx hb dX2_heavierThan_32 hl (by decide) rfl (fun ls hl => ?_)
      refine lv_iload hx hb dX2_heavierThan_34 (lv_at hl 0 rfl) ?_
      refine lv_bipush (v := -9) hx hb dX2_heavierThan_36 (by decide) ?_
      refine lv_icmp_eq (tgt := 63) hx hb dX2_heavierThan_38 (by decide) (fun c_4 => ?_) (fun c_4 => ?_)
      · replace h := iT c_4 h
        exact kX2_heavierThan_63 M hK6 ih x1 x2 x3 x4 H locs ls hw (lv_sub hl [1, 2, 3, 4, 5] rfl) h
      · replace h := iF c_4 h
        refine lv_iload_n hx hb dX2_heavierThan_41 rfl (lv_at hl 3 rfl) ?_
        refine lv_aload_n hx hb dX2_heavierThan_42 rfl (lv_at hl 1 rfl) ?_
        refine lv_iload hx hb dX2_heavierThan_43 (lv_at hl 5 rfl) ?_
        refine lv_iload hx hb dX2_heavierThan_45 (lv_at hl 0 rfl) ?_
        refine fr_Vi (wN := fun _ : Unit => (pW z qP P)) M (m_X3_farEnd l z qP P x4 r_3 _ h) (cwV 2 hts (gdV cd_X3_farEnd ml_X2_53 im_X3_farEnd se_X3_farEnd in_X3) rfl rfl rfl hdV_X3_farEnd ⟨(Nat.le_of_ble_eq_true rfl), (Nat.le_of_ble_eq_true rfl)⟩) (Cut.self _) (Prm.self _ 8 (fun _ => rfl)) 0 rfl rfl rfl hw rfl hl.1 rfl (Nat.le_of_ble_eq_true rfl) dX2_heavierThan_47 (fun r_5 u_ H locs h hw => ?_)
        have hw : Hw s z A (pW z qP P) H locs := hw
        try dsimp only at h
        refine fr_Ni (wN := fun _ : Unit => (pW z qP P)) (host := RX6) M (m_X6_hasBit l z x2 r_5 _ h) ⟨va_cnB 2 hts (gdNL cd_X6_hasBit) rfl rfl rfl hN.2.2.1 (hts _ in_X6) hdS_X6_hasBit ⟨(Nat.le_of_ble_eq_true rfl), (Nat.le_of_ble_eq_true rfl)⟩, hts _ st_X6_hasBit, trivial⟩ (Cut.none _) (Prm.none _) hw rfl hl.1 rfl (Nat.le_of_ble_eq_true rfl) dX2_heavierThan_50 (fun r_6 u_ H locs h hw => ?_)
        have hw : Hw s z A (pW z qP P) H locs := hw
        try dsimp only at h
        refine lv_if_eq (tgt := 63) hx hb dX2_heavierThan_53 (by decide) (fun c_7 => ?_) (fun c_7 => ?_)
        · replace h := iT c_7 h
          exact kX2_heavierThan_63 M hK6 ih x1 x2 x3 x4 H locs ls hw (lv_sub hl [1, 2, 3, 4, 5] rfl) h
        · replace h := iF c_7 h
          refine lv_iload_n hx hb dX2_heavierThan_56 rfl (lv_at hl 3 rfl) ?_
          refine lv_iconst (v := 1) hx hb dX2_heavierThan_57 (by decide) ?_
          refine lv_iload hx hb dX2_heavierThan_58 (lv_at hl 0 rfl) ?_
          refine lv_ishl hx hb dX2_heavierThan_60 ?_
          refine lv_ior hx hb dX2_heavierThan_61 ?_
          refine lv_topi (fun x2_8 ex2_8 => ?_)
          replace h := h x2_8 ex2_8
          refine lv_istore_n (lv' := [(2, .int x2_8), (5, .int r_3), (0, .ref (qP 0)), (1, .int x1), (3, .int x3), (4, .int x4)]) hx hb dX2_heavierThan_62 rfl hl (by decide) rfl (fun ls hl => ?_)
          exact kX2_heavierThan_63 M hK6 ih x1 x2_8 x3 x4 H locs ls hw (lv_sub hl [2, 3, 0, 4, 5] rfl) h
set_option maxHeartbeats 4000000 in
set_option maxRecDepth 100000 in
theorem kX2_heavierThan_6 {p : Program} {l : Launch} {e : Env} {s : State} {m : MethodId} {args : Array Value} {below : List Frame} {meth : Method} {c : Code} {z : KT} {A : Nat → Prop} {qP : Nat → Nat} {P : RT} {Q : Int32 → Prop} (M : Mc p s m args meth c cX2_heavierThan 6 (some .int) RX2 z A) : ∀ (n : Nat) (x1 : Int32) (x2 : Int32) (x3 : Int32) (H : Heap) (locs : List Loc) (ls : Array Slot), Hw s z A (pW z qP P) H locs → lv_has ls 6 [(0, .ref (qP 0)), (1, .int x1), (2, .int x2), (3, .int x3)] → bX2_heavierThan_6 P Q n x1 x2 x3 → W p l e rmX2_heavierThan s m args below meth c H locs 0 0 (MQ below (va_Qi (fun (r : Int32) (_ : Unit) => Q r) (fun u t => cAt z A ((fun _ : Unit => (pW z qP P)) u) t) A) args s 0 0 A) (F0 m 6 ls []) := by
  obtain ⟨hx, hb, -, -, hown, hts, -, -, -, hN, hsr, -⟩ := id M
  intro n
  induction n with
  | zero => intro x1 x2 x3 H locs ls hw hl h; exact False.elim h
  | succ n ih =>
    intro x1 x2 x3 H locs ls hw hl h
    rw [bX2_heavierThan_6] at h
    refine lv_iload_n hx hb dX2_heavierThan_6 rfl (lv_at hl 3 rfl) ?_
    refine lv_aload_n hx hb dX2_heavierThan_7 rfl (lv_at hl 0 rfl) ?_
    refine gt_f (v := .int (P 30 8)) M inlX3 hw 0 rfl rfl 8 (by decide) fl_X2_9 rfl rfl dX2_heavierThan_8 ?_
    refine lv_icmp_ge (tgt := 75) hx hb dX2_heavierThan_11 (by decide) (fun c_1 => ?_) (fun c_1 => ?_)
    · replace h := iT c_1 h
      refine lv_iload_n hx hb dX2_heavierThan_75 rfl (lv_at hl 2 rfl) ?_
      refine lv_iconst (v := 1) hx hb dX2_heavierThan_76 (by decide) ?_
      refine lv_iload_n hx hb dX2_heavierThan_77 rfl (lv_at hl 1 rfl) ?_
      refine lv_ishl hx hb dX2_heavierThan_78 ?_
      refine lv_iconst (v := -1) hx hb dX2_heavierThan_79 (by decide) ?_
      refine lv_ixor hx hb dX2_heavierThan_80 ?_
      refine lv_iand hx hb dX2_heavierThan_81 ?_
      exact rt_i M () hw h dX2_heavierThan_82
    · replace h := iF c_1 h
      refine lv_iconst (v := 0) hx hb dX2_heavierThan_14 (by decide) ?_
      refine lv_istore (lv' := [(4, .int (0 : Int32)), (0, .ref (qP 0)), (1, .int x1), (2, .int x2), (3, .int x3)]) hx hb dX2_heavierThan_15 hl (by decide) rfl (fun ls hl => ?_)
      obtain ⟨n0, h⟩ := h; exact kX2_heavierThan_17 M ih n0 x1 x2 x3 (0 : Int32) H locs ls hw (lv_sub hl [1, 2, 3, 4, 0] rfl) h
set_option maxHeartbeats 4000000 in
set_option maxRecDepth 100000 in
theorem m_X2_heavierThan (l : Launch) (z : KT) (qP : Nat → Nat) (P : RT) (x1 : Int32) (Q : Int32 → Prop) (h : wX2_heavierThan P x1 Q) : CI l yX2_heavierThan cX2_heavierThan 6 .int rmX2_heavierThan z [.ref (qP 0), .int x1] (pW z qP P) (fun _ : Unit => (pW z qP P)) (fun (r : Int32) (_ : Unit) => Q r) := by
  refine CI.of rfl (Nat.le_of_ble_eq_true rfl) ?_
  intro p e s m below meth c A ls M hw hl
  have M : Mc p s m _ meth c cX2_heavierThan 6 (some .int) RX2 z A := M
  obtain ⟨hx, hb, -, -, hown, hts, -, -, -, hN, hsr, -⟩ := id M
  have hl : lv_has ls 6 [(0, .ref (qP 0)), (1, .int x1)] := hl
  unfold wX2_heavierThan at h
  generalize s.heap = H at hw ⊢
  generalize ([] : List Loc) = locs at hw ⊢
  refine lv_iconst (v := 1) hx hb dX2_heavierThan_0 (by decide) ?_
  refine lv_iload_n hx hb dX2_heavierThan_1 rfl (lv_at hl 1 rfl) ?_
  refine lv_ishl hx hb dX2_heavierThan_2 ?_
  refine lv_topi (fun x2_1 ex2_1 => ?_)
  replace h := h x2_1 ex2_1
  refine lv_istore_n (lv' := [(2, .int x2_1), (0, .ref (qP 0)), (1, .int x1)]) hx hb dX2_heavierThan_3 rfl hl (by decide) rfl (fun ls hl => ?_)
  refine lv_iconst (v := 0) hx hb dX2_heavierThan_4 (by decide) ?_
  refine lv_istore_n (lv' := [(3, .int (0 : Int32)), (2, .int x2_1), (0, .ref (qP 0)), (1, .int x1)]) hx hb dX2_heavierThan_5 rfl hl (by decide) rfl (fun ls hl => ?_)
  obtain ⟨n0, h⟩ := h; exact kX2_heavierThan_6 M n0 x1 x2_1 (0 : Int32) H locs ls hw (lv_sub hl [2, 3, 1, 0] rfl) h
abbrev rmX2_heaviestAbove : Room := { frames := 3, cells := 0, slots := 0, locals := 73 }
set_option maxHeartbeats 4000000 in
set_option maxRecDepth 100000 in
theorem kX2_heaviestAbove_58 {p : Program} {l : Launch} {e : Env} {s : State} {m : MethodId} {args : Array Value} {below : List Frame} {meth : Method} {c : Code} {z : KT} {A : Nat → Prop} {qP : Nat → Nat} {K18 : Int32 → Int32 → Int32 → Int32 → Prop} {P : RT} {Q : Int32 → Prop} (M : Mc p s m args meth c cX2_heaviestAbove 6 (some .int) RX2 z A) (hK18 : ∀ (x2 : Int32) (x3 : Int32) (x4 : Int32) (x5 : Int32) (H : Heap) (locs : List Loc) (ls : Array Slot), Hw s z A (pW z qP P) H locs → lv_has ls 6 [(0, .ref (qP 0)), (2, .int x2), (3, .int x3), (4, .int x4), (5, .int x5)] → K18 x2 x3 x4 x5 → W p l e rmX2_heaviestAbove s m args below meth c H locs 0 0 (MQ below (va_Qi (fun (r : Int32) (_ : Unit) => Q r) (fun u t => cAt z A ((fun _ : Unit => (pW z qP P)) u) t) A) args s 0 0 A) (F0 m 18 ls [])) : ∀ (x2 : Int32) (x3 : Int32) (x4 : Int32) (x5 : Int32) (H : Heap) (locs : List Loc) (ls : Array Slot), Hw s z A (pW z qP P) H locs → lv_has ls 6 [(0, .ref (qP 0)), (2, .int x2), (3, .int x3), (4, .int x4), (5, .int x5)] → bX2_heaviestAbove_58 K18 P Q x2 x3 x4 x5 → W p l e rmX2_heaviestAbove s m args below meth c H locs 0 0 (MQ below (va_Qi (fun (r : Int32) (_ : Unit) => Q r) (fun u t => cAt z A ((fun _ : Unit => (pW z qP P)) u) t) A) args s 0 0 A) (F0 m 58 ls []) := by
  obtain ⟨hx, hb, -, -, hown, hts, -, -, -, hN, hsr, -⟩ := id M
  intro x2 x3 x4 x5 H locs ls hw hl h
  unfold bX2_heaviestAbove_58 at h
  obtain ⟨x5_1, ex5_1⟩ : ∃ y : Int32, y = (x5 + (1 : Int32)) := ⟨_, rfl⟩
  replace h := h x5_1 ex5_1
  refine lv_iinc (v := x5_1) (lv' := [(5, .int x5_1), (0, .ref (qP 0)), (2, .int x2), (3, .int x3), (4, .int x4)]) hx hb dX2_heaviestAbove_58 hl (k := 4) rfl (by rw [ex5_1]; rfl) (by decide) rfl (fun ls hl => ?_)
  refine lv_goto (tgt := 18) hx hb dX2_heaviestAbove_61 (by decide) ?_
  exact hK18 x2 x3 x4 x5_1 H locs ls hw (lv_sub hl [1, 2, 3, 4, 0] rfl) h
set_option maxHeartbeats 4000000 in
set_option maxRecDepth 100000 in
theorem kX2_heaviestAbove_18 {p : Program} {l : Launch} {e : Env} {s : State} {m : MethodId} {args : Array Value} {below : List Frame} {meth : Method} {c : Code} {z : KT} {A : Nat → Prop} {qP : Nat → Nat} {P : RT} {Q : Int32 → Prop} (M : Mc p s m args meth c cX2_heaviestAbove 6 (some .int) RX2 z A) : ∀ (n : Nat) (x2 : Int32) (x3 : Int32) (x4 : Int32) (x5 : Int32) (H : Heap) (locs : List Loc) (ls : Array Slot), Hw s z A (pW z qP P) H locs → lv_has ls 6 [(0, .ref (qP 0)), (2, .int x2), (3, .int x3), (4, .int x4), (5, .int x5)] → bX2_heaviestAbove_18 P Q n x2 x3 x4 x5 → W p l e rmX2_heaviestAbove s m args below meth c H locs 0 0 (MQ below (va_Qi (fun (r : Int32) (_ : Unit) => Q r) (fun u t => cAt z A ((fun _ : Unit => (pW z qP P)) u) t) A) args s 0 0 A) (F0 m 18 ls []) := by
  obtain ⟨hx, hb, -, -, hown, hts, -, -, -, hN, hsr, -⟩ := id M
  intro n
  induction n with
  | zero => intro x2 x3 x4 x5 H locs ls hw hl h; exact False.elim h
  | succ n ih =>
    intro x2 x3 x4 x5 H locs ls hw hl h
    rw [bX2_heaviestAbove_18] at h
    refine lv_iload hx hb dX2_heaviestAbove_18 (lv_at hl 4 rfl) ?_
    refine lv_aload_n hx hb dX2_heaviestAbove_20 rfl (lv_at hl 0 rfl) ?_
    refine gt_f (v := .int (P 30 7)) M inlX3 hw 0 rfl rfl 7 (by decide) fl_X2_22 rfl rfl dX2_heaviestAbove_21 ?_
    refine lv_icmp_ge (tgt := 64) hx hb dX2_heaviestAbove_24 (by decide) (fun c_1 => ?_) (fun c_1 => ?_)
    · replace h := iT c_1 h
      refine lv_iload_n hx hb dX2_heaviestAbove_64 rfl (lv_at hl 2 rfl) ?_
      exact rt_i M () hw h dX2_heaviestAbove_65
    · replace h := iF c_1 h
      refine lv_iload_n hx hb dX2_heaviestAbove_27 rfl (lv_at hl 1 rfl) ?_
      refine lv_iload hx hb dX2_heaviestAbove_28 (lv_at hl 4 rfl) ?_
      refine fr_Ni (wN := fun _ : Unit => (pW z qP P)) (host := RX6) M (m_X6_hasBit l z x2 x5 _ h) ⟨va_cnB 2 hts (gdNL cd_X6_hasBit) rfl rfl rfl hN.2.2.1 (hts _ in_X6) hdS_X6_hasBit ⟨(Nat.le_of_ble_eq_true rfl), (Nat.le_of_ble_eq_true rfl)⟩, hts _ st_X6_hasBit, trivial⟩ (Cut.none _) (Prm.none _) hw rfl hl.1 rfl (Nat.le_of_ble_eq_true rfl) dX2_heaviestAbove_30 (fun r_2 u_ H locs h hw => ?_)
      have hw : Hw s z A (pW z qP P) H locs := hw
      try dsimp only at h
      refine lv_if_eq (tgt := 58) hx hb dX2_heaviestAbove_33 (by decide) (fun c_3 => ?_) (fun c_3 => ?_)
      · replace h := iT c_3 h
        exact kX2_heaviestAbove_58 M ih x2 x3 x4 x5 H locs ls hw (lv_sub hl [0, 1, 2, 3, 4] rfl) h
      · replace h := iF c_3 h
        refine lv_aload_n hx hb dX2_heaviestAbove_36 rfl (lv_at hl 0 rfl) ?_
        refine lv_iload hx hb dX2_heaviestAbove_37 (lv_at hl 4 rfl) ?_
        refine fr_Vi (wN := fun _ : Unit => (pW z qP P)) M (m_X3_heftOf l z qP P x5 _ h) (cwV 1 hts (gdV cd_X3_heftOf ml_X2_63 im_X3_heftOf se_X3_heftOf in_X3) rfl rfl rfl hdV_X3_heftOf ⟨(Nat.le_of_ble_eq_true rfl), (Nat.le_of_ble_eq_true rfl)⟩) (Cut.self _) (Prm.self _ 8 (fun _ => rfl)) 0 rfl rfl rfl hw rfl hl.1 rfl (Nat.le_of_ble_eq_true rfl) dX2_heaviestAbove_39 (fun r_4 u_ H locs h hw => ?_)
        have hw : Hw s z A (pW z qP P) H locs := hw
        try dsimp only at h
        refine lv_iload hx hb dX2_heaviestAbove_42 (lv_at hl 3 rfl) ?_
        refine lv_icmp_le (tgt := 58) hx hb dX2_heaviestAbove_44 (by decide) (fun c_5 => ?_) (fun c_5 => ?_)
        · replace h := iT c_5 h
          exact kX2_heaviestAbove_58 M ih x2 x3 x4 x5 H locs ls hw (lv_sub hl [0, 1, 2, 3, 4] rfl) h
        · replace h := iF c_5 h
          refine lv_aload_n hx hb dX2_heaviestAbove_47 rfl (lv_at hl 0 rfl) ?_
          refine lv_iload hx hb dX2_heaviestAbove_48 (lv_at hl 4 rfl) ?_
          refine fr_Vi (wN := fun _ : Unit => (pW z qP P)) M (m_X3_heftOf l z qP P x5 _ h) (cwV 1 hts (gdV cd_X3_heftOf ml_X2_63 im_X3_heftOf se_X3_heftOf in_X3) rfl rfl rfl hdV_X3_heftOf ⟨(Nat.le_of_ble_eq_true rfl), (Nat.le_of_ble_eq_true rfl)⟩) (Cut.self _) (Prm.self _ 8 (fun _ => rfl)) 0 rfl rfl rfl hw rfl hl.1 rfl (Nat.le_of_ble_eq_true rfl) dX2_heaviestAbove_50 (fun r_6 u_ H locs h hw => ?_)
          have hw : Hw s z A (pW z qP P) H locs := hw
          try dsimp only at h
          refine lv_istore (lv' := [(4, .int r_6), (0, .ref (qP 0)), (2, .int x2), (3, .int x3), (5, .int x5)]) hx hb dX2_heaviestAbove_53 hl (by decide) rfl (fun ls hl => ?_)
          refine lv_iload hx hb dX2_heaviestAbove_55 (lv_at hl 4 rfl) ?_
          refine lv_istore_n (lv' := [(3, .int x5), (4, .int r_6), (0, .ref (qP 0)), (2, .int x2), (5, .int x5)]) hx hb dX2_heaviestAbove_57 rfl hl (by decide) rfl (fun ls hl => ?_)
          exact kX2_heaviestAbove_58 M ih x2 x5 r_6 x5 H locs ls hw (lv_sub hl [2, 3, 0, 1, 4] rfl) h
set_option maxHeartbeats 4000000 in
set_option maxRecDepth 100000 in
theorem m_X2_heaviestAbove (l : Launch) (z : KT) (qP : Nat → Nat) (P : RT) (x1 : Int32) (Q : Int32 → Prop) (h : wX2_heaviestAbove P x1 Q) : CI l yX2_heaviestAbove cX2_heaviestAbove 6 .int rmX2_heaviestAbove z [.ref (qP 0), .int x1] (pW z qP P) (fun _ : Unit => (pW z qP P)) (fun (r : Int32) (_ : Unit) => Q r) := by
  refine CI.of rfl (Nat.le_of_ble_eq_true rfl) ?_
  intro p e s m below meth c A ls M hw hl
  have M : Mc p s m _ meth c cX2_heaviestAbove 6 (some .int) RX2 z A := M
  obtain ⟨hx, hb, -, -, hown, hts, -, -, -, hN, hsr, -⟩ := id M
  have hl : lv_has ls 6 [(0, .ref (qP 0)), (1, .int x1)] := hl
  unfold wX2_heaviestAbove at h
  generalize s.heap = H at hw ⊢
  generalize ([] : List Loc) = locs at hw ⊢
  refine lv_aload_n hx hb dX2_heaviestAbove_0 rfl (lv_at hl 0 rfl) ?_
  refine lv_iload_n hx hb dX2_heaviestAbove_1 rfl (lv_at hl 1 rfl) ?_
  refine fr_Si (wN := fun _ : Unit => (pW z qP P)) M (m_X2_heavierThan l z qP P x1 _ h) (va_cwS 2 hts (gdS cd_X2_heavierThan ml_X2_60 st_X2_heavierThan in_X2) rfl rfl rfl hdS_X2_heavierThan ⟨(Nat.le_of_ble_eq_true rfl), (Nat.le_of_ble_eq_true rfl)⟩) (Cut.self _) (Prm.self _ 8 (fun _ => rfl)) hw rfl hl.1 rfl (Nat.le_of_ble_eq_true rfl) dX2_heaviestAbove_2 (fun r_1 u_ H locs h hw => ?_)
  have hw : Hw s z A (pW z qP P) H locs := hw
  try dsimp only at h
  refine lv_istore_n (lv' := [(2, .int r_1), (0, .ref (qP 0)), (1, .int x1)]) hx hb dX2_heaviestAbove_5 rfl hl (by decide) rfl (fun ls hl => ?_)
  refine lv_iload_n hx hb dX2_heaviestAbove_6 rfl (lv_at hl 2 rfl) ?_
  refine lv_istore_n (lv' := [(3, .int x1), (2, .int r_1), (0, .ref (qP 0)), (1, .int x1)]) hx hb dX2_heaviestAbove_7 rfl hl (by decide) rfl (fun ls hl => ?_)
  refine lv_aload_n hx hb dX2_heaviestAbove_8 rfl (lv_at hl 2 rfl) ?_
  refine lv_iload_n hx hb dX2_heaviestAbove_9 rfl (lv_at hl 3 rfl) ?_
  refine fr_Vi (wN := fun _ : Unit => (pW z qP P)) M (m_X3_heftOf l z qP P x1 _ h) (cwV 1 hts (gdV cd_X3_heftOf ml_X2_63 im_X3_heftOf se_X3_heftOf in_X3) rfl rfl rfl hdV_X3_heftOf ⟨(Nat.le_of_ble_eq_true rfl), (Nat.le_of_ble_eq_true rfl)⟩) (Cut.self _) (Prm.self _ 8 (fun _ => rfl)) 0 rfl rfl rfl hw rfl hl.1 rfl (Nat.le_of_ble_eq_true rfl) dX2_heaviestAbove_10 (fun r_2 u_ H locs h hw => ?_)
  have hw : Hw s z A (pW z qP P) H locs := hw
  try dsimp only at h
  refine lv_istore (lv' := [(4, .int r_2), (3, .int x1), (2, .int r_1), (0, .ref (qP 0)), (1, .int x1)]) hx hb dX2_heaviestAbove_13 hl (by decide) rfl (fun ls hl => ?_)
  refine lv_iconst (v := 0) hx hb dX2_heaviestAbove_15 (by decide) ?_
  refine lv_istore (lv' := [(5, .int (0 : Int32)), (4, .int r_2), (3, .int x1), (2, .int r_1), (0, .ref (qP 0)), (1, .int x1)]) hx hb dX2_heaviestAbove_16 hl (by decide) rfl (fun ls hl => ?_)
  obtain ⟨n0, h⟩ := h; exact kX2_heaviestAbove_18 M n0 r_1 x1 r_2 (0 : Int32) H locs ls hw (lv_sub hl [4, 3, 2, 1, 0] rfl) h
abbrev rmX4_rankOf : Room := { frames := 1, cells := 0, slots := 0, locals := 26 }
set_option maxHeartbeats 4000000 in
set_option maxRecDepth 100000 in
theorem kX4_rankOf_49 {p : Program} {l : Launch} {e : Env} {s : State} {m : MethodId} {args : Array Value} {below : List Frame} {meth : Method} {c : Code} {z : KT} {A : Nat → Prop} {qP : Nat → Nat} {K11 : Int32 → Int32 → Int32 → Int32 → Prop} {P : RT} {Q : Int32 → Prop} (M : Mc p s m args meth c cX4_rankOf 6 (some .int) RX4 z A) (hK11 : ∀ (x1 : Int32) (x2 : Int32) (x3 : Int32) (x4 : Int32) (H : Heap) (locs : List Loc) (ls : Array Slot), Hw s z A (pW z qP P) H locs → lv_has ls 6 [(0, .ref (qP 0)), (1, .int x1), (2, .int x2), (3, .int x3), (4, .int x4)] → K11 x1 x2 x3 x4 → W p l e rmX4_rankOf s m args below meth c H locs 0 0 (MQ below (va_Qi (fun (r : Int32) (_ : Unit) => Q r) (fun u t => cAt z A ((fun _ : Unit => (pW z qP P)) u) t) A) args s 0 0 A) (F0 m 11 ls [])) : ∀ (x1 : Int32) (x2 : Int32) (x3 : Int32) (x4 : Int32) (H : Heap) (locs : List Loc) (ls : Array Slot), Hw s z A (pW z qP P) H locs → lv_has ls 6 [(0, .ref (qP 0)), (1, .int x1), (2, .int x2), (3, .int x3), (4, .int x4)] → bX4_rankOf_49 K11 P Q x1 x2 x3 x4 → W p l e rmX4_rankOf s m args below meth c H locs 0 0 (MQ below (va_Qi (fun (r : Int32) (_ : Unit) => Q r) (fun u t => cAt z A ((fun _ : Unit => (pW z qP P)) u) t) A) args s 0 0 A) (F0 m 49 ls []) := by
  obtain ⟨hx, hb, -, -, hown, hts, -, -, -, hN, hsr, -⟩ := id M
  intro x1 x2 x3 x4 H locs ls hw hl h
  unfold bX4_rankOf_49 at h
  obtain ⟨x4_1, ex4_1⟩ : ∃ y : Int32, y = (x4 + (1 : Int32)) := ⟨_, rfl⟩
  replace h := h x4_1 ex4_1
  refine lv_iinc (v := x4_1) (lv' := [(4, .int x4_1), (0, .ref (qP 0)), (1, .int x1), (2, .int x2), (3, .int x3)]) hx hb dX4_rankOf_49 hl (k := 4) rfl (by rw [ex4_1]; rfl) (by decide) rfl (fun ls hl => ?_)
  refine lv_goto (tgt := 11) hx hb dX4_rankOf_52 (by decide) ?_
  exact hK11 x1 x2 x3 x4_1 H locs ls hw (lv_sub hl [1, 2, 3, 4, 0] rfl) h
set_option maxHeartbeats 4000000 in
set_option maxRecDepth 100000 in
theorem kX4_rankOf_46 {p : Program} {l : Launch} {e : Env} {s : State} {m : MethodId} {args : Array Value} {below : List Frame} {meth : Method} {c : Code} {z : KT} {A : Nat → Prop} {qP : Nat → Nat} {K11 : Int32 → Int32 → Int32 → Int32 → Prop} {P : RT} {Q : Int32 → Prop} (M : Mc p s m args meth c cX4_rankOf 6 (some .int) RX4 z A) (hK11 : ∀ (x1 : Int32) (x2 : Int32) (x3 : Int32) (x4 : Int32) (H : Heap) (locs : List Loc) (ls : Array Slot), Hw s z A (pW z qP P) H locs → lv_has ls 6 [(0, .ref (qP 0)), (1, .int x1), (2, .int x2), (3, .int x3), (4, .int x4)] → K11 x1 x2 x3 x4 → W p l e rmX4_rankOf s m args below meth c H locs 0 0 (MQ below (va_Qi (fun (r : Int32) (_ : Unit) => Q r) (fun u t => cAt z A ((fun _ : Unit => (pW z qP P)) u) t) A) args s 0 0 A) (F0 m 11 ls [])) : ∀ (x1 : Int32) (x2 : Int32) (x3 : Int32) (x4 : Int32) (H : Heap) (locs : List Loc) (ls : Array Slot), Hw s z A (pW z qP P) H locs → lv_has ls 6 [(0, .ref (qP 0)), (1, .int x1), (2, .int x2), (3, .int x3), (4, .int x4)] → bX4_rankOf_46 K11 P Q x1 x2 x3 x4 → W p l e rmX4_rankOf s m args below meth c H locs 0 0 (MQ below (va_Qi (fun (r : Int32) (_ : Unit) => Q r) (fun u t => cAt z A ((fun _ : Unit => (pW z qP P)) u) t) A) args s 0 0 A) (F0 m 46 ls []) := by
  obtain ⟨hx, hb, -, -, hown, hts, -, -, -, hN, hsr, -⟩ := id M
  intro x1 x2 x3 x4 H locs ls hw hl h
  unfold bX4_rankOf_46 at h
  obtain ⟨x3_1, ex3_1⟩ : ∃ y : Int32, y = (x3 + (1 : Int32)) := ⟨_, rfl⟩
  replace h := h x3_1 ex3_1
  refine lv_iinc (v := x3_1) (lv' := [(3, .int x3_1), (0, .ref (qP 0)), (1, .int x1), (2, .int x2), (4, .int x4)]) hx hb dX4_rankOf_46 hl (k := 3) rfl (by rw [ex3_1]; rfl) (by decide) rfl (fun ls hl => ?_)
  exact kX4_rankOf_49 M hK11 x1 x2 x3_1 x4 H locs ls hw (lv_sub hl [1, 2, 3, 0, 4] rfl) h
set_option maxHeartbeats 4000000 in
set_option maxRecDepth 100000 in
theorem kX4_rankOf_11 {p : Program} {l : Launch} {e : Env} {s : State} {m : MethodId} {args : Array Value} {below : List Frame} {meth : Method} {c : Code} {z : KT} {A : Nat → Prop} {qP : Nat → Nat} {P : RT} {Q : Int32 → Prop} (M : Mc p s m args meth c cX4_rankOf 6 (some .int) RX4 z A) : ∀ (n : Nat) (x1 : Int32) (x2 : Int32) (x3 : Int32) (x4 : Int32) (H : Heap) (locs : List Loc) (ls : Array Slot), Hw s z A (pW z qP P) H locs → lv_has ls 6 [(0, .ref (qP 0)), (1, .int x1), (2, .int x2), (3, .int x3), (4, .int x4)] → bX4_rankOf_11 P Q n x1 x2 x3 x4 → W p l e rmX4_rankOf s m args below meth c H locs 0 0 (MQ below (va_Qi (fun (r : Int32) (_ : Unit) => Q r) (fun u t => cAt z A ((fun _ : Unit => (pW z qP P)) u) t) A) args s 0 0 A) (F0 m 11 ls []) := by
  obtain ⟨hx, hb, -, -, hown, hts, -, -, -, hN, hsr, -⟩ := id M
  intro n
  induction n with
  | zero => intro x1 x2 x3 x4 H locs ls hw hl h; exact False.elim h
  | succ n ih =>
    intro x1 x2 x3 x4 H locs ls hw hl h
    rw [bX4_rankOf_11] at h
    refine lv_iload hx hb dX4_rankOf_11 (lv_at hl 4 rfl) ?_
    refine lv_aload_n hx hb dX4_rankOf_13 rfl (lv_at hl 0 rfl) ?_
    refine gt_f (v := .int (P 30 7)) M inlX3 hw 0 rfl rfl 7 (by decide) fl_X4_9 rfl rfl dX4_rankOf_14 ?_
    refine lv_icmp_ge (tgt := 55) hx hb dX4_rankOf_17 (by decide) (fun c_1 => ?_) (fun c_1 => ?_)
    · replace h := iT c_1 h
      refine lv_iload_n hx hb dX4_rankOf_55 rfl (lv_at hl 3 rfl) ?_
      exact rt_i M () hw h dX4_rankOf_56
    · replace h := iF c_1 h
      refine lv_aload_n hx hb dX4_rankOf_20 rfl (lv_at hl 0 rfl) ?_
      refine lv_iload hx hb dX4_rankOf_21 (lv_at hl 4 rfl) ?_
      refine fr_Vi (wN := fun _ : Unit => (pW z qP P)) M (m_X3_heftOf l z qP P x4 _ h) (cwV 1 hts (gdV cd_X3_heftOf ml_X4_21 im_X3_heftOf se_X3_heftOf in_X3) rfl rfl rfl hdV_X3_heftOf ⟨(Nat.le_of_ble_eq_true rfl), (Nat.le_of_ble_eq_true rfl)⟩) (Cut.self _) (Prm.self _ 8 (fun _ => rfl)) 0 rfl rfl rfl hw rfl hl.1 rfl (Nat.le_of_ble_eq_true rfl) dX4_rankOf_23 (fun r_2 u_ H locs h hw => ?_)
      have hw : Hw s z A (pW z qP P) H locs := hw
      try dsimp only at h
      refine lv_istore (lv' := [(5, .int r_2), (0, .ref (qP 0)), (1, .int x1), (2, .int x2), (3, .int x3), (4, .int x4)]) hx hb dX4_rankOf_26 hl (by decide) rfl (fun ls hl => ?_)
      refine lv_iload hx hb dX4_rankOf_28 (lv_at hl 0 rfl) ?_
      refine lv_iload_n hx hb dX4_rankOf_30 rfl (lv_at hl 3 rfl) ?_
      refine lv_icmp_gt (tgt := 46) hx hb dX4_rankOf_31 (by decide) (fun c_3 => ?_) (fun c_3 => ?_)
      · replace h := iT c_3 h
        exact kX4_rankOf_46 M ih x1 x2 x3 x4 H locs ls hw (lv_sub hl [1, 2, 3, 4, 5] rfl) h
      · replace h := iF c_3 h
        refine lv_iload hx hb dX4_rankOf_34 (lv_at hl 0 rfl) ?_
        refine lv_iload_n hx hb dX4_rankOf_36 rfl (lv_at hl 3 rfl) ?_
        refine lv_icmp_ne (tgt := 49) hx hb dX4_rankOf_37 (by decide) (fun c_4 => ?_) (fun c_4 => ?_)
        · replace h := iF c_4 h
          exact kX4_rankOf_49 M ih x1 x2 x3 x4 H locs ls hw (lv_sub hl [1, 2, 3, 4, 5] rfl) h
        · replace h := iT c_4 h
          refine lv_iload hx hb dX4_rankOf_40 (lv_at hl 5 rfl) ?_
          refine lv_iload_n hx hb dX4_rankOf_42 rfl (lv_at hl 2 rfl) ?_
          refine lv_icmp_ge (tgt := 49) hx hb dX4_rankOf_43 (by decide) (fun c_5 => ?_) (fun c_5 => ?_)
          · replace h := iT c_5 h
            exact kX4_rankOf_49 M ih x1 x2 x3 x4 H locs ls hw (lv_sub hl [1, 2, 3, 4, 5] rfl) h
          · replace h := iF c_5 h
            exact kX4_rankOf_46 M ih x1 x2 x3 x4 H locs ls hw (lv_sub hl [1, 2, 3, 4, 5] rfl) h
set_option maxHeartbeats 4000000 in
set_option maxRecDepth 100000 in
theorem m_X4_rankOf (l : Launch) (z : KT) (qP : Nat → Nat) (P : RT) (x1 : Int32) (Q : Int32 → Prop) (h : wX4_rankOf P x1 Q) : CI l yX4_rankOf cX4_rankOf 6 .int rmX4_rankOf z [.ref (qP 0), .int x1] (pW z qP P) (fun _ : Unit => (pW z qP P)) (fun (r : Int32) (_ : Unit) => Q r) := by
  refine CI.of rfl (Nat.le_of_ble_eq_true rfl) ?_
  intro p e s m below meth c A ls M hw hl
  have M : Mc p s m _ meth c cX4_rankOf 6 (some .int) RX4 z A := M
  obtain ⟨hx, hb, -, -, hown, hts, -, -, -, hN, hsr, -⟩ := id M
  have hl : lv_has ls 6 [(0, .ref (qP 0)), (1, .int x1)] := hl
  unfold wX4_rankOf at h
  generalize s.heap = H at hw ⊢
  generalize ([] : List Loc) = locs at hw ⊢
  refine lv_aload_n hx hb dX4_rankOf_0 rfl (lv_at hl 0 rfl) ?_
  refine lv_iload_n hx hb dX4_rankOf_1 rfl (lv_at hl 1 rfl) ?_
  refine fr_Vi (wN := fun _ : Unit => (pW z qP P)) M (m_X3_heftOf l z qP P x1 _ h) (cwV 1 hts (gdV cd_X3_heftOf ml_X4_21 im_X3_heftOf se_X3_heftOf in_X3) rfl rfl rfl hdV_X3_heftOf ⟨(Nat.le_of_ble_eq_true rfl), (Nat.le_of_ble_eq_true rfl)⟩) (Cut.self _) (Prm.self _ 8 (fun _ => rfl)) 0 rfl rfl rfl hw rfl hl.1 rfl (Nat.le_of_ble_eq_true rfl) dX4_rankOf_2 (fun r_1 u_ H locs h hw => ?_)
  have hw : Hw s z A (pW z qP P) H locs := hw
  try dsimp only at h
  refine lv_istore_n (lv' := [(2, .int r_1), (0, .ref (qP 0)), (1, .int x1)]) hx hb dX4_rankOf_5 rfl hl (by decide) rfl (fun ls hl => ?_)
  refine lv_iconst (v := 0) hx hb dX4_rankOf_6 (by decide) ?_
  refine lv_istore_n (lv' := [(3, .int (0 : Int32)), (2, .int r_1), (0, .ref (qP 0)), (1, .int x1)]) hx hb dX4_rankOf_7 rfl hl (by decide) rfl (fun ls hl => ?_)
  refine lv_iconst (v := 0) hx hb dX4_rankOf_8 (by decide) ?_
  refine lv_istore (lv' := [(4, .int (0 : Int32)), (3, .int (0 : Int32)), (2, .int r_1), (0, .ref (qP 0)), (1, .int x1)]) hx hb dX4_rankOf_9 hl (by decide) rfl (fun ls hl => ?_)
  obtain ⟨n0, h⟩ := h; exact kX4_rankOf_11 M n0 x1 r_1 (0 : Int32) (0 : Int32) H locs ls hw (lv_sub hl [3, 4, 2, 1, 0] rfl) h
abbrev rmX4_ranked : Room := { frames := 2, cells := 0, slots := 0, locals := 51 }
set_option maxHeartbeats 4000000 in
set_option maxRecDepth 100000 in
theorem kX4_ranked_2 {p : Program} {l : Launch} {e : Env} {s : State} {m : MethodId} {args : Array Value} {below : List Frame} {meth : Method} {c : Code} {z : KT} {A : Nat → Prop} {qP : Nat → Nat} {P : RT} {Q : Int32 → Prop} (M : Mc p s m args meth c cX4_ranked 3 (some .int) RX4 z A) : ∀ (n : Nat) (x1 : Int32) (x2 : Int32) (H : Heap) (locs : List Loc) (ls : Array Slot), Hw s z A (pW z qP P) H locs → lv_has ls 3 [(0, .ref (qP 0)), (1, .int x1), (2, .int x2)] → bX4_ranked_2 P Q n x1 x2 → W p l e rmX4_ranked s m args below meth c H locs 0 0 (MQ below (va_Qi (fun (r : Int32) (_ : Unit) => Q r) (fun u t => cAt z A ((fun _ : Unit => (pW z qP P)) u) t) A) args s 0 0 A) (F0 m 2 ls []) := by
  obtain ⟨hx, hb, -, -, hown, hts, -, -, -, hN, hsr, -⟩ := id M
  intro n
  induction n with
  | zero => intro x1 x2 H locs ls hw hl h; exact False.elim h
  | succ n ih =>
    intro x1 x2 H locs ls hw hl h
    rw [bX4_ranked_2] at h
    refine lv_iload_n hx hb dX4_ranked_2 rfl (lv_at hl 2 rfl) ?_
    refine lv_aload_n hx hb dX4_ranked_3 rfl (lv_at hl 0 rfl) ?_
    refine gt_f (v := .int (P 30 7)) M inlX3 hw 0 rfl rfl 7 (by decide) fl_X4_9 rfl rfl dX4_ranked_4 ?_
    refine lv_icmp_ge (tgt := 27) hx hb dX4_ranked_7 (by decide) (fun c_1 => ?_) (fun c_1 => ?_)
    · replace h := iT c_1 h
      refine lv_bipush (v := -9) hx hb dX4_ranked_27 (by decide) ?_
      exact rt_i M () hw h dX4_ranked_29
    · replace h := iF c_1 h
      refine lv_aload_n hx hb dX4_ranked_10 rfl (lv_at hl 0 rfl) ?_
      refine lv_iload_n hx hb dX4_ranked_11 rfl (lv_at hl 2 rfl) ?_
      refine fr_Si (wN := fun _ : Unit => (pW z qP P)) M (m_X4_rankOf l z qP P x2 _ h) (va_cwS 2 hts (gdS cd_X4_rankOf ml_X4_15 st_X4_rankOf in_X4) rfl rfl rfl hdS_X4_rankOf ⟨(Nat.le_of_ble_eq_true rfl), (Nat.le_of_ble_eq_true rfl)⟩) (Cut.self _) (Prm.self _ 8 (fun _ => rfl)) hw rfl hl.1 rfl (Nat.le_of_ble_eq_true rfl) dX4_ranked_12 (fun r_2 u_ H locs h hw => ?_)
      have hw : Hw s z A (pW z qP P) H locs := hw
      try dsimp only at h
      refine lv_iload_n hx hb dX4_ranked_15 rfl (lv_at hl 1 rfl) ?_
      refine lv_icmp_ne (tgt := 21) hx hb dX4_ranked_16 (by decide) (fun c_3 => ?_) (fun c_3 => ?_)
      · replace h := iF c_3 h
        obtain ⟨x2_4, ex2_4⟩ : ∃ y : Int32, y = (x2 + (1 : Int32)) := ⟨_, rfl⟩
        replace h := h x2_4 ex2_4
        refine lv_iinc (v := x2_4) (lv' := [(2, .int x2_4), (0, .ref (qP 0)), (1, .int x1)]) hx hb dX4_ranked_21 hl (k := 2) rfl (by rw [ex2_4]; rfl) (by decide) rfl (fun ls hl => ?_)
        refine lv_goto (tgt := 2) hx hb dX4_ranked_24 (by decide) ?_
        exact ih x1 x2_4 H locs ls hw (lv_sub hl [1, 2, 0] rfl) h
      · replace h := iT c_3 h
        refine lv_iload_n hx hb dX4_ranked_19 rfl (lv_at hl 2 rfl) ?_
        exact rt_i M () hw h dX4_ranked_20
set_option maxHeartbeats 4000000 in
set_option maxRecDepth 100000 in
theorem m_X4_ranked (l : Launch) (z : KT) (qP : Nat → Nat) (P : RT) (x1 : Int32) (Q : Int32 → Prop) (h : wX4_ranked P x1 Q) : CI l yX4_ranked cX4_ranked 3 .int rmX4_ranked z [.ref (qP 0), .int x1] (pW z qP P) (fun _ : Unit => (pW z qP P)) (fun (r : Int32) (_ : Unit) => Q r) := by
  refine CI.of rfl (Nat.le_of_ble_eq_true rfl) ?_
  intro p e s m below meth c A ls M hw hl
  have M : Mc p s m _ meth c cX4_ranked 3 (some .int) RX4 z A := M
  obtain ⟨hx, hb, -, -, hown, hts, -, -, -, hN, hsr, -⟩ := id M
  have hl : lv_has ls 3 [(0, .ref (qP 0)), (1, .int x1)] := hl
  unfold wX4_ranked at h
  generalize s.heap = H at hw ⊢
  generalize ([] : List Loc) = locs at hw ⊢
  refine lv_iconst (v := 0) hx hb dX4_ranked_0 (by decide) ?_
  refine lv_istore_n (lv' := [(2, .int (0 : Int32)), (0, .ref (qP 0)), (1, .int x1)]) hx hb dX4_ranked_1 rfl hl (by decide) rfl (fun ls hl => ?_)
  obtain ⟨n0, h⟩ := h; exact kX4_ranked_2 M n0 x1 (0 : Int32) H locs ls hw (lv_sub hl [1, 2, 0] rfl) h
abbrev rmX4_countInside : Room := { frames := 1, cells := 0, slots := 0, locals := 26 }
set_option maxHeartbeats 4000000 in
set_option maxRecDepth 100000 in
theorem kX4_countInside_68 {p : Program} {l : Launch} {e : Env} {s : State} {m : MethodId} {args : Array Value} {below : List Frame} {meth : Method} {c : Code} {z : KT} {A : Nat → Prop} {qP : Nat → Nat} {K35 : Int32 → Int32 → Int32 → Int32 → Prop} {P : RT} {Q : Int32 → Prop} (M : Mc p s m args meth c cX4_countInside 8 (some .int) RX4 z A) (hK35 : ∀ (x3 : Int32) (x4 : Int32) (x5 : Int32) (x6 : Int32) (H : Heap) (locs : List Loc) (ls : Array Slot), Hw s z A (pW z qP P) H locs → lv_has ls 8 [(0, .ref (qP 0)), (3, .int x3), (4, .int x4), (5, .int x5), (6, .int x6)] → K35 x3 x4 x5 x6 → W p l e rmX4_countInside s m args below meth c H locs 0 0 (MQ below (va_Qi (fun (r : Int32) (_ : Unit) => Q r) (fun u t => cAt z A ((fun _ : Unit => (pW z qP P)) u) t) A) args s 0 0 A) (F0 m 35 ls [])) : ∀ (x3 : Int32) (x4 : Int32) (x5 : Int32) (x6 : Int32) (H : Heap) (locs : List Loc) (ls : Array Slot), Hw s z A (pW z qP P) H locs → lv_has ls 8 [(0, .ref (qP 0)), (3, .int x3), (4, .int x4), (5, .int x5), (6, .int x6)] → bX4_countInside_68 K35 P Q x3 x4 x5 x6 → W p l e rmX4_countInside s m args below meth c H locs 0 0 (MQ below (va_Qi (fun (r : Int32) (_ : Unit) => Q r) (fun u t => cAt z A ((fun _ : Unit => (pW z qP P)) u) t) A) args s 0 0 A) (F0 m 68 ls []) := by
  obtain ⟨hx, hb, -, -, hown, hts, -, -, -, hN, hsr, -⟩ := id M
  intro x3 x4 x5 x6 H locs ls hw hl h
  unfold bX4_countInside_68 at h
  obtain ⟨x6_1, ex6_1⟩ : ∃ y : Int32, y = (x6 + (1 : Int32)) := ⟨_, rfl⟩
  replace h := h x6_1 ex6_1
  refine lv_iinc (v := x6_1) (lv' := [(6, .int x6_1), (0, .ref (qP 0)), (3, .int x3), (4, .int x4), (5, .int x5)]) hx hb dX4_countInside_68 hl (k := 4) rfl (by rw [ex6_1]; rfl) (by decide) rfl (fun ls hl => ?_)
  refine lv_goto (tgt := 35) hx hb dX4_countInside_71 (by decide) ?_
  exact hK35 x3 x4 x5 x6_1 H locs ls hw (lv_sub hl [1, 2, 3, 4, 0] rfl) h
set_option maxHeartbeats 4000000 in
set_option maxRecDepth 100000 in
theorem kX4_countInside_35 {p : Program} {l : Launch} {e : Env} {s : State} {m : MethodId} {args : Array Value} {below : List Frame} {meth : Method} {c : Code} {z : KT} {A : Nat → Prop} {qP : Nat → Nat} {P : RT} {Q : Int32 → Prop} (M : Mc p s m args meth c cX4_countInside 8 (some .int) RX4 z A) : ∀ (n : Nat) (x3 : Int32) (x4 : Int32) (x5 : Int32) (x6 : Int32) (H : Heap) (locs : List Loc) (ls : Array Slot), Hw s z A (pW z qP P) H locs → lv_has ls 8 [(0, .ref (qP 0)), (3, .int x3), (4, .int x4), (5, .int x5), (6, .int x6)] → bX4_countInside_35 P Q n x3 x4 x5 x6 → W p l e rmX4_countInside s m args below meth c H locs 0 0 (MQ below (va_Qi (fun (r : Int32) (_ : Unit) => Q r) (fun u t => cAt z A ((fun _ : Unit => (pW z qP P)) u) t) A) args s 0 0 A) (F0 m 35 ls []) := by
  obtain ⟨hx, hb, -, -, hown, hts, -, -, -, hN, hsr, -⟩ := id M
  intro n
  induction n with
  | zero => intro x3 x4 x5 x6 H locs ls hw hl h; exact False.elim h
  | succ n ih =>
    intro x3 x4 x5 x6 H locs ls hw hl h
    rw [bX4_countInside_35] at h
    refine lv_iload hx hb dX4_countInside_35 (lv_at hl 4 rfl) ?_
    refine lv_aload_n hx hb dX4_countInside_37 rfl (lv_at hl 0 rfl) ?_
    refine gt_f (v := .int (P 30 7)) M inlX3 hw 0 rfl rfl 7 (by decide) fl_X4_9 rfl rfl dX4_countInside_38 ?_
    refine lv_icmp_ge (tgt := 74) hx hb dX4_countInside_41 (by decide) (fun c_1 => ?_) (fun c_1 => ?_)
    · replace h := iT c_1 h
      refine lv_iload hx hb dX4_countInside_74 (lv_at hl 3 rfl) ?_
      exact rt_i M () hw h dX4_countInside_76
    · replace h := iF c_1 h
      refine lv_aload_n hx hb dX4_countInside_44 rfl (lv_at hl 0 rfl) ?_
      refine lv_iload hx hb dX4_countInside_45 (lv_at hl 4 rfl) ?_
      refine fr_Vi (wN := fun _ : Unit => (pW z qP P)) M (m_X3_heftOf l z qP P x6 _ h) (cwV 1 hts (gdV cd_X3_heftOf ml_X4_21 im_X3_heftOf se_X3_heftOf in_X3) rfl rfl rfl hdV_X3_heftOf ⟨(Nat.le_of_ble_eq_true rfl), (Nat.le_of_ble_eq_true rfl)⟩) (Cut.self _) (Prm.self _ 8 (fun _ => rfl)) 0 rfl rfl rfl hw rfl hl.1 rfl (Nat.le_of_ble_eq_true rfl) dX4_countInside_47 (fun r_2 u_ H locs h hw => ?_)
      have hw : Hw s z A (pW z qP P) H locs := hw
      try dsimp only at h
      refine lv_istore (lv' := [(7, .int r_2), (0, .ref (qP 0)), (3, .int x3), (4, .int x4), (5, .int x5), (6, .int x6)]) hx hb dX4_countInside_50 hl (by decide) rfl (fun ls hl => ?_)
      refine lv_iload hx hb dX4_countInside_52 (lv_at hl 0 rfl) ?_
      refine lv_iload_n hx hb dX4_countInside_54 rfl (lv_at hl 2 rfl) ?_
      refine lv_icmp_le (tgt := 68) hx hb dX4_countInside_55 (by decide) (fun c_3 => ?_) (fun c_3 => ?_)
      · replace h := iT c_3 h
        exact kX4_countInside_68 M ih x3 x4 x5 x6 H locs ls hw (lv_sub hl [1, 2, 3, 4, 5] rfl) h
      · replace h := iF c_3 h
        refine lv_iload hx hb dX4_countInside_58 (lv_at hl 0 rfl) ?_
        refine lv_iload hx hb dX4_countInside_60 (lv_at hl 3 rfl) ?_
        refine lv_icmp_ge (tgt := 68) hx hb dX4_countInside_62 (by decide) (fun c_4 => ?_) (fun c_4 => ?_)
        · replace h := iT c_4 h
          exact kX4_countInside_68 M ih x3 x4 x5 x6 H locs ls hw (lv_sub hl [1, 2, 3, 4, 5] rfl) h
        · replace h := iF c_4 h
          obtain ⟨x5_5, ex5_5⟩ : ∃ y : Int32, y = (x5 + (1 : Int32)) := ⟨_, rfl⟩
          replace h := h x5_5 ex5_5
          refine lv_iinc (v := x5_5) (lv' := [(5, .int x5_5), (7, .int r_2), (0, .ref (qP 0)), (3, .int x3), (4, .int x4), (6, .int x6)]) hx hb dX4_countInside_65 hl (k := 4) rfl (by rw [ex5_5]; rfl) (by decide) rfl (fun ls hl => ?_)
          exact kX4_countInside_68 M ih x3 x4 x5_5 x6 H locs ls hw (lv_sub hl [2, 3, 4, 0, 5] rfl) h
set_option maxHeartbeats 4000000 in
set_option maxRecDepth 100000 in
theorem m_X4_countInside (l : Launch) (z : KT) (qP : Nat → Nat) (P : RT) (x1 : Int32) (x2 : Int32) (Q : Int32 → Prop) (h : wX4_countInside P x1 x2 Q) : CI l yX4_countInside cX4_countInside 8 .int rmX4_countInside z [.ref (qP 0), .int x1, .int x2] (pW z qP P) (fun _ : Unit => (pW z qP P)) (fun (r : Int32) (_ : Unit) => Q r) := by
  refine CI.of rfl (Nat.le_of_ble_eq_true rfl) ?_
  intro p e s m below meth c A ls M hw hl
  have M : Mc p s m _ meth c cX4_countInside 8 (some .int) RX4 z A := M
  obtain ⟨hx, hb, -, -, hown, hts, -, -, -, hN, hsr, -⟩ := id M
  have hl : lv_has ls 8 [(0, .ref (qP 0)), (1, .int x1), (2, .int x2)] := hl
  unfold wX4_countInside at h
  generalize s.heap = H at hw ⊢
  generalize ([] : List Loc) = locs at hw ⊢
  refine lv_aload_n hx hb dX4_countInside_0 rfl (lv_at hl 0 rfl) ?_
  refine lv_iload_n hx hb dX4_countInside_1 rfl (lv_at hl 1 rfl) ?_
  refine fr_Vi (wN := fun _ : Unit => (pW z qP P)) M (m_X3_heftOf l z qP P x1 _ h) (cwV 1 hts (gdV cd_X3_heftOf ml_X4_21 im_X3_heftOf se_X3_heftOf in_X3) rfl rfl rfl hdV_X3_heftOf ⟨(Nat.le_of_ble_eq_true rfl), (Nat.le_of_ble_eq_true rfl)⟩) (Cut.self _) (Prm.self _ 8 (fun _ => rfl)) 0 rfl rfl rfl hw rfl hl.1 rfl (Nat.le_of_ble_eq_true rfl) dX4_countInside_2 (fun r_1 u_ H locs h hw => ?_)
  have hw : Hw s z A (pW z qP P) H locs := hw
  try dsimp only at h
  refine lv_aload_n hx hb dX4_countInside_5 rfl (lv_at hl 0 rfl) ?_
  refine lv_iload_n hx hb dX4_countInside_6 rfl (lv_at hl 2 rfl) ?_
  refine fr_Vi (wN := fun _ : Unit => (pW z qP P)) M (m_X3_heftOf l z qP P x2 _ h) (cwV 1 hts (gdV cd_X3_heftOf ml_X4_21 im_X3_heftOf se_X3_heftOf in_X3) rfl rfl rfl hdV_X3_heftOf ⟨(Nat.le_of_ble_eq_true rfl), (Nat.le_of_ble_eq_true rfl)⟩) (Cut.self _) (Prm.self _ 8 (fun _ => rfl)) 0 rfl rfl rfl hw rfl hl.1 rfl (Nat.le_of_ble_eq_true rfl) dX4_countInside_7 (fun r_2 u_ H locs h hw => ?_)
  have hw : Hw s z A (pW z qP P) H locs := hw
  try dsimp only at h
  refine mn_i M ml_X4_25 hl.1 (Nat.le_of_ble_eq_true rfl) (Nat.le_of_ble_eq_true rfl) dX4_countInside_10 ?_
  refine lv_topi (fun x3_3 ex3_3 => ?_)
  replace h := h x3_3 ex3_3
  refine lv_istore_n (lv' := [(3, .int x3_3), (0, .ref (qP 0)), (1, .int x1), (2, .int x2)]) hx hb dX4_countInside_13 rfl hl (by decide) rfl (fun ls hl => ?_)
  refine lv_aload_n hx hb dX4_countInside_14 rfl (lv_at hl 1 rfl) ?_
  refine lv_iload_n hx hb dX4_countInside_15 rfl (lv_at hl 2 rfl) ?_
  refine fr_Vi (wN := fun _ : Unit => (pW z qP P)) M (m_X3_heftOf l z qP P x1 _ h) (cwV 1 hts (gdV cd_X3_heftOf ml_X4_21 im_X3_heftOf se_X3_heftOf in_X3) rfl rfl rfl hdV_X3_heftOf ⟨(Nat.le_of_ble_eq_true rfl), (Nat.le_of_ble_eq_true rfl)⟩) (Cut.self _) (Prm.self _ 8 (fun _ => rfl)) 0 rfl rfl rfl hw rfl hl.1 rfl (Nat.le_of_ble_eq_true rfl) dX4_countInside_16 (fun r_4 u_ H locs h hw => ?_)
  have hw : Hw s z A (pW z qP P) H locs := hw
  try dsimp only at h
  refine lv_aload_n hx hb dX4_countInside_19 rfl (lv_at hl 1 rfl) ?_
  refine lv_iload_n hx hb dX4_countInside_20 rfl (lv_at hl 3 rfl) ?_
  refine fr_Vi (wN := fun _ : Unit => (pW z qP P)) M (m_X3_heftOf l z qP P x2 _ h) (cwV 1 hts (gdV cd_X3_heftOf ml_X4_21 im_X3_heftOf se_X3_heftOf in_X3) rfl rfl rfl hdV_X3_heftOf ⟨(Nat.le_of_ble_eq_true rfl), (Nat.le_of_ble_eq_true rfl)⟩) (Cut.self _) (Prm.self _ 8 (fun _ => rfl)) 0 rfl rfl rfl hw rfl hl.1 rfl (Nat.le_of_ble_eq_true rfl) dX4_countInside_21 (fun r_5 u_ H locs h hw => ?_)
  have hw : Hw s z A (pW z qP P) H locs := hw
  try dsimp only at h
  refine mx_i M ml_X4_31 hl.1 (Nat.le_of_ble_eq_true rfl) (Nat.le_of_ble_eq_true rfl) dX4_countInside_24 ?_
  refine lv_topi (fun x4_6 ex4_6 => ?_)
  replace h := h x4_6 ex4_6
  refine lv_istore (lv' := [(4, .int x4_6), (3, .int x3_3), (0, .ref (qP 0)), (1, .int x1), (2, .int x2)]) hx hb dX4_countInside_27 hl (by decide) rfl (fun ls hl => ?_)
  refine lv_iconst (v := 0) hx hb dX4_countInside_29 (by decide) ?_
  refine lv_istore (lv' := [(5, .int (0 : Int32)), (4, .int x4_6), (3, .int x3_3), (0, .ref (qP 0)), (1, .int x1), (2, .int x2)]) hx hb dX4_countInside_30 hl (by decide) rfl (fun ls hl => ?_)
  refine lv_iconst (v := 0) hx hb dX4_countInside_32 (by decide) ?_
  refine lv_istore (lv' := [(6, .int (0 : Int32)), (5, .int (0 : Int32)), (4, .int x4_6), (3, .int x3_3), (0, .ref (qP 0)), (1, .int x1), (2, .int x2)]) hx hb dX4_countInside_33 hl (by decide) rfl (fun ls hl => ?_)
  obtain ⟨n0, h⟩ := h; exact kX4_countInside_35 M n0 x3_3 x4_6 (0 : Int32) (0 : Int32) H locs ls hw (lv_sub hl [4, 3, 2, 1, 0] rfl) h
abbrev rmX4_heftTogether : Room := { frames := 1, cells := 0, slots := 0, locals := 26 }
set_option maxHeartbeats 4000000 in
set_option maxRecDepth 100000 in
theorem kX4_heftTogether_28 {p : Program} {l : Launch} {e : Env} {s : State} {m : MethodId} {args : Array Value} {below : List Frame} {meth : Method} {c : Code} {z : KT} {A : Nat → Prop} {qP : Nat → Nat} {K4 : Int32 → Int32 → Int32 → Prop} {P : RT} {Q : Int32 → Prop} (M : Mc p s m args meth c cX4_heftTogether 4 (some .int) RX4 z A) (hK4 : ∀ (x1 : Int32) (x2 : Int32) (x3 : Int32) (H : Heap) (locs : List Loc) (ls : Array Slot), Hw s z A (pW z qP P) H locs → lv_has ls 4 [(0, .ref (qP 0)), (1, .int x1), (2, .int x2), (3, .int x3)] → K4 x1 x2 x3 → W p l e rmX4_heftTogether s m args below meth c H locs 0 0 (MQ below (va_Qi (fun (r : Int32) (_ : Unit) => Q r) (fun u t => cAt z A ((fun _ : Unit => (pW z qP P)) u) t) A) args s 0 0 A) (F0 m 4 ls [])) : ∀ (x1 : Int32) (x2 : Int32) (x3 : Int32) (H : Heap) (locs : List Loc) (ls : Array Slot), Hw s z A (pW z qP P) H locs → lv_has ls 4 [(0, .ref (qP 0)), (1, .int x1), (2, .int x2), (3, .int x3)] → bX4_heftTogether_28 K4 P Q x1 x2 x3 → W p l e rmX4_heftTogether s m args below meth c H locs 0 0 (MQ below (va_Qi (fun (r : Int32) (_ : Unit) => Q r) (fun u t => cAt z A ((fun _ : Unit => (pW z qP P)) u) t) A) args s 0 0 A) (F0 m 28 ls []) := by
  obtain ⟨hx, hb, -, -, hown, hts, -, -, -, hN, hsr, -⟩ := id M
  intro x1 x2 x3 H locs ls hw hl h
  unfold bX4_heftTogether_28 at h
  obtain ⟨x3_1, ex3_1⟩ : ∃ y : Int32, y = (x3 + (1 : Int32)) := ⟨_, rfl⟩
  replace h := h x3_1 ex3_1
  refine lv_iinc (v := x3_1) (lv' := [(3, .int x3_1), (0, .ref (qP 0)), (1, .int x1), (2, .int x2)]) hx hb dX4_heftTogether_28 hl (k := 3) rfl (by rw [ex3_1]; rfl) (by decide) rfl (fun ls hl => ?_)
  refine lv_goto (tgt := 4) hx hb dX4_heftTogether_31 (by decide) ?_
  exact hK4 x1 x2 x3_1 H locs ls hw (lv_sub hl [1, 2, 3, 0] rfl) h
set_option maxHeartbeats 4000000 in
set_option maxRecDepth 100000 in
theorem kX4_heftTogether_4 {p : Program} {l : Launch} {e : Env} {s : State} {m : MethodId} {args : Array Value} {below : List Frame} {meth : Method} {c : Code} {z : KT} {A : Nat → Prop} {qP : Nat → Nat} {P : RT} {Q : Int32 → Prop} (M : Mc p s m args meth c cX4_heftTogether 4 (some .int) RX4 z A) : ∀ (n : Nat) (x1 : Int32) (x2 : Int32) (x3 : Int32) (H : Heap) (locs : List Loc) (ls : Array Slot), Hw s z A (pW z qP P) H locs → lv_has ls 4 [(0, .ref (qP 0)), (1, .int x1), (2, .int x2), (3, .int x3)] → bX4_heftTogether_4 P Q n x1 x2 x3 → W p l e rmX4_heftTogether s m args below meth c H locs 0 0 (MQ below (va_Qi (fun (r : Int32) (_ : Unit) => Q r) (fun u t => cAt z A ((fun _ : Unit => (pW z qP P)) u) t) A) args s 0 0 A) (F0 m 4 ls []) := by
  obtain ⟨hx, hb, -, -, hown, hts, -, -, -, hN, hsr, -⟩ := id M
  intro n
  induction n with
  | zero => intro x1 x2 x3 H locs ls hw hl h; exact False.elim h
  | succ n ih =>
    intro x1 x2 x3 H locs ls hw hl h
    rw [bX4_heftTogether_4] at h
    refine lv_iload_n hx hb dX4_heftTogether_4 rfl (lv_at hl 3 rfl) ?_
    refine lv_aload_n hx hb dX4_heftTogether_5 rfl (lv_at hl 0 rfl) ?_
    refine gt_f (v := .int (P 30 7)) M inlX3 hw 0 rfl rfl 7 (by decide) fl_X4_9 rfl rfl dX4_heftTogether_6 ?_
    refine lv_icmp_ge (tgt := 34) hx hb dX4_heftTogether_9 (by decide) (fun c_1 => ?_) (fun c_1 => ?_)
    · replace h := iT c_1 h
      refine lv_iload_n hx hb dX4_heftTogether_34 rfl (lv_at hl 2 rfl) ?_
      exact rt_i M () hw h dX4_heftTogether_35
    · replace h := iF c_1 h
      refine lv_iload_n hx hb dX4_heftTogether_12 rfl (lv_at hl 1 rfl) ?_
      refine lv_iload_n hx hb dX4_heftTogether_13 rfl (lv_at hl 3 rfl) ?_
      refine fr_Ni (wN := fun _ : Unit => (pW z qP P)) (host := RX6) M (m_X6_hasBit l z x1 x3 _ h) ⟨va_cnB 2 hts (gdNL cd_X6_hasBit) rfl rfl rfl hN.2.2.2.1 (hts _ in_X6) hdS_X6_hasBit ⟨(Nat.le_of_ble_eq_true rfl), (Nat.le_of_ble_eq_true rfl)⟩, hts _ st_X6_hasBit, trivial⟩ (Cut.none _) (Prm.none _) hw rfl hl.1 rfl (Nat.le_of_ble_eq_true rfl) dX4_heftTogether_14 (fun r_2 u_ H locs h hw => ?_)
      have hw : Hw s z A (pW z qP P) H locs := hw
      try dsimp only at h
      refine lv_if_eq (tgt := 28) hx hb dX4_heftTogether_17 (by decide) (fun c_3 => ?_) (fun c_3 => ?_)
      · replace h := iT c_3 h
        exact kX4_heftTogether_28 M ih x1 x2 x3 H locs ls hw (lv_sub hl [0, 1, 2, 3] rfl) h
      · replace h := iF c_3 h
        refine lv_iload_n hx hb dX4_heftTogether_20 rfl (lv_at hl 2 rfl) ?_
        refine lv_aload_n hx hb dX4_heftTogether_21 rfl (lv_at hl 0 rfl) ?_
        refine lv_iload_n hx hb dX4_heftTogether_22 rfl (lv_at hl 3 rfl) ?_
        refine fr_Vi (wN := fun _ : Unit => (pW z qP P)) M (m_X3_heftOf l z qP P x3 _ h) (cwV 1 hts (gdV cd_X3_heftOf ml_X4_21 im_X3_heftOf se_X3_heftOf in_X3) rfl rfl rfl hdV_X3_heftOf ⟨(Nat.le_of_ble_eq_true rfl), (Nat.le_of_ble_eq_true rfl)⟩) (Cut.self _) (Prm.self _ 8 (fun _ => rfl)) 0 rfl rfl rfl hw rfl hl.1 rfl (Nat.le_of_ble_eq_true rfl) dX4_heftTogether_23 (fun r_4 u_ H locs h hw => ?_)
        have hw : Hw s z A (pW z qP P) H locs := hw
        try dsimp only at h
        refine lv_iadd hx hb dX4_heftTogether_26 ?_
        refine lv_topi (fun x2_5 ex2_5 => ?_)
        replace h := h x2_5 ex2_5
        refine lv_istore_n (lv' := [(2, .int x2_5), (0, .ref (qP 0)), (1, .int x1), (3, .int x3)]) hx hb dX4_heftTogether_27 rfl hl (by decide) rfl (fun ls hl => ?_)
        exact kX4_heftTogether_28 M ih x1 x2_5 x3 H locs ls hw (lv_sub hl [1, 2, 0, 3] rfl) h
set_option maxHeartbeats 4000000 in
set_option maxRecDepth 100000 in
theorem m_X4_heftTogether (l : Launch) (z : KT) (qP : Nat → Nat) (P : RT) (x1 : Int32) (Q : Int32 → Prop) (h : wX4_heftTogether P x1 Q) : CI l yX4_heftTogether cX4_heftTogether 4 .int rmX4_heftTogether z [.ref (qP 0), .int x1] (pW z qP P) (fun _ : Unit => (pW z qP P)) (fun (r : Int32) (_ : Unit) => Q r) := by
  refine CI.of rfl (Nat.le_of_ble_eq_true rfl) ?_
  intro p e s m below meth c A ls M hw hl
  have M : Mc p s m _ meth c cX4_heftTogether 4 (some .int) RX4 z A := M
  obtain ⟨hx, hb, -, -, hown, hts, -, -, -, hN, hsr, -⟩ := id M
  have hl : lv_has ls 4 [(0, .ref (qP 0)), (1, .int x1)] := hl
  unfold wX4_heftTogether at h
  generalize s.heap = H at hw ⊢
  generalize ([] : List Loc) = locs at hw ⊢
  refine lv_iconst (v := 0) hx hb dX4_heftTogether_0 (by decide) ?_
  refine lv_istore_n (lv' := [(2, .int (0 : Int32)), (0, .ref (qP 0)), (1, .int x1)]) hx hb dX4_heftTogether_1 rfl hl (by decide) rfl (fun ls hl => ?_)
  refine lv_iconst (v := 0) hx hb dX4_heftTogether_2 (by decide) ?_
  refine lv_istore_n (lv' := [(3, .int (0 : Int32)), (2, .int (0 : Int32)), (0, .ref (qP 0)), (1, .int x1)]) hx hb dX4_heftTogether_3 rfl hl (by decide) rfl (fun ls hl => ?_)
  obtain ⟨n0, h⟩ := h; exact kX4_heftTogether_4 M n0 x1 (0 : Int32) (0 : Int32) H locs ls hw (lv_sub hl [2, 3, 1, 0] rfl) h
abbrev rmX4_counterweight : Room := { frames := 2, cells := 0, slots := 0, locals := 49 }
set_option maxHeartbeats 4000000 in
set_option maxRecDepth 100000 in
theorem kX4_counterweight_67 {p : Program} {l : Launch} {e : Env} {s : State} {m : MethodId} {args : Array Value} {below : List Frame} {meth : Method} {c : Code} {z : KT} {A : Nat → Prop} {qP : Nat → Nat} {K16 : Int32 → Int32 → Int32 → Int32 → Int32 → Prop} {P : RT} {Q : Int32 → Prop} (M : Mc p s m args meth c cX4_counterweight 7 (some .int) RX4 z A) (hK16 : ∀ (x1 : Int32) (x2 : Int32) (x3 : Int32) (x4 : Int32) (x5 : Int32) (H : Heap) (locs : List Loc) (ls : Array Slot), Hw s z A (pW z qP P) H locs → lv_has ls 7 [(0, .ref (qP 0)), (1, .int x1), (2, .int x2), (3, .int x3), (4, .int x4), (5, .int x5)] → K16 x1 x2 x3 x4 x5 → W p l e rmX4_counterweight s m args below meth c H locs 0 0 (MQ below (va_Qi (fun (r : Int32) (_ : Unit) => Q r) (fun u t => cAt z A ((fun _ : Unit => (pW z qP P)) u) t) A) args s 0 0 A) (F0 m 16 ls [])) : ∀ (x1 : Int32) (x2 : Int32) (x3 : Int32) (x4 : Int32) (x5 : Int32) (H : Heap) (locs : List Loc) (ls : Array Slot), Hw s z A (pW z qP P) H locs → lv_has ls 7 [(0, .ref (qP 0)), (1, .int x1), (2, .int x2), (3, .int x3), (4, .int x4), (5, .int x5)] → bX4_counterweight_67 K16 P Q x1 x2 x3 x4 x5 → W p l e rmX4_counterweight s m args below meth c H locs 0 0 (MQ below (va_Qi (fun (r : Int32) (_ : Unit) => Q r) (fun u t => cAt z A ((fun _ : Unit => (pW z qP P)) u) t) A) args s 0 0 A) (F0 m 67 ls []) := by
  obtain ⟨hx, hb, -, -, hown, hts, -, -, -, hN, hsr, -⟩ := id M
  intro x1 x2 x3 x4 x5 H locs ls hw hl h
  unfold bX4_counterweight_67 at h
  obtain ⟨x5_1, ex5_1⟩ : ∃ y : Int32, y = (x5 + (1 : Int32)) := ⟨_, rfl⟩
  replace h := h x5_1 ex5_1
  refine lv_iinc (v := x5_1) (lv' := [(5, .int x5_1), (0, .ref (qP 0)), (1, .int x1), (2, .int x2), (3, .int x3), (4, .int x4)]) hx hb dX4_counterweight_67 hl (k := 5) rfl (by rw [ex5_1]; rfl) (by decide) rfl (fun ls hl => ?_)
  refine lv_goto (tgt := 16) hx hb dX4_counterweight_70 (by decide) ?_
  exact hK16 x1 x2 x3 x4 x5_1 H locs ls hw (lv_sub hl [1, 2, 3, 4, 5, 0] rfl) h
set_option maxHeartbeats 4000000 in
set_option maxRecDepth 100000 in
theorem kX4_counterweight_16 {p : Program} {l : Launch} {e : Env} {s : State} {m : MethodId} {args : Array Value} {below : List Frame} {meth : Method} {c : Code} {z : KT} {A : Nat → Prop} {qP : Nat → Nat} {P : RT} {Q : Int32 → Prop} (M : Mc p s m args meth c cX4_counterweight 7 (some .int) RX4 z A) : ∀ (n : Nat) (x1 : Int32) (x2 : Int32) (x3 : Int32) (x4 : Int32) (x5 : Int32) (H : Heap) (locs : List Loc) (ls : Array Slot), Hw s z A (pW z qP P) H locs → lv_has ls 7 [(0, .ref (qP 0)), (1, .int x1), (2, .int x2), (3, .int x3), (4, .int x4), (5, .int x5)] → bX4_counterweight_16 P Q n x1 x2 x3 x4 x5 → W p l e rmX4_counterweight s m args below meth c H locs 0 0 (MQ below (va_Qi (fun (r : Int32) (_ : Unit) => Q r) (fun u t => cAt z A ((fun _ : Unit => (pW z qP P)) u) t) A) args s 0 0 A) (F0 m 16 ls []) := by
  obtain ⟨hx, hb, -, -, hown, hts, -, -, -, hN, hsr, -⟩ := id M
  intro n
  induction n with
  | zero => intro x1 x2 x3 x4 x5 H locs ls hw hl h; exact False.elim h
  | succ n ih =>
    intro x1 x2 x3 x4 x5 H locs ls hw hl h
    rw [bX4_counterweight_16] at h
    refine lv_iload hx hb dX4_counterweight_16 (lv_at hl 5 rfl) ?_
    refine lv_iconst (v := 1) hx hb dX4_counterweight_18 (by decide) ?_
    refine lv_aload_n hx hb dX4_counterweight_19 rfl (lv_at hl 0 rfl) ?_
    refine gt_f (v := .int (P 30 7)) M inlX3 hw 0 rfl rfl 7 (by decide) fl_X4_9 rfl rfl dX4_counterweight_20 ?_
    refine lv_ishl hx hb dX4_counterweight_23 ?_
    refine lv_icmp_ge (tgt := 73) hx hb dX4_counterweight_24 (by decide) (fun c_1 => ?_) (fun c_1 => ?_)
    · replace h := iT c_1 h
      refine lv_iload_n hx hb dX4_counterweight_73 rfl (lv_at hl 3 rfl) ?_
      exact rt_i M () hw h dX4_counterweight_74
    · replace h := iF c_1 h
      refine lv_iload hx hb dX4_counterweight_27 (lv_at hl 5 rfl) ?_
      refine fr_Si (wN := fun _ : Unit => (pW z qP P)) M (m_J6_bitCount l z x5 _ h) (va_cwS 1 hts (gdS cd_J6_bitCount_0f7a4 ml_X4_34 st_J6_bitCount_0f7a4 in_J6) rfl rfl rfl hdS_J6_bitCount_0f7a4 ⟨(Nat.le_of_ble_eq_true rfl), (Nat.le_of_ble_eq_true rfl)⟩) (Cut.none _) (Prm.none _) hw rfl hl.1 rfl (Nat.le_of_ble_eq_true rfl) dX4_counterweight_29 (fun r_2 u_ H locs h hw => ?_)
      have hw : Hw s z A (pW z qP P) H locs := hw
      try dsimp only at h
      refine lv_istore (lv' := [(6, .int r_2), (0, .ref (qP 0)), (1, .int x1), (2, .int x2), (3, .int x3), (4, .int x4), (5, .int x5)]) hx hb dX4_counterweight_32 hl (by decide) rfl (fun ls hl => ?_)
      refine lv_iload hx hb dX4_counterweight_34 (lv_at hl 0 rfl) ?_
      refine lv_iload hx hb dX4_counterweight_36 (lv_at hl 5 rfl) ?_
      refine lv_icmp_ge (tgt := 67) hx hb dX4_counterweight_38 (by decide) (fun c_3 => ?_) (fun c_3 => ?_)
      · replace h := iT c_3 h
        exact kX4_counterweight_67 M ih x1 x2 x3 x4 x5 H locs ls hw (lv_sub hl [1, 2, 3, 4, 5, 6] rfl) h
      · replace h := iF c_3 h
        refine lv_iload hx hb dX4_counterweight_41 (lv_at hl 6 rfl) ?_
        refine lv_iload_n hx hb dX4_counterweight_43 rfl (lv_at hl 2 rfl) ?_
        refine fr_Ni (wN := fun _ : Unit => (pW z qP P)) (host := RX6) M (m_X6_hasBit l z x5 x1 _ h) ⟨va_cnB 2 hts (gdNL cd_X6_hasBit) rfl rfl rfl hN.2.2.2.1 (hts _ in_X6) hdS_X6_hasBit ⟨(Nat.le_of_ble_eq_true rfl), (Nat.le_of_ble_eq_true rfl)⟩, hts _ st_X6_hasBit, trivial⟩ (Cut.none _) (Prm.none _) hw rfl hl.1 rfl (Nat.le_of_ble_eq_true rfl) dX4_counterweight_44 (fun r_4 u_ H locs h hw => ?_)
        have hw : Hw s z A (pW z qP P) H locs := hw
        try dsimp only at h
        refine lv_if_ne (tgt := 67) hx hb dX4_counterweight_47 (by decide) (fun c_5 => ?_) (fun c_5 => ?_)
        · replace h := iF c_5 h
          exact kX4_counterweight_67 M ih x1 x2 x3 x4 x5 H locs ls hw (lv_sub hl [1, 2, 3, 4, 5, 6] rfl) h
        · replace h := iT c_5 h
          refine lv_aload_n hx hb dX4_counterweight_50 rfl (lv_at hl 1 rfl) ?_
          refine lv_iload hx hb dX4_counterweight_51 (lv_at hl 6 rfl) ?_
          refine fr_Si (wN := fun _ : Unit => (pW z qP P)) M (m_X4_heftTogether l z qP P x5 _ h) (va_cwS 2 hts (gdS cd_X4_heftTogether ml_X4_43 st_X4_heftTogether in_X4) rfl rfl rfl hdS_X4_heftTogether ⟨(Nat.le_of_ble_eq_true rfl), (Nat.le_of_ble_eq_true rfl)⟩) (Cut.self _) (Prm.self _ 8 (fun _ => rfl)) hw rfl hl.1 rfl (Nat.le_of_ble_eq_true rfl) dX4_counterweight_53 (fun r_6 u_ H locs h hw => ?_)
          have hw : Hw s z A (pW z qP P) H locs := hw
          try dsimp only at h
          refine lv_iload_n hx hb dX4_counterweight_56 rfl (lv_at hl 3 rfl) ?_
          refine lv_icmp_ne (tgt := 67) hx hb dX4_counterweight_57 (by decide) (fun c_7 => ?_) (fun c_7 => ?_)
          · replace h := iF c_7 h
            exact kX4_counterweight_67 M ih x1 x2 x3 x4 x5 H locs ls hw (lv_sub hl [1, 2, 3, 4, 5, 6] rfl) h
          · replace h := iT c_7 h
            refine lv_iload hx hb dX4_counterweight_60 (lv_at hl 0 rfl) ?_
            refine lv_istore (lv' := [(4, .int r_2), (6, .int r_2), (0, .ref (qP 0)), (1, .int x1), (2, .int x2), (3, .int x3), (5, .int x5)]) hx hb dX4_counterweight_62 hl (by decide) rfl (fun ls hl => ?_)
            refine lv_iload hx hb dX4_counterweight_64 (lv_at hl 6 rfl) ?_
            refine lv_istore_n (lv' := [(3, .int x5), (4, .int r_2), (6, .int r_2), (0, .ref (qP 0)), (1, .int x1), (2, .int x2), (5, .int x5)]) hx hb dX4_counterweight_66 rfl hl (by decide) rfl (fun ls hl => ?_)
            exact kX4_counterweight_67 M ih x1 x2 x5 r_2 x5 H locs ls hw (lv_sub hl [3, 4, 5, 0, 1, 6] rfl) h
set_option maxHeartbeats 4000000 in
set_option maxRecDepth 100000 in
theorem m_X4_counterweight (l : Launch) (z : KT) (qP : Nat → Nat) (P : RT) (x1 : Int32) (Q : Int32 → Prop) (h : wX4_counterweight P x1 Q) : CI l yX4_counterweight cX4_counterweight 7 .int rmX4_counterweight z [.ref (qP 0), .int x1] (pW z qP P) (fun _ : Unit => (pW z qP P)) (fun (r : Int32) (_ : Unit) => Q r) := by
  refine CI.of rfl (Nat.le_of_ble_eq_true rfl) ?_
  intro p e s m below meth c A ls M hw hl
  have M : Mc p s m _ meth c cX4_counterweight 7 (some .int) RX4 z A := M
  obtain ⟨hx, hb, -, -, hown, hts, -, -, -, hN, hsr, -⟩ := id M
  have hl : lv_has ls 7 [(0, .ref (qP 0)), (1, .int x1)] := hl
  unfold wX4_counterweight at h
  generalize s.heap = H at hw ⊢
  generalize ([] : List Loc) = locs at hw ⊢
  refine lv_aload_n hx hb dX4_counterweight_0 rfl (lv_at hl 0 rfl) ?_
  refine lv_iload_n hx hb dX4_counterweight_1 rfl (lv_at hl 1 rfl) ?_
  refine fr_Vi (wN := fun _ : Unit => (pW z qP P)) M (m_X3_heftOf l z qP P x1 _ h) (cwV 1 hts (gdV cd_X3_heftOf ml_X4_21 im_X3_heftOf se_X3_heftOf in_X3) rfl rfl rfl hdV_X3_heftOf ⟨(Nat.le_of_ble_eq_true rfl), (Nat.le_of_ble_eq_true rfl)⟩) (Cut.self _) (Prm.self _ 8 (fun _ => rfl)) 0 rfl rfl rfl hw rfl hl.1 rfl (Nat.le_of_ble_eq_true rfl) dX4_counterweight_2 (fun r_1 u_ H locs h hw => ?_)
  have hw : Hw s z A (pW z qP P) H locs := hw
  try dsimp only at h
  refine lv_istore_n (lv' := [(2, .int r_1), (0, .ref (qP 0)), (1, .int x1)]) hx hb dX4_counterweight_5 rfl hl (by decide) rfl (fun ls hl => ?_)
  refine lv_bipush (v := -9) hx hb dX4_counterweight_6 (by decide) ?_
  refine lv_istore_n (lv' := [(3, .int (-9 : Int32)), (2, .int r_1), (0, .ref (qP 0)), (1, .int x1)]) hx hb dX4_counterweight_8 rfl hl (by decide) rfl (fun ls hl => ?_)
  refine lv_bipush (v := 9) hx hb dX4_counterweight_9 (by decide) ?_
  refine lv_istore (lv' := [(4, .int (9 : Int32)), (3, .int (-9 : Int32)), (2, .int r_1), (0, .ref (qP 0)), (1, .int x1)]) hx hb dX4_counterweight_11 hl (by decide) rfl (fun ls hl => ?_)
  refine lv_iconst (v := 0) hx hb dX4_counterweight_13 (by decide) ?_
  refine lv_istore (lv' := [(5, .int (0 : Int32)), (4, .int (9 : Int32)), (3, .int (-9 : Int32)), (2, .int r_1), (0, .ref (qP 0)), (1, .int x1)]) hx hb dX4_counterweight_14 hl (by decide) rfl (fun ls hl => ?_)
  obtain ⟨n0, h⟩ := h; exact kX4_counterweight_16 M n0 x1 r_1 (-9 : Int32) (9 : Int32) (0 : Int32) H locs ls hw (lv_sub hl [4, 5, 3, 2, 1, 0] rfl) h
abbrev rmX4_mostAlike : Room := { frames := 1, cells := 0, slots := 0, locals := 26 }
set_option maxHeartbeats 4000000 in
set_option maxRecDepth 100000 in
theorem kX4_mostAlike_58 {p : Program} {l : Launch} {e : Env} {s : State} {m : MethodId} {args : Array Value} {below : List Frame} {meth : Method} {c : Code} {z : KT} {A : Nat → Prop} {qP : Nat → Nat} {K16 : Int32 → Int32 → Int32 → Int32 → Int32 → Prop} {P : RT} {Q : Int32 → Prop} (M : Mc p s m args meth c cX4_mostAlike 7 (some .int) RX4 z A) (hK16 : ∀ (x1 : Int32) (x2 : Int32) (x3 : Int32) (x4 : Int32) (x5 : Int32) (H : Heap) (locs : List Loc) (ls : Array Slot), Hw s z A (pW z qP P) H locs → lv_has ls 7 [(0, .ref (qP 0)), (1, .int x1), (2, .int x2), (3, .int x3), (4, .int x4), (5, .int x5)] → K16 x1 x2 x3 x4 x5 → W p l e rmX4_mostAlike s m args below meth c H locs 0 0 (MQ below (va_Qi (fun (r : Int32) (_ : Unit) => Q r) (fun u t => cAt z A ((fun _ : Unit => (pW z qP P)) u) t) A) args s 0 0 A) (F0 m 16 ls [])) : ∀ (x1 : Int32) (x2 : Int32) (x3 : Int32) (x4 : Int32) (x5 : Int32) (H : Heap) (locs : List Loc) (ls : Array Slot), Hw s z A (pW z qP P) H locs → lv_has ls 7 [(0, .ref (qP 0)), (1, .int x1), (2, .int x2), (3, .int x3), (4, .int x4), (5, .int x5)] → bX4_mostAlike_58 K16 P Q x1 x2 x3 x4 x5 → W p l e rmX4_mostAlike s m args below meth c H locs 0 0 (MQ below (va_Qi (fun (r : Int32) (_ : Unit) => Q r) (fun u t => cAt z A ((fun _ : Unit => (pW z qP P)) u) t) A) args s 0 0 A) (F0 m 58 ls []) := by
  obtain ⟨hx, hb, -, -, hown, hts, -, -, -, hN, hsr, -⟩ := id M
  intro x1 x2 x3 x4 x5 H locs ls hw hl h
  unfold bX4_mostAlike_58 at h
  obtain ⟨x5_1, ex5_1⟩ : ∃ y : Int32, y = (x5 + (1 : Int32)) := ⟨_, rfl⟩
  replace h := h x5_1 ex5_1
  refine lv_iinc (v := x5_1) (lv' := [(5, .int x5_1), (0, .ref (qP 0)), (1, .int x1), (2, .int x2), (3, .int x3), (4, .int x4)]) hx hb dX4_mostAlike_58 hl (k := 5) rfl (by rw [ex5_1]; rfl) (by decide) rfl (fun ls hl => ?_)
  refine lv_goto (tgt := 16) hx hb dX4_mostAlike_61 (by decide) ?_
  exact hK16 x1 x2 x3 x4 x5_1 H locs ls hw (lv_sub hl [1, 2, 3, 4, 5, 0] rfl) h
set_option maxHeartbeats 4000000 in
set_option maxRecDepth 100000 in
theorem kX4_mostAlike_16 {p : Program} {l : Launch} {e : Env} {s : State} {m : MethodId} {args : Array Value} {below : List Frame} {meth : Method} {c : Code} {z : KT} {A : Nat → Prop} {qP : Nat → Nat} {P : RT} {Q : Int32 → Prop} (M : Mc p s m args meth c cX4_mostAlike 7 (some .int) RX4 z A) : ∀ (n : Nat) (x1 : Int32) (x2 : Int32) (x3 : Int32) (x4 : Int32) (x5 : Int32) (H : Heap) (locs : List Loc) (ls : Array Slot), Hw s z A (pW z qP P) H locs → lv_has ls 7 [(0, .ref (qP 0)), (1, .int x1), (2, .int x2), (3, .int x3), (4, .int x4), (5, .int x5)] → bX4_mostAlike_16 P Q n x1 x2 x3 x4 x5 → W p l e rmX4_mostAlike s m args below meth c H locs 0 0 (MQ below (va_Qi (fun (r : Int32) (_ : Unit) => Q r) (fun u t => cAt z A ((fun _ : Unit => (pW z qP P)) u) t) A) args s 0 0 A) (F0 m 16 ls []) := by
  obtain ⟨hx, hb, -, -, hown, hts, -, -, -, hN, hsr, -⟩ := id M
  intro n
  induction n with
  | zero => intro x1 x2 x3 x4 x5 H locs ls hw hl h; exact False.elim h
  | succ n ih =>
    intro x1 x2 x3 x4 x5 H locs ls hw hl h
    rw [bX4_mostAlike_16] at h
    refine lv_iload hx hb dX4_mostAlike_16 (lv_at hl 5 rfl) ?_
    refine lv_aload_n hx hb dX4_mostAlike_18 rfl (lv_at hl 0 rfl) ?_
    refine gt_f (v := .int (P 30 7)) M inlX3 hw 0 rfl rfl 7 (by decide) fl_X4_9 rfl rfl dX4_mostAlike_19 ?_
    refine lv_icmp_ge (tgt := 64) hx hb dX4_mostAlike_22 (by decide) (fun c_1 => ?_) (fun c_1 => ?_)
    · replace h := iT c_1 h
      refine lv_iload_n hx hb dX4_mostAlike_64 rfl (lv_at hl 3 rfl) ?_
      exact rt_i M () hw h dX4_mostAlike_65
    · replace h := iF c_1 h
      refine lv_aload_n hx hb dX4_mostAlike_25 rfl (lv_at hl 0 rfl) ?_
      refine lv_iload hx hb dX4_mostAlike_26 (lv_at hl 5 rfl) ?_
      refine fr_Vi (wN := fun _ : Unit => (pW z qP P)) M (m_X3_heftOf l z qP P x5 _ h) (cwV 1 hts (gdV cd_X3_heftOf ml_X4_21 im_X3_heftOf se_X3_heftOf in_X3) rfl rfl rfl hdV_X3_heftOf ⟨(Nat.le_of_ble_eq_true rfl), (Nat.le_of_ble_eq_true rfl)⟩) (Cut.self _) (Prm.self _ 8 (fun _ => rfl)) 0 rfl rfl rfl hw rfl hl.1 rfl (Nat.le_of_ble_eq_true rfl) dX4_mostAlike_28 (fun r_2 u_ H locs h hw => ?_)
      have hw : Hw s z A (pW z qP P) H locs := hw
      try dsimp only at h
      refine lv_iload_n hx hb dX4_mostAlike_31 rfl (lv_at hl 2 rfl) ?_
      refine lv_isub hx hb dX4_mostAlike_32 ?_
      refine ab_i M ml_X4_47 hl.1 (Nat.le_of_ble_eq_true rfl) (Nat.le_of_ble_eq_true rfl) dX4_mostAlike_33 ?_
      refine lv_topi (fun x6_3 ex6_3 => ?_)
      replace h := h x6_3 ex6_3
      refine lv_istore (lv' := [(6, .int x6_3), (0, .ref (qP 0)), (1, .int x1), (2, .int x2), (3, .int x3), (4, .int x4), (5, .int x5)]) hx hb dX4_mostAlike_36 hl (by decide) rfl (fun ls hl => ?_)
      refine lv_iload hx hb dX4_mostAlike_38 (lv_at hl 6 rfl) ?_
      refine lv_iload_n hx hb dX4_mostAlike_40 rfl (lv_at hl 2 rfl) ?_
      refine lv_icmp_eq (tgt := 58) hx hb dX4_mostAlike_41 (by decide) (fun c_4 => ?_) (fun c_4 => ?_)
      · replace h := iT c_4 h
        exact kX4_mostAlike_58 M ih x1 x2 x3 x4 x5 H locs ls hw (lv_sub hl [1, 2, 3, 4, 5, 6] rfl) h
      · replace h := iF c_4 h
        refine lv_iload hx hb dX4_mostAlike_44 (lv_at hl 0 rfl) ?_
        refine lv_iload hx hb dX4_mostAlike_46 (lv_at hl 5 rfl) ?_
        refine lv_icmp_ge (tgt := 58) hx hb dX4_mostAlike_48 (by decide) (fun c_5 => ?_) (fun c_5 => ?_)
        · replace h := iT c_5 h
          exact kX4_mostAlike_58 M ih x1 x2 x3 x4 x5 H locs ls hw (lv_sub hl [1, 2, 3, 4, 5, 6] rfl) h
        · replace h := iF c_5 h
          refine lv_iload hx hb dX4_mostAlike_51 (lv_at hl 0 rfl) ?_
          refine lv_istore (lv' := [(4, .int x6_3), (6, .int x6_3), (0, .ref (qP 0)), (1, .int x1), (2, .int x2), (3, .int x3), (5, .int x5)]) hx hb dX4_mostAlike_53 hl (by decide) rfl (fun ls hl => ?_)
          refine lv_iload hx hb dX4_mostAlike_55 (lv_at hl 6 rfl) ?_
          refine lv_istore_n (lv' := [(3, .int x5), (4, .int x6_3), (6, .int x6_3), (0, .ref (qP 0)), (1, .int x1), (2, .int x2), (5, .int x5)]) hx hb dX4_mostAlike_57 rfl hl (by decide) rfl (fun ls hl => ?_)
          exact kX4_mostAlike_58 M ih x1 x2 x5 x6_3 x5 H locs ls hw (lv_sub hl [3, 4, 5, 0, 1, 6] rfl) h
set_option maxHeartbeats 4000000 in
set_option maxRecDepth 100000 in
theorem m_X4_mostAlike (l : Launch) (z : KT) (qP : Nat → Nat) (P : RT) (x1 : Int32) (Q : Int32 → Prop) (h : wX4_mostAlike P x1 Q) : CI l yX4_mostAlike cX4_mostAlike 7 .int rmX4_mostAlike z [.ref (qP 0), .int x1] (pW z qP P) (fun _ : Unit => (pW z qP P)) (fun (r : Int32) (_ : Unit) => Q r) := by
  refine CI.of rfl (Nat.le_of_ble_eq_true rfl) ?_
  intro p e s m below meth c A ls M hw hl
  have M : Mc p s m _ meth c cX4_mostAlike 7 (some .int) RX4 z A := M
  obtain ⟨hx, hb, -, -, hown, hts, -, -, -, hN, hsr, -⟩ := id M
  have hl : lv_has ls 7 [(0, .ref (qP 0)), (1, .int x1)] := hl
  unfold wX4_mostAlike at h
  generalize s.heap = H at hw ⊢
  generalize ([] : List Loc) = locs at hw ⊢
  refine lv_aload_n hx hb dX4_mostAlike_0 rfl (lv_at hl 0 rfl) ?_
  refine lv_iload_n hx hb dX4_mostAlike_1 rfl (lv_at hl 1 rfl) ?_
  refine fr_Vi (wN := fun _ : Unit => (pW z qP P)) M (m_X3_heftOf l z qP P x1 _ h) (cwV 1 hts (gdV cd_X3_heftOf ml_X4_21 im_X3_heftOf se_X3_heftOf in_X3) rfl rfl rfl hdV_X3_heftOf ⟨(Nat.le_of_ble_eq_true rfl), (Nat.le_of_ble_eq_true rfl)⟩) (Cut.self _) (Prm.self _ 8 (fun _ => rfl)) 0 rfl rfl rfl hw rfl hl.1 rfl (Nat.le_of_ble_eq_true rfl) dX4_mostAlike_2 (fun r_1 u_ H locs h hw => ?_)
  have hw : Hw s z A (pW z qP P) H locs := hw
  try dsimp only at h
  refine lv_istore_n (lv' := [(2, .int r_1), (0, .ref (qP 0)), (1, .int x1)]) hx hb dX4_mostAlike_5 rfl hl (by decide) rfl (fun ls hl => ?_)
  refine lv_bipush (v := -9) hx hb dX4_mostAlike_6 (by decide) ?_
  refine lv_istore_n (lv' := [(3, .int (-9 : Int32)), (2, .int r_1), (0, .ref (qP 0)), (1, .int x1)]) hx hb dX4_mostAlike_8 rfl hl (by decide) rfl (fun ls hl => ?_)
  refine lv_ldc hx hb hown (hts _ cn_X4_46) dX4_mostAlike_9 ?_
  refine lv_istore (lv' := [(4, .int (1000000 : Int32)), (3, .int (-9 : Int32)), (2, .int r_1), (0, .ref (qP 0)), (1, .int x1)]) hx hb dX4_mostAlike_11 hl (by decide) rfl (fun ls hl => ?_)
  refine lv_iconst (v := 0) hx hb dX4_mostAlike_13 (by decide) ?_
  refine lv_istore (lv' := [(5, .int (0 : Int32)), (4, .int (1000000 : Int32)), (3, .int (-9 : Int32)), (2, .int r_1), (0, .ref (qP 0)), (1, .int x1)]) hx hb dX4_mostAlike_14 hl (by decide) rfl (fun ls hl => ?_)
  obtain ⟨n0, h⟩ := h; exact kX4_mostAlike_16 M n0 x1 r_1 (-9 : Int32) (1000000 : Int32) (0 : Int32) H locs ls hw (lv_sub hl [4, 5, 3, 2, 1, 0] rfl) h
abbrev rmX4_apart : Room := { frames := 2, cells := 0, slots := 0, locals := 49 }
set_option maxHeartbeats 4000000 in
set_option maxRecDepth 100000 in
theorem m_X4_apart (l : Launch) (z : KT) (qP : Nat → Nat) (P : RT) (x1 : Int32) (Q : Int32 → Prop) (h : wX4_apart P x1 Q) : CI l yX4_apart cX4_apart 2 .int rmX4_apart z [.ref (qP 0), .int x1] (pW z qP P) (fun _ : Unit => (pW z qP P)) (fun (r : Int32) (_ : Unit) => Q r) := by
  refine CI.of rfl (Nat.le_of_ble_eq_true rfl) ?_
  intro p e s m below meth c A ls M hw hl
  have M : Mc p s m _ meth c cX4_apart 2 (some .int) RX4 z A := M
  obtain ⟨hx, hb, -, -, hown, hts, -, -, -, hN, hsr, -⟩ := id M
  have hl : lv_has ls 2 [(0, .ref (qP 0)), (1, .int x1)] := hl
  unfold wX4_apart at h
  generalize s.heap = H at hw ⊢
  generalize ([] : List Loc) = locs at hw ⊢
  refine lv_iconst (v := 2) hx hb dX4_apart_0 (by decide) ?_
  refine lv_aload_n hx hb dX4_apart_1 rfl (lv_at hl 0 rfl) ?_
  refine lv_iload_n hx hb dX4_apart_2 rfl (lv_at hl 1 rfl) ?_
  refine fr_Si (wN := fun _ : Unit => (pW z qP P)) M (m_X4_heftTogether l z qP P x1 _ h) (va_cwS 2 hts (gdS cd_X4_heftTogether ml_X4_43 st_X4_heftTogether in_X4) rfl rfl rfl hdS_X4_heftTogether ⟨(Nat.le_of_ble_eq_true rfl), (Nat.le_of_ble_eq_true rfl)⟩) (Cut.self _) (Prm.self _ 8 (fun _ => rfl)) hw rfl hl.1 rfl (Nat.le_of_ble_eq_true rfl) dX4_apart_3 (fun r_1 u_ H locs h hw => ?_)
  have hw : Hw s z A (pW z qP P) H locs := hw
  try dsimp only at h
  refine lv_imul hx hb dX4_apart_6 ?_
  refine lv_aload_n hx hb dX4_apart_7 rfl (lv_at hl 0 rfl) ?_
  refine fr_Vi (wN := fun _ : Unit => (pW z qP P)) M (m_X3_allHeft l z qP P _ h) (cwV 0 hts (gdV cd_X3_allHeft ml_X4_53 im_X3_allHeft se_X3_allHeft in_X3) rfl rfl rfl hdV_X3_allHeft ⟨(Nat.le_of_ble_eq_true rfl), (Nat.le_of_ble_eq_true rfl)⟩) (Cut.self _) (Prm.self _ 8 (fun _ => rfl)) 0 rfl rfl rfl hw rfl hl.1 rfl (Nat.le_of_ble_eq_true rfl) dX4_apart_8 (fun r_2 u_ H locs h hw => ?_)
  have hw : Hw s z A (pW z qP P) H locs := hw
  try dsimp only at h
  refine lv_isub hx hb dX4_apart_11 ?_
  refine ab_i M ml_X4_47 hl.1 (Nat.le_of_ble_eq_true rfl) (Nat.le_of_ble_eq_true rfl) dX4_apart_12 ?_
  exact rt_i M () hw h dX4_apart_15
abbrev rmX4_firstSide : Room := { frames := 3, cells := 0, slots := 0, locals := 70 }
set_option maxHeartbeats 4000000 in
set_option maxRecDepth 100000 in
theorem kX4_firstSide_36 {p : Program} {l : Launch} {e : Env} {s : State} {m : MethodId} {args : Array Value} {below : List Frame} {meth : Method} {c : Code} {z : KT} {A : Nat → Prop} {qP : Nat → Nat} {K8 : Int32 → Int32 → Int32 → Prop} {P : RT} {Q : Int32 → Prop} (M : Mc p s m args meth c cX4_firstSide 5 (some .int) RX4 z A) (hK8 : ∀ (x1 : Int32) (x2 : Int32) (x3 : Int32) (H : Heap) (locs : List Loc) (ls : Array Slot), Hw s z A (pW z qP P) H locs → lv_has ls 5 [(0, .ref (qP 0)), (1, .int x1), (2, .int x2), (3, .int x3)] → K8 x1 x2 x3 → W p l e rmX4_firstSide s m args below meth c H locs 0 0 (MQ below (va_Qi (fun (r : Int32) (_ : Unit) => Q r) (fun u t => cAt z A ((fun _ : Unit => (pW z qP P)) u) t) A) args s 0 0 A) (F0 m 8 ls [])) : ∀ (x1 : Int32) (x2 : Int32) (x3 : Int32) (H : Heap) (locs : List Loc) (ls : Array Slot), Hw s z A (pW z qP P) H locs → lv_has ls 5 [(0, .ref (qP 0)), (1, .int x1), (2, .int x2), (3, .int x3)] → bX4_firstSide_36 K8 P Q x1 x2 x3 → W p l e rmX4_firstSide s m args below meth c H locs 0 0 (MQ below (va_Qi (fun (r : Int32) (_ : Unit) => Q r) (fun u t => cAt z A ((fun _ : Unit => (pW z qP P)) u) t) A) args s 0 0 A) (F0 m 36 ls []) := by
  obtain ⟨hx, hb, -, -, hown, hts, -, -, -, hN, hsr, -⟩ := id M
  intro x1 x2 x3 H locs ls hw hl h
  unfold bX4_firstSide_36 at h
  obtain ⟨x3_1, ex3_1⟩ : ∃ y : Int32, y = (x3 + (2 : Int32)) := ⟨_, rfl⟩
  replace h := h x3_1 ex3_1
  refine lv_iinc (v := x3_1) (lv' := [(3, .int x3_1), (0, .ref (qP 0)), (1, .int x1), (2, .int x2)]) hx hb dX4_firstSide_36 hl (k := 3) rfl (by rw [ex3_1]; rfl) (by decide) rfl (fun ls hl => ?_)
  refine lv_goto (tgt := 8) hx hb dX4_firstSide_39 (by decide) ?_
  exact hK8 x1 x2 x3_1 H locs ls hw (lv_sub hl [1, 2, 3, 0] rfl) h
set_option maxHeartbeats 4000000 in
set_option maxRecDepth 100000 in
theorem kX4_firstSide_8 {p : Program} {l : Launch} {e : Env} {s : State} {m : MethodId} {args : Array Value} {below : List Frame} {meth : Method} {c : Code} {z : KT} {A : Nat → Prop} {qP : Nat → Nat} {P : RT} {Q : Int32 → Prop} (M : Mc p s m args meth c cX4_firstSide 5 (some .int) RX4 z A) : ∀ (n : Nat) (x1 : Int32) (x2 : Int32) (x3 : Int32) (H : Heap) (locs : List Loc) (ls : Array Slot), Hw s z A (pW z qP P) H locs → lv_has ls 5 [(0, .ref (qP 0)), (1, .int x1), (2, .int x2), (3, .int x3)] → bX4_firstSide_8 P Q n x1 x2 x3 → W p l e rmX4_firstSide s m args below meth c H locs 0 0 (MQ below (va_Qi (fun (r : Int32) (_ : Unit) => Q r) (fun u t => cAt z A ((fun _ : Unit => (pW z qP P)) u) t) A) args s 0 0 A) (F0 m 8 ls []) := by
  obtain ⟨hx, hb, -, -, hown, hts, -, -, -, hN, hsr, -⟩ := id M
  intro n
  induction n with
  | zero => intro x1 x2 x3 H locs ls hw hl h; exact False.elim h
  | succ n ih =>
    intro x1 x2 x3 H locs ls hw hl h
    rw [bX4_firstSide_8] at h
    refine lv_iload_n hx hb dX4_firstSide_8 rfl (lv_at hl 3 rfl) ?_
    refine lv_iconst (v := 1) hx hb dX4_firstSide_9 (by decide) ?_
    refine lv_aload_n hx hb dX4_firstSide_10 rfl (lv_at hl 0 rfl) ?_
    refine gt_f (v := .int (P 30 7)) M inlX3 hw 0 rfl rfl 7 (by decide) fl_X4_9 rfl rfl dX4_firstSide_11 ?_
    refine lv_ishl hx hb dX4_firstSide_14 ?_
    refine lv_icmp_ge (tgt := 42) hx hb dX4_firstSide_15 (by decide) (fun c_1 => ?_) (fun c_1 => ?_)
    · replace h := iT c_1 h
      refine lv_iload_n hx hb dX4_firstSide_42 rfl (lv_at hl 1 rfl) ?_
      exact rt_i M () hw h dX4_firstSide_43
    · replace h := iF c_1 h
      refine lv_aload_n hx hb dX4_firstSide_18 rfl (lv_at hl 0 rfl) ?_
      refine lv_iload_n hx hb dX4_firstSide_19 rfl (lv_at hl 3 rfl) ?_
      refine fr_Si (wN := fun _ : Unit => (pW z qP P)) M (m_X4_apart l z qP P x3 _ h) (va_cwS 2 hts (gdS cd_X4_apart ml_X4_50 st_X4_apart in_X4) rfl rfl rfl hdS_X4_apart ⟨(Nat.le_of_ble_eq_true rfl), (Nat.le_of_ble_eq_true rfl)⟩) (Cut.self _) (Prm.self _ 8 (fun _ => rfl)) hw rfl hl.1 rfl (Nat.le_of_ble_eq_true rfl) dX4_firstSide_20 (fun r_2 u_ H locs h hw => ?_)
      have hw : Hw s z A (pW z qP P) H locs := hw
      try dsimp only at h
      refine lv_istore (lv' := [(4, .int r_2), (0, .ref (qP 0)), (1, .int x1), (2, .int x2), (3, .int x3)]) hx hb dX4_firstSide_23 hl (by decide) rfl (fun ls hl => ?_)
      refine lv_iload hx hb dX4_firstSide_25 (lv_at hl 0 rfl) ?_
      refine lv_iload_n hx hb dX4_firstSide_27 rfl (lv_at hl 3 rfl) ?_
      refine lv_icmp_ge (tgt := 36) hx hb dX4_firstSide_28 (by decide) (fun c_3 => ?_) (fun c_3 => ?_)
      · replace h := iT c_3 h
        exact kX4_firstSide_36 M ih x1 x2 x3 H locs ls hw (lv_sub hl [1, 2, 3, 4] rfl) h
      · replace h := iF c_3 h
        refine lv_iload hx hb dX4_firstSide_31 (lv_at hl 0 rfl) ?_
        refine lv_istore_n (lv' := [(2, .int r_2), (4, .int r_2), (0, .ref (qP 0)), (1, .int x1), (3, .int x3)]) hx hb dX4_firstSide_33 rfl hl (by decide) rfl (fun ls hl => ?_)
        refine lv_iload_n hx hb dX4_firstSide_34 rfl (lv_at hl 4 rfl) ?_
        refine lv_istore_n (lv' := [(1, .int x3), (2, .int r_2), (4, .int r_2), (0, .ref (qP 0)), (3, .int x3)]) hx hb dX4_firstSide_35 rfl hl (by decide) rfl (fun ls hl => ?_)
        exact kX4_firstSide_36 M ih x3 r_2 x3 H locs ls hw (lv_sub hl [3, 0, 1, 4] rfl) h
set_option maxHeartbeats 4000000 in
set_option maxRecDepth 100000 in
theorem m_X4_firstSide (l : Launch) (z : KT) (qP : Nat → Nat) (P : RT) (Q : Int32 → Prop) (h : wX4_firstSide P Q) : CI l yX4_firstSide cX4_firstSide 5 .int rmX4_firstSide z [.ref (qP 0)] (pW z qP P) (fun _ : Unit => (pW z qP P)) (fun (r : Int32) (_ : Unit) => Q r) := by
  refine CI.of rfl (Nat.le_of_ble_eq_true rfl) ?_
  intro p e s m below meth c A ls M hw hl
  have M : Mc p s m _ meth c cX4_firstSide 5 (some .int) RX4 z A := M
  obtain ⟨hx, hb, -, -, hown, hts, -, -, -, hN, hsr, -⟩ := id M
  have hl : lv_has ls 5 [(0, .ref (qP 0))] := hl
  unfold wX4_firstSide at h
  generalize s.heap = H at hw ⊢
  generalize ([] : List Loc) = locs at hw ⊢
  refine lv_bipush (v := -9) hx hb dX4_firstSide_0 (by decide) ?_
  refine lv_istore_n (lv' := [(1, .int (-9 : Int32)), (0, .ref (qP 0))]) hx hb dX4_firstSide_2 rfl hl (by decide) rfl (fun ls hl => ?_)
  refine lv_ldc hx hb hown (hts _ cn_X4_46) dX4_firstSide_3 ?_
  refine lv_istore_n (lv' := [(2, .int (1000000 : Int32)), (1, .int (-9 : Int32)), (0, .ref (qP 0))]) hx hb dX4_firstSide_5 rfl hl (by decide) rfl (fun ls hl => ?_)
  refine lv_iconst (v := 1) hx hb dX4_firstSide_6 (by decide) ?_
  refine lv_istore_n (lv' := [(3, .int (1 : Int32)), (2, .int (1000000 : Int32)), (1, .int (-9 : Int32)), (0, .ref (qP 0))]) hx hb dX4_firstSide_7 rfl hl (by decide) rfl (fun ls hl => ?_)
  obtain ⟨n0, h⟩ := h; exact kX4_firstSide_8 M n0 (-9 : Int32) (1000000 : Int32) (1 : Int32) H locs ls hw (lv_sub hl [3, 2, 1, 0] rfl) h
abbrev rmX5_add : Room := { frames := 0, cells := 0, slots := 0, locals := 0 }
set_option maxHeartbeats 4000000 in
set_option maxRecDepth 100000 in
theorem m_X5_add (l : Launch) (z : KT) (qN : Nat → Nat) (N : RT) (x1 : Int32) (Q : Int32 → RT → Prop) (h : wX5_add N x1 Q) : CI l yX5_add cX5_add 2 .int rmX5_add z [.ref (qN 0), .int x1] (nW z qN N) (fun u : RT => (nW z qN u)) (fun (r : Int32) (u : RT) => Q r u) := by
  refine CI.of rfl (Nat.le_of_ble_eq_true rfl) ?_
  intro p e s m below meth c A ls M hw hl
  have M : Mc p s m _ meth c cX5_add 2 (some .int) RX5 z A := M
  obtain ⟨hx, hb, -, -, hown, hts, -, -, -, hN, hsr, -⟩ := id M
  have hl : lv_has ls 2 [(0, .ref (qN 0)), (1, .int x1)] := hl
  unfold wX5_add at h
  generalize s.heap = H at hw ⊢
  generalize ([] : List Loc) = locs at hw ⊢
  refine lv_aload_n hx hb dX5_add_0 rfl (lv_at hl 0 rfl) ?_
  refine gt_f (v := .ref (qN 1)) M inlX5 hw 0 rfl rfl 0 (by decide) fl_X5_9 rfl rfl dX5_add_1 ?_
  refine lv_aload_n hx hb dX5_add_4 rfl (lv_at hl 0 rfl) ?_
  refine gt_f (v := .int (N 30 1)) M inlX5 hw 0 rfl rfl 1 (by decide) fl_X5_15 rfl rfl dX5_add_5 ?_
  refine lv_iload_n hx hb dX5_add_8 rfl (lv_at hl 1 rfl) ?_
  obtain ⟨a_1, h⟩ := h
  refine st_i (P := N) (r := 0) (wN := fun N_2 => (nW z qN N_2)) M hw 1 rfl rfl a_1 dX5_add_9 (fun N_2 H locs eN_2 hw => ?_)
  replace h := h N_2 eN_2
  refine lv_aload_n hx hb dX5_add_10 rfl (lv_at hl 0 rfl) ?_
  refine lv_dup hx hb dX5_add_11 rfl ?_
  refine gt_f (v := .int (N_2 30 1)) M inlX5 hw 0 rfl rfl 1 (by decide) fl_X5_15 rfl rfl dX5_add_12 ?_
  refine lv_iconst (v := 1) hx hb dX5_add_15 (by decide) ?_
  refine lv_iadd hx hb dX5_add_16 ?_
  refine st_f (P := N_2) (r := 30) (j := 1) (wN := fun N_3 => (nW z qN N_3)) M inlX5 tyX5_ok nmX5 hw 0 rfl rfl 1 (by decide) fl_X5_15 rfl rfl rfl rfl rfl (Nat.le_of_ble_eq_true rfl) rfl dX5_add_17 (fun N_3 H locs eN_3 hw => ?_)
  replace h := h N_3 eN_3
  refine lv_aload_n hx hb dX5_add_20 rfl (lv_at hl 0 rfl) ?_
  refine gt_f (v := .int (N_3 30 1)) M inlX5 hw 0 rfl rfl 1 (by decide) fl_X5_15 rfl rfl dX5_add_21 ?_
  exact rt_i M N_3 hw h dX5_add_24
abbrev rmX5_isLighter : Room := { frames := 2, cells := 0, slots := 0, locals := 43 }
set_option maxHeartbeats 4000000 in
set_option maxRecDepth 100000 in
theorem m_X5_isLighter (l : Launch) (z : KT) (qP : Nat → Nat) (P : RT) (x1 : Int32) (x2 : Int32) (Q : Int32 → Prop) (h : wX5_isLighter P x1 x2 Q) : CI l yX5_isLighter cX5_isLighter 3 .boolean rmX5_isLighter z [.ref (qP 0), .int x1, .int x2] (pW z qP P) (fun _ : Unit => (pW z qP P)) (fun (r : Int32) (_ : Unit) => Q r) := by
  refine CI.of rfl (Nat.le_of_ble_eq_true rfl) ?_
  intro p e s m below meth c A ls M hw hl
  have M : Mc p s m _ meth c cX5_isLighter 3 (some .boolean) RX5 z A := M
  obtain ⟨hx, hb, -, -, hown, hts, -, -, -, hN, hsr, -⟩ := id M
  have hl : lv_has ls 3 [(0, .ref (qP 0)), (1, .int x1), (2, .int x2)] := hl
  unfold wX5_isLighter at h
  generalize s.heap = H at hw ⊢
  generalize ([] : List Loc) = locs at hw ⊢
  refine lv_aload_n hx hb dX5_isLighter_0 rfl (lv_at hl 0 rfl) ?_
  refine lv_iload_n hx hb dX5_isLighter_1 rfl (lv_at hl 1 rfl) ?_
  refine lv_iload_n hx hb dX5_isLighter_2 rfl (lv_at hl 2 rfl) ?_
  refine fr_Vi (wN := fun _ : Unit => (pW z qP P)) M (m_X3_hasPair l z qP P x1 x2 _ h) (cwV 2 hts (gdV cd_X3_hasPair ml_X5_29 im_X3_hasPair se_X3_hasPair in_X3) rfl rfl rfl hdV_X3_hasPair ⟨(Nat.le_of_ble_eq_true rfl), (Nat.le_of_ble_eq_true rfl)⟩) (Cut.self _) (Prm.self _ 8 (fun _ => rfl)) 0 rfl rfl rfl hw rfl hl.1 rfl (Nat.le_of_ble_eq_true rfl) dX5_isLighter_3 (fun r_1 u_ H locs h hw => ?_)
  have hw : Hw s z A (pW z qP P) H locs := hw
  try dsimp only at h
  refine lv_if_eq (tgt := 26) hx hb dX5_isLighter_6 (by decide) (fun c_2 => ?_) (fun c_2 => ?_)
  · replace h := iT c_2 h
    refine lv_iconst (v := 0) hx hb dX5_isLighter_26 (by decide) ?_
    exact rt_z M () hw bz0 h dX5_isLighter_27
  · replace h := iF c_2 h
    refine lv_aload_n hx hb dX5_isLighter_9 rfl (lv_at hl 0 rfl) ?_
    refine lv_iload_n hx hb dX5_isLighter_10 rfl (lv_at hl 1 rfl) ?_
    refine fr_Vi (wN := fun _ : Unit => (pW z qP P)) M (m_X3_heftOf l z qP P x1 _ h) (cwV 1 hts (gdV cd_X3_heftOf ml_X5_33 im_X3_heftOf se_X3_heftOf in_X3) rfl rfl rfl hdV_X3_heftOf ⟨(Nat.le_of_ble_eq_true rfl), (Nat.le_of_ble_eq_true rfl)⟩) (Cut.self _) (Prm.self _ 8 (fun _ => rfl)) 0 rfl rfl rfl hw rfl hl.1 rfl (Nat.le_of_ble_eq_true rfl) dX5_isLighter_11 (fun r_3 u_ H locs h hw => ?_)
    have hw : Hw s z A (pW z qP P) H locs := hw
    try dsimp only at h
    refine lv_aload_n hx hb dX5_isLighter_14 rfl (lv_at hl 0 rfl) ?_
    refine lv_iload_n hx hb dX5_isLighter_15 rfl (lv_at hl 2 rfl) ?_
    refine fr_Vi (wN := fun _ : Unit => (pW z qP P)) M (m_X3_heftOf l z qP P x2 _ h) (cwV 1 hts (gdV cd_X3_heftOf ml_X5_33 im_X3_heftOf se_X3_heftOf in_X3) rfl rfl rfl hdV_X3_heftOf ⟨(Nat.le_of_ble_eq_true rfl), (Nat.le_of_ble_eq_true rfl)⟩) (Cut.self _) (Prm.self _ 8 (fun _ => rfl)) 0 rfl rfl rfl hw rfl hl.1 rfl (Nat.le_of_ble_eq_true rfl) dX5_isLighter_16 (fun r_4 u_ H locs h hw => ?_)
    have hw : Hw s z A (pW z qP P) H locs := hw
    try dsimp only at h
    refine lv_icmp_ge (tgt := 26) hx hb dX5_isLighter_19 (by decide) (fun c_5 => ?_) (fun c_5 => ?_)
    · replace h := iT c_5 h
      refine lv_iconst (v := 0) hx hb dX5_isLighter_26 (by decide) ?_
      exact rt_z M () hw bz0 h dX5_isLighter_27
    · replace h := iF c_5 h
      refine lv_iconst (v := 1) hx hb dX5_isLighter_22 (by decide) ?_
      refine lv_goto (tgt := 27) hx hb dX5_isLighter_23 (by decide) ?_
      exact rt_z M () hw bz1 h dX5_isLighter_27
abbrev rmX5_firstWrong : Room := { frames := 3, cells := 0, slots := 0, locals := 65 }
set_option maxHeartbeats 4000000 in
set_option maxRecDepth 100000 in
theorem kX5_firstWrong_2 {p : Program} {l : Launch} {e : Env} {s : State} {m : MethodId} {args : Array Value} {below : List Frame} {meth : Method} {c : Code} {z : KT} {A : Nat → Prop} {qN : Nat → Nat} {qP : Nat → Nat} {N : RT} {P : RT} {Q : Int32 → Prop} (M : Mc p s m args meth c cX5_firstWrong 3 (some .int) RX5 z A) : ∀ (n : Nat) (x2 : Int32) (H : Heap) (locs : List Loc) (ls : Array Slot), Hw s z A (nW z qN N ++ (pW z qP P)) H locs → lv_has ls 3 [(0, .ref (qN 0)), (1, .ref (qP 0)), (2, .int x2)] → bX5_firstWrong_2 N P Q n x2 → W p l e rmX5_firstWrong s m args below meth c H locs 0 0 (MQ below (va_Qi (fun (r : Int32) (_ : Unit) => Q r) (fun u t => cAt z A ((fun _ : Unit => (nW z qN N ++ (pW z qP P))) u) t) A) args s 0 0 A) (F0 m 2 ls []) := by
  obtain ⟨hx, hb, -, -, hown, hts, -, -, -, hN, hsr, -⟩ := id M
  intro n
  induction n with
  | zero => intro x2 H locs ls hw hl h; exact False.elim h
  | succ n ih =>
    intro x2 H locs ls hw hl h
    rw [bX5_firstWrong_2] at h
    refine lv_iload_n hx hb dX5_firstWrong_2 rfl (lv_at hl 2 rfl) ?_
    refine lv_aload_n hx hb dX5_firstWrong_3 rfl (lv_at hl 0 rfl) ?_
    refine gt_f (v := .int (N 30 1)) M inlX5 hw 0 rfl rfl 1 (by decide) fl_X5_15 rfl rfl dX5_firstWrong_4 ?_
    refine lv_icmp_ge (tgt := 66) hx hb dX5_firstWrong_7 (by decide) (fun c_1 => ?_) (fun c_1 => ?_)
    · replace h := iT c_1 h
      refine lv_bipush (v := -9) hx hb dX5_firstWrong_66 (by decide) ?_
      exact rt_i M () hw h dX5_firstWrong_68
    · replace h := iF c_1 h
      refine lv_iload_n hx hb dX5_firstWrong_10 rfl (lv_at hl 2 rfl) ?_
      refine lv_iconst (v := 1) hx hb dX5_firstWrong_11 (by decide) ?_
      refine lv_iadd hx hb dX5_firstWrong_12 ?_
      refine lv_aload_n hx hb dX5_firstWrong_13 rfl (lv_at hl 0 rfl) ?_
      refine gt_f (v := .int (N 30 1)) M inlX5 hw 0 rfl rfl 1 (by decide) fl_X5_15 rfl rfl dX5_firstWrong_14 ?_
      refine lv_icmp_ge (tgt := 33) hx hb dX5_firstWrong_17 (by decide) (fun c_2 => ?_) (fun c_2 => ?_)
      · replace h := iT c_2 h
        refine lv_iload_n hx hb dX5_firstWrong_33 rfl (lv_at hl 2 rfl) ?_
        exact rt_i M () hw h dX5_firstWrong_34
      · replace h := iF c_2 h
        refine lv_aload_n hx hb dX5_firstWrong_20 rfl (lv_at hl 1 rfl) ?_
        refine lv_aload_n hx hb dX5_firstWrong_21 rfl (lv_at hl 0 rfl) ?_
        refine gt_f (v := .ref (qN 1)) M inlX5 hw 0 rfl rfl 0 (by decide) fl_X5_9 rfl rfl dX5_firstWrong_22 ?_
        refine lv_iload_n hx hb dX5_firstWrong_25 rfl (lv_at hl 2 rfl) ?_
        obtain ⟨a_3, h⟩ := h
        refine ld_i M hw 1 rfl a_3 dX5_firstWrong_26 ?_
        refine fr_Vi (wN := fun _ : Unit => (nW z qN N ++ (pW z qP P))) M (m_X3_hasThing l z qP P (N 0 (x2).toNatClampNeg) _ h) (cwV 1 hts (gdV cd_X3_hasThing ml_X5_19 im_X3_hasThing se_X3_hasThing in_X3) rfl rfl rfl hdV_X3_hasThing ⟨(Nat.le_of_ble_eq_true rfl), (Nat.le_of_ble_eq_true rfl)⟩) cut_0 prm_0 0 rfl rfl rfl hw rfl hl.1 rfl (Nat.le_of_ble_eq_true rfl) dX5_firstWrong_27 (fun r_4 u_ H locs h hw => ?_)
        have hw : Hw s z A (nW z qN N ++ (pW z qP P)) H locs := hw
        try dsimp only at h
        refine lv_if_ne (tgt := 35) hx hb dX5_firstWrong_30 (by decide) (fun c_5 => ?_) (fun c_5 => ?_)
        · replace h := iF c_5 h
          refine lv_aload_n hx hb dX5_firstWrong_35 rfl (lv_at hl 1 rfl) ?_
          refine lv_aload_n hx hb dX5_firstWrong_36 rfl (lv_at hl 0 rfl) ?_
          refine gt_f (v := .ref (qN 1)) M inlX5 hw 0 rfl rfl 0 (by decide) fl_X5_9 rfl rfl dX5_firstWrong_37 ?_
          refine lv_iload_n hx hb dX5_firstWrong_40 rfl (lv_at hl 2 rfl) ?_
          refine ld_i M hw 1 rfl a_3 dX5_firstWrong_41 ?_
          refine lv_aload_n hx hb dX5_firstWrong_42 rfl (lv_at hl 0 rfl) ?_
          refine gt_f (v := .ref (qN 1)) M inlX5 hw 0 rfl rfl 0 (by decide) fl_X5_9 rfl rfl dX5_firstWrong_43 ?_
          refine lv_iload_n hx hb dX5_firstWrong_46 rfl (lv_at hl 2 rfl) ?_
          refine lv_iconst (v := 1) hx hb dX5_firstWrong_47 (by decide) ?_
          refine lv_iadd hx hb dX5_firstWrong_48 ?_
          obtain ⟨a_6, h⟩ := h
          refine ld_i M hw 1 rfl a_6 dX5_firstWrong_49 ?_
          refine fr_Si (wN := fun _ : Unit => (nW z qN N ++ (pW z qP P))) M (m_X5_isLighter l z qP P (N 0 (x2).toNatClampNeg) (N 0 ((x2 + (1 : Int32))).toNatClampNeg) _ h) (va_cwS 3 hts (gdS cd_X5_isLighter ml_X5_25 st_X5_isLighter in_X5) rfl rfl rfl hdS_X5_isLighter ⟨(Nat.le_of_ble_eq_true rfl), (Nat.le_of_ble_eq_true rfl)⟩) cut_0 prm_0 hw rfl hl.1 rfl (Nat.le_of_ble_eq_true rfl) dX5_firstWrong_50 (fun r_7 u_ H locs h hw => ?_)
          have hw : Hw s z A (nW z qN N ++ (pW z qP P)) H locs := hw
          try dsimp only at h
          refine lv_if_ne (tgt := 60) hx hb dX5_firstWrong_53 (by decide) (fun c_8 => ?_) (fun c_8 => ?_)
          · replace h := iF c_8 h
            obtain ⟨x2_9, ex2_9⟩ : ∃ y : Int32, y = (x2 + (2 : Int32)) := ⟨_, rfl⟩
            replace h := h x2_9 ex2_9
            refine lv_iinc (v := x2_9) (lv' := [(2, .int x2_9), (0, .ref (qN 0)), (1, .ref (qP 0))]) hx hb dX5_firstWrong_60 hl (k := 2) rfl (by rw [ex2_9]; rfl) (by decide) rfl (fun ls hl => ?_)
            refine lv_goto (tgt := 2) hx hb dX5_firstWrong_63 (by decide) ?_
            exact ih x2_9 H locs ls hw (lv_sub hl [1, 2, 0] rfl) h
          · replace h := iT c_8 h
            refine lv_iload_n hx hb dX5_firstWrong_56 rfl (lv_at hl 2 rfl) ?_
            refine lv_iconst (v := 1) hx hb dX5_firstWrong_57 (by decide) ?_
            refine lv_iadd hx hb dX5_firstWrong_58 ?_
            exact rt_i M () hw h dX5_firstWrong_59
        · replace h := iT c_5 h
          refine lv_iload_n hx hb dX5_firstWrong_33 rfl (lv_at hl 2 rfl) ?_
          exact rt_i M () hw h dX5_firstWrong_34
set_option maxHeartbeats 4000000 in
set_option maxRecDepth 100000 in
theorem m_X5_firstWrong (l : Launch) (z : KT) (qN : Nat → Nat) (qP : Nat → Nat) (N : RT) (P : RT) (Q : Int32 → Prop) (h : wX5_firstWrong N P Q) : CI l yX5_firstWrong cX5_firstWrong 3 .int rmX5_firstWrong z [.ref (qN 0), .ref (qP 0)] (nW z qN N ++ (pW z qP P)) (fun _ : Unit => (nW z qN N ++ (pW z qP P))) (fun (r : Int32) (_ : Unit) => Q r) := by
  refine CI.of rfl (Nat.le_of_ble_eq_true rfl) ?_
  intro p e s m below meth c A ls M hw hl
  have M : Mc p s m _ meth c cX5_firstWrong 3 (some .int) RX5 z A := M
  obtain ⟨hx, hb, -, -, hown, hts, -, -, -, hN, hsr, -⟩ := id M
  have hl : lv_has ls 3 [(0, .ref (qN 0)), (1, .ref (qP 0))] := hl
  unfold wX5_firstWrong at h
  generalize s.heap = H at hw ⊢
  generalize ([] : List Loc) = locs at hw ⊢
  refine lv_iconst (v := 0) hx hb dX5_firstWrong_0 (by decide) ?_
  refine lv_istore_n (lv' := [(2, .int (0 : Int32)), (0, .ref (qN 0)), (1, .ref (qP 0))]) hx hb dX5_firstWrong_1 rfl hl (by decide) rfl (fun ls hl => ?_)
  obtain ⟨n0, h⟩ := h; exact kX5_firstWrong_2 M n0 (0 : Int32) H locs ls hw (lv_sub hl [1, 2, 0] rfl) h
