/-! ===== Mind (laid by wip/whole/gen.py) ===== -/
theorem hdV_X1_begin : yX1_begin.cls = RX1 ∧ yX1_begin.cls ≠ "java/lang/invoke/MethodHandle" ∧ yX1_begin.cls ≠ "java/lang/invoke/VarHandle" ∧ (parseMethodDescriptor yX1_begin.desc).map (fun d => d.parameters.length) = some 1 := by decide +kernel
theorem hdV_X1_behind : yX1_behind.cls = RX1 ∧ yX1_behind.cls ≠ "java/lang/invoke/MethodHandle" ∧ yX1_behind.cls ≠ "java/lang/invoke/VarHandle" ∧ (parseMethodDescriptor yX1_behind.desc).map (fun d => d.parameters.length) = some 2 := by decide +kernel
theorem hdV_X1_whenUp : yX1_whenUp.cls = RX1 ∧ yX1_whenUp.cls ≠ "java/lang/invoke/MethodHandle" ∧ yX1_whenUp.cls ≠ "java/lang/invoke/VarHandle" ∧ (parseMethodDescriptor yX1_whenUp.desc).map (fun d => d.parameters.length) = some 3 := by decide +kernel
theorem hdV_X1_leastAtTop : yX1_leastAtTop.cls = RX1 ∧ yX1_leastAtTop.cls ≠ "java/lang/invoke/MethodHandle" ∧ yX1_leastAtTop.cls ≠ "java/lang/invoke/VarHandle" ∧ (parseMethodDescriptor yX1_leastAtTop.desc).map (fun d => d.parameters.length) = some 0 := by decide +kernel
theorem hdV_X1_whenFirst : yX1_whenFirst.cls = RX1 ∧ yX1_whenFirst.cls ≠ "java/lang/invoke/MethodHandle" ∧ yX1_whenFirst.cls ≠ "java/lang/invoke/VarHandle" ∧ (parseMethodDescriptor yX1_whenFirst.desc).map (fun d => d.parameters.length) = some 1 := by decide +kernel
theorem hdV_X1_whoFirst : yX1_whoFirst.cls = RX1 ∧ yX1_whoFirst.cls ≠ "java/lang/invoke/MethodHandle" ∧ yX1_whoFirst.cls ≠ "java/lang/invoke/VarHandle" ∧ (parseMethodDescriptor yX1_whoFirst.desc).map (fun d => d.parameters.length) = some 1 := by decide +kernel
theorem hdV_X1_isAsBefore : yX1_isAsBefore.cls = RX1 ∧ yX1_isAsBefore.cls ≠ "java/lang/invoke/MethodHandle" ∧ yX1_isAsBefore.cls ≠ "java/lang/invoke/VarHandle" ∧ (parseMethodDescriptor yX1_isAsBefore.desc).map (fun d => d.parameters.length) = some 0 := by decide +kernel
theorem hdV_X1_whenRest : yX1_whenRest.cls = RX1 ∧ yX1_whenRest.cls ≠ "java/lang/invoke/MethodHandle" ∧ yX1_whenRest.cls ≠ "java/lang/invoke/VarHandle" ∧ (parseMethodDescriptor yX1_whenRest.desc).map (fun d => d.parameters.length) = some 1 := by decide +kernel
theorem hdV_X1_whenOtherwise : yX1_whenOtherwise.cls = RX1 ∧ yX1_whenOtherwise.cls ≠ "java/lang/invoke/MethodHandle" ∧ yX1_whenOtherwise.cls ≠ "java/lang/invoke/VarHandle" ∧ (parseMethodDescriptor yX1_whenOtherwise.desc).map (fun d => d.parameters.length) = some 2 := by decide +kernel
theorem hdV_X1_whenLevel : yX1_whenLevel.cls = RX1 ∧ yX1_whenLevel.cls ≠ "java/lang/invoke/MethodHandle" ∧ yX1_whenLevel.cls ≠ "java/lang/invoke/VarHandle" ∧ (parseMethodDescriptor yX1_whenLevel.desc).map (fun d => d.parameters.length) = some 3 := by decide +kernel
theorem hdV_X1_heightByStones : yX1_heightByStones.cls = RX1 ∧ yX1_heightByStones.cls ≠ "java/lang/invoke/MethodHandle" ∧ yX1_heightByStones.cls ≠ "java/lang/invoke/VarHandle" ∧ (parseMethodDescriptor yX1_heightByStones.desc).map (fun d => d.parameters.length) = some 4 := by decide +kernel
theorem hdV_X1_fewestLess : yX1_fewestLess.cls = RX1 ∧ yX1_fewestLess.cls ≠ "java/lang/invoke/MethodHandle" ∧ yX1_fewestLess.cls ≠ "java/lang/invoke/VarHandle" ∧ (parseMethodDescriptor yX1_fewestLess.desc).map (fun d => d.parameters.length) = some 4 := by decide +kernel
theorem hdV_X1_fewestMore : yX1_fewestMore.cls = RX1 ∧ yX1_fewestMore.cls ≠ "java/lang/invoke/MethodHandle" ∧ yX1_fewestMore.cls ≠ "java/lang/invoke/VarHandle" ∧ (parseMethodDescriptor yX1_fewestMore.desc).map (fun d => d.parameters.length) = some 4 := by decide +kernel
theorem hdV_X1_highestByTie : yX1_highestByTie.cls = RX1 ∧ yX1_highestByTie.cls ≠ "java/lang/invoke/MethodHandle" ∧ yX1_highestByTie.cls ≠ "java/lang/invoke/VarHandle" ∧ (parseMethodDescriptor yX1_highestByTie.desc).map (fun d => d.parameters.length) = some 3 := by decide +kernel
theorem hdV_X1_highestByCut : yX1_highestByCut.cls = RX1 ∧ yX1_highestByCut.cls ≠ "java/lang/invoke/MethodHandle" ∧ yX1_highestByCut.cls ≠ "java/lang/invoke/VarHandle" ∧ (parseMethodDescriptor yX1_highestByCut.desc).map (fun d => d.parameters.length) = some 3 := by decide +kernel
theorem hdV_X1_highestByStone : yX1_highestByStone.cls = RX1 ∧ yX1_highestByStone.cls ≠ "java/lang/invoke/MethodHandle" ∧ yX1_highestByStone.cls ≠ "java/lang/invoke/VarHandle" ∧ (parseMethodDescriptor yX1_highestByStone.desc).map (fun d => d.parameters.length) = some 2 := by decide +kernel
theorem hdV_X1_leadBy : yX1_leadBy.cls = RX1 ∧ yX1_leadBy.cls ≠ "java/lang/invoke/MethodHandle" ∧ yX1_leadBy.cls ≠ "java/lang/invoke/VarHandle" ∧ (parseMethodDescriptor yX1_leadBy.desc).map (fun d => d.parameters.length) = some 5 := by decide +kernel
theorem hdV_X1_steadyPair : yX1_steadyPair.cls = RX1 ∧ yX1_steadyPair.cls ≠ "java/lang/invoke/MethodHandle" ∧ yX1_steadyPair.cls ≠ "java/lang/invoke/VarHandle" ∧ (parseMethodDescriptor yX1_steadyPair.desc).map (fun d => d.parameters.length) = some 4 := by decide +kernel
theorem hdV_X1_wetCases : yX1_wetCases.cls = RX1 ∧ yX1_wetCases.cls ≠ "java/lang/invoke/MethodHandle" ∧ yX1_wetCases.cls ≠ "java/lang/invoke/VarHandle" ∧ (parseMethodDescriptor yX1_wetCases.desc).map (fun d => d.parameters.length) = some 6 := by decide +kernel
theorem hdV_X1_goesAsTold : yX1_goesAsTold.cls = RX1 ∧ yX1_goesAsTold.cls ≠ "java/lang/invoke/MethodHandle" ∧ yX1_goesAsTold.cls ≠ "java/lang/invoke/VarHandle" ∧ (parseMethodDescriptor yX1_goesAsTold.desc).map (fun d => d.parameters.length) = some 2 := by decide +kernel
theorem hdV_X1_kindsAsTold : yX1_kindsAsTold.cls = RX1 ∧ yX1_kindsAsTold.cls ≠ "java/lang/invoke/MethodHandle" ∧ yX1_kindsAsTold.cls ≠ "java/lang/invoke/VarHandle" ∧ (parseMethodDescriptor yX1_kindsAsTold.desc).map (fun d => d.parameters.length) = some 3 := by decide +kernel
theorem hdV_X1_weightsAsTold : yX1_weightsAsTold.cls = RX1 ∧ yX1_weightsAsTold.cls ≠ "java/lang/invoke/MethodHandle" ∧ yX1_weightsAsTold.cls ≠ "java/lang/invoke/VarHandle" ∧ (parseMethodDescriptor yX1_weightsAsTold.desc).map (fun d => d.parameters.length) = some 3 := by decide +kernel
theorem hdV_X1_byLot : yX1_byLot.cls = RX1 ∧ yX1_byLot.cls ≠ "java/lang/invoke/MethodHandle" ∧ yX1_byLot.cls ≠ "java/lang/invoke/VarHandle" ∧ (parseMethodDescriptor yX1_byLot.desc).map (fun d => d.parameters.length) = some 4 := by decide +kernel
theorem cut_1 {z : KT} {qG : Nat → Nat} {qP : Nat → Nat} {qT : Nat → Nat} {G : RT} {T : RT} {P : RT} : Cut (mW z qG qT G ++ (pW z qT T ++ (pW z qP P))) (pW z qT T ++ (pW z qP P)) (mW z qG qT G) := ⟨[3, 4, 5, 6, 7, 8, 9, 10, 11, 12, 13, 14, 15, 16, 17, 18], [0, 1, 2], rfl, rfl, rfl, rfl, by decide⟩
theorem prm_1 {z : KT} {qG : Nat → Nat} {qP : Nat → Nat} {qT : Nat → Nat} {G : RT} {P : RT} : Prm (S := RT) (mW z qG qT G) (fun u => (pW z qT u ++ (pW z qP P))) (fun u => (mW z qG qT G ++ (pW z qT u ++ (pW z qP P)))) := ⟨[0, 1, 2, 3, 4, 5, 6, 7, 8, 9, 10, 11, 12, 13, 14, 15, 16, 17, 18], rfl, fun _ => rfl⟩
theorem cut_2 {z : KT} {qG : Nat → Nat} {qP : Nat → Nat} {qT : Nat → Nat} {G : RT} {T : RT} {P : RT} : Cut (mW z qG qT G ++ (pW z qT T ++ (pW z qP P))) (pW z qT T) (mW z qG qT G ++ (pW z qP P)) := ⟨[3, 4, 5, 6, 7, 8, 9, 10], [0, 1, 2, 11, 12, 13, 14, 15, 16, 17, 18], rfl, rfl, rfl, rfl, by decide⟩
theorem prm_2 {z : KT} {qG : Nat → Nat} {qP : Nat → Nat} {qT : Nat → Nat} {G : RT} {P : RT} : Prm (S := RT) (mW z qG qT G ++ (pW z qP P)) (fun u => (pW z qT u)) (fun u => (mW z qG qT G ++ (pW z qT u ++ (pW z qP P)))) := ⟨[0, 1, 2, 11, 12, 13, 14, 15, 16, 17, 18, 3, 4, 5, 6, 7, 8, 9, 10], rfl, fun _ => rfl⟩
theorem cut_3 {z : KT} {qG : Nat → Nat} {qP : Nat → Nat} {qT : Nat → Nat} {G : RT} {T : RT} {P : RT} : Cut (mW z qG qT G ++ (pW z qT T ++ (pW z qP P))) (mW z qG qT G ++ (pW z qT T)) (pW z qP P) := ⟨[0, 1, 2, 3, 4, 5, 6, 7, 8, 9, 10], [11, 12, 13, 14, 15, 16, 17, 18], rfl, rfl, rfl, rfl, by decide⟩
theorem prm_3 {z : KT} {qG : Nat → Nat} {qP : Nat → Nat} {qT : Nat → Nat} {G : RT} {T : RT} {P : RT} : Prm (S := Unit) (pW z qP P) (fun _ => (mW z qG qT G ++ (pW z qT T))) (fun _ => (mW z qG qT G ++ (pW z qT T ++ (pW z qP P)))) := ⟨[8, 9, 10, 11, 12, 13, 14, 15, 16, 17, 18, 0, 1, 2, 3, 4, 5, 6, 7], rfl, fun _ => rfl⟩
theorem cut_4 {z : KT} {qG : Nat → Nat} {qP : Nat → Nat} {qT : Nat → Nat} {G : RT} {T : RT} {P : RT} : Cut (mW z qG qT G ++ (pW z qT T ++ (pW z qP P))) (pW z qP P) (mW z qG qT G ++ (pW z qT T)) := ⟨[11, 12, 13, 14, 15, 16, 17, 18], [0, 1, 2, 3, 4, 5, 6, 7, 8, 9, 10], rfl, rfl, rfl, rfl, by decide⟩
theorem prm_4 {z : KT} {qG : Nat → Nat} {qP : Nat → Nat} {qT : Nat → Nat} {G : RT} {T : RT} {P : RT} : Prm (S := Unit) (mW z qG qT G ++ (pW z qT T)) (fun _ => (pW z qP P)) (fun _ => (mW z qG qT G ++ (pW z qT T ++ (pW z qP P)))) := ⟨[0, 1, 2, 3, 4, 5, 6, 7, 8, 9, 10, 11, 12, 13, 14, 15, 16, 17, 18], rfl, fun _ => rfl⟩
theorem cut_5 {z : KT} {qG : Nat → Nat} {qP : Nat → Nat} {qT : Nat → Nat} {G : RT} {T : RT} {P : RT} : Cut (mW z qG qT G ++ (pW z qT T ++ (pW z qP P))) (pW z qT T) (mW z qG qT G ++ (pW z qP P)) := ⟨[3, 4, 5, 6, 7, 8, 9, 10], [0, 1, 2, 11, 12, 13, 14, 15, 16, 17, 18], rfl, rfl, rfl, rfl, by decide⟩
theorem prm_5 {z : KT} {qG : Nat → Nat} {qP : Nat → Nat} {qT : Nat → Nat} {G : RT} {T : RT} {P : RT} : Prm (S := Unit) (mW z qG qT G ++ (pW z qP P)) (fun _ => (pW z qT T)) (fun _ => (mW z qG qT G ++ (pW z qT T ++ (pW z qP P)))) := ⟨[0, 1, 2, 11, 12, 13, 14, 15, 16, 17, 18, 3, 4, 5, 6, 7, 8, 9, 10], rfl, fun _ => rfl⟩
theorem cut_6 {z : KT} {qN : Nat → Nat} {qG : Nat → Nat} {qT : Nat → Nat} {G : RT} {T : RT} {N : RT} : Cut (mW z qG qT G ++ (pW z qT T ++ (nW z qN N))) (pW z qT T) (mW z qG qT G ++ (nW z qN N)) := ⟨[3, 4, 5, 6, 7, 8, 9, 10], [0, 1, 2, 11, 12], rfl, rfl, rfl, rfl, by decide⟩
theorem prm_6 {z : KT} {qN : Nat → Nat} {qG : Nat → Nat} {qT : Nat → Nat} {G : RT} {N : RT} : Prm (S := RT) (mW z qG qT G ++ (nW z qN N)) (fun u => (pW z qT u)) (fun u => (mW z qG qT G ++ (pW z qT u ++ (nW z qN N)))) := ⟨[0, 1, 2, 5, 6, 7, 8, 9, 10, 11, 12, 3, 4], rfl, fun _ => rfl⟩
theorem cut_7 {z : KT} {qN : Nat → Nat} {qG : Nat → Nat} {qP : Nat → Nat} {qT : Nat → Nat} {G : RT} {T : RT} {P : RT} {N : RT} : Cut (mW z qG qT G ++ (pW z qT T ++ (pW z qP P ++ (nW z qN N)))) (mW z qG qT G ++ (pW z qT T ++ (pW z qP P))) (nW z qN N) := ⟨[0, 1, 2, 3, 4, 5, 6, 7, 8, 9, 10, 11, 12, 13, 14, 15, 16, 17, 18], [19, 20], rfl, rfl, rfl, rfl, by decide⟩
theorem prm_7 {z : KT} {qN : Nat → Nat} {qG : Nat → Nat} {qP : Nat → Nat} {qT : Nat → Nat} {G : RT} {P : RT} {N : RT} : Prm (S := RT) (nW z qN N) (fun u => (mW z qG qT G ++ (pW z qT u ++ (pW z qP P)))) (fun u => (mW z qG qT G ++ (pW z qT u ++ (pW z qP P ++ (nW z qN N))))) := ⟨[2, 3, 4, 5, 6, 7, 8, 9, 10, 11, 12, 13, 14, 15, 16, 17, 18, 19, 20, 0, 1], rfl, fun _ => rfl⟩
theorem cut_8 {z : KT} {qN : Nat → Nat} {qG : Nat → Nat} {qP : Nat → Nat} {qT : Nat → Nat} {G : RT} {T : RT} {P : RT} {N : RT} : Cut (mW z qG qT G ++ (pW z qT T ++ (pW z qP P ++ (nW z qN N)))) (mW z qG qT G ++ (pW z qT T ++ (nW z qN N))) (pW z qP P) := ⟨[0, 1, 2, 3, 4, 5, 6, 7, 8, 9, 10, 19, 20], [11, 12, 13, 14, 15, 16, 17, 18], rfl, rfl, rfl, rfl, by decide⟩
theorem prm_8 {z : KT} {qN : Nat → Nat} {qG : Nat → Nat} {qP : Nat → Nat} {qT : Nat → Nat} {G : RT} {P : RT} {N : RT} : Prm (S := RT) (pW z qP P) (fun u => (mW z qG qT G ++ (pW z qT u ++ (nW z qN N)))) (fun u => (mW z qG qT G ++ (pW z qT u ++ (pW z qP P ++ (nW z qN N))))) := ⟨[8, 9, 10, 11, 12, 13, 14, 15, 16, 17, 18, 0, 1, 2, 3, 4, 5, 6, 7, 19, 20], rfl, fun _ => rfl⟩
def wX1_begin (G : RT) (T : RT) (P : RT) (Q : RT → Prop) : Prop := (wX3_copyFrom T P  (fun (T_1 : RT) => (Q T_1)))
def wX1_behind (G : RT) (T : RT) (P : RT) (x2 : Int32) (Q : RT → Prop) : Prop := (wX3_copyFrom T P  (fun (T_1 : RT) => (wX3_goHours T_1 x2 (fun (T_2 : RT) => (Q T_2)))))
def bX1_whenUp_9 (G : RT) (P : RT) (Q : Int32 → RT → Prop) : Nat → RT → Int32 → Int32 → Int32 → Prop
  | 0, _, _, _, _ => False
  | n + 1, T, x2, x3, x4 => (if (99 : Int32) < x4 then (Q (-9 : Int32) T) else (vp_in x2 8 ∧ (if (T 4 (x2).toNatClampNeg) < x3 then (wX3_goHour T (-9 : Int32) (fun (T_4 : RT) => (∀ x4_5 : Int32, x4_5 = (x4 + (1 : Int32)) → (bX1_whenUp_9 G P Q n T_4 x2 x3 x4_5)))) else (Q x4 T))))
def wX1_whenUp (G : RT) (T : RT) (P : RT) (x2 : Int32) (x3 : Int32) (Q : Int32 → RT → Prop) : Prop := (wX1_begin G T P  (fun (T_1 : RT) => (∃ j : Nat, bX1_whenUp_9 G P Q j T_1 x2 x3 (0 : Int32))))
def bX1_leastAtTop_2 (G : RT) (T : RT) (Q : Int32 → Prop) : Nat → Int32 → Prop
  | 0, _ => False
  | n + 1, x1 => (if (T 30 7) ≤ x1 then (Q (-9 : Int32)) else (vp_in x1 8 ∧ (if (T 4 (x1).toNatClampNeg) = (20 : Int32) then (Q x1) else (∀ x1_4 : Int32, x1_4 = (x1 + (1 : Int32)) → (bX1_leastAtTop_2 G T Q n x1_4)))))
def wX1_leastAtTop (G : RT) (T : RT) (Q : Int32 → Prop) : Prop := (∃ j : Nat, bX1_leastAtTop_2 G T Q j (0 : Int32))
def bX1_whenFirst_8 (G : RT) (P : RT) (Q : Int32 → RT → Prop) : Nat → RT → Int32 → Prop
  | 0, _, _ => False
  | n + 1, T, x2 => (if (99 : Int32) < x2 then (Q (-9 : Int32) T) else (wX1_leastAtTop G T  (fun (r_2 : Int32) => (if r_2 = (-9 : Int32) then (wX3_goHour T (-9 : Int32) (fun (T_4 : RT) => (∀ x2_5 : Int32, x2_5 = (x2 + (1 : Int32)) → (bX1_whenFirst_8 G P Q n T_4 x2_5)))) else (Q x2 T)))))
def wX1_whenFirst (G : RT) (T : RT) (P : RT) (Q : Int32 → RT → Prop) : Prop := (wX1_begin G T P  (fun (T_1 : RT) => (∃ j : Nat, bX1_whenFirst_8 G P Q j T_1 (0 : Int32))))
def wX1_whoFirst (G : RT) (T : RT) (P : RT) (Q : Int32 → RT → Prop) : Prop := (wX1_whenFirst G T P  (fun (r_2 : Int32) (T_1 : RT) => (if r_2 = (-9 : Int32) then (Q (-9 : Int32) T_1) else (wX1_leastAtTop G T_1  (fun (r_4 : Int32) => (Q r_4 T_1))))))
def bX1_isAsBefore_2 (G : RT) (T : RT) (Q : Int32 → Prop) : Nat → Int32 → Prop
  | 0, _ => False
  | n + 1, x1 => (if (T 30 7) ≤ x1 then (Q (1 : Int32)) else (vp_in x1 8 ∧ (if (T 4 (x1).toNatClampNeg) = (G 1 (x1).toNatClampNeg) then (∀ x1_4 : Int32, x1_4 = (x1 + (1 : Int32)) → (bX1_isAsBefore_2 G T Q n x1_4)) else (Q (0 : Int32)))))
def wX1_isAsBefore (G : RT) (T : RT) (Q : Int32 → Prop) : Prop := (∃ j : Nat, bX1_isAsBefore_2 G T Q j (0 : Int32))
def bX1_whenRest_8 (P : RT) (Q : Int32 → RT → RT → Prop) : Nat → RT → RT → Int32 → Prop
  | 0, _, _, _ => False
  | n + 1, G, T, x2 => (if (99 : Int32) < x2 then (Q (-9 : Int32) G T) else ((¬ (T 30 7) < 0 ∧ ((T 30 7)).toNatClampNeg ≤ 8 ∧ ((T 30 7)).toNatClampNeg ≤ 8) ∧ (∀ G_3 : RT, G_3 = cpy2 G 1 (T 4) 0 0 ((T 30 7)).toNatClampNeg → (wX3_goHour T (-9 : Int32) (fun (T_4 : RT) => (wX1_isAsBefore G_3 T_4  (fun (r_5 : Int32) => (if r_5 = (0 : Int32) then (∀ x2_7 : Int32, x2_7 = (x2 + (1 : Int32)) → (bX1_whenRest_8 P Q n G_3 T_4 x2_7)) else (Q x2 G_3 T_4)))))))))
def wX1_whenRest (G : RT) (T : RT) (P : RT) (Q : Int32 → RT → RT → Prop) : Prop := (wX1_begin G T P  (fun (T_1 : RT) => (∃ j : Nat, bX1_whenRest_8 P Q j G T_1 (0 : Int32))))
def bX1_whenOtherwise_15 (G : RT) (P : RT) (Q : Int32 → RT → Prop) : Nat → RT → Int32 → Int32 → Int32 → Prop
  | 0, _, _, _, _ => False
  | n + 1, T, x2, x3, x4 => (if (99 : Int32) < x4 then (Q (-9 : Int32) T) else (wX3_goHour T (-9 : Int32) (fun (T_2 : RT) => (wX3_heavierEnd T_2 x2 (fun (r_3 : Int32) => (if r_3 = x3 then (∀ x4_5 : Int32, x4_5 = (x4 + (1 : Int32)) → (bX1_whenOtherwise_15 G P Q n T_2 x2 x3 x4_5)) else (Q x4 T_2)))))))
def wX1_whenOtherwise (G : RT) (T : RT) (P : RT) (x2 : Int32) (Q : Int32 → RT → Prop) : Prop := (wX3_heavierEnd P x2 (fun (r_1 : Int32) => (wX1_begin G T P  (fun (T_2 : RT) => (∃ j : Nat, bX1_whenOtherwise_15 G P Q j T_2 x2 r_1 (1 : Int32))))))
def bX1_whenLevel_9 (G : RT) (P : RT) (Q : Int32 → RT → Prop) : Nat → RT → Int32 → Int32 → Int32 → Prop
  | 0, _, _, _, _ => False
  | n + 1, T, x2, x3, x4 => (if (99 : Int32) < x4 then (Q (-9 : Int32) T) else (vp_in x2 8 ∧ (vp_in x3 8 ∧ (if (T 4 (x2).toNatClampNeg) = (T 4 (x3).toNatClampNeg) then (Q x4 T) else (wX3_goHour T (-9 : Int32) (fun (T_5 : RT) => (∀ x4_6 : Int32, x4_6 = (x4 + (1 : Int32)) → (bX1_whenLevel_9 G P Q n T_5 x2 x3 x4_6))))))))
def wX1_whenLevel (G : RT) (T : RT) (P : RT) (x2 : Int32) (x3 : Int32) (Q : Int32 → RT → Prop) : Prop := (wX1_begin G T P  (fun (T_1 : RT) => (∃ j : Nat, bX1_whenLevel_9 G P Q j T_1 x2 x3 (0 : Int32))))
def wX1_heightByStones (G : RT) (T : RT) (P : RT) (x2 : Int32) (x3 : Int32) (x4 : Int32) (Q : Int32 → RT → Prop) : Prop := (wX1_begin G T P  (fun (T_1 : RT) => (vp_in x2 8 ∧ (∀ T_3 : RT, T_3 = set2 T_1 3 (x2).toNatClampNeg x3 → (wX3_goHours T_3 x4 (fun (T_4 : RT) => (Q (T_4 4 (x2).toNatClampNeg) T_4)))))))
def bX1_fewestLess_3 (G : RT) (P : RT) (Q : Int32 → RT → Prop) : Nat → RT → Int32 → Int32 → Int32 → Int32 → Prop
  | 0, _, _, _, _, _ => False
  | n + 1, T, x2, x3, x4, x5 => (vp_in x2 8 ∧ (if (P 3 (x2).toNatClampNeg) < x5 then (Q (-9 : Int32) T) else (wX1_heightByStones G T P x2 ((P 3 (x2).toNatClampNeg) - x5) x4 (fun (r_4 : Int32) (T_3 : RT) => (if r_4 < x3 then (∀ x5_6 : Int32, x5_6 = (x5 + (1 : Int32)) → (bX1_fewestLess_3 G P Q n T_3 x2 x3 x4 x5_6)) else (Q x5 T_3))))))
def wX1_fewestLess (G : RT) (T : RT) (P : RT) (x2 : Int32) (x3 : Int32) (x4 : Int32) (Q : Int32 → RT → Prop) : Prop := (∃ j : Nat, bX1_fewestLess_3 G P Q j T x2 x3 x4 (0 : Int32))
def bX1_fewestMore_3 (G : RT) (P : RT) (Q : Int32 → RT → Prop) : Nat → RT → Int32 → Int32 → Int32 → Int32 → Prop
  | 0, _, _, _, _, _ => False
  | n + 1, T, x2, x3, x4, x5 => (vp_in x2 8 ∧ (if (9 : Int32) < ((P 3 (x2).toNatClampNeg) + x5) then (Q (-9 : Int32) T) else (wX1_heightByStones G T P x2 ((P 3 (x2).toNatClampNeg) + x5) x4 (fun (r_4 : Int32) (T_3 : RT) => (if x3 < r_4 then (∀ x5_6 : Int32, x5_6 = (x5 + (1 : Int32)) → (bX1_fewestMore_3 G P Q n T_3 x2 x3 x4 x5_6)) else (Q x5 T_3))))))
def wX1_fewestMore (G : RT) (T : RT) (P : RT) (x2 : Int32) (x3 : Int32) (x4 : Int32) (Q : Int32 → RT → Prop) : Prop := (∃ j : Nat, bX1_fewestMore_3 G P Q j T x2 x3 x4 (0 : Int32))
def bX1_highestByTie_101 (K32 : RT → Int32 → Int32 → Int32 → Int32 → Int32 → Prop) (G : RT) (P : RT) (Q : Int32 → RT → Prop) (T : RT) (x2 : Int32) (x3 : Int32) (x4 : Int32) (x5 : Int32) (x6 : Int32) : Prop := (∀ x6_1 : Int32, x6_1 = (x6 + (1 : Int32)) → (K32 T x2 x3 x4 x5 x6_1))
def bX1_highestByTie_32 (G : RT) (P : RT) (Q : Int32 → RT → Prop) : Nat → RT → Int32 → Int32 → Int32 → Int32 → Int32 → Prop
  | 0, _, _, _, _, _, _ => False
  | n + 1, T, x2, x3, x4, x5, x6 => (if (P 30 7) ≤ x6 then (Q x4 T) else (if x6 = x2 then (bX1_highestByTie_101 (fun (T_ : RT) (x2_ : Int32) (x3_ : Int32) (x4_ : Int32) (x5_ : Int32) (x6_ : Int32) => bX1_highestByTie_32 G P Q n T_ x2_ x3_ x4_ x5_ x6_) G P Q T x2 x3 x4 x5 x6) else (wX1_begin G T P  (fun (T_3 : RT) => (wX3_addRope T_3 x2 x6 (fun (r_5 : Int32) (T_4 : RT) => (wX3_goHours T_4 x3 (fun (T_6 : RT) => (vp_in x2 8 ∧ (if (T_6 4 (x2).toNatClampNeg) ≤ x5 then (bX1_highestByTie_101 (fun (T_ : RT) (x2_ : Int32) (x3_ : Int32) (x4_ : Int32) (x5_ : Int32) (x6_ : Int32) => bX1_highestByTie_32 G P Q n T_ x2_ x3_ x4_ x5_ x6_) G P Q T_6 x2 x3 x4 x5 x6) else (∀ x5_9 : Int32, x5_9 = (T_6 4 (x2).toNatClampNeg) → (bX1_highestByTie_101 (fun (T_ : RT) (x2_ : Int32) (x3_ : Int32) (x4_ : Int32) (x5_ : Int32) (x6_ : Int32) => bX1_highestByTie_32 G P Q n T_ x2_ x3_ x4_ x5_ x6_) G P Q T_6 x2 x3 x6 x5_9 x6))))))))))))
def wX1_highestByTie (G : RT) (T : RT) (P : RT) (x2 : Int32) (x3 : Int32) (Q : Int32 → RT → Prop) : Prop := (if (P 30 8) < (6 : Int32) then (wX1_behind G T P x3 (fun (T_2 : RT) => (vp_in x2 8 ∧ (∀ x5_4 : Int32, x5_4 = (T_2 4 (x2).toNatClampNeg) → (∃ j : Nat, bX1_highestByTie_32 G P Q j T_2 x2 x3 (-9 : Int32) x5_4 (0 : Int32)))))) else (Q (-9 : Int32) T))
def bX1_highestByCut_82 (K20 : RT → Int32 → Int32 → Int32 → Int32 → Int32 → Prop) (G : RT) (P : RT) (Q : Int32 → RT → Prop) (T : RT) (x2 : Int32) (x3 : Int32) (x4 : Int32) (x5 : Int32) (x6 : Int32) : Prop := (∀ x6_1 : Int32, x6_1 = (x6 + (1 : Int32)) → (K20 T x2 x3 x4 x5 x6_1))
def bX1_highestByCut_20 (G : RT) (P : RT) (Q : Int32 → RT → Prop) : Nat → RT → Int32 → Int32 → Int32 → Int32 → Int32 → Prop
  | 0, _, _, _, _, _, _ => False
  | n + 1, T, x2, x3, x4, x5, x6 => (if (P 30 8) ≤ x6 then (Q x4 T) else (wX1_begin G T P  (fun (T_2 : RT) => (wX3_dropRope T_2 x6 (fun (r_4 : Int32) (T_3 : RT) => (wX3_goHours T_3 x3 (fun (T_5 : RT) => (vp_in x2 8 ∧ (if (T_5 4 (x2).toNatClampNeg) ≤ x5 then (bX1_highestByCut_82 (fun (T_ : RT) (x2_ : Int32) (x3_ : Int32) (x4_ : Int32) (x5_ : Int32) (x6_ : Int32) => bX1_highestByCut_20 G P Q n T_ x2_ x3_ x4_ x5_ x6_) G P Q T_5 x2 x3 x4 x5 x6) else (∀ x5_8 : Int32, x5_8 = (T_5 4 (x2).toNatClampNeg) → (bX1_highestByCut_82 (fun (T_ : RT) (x2_ : Int32) (x3_ : Int32) (x4_ : Int32) (x5_ : Int32) (x6_ : Int32) => bX1_highestByCut_20 G P Q n T_ x2_ x3_ x4_ x5_ x6_) G P Q T_5 x2 x3 x6 x5_8 x6)))))))))))
def wX1_highestByCut (G : RT) (T : RT) (P : RT) (x2 : Int32) (x3 : Int32) (Q : Int32 → RT → Prop) : Prop := (wX1_behind G T P x3 (fun (T_1 : RT) => (vp_in x2 8 ∧ (∀ x5_3 : Int32, x5_3 = (T_1 4 (x2).toNatClampNeg) → (∃ j : Nat, bX1_highestByCut_20 G P Q j T_1 x2 x3 (-9 : Int32) x5_3 (0 : Int32))))))
def bX1_highestByStone_90 (K17 : RT → Int32 → Int32 → Int32 → Int32 → Prop) (G : RT) (P : RT) (Q : Int32 → RT → Prop) (T : RT) (x2 : Int32) (x3 : Int32) (x4 : Int32) (x5 : Int32) : Prop := (∀ x5_1 : Int32, x5_1 = (x5 + (1 : Int32)) → (K17 T x2 x3 x4 x5_1))
def bX1_highestByStone_17 (G : RT) (P : RT) (Q : Int32 → RT → Prop) : Nat → RT → Int32 → Int32 → Int32 → Int32 → Prop
  | 0, _, _, _, _, _ => False
  | n + 1, T, x2, x3, x4, x5 => (if (P 30 7) ≤ x5 then (Q x3 T) else (vp_in x5 8 ∧ (if (9 : Int32) ≤ (P 3 (x5).toNatClampNeg) then (bX1_highestByStone_90 (fun (T_ : RT) (x2_ : Int32) (x3_ : Int32) (x4_ : Int32) (x5_ : Int32) => bX1_highestByStone_17 G P Q n T_ x2_ x3_ x4_ x5_) G P Q T x2 x3 x4 x5) else (wX1_begin G T P  (fun (T_4 : RT) => (∀ T_5 : RT, T_5 = set2 T_4 3 (x5).toNatClampNeg ((T_4 3 (x5).toNatClampNeg) + (1 : Int32)) → (wX3_goHours T_5 x2 (fun (T_6 : RT) => (wX3_allHeights T_6  (fun (r_7 : Int32) => (if r_7 ≤ x4 then (bX1_highestByStone_90 (fun (T_ : RT) (x2_ : Int32) (x3_ : Int32) (x4_ : Int32) (x5_ : Int32) => bX1_highestByStone_17 G P Q n T_ x2_ x3_ x4_ x5_) G P Q T_6 x2 x3 x4 x5) else (wX3_allHeights T_6  (fun (r_9 : Int32) => (bX1_highestByStone_90 (fun (T_ : RT) (x2_ : Int32) (x3_ : Int32) (x4_ : Int32) (x5_ : Int32) => bX1_highestByStone_17 G P Q n T_ x2_ x3_ x4_ x5_) G P Q T_6 x2 x5 r_9 x5))))))))))))))
def wX1_highestByStone (G : RT) (T : RT) (P : RT) (x2 : Int32) (Q : Int32 → RT → Prop) : Prop := (wX1_behind G T P x2 (fun (T_1 : RT) => (wX3_allHeights T_1  (fun (r_2 : Int32) => (∃ j : Nat, bX1_highestByStone_17 G P Q j T_1 x2 (-9 : Int32) r_2 (0 : Int32))))))
def bX1_leadBy_74 (G : RT) (P : RT) (Q : Int32 → RT → Prop) (T : RT) (x3 : Int32) (x4 : Int32) (x5 : Int32) : Prop := (wX3_goHours T x5 (fun (T_1 : RT) => (vp_in x3 8 ∧ (vp_in x4 8 ∧ (Q ((T_1 4 (x3).toNatClampNeg) - (T_1 4 (x4).toNatClampNeg)) T_1)))))
def bX1_leadBy_39 (G : RT) (P : RT) (Q : Int32 → RT → Prop) (T : RT) (x2 : Int32) (x3 : Int32) (x4 : Int32) (x5 : Int32) : Prop := (wX6_hasBit  x2 (0 : Int32) (fun (r_1 : Int32) => (if r_1 = (0 : Int32) then (bX1_leadBy_74 G P Q T x3 x4 x5) else (vp_in x4 8 ∧ (∀ T_4 : RT, T_4 = set2 T 3 (x4).toNatClampNeg (if ((T 3 (x4).toNatClampNeg) + (2 : Int32)) < (9 : Int32) then ((T 3 (x4).toNatClampNeg) + (2 : Int32)) else (9 : Int32)) → (bX1_leadBy_74 G P Q T_4 x3 x4 x5))))))
def wX1_leadBy (G : RT) (T : RT) (P : RT) (x2 : Int32) (x3 : Int32) (x4 : Int32) (x5 : Int32) (Q : Int32 → RT → Prop) : Prop := (wX1_begin G T P  (fun (T_1 : RT) => (wX6_hasBit  x2 (1 : Int32) (fun (r_2 : Int32) => (if r_2 = (0 : Int32) then (bX1_leadBy_39 G P Q T_1 x2 x3 x4 x5) else (vp_in x3 8 ∧ (∀ T_5 : RT, T_5 = set2 T_1 3 (x3).toNatClampNeg (if ((T_1 3 (x3).toNatClampNeg) + (2 : Int32)) < (9 : Int32) then ((T_1 3 (x3).toNatClampNeg) + (2 : Int32)) else (9 : Int32)) → (bX1_leadBy_39 G P Q T_5 x2 x3 x4 x5))))))))
def bX1_steadyPair_93 (K36 : RT → RT → Int32 → Prop) (P : RT) (Q : Int32 → RT → RT → Prop) (G : RT) (T : RT) (x5 : Int32) : Prop := (∀ x5_1 : Int32, x5_1 = (x5 + (1 : Int32)) → (K36 G T x5_1))
def bX1_steadyPair_36 (P : RT) (Q : Int32 → RT → RT → Prop) : Nat → RT → RT → Int32 → Prop
  | 0, _, _, _ => False
  | n + 1, G, T, x5 => (if (4 : Int32) ≤ x5 then (Q (-9 : Int32) G T) else (vp_in (x5 ^^^ (2 : Int32)) 4 ∧ (vp_in x5 4 ∧ (if (G 2 (x5).toNatClampNeg) < (G 2 ((x5 ^^^ (2 : Int32))).toNatClampNeg) then (bX1_steadyPair_93 (fun (G_ : RT) (T_ : RT) (x5_ : Int32) => bX1_steadyPair_36 P Q n G_ T_ x5_) P Q G T x5) else (vp_in (x5 ^^^ (1 : Int32)) 4 ∧ (if (G 2 ((x5 ^^^ (1 : Int32))).toNatClampNeg) < (G 2 (x5).toNatClampNeg) then (bX1_steadyPair_93 (fun (G_ : RT) (T_ : RT) (x5_ : Int32) => bX1_steadyPair_36 P Q n G_ T_ x5_) P Q G T x5) else (Q (((10 : Int32) * (x5 / (2 : Int32))) + (x5 - x5 / (2 : Int32) * (2 : Int32))) G T)))))))
def bX1_steadyPair_3 (P : RT) (Q : Int32 → RT → RT → Prop) : Nat → RT → RT → Int32 → Int32 → Int32 → Int32 → Prop
  | 0, _, _, _, _, _, _ => False
  | n + 1, G, T, x2, x3, x4, x5 => (if (4 : Int32) ≤ x5 then (∃ j : Nat, bX1_steadyPair_36 P Q j G T (0 : Int32)) else (wX1_leadBy G T P x5 x2 x3 x4 (fun (r_3 : Int32) (T_2 : RT) => (vp_in x5 4 ∧ (∀ G_5 : RT, G_5 = set2 G 2 (x5).toNatClampNeg r_3 → (∀ x5_6 : Int32, x5_6 = (x5 + (1 : Int32)) → (bX1_steadyPair_3 P Q n G_5 T_2 x2 x3 x4 x5_6)))))))
def wX1_steadyPair (G : RT) (T : RT) (P : RT) (x2 : Int32) (x3 : Int32) (x4 : Int32) (Q : Int32 → RT → RT → Prop) : Prop := (∃ j : Nat, bX1_steadyPair_3 P Q j G T x2 x3 x4 (0 : Int32))
def bX1_wetCases_51 (K6 : RT → Int32 → Int32 → Int32 → Int32 → Int32 → Int64 → Int32 → Prop) (K24 : RT → Int32 → Int32 → Int32 → Int32 → Int32 → Int64 → Int32 → Int32 → Prop) (G : RT) (P : RT) (Q : Int64 → RT → Prop) (T : RT) (x2 : Int32) (x3 : Int32) (x4 : Int32) (x5 : Int32) (x6 : Int32) (y7 : Int64) (x9 : Int32) (x10 : Int32) (t1 : Int32) : Prop := (wX3_goHour T t1 (fun (T_1 : RT) => (∀ x10_2 : Int32, x10_2 = (x10 + (1 : Int32)) → (K24 T_1 x2 x3 x4 x5 x6 y7 x9 x10_2))))
def bX1_wetCases_95 (K6 : RT → Int32 → Int32 → Int32 → Int32 → Int32 → Int64 → Int32 → Prop) (G : RT) (P : RT) (Q : Int64 → RT → Prop) (T : RT) (x2 : Int32) (x3 : Int32) (x4 : Int32) (x5 : Int32) (x6 : Int32) (y7 : Int64) (x9 : Int32) : Prop := (∀ x9_1 : Int32, x9_1 = (x9 + (1 : Int32)) → (K6 T x2 x3 x4 x5 x6 y7 x9_1))
def bX1_wetCases_24 (K6 : RT → Int32 → Int32 → Int32 → Int32 → Int32 → Int64 → Int32 → Prop) (G : RT) (P : RT) (Q : Int64 → RT → Prop) : Nat → RT → Int32 → Int32 → Int32 → Int32 → Int32 → Int64 → Int32 → Int32 → Prop
  | 0, _, _, _, _, _, _, _, _, _ => False
  | n + 1, T, x2, x3, x4, x5, x6, y7, x9, x10 => (if x4 ≤ x10 then (vp_in x3 8 ∧ (if (T 4 (x3).toNatClampNeg) < x6 then (bX1_wetCases_95 K6 G P Q T x2 x3 x4 x5 x6 y7 x9) else (wJ6_bitCount  x9 (fun (r_4 : Int32) => (wX6_power  (((x5 - (1 : Int32))).toInt64) (x4 - r_4) (fun (r_5 : Int64) => (∀ y7_6 : Int64, y7_6 = (y7 + r_5) → (bX1_wetCases_95 K6 G P Q T x2 x3 x4 x5 x6 y7_6 x9)))))))) else (wX6_hasBit  x9 x10 (fun (r_7 : Int32) => (if r_7 = (0 : Int32) then (bX1_wetCases_51 K6 (fun (T_ : RT) (x2_ : Int32) (x3_ : Int32) (x4_ : Int32) (x5_ : Int32) (x6_ : Int32) (y7_ : Int64) (x9_ : Int32) (x10_ : Int32) => bX1_wetCases_24 K6 G P Q n T_ x2_ x3_ x4_ x5_ x6_ y7_ x9_ x10_) G P Q T x2 x3 x4 x5 x6 y7 x9 x10 (-9 : Int32)) else (bX1_wetCases_51 K6 (fun (T_ : RT) (x2_ : Int32) (x3_ : Int32) (x4_ : Int32) (x5_ : Int32) (x6_ : Int32) (y7_ : Int64) (x9_ : Int32) (x10_ : Int32) => bX1_wetCases_24 K6 G P Q n T_ x2_ x3_ x4_ x5_ x6_ y7_ x9_ x10_) G P Q T x2 x3 x4 x5 x6 y7 x9 x10 x2)))))
def bX1_wetCases_6 (G : RT) (P : RT) (Q : Int64 → RT → Prop) : Nat → RT → Int32 → Int32 → Int32 → Int32 → Int32 → Int64 → Int32 → Prop
  | 0, _, _, _, _, _, _, _, _ => False
  | n + 1, T, x2, x3, x4, x5, x6, y7, x9 => (if ((1 : Int32) <<< (x4 &&& 31)) ≤ x9 then (Q y7 T) else (wX1_begin G T P  (fun (T_2 : RT) => (∃ j : Nat, bX1_wetCases_24 (fun (T_ : RT) (x2_ : Int32) (x3_ : Int32) (x4_ : Int32) (x5_ : Int32) (x6_ : Int32) (y7_ : Int64) (x9_ : Int32) => bX1_wetCases_6 G P Q n T_ x2_ x3_ x4_ x5_ x6_ y7_ x9_) G P Q j T_2 x2 x3 x4 x5 x6 y7 x9 (0 : Int32)))))
def wX1_wetCases (G : RT) (T : RT) (P : RT) (x2 : Int32) (x3 : Int32) (x4 : Int32) (x5 : Int32) (x6 : Int32) (Q : Int64 → RT → Prop) : Prop := (∃ j : Nat, bX1_wetCases_6 G P Q j T x2 x3 x4 x5 x6 (0 : Int64) (0 : Int32))
def bX1_goesAsTold_2 (G : RT) (N : RT) (Q : Int32 → RT → Prop) : Nat → RT → Int32 → Int32 → Prop
  | 0, _, _, _ => False
  | n + 1, T, x1, x3 => (if (N 30 1) ≤ x3 then (Q (1 : Int32) T) else (vp_in x1 8 ∧ (vp_in x3 16 ∧ (if (T 4 (x1).toNatClampNeg) = (N 0 (x3).toNatClampNeg) then (wX3_goHour T (-9 : Int32) (fun (T_5 : RT) => (∀ x3_6 : Int32, x3_6 = (x3 + (1 : Int32)) → (bX1_goesAsTold_2 G N Q n T_5 x1 x3_6)))) else (Q (0 : Int32) T)))))
def wX1_goesAsTold (G : RT) (T : RT) (N : RT) (x1 : Int32) (Q : Int32 → RT → Prop) : Prop := (∃ j : Nat, bX1_goesAsTold_2 G N Q j T x1 (0 : Int32))
def bX1_kindsAsTold_48 (K6 : RT → Int32 → Int32 → Int32 → Prop) (G : RT) (P : RT) (N : RT) (Q : Int32 → RT → Prop) (T : RT) (x2 : Int32) (x4 : Int32) (x5 : Int32) : Prop := (∀ x5_1 : Int32, x5_1 = (x5 + (1 : Int32)) → (K6 T x2 x4 x5_1))
def bX1_kindsAsTold_6 (G : RT) (P : RT) (N : RT) (Q : Int32 → RT → Prop) : Nat → RT → Int32 → Int32 → Int32 → Prop
  | 0, _, _, _, _ => False
  | n + 1, T, x2, x4, x5 => (if (6 : Int32) ≤ x5 then (Q x4 T) else (wX1_begin G T P  (fun (T_2 : RT) => (vp_in x2 8 ∧ (∀ T_4 : RT, T_4 = set2 T_2 0 (x2).toNatClampNeg x5 → (wX1_goesAsTold G T_4 N x2 (fun (r_6 : Int32) (T_5 : RT) => (if r_6 = (0 : Int32) then (bX1_kindsAsTold_48 (fun (T_ : RT) (x2_ : Int32) (x4_ : Int32) (x5_ : Int32) => bX1_kindsAsTold_6 G P N Q n T_ x2_ x4_ x5_) G P N Q T_5 x2 x4 x5) else (∀ x4_8 : Int32, x4_8 = (x4 ||| ((1 : Int32) <<< (x5 &&& 31))) → (bX1_kindsAsTold_48 (fun (T_ : RT) (x2_ : Int32) (x4_ : Int32) (x5_ : Int32) => bX1_kindsAsTold_6 G P N Q n T_ x2_ x4_ x5_) G P N Q T_5 x2 x4_8 x5))))))))))
def wX1_kindsAsTold (G : RT) (T : RT) (P : RT) (N : RT) (x2 : Int32) (Q : Int32 → RT → Prop) : Prop := (∃ j : Nat, bX1_kindsAsTold_6 G P N Q j T x2 (0 : Int32) (0 : Int32))
def bX1_weightsAsTold_42 (K6 : RT → Int32 → Int32 → Int32 → Prop) (G : RT) (P : RT) (N : RT) (Q : Int32 → RT → Prop) (T : RT) (x2 : Int32) (x4 : Int32) (x5 : Int32) : Prop := (∀ x5_1 : Int32, x5_1 = (x5 + (1 : Int32)) → (K6 T x2 x4 x5_1))
def bX1_weightsAsTold_6 (G : RT) (P : RT) (N : RT) (Q : Int32 → RT → Prop) : Nat → RT → Int32 → Int32 → Int32 → Prop
  | 0, _, _, _, _ => False
  | n + 1, T, x2, x4, x5 => (if (60 : Int32) < x5 then (Q x4 T) else (wX1_begin G T P  (fun (T_2 : RT) => (vp_in x2 8 ∧ (∀ T_4 : RT, T_4 = set2 T_2 2 (x2).toNatClampNeg x5 → (wX1_goesAsTold G T_4 N x2 (fun (r_6 : Int32) (T_5 : RT) => (if r_6 = (0 : Int32) then (bX1_weightsAsTold_42 (fun (T_ : RT) (x2_ : Int32) (x4_ : Int32) (x5_ : Int32) => bX1_weightsAsTold_6 G P N Q n T_ x2_ x4_ x5_) G P N Q T_5 x2 x4 x5) else (∀ x4_8 : Int32, x4_8 = (x4 + (1 : Int32)) → (bX1_weightsAsTold_42 (fun (T_ : RT) (x2_ : Int32) (x4_ : Int32) (x5_ : Int32) => bX1_weightsAsTold_6 G P N Q n T_ x2_ x4_ x5_) G P N Q T_5 x2 x4_8 x5))))))))))
def wX1_weightsAsTold (G : RT) (T : RT) (P : RT) (N : RT) (x2 : Int32) (Q : Int32 → RT → Prop) : Prop := (∃ j : Nat, bX1_weightsAsTold_6 G P N Q j T x2 (0 : Int32) (0 : Int32))
def bX1_byLot_110 (K9 : RT → Int32 → Int32 → Int32 → Int32 → Int32 → Prop) (G : RT) (P : RT) (Q : Int32 → RT → Prop) (T : RT) (x2 : Int32) (x4 : Int32) (x5 : Int32) (x7 : Int32) (t0 : Int32) (t1 : Int32) : Prop := (∀ x6_1 : Int32, x6_1 = (t0 + t1) → (∀ x7_2 : Int32, x7_2 = (x7 + (1 : Int32)) → (K9 T x2 x4 x5 x6_1 x7_2)))
def bX1_byLot_24 (K9 : RT → Int32 → Int32 → Int32 → Int32 → Int32 → Prop) (G : RT) (P : RT) (Q : Int32 → RT → Prop) : Nat → RT → Int32 → Int32 → Int32 → Int32 → Int32 → Int32 → Prop
  | 0, _, _, _, _, _, _, _ => False
  | n + 1, T, x2, x4, x5, x6, x7, x8 => (if (T 30 7) ≤ x8 then (wX3_goHours T (10 : Int32) (fun (T_2 : RT) => (if x4 = (0 : Int32) then (wX3_looseRopes T_2  (fun (r_4 : Int32) => (wJ6_bitCount  r_4 (fun (r_5 : Int32) => (bX1_byLot_110 K9 G P Q T_2 x2 x4 x5 x7 x6 r_5))))) else (wX3_allHeights T_2  (fun (r_6 : Int32) => (bX1_byLot_110 K9 G P Q T_2 x2 x4 x5 x7 x6 r_6)))))) else (∀ x5_7 : Int32, x5_7 = ((x5 * (1664525 : Int32)) + (1013904223 : Int32)) → (vp_in x8 8 ∧ (∀ T_9 : RT, T_9 = set2 T 3 (x8).toNatClampNeg (((x5_7 &&& (2147483647 : Int32)) / (256 : Int32)) - ((x5_7 &&& (2147483647 : Int32)) / (256 : Int32)) / (10 : Int32) * (10 : Int32)) → (∀ x8_10 : Int32, x8_10 = (x8 + (1 : Int32)) → (bX1_byLot_24 K9 G P Q n T_9 x2 x4 x5_7 x6 x7 x8_10))))))
def bX1_byLot_9 (G : RT) (P : RT) (Q : Int32 → RT → Prop) : Nat → RT → Int32 → Int32 → Int32 → Int32 → Int32 → Prop
  | 0, _, _, _, _, _, _ => False
  | n + 1, T, x2, x4, x5, x6, x7 => (if x2 ≤ x7 then (Q x6 T) else (wX1_begin G T P  (fun (T_2 : RT) => (∃ j : Nat, bX1_byLot_24 (fun (T_ : RT) (x2_ : Int32) (x4_ : Int32) (x5_ : Int32) (x6_ : Int32) (x7_ : Int32) => bX1_byLot_9 G P Q n T_ x2_ x4_ x5_ x6_ x7_) G P Q j T_2 x2 x4 x5 x6 x7 (0 : Int32)))))
def wX1_byLot (G : RT) (T : RT) (P : RT) (x2 : Int32) (x3 : Int32) (x4 : Int32) (Q : Int32 → RT → Prop) : Prop := (∃ j : Nat, bX1_byLot_9 G P Q j T x2 x4 x3 (0 : Int32) (0 : Int32))
abbrev rmX1_begin : Room := { frames := 2, cells := 0, slots := 0, locals := 39 }
set_option maxHeartbeats 4000000 in
set_option maxRecDepth 100000 in
theorem m_X1_begin (l : Launch) (z : KT) (qG : Nat → Nat) (qP : Nat → Nat) (qT : Nat → Nat) (G : RT) (T : RT) (P : RT) (Q : RT → Prop) (h : wX1_begin G T P Q) : CR l yX1_begin cX1_begin 2 (.object "RopesTieThemselves$Port") rmX1_begin z [.ref (qG 0), .ref (qP 0)] (mW z qG qT G ++ (pW z qT T ++ (pW z qP P))) (fun u : RT => (mW z qG qT G ++ (pW z qT u ++ (pW z qP P)))) (fun (r : Nat) (u : RT) => r = qT 0 ∧ Q u) := by
  refine CR.of rfl (Nat.le_of_ble_eq_true rfl) ?_
  intro p e s m below meth c A ls M hw hl
  have M : Mc p s m _ meth c cX1_begin 2 (some (.object "RopesTieThemselves$Port")) RX1 z A := M
  obtain ⟨hx, hb, -, -, hown, hts, -, -, -, hN, hsr, -⟩ := id M
  have hl : lv_has ls 2 [(0, .ref (qG 0)), (1, .ref (qP 0))] := hl
  unfold wX1_begin at h
  generalize s.heap = H at hw ⊢
  generalize ([] : List Loc) = locs at hw ⊢
  refine lv_aload_n hx hb dX1_begin_0 rfl (lv_at hl 0 rfl) ?_
  refine gt_f (v := .ref (qT 0)) M inlX1 hw 0 rfl rfl 0 (by decide) fl_X1_12 rfl rfl dX1_begin_1 ?_
  refine lv_aload_n hx hb dX1_begin_4 rfl (lv_at hl 1 rfl) ?_
  refine fr_Vv (wN := fun u : RT => (mW z qG qT G ++ (pW z qT u ++ (pW z qP P)))) M (m_X3_copyFrom l z qT qP T P _ h) (cwV 1 hts (gdV cd_X3_copyFrom ml_X1_25 im_X3_copyFrom se_X3_copyFrom in_X3) rfl rfl rfl hdV_X3_copyFrom ⟨(Nat.le_of_ble_eq_true rfl), (Nat.le_of_ble_eq_true rfl)⟩) cut_1 prm_1 0 rfl rfl rfl hw rfl hl.1 rfl (Nat.le_of_ble_eq_true rfl) dX1_begin_5 (fun u_ H locs h hw => ?_)
  obtain ⟨T_1, rfl⟩ : ∃ z9 : RT, z9 = u_ := ⟨_, rfl⟩
  have hw : Hw s z A (mW z qG qT G ++ (pW z qT T_1 ++ (pW z qP P))) H locs := hw
  try dsimp only at h
  refine lv_aload_n hx hb dX1_begin_8 rfl (lv_at hl 0 rfl) ?_
  refine gt_f (v := .ref (qT 0)) M inlX1 hw 0 rfl rfl 0 (by decide) fl_X1_12 rfl rfl dX1_begin_9 ?_
  exact rt_r M T_1 hw ⟨rfl, h⟩ dX1_begin_12
abbrev rmX1_behind : Room := { frames := 3, cells := 0, slots := 0, locals := 71 }
set_option maxHeartbeats 4000000 in
set_option maxRecDepth 100000 in
theorem m_X1_behind (l : Launch) (z : KT) (qG : Nat → Nat) (qP : Nat → Nat) (qT : Nat → Nat) (G : RT) (T : RT) (P : RT) (x2 : Int32) (Q : RT → Prop) (h : wX1_behind G T P x2 Q) : CR l yX1_behind cX1_behind 3 (.object "RopesTieThemselves$Port") rmX1_behind z [.ref (qG 0), .ref (qP 0), .int x2] (mW z qG qT G ++ (pW z qT T ++ (pW z qP P))) (fun u : RT => (mW z qG qT G ++ (pW z qT u ++ (pW z qP P)))) (fun (r : Nat) (u : RT) => r = qT 0 ∧ Q u) := by
  refine CR.of rfl (Nat.le_of_ble_eq_true rfl) ?_
  intro p e s m below meth c A ls M hw hl
  have M : Mc p s m _ meth c cX1_behind 3 (some (.object "RopesTieThemselves$Port")) RX1 z A := M
  obtain ⟨hx, hb, -, -, hown, hts, -, -, -, hN, hsr, -⟩ := id M
  have hl : lv_has ls 3 [(0, .ref (qG 0)), (1, .ref (qP 0)), (2, .int x2)] := hl
  unfold wX1_behind at h
  generalize s.heap = H at hw ⊢
  generalize ([] : List Loc) = locs at hw ⊢
  refine lv_aload_n hx hb dX1_behind_0 rfl (lv_at hl 0 rfl) ?_
  refine gt_f (v := .ref (qT 0)) M inlX1 hw 0 rfl rfl 0 (by decide) fl_X1_12 rfl rfl dX1_behind_1 ?_
  refine lv_aload_n hx hb dX1_behind_4 rfl (lv_at hl 1 rfl) ?_
  refine fr_Vv (wN := fun u : RT => (mW z qG qT G ++ (pW z qT u ++ (pW z qP P)))) M (m_X3_copyFrom l z qT qP T P _ h) (cwV 1 hts (gdV cd_X3_copyFrom ml_X1_25 im_X3_copyFrom se_X3_copyFrom in_X3) rfl rfl rfl hdV_X3_copyFrom ⟨(Nat.le_of_ble_eq_true rfl), (Nat.le_of_ble_eq_true rfl)⟩) cut_1 prm_1 0 rfl rfl rfl hw rfl hl.1 rfl (Nat.le_of_ble_eq_true rfl) dX1_behind_5 (fun u_ H locs h hw => ?_)
  obtain ⟨T_1, rfl⟩ : ∃ z9 : RT, z9 = u_ := ⟨_, rfl⟩
  have hw : Hw s z A (mW z qG qT G ++ (pW z qT T_1 ++ (pW z qP P))) H locs := hw
  try dsimp only at h
  refine lv_aload_n hx hb dX1_behind_8 rfl (lv_at hl 0 rfl) ?_
  refine gt_f (v := .ref (qT 0)) M inlX1 hw 0 rfl rfl 0 (by decide) fl_X1_12 rfl rfl dX1_behind_9 ?_
  refine lv_iload_n hx hb dX1_behind_12 rfl (lv_at hl 2 rfl) ?_
  refine fr_Vv (wN := fun u : RT => (mW z qG qT G ++ (pW z qT u ++ (pW z qP P)))) M (m_X3_goHours l z qT T_1 x2 _ h) (cwV 1 hts (gdV cd_X3_goHours ml_X1_29 im_X3_goHours se_X3_goHours in_X3) rfl rfl rfl hdV_X3_goHours ⟨(Nat.le_of_ble_eq_true rfl), (Nat.le_of_ble_eq_true rfl)⟩) cut_2 prm_2 0 rfl rfl rfl hw rfl hl.1 rfl (Nat.le_of_ble_eq_true rfl) dX1_behind_13 (fun u_ H locs h hw => ?_)
  obtain ⟨T_2, rfl⟩ : ∃ z9 : RT, z9 = u_ := ⟨_, rfl⟩
  have hw : Hw s z A (mW z qG qT G ++ (pW z qT T_2 ++ (pW z qP P))) H locs := hw
  try dsimp only at h
  refine lv_aload_n hx hb dX1_behind_16 rfl (lv_at hl 0 rfl) ?_
  refine gt_f (v := .ref (qT 0)) M inlX1 hw 0 rfl rfl 0 (by decide) fl_X1_12 rfl rfl dX1_behind_17 ?_
  exact rt_r M T_2 hw ⟨rfl, h⟩ dX1_behind_20
abbrev rmX1_whenUp : Room := { frames := 3, cells := 0, slots := 0, locals := 60 }
set_option maxHeartbeats 4000000 in
set_option maxRecDepth 100000 in
theorem kX1_whenUp_9 {p : Program} {l : Launch} {e : Env} {s : State} {m : MethodId} {args : Array Value} {below : List Frame} {meth : Method} {c : Code} {z : KT} {A : Nat → Prop} {qG : Nat → Nat} {qP : Nat → Nat} {qT : Nat → Nat} {G : RT} {P : RT} {Q : Int32 → RT → Prop} (M : Mc p s m args meth c cX1_whenUp 5 (some .int) RX1 z A) : ∀ (n : Nat) (T : RT) (x2 : Int32) (x3 : Int32) (x4 : Int32) (H : Heap) (locs : List Loc) (ls : Array Slot), Hw s z A (mW z qG qT G ++ (pW z qT T ++ (pW z qP P))) H locs → lv_has ls 5 [(0, .ref (qG 0)), (2, .int x2), (3, .int x3), (4, .int x4)] → bX1_whenUp_9 G P Q n T x2 x3 x4 → W p l e rmX1_whenUp s m args below meth c H locs 0 0 (MQ below (va_Qi (fun (r : Int32) (u : RT) => Q r u) (fun u t => cAt z A ((fun u : RT => (mW z qG qT G ++ (pW z qT u ++ (pW z qP P)))) u) t) A) args s 0 0 A) (F0 m 9 ls []) := by
  obtain ⟨hx, hb, -, -, hown, hts, -, -, -, hN, hsr, -⟩ := id M
  intro n
  induction n with
  | zero => intro T x2 x3 x4 H locs ls hw hl h; exact False.elim h
  | succ n ih =>
    intro T x2 x3 x4 H locs ls hw hl h
    rw [bX1_whenUp_9] at h
    refine lv_iload hx hb dX1_whenUp_9 (lv_at hl 3 rfl) ?_
    refine lv_bipush (v := 99) hx hb dX1_whenUp_11 (by decide) ?_
    refine lv_icmp_gt (tgt := 47) hx hb dX1_whenUp_13 (by decide) (fun c_1 => ?_) (fun c_1 => ?_)
    · replace h := iT c_1 h
      refine lv_bipush (v := -9) hx hb dX1_whenUp_47 (by decide) ?_
      exact rt_i M T hw h dX1_whenUp_49
    · replace h := iF c_1 h
      refine lv_aload_n hx hb dX1_whenUp_16 rfl (lv_at hl 0 rfl) ?_
      refine gt_f (v := .ref (qT 0)) M inlX1 hw 0 rfl rfl 0 (by decide) fl_X1_12 rfl rfl dX1_whenUp_17 ?_
      refine gt_f (v := .ref (qT 5)) M inlX3 hw 3 rfl rfl 4 (by decide) fl_X1_37 rfl rfl dX1_whenUp_20 ?_
      refine lv_iload_n hx hb dX1_whenUp_23 rfl (lv_at hl 1 rfl) ?_
      obtain ⟨a_2, h⟩ := h
      refine ld_i M hw 8 rfl a_2 dX1_whenUp_24 ?_
      refine lv_iload_n hx hb dX1_whenUp_25 rfl (lv_at hl 2 rfl) ?_
      refine lv_icmp_lt (tgt := 32) hx hb dX1_whenUp_26 (by decide) (fun c_3 => ?_) (fun c_3 => ?_)
      · replace h := iT c_3 h
        refine lv_aload_n hx hb dX1_whenUp_32 rfl (lv_at hl 0 rfl) ?_
        refine gt_f (v := .ref (qT 0)) M inlX1 hw 0 rfl rfl 0 (by decide) fl_X1_12 rfl rfl dX1_whenUp_33 ?_
        refine lv_bipush (v := -9) hx hb dX1_whenUp_36 (by decide) ?_
        refine fr_Vv (wN := fun u : RT => (mW z qG qT G ++ (pW z qT u ++ (pW z qP P)))) M (m_X3_goHour l z qT T (-9 : Int32) _ h) (cwV 1 hts (gdV cd_X3_goHour ml_X1_40 im_X3_goHour se_X3_goHour in_X3) rfl rfl rfl hdV_X3_goHour ⟨(Nat.le_of_ble_eq_true rfl), (Nat.le_of_ble_eq_true rfl)⟩) cut_2 prm_2 0 rfl rfl rfl hw rfl hl.1 rfl (Nat.le_of_ble_eq_true rfl) dX1_whenUp_38 (fun u_ H locs h hw => ?_)
        obtain ⟨T_4, rfl⟩ : ∃ z9 : RT, z9 = u_ := ⟨_, rfl⟩
        have hw : Hw s z A (mW z qG qT G ++ (pW z qT T_4 ++ (pW z qP P))) H locs := hw
        try dsimp only at h
        obtain ⟨x4_5, ex4_5⟩ : ∃ y : Int32, y = (x4 + (1 : Int32)) := ⟨_, rfl⟩
        replace h := h x4_5 ex4_5
        refine lv_iinc (v := x4_5) (lv' := [(4, .int x4_5), (0, .ref (qG 0)), (2, .int x2), (3, .int x3)]) hx hb dX1_whenUp_41 hl (k := 3) rfl (by rw [ex4_5]; rfl) (by decide) rfl (fun ls hl => ?_)
        refine lv_goto (tgt := 9) hx hb dX1_whenUp_44 (by decide) ?_
        exact ih T_4 x2 x3 x4_5 H locs ls hw (lv_sub hl [1, 2, 3, 0] rfl) h
      · replace h := iF c_3 h
        refine lv_iload hx hb dX1_whenUp_29 (lv_at hl 3 rfl) ?_
        exact rt_i M T hw h dX1_whenUp_31
set_option maxHeartbeats 4000000 in
set_option maxRecDepth 100000 in
theorem m_X1_whenUp (l : Launch) (z : KT) (qG : Nat → Nat) (qP : Nat → Nat) (qT : Nat → Nat) (G : RT) (T : RT) (P : RT) (x2 : Int32) (x3 : Int32) (Q : Int32 → RT → Prop) (h : wX1_whenUp G T P x2 x3 Q) : CI l yX1_whenUp cX1_whenUp 5 .int rmX1_whenUp z [.ref (qG 0), .ref (qP 0), .int x2, .int x3] (mW z qG qT G ++ (pW z qT T ++ (pW z qP P))) (fun u : RT => (mW z qG qT G ++ (pW z qT u ++ (pW z qP P)))) (fun (r : Int32) (u : RT) => Q r u) := by
  refine CI.of rfl (Nat.le_of_ble_eq_true rfl) ?_
  intro p e s m below meth c A ls M hw hl
  have M : Mc p s m _ meth c cX1_whenUp 5 (some .int) RX1 z A := M
  obtain ⟨hx, hb, -, -, hown, hts, -, -, -, hN, hsr, -⟩ := id M
  have hl : lv_has ls 5 [(0, .ref (qG 0)), (1, .ref (qP 0)), (2, .int x2), (3, .int x3)] := hl
  unfold wX1_whenUp at h
  generalize s.heap = H at hw ⊢
  generalize ([] : List Loc) = locs at hw ⊢
  refine lv_aload_n hx hb dX1_whenUp_0 rfl (lv_at hl 0 rfl) ?_
  refine lv_aload_n hx hb dX1_whenUp_1 rfl (lv_at hl 1 rfl) ?_
  refine fr_Vr (wN := fun u : RT => (mW z qG qT G ++ (pW z qT u ++ (pW z qP P)))) M (m_X1_begin l z qG qP qT G T P _ h) (cwV 1 hts (gdV cd_X1_begin ml_X1_33 im_X1_begin se_X1_begin in_X1) rfl rfl rfl hdV_X1_begin ⟨(Nat.le_of_ble_eq_true rfl), (Nat.le_of_ble_eq_true rfl)⟩) (Cut.self _) (Prm.self _ 19 (fun _ => rfl)) 0 rfl rfl rfl hw rfl hl.1 rfl (Nat.le_of_ble_eq_true rfl) dX1_whenUp_2 (fun ra_ u_ H locs h hw => ?_)
  obtain ⟨T_1, rfl⟩ : ∃ z9 : RT, z9 = u_ := ⟨_, rfl⟩
  obtain ⟨rfl, h⟩ := h
  have hw : Hw s z A (mW z qG qT G ++ (pW z qT T_1 ++ (pW z qP P))) H locs := hw
  try dsimp only at h
  refine lv_pop hx hb dX1_whenUp_5 rfl ?_
  refine lv_iconst (v := 0) hx hb dX1_whenUp_6 (by decide) ?_
  refine lv_istore (lv' := [(4, .int (0 : Int32)), (0, .ref (qG 0)), (1, .ref (qP 0)), (2, .int x2), (3, .int x3)]) hx hb dX1_whenUp_7 hl (by decide) rfl (fun ls hl => ?_)
  obtain ⟨n0, h⟩ := h; exact kX1_whenUp_9 M n0 T_1 x2 x3 (0 : Int32) H locs ls hw (lv_sub hl [1, 3, 4, 0] rfl) h
abbrev rmX1_leastAtTop : Room := { frames := 0, cells := 0, slots := 0, locals := 0 }
set_option maxHeartbeats 4000000 in
set_option maxRecDepth 100000 in
theorem kX1_leastAtTop_2 {p : Program} {l : Launch} {e : Env} {s : State} {m : MethodId} {args : Array Value} {below : List Frame} {meth : Method} {c : Code} {z : KT} {A : Nat → Prop} {qG : Nat → Nat} {qT : Nat → Nat} {G : RT} {T : RT} {Q : Int32 → Prop} (M : Mc p s m args meth c cX1_leastAtTop 2 (some .int) RX1 z A) : ∀ (n : Nat) (x1 : Int32) (H : Heap) (locs : List Loc) (ls : Array Slot), Hw s z A (mW z qG qT G ++ (pW z qT T)) H locs → lv_has ls 2 [(0, .ref (qG 0)), (1, .int x1)] → bX1_leastAtTop_2 G T Q n x1 → W p l e rmX1_leastAtTop s m args below meth c H locs 0 0 (MQ below (va_Qi (fun (r : Int32) (_ : Unit) => Q r) (fun u t => cAt z A ((fun _ : Unit => (mW z qG qT G ++ (pW z qT T))) u) t) A) args s 0 0 A) (F0 m 2 ls []) := by
  obtain ⟨hx, hb, -, -, hown, hts, -, -, -, hN, hsr, -⟩ := id M
  intro n
  induction n with
  | zero => intro x1 H locs ls hw hl h; exact False.elim h
  | succ n ih =>
    intro x1 H locs ls hw hl h
    rw [bX1_leastAtTop_2] at h
    refine lv_iload_n hx hb dX1_leastAtTop_2 rfl (lv_at hl 1 rfl) ?_
    refine lv_aload_n hx hb dX1_leastAtTop_3 rfl (lv_at hl 0 rfl) ?_
    refine gt_f (v := .ref (qT 0)) M inlX1 hw 0 rfl rfl 0 (by decide) fl_X1_12 rfl rfl dX1_leastAtTop_4 ?_
    refine gt_f (v := .int (T 30 7)) M inlX3 hw 3 rfl rfl 7 (by decide) fl_X1_51 rfl rfl dX1_leastAtTop_7 ?_
    refine lv_icmp_ge (tgt := 35) hx hb dX1_leastAtTop_10 (by decide) (fun c_1 => ?_) (fun c_1 => ?_)
    · replace h := iT c_1 h
      refine lv_bipush (v := -9) hx hb dX1_leastAtTop_35 (by decide) ?_
      exact rt_i M () hw h dX1_leastAtTop_37
    · replace h := iF c_1 h
      refine lv_aload_n hx hb dX1_leastAtTop_13 rfl (lv_at hl 0 rfl) ?_
      refine gt_f (v := .ref (qT 0)) M inlX1 hw 0 rfl rfl 0 (by decide) fl_X1_12 rfl rfl dX1_leastAtTop_14 ?_
      refine gt_f (v := .ref (qT 5)) M inlX3 hw 3 rfl rfl 4 (by decide) fl_X1_37 rfl rfl dX1_leastAtTop_17 ?_
      refine lv_iload_n hx hb dX1_leastAtTop_20 rfl (lv_at hl 1 rfl) ?_
      obtain ⟨a_2, h⟩ := h
      refine ld_i M hw 8 rfl a_2 dX1_leastAtTop_21 ?_
      refine lv_bipush (v := 20) hx hb dX1_leastAtTop_22 (by decide) ?_
      refine lv_icmp_ne (tgt := 29) hx hb dX1_leastAtTop_24 (by decide) (fun c_3 => ?_) (fun c_3 => ?_)
      · replace h := iF c_3 h
        obtain ⟨x1_4, ex1_4⟩ : ∃ y : Int32, y = (x1 + (1 : Int32)) := ⟨_, rfl⟩
        replace h := h x1_4 ex1_4
        refine lv_iinc (v := x1_4) (lv' := [(1, .int x1_4), (0, .ref (qG 0))]) hx hb dX1_leastAtTop_29 hl (k := 1) rfl (by rw [ex1_4]; rfl) (by decide) rfl (fun ls hl => ?_)
        refine lv_goto (tgt := 2) hx hb dX1_leastAtTop_32 (by decide) ?_
        exact ih x1_4 H locs ls hw (lv_sub hl [1, 0] rfl) h
      · replace h := iT c_3 h
        refine lv_iload_n hx hb dX1_leastAtTop_27 rfl (lv_at hl 1 rfl) ?_
        exact rt_i M () hw h dX1_leastAtTop_28
set_option maxHeartbeats 4000000 in
set_option maxRecDepth 100000 in
theorem m_X1_leastAtTop (l : Launch) (z : KT) (qG : Nat → Nat) (qT : Nat → Nat) (G : RT) (T : RT) (Q : Int32 → Prop) (h : wX1_leastAtTop G T Q) : CI l yX1_leastAtTop cX1_leastAtTop 2 .int rmX1_leastAtTop z [.ref (qG 0)] (mW z qG qT G ++ (pW z qT T)) (fun _ : Unit => (mW z qG qT G ++ (pW z qT T))) (fun (r : Int32) (_ : Unit) => Q r) := by
  refine CI.of rfl (Nat.le_of_ble_eq_true rfl) ?_
  intro p e s m below meth c A ls M hw hl
  have M : Mc p s m _ meth c cX1_leastAtTop 2 (some .int) RX1 z A := M
  obtain ⟨hx, hb, -, -, hown, hts, -, -, -, hN, hsr, -⟩ := id M
  have hl : lv_has ls 2 [(0, .ref (qG 0))] := hl
  unfold wX1_leastAtTop at h
  generalize s.heap = H at hw ⊢
  generalize ([] : List Loc) = locs at hw ⊢
  refine lv_iconst (v := 0) hx hb dX1_leastAtTop_0 (by decide) ?_
  refine lv_istore_n (lv' := [(1, .int (0 : Int32)), (0, .ref (qG 0))]) hx hb dX1_leastAtTop_1 rfl hl (by decide) rfl (fun ls hl => ?_)
  obtain ⟨n0, h⟩ := h; exact kX1_leastAtTop_2 M n0 (0 : Int32) H locs ls hw (lv_sub hl [1, 0] rfl) h
abbrev rmX1_whenFirst : Room := { frames := 3, cells := 0, slots := 0, locals := 60 }
set_option maxHeartbeats 4000000 in
set_option maxRecDepth 100000 in
theorem kX1_whenFirst_8 {p : Program} {l : Launch} {e : Env} {s : State} {m : MethodId} {args : Array Value} {below : List Frame} {meth : Method} {c : Code} {z : KT} {A : Nat → Prop} {qG : Nat → Nat} {qP : Nat → Nat} {qT : Nat → Nat} {G : RT} {P : RT} {Q : Int32 → RT → Prop} (M : Mc p s m args meth c cX1_whenFirst 3 (some .int) RX1 z A) : ∀ (n : Nat) (T : RT) (x2 : Int32) (H : Heap) (locs : List Loc) (ls : Array Slot), Hw s z A (mW z qG qT G ++ (pW z qT T ++ (pW z qP P))) H locs → lv_has ls 3 [(0, .ref (qG 0)), (2, .int x2)] → bX1_whenFirst_8 G P Q n T x2 → W p l e rmX1_whenFirst s m args below meth c H locs 0 0 (MQ below (va_Qi (fun (r : Int32) (u : RT) => Q r u) (fun u t => cAt z A ((fun u : RT => (mW z qG qT G ++ (pW z qT u ++ (pW z qP P)))) u) t) A) args s 0 0 A) (F0 m 8 ls []) := by
  obtain ⟨hx, hb, -, -, hown, hts, -, -, -, hN, hsr, -⟩ := id M
  intro n
  induction n with
  | zero => intro T x2 H locs ls hw hl h; exact False.elim h
  | succ n ih =>
    intro T x2 H locs ls hw hl h
    rw [bX1_whenFirst_8] at h
    refine lv_iload_n hx hb dX1_whenFirst_8 rfl (lv_at hl 1 rfl) ?_
    refine lv_bipush (v := 99) hx hb dX1_whenFirst_9 (by decide) ?_
    refine lv_icmp_gt (tgt := 40) hx hb dX1_whenFirst_11 (by decide) (fun c_1 => ?_) (fun c_1 => ?_)
    · replace h := iT c_1 h
      refine lv_bipush (v := -9) hx hb dX1_whenFirst_40 (by decide) ?_
      exact rt_i M T hw h dX1_whenFirst_42
    · replace h := iF c_1 h
      refine lv_aload_n hx hb dX1_whenFirst_14 rfl (lv_at hl 0 rfl) ?_
      refine fr_Vi (wN := fun _ : Unit => (mW z qG qT G ++ (pW z qT T ++ (pW z qP P)))) M (m_X1_leastAtTop l z qG qT G T _ h) (cwV 0 hts (gdV cd_X1_leastAtTop ml_X1_47 im_X1_leastAtTop se_X1_leastAtTop in_X1) rfl rfl rfl hdV_X1_leastAtTop ⟨(Nat.le_of_ble_eq_true rfl), (Nat.le_of_ble_eq_true rfl)⟩) cut_3 prm_3 0 rfl rfl rfl hw rfl hl.1 rfl (Nat.le_of_ble_eq_true rfl) dX1_whenFirst_15 (fun r_2 u_ H locs h hw => ?_)
      have hw : Hw s z A (mW z qG qT G ++ (pW z qT T ++ (pW z qP P))) H locs := hw
      try dsimp only at h
      refine lv_bipush (v := -9) hx hb dX1_whenFirst_18 (by decide) ?_
      refine lv_icmp_eq (tgt := 25) hx hb dX1_whenFirst_20 (by decide) (fun c_3 => ?_) (fun c_3 => ?_)
      · replace h := iT c_3 h
        refine lv_aload_n hx hb dX1_whenFirst_25 rfl (lv_at hl 0 rfl) ?_
        refine gt_f (v := .ref (qT 0)) M inlX1 hw 0 rfl rfl 0 (by decide) fl_X1_12 rfl rfl dX1_whenFirst_26 ?_
        refine lv_bipush (v := -9) hx hb dX1_whenFirst_29 (by decide) ?_
        refine fr_Vv (wN := fun u : RT => (mW z qG qT G ++ (pW z qT u ++ (pW z qP P)))) M (m_X3_goHour l z qT T (-9 : Int32) _ h) (cwV 1 hts (gdV cd_X3_goHour ml_X1_40 im_X3_goHour se_X3_goHour in_X3) rfl rfl rfl hdV_X3_goHour ⟨(Nat.le_of_ble_eq_true rfl), (Nat.le_of_ble_eq_true rfl)⟩) cut_2 prm_2 0 rfl rfl rfl hw rfl hl.1 rfl (Nat.le_of_ble_eq_true rfl) dX1_whenFirst_31 (fun u_ H locs h hw => ?_)
        obtain ⟨T_4, rfl⟩ : ∃ z9 : RT, z9 = u_ := ⟨_, rfl⟩
        have hw : Hw s z A (mW z qG qT G ++ (pW z qT T_4 ++ (pW z qP P))) H locs := hw
        try dsimp only at h
        obtain ⟨x2_5, ex2_5⟩ : ∃ y : Int32, y = (x2 + (1 : Int32)) := ⟨_, rfl⟩
        replace h := h x2_5 ex2_5
        refine lv_iinc (v := x2_5) (lv' := [(2, .int x2_5), (0, .ref (qG 0))]) hx hb dX1_whenFirst_34 hl (k := 1) rfl (by rw [ex2_5]; rfl) (by decide) rfl (fun ls hl => ?_)
        refine lv_goto (tgt := 8) hx hb dX1_whenFirst_37 (by decide) ?_
        exact ih T_4 x2_5 H locs ls hw (lv_sub hl [1, 0] rfl) h
      · replace h := iF c_3 h
        refine lv_iload_n hx hb dX1_whenFirst_23 rfl (lv_at hl 1 rfl) ?_
        exact rt_i M T hw h dX1_whenFirst_24
set_option maxHeartbeats 4000000 in
set_option maxRecDepth 100000 in
theorem m_X1_whenFirst (l : Launch) (z : KT) (qG : Nat → Nat) (qP : Nat → Nat) (qT : Nat → Nat) (G : RT) (T : RT) (P : RT) (Q : Int32 → RT → Prop) (h : wX1_whenFirst G T P Q) : CI l yX1_whenFirst cX1_whenFirst 3 .int rmX1_whenFirst z [.ref (qG 0), .ref (qP 0)] (mW z qG qT G ++ (pW z qT T ++ (pW z qP P))) (fun u : RT => (mW z qG qT G ++ (pW z qT u ++ (pW z qP P)))) (fun (r : Int32) (u : RT) => Q r u) := by
  refine CI.of rfl (Nat.le_of_ble_eq_true rfl) ?_
  intro p e s m below meth c A ls M hw hl
  have M : Mc p s m _ meth c cX1_whenFirst 3 (some .int) RX1 z A := M
  obtain ⟨hx, hb, -, -, hown, hts, -, -, -, hN, hsr, -⟩ := id M
  have hl : lv_has ls 3 [(0, .ref (qG 0)), (1, .ref (qP 0))] := hl
  unfold wX1_whenFirst at h
  generalize s.heap = H at hw ⊢
  generalize ([] : List Loc) = locs at hw ⊢
  refine lv_aload_n hx hb dX1_whenFirst_0 rfl (lv_at hl 0 rfl) ?_
  refine lv_aload_n hx hb dX1_whenFirst_1 rfl (lv_at hl 1 rfl) ?_
  refine fr_Vr (wN := fun u : RT => (mW z qG qT G ++ (pW z qT u ++ (pW z qP P)))) M (m_X1_begin l z qG qP qT G T P _ h) (cwV 1 hts (gdV cd_X1_begin ml_X1_33 im_X1_begin se_X1_begin in_X1) rfl rfl rfl hdV_X1_begin ⟨(Nat.le_of_ble_eq_true rfl), (Nat.le_of_ble_eq_true rfl)⟩) (Cut.self _) (Prm.self _ 19 (fun _ => rfl)) 0 rfl rfl rfl hw rfl hl.1 rfl (Nat.le_of_ble_eq_true rfl) dX1_whenFirst_2 (fun ra_ u_ H locs h hw => ?_)
  obtain ⟨T_1, rfl⟩ : ∃ z9 : RT, z9 = u_ := ⟨_, rfl⟩
  obtain ⟨rfl, h⟩ := h
  have hw : Hw s z A (mW z qG qT G ++ (pW z qT T_1 ++ (pW z qP P))) H locs := hw
  try dsimp only at h
  refine lv_pop hx hb dX1_whenFirst_5 rfl ?_
  refine lv_iconst (v := 0) hx hb dX1_whenFirst_6 (by decide) ?_
  refine lv_istore_n (lv' := [(2, .int (0 : Int32)), (0, .ref (qG 0)), (1, .ref (qP 0))]) hx hb dX1_whenFirst_7 rfl hl (by decide) rfl (fun ls hl => ?_)
  obtain ⟨n0, h⟩ := h; exact kX1_whenFirst_8 M n0 T_1 (0 : Int32) H locs ls hw (lv_sub hl [1, 0] rfl) h
abbrev rmX1_whoFirst : Room := { frames := 4, cells := 0, slots := 0, locals := 82 }
set_option maxHeartbeats 4000000 in
set_option maxRecDepth 100000 in
theorem m_X1_whoFirst (l : Launch) (z : KT) (qG : Nat → Nat) (qP : Nat → Nat) (qT : Nat → Nat) (G : RT) (T : RT) (P : RT) (Q : Int32 → RT → Prop) (h : wX1_whoFirst G T P Q) : CI l yX1_whoFirst cX1_whoFirst 2 .int rmX1_whoFirst z [.ref (qG 0), .ref (qP 0)] (mW z qG qT G ++ (pW z qT T ++ (pW z qP P))) (fun u : RT => (mW z qG qT G ++ (pW z qT u ++ (pW z qP P)))) (fun (r : Int32) (u : RT) => Q r u) := by
  refine CI.of rfl (Nat.le_of_ble_eq_true rfl) ?_
  intro p e s m below meth c A ls M hw hl
  have M : Mc p s m _ meth c cX1_whoFirst 2 (some .int) RX1 z A := M
  obtain ⟨hx, hb, -, -, hown, hts, -, -, -, hN, hsr, -⟩ := id M
  have hl : lv_has ls 2 [(0, .ref (qG 0)), (1, .ref (qP 0))] := hl
  unfold wX1_whoFirst at h
  generalize s.heap = H at hw ⊢
  generalize ([] : List Loc) = locs at hw ⊢
  refine lv_aload_n hx hb dX1_whoFirst_0 rfl (lv_at hl 0 rfl) ?_
  refine lv_aload_n hx hb dX1_whoFirst_1 rfl (lv_at hl 1 rfl) ?_
  refine fr_Vi (wN := fun u : RT => (mW z qG qT G ++ (pW z qT u ++ (pW z qP P)))) M (m_X1_whenFirst l z qG qP qT G T P _ h) (cwV 1 hts (gdV cd_X1_whenFirst ml_X1_43 im_X1_whenFirst se_X1_whenFirst in_X1) rfl rfl rfl hdV_X1_whenFirst ⟨(Nat.le_of_ble_eq_true rfl), (Nat.le_of_ble_eq_true rfl)⟩) (Cut.self _) (Prm.self _ 19 (fun _ => rfl)) 0 rfl rfl rfl hw rfl hl.1 rfl (Nat.le_of_ble_eq_true rfl) dX1_whoFirst_2 (fun r_2 u_ H locs h hw => ?_)
  obtain ⟨T_1, rfl⟩ : ∃ z9 : RT, z9 = u_ := ⟨_, rfl⟩
  have hw : Hw s z A (mW z qG qT G ++ (pW z qT T_1 ++ (pW z qP P))) H locs := hw
  try dsimp only at h
  refine lv_bipush (v := -9) hx hb dX1_whoFirst_5 (by decide) ?_
  refine lv_icmp_ne (tgt := 15) hx hb dX1_whoFirst_7 (by decide) (fun c_3 => ?_) (fun c_3 => ?_)
  · replace h := iF c_3 h
    refine lv_aload_n hx hb dX1_whoFirst_15 rfl (lv_at hl 0 rfl) ?_
    refine fr_Vi (wN := fun _ : Unit => (mW z qG qT G ++ (pW z qT T_1 ++ (pW z qP P)))) M (m_X1_leastAtTop l z qG qT G T_1 _ h) (cwV 0 hts (gdV cd_X1_leastAtTop ml_X1_47 im_X1_leastAtTop se_X1_leastAtTop in_X1) rfl rfl rfl hdV_X1_leastAtTop ⟨(Nat.le_of_ble_eq_true rfl), (Nat.le_of_ble_eq_true rfl)⟩) cut_3 prm_3 0 rfl rfl rfl hw rfl hl.1 rfl (Nat.le_of_ble_eq_true rfl) dX1_whoFirst_16 (fun r_4 u_ H locs h hw => ?_)
    have hw : Hw s z A (mW z qG qT G ++ (pW z qT T_1 ++ (pW z qP P))) H locs := hw
    try dsimp only at h
    exact rt_i M T_1 hw h dX1_whoFirst_19
  · replace h := iT c_3 h
    refine lv_bipush (v := -9) hx hb dX1_whoFirst_10 (by decide) ?_
    refine lv_goto (tgt := 19) hx hb dX1_whoFirst_12 (by decide) ?_
    exact rt_i M T_1 hw h dX1_whoFirst_19
abbrev rmX1_isAsBefore : Room := { frames := 0, cells := 0, slots := 0, locals := 0 }
set_option maxHeartbeats 4000000 in
set_option maxRecDepth 100000 in
theorem kX1_isAsBefore_2 {p : Program} {l : Launch} {e : Env} {s : State} {m : MethodId} {args : Array Value} {below : List Frame} {meth : Method} {c : Code} {z : KT} {A : Nat → Prop} {qG : Nat → Nat} {qT : Nat → Nat} {G : RT} {T : RT} {Q : Int32 → Prop} (M : Mc p s m args meth c cX1_isAsBefore 2 (some .boolean) RX1 z A) : ∀ (n : Nat) (x1 : Int32) (H : Heap) (locs : List Loc) (ls : Array Slot), Hw s z A (mW z qG qT G ++ (pW z qT T)) H locs → lv_has ls 2 [(0, .ref (qG 0)), (1, .int x1)] → bX1_isAsBefore_2 G T Q n x1 → W p l e rmX1_isAsBefore s m args below meth c H locs 0 0 (MQ below (va_Qi (fun (r : Int32) (_ : Unit) => Q r) (fun u t => cAt z A ((fun _ : Unit => (mW z qG qT G ++ (pW z qT T))) u) t) A) args s 0 0 A) (F0 m 2 ls []) := by
  obtain ⟨hx, hb, -, -, hown, hts, -, -, -, hN, hsr, -⟩ := id M
  intro n
  induction n with
  | zero => intro x1 H locs ls hw hl h; exact False.elim h
  | succ n ih =>
    intro x1 H locs ls hw hl h
    rw [bX1_isAsBefore_2] at h
    refine lv_iload_n hx hb dX1_isAsBefore_2 rfl (lv_at hl 1 rfl) ?_
    refine lv_aload_n hx hb dX1_isAsBefore_3 rfl (lv_at hl 0 rfl) ?_
    refine gt_f (v := .ref (qT 0)) M inlX1 hw 0 rfl rfl 0 (by decide) fl_X1_12 rfl rfl dX1_isAsBefore_4 ?_
    refine gt_f (v := .int (T 30 7)) M inlX3 hw 3 rfl rfl 7 (by decide) fl_X1_51 rfl rfl dX1_isAsBefore_7 ?_
    refine lv_icmp_ge (tgt := 39) hx hb dX1_isAsBefore_10 (by decide) (fun c_1 => ?_) (fun c_1 => ?_)
    · replace h := iT c_1 h
      refine lv_iconst (v := 1) hx hb dX1_isAsBefore_39 (by decide) ?_
      exact rt_z M () hw bz1 h dX1_isAsBefore_40
    · replace h := iF c_1 h
      refine lv_aload_n hx hb dX1_isAsBefore_13 rfl (lv_at hl 0 rfl) ?_
      refine gt_f (v := .ref (qT 0)) M inlX1 hw 0 rfl rfl 0 (by decide) fl_X1_12 rfl rfl dX1_isAsBefore_14 ?_
      refine gt_f (v := .ref (qT 5)) M inlX3 hw 3 rfl rfl 4 (by decide) fl_X1_37 rfl rfl dX1_isAsBefore_17 ?_
      refine lv_iload_n hx hb dX1_isAsBefore_20 rfl (lv_at hl 1 rfl) ?_
      obtain ⟨a_2, h⟩ := h
      refine ld_i M hw 8 rfl a_2 dX1_isAsBefore_21 ?_
      refine lv_aload_n hx hb dX1_isAsBefore_22 rfl (lv_at hl 0 rfl) ?_
      refine gt_f (v := .ref (qG 2)) M inlX1 hw 0 rfl rfl 1 (by decide) fl_X1_18 rfl rfl dX1_isAsBefore_23 ?_
      refine lv_iload_n hx hb dX1_isAsBefore_26 rfl (lv_at hl 1 rfl) ?_
      refine ld_i M hw 1 rfl a_2 dX1_isAsBefore_27 ?_
      refine lv_icmp_eq (tgt := 33) hx hb dX1_isAsBefore_28 (by decide) (fun c_3 => ?_) (fun c_3 => ?_)
      · replace h := iT c_3 h
        obtain ⟨x1_4, ex1_4⟩ : ∃ y : Int32, y = (x1 + (1 : Int32)) := ⟨_, rfl⟩
        replace h := h x1_4 ex1_4
        refine lv_iinc (v := x1_4) (lv' := [(1, .int x1_4), (0, .ref (qG 0))]) hx hb dX1_isAsBefore_33 hl (k := 1) rfl (by rw [ex1_4]; rfl) (by decide) rfl (fun ls hl => ?_)
        refine lv_goto (tgt := 2) hx hb dX1_isAsBefore_36 (by decide) ?_
        exact ih x1_4 H locs ls hw (lv_sub hl [1, 0] rfl) h
      · replace h := iF c_3 h
        refine lv_iconst (v := 0) hx hb dX1_isAsBefore_31 (by decide) ?_
        exact rt_z M () hw bz0 h dX1_isAsBefore_32
set_option maxHeartbeats 4000000 in
set_option maxRecDepth 100000 in
theorem m_X1_isAsBefore (l : Launch) (z : KT) (qG : Nat → Nat) (qT : Nat → Nat) (G : RT) (T : RT) (Q : Int32 → Prop) (h : wX1_isAsBefore G T Q) : CI l yX1_isAsBefore cX1_isAsBefore 2 .boolean rmX1_isAsBefore z [.ref (qG 0)] (mW z qG qT G ++ (pW z qT T)) (fun _ : Unit => (mW z qG qT G ++ (pW z qT T))) (fun (r : Int32) (_ : Unit) => Q r) := by
  refine CI.of rfl (Nat.le_of_ble_eq_true rfl) ?_
  intro p e s m below meth c A ls M hw hl
  have M : Mc p s m _ meth c cX1_isAsBefore 2 (some .boolean) RX1 z A := M
  obtain ⟨hx, hb, -, -, hown, hts, -, -, -, hN, hsr, -⟩ := id M
  have hl : lv_has ls 2 [(0, .ref (qG 0))] := hl
  unfold wX1_isAsBefore at h
  generalize s.heap = H at hw ⊢
  generalize ([] : List Loc) = locs at hw ⊢
  refine lv_iconst (v := 0) hx hb dX1_isAsBefore_0 (by decide) ?_
  refine lv_istore_n (lv' := [(1, .int (0 : Int32)), (0, .ref (qG 0))]) hx hb dX1_isAsBefore_1 rfl hl (by decide) rfl (fun ls hl => ?_)
  obtain ⟨n0, h⟩ := h; exact kX1_isAsBefore_2 M n0 (0 : Int32) H locs ls hw (lv_sub hl [1, 0] rfl) h
abbrev rmX1_whenRest : Room := { frames := 3, cells := 0, slots := 0, locals := 60 }
set_option maxHeartbeats 4000000 in
set_option maxRecDepth 100000 in
theorem kX1_whenRest_8 {p : Program} {l : Launch} {e : Env} {s : State} {m : MethodId} {args : Array Value} {below : List Frame} {meth : Method} {c : Code} {z : KT} {A : Nat → Prop} {qG : Nat → Nat} {qP : Nat → Nat} {qT : Nat → Nat} {P : RT} {Q : Int32 → RT → RT → Prop} (M : Mc p s m args meth c cX1_whenRest 3 (some .int) RX1 z A) : ∀ (n : Nat) (G : RT) (T : RT) (x2 : Int32) (H : Heap) (locs : List Loc) (ls : Array Slot), Hw s z A (mW z qG qT G ++ (pW z qT T ++ (pW z qP P))) H locs → lv_has ls 3 [(0, .ref (qG 0)), (2, .int x2)] → bX1_whenRest_8 P Q n G T x2 → W p l e rmX1_whenRest s m args below meth c H locs 0 0 (MQ below (va_Qi (fun (r : Int32) (u : RT × RT) => Q r u.1 u.2) (fun u t => cAt z A ((fun u : RT × RT => (mW z qG qT u.1 ++ (pW z qT u.2 ++ (pW z qP P)))) u) t) A) args s 0 0 A) (F0 m 8 ls []) := by
  obtain ⟨hx, hb, -, -, hown, hts, -, -, -, hN, hsr, -⟩ := id M
  intro n
  induction n with
  | zero => intro G T x2 H locs ls hw hl h; exact False.elim h
  | succ n ih =>
    intro G T x2 H locs ls hw hl h
    rw [bX1_whenRest_8] at h
    refine lv_iload_n hx hb dX1_whenRest_8 rfl (lv_at hl 1 rfl) ?_
    refine lv_bipush (v := 99) hx hb dX1_whenRest_9 (by decide) ?_
    refine lv_icmp_gt (tgt := 61) hx hb dX1_whenRest_11 (by decide) (fun c_1 => ?_) (fun c_1 => ?_)
    · replace h := iT c_1 h
      refine lv_bipush (v := -9) hx hb dX1_whenRest_61 (by decide) ?_
      exact rt_i M (G, T) hw h dX1_whenRest_63
    · replace h := iF c_1 h
      refine lv_aload_n hx hb dX1_whenRest_14 rfl (lv_at hl 0 rfl) ?_
      refine gt_f (v := .ref (qT 0)) M inlX1 hw 0 rfl rfl 0 (by decide) fl_X1_12 rfl rfl dX1_whenRest_15 ?_
      refine gt_f (v := .ref (qT 5)) M inlX3 hw 3 rfl rfl 4 (by decide) fl_X1_37 rfl rfl dX1_whenRest_18 ?_
      refine lv_iconst (v := 0) hx hb dX1_whenRest_21 (by decide) ?_
      refine lv_aload_n hx hb dX1_whenRest_22 rfl (lv_at hl 0 rfl) ?_
      refine gt_f (v := .ref (qG 2)) M inlX1 hw 0 rfl rfl 1 (by decide) fl_X1_18 rfl rfl dX1_whenRest_23 ?_
      refine lv_iconst (v := 0) hx hb dX1_whenRest_26 (by decide) ?_
      refine lv_aload_n hx hb dX1_whenRest_27 rfl (lv_at hl 0 rfl) ?_
      refine gt_f (v := .ref (qT 0)) M inlX1 hw 0 rfl rfl 0 (by decide) fl_X1_12 rfl rfl dX1_whenRest_28 ?_
      refine gt_f (v := .int (T 30 7)) M inlX3 hw 3 rfl rfl 7 (by decide) fl_X1_51 rfl rfl dX1_whenRest_31 ?_
      obtain ⟨a_2, h⟩ := h
      refine cp_i (P := G) (r := 1) (wN := fun G_3 => (mW z qG qT G_3 ++ (pW z qT T ++ (pW z qP P)))) M ml_X1_55 hl.1 hw 8 1 rfl rfl rfl a_2 (Nat.le_of_ble_eq_true rfl) (Nat.le_of_ble_eq_true rfl) dX1_whenRest_34 (fun G_3 H locs eG_3 hw => ?_)
      replace h := h G_3 eG_3
      refine lv_aload_n hx hb dX1_whenRest_37 rfl (lv_at hl 0 rfl) ?_
      refine gt_f (v := .ref (qT 0)) M inlX1 hw 0 rfl rfl 0 (by decide) fl_X1_12 rfl rfl dX1_whenRest_38 ?_
      refine lv_bipush (v := -9) hx hb dX1_whenRest_41 (by decide) ?_
      refine fr_Vv (wN := fun u : RT => (mW z qG qT G_3 ++ (pW z qT u ++ (pW z qP P)))) M (m_X3_goHour l z qT T (-9 : Int32) _ h) (cwV 1 hts (gdV cd_X3_goHour ml_X1_40 im_X3_goHour se_X3_goHour in_X3) rfl rfl rfl hdV_X3_goHour ⟨(Nat.le_of_ble_eq_true rfl), (Nat.le_of_ble_eq_true rfl)⟩) cut_2 prm_2 0 rfl rfl rfl hw rfl hl.1 rfl (Nat.le_of_ble_eq_true rfl) dX1_whenRest_43 (fun u_ H locs h hw => ?_)
      obtain ⟨T_4, rfl⟩ : ∃ z9 : RT, z9 = u_ := ⟨_, rfl⟩
      have hw : Hw s z A (mW z qG qT G_3 ++ (pW z qT T_4 ++ (pW z qP P))) H locs := hw
      try dsimp only at h
      refine lv_aload_n hx hb dX1_whenRest_46 rfl (lv_at hl 0 rfl) ?_
      refine fr_Vi (wN := fun _ : Unit => (mW z qG qT G_3 ++ (pW z qT T_4 ++ (pW z qP P)))) M (m_X1_isAsBefore l z qG qT G_3 T_4 _ h) (cwV 0 hts (gdV cd_X1_isAsBefore ml_X1_61 im_X1_isAsBefore se_X1_isAsBefore in_X1) rfl rfl rfl hdV_X1_isAsBefore ⟨(Nat.le_of_ble_eq_true rfl), (Nat.le_of_ble_eq_true rfl)⟩) cut_3 prm_3 0 rfl rfl rfl hw rfl hl.1 rfl (Nat.le_of_ble_eq_true rfl) dX1_whenRest_47 (fun r_5 u_ H locs h hw => ?_)
      have hw : Hw s z A (mW z qG qT G_3 ++ (pW z qT T_4 ++ (pW z qP P))) H locs := hw
      try dsimp only at h
      refine lv_if_eq (tgt := 55) hx hb dX1_whenRest_50 (by decide) (fun c_6 => ?_) (fun c_6 => ?_)
      · replace h := iT c_6 h
        obtain ⟨x2_7, ex2_7⟩ : ∃ y : Int32, y = (x2 + (1 : Int32)) := ⟨_, rfl⟩
        replace h := h x2_7 ex2_7
        refine lv_iinc (v := x2_7) (lv' := [(2, .int x2_7), (0, .ref (qG 0))]) hx hb dX1_whenRest_55 hl (k := 1) rfl (by rw [ex2_7]; rfl) (by decide) rfl (fun ls hl => ?_)
        refine lv_goto (tgt := 8) hx hb dX1_whenRest_58 (by decide) ?_
        exact ih G_3 T_4 x2_7 H locs ls hw (lv_sub hl [1, 0] rfl) h
      · replace h := iF c_6 h
        refine lv_iload_n hx hb dX1_whenRest_53 rfl (lv_at hl 1 rfl) ?_
        exact rt_i M (G_3, T_4) hw h dX1_whenRest_54
set_option maxHeartbeats 4000000 in
set_option maxRecDepth 100000 in
theorem m_X1_whenRest (l : Launch) (z : KT) (qG : Nat → Nat) (qP : Nat → Nat) (qT : Nat → Nat) (G : RT) (T : RT) (P : RT) (Q : Int32 → RT → RT → Prop) (h : wX1_whenRest G T P Q) : CI l yX1_whenRest cX1_whenRest 3 .int rmX1_whenRest z [.ref (qG 0), .ref (qP 0)] (mW z qG qT G ++ (pW z qT T ++ (pW z qP P))) (fun u : RT × RT => (mW z qG qT u.1 ++ (pW z qT u.2 ++ (pW z qP P)))) (fun (r : Int32) (u : RT × RT) => Q r u.1 u.2) := by
  refine CI.of rfl (Nat.le_of_ble_eq_true rfl) ?_
  intro p e s m below meth c A ls M hw hl
  have M : Mc p s m _ meth c cX1_whenRest 3 (some .int) RX1 z A := M
  obtain ⟨hx, hb, -, -, hown, hts, -, -, -, hN, hsr, -⟩ := id M
  have hl : lv_has ls 3 [(0, .ref (qG 0)), (1, .ref (qP 0))] := hl
  unfold wX1_whenRest at h
  generalize s.heap = H at hw ⊢
  generalize ([] : List Loc) = locs at hw ⊢
  refine lv_aload_n hx hb dX1_whenRest_0 rfl (lv_at hl 0 rfl) ?_
  refine lv_aload_n hx hb dX1_whenRest_1 rfl (lv_at hl 1 rfl) ?_
  refine fr_Vr (wN := fun u : RT => (mW z qG qT G ++ (pW z qT u ++ (pW z qP P)))) M (m_X1_begin l z qG qP qT G T P _ h) (cwV 1 hts (gdV cd_X1_begin ml_X1_33 im_X1_begin se_X1_begin in_X1) rfl rfl rfl hdV_X1_begin ⟨(Nat.le_of_ble_eq_true rfl), (Nat.le_of_ble_eq_true rfl)⟩) (Cut.self _) (Prm.self _ 19 (fun _ => rfl)) 0 rfl rfl rfl hw rfl hl.1 rfl (Nat.le_of_ble_eq_true rfl) dX1_whenRest_2 (fun ra_ u_ H locs h hw => ?_)
  obtain ⟨T_1, rfl⟩ : ∃ z9 : RT, z9 = u_ := ⟨_, rfl⟩
  obtain ⟨rfl, h⟩ := h
  have hw : Hw s z A (mW z qG qT G ++ (pW z qT T_1 ++ (pW z qP P))) H locs := hw
  try dsimp only at h
  refine lv_pop hx hb dX1_whenRest_5 rfl ?_
  refine lv_iconst (v := 0) hx hb dX1_whenRest_6 (by decide) ?_
  refine lv_istore_n (lv' := [(2, .int (0 : Int32)), (0, .ref (qG 0)), (1, .ref (qP 0))]) hx hb dX1_whenRest_7 rfl hl (by decide) rfl (fun ls hl => ?_)
  obtain ⟨n0, h⟩ := h; exact kX1_whenRest_8 M n0 G T_1 (0 : Int32) H locs ls hw (lv_sub hl [1, 0] rfl) h
abbrev rmX1_whenOtherwise : Room := { frames := 3, cells := 0, slots := 0, locals := 60 }
set_option maxHeartbeats 4000000 in
set_option maxRecDepth 100000 in
theorem kX1_whenOtherwise_15 {p : Program} {l : Launch} {e : Env} {s : State} {m : MethodId} {args : Array Value} {below : List Frame} {meth : Method} {c : Code} {z : KT} {A : Nat → Prop} {qG : Nat → Nat} {qP : Nat → Nat} {qT : Nat → Nat} {G : RT} {P : RT} {Q : Int32 → RT → Prop} (M : Mc p s m args meth c cX1_whenOtherwise 5 (some .int) RX1 z A) : ∀ (n : Nat) (T : RT) (x2 : Int32) (x3 : Int32) (x4 : Int32) (H : Heap) (locs : List Loc) (ls : Array Slot), Hw s z A (mW z qG qT G ++ (pW z qT T ++ (pW z qP P))) H locs → lv_has ls 5 [(0, .ref (qG 0)), (2, .int x2), (3, .int x3), (4, .int x4)] → bX1_whenOtherwise_15 G P Q n T x2 x3 x4 → W p l e rmX1_whenOtherwise s m args below meth c H locs 0 0 (MQ below (va_Qi (fun (r : Int32) (u : RT) => Q r u) (fun u t => cAt z A ((fun u : RT => (mW z qG qT G ++ (pW z qT u ++ (pW z qP P)))) u) t) A) args s 0 0 A) (F0 m 15 ls []) := by
  obtain ⟨hx, hb, -, -, hown, hts, -, -, -, hN, hsr, -⟩ := id M
  intro n
  induction n with
  | zero => intro T x2 x3 x4 H locs ls hw hl h; exact False.elim h
  | succ n ih =>
    intro T x2 x3 x4 H locs ls hw hl h
    rw [bX1_whenOtherwise_15] at h
    refine lv_iload hx hb dX1_whenOtherwise_15 (lv_at hl 3 rfl) ?_
    refine lv_bipush (v := 99) hx hb dX1_whenOtherwise_17 (by decide) ?_
    refine lv_icmp_gt (tgt := 52) hx hb dX1_whenOtherwise_19 (by decide) (fun c_1 => ?_) (fun c_1 => ?_)
    · replace h := iT c_1 h
      refine lv_bipush (v := -9) hx hb dX1_whenOtherwise_52 (by decide) ?_
      exact rt_i M T hw h dX1_whenOtherwise_54
    · replace h := iF c_1 h
      refine lv_aload_n hx hb dX1_whenOtherwise_22 rfl (lv_at hl 0 rfl) ?_
      refine gt_f (v := .ref (qT 0)) M inlX1 hw 0 rfl rfl 0 (by decide) fl_X1_12 rfl rfl dX1_whenOtherwise_23 ?_
      refine lv_bipush (v := -9) hx hb dX1_whenOtherwise_26 (by decide) ?_
      refine fr_Vv (wN := fun u : RT => (mW z qG qT G ++ (pW z qT u ++ (pW z qP P)))) M (m_X3_goHour l z qT T (-9 : Int32) _ h) (cwV 1 hts (gdV cd_X3_goHour ml_X1_40 im_X3_goHour se_X3_goHour in_X3) rfl rfl rfl hdV_X3_goHour ⟨(Nat.le_of_ble_eq_true rfl), (Nat.le_of_ble_eq_true rfl)⟩) cut_2 prm_2 0 rfl rfl rfl hw rfl hl.1 rfl (Nat.le_of_ble_eq_true rfl) dX1_whenOtherwise_28 (fun u_ H locs h hw => ?_)
      obtain ⟨T_2, rfl⟩ : ∃ z9 : RT, z9 = u_ := ⟨_, rfl⟩
      have hw : Hw s z A (mW z qG qT G ++ (pW z qT T_2 ++ (pW z qP P))) H locs := hw
      try dsimp only at h
      refine lv_aload_n hx hb dX1_whenOtherwise_31 rfl (lv_at hl 0 rfl) ?_
      refine gt_f (v := .ref (qT 0)) M inlX1 hw 0 rfl rfl 0 (by decide) fl_X1_12 rfl rfl dX1_whenOtherwise_32 ?_
      refine lv_iload_n hx hb dX1_whenOtherwise_35 rfl (lv_at hl 1 rfl) ?_
      refine fr_Vi (wN := fun _ : Unit => (mW z qG qT G ++ (pW z qT T_2 ++ (pW z qP P)))) M (m_X3_heavierEnd l z qT T_2 x2 _ h) (cwV 1 hts (gdV cd_X3_heavierEnd ml_X1_65 im_X3_heavierEnd se_X3_heavierEnd in_X3) rfl rfl rfl hdV_X3_heavierEnd ⟨(Nat.le_of_ble_eq_true rfl), (Nat.le_of_ble_eq_true rfl)⟩) cut_5 prm_5 0 rfl rfl rfl hw rfl hl.1 rfl (Nat.le_of_ble_eq_true rfl) dX1_whenOtherwise_36 (fun r_3 u_ H locs h hw => ?_)
      have hw : Hw s z A (mW z qG qT G ++ (pW z qT T_2 ++ (pW z qP P))) H locs := hw
      try dsimp only at h
      refine lv_iload_n hx hb dX1_whenOtherwise_39 rfl (lv_at hl 2 rfl) ?_
      refine lv_icmp_eq (tgt := 46) hx hb dX1_whenOtherwise_40 (by decide) (fun c_4 => ?_) (fun c_4 => ?_)
      · replace h := iT c_4 h
        obtain ⟨x4_5, ex4_5⟩ : ∃ y : Int32, y = (x4 + (1 : Int32)) := ⟨_, rfl⟩
        replace h := h x4_5 ex4_5
        refine lv_iinc (v := x4_5) (lv' := [(4, .int x4_5), (0, .ref (qG 0)), (2, .int x2), (3, .int x3)]) hx hb dX1_whenOtherwise_46 hl (k := 3) rfl (by rw [ex4_5]; rfl) (by decide) rfl (fun ls hl => ?_)
        refine lv_goto (tgt := 15) hx hb dX1_whenOtherwise_49 (by decide) ?_
        exact ih T_2 x2 x3 x4_5 H locs ls hw (lv_sub hl [1, 2, 3, 0] rfl) h
      · replace h := iF c_4 h
        refine lv_iload hx hb dX1_whenOtherwise_43 (lv_at hl 3 rfl) ?_
        exact rt_i M T_2 hw h dX1_whenOtherwise_45
set_option maxHeartbeats 4000000 in
set_option maxRecDepth 100000 in
theorem m_X1_whenOtherwise (l : Launch) (z : KT) (qG : Nat → Nat) (qP : Nat → Nat) (qT : Nat → Nat) (G : RT) (T : RT) (P : RT) (x2 : Int32) (Q : Int32 → RT → Prop) (h : wX1_whenOtherwise G T P x2 Q) : CI l yX1_whenOtherwise cX1_whenOtherwise 5 .int rmX1_whenOtherwise z [.ref (qG 0), .ref (qP 0), .int x2] (mW z qG qT G ++ (pW z qT T ++ (pW z qP P))) (fun u : RT => (mW z qG qT G ++ (pW z qT u ++ (pW z qP P)))) (fun (r : Int32) (u : RT) => Q r u) := by
  refine CI.of rfl (Nat.le_of_ble_eq_true rfl) ?_
  intro p e s m below meth c A ls M hw hl
  have M : Mc p s m _ meth c cX1_whenOtherwise 5 (some .int) RX1 z A := M
  obtain ⟨hx, hb, -, -, hown, hts, -, -, -, hN, hsr, -⟩ := id M
  have hl : lv_has ls 5 [(0, .ref (qG 0)), (1, .ref (qP 0)), (2, .int x2)] := hl
  unfold wX1_whenOtherwise at h
  generalize s.heap = H at hw ⊢
  generalize ([] : List Loc) = locs at hw ⊢
  refine lv_aload_n hx hb dX1_whenOtherwise_0 rfl (lv_at hl 1 rfl) ?_
  refine lv_iload_n hx hb dX1_whenOtherwise_1 rfl (lv_at hl 2 rfl) ?_
  refine fr_Vi (wN := fun _ : Unit => (mW z qG qT G ++ (pW z qT T ++ (pW z qP P)))) M (m_X3_heavierEnd l z qP P x2 _ h) (cwV 1 hts (gdV cd_X3_heavierEnd ml_X1_65 im_X3_heavierEnd se_X3_heavierEnd in_X3) rfl rfl rfl hdV_X3_heavierEnd ⟨(Nat.le_of_ble_eq_true rfl), (Nat.le_of_ble_eq_true rfl)⟩) cut_4 prm_4 0 rfl rfl rfl hw rfl hl.1 rfl (Nat.le_of_ble_eq_true rfl) dX1_whenOtherwise_2 (fun r_1 u_ H locs h hw => ?_)
  have hw : Hw s z A (mW z qG qT G ++ (pW z qT T ++ (pW z qP P))) H locs := hw
  try dsimp only at h
  refine lv_istore_n (lv' := [(3, .int r_1), (0, .ref (qG 0)), (1, .ref (qP 0)), (2, .int x2)]) hx hb dX1_whenOtherwise_5 rfl hl (by decide) rfl (fun ls hl => ?_)
  refine lv_aload_n hx hb dX1_whenOtherwise_6 rfl (lv_at hl 1 rfl) ?_
  refine lv_aload_n hx hb dX1_whenOtherwise_7 rfl (lv_at hl 2 rfl) ?_
  refine fr_Vr (wN := fun u : RT => (mW z qG qT G ++ (pW z qT u ++ (pW z qP P)))) M (m_X1_begin l z qG qP qT G T P _ h) (cwV 1 hts (gdV cd_X1_begin ml_X1_33 im_X1_begin se_X1_begin in_X1) rfl rfl rfl hdV_X1_begin ⟨(Nat.le_of_ble_eq_true rfl), (Nat.le_of_ble_eq_true rfl)⟩) (Cut.self _) (Prm.self _ 19 (fun _ => rfl)) 0 rfl rfl rfl hw rfl hl.1 rfl (Nat.le_of_ble_eq_true rfl) dX1_whenOtherwise_8 (fun ra_ u_ H locs h hw => ?_)
  obtain ⟨T_2, rfl⟩ : ∃ z9 : RT, z9 = u_ := ⟨_, rfl⟩
  obtain ⟨rfl, h⟩ := h
  have hw : Hw s z A (mW z qG qT G ++ (pW z qT T_2 ++ (pW z qP P))) H locs := hw
  try dsimp only at h
  refine lv_pop hx hb dX1_whenOtherwise_11 rfl ?_
  refine lv_iconst (v := 1) hx hb dX1_whenOtherwise_12 (by decide) ?_
  refine lv_istore (lv' := [(4, .int (1 : Int32)), (3, .int r_1), (0, .ref (qG 0)), (1, .ref (qP 0)), (2, .int x2)]) hx hb dX1_whenOtherwise_13 hl (by decide) rfl (fun ls hl => ?_)
  obtain ⟨n0, h⟩ := h; exact kX1_whenOtherwise_15 M n0 T_2 x2 r_1 (1 : Int32) H locs ls hw (lv_sub hl [2, 4, 1, 0] rfl) h
abbrev rmX1_whenLevel : Room := { frames := 3, cells := 0, slots := 0, locals := 60 }
set_option maxHeartbeats 4000000 in
set_option maxRecDepth 100000 in
theorem kX1_whenLevel_9 {p : Program} {l : Launch} {e : Env} {s : State} {m : MethodId} {args : Array Value} {below : List Frame} {meth : Method} {c : Code} {z : KT} {A : Nat → Prop} {qG : Nat → Nat} {qP : Nat → Nat} {qT : Nat → Nat} {G : RT} {P : RT} {Q : Int32 → RT → Prop} (M : Mc p s m args meth c cX1_whenLevel 5 (some .int) RX1 z A) : ∀ (n : Nat) (T : RT) (x2 : Int32) (x3 : Int32) (x4 : Int32) (H : Heap) (locs : List Loc) (ls : Array Slot), Hw s z A (mW z qG qT G ++ (pW z qT T ++ (pW z qP P))) H locs → lv_has ls 5 [(0, .ref (qG 0)), (2, .int x2), (3, .int x3), (4, .int x4)] → bX1_whenLevel_9 G P Q n T x2 x3 x4 → W p l e rmX1_whenLevel s m args below meth c H locs 0 0 (MQ below (va_Qi (fun (r : Int32) (u : RT) => Q r u) (fun u t => cAt z A ((fun u : RT => (mW z qG qT G ++ (pW z qT u ++ (pW z qP P)))) u) t) A) args s 0 0 A) (F0 m 9 ls []) := by
  obtain ⟨hx, hb, -, -, hown, hts, -, -, -, hN, hsr, -⟩ := id M
  intro n
  induction n with
  | zero => intro T x2 x3 x4 H locs ls hw hl h; exact False.elim h
  | succ n ih =>
    intro T x2 x3 x4 H locs ls hw hl h
    rw [bX1_whenLevel_9] at h
    refine lv_iload hx hb dX1_whenLevel_9 (lv_at hl 3 rfl) ?_
    refine lv_bipush (v := 99) hx hb dX1_whenLevel_11 (by decide) ?_
    refine lv_icmp_gt (tgt := 55) hx hb dX1_whenLevel_13 (by decide) (fun c_1 => ?_) (fun c_1 => ?_)
    · replace h := iT c_1 h
      refine lv_bipush (v := -9) hx hb dX1_whenLevel_55 (by decide) ?_
      exact rt_i M T hw h dX1_whenLevel_57
    · replace h := iF c_1 h
      refine lv_aload_n hx hb dX1_whenLevel_16 rfl (lv_at hl 0 rfl) ?_
      refine gt_f (v := .ref (qT 0)) M inlX1 hw 0 rfl rfl 0 (by decide) fl_X1_12 rfl rfl dX1_whenLevel_17 ?_
      refine gt_f (v := .ref (qT 5)) M inlX3 hw 3 rfl rfl 4 (by decide) fl_X1_37 rfl rfl dX1_whenLevel_20 ?_
      refine lv_iload_n hx hb dX1_whenLevel_23 rfl (lv_at hl 1 rfl) ?_
      obtain ⟨a_2, h⟩ := h
      refine ld_i M hw 8 rfl a_2 dX1_whenLevel_24 ?_
      refine lv_aload_n hx hb dX1_whenLevel_25 rfl (lv_at hl 0 rfl) ?_
      refine gt_f (v := .ref (qT 0)) M inlX1 hw 0 rfl rfl 0 (by decide) fl_X1_12 rfl rfl dX1_whenLevel_26 ?_
      refine gt_f (v := .ref (qT 5)) M inlX3 hw 3 rfl rfl 4 (by decide) fl_X1_37 rfl rfl dX1_whenLevel_29 ?_
      refine lv_iload_n hx hb dX1_whenLevel_32 rfl (lv_at hl 2 rfl) ?_
      obtain ⟨a_3, h⟩ := h
      refine ld_i M hw 8 rfl a_3 dX1_whenLevel_33 ?_
      refine lv_icmp_ne (tgt := 40) hx hb dX1_whenLevel_34 (by decide) (fun c_4 => ?_) (fun c_4 => ?_)
      · replace h := iF c_4 h
        refine lv_aload_n hx hb dX1_whenLevel_40 rfl (lv_at hl 0 rfl) ?_
        refine gt_f (v := .ref (qT 0)) M inlX1 hw 0 rfl rfl 0 (by decide) fl_X1_12 rfl rfl dX1_whenLevel_41 ?_
        refine lv_bipush (v := -9) hx hb dX1_whenLevel_44 (by decide) ?_
        refine fr_Vv (wN := fun u : RT => (mW z qG qT G ++ (pW z qT u ++ (pW z qP P)))) M (m_X3_goHour l z qT T (-9 : Int32) _ h) (cwV 1 hts (gdV cd_X3_goHour ml_X1_40 im_X3_goHour se_X3_goHour in_X3) rfl rfl rfl hdV_X3_goHour ⟨(Nat.le_of_ble_eq_true rfl), (Nat.le_of_ble_eq_true rfl)⟩) cut_2 prm_2 0 rfl rfl rfl hw rfl hl.1 rfl (Nat.le_of_ble_eq_true rfl) dX1_whenLevel_46 (fun u_ H locs h hw => ?_)
        obtain ⟨T_5, rfl⟩ : ∃ z9 : RT, z9 = u_ := ⟨_, rfl⟩
        have hw : Hw s z A (mW z qG qT G ++ (pW z qT T_5 ++ (pW z qP P))) H locs := hw
        try dsimp only at h
        obtain ⟨x4_6, ex4_6⟩ : ∃ y : Int32, y = (x4 + (1 : Int32)) := ⟨_, rfl⟩
        replace h := h x4_6 ex4_6
        refine lv_iinc (v := x4_6) (lv' := [(4, .int x4_6), (0, .ref (qG 0)), (2, .int x2), (3, .int x3)]) hx hb dX1_whenLevel_49 hl (k := 3) rfl (by rw [ex4_6]; rfl) (by decide) rfl (fun ls hl => ?_)
        refine lv_goto (tgt := 9) hx hb dX1_whenLevel_52 (by decide) ?_
        exact ih T_5 x2 x3 x4_6 H locs ls hw (lv_sub hl [1, 2, 3, 0] rfl) h
      · replace h := iT c_4 h
        refine lv_iload hx hb dX1_whenLevel_37 (lv_at hl 3 rfl) ?_
        exact rt_i M T hw h dX1_whenLevel_39
set_option maxHeartbeats 4000000 in
set_option maxRecDepth 100000 in
theorem m_X1_whenLevel (l : Launch) (z : KT) (qG : Nat → Nat) (qP : Nat → Nat) (qT : Nat → Nat) (G : RT) (T : RT) (P : RT) (x2 : Int32) (x3 : Int32) (Q : Int32 → RT → Prop) (h : wX1_whenLevel G T P x2 x3 Q) : CI l yX1_whenLevel cX1_whenLevel 5 .int rmX1_whenLevel z [.ref (qG 0), .ref (qP 0), .int x2, .int x3] (mW z qG qT G ++ (pW z qT T ++ (pW z qP P))) (fun u : RT => (mW z qG qT G ++ (pW z qT u ++ (pW z qP P)))) (fun (r : Int32) (u : RT) => Q r u) := by
  refine CI.of rfl (Nat.le_of_ble_eq_true rfl) ?_
  intro p e s m below meth c A ls M hw hl
  have M : Mc p s m _ meth c cX1_whenLevel 5 (some .int) RX1 z A := M
  obtain ⟨hx, hb, -, -, hown, hts, -, -, -, hN, hsr, -⟩ := id M
  have hl : lv_has ls 5 [(0, .ref (qG 0)), (1, .ref (qP 0)), (2, .int x2), (3, .int x3)] := hl
  unfold wX1_whenLevel at h
  generalize s.heap = H at hw ⊢
  generalize ([] : List Loc) = locs at hw ⊢
  refine lv_aload_n hx hb dX1_whenLevel_0 rfl (lv_at hl 0 rfl) ?_
  refine lv_aload_n hx hb dX1_whenLevel_1 rfl (lv_at hl 1 rfl) ?_
  refine fr_Vr (wN := fun u : RT => (mW z qG qT G ++ (pW z qT u ++ (pW z qP P)))) M (m_X1_begin l z qG qP qT G T P _ h) (cwV 1 hts (gdV cd_X1_begin ml_X1_33 im_X1_begin se_X1_begin in_X1) rfl rfl rfl hdV_X1_begin ⟨(Nat.le_of_ble_eq_true rfl), (Nat.le_of_ble_eq_true rfl)⟩) (Cut.self _) (Prm.self _ 19 (fun _ => rfl)) 0 rfl rfl rfl hw rfl hl.1 rfl (Nat.le_of_ble_eq_true rfl) dX1_whenLevel_2 (fun ra_ u_ H locs h hw => ?_)
  obtain ⟨T_1, rfl⟩ : ∃ z9 : RT, z9 = u_ := ⟨_, rfl⟩
  obtain ⟨rfl, h⟩ := h
  have hw : Hw s z A (mW z qG qT G ++ (pW z qT T_1 ++ (pW z qP P))) H locs := hw
  try dsimp only at h
  refine lv_pop hx hb dX1_whenLevel_5 rfl ?_
  refine lv_iconst (v := 0) hx hb dX1_whenLevel_6 (by decide) ?_
  refine lv_istore (lv' := [(4, .int (0 : Int32)), (0, .ref (qG 0)), (1, .ref (qP 0)), (2, .int x2), (3, .int x3)]) hx hb dX1_whenLevel_7 hl (by decide) rfl (fun ls hl => ?_)
  obtain ⟨n0, h⟩ := h; exact kX1_whenLevel_9 M n0 T_1 x2 x3 (0 : Int32) H locs ls hw (lv_sub hl [1, 3, 4, 0] rfl) h
abbrev rmX1_heightByStones : Room := { frames := 3, cells := 0, slots := 0, locals := 71 }
set_option maxHeartbeats 4000000 in
set_option maxRecDepth 100000 in
theorem m_X1_heightByStones (l : Launch) (z : KT) (qG : Nat → Nat) (qP : Nat → Nat) (qT : Nat → Nat) (G : RT) (T : RT) (P : RT) (x2 : Int32) (x3 : Int32) (x4 : Int32) (Q : Int32 → RT → Prop) (h : wX1_heightByStones G T P x2 x3 x4 Q) : CI l yX1_heightByStones cX1_heightByStones 5 .int rmX1_heightByStones z [.ref (qG 0), .ref (qP 0), .int x2, .int x3, .int x4] (mW z qG qT G ++ (pW z qT T ++ (pW z qP P))) (fun u : RT => (mW z qG qT G ++ (pW z qT u ++ (pW z qP P)))) (fun (r : Int32) (u : RT) => Q r u) := by
  refine CI.of rfl (Nat.le_of_ble_eq_true rfl) ?_
  intro p e s m below meth c A ls M hw hl
  have M : Mc p s m _ meth c cX1_heightByStones 5 (some .int) RX1 z A := M
  obtain ⟨hx, hb, -, -, hown, hts, -, -, -, hN, hsr, -⟩ := id M
  have hl : lv_has ls 5 [(0, .ref (qG 0)), (1, .ref (qP 0)), (2, .int x2), (3, .int x3), (4, .int x4)] := hl
  unfold wX1_heightByStones at h
  generalize s.heap = H at hw ⊢
  generalize ([] : List Loc) = locs at hw ⊢
  refine lv_aload_n hx hb dX1_heightByStones_0 rfl (lv_at hl 0 rfl) ?_
  refine lv_aload_n hx hb dX1_heightByStones_1 rfl (lv_at hl 1 rfl) ?_
  refine fr_Vr (wN := fun u : RT => (mW z qG qT G ++ (pW z qT u ++ (pW z qP P)))) M (m_X1_begin l z qG qP qT G T P _ h) (cwV 1 hts (gdV cd_X1_begin ml_X1_33 im_X1_begin se_X1_begin in_X1) rfl rfl rfl hdV_X1_begin ⟨(Nat.le_of_ble_eq_true rfl), (Nat.le_of_ble_eq_true rfl)⟩) (Cut.self _) (Prm.self _ 19 (fun _ => rfl)) 0 rfl rfl rfl hw rfl hl.1 rfl (Nat.le_of_ble_eq_true rfl) dX1_heightByStones_2 (fun ra_ u_ H locs h hw => ?_)
  obtain ⟨T_1, rfl⟩ : ∃ z9 : RT, z9 = u_ := ⟨_, rfl⟩
  obtain ⟨rfl, h⟩ := h
  have hw : Hw s z A (mW z qG qT G ++ (pW z qT T_1 ++ (pW z qP P))) H locs := hw
  try dsimp only at h
  refine lv_pop hx hb dX1_heightByStones_5 rfl ?_
  refine lv_aload_n hx hb dX1_heightByStones_6 rfl (lv_at hl 0 rfl) ?_
  refine gt_f (v := .ref (qT 0)) M inlX1 hw 0 rfl rfl 0 (by decide) fl_X1_12 rfl rfl dX1_heightByStones_7 ?_
  refine gt_f (v := .ref (qT 4)) M inlX3 hw 3 rfl rfl 3 (by decide) fl_X1_69 rfl rfl dX1_heightByStones_10 ?_
  refine lv_iload_n hx hb dX1_heightByStones_13 rfl (lv_at hl 2 rfl) ?_
  refine lv_iload_n hx hb dX1_heightByStones_14 rfl (lv_at hl 3 rfl) ?_
  obtain ⟨a_2, h⟩ := h
  refine st_i (P := T_1) (r := 3) (wN := fun T_3 => (mW z qG qT G ++ (pW z qT T_3 ++ (pW z qP P)))) M hw 7 rfl rfl a_2 dX1_heightByStones_15 (fun T_3 H locs eT_3 hw => ?_)
  replace h := h T_3 eT_3
  refine lv_aload_n hx hb dX1_heightByStones_16 rfl (lv_at hl 0 rfl) ?_
  refine gt_f (v := .ref (qT 0)) M inlX1 hw 0 rfl rfl 0 (by decide) fl_X1_12 rfl rfl dX1_heightByStones_17 ?_
  refine lv_iload hx hb dX1_heightByStones_20 (lv_at hl 4 rfl) ?_
  refine fr_Vv (wN := fun u : RT => (mW z qG qT G ++ (pW z qT u ++ (pW z qP P)))) M (m_X3_goHours l z qT T_3 x4 _ h) (cwV 1 hts (gdV cd_X3_goHours ml_X1_29 im_X3_goHours se_X3_goHours in_X3) rfl rfl rfl hdV_X3_goHours ⟨(Nat.le_of_ble_eq_true rfl), (Nat.le_of_ble_eq_true rfl)⟩) cut_2 prm_2 0 rfl rfl rfl hw rfl hl.1 rfl (Nat.le_of_ble_eq_true rfl) dX1_heightByStones_22 (fun u_ H locs h hw => ?_)
  obtain ⟨T_4, rfl⟩ : ∃ z9 : RT, z9 = u_ := ⟨_, rfl⟩
  have hw : Hw s z A (mW z qG qT G ++ (pW z qT T_4 ++ (pW z qP P))) H locs := hw
  try dsimp only at h
  refine lv_aload_n hx hb dX1_heightByStones_25 rfl (lv_at hl 0 rfl) ?_
  refine gt_f (v := .ref (qT 0)) M inlX1 hw 0 rfl rfl 0 (by decide) fl_X1_12 rfl rfl dX1_heightByStones_26 ?_
  refine gt_f (v := .ref (qT 5)) M inlX3 hw 3 rfl rfl 4 (by decide) fl_X1_37 rfl rfl dX1_heightByStones_29 ?_
  refine lv_iload_n hx hb dX1_heightByStones_32 rfl (lv_at hl 2 rfl) ?_
  refine ld_i M hw 8 rfl a_2 dX1_heightByStones_33 ?_
  exact rt_i M T_4 hw h dX1_heightByStones_34
abbrev rmX1_fewestLess : Room := { frames := 4, cells := 0, slots := 0, locals := 95 }
set_option maxHeartbeats 4000000 in
set_option maxRecDepth 100000 in
theorem kX1_fewestLess_3 {p : Program} {l : Launch} {e : Env} {s : State} {m : MethodId} {args : Array Value} {below : List Frame} {meth : Method} {c : Code} {z : KT} {A : Nat → Prop} {qG : Nat → Nat} {qP : Nat → Nat} {qT : Nat → Nat} {G : RT} {P : RT} {Q : Int32 → RT → Prop} (M : Mc p s m args meth c cX1_fewestLess 6 (some .int) RX1 z A) : ∀ (n : Nat) (T : RT) (x2 : Int32) (x3 : Int32) (x4 : Int32) (x5 : Int32) (H : Heap) (locs : List Loc) (ls : Array Slot), Hw s z A (mW z qG qT G ++ (pW z qT T ++ (pW z qP P))) H locs → lv_has ls 6 [(0, .ref (qG 0)), (1, .ref (qP 0)), (2, .int x2), (3, .int x3), (4, .int x4), (5, .int x5)] → bX1_fewestLess_3 G P Q n T x2 x3 x4 x5 → W p l e rmX1_fewestLess s m args below meth c H locs 0 0 (MQ below (va_Qi (fun (r : Int32) (u : RT) => Q r u) (fun u t => cAt z A ((fun u : RT => (mW z qG qT G ++ (pW z qT u ++ (pW z qP P)))) u) t) A) args s 0 0 A) (F0 m 3 ls []) := by
  obtain ⟨hx, hb, -, -, hown, hts, -, -, -, hN, hsr, -⟩ := id M
  intro n
  induction n with
  | zero => intro T x2 x3 x4 x5 H locs ls hw hl h; exact False.elim h
  | succ n ih =>
    intro T x2 x3 x4 x5 H locs ls hw hl h
    rw [bX1_fewestLess_3] at h
    refine lv_iload hx hb dX1_fewestLess_3 (lv_at hl 5 rfl) ?_
    refine lv_aload_n hx hb dX1_fewestLess_5 rfl (lv_at hl 1 rfl) ?_
    refine gt_f (v := .ref (qP 4)) M inlX3 hw 11 rfl rfl 3 (by decide) fl_X1_69 rfl rfl dX1_fewestLess_6 ?_
    refine lv_iload_n hx hb dX1_fewestLess_9 rfl (lv_at hl 2 rfl) ?_
    obtain ⟨a_1, h⟩ := h
    refine ld_i M hw 15 rfl a_1 dX1_fewestLess_10 ?_
    refine lv_icmp_gt (tgt := 44) hx hb dX1_fewestLess_11 (by decide) (fun c_2 => ?_) (fun c_2 => ?_)
    · replace h := iT c_2 h
      refine lv_bipush (v := -9) hx hb dX1_fewestLess_44 (by decide) ?_
      exact rt_i M T hw h dX1_fewestLess_46
    · replace h := iF c_2 h
      refine lv_aload_n hx hb dX1_fewestLess_14 rfl (lv_at hl 0 rfl) ?_
      refine lv_aload_n hx hb dX1_fewestLess_15 rfl (lv_at hl 1 rfl) ?_
      refine lv_iload_n hx hb dX1_fewestLess_16 rfl (lv_at hl 2 rfl) ?_
      refine lv_aload_n hx hb dX1_fewestLess_17 rfl (lv_at hl 1 rfl) ?_
      refine gt_f (v := .ref (qP 4)) M inlX3 hw 11 rfl rfl 3 (by decide) fl_X1_69 rfl rfl dX1_fewestLess_18 ?_
      refine lv_iload_n hx hb dX1_fewestLess_21 rfl (lv_at hl 2 rfl) ?_
      refine ld_i M hw 15 rfl a_1 dX1_fewestLess_22 ?_
      refine lv_iload hx hb dX1_fewestLess_23 (lv_at hl 5 rfl) ?_
      refine lv_isub hx hb dX1_fewestLess_25 ?_
      refine lv_iload hx hb dX1_fewestLess_26 (lv_at hl 4 rfl) ?_
      refine fr_Vi (wN := fun u : RT => (mW z qG qT G ++ (pW z qT u ++ (pW z qP P)))) M (m_X1_heightByStones l z qG qP qT G T P x2 ((P 3 (x2).toNatClampNeg) - x5) x4 _ h) (cwV 4 hts (gdV cd_X1_heightByStones ml_X1_72 im_X1_heightByStones se_X1_heightByStones in_X1) rfl rfl rfl hdV_X1_heightByStones ⟨(Nat.le_of_ble_eq_true rfl), (Nat.le_of_ble_eq_true rfl)⟩) (Cut.self _) (Prm.self _ 19 (fun _ => rfl)) 0 rfl rfl rfl hw rfl hl.1 rfl (Nat.le_of_ble_eq_true rfl) dX1_fewestLess_28 (fun r_4 u_ H locs h hw => ?_)
      obtain ⟨T_3, rfl⟩ : ∃ z9 : RT, z9 = u_ := ⟨_, rfl⟩
      have hw : Hw s z A (mW z qG qT G ++ (pW z qT T_3 ++ (pW z qP P))) H locs := hw
      try dsimp only at h
      refine lv_iload_n hx hb dX1_fewestLess_31 rfl (lv_at hl 3 rfl) ?_
      refine lv_icmp_lt (tgt := 38) hx hb dX1_fewestLess_32 (by decide) (fun c_5 => ?_) (fun c_5 => ?_)
      · replace h := iT c_5 h
        obtain ⟨x5_6, ex5_6⟩ : ∃ y : Int32, y = (x5 + (1 : Int32)) := ⟨_, rfl⟩
        replace h := h x5_6 ex5_6
        refine lv_iinc (v := x5_6) (lv' := [(5, .int x5_6), (0, .ref (qG 0)), (1, .ref (qP 0)), (2, .int x2), (3, .int x3), (4, .int x4)]) hx hb dX1_fewestLess_38 hl (k := 5) rfl (by rw [ex5_6]; rfl) (by decide) rfl (fun ls hl => ?_)
        refine lv_goto (tgt := 3) hx hb dX1_fewestLess_41 (by decide) ?_
        exact ih T_3 x2 x3 x4 x5_6 H locs ls hw (lv_sub hl [1, 2, 3, 4, 5, 0] rfl) h
      · replace h := iF c_5 h
        refine lv_iload hx hb dX1_fewestLess_35 (lv_at hl 5 rfl) ?_
        exact rt_i M T_3 hw h dX1_fewestLess_37
set_option maxHeartbeats 4000000 in
set_option maxRecDepth 100000 in
theorem m_X1_fewestLess (l : Launch) (z : KT) (qG : Nat → Nat) (qP : Nat → Nat) (qT : Nat → Nat) (G : RT) (T : RT) (P : RT) (x2 : Int32) (x3 : Int32) (x4 : Int32) (Q : Int32 → RT → Prop) (h : wX1_fewestLess G T P x2 x3 x4 Q) : CI l yX1_fewestLess cX1_fewestLess 6 .int rmX1_fewestLess z [.ref (qG 0), .ref (qP 0), .int x2, .int x3, .int x4] (mW z qG qT G ++ (pW z qT T ++ (pW z qP P))) (fun u : RT => (mW z qG qT G ++ (pW z qT u ++ (pW z qP P)))) (fun (r : Int32) (u : RT) => Q r u) := by
  refine CI.of rfl (Nat.le_of_ble_eq_true rfl) ?_
  intro p e s m below meth c A ls M hw hl
  have M : Mc p s m _ meth c cX1_fewestLess 6 (some .int) RX1 z A := M
  obtain ⟨hx, hb, -, -, hown, hts, -, -, -, hN, hsr, -⟩ := id M
  have hl : lv_has ls 6 [(0, .ref (qG 0)), (1, .ref (qP 0)), (2, .int x2), (3, .int x3), (4, .int x4)] := hl
  unfold wX1_fewestLess at h
  generalize s.heap = H at hw ⊢
  generalize ([] : List Loc) = locs at hw ⊢
  refine lv_iconst (v := 0) hx hb dX1_fewestLess_0 (by decide) ?_
  refine lv_istore (lv' := [(5, .int (0 : Int32)), (0, .ref (qG 0)), (1, .ref (qP 0)), (2, .int x2), (3, .int x3), (4, .int x4)]) hx hb dX1_fewestLess_1 hl (by decide) rfl (fun ls hl => ?_)
  obtain ⟨n0, h⟩ := h; exact kX1_fewestLess_3 M n0 T x2 x3 x4 (0 : Int32) H locs ls hw (lv_sub hl [1, 2, 3, 4, 5, 0] rfl) h
abbrev rmX1_fewestMore : Room := { frames := 4, cells := 0, slots := 0, locals := 95 }
set_option maxHeartbeats 4000000 in
set_option maxRecDepth 100000 in
theorem kX1_fewestMore_3 {p : Program} {l : Launch} {e : Env} {s : State} {m : MethodId} {args : Array Value} {below : List Frame} {meth : Method} {c : Code} {z : KT} {A : Nat → Prop} {qG : Nat → Nat} {qP : Nat → Nat} {qT : Nat → Nat} {G : RT} {P : RT} {Q : Int32 → RT → Prop} (M : Mc p s m args meth c cX1_fewestMore 6 (some .int) RX1 z A) : ∀ (n : Nat) (T : RT) (x2 : Int32) (x3 : Int32) (x4 : Int32) (x5 : Int32) (H : Heap) (locs : List Loc) (ls : Array Slot), Hw s z A (mW z qG qT G ++ (pW z qT T ++ (pW z qP P))) H locs → lv_has ls 6 [(0, .ref (qG 0)), (1, .ref (qP 0)), (2, .int x2), (3, .int x3), (4, .int x4), (5, .int x5)] → bX1_fewestMore_3 G P Q n T x2 x3 x4 x5 → W p l e rmX1_fewestMore s m args below meth c H locs 0 0 (MQ below (va_Qi (fun (r : Int32) (u : RT) => Q r u) (fun u t => cAt z A ((fun u : RT => (mW z qG qT G ++ (pW z qT u ++ (pW z qP P)))) u) t) A) args s 0 0 A) (F0 m 3 ls []) := by
  obtain ⟨hx, hb, -, -, hown, hts, -, -, -, hN, hsr, -⟩ := id M
  intro n
  induction n with
  | zero => intro T x2 x3 x4 x5 H locs ls hw hl h; exact False.elim h
  | succ n ih =>
    intro T x2 x3 x4 x5 H locs ls hw hl h
    rw [bX1_fewestMore_3] at h
    refine lv_aload_n hx hb dX1_fewestMore_3 rfl (lv_at hl 1 rfl) ?_
    refine gt_f (v := .ref (qP 4)) M inlX3 hw 11 rfl rfl 3 (by decide) fl_X1_69 rfl rfl dX1_fewestMore_4 ?_
    refine lv_iload_n hx hb dX1_fewestMore_7 rfl (lv_at hl 2 rfl) ?_
    obtain ⟨a_1, h⟩ := h
    refine ld_i M hw 15 rfl a_1 dX1_fewestMore_8 ?_
    refine lv_iload hx hb dX1_fewestMore_9 (lv_at hl 5 rfl) ?_
    refine lv_iadd hx hb dX1_fewestMore_11 ?_
    refine lv_bipush (v := 9) hx hb dX1_fewestMore_12 (by decide) ?_
    refine lv_icmp_gt (tgt := 47) hx hb dX1_fewestMore_14 (by decide) (fun c_2 => ?_) (fun c_2 => ?_)
    · replace h := iT c_2 h
      refine lv_bipush (v := -9) hx hb dX1_fewestMore_47 (by decide) ?_
      exact rt_i M T hw h dX1_fewestMore_49
    · replace h := iF c_2 h
      refine lv_aload_n hx hb dX1_fewestMore_17 rfl (lv_at hl 0 rfl) ?_
      refine lv_aload_n hx hb dX1_fewestMore_18 rfl (lv_at hl 1 rfl) ?_
      refine lv_iload_n hx hb dX1_fewestMore_19 rfl (lv_at hl 2 rfl) ?_
      refine lv_aload_n hx hb dX1_fewestMore_20 rfl (lv_at hl 1 rfl) ?_
      refine gt_f (v := .ref (qP 4)) M inlX3 hw 11 rfl rfl 3 (by decide) fl_X1_69 rfl rfl dX1_fewestMore_21 ?_
      refine lv_iload_n hx hb dX1_fewestMore_24 rfl (lv_at hl 2 rfl) ?_
      refine ld_i M hw 15 rfl a_1 dX1_fewestMore_25 ?_
      refine lv_iload hx hb dX1_fewestMore_26 (lv_at hl 5 rfl) ?_
      refine lv_iadd hx hb dX1_fewestMore_28 ?_
      refine lv_iload hx hb dX1_fewestMore_29 (lv_at hl 4 rfl) ?_
      refine fr_Vi (wN := fun u : RT => (mW z qG qT G ++ (pW z qT u ++ (pW z qP P)))) M (m_X1_heightByStones l z qG qP qT G T P x2 ((P 3 (x2).toNatClampNeg) + x5) x4 _ h) (cwV 4 hts (gdV cd_X1_heightByStones ml_X1_72 im_X1_heightByStones se_X1_heightByStones in_X1) rfl rfl rfl hdV_X1_heightByStones ⟨(Nat.le_of_ble_eq_true rfl), (Nat.le_of_ble_eq_true rfl)⟩) (Cut.self _) (Prm.self _ 19 (fun _ => rfl)) 0 rfl rfl rfl hw rfl hl.1 rfl (Nat.le_of_ble_eq_true rfl) dX1_fewestMore_31 (fun r_4 u_ H locs h hw => ?_)
      obtain ⟨T_3, rfl⟩ : ∃ z9 : RT, z9 = u_ := ⟨_, rfl⟩
      have hw : Hw s z A (mW z qG qT G ++ (pW z qT T_3 ++ (pW z qP P))) H locs := hw
      try dsimp only at h
      refine lv_iload_n hx hb dX1_fewestMore_34 rfl (lv_at hl 3 rfl) ?_
      refine lv_icmp_gt (tgt := 41) hx hb dX1_fewestMore_35 (by decide) (fun c_5 => ?_) (fun c_5 => ?_)
      · replace h := iT c_5 h
        obtain ⟨x5_6, ex5_6⟩ : ∃ y : Int32, y = (x5 + (1 : Int32)) := ⟨_, rfl⟩
        replace h := h x5_6 ex5_6
        refine lv_iinc (v := x5_6) (lv' := [(5, .int x5_6), (0, .ref (qG 0)), (1, .ref (qP 0)), (2, .int x2), (3, .int x3), (4, .int x4)]) hx hb dX1_fewestMore_41 hl (k := 5) rfl (by rw [ex5_6]; rfl) (by decide) rfl (fun ls hl => ?_)
        refine lv_goto (tgt := 3) hx hb dX1_fewestMore_44 (by decide) ?_
        exact ih T_3 x2 x3 x4 x5_6 H locs ls hw (lv_sub hl [1, 2, 3, 4, 5, 0] rfl) h
      · replace h := iF c_5 h
        refine lv_iload hx hb dX1_fewestMore_38 (lv_at hl 5 rfl) ?_
        exact rt_i M T_3 hw h dX1_fewestMore_40
set_option maxHeartbeats 4000000 in
set_option maxRecDepth 100000 in
theorem m_X1_fewestMore (l : Launch) (z : KT) (qG : Nat → Nat) (qP : Nat → Nat) (qT : Nat → Nat) (G : RT) (T : RT) (P : RT) (x2 : Int32) (x3 : Int32) (x4 : Int32) (Q : Int32 → RT → Prop) (h : wX1_fewestMore G T P x2 x3 x4 Q) : CI l yX1_fewestMore cX1_fewestMore 6 .int rmX1_fewestMore z [.ref (qG 0), .ref (qP 0), .int x2, .int x3, .int x4] (mW z qG qT G ++ (pW z qT T ++ (pW z qP P))) (fun u : RT => (mW z qG qT G ++ (pW z qT u ++ (pW z qP P)))) (fun (r : Int32) (u : RT) => Q r u) := by
  refine CI.of rfl (Nat.le_of_ble_eq_true rfl) ?_
  intro p e s m below meth c A ls M hw hl
  have M : Mc p s m _ meth c cX1_fewestMore 6 (some .int) RX1 z A := M
  obtain ⟨hx, hb, -, -, hown, hts, -, -, -, hN, hsr, -⟩ := id M
  have hl : lv_has ls 6 [(0, .ref (qG 0)), (1, .ref (qP 0)), (2, .int x2), (3, .int x3), (4, .int x4)] := hl
  unfold wX1_fewestMore at h
  generalize s.heap = H at hw ⊢
  generalize ([] : List Loc) = locs at hw ⊢
  refine lv_iconst (v := 0) hx hb dX1_fewestMore_0 (by decide) ?_
  refine lv_istore (lv' := [(5, .int (0 : Int32)), (0, .ref (qG 0)), (1, .ref (qP 0)), (2, .int x2), (3, .int x3), (4, .int x4)]) hx hb dX1_fewestMore_1 hl (by decide) rfl (fun ls hl => ?_)
  obtain ⟨n0, h⟩ := h; exact kX1_fewestMore_3 M n0 T x2 x3 x4 (0 : Int32) H locs ls hw (lv_sub hl [1, 2, 3, 4, 5, 0] rfl) h
abbrev rmX1_highestByTie : Room := { frames := 4, cells := 0, slots := 0, locals := 93 }
set_option maxHeartbeats 4000000 in
set_option maxRecDepth 100000 in
theorem kX1_highestByTie_101 {p : Program} {l : Launch} {e : Env} {s : State} {m : MethodId} {args : Array Value} {below : List Frame} {meth : Method} {c : Code} {z : KT} {A : Nat → Prop} {qG : Nat → Nat} {qP : Nat → Nat} {qT : Nat → Nat} {K32 : RT → Int32 → Int32 → Int32 → Int32 → Int32 → Prop} {G : RT} {P : RT} {Q : Int32 → RT → Prop} (M : Mc p s m args meth c cX1_highestByTie 7 (some .int) RX1 z A) (hK32 : ∀ (T : RT) (x2 : Int32) (x3 : Int32) (x4 : Int32) (x5 : Int32) (x6 : Int32) (H : Heap) (locs : List Loc) (ls : Array Slot), Hw s z A (mW z qG qT G ++ (pW z qT T ++ (pW z qP P))) H locs → lv_has ls 7 [(0, .ref (qG 0)), (1, .ref (qP 0)), (2, .int x2), (3, .int x3), (4, .int x4), (5, .int x5), (6, .int x6)] → K32 T x2 x3 x4 x5 x6 → W p l e rmX1_highestByTie s m args below meth c H locs 0 0 (MQ below (va_Qi (fun (r : Int32) (u : RT) => Q r u) (fun u t => cAt z A ((fun u : RT => (mW z qG qT G ++ (pW z qT u ++ (pW z qP P)))) u) t) A) args s 0 0 A) (F0 m 32 ls [])) : ∀ (T : RT) (x2 : Int32) (x3 : Int32) (x4 : Int32) (x5 : Int32) (x6 : Int32) (H : Heap) (locs : List Loc) (ls : Array Slot), Hw s z A (mW z qG qT G ++ (pW z qT T ++ (pW z qP P))) H locs → lv_has ls 7 [(0, .ref (qG 0)), (1, .ref (qP 0)), (2, .int x2), (3, .int x3), (4, .int x4), (5, .int x5), (6, .int x6)] → bX1_highestByTie_101 K32 G P Q T x2 x3 x4 x5 x6 → W p l e rmX1_highestByTie s m args below meth c H locs 0 0 (MQ below (va_Qi (fun (r : Int32) (u : RT) => Q r u) (fun u t => cAt z A ((fun u : RT => (mW z qG qT G ++ (pW z qT u ++ (pW z qP P)))) u) t) A) args s 0 0 A) (F0 m 101 ls []) := by
  obtain ⟨hx, hb, -, -, hown, hts, -, -, -, hN, hsr, -⟩ := id M
  intro T x2 x3 x4 x5 x6 H locs ls hw hl h
  unfold bX1_highestByTie_101 at h
  obtain ⟨x6_1, ex6_1⟩ : ∃ y : Int32, y = (x6 + (1 : Int32)) := ⟨_, rfl⟩
  replace h := h x6_1 ex6_1
  refine lv_iinc (v := x6_1) (lv' := [(6, .int x6_1), (0, .ref (qG 0)), (1, .ref (qP 0)), (2, .int x2), (3, .int x3), (4, .int x4), (5, .int x5)]) hx hb dX1_highestByTie_101 hl (k := 6) rfl (by rw [ex6_1]; rfl) (by decide) rfl (fun ls hl => ?_)
  refine lv_goto (tgt := 32) hx hb dX1_highestByTie_104 (by decide) ?_
  exact hK32 T x2 x3 x4 x5 x6_1 H locs ls hw (lv_sub hl [1, 2, 3, 4, 5, 6, 0] rfl) h
set_option maxHeartbeats 4000000 in
set_option maxRecDepth 100000 in
theorem kX1_highestByTie_32 {p : Program} {l : Launch} {e : Env} {s : State} {m : MethodId} {args : Array Value} {below : List Frame} {meth : Method} {c : Code} {z : KT} {A : Nat → Prop} {qG : Nat → Nat} {qP : Nat → Nat} {qT : Nat → Nat} {G : RT} {P : RT} {Q : Int32 → RT → Prop} (M : Mc p s m args meth c cX1_highestByTie 7 (some .int) RX1 z A) : ∀ (n : Nat) (T : RT) (x2 : Int32) (x3 : Int32) (x4 : Int32) (x5 : Int32) (x6 : Int32) (H : Heap) (locs : List Loc) (ls : Array Slot), Hw s z A (mW z qG qT G ++ (pW z qT T ++ (pW z qP P))) H locs → lv_has ls 7 [(0, .ref (qG 0)), (1, .ref (qP 0)), (2, .int x2), (3, .int x3), (4, .int x4), (5, .int x5), (6, .int x6)] → bX1_highestByTie_32 G P Q n T x2 x3 x4 x5 x6 → W p l e rmX1_highestByTie s m args below meth c H locs 0 0 (MQ below (va_Qi (fun (r : Int32) (u : RT) => Q r u) (fun u t => cAt z A ((fun u : RT => (mW z qG qT G ++ (pW z qT u ++ (pW z qP P)))) u) t) A) args s 0 0 A) (F0 m 32 ls []) := by
  obtain ⟨hx, hb, -, -, hown, hts, -, -, -, hN, hsr, -⟩ := id M
  intro n
  induction n with
  | zero => intro T x2 x3 x4 x5 x6 H locs ls hw hl h; exact False.elim h
  | succ n ih =>
    intro T x2 x3 x4 x5 x6 H locs ls hw hl h
    rw [bX1_highestByTie_32] at h
    refine lv_iload hx hb dX1_highestByTie_32 (lv_at hl 6 rfl) ?_
    refine lv_aload_n hx hb dX1_highestByTie_34 rfl (lv_at hl 1 rfl) ?_
    refine gt_f (v := .int (P 30 7)) M inlX3 hw 11 rfl rfl 7 (by decide) fl_X1_51 rfl rfl dX1_highestByTie_35 ?_
    refine lv_icmp_ge (tgt := 107) hx hb dX1_highestByTie_38 (by decide) (fun c_1 => ?_) (fun c_1 => ?_)
    · replace h := iT c_1 h
      refine lv_iload hx hb dX1_highestByTie_107 (lv_at hl 4 rfl) ?_
      exact rt_i M T hw h dX1_highestByTie_109
    · replace h := iF c_1 h
      refine lv_iload hx hb dX1_highestByTie_41 (lv_at hl 6 rfl) ?_
      refine lv_iload_n hx hb dX1_highestByTie_43 rfl (lv_at hl 2 rfl) ?_
      refine lv_icmp_eq (tgt := 101) hx hb dX1_highestByTie_44 (by decide) (fun c_2 => ?_) (fun c_2 => ?_)
      · replace h := iT c_2 h
        exact kX1_highestByTie_101 M ih T x2 x3 x4 x5 x6 H locs ls hw (lv_sub hl [0, 1, 2, 3, 4, 5, 6] rfl) h
      · replace h := iF c_2 h
        refine lv_aload_n hx hb dX1_highestByTie_47 rfl (lv_at hl 0 rfl) ?_
        refine lv_aload_n hx hb dX1_highestByTie_48 rfl (lv_at hl 1 rfl) ?_
        refine fr_Vr (wN := fun u : RT => (mW z qG qT G ++ (pW z qT u ++ (pW z qP P)))) M (m_X1_begin l z qG qP qT G T P _ h) (cwV 1 hts (gdV cd_X1_begin ml_X1_33 im_X1_begin se_X1_begin in_X1) rfl rfl rfl hdV_X1_begin ⟨(Nat.le_of_ble_eq_true rfl), (Nat.le_of_ble_eq_true rfl)⟩) (Cut.self _) (Prm.self _ 19 (fun _ => rfl)) 0 rfl rfl rfl hw rfl hl.1 rfl (Nat.le_of_ble_eq_true rfl) dX1_highestByTie_49 (fun ra_ u_ H locs h hw => ?_)
        obtain ⟨T_3, rfl⟩ : ∃ z9 : RT, z9 = u_ := ⟨_, rfl⟩
        obtain ⟨rfl, h⟩ := h
        have hw : Hw s z A (mW z qG qT G ++ (pW z qT T_3 ++ (pW z qP P))) H locs := hw
        try dsimp only at h
        refine lv_pop hx hb dX1_highestByTie_52 rfl ?_
        refine lv_aload_n hx hb dX1_highestByTie_53 rfl (lv_at hl 0 rfl) ?_
        refine gt_f (v := .ref (qT 0)) M inlX1 hw 0 rfl rfl 0 (by decide) fl_X1_12 rfl rfl dX1_highestByTie_54 ?_
        refine lv_iload_n hx hb dX1_highestByTie_57 rfl (lv_at hl 2 rfl) ?_
        refine lv_iload hx hb dX1_highestByTie_58 (lv_at hl 6 rfl) ?_
        refine fr_Vi (wN := fun u : RT => (mW z qG qT G ++ (pW z qT u ++ (pW z qP P)))) M (m_X3_addRope l z qT T_3 x2 x6 _ h) (cwV 2 hts (gdV cd_X3_addRope ml_X1_83 im_X3_addRope se_X3_addRope in_X3) rfl rfl rfl hdV_X3_addRope ⟨(Nat.le_of_ble_eq_true rfl), (Nat.le_of_ble_eq_true rfl)⟩) cut_2 prm_2 0 rfl rfl rfl hw rfl hl.1 rfl (Nat.le_of_ble_eq_true rfl) dX1_highestByTie_60 (fun r_5 u_ H locs h hw => ?_)
        obtain ⟨T_4, rfl⟩ : ∃ z9 : RT, z9 = u_ := ⟨_, rfl⟩
        have hw : Hw s z A (mW z qG qT G ++ (pW z qT T_4 ++ (pW z qP P))) H locs := hw
        try dsimp only at h
        refine lv_pop hx hb dX1_highestByTie_63 rfl ?_
        refine lv_aload_n hx hb dX1_highestByTie_64 rfl (lv_at hl 0 rfl) ?_
        refine gt_f (v := .ref (qT 0)) M inlX1 hw 0 rfl rfl 0 (by decide) fl_X1_12 rfl rfl dX1_highestByTie_65 ?_
        refine lv_iload_n hx hb dX1_highestByTie_68 rfl (lv_at hl 3 rfl) ?_
        refine fr_Vv (wN := fun u : RT => (mW z qG qT G ++ (pW z qT u ++ (pW z qP P)))) M (m_X3_goHours l z qT T_4 x3 _ h) (cwV 1 hts (gdV cd_X3_goHours ml_X1_29 im_X3_goHours se_X3_goHours in_X3) rfl rfl rfl hdV_X3_goHours ⟨(Nat.le_of_ble_eq_true rfl), (Nat.le_of_ble_eq_true rfl)⟩) cut_2 prm_2 0 rfl rfl rfl hw rfl hl.1 rfl (Nat.le_of_ble_eq_true rfl) dX1_highestByTie_69 (fun u_ H locs h hw => ?_)
        obtain ⟨T_6, rfl⟩ : ∃ z9 : RT, z9 = u_ := ⟨_, rfl⟩
        have hw : Hw s z A (mW z qG qT G ++ (pW z qT T_6 ++ (pW z qP P))) H locs := hw
        try dsimp only at h
        refine lv_aload_n hx hb dX1_highestByTie_72 rfl (lv_at hl 0 rfl) ?_
        refine gt_f (v := .ref (qT 0)) M inlX1 hw 0 rfl rfl 0 (by decide) fl_X1_12 rfl rfl dX1_highestByTie_73 ?_
        refine gt_f (v := .ref (qT 5)) M inlX3 hw 3 rfl rfl 4 (by decide) fl_X1_37 rfl rfl dX1_highestByTie_76 ?_
        refine lv_iload_n hx hb dX1_highestByTie_79 rfl (lv_at hl 2 rfl) ?_
        obtain ⟨a_7, h⟩ := h
        refine ld_i M hw 8 rfl a_7 dX1_highestByTie_80 ?_
        refine lv_iload hx hb dX1_highestByTie_81 (lv_at hl 5 rfl) ?_
        refine lv_icmp_le (tgt := 101) hx hb dX1_highestByTie_83 (by decide) (fun c_8 => ?_) (fun c_8 => ?_)
        · replace h := iT c_8 h
          exact kX1_highestByTie_101 M ih T_6 x2 x3 x4 x5 x6 H locs ls hw (lv_sub hl [0, 1, 2, 3, 4, 5, 6] rfl) h
        · replace h := iF c_8 h
          refine lv_aload_n hx hb dX1_highestByTie_86 rfl (lv_at hl 0 rfl) ?_
          refine gt_f (v := .ref (qT 0)) M inlX1 hw 0 rfl rfl 0 (by decide) fl_X1_12 rfl rfl dX1_highestByTie_87 ?_
          refine gt_f (v := .ref (qT 5)) M inlX3 hw 3 rfl rfl 4 (by decide) fl_X1_37 rfl rfl dX1_highestByTie_90 ?_
          refine lv_iload_n hx hb dX1_highestByTie_93 rfl (lv_at hl 2 rfl) ?_
          refine ld_i M hw 8 rfl a_7 dX1_highestByTie_94 ?_
          refine lv_topi (fun x5_9 ex5_9 => ?_)
          replace h := h x5_9 ex5_9
          refine lv_istore (lv' := [(5, .int x5_9), (0, .ref (qG 0)), (1, .ref (qP 0)), (2, .int x2), (3, .int x3), (4, .int x4), (6, .int x6)]) hx hb dX1_highestByTie_95 hl (by decide) rfl (fun ls hl => ?_)
          refine lv_iload hx hb dX1_highestByTie_97 (lv_at hl 6 rfl) ?_
          refine lv_istore (lv' := [(4, .int x6), (5, .int x5_9), (0, .ref (qG 0)), (1, .ref (qP 0)), (2, .int x2), (3, .int x3), (6, .int x6)]) hx hb dX1_highestByTie_99 hl (by decide) rfl (fun ls hl => ?_)
          exact kX1_highestByTie_101 M ih T_6 x2 x3 x6 x5_9 x6 H locs ls hw (lv_sub hl [2, 3, 4, 5, 0, 1, 6] rfl) h
set_option maxHeartbeats 4000000 in
set_option maxRecDepth 100000 in
theorem m_X1_highestByTie (l : Launch) (z : KT) (qG : Nat → Nat) (qP : Nat → Nat) (qT : Nat → Nat) (G : RT) (T : RT) (P : RT) (x2 : Int32) (x3 : Int32) (Q : Int32 → RT → Prop) (h : wX1_highestByTie G T P x2 x3 Q) : CI l yX1_highestByTie cX1_highestByTie 7 .int rmX1_highestByTie z [.ref (qG 0), .ref (qP 0), .int x2, .int x3] (mW z qG qT G ++ (pW z qT T ++ (pW z qP P))) (fun u : RT => (mW z qG qT G ++ (pW z qT u ++ (pW z qP P)))) (fun (r : Int32) (u : RT) => Q r u) := by
  refine CI.of rfl (Nat.le_of_ble_eq_true rfl) ?_
  intro p e s m below meth c A ls M hw hl
  have M : Mc p s m _ meth c cX1_highestByTie 7 (some .int) RX1 z A := M
  obtain ⟨hx, hb, -, -, hown, hts, -, -, -, hN, hsr, -⟩ := id M
  have hl : lv_has ls 7 [(0, .ref (qG 0)), (1, .ref (qP 0)), (2, .int x2), (3, .int x3)] := hl
  unfold wX1_highestByTie at h
  generalize s.heap = H at hw ⊢
  generalize ([] : List Loc) = locs at hw ⊢
  refine lv_aload_n hx hb dX1_highestByTie_0 rfl (lv_at hl 1 rfl) ?_
  refine gt_f (v := .int (P 30 8)) M inlX3 hw 11 rfl rfl 8 (by decide) fl_X1_76 rfl rfl dX1_highestByTie_1 ?_
  refine lv_bipush (v := 6) hx hb dX1_highestByTie_4 (by decide) ?_
  refine lv_icmp_lt (tgt := 12) hx hb dX1_highestByTie_6 (by decide) (fun c_1 => ?_) (fun c_1 => ?_)
  · replace h := iT c_1 h
    refine lv_bipush (v := -9) hx hb dX1_highestByTie_12 (by decide) ?_
    refine lv_istore (lv' := [(4, .int (-9 : Int32)), (0, .ref (qG 0)), (1, .ref (qP 0)), (2, .int x2), (3, .int x3)]) hx hb dX1_highestByTie_14 hl (by decide) rfl (fun ls hl => ?_)
    refine lv_aload_n hx hb dX1_highestByTie_16 rfl (lv_at hl 1 rfl) ?_
    refine lv_aload_n hx hb dX1_highestByTie_17 rfl (lv_at hl 2 rfl) ?_
    refine lv_iload_n hx hb dX1_highestByTie_18 rfl (lv_at hl 4 rfl) ?_
    refine fr_Vr (wN := fun u : RT => (mW z qG qT G ++ (pW z qT u ++ (pW z qP P)))) M (m_X1_behind l z qG qP qT G T P x3 _ h) (cwV 2 hts (gdV cd_X1_behind ml_X1_79 im_X1_behind se_X1_behind in_X1) rfl rfl rfl hdV_X1_behind ⟨(Nat.le_of_ble_eq_true rfl), (Nat.le_of_ble_eq_true rfl)⟩) (Cut.self _) (Prm.self _ 19 (fun _ => rfl)) 0 rfl rfl rfl hw rfl hl.1 rfl (Nat.le_of_ble_eq_true rfl) dX1_highestByTie_19 (fun ra_ u_ H locs h hw => ?_)
    obtain ⟨T_2, rfl⟩ : ∃ z9 : RT, z9 = u_ := ⟨_, rfl⟩
    obtain ⟨rfl, h⟩ := h
    have hw : Hw s z A (mW z qG qT G ++ (pW z qT T_2 ++ (pW z qP P))) H locs := hw
    try dsimp only at h
    refine gt_f (v := .ref (qT 5)) M inlX3 hw 3 rfl rfl 4 (by decide) fl_X1_37 rfl rfl dX1_highestByTie_22 ?_
    refine lv_iload_n hx hb dX1_highestByTie_25 rfl (lv_at hl 3 rfl) ?_
    obtain ⟨a_3, h⟩ := h
    refine ld_i M hw 8 rfl a_3 dX1_highestByTie_26 ?_
    refine lv_topi (fun x5_4 ex5_4 => ?_)
    replace h := h x5_4 ex5_4
    refine lv_istore (lv' := [(5, .int x5_4), (4, .int (-9 : Int32)), (0, .ref (qG 0)), (1, .ref (qP 0)), (2, .int x2), (3, .int x3)]) hx hb dX1_highestByTie_27 hl (by decide) rfl (fun ls hl => ?_)
    refine lv_iconst (v := 0) hx hb dX1_highestByTie_29 (by decide) ?_
    refine lv_istore (lv' := [(6, .int (0 : Int32)), (5, .int x5_4), (4, .int (-9 : Int32)), (0, .ref (qG 0)), (1, .ref (qP 0)), (2, .int x2), (3, .int x3)]) hx hb dX1_highestByTie_30 hl (by decide) rfl (fun ls hl => ?_)
    obtain ⟨n0, h⟩ := h; exact kX1_highestByTie_32 M n0 T_2 x2 x3 (-9 : Int32) x5_4 (0 : Int32) H locs ls hw (lv_sub hl [3, 4, 5, 6, 2, 1, 0] rfl) h
  · replace h := iF c_1 h
    refine lv_bipush (v := -9) hx hb dX1_highestByTie_9 (by decide) ?_
    exact rt_i M T hw h dX1_highestByTie_11
abbrev rmX1_highestByCut : Room := { frames := 4, cells := 0, slots := 0, locals := 93 }
set_option maxHeartbeats 4000000 in
set_option maxRecDepth 100000 in
theorem kX1_highestByCut_82 {p : Program} {l : Launch} {e : Env} {s : State} {m : MethodId} {args : Array Value} {below : List Frame} {meth : Method} {c : Code} {z : KT} {A : Nat → Prop} {qG : Nat → Nat} {qP : Nat → Nat} {qT : Nat → Nat} {K20 : RT → Int32 → Int32 → Int32 → Int32 → Int32 → Prop} {G : RT} {P : RT} {Q : Int32 → RT → Prop} (M : Mc p s m args meth c cX1_highestByCut 7 (some .int) RX1 z A) (hK20 : ∀ (T : RT) (x2 : Int32) (x3 : Int32) (x4 : Int32) (x5 : Int32) (x6 : Int32) (H : Heap) (locs : List Loc) (ls : Array Slot), Hw s z A (mW z qG qT G ++ (pW z qT T ++ (pW z qP P))) H locs → lv_has ls 7 [(0, .ref (qG 0)), (1, .ref (qP 0)), (2, .int x2), (3, .int x3), (4, .int x4), (5, .int x5), (6, .int x6)] → K20 T x2 x3 x4 x5 x6 → W p l e rmX1_highestByCut s m args below meth c H locs 0 0 (MQ below (va_Qi (fun (r : Int32) (u : RT) => Q r u) (fun u t => cAt z A ((fun u : RT => (mW z qG qT G ++ (pW z qT u ++ (pW z qP P)))) u) t) A) args s 0 0 A) (F0 m 20 ls [])) : ∀ (T : RT) (x2 : Int32) (x3 : Int32) (x4 : Int32) (x5 : Int32) (x6 : Int32) (H : Heap) (locs : List Loc) (ls : Array Slot), Hw s z A (mW z qG qT G ++ (pW z qT T ++ (pW z qP P))) H locs → lv_has ls 7 [(0, .ref (qG 0)), (1, .ref (qP 0)), (2, .int x2), (3, .int x3), (4, .int x4), (5, .int x5), (6, .int x6)] → bX1_highestByCut_82 K20 G P Q T x2 x3 x4 x5 x6 → W p l e rmX1_highestByCut s m args below meth c H locs 0 0 (MQ below (va_Qi (fun (r : Int32) (u : RT) => Q r u) (fun u t => cAt z A ((fun u : RT => (mW z qG qT G ++ (pW z qT u ++ (pW z qP P)))) u) t) A) args s 0 0 A) (F0 m 82 ls []) := by
  obtain ⟨hx, hb, -, -, hown, hts, -, -, -, hN, hsr, -⟩ := id M
  intro T x2 x3 x4 x5 x6 H locs ls hw hl h
  unfold bX1_highestByCut_82 at h
  obtain ⟨x6_1, ex6_1⟩ : ∃ y : Int32, y = (x6 + (1 : Int32)) := ⟨_, rfl⟩
  replace h := h x6_1 ex6_1
  refine lv_iinc (v := x6_1) (lv' := [(6, .int x6_1), (0, .ref (qG 0)), (1, .ref (qP 0)), (2, .int x2), (3, .int x3), (4, .int x4), (5, .int x5)]) hx hb dX1_highestByCut_82 hl (k := 6) rfl (by rw [ex6_1]; rfl) (by decide) rfl (fun ls hl => ?_)
  refine lv_goto (tgt := 20) hx hb dX1_highestByCut_85 (by decide) ?_
  exact hK20 T x2 x3 x4 x5 x6_1 H locs ls hw (lv_sub hl [1, 2, 3, 4, 5, 6, 0] rfl) h
set_option maxHeartbeats 4000000 in
set_option maxRecDepth 100000 in
theorem kX1_highestByCut_20 {p : Program} {l : Launch} {e : Env} {s : State} {m : MethodId} {args : Array Value} {below : List Frame} {meth : Method} {c : Code} {z : KT} {A : Nat → Prop} {qG : Nat → Nat} {qP : Nat → Nat} {qT : Nat → Nat} {G : RT} {P : RT} {Q : Int32 → RT → Prop} (M : Mc p s m args meth c cX1_highestByCut 7 (some .int) RX1 z A) : ∀ (n : Nat) (T : RT) (x2 : Int32) (x3 : Int32) (x4 : Int32) (x5 : Int32) (x6 : Int32) (H : Heap) (locs : List Loc) (ls : Array Slot), Hw s z A (mW z qG qT G ++ (pW z qT T ++ (pW z qP P))) H locs → lv_has ls 7 [(0, .ref (qG 0)), (1, .ref (qP 0)), (2, .int x2), (3, .int x3), (4, .int x4), (5, .int x5), (6, .int x6)] → bX1_highestByCut_20 G P Q n T x2 x3 x4 x5 x6 → W p l e rmX1_highestByCut s m args below meth c H locs 0 0 (MQ below (va_Qi (fun (r : Int32) (u : RT) => Q r u) (fun u t => cAt z A ((fun u : RT => (mW z qG qT G ++ (pW z qT u ++ (pW z qP P)))) u) t) A) args s 0 0 A) (F0 m 20 ls []) := by
  obtain ⟨hx, hb, -, -, hown, hts, -, -, -, hN, hsr, -⟩ := id M
  intro n
  induction n with
  | zero => intro T x2 x3 x4 x5 x6 H locs ls hw hl h; exact False.elim h
  | succ n ih =>
    intro T x2 x3 x4 x5 x6 H locs ls hw hl h
    rw [bX1_highestByCut_20] at h
    refine lv_iload hx hb dX1_highestByCut_20 (lv_at hl 6 rfl) ?_
    refine lv_aload_n hx hb dX1_highestByCut_22 rfl (lv_at hl 1 rfl) ?_
    refine gt_f (v := .int (P 30 8)) M inlX3 hw 11 rfl rfl 8 (by decide) fl_X1_76 rfl rfl dX1_highestByCut_23 ?_
    refine lv_icmp_ge (tgt := 88) hx hb dX1_highestByCut_26 (by decide) (fun c_1 => ?_) (fun c_1 => ?_)
    · replace h := iT c_1 h
      refine lv_iload hx hb dX1_highestByCut_88 (lv_at hl 4 rfl) ?_
      exact rt_i M T hw h dX1_highestByCut_90
    · replace h := iF c_1 h
      refine lv_aload_n hx hb dX1_highestByCut_29 rfl (lv_at hl 0 rfl) ?_
      refine lv_aload_n hx hb dX1_highestByCut_30 rfl (lv_at hl 1 rfl) ?_
      refine fr_Vr (wN := fun u : RT => (mW z qG qT G ++ (pW z qT u ++ (pW z qP P)))) M (m_X1_begin l z qG qP qT G T P _ h) (cwV 1 hts (gdV cd_X1_begin ml_X1_33 im_X1_begin se_X1_begin in_X1) rfl rfl rfl hdV_X1_begin ⟨(Nat.le_of_ble_eq_true rfl), (Nat.le_of_ble_eq_true rfl)⟩) (Cut.self _) (Prm.self _ 19 (fun _ => rfl)) 0 rfl rfl rfl hw rfl hl.1 rfl (Nat.le_of_ble_eq_true rfl) dX1_highestByCut_31 (fun ra_ u_ H locs h hw => ?_)
      obtain ⟨T_2, rfl⟩ : ∃ z9 : RT, z9 = u_ := ⟨_, rfl⟩
      obtain ⟨rfl, h⟩ := h
      have hw : Hw s z A (mW z qG qT G ++ (pW z qT T_2 ++ (pW z qP P))) H locs := hw
      try dsimp only at h
      refine lv_pop hx hb dX1_highestByCut_34 rfl ?_
      refine lv_aload_n hx hb dX1_highestByCut_35 rfl (lv_at hl 0 rfl) ?_
      refine gt_f (v := .ref (qT 0)) M inlX1 hw 0 rfl rfl 0 (by decide) fl_X1_12 rfl rfl dX1_highestByCut_36 ?_
      refine lv_iload hx hb dX1_highestByCut_39 (lv_at hl 6 rfl) ?_
      refine fr_Vi (wN := fun u : RT => (mW z qG qT G ++ (pW z qT u ++ (pW z qP P)))) M (m_X3_dropRope l z qT T_2 x6 _ h) (cwV 1 hts (gdV cd_X3_dropRope ml_X1_87 im_X3_dropRope se_X3_dropRope in_X3) rfl rfl rfl hdV_X3_dropRope ⟨(Nat.le_of_ble_eq_true rfl), (Nat.le_of_ble_eq_true rfl)⟩) cut_2 prm_2 0 rfl rfl rfl hw rfl hl.1 rfl (Nat.le_of_ble_eq_true rfl) dX1_highestByCut_41 (fun r_4 u_ H locs h hw => ?_)
      obtain ⟨T_3, rfl⟩ : ∃ z9 : RT, z9 = u_ := ⟨_, rfl⟩
      have hw : Hw s z A (mW z qG qT G ++ (pW z qT T_3 ++ (pW z qP P))) H locs := hw
      try dsimp only at h
      refine lv_pop hx hb dX1_highestByCut_44 rfl ?_
      refine lv_aload_n hx hb dX1_highestByCut_45 rfl (lv_at hl 0 rfl) ?_
      refine gt_f (v := .ref (qT 0)) M inlX1 hw 0 rfl rfl 0 (by decide) fl_X1_12 rfl rfl dX1_highestByCut_46 ?_
      refine lv_iload_n hx hb dX1_highestByCut_49 rfl (lv_at hl 3 rfl) ?_
      refine fr_Vv (wN := fun u : RT => (mW z qG qT G ++ (pW z qT u ++ (pW z qP P)))) M (m_X3_goHours l z qT T_3 x3 _ h) (cwV 1 hts (gdV cd_X3_goHours ml_X1_29 im_X3_goHours se_X3_goHours in_X3) rfl rfl rfl hdV_X3_goHours ⟨(Nat.le_of_ble_eq_true rfl), (Nat.le_of_ble_eq_true rfl)⟩) cut_2 prm_2 0 rfl rfl rfl hw rfl hl.1 rfl (Nat.le_of_ble_eq_true rfl) dX1_highestByCut_50 (fun u_ H locs h hw => ?_)
      obtain ⟨T_5, rfl⟩ : ∃ z9 : RT, z9 = u_ := ⟨_, rfl⟩
      have hw : Hw s z A (mW z qG qT G ++ (pW z qT T_5 ++ (pW z qP P))) H locs := hw
      try dsimp only at h
      refine lv_aload_n hx hb dX1_highestByCut_53 rfl (lv_at hl 0 rfl) ?_
      refine gt_f (v := .ref (qT 0)) M inlX1 hw 0 rfl rfl 0 (by decide) fl_X1_12 rfl rfl dX1_highestByCut_54 ?_
      refine gt_f (v := .ref (qT 5)) M inlX3 hw 3 rfl rfl 4 (by decide) fl_X1_37 rfl rfl dX1_highestByCut_57 ?_
      refine lv_iload_n hx hb dX1_highestByCut_60 rfl (lv_at hl 2 rfl) ?_
      obtain ⟨a_6, h⟩ := h
      refine ld_i M hw 8 rfl a_6 dX1_highestByCut_61 ?_
      refine lv_iload hx hb dX1_highestByCut_62 (lv_at hl 5 rfl) ?_
      refine lv_icmp_le (tgt := 82) hx hb dX1_highestByCut_64 (by decide) (fun c_7 => ?_) (fun c_7 => ?_)
      · replace h := iT c_7 h
        exact kX1_highestByCut_82 M ih T_5 x2 x3 x4 x5 x6 H locs ls hw (lv_sub hl [0, 1, 2, 3, 4, 5, 6] rfl) h
      · replace h := iF c_7 h
        refine lv_aload_n hx hb dX1_highestByCut_67 rfl (lv_at hl 0 rfl) ?_
        refine gt_f (v := .ref (qT 0)) M inlX1 hw 0 rfl rfl 0 (by decide) fl_X1_12 rfl rfl dX1_highestByCut_68 ?_
        refine gt_f (v := .ref (qT 5)) M inlX3 hw 3 rfl rfl 4 (by decide) fl_X1_37 rfl rfl dX1_highestByCut_71 ?_
        refine lv_iload_n hx hb dX1_highestByCut_74 rfl (lv_at hl 2 rfl) ?_
        refine ld_i M hw 8 rfl a_6 dX1_highestByCut_75 ?_
        refine lv_topi (fun x5_8 ex5_8 => ?_)
        replace h := h x5_8 ex5_8
        refine lv_istore (lv' := [(5, .int x5_8), (0, .ref (qG 0)), (1, .ref (qP 0)), (2, .int x2), (3, .int x3), (4, .int x4), (6, .int x6)]) hx hb dX1_highestByCut_76 hl (by decide) rfl (fun ls hl => ?_)
        refine lv_iload hx hb dX1_highestByCut_78 (lv_at hl 6 rfl) ?_
        refine lv_istore (lv' := [(4, .int x6), (5, .int x5_8), (0, .ref (qG 0)), (1, .ref (qP 0)), (2, .int x2), (3, .int x3), (6, .int x6)]) hx hb dX1_highestByCut_80 hl (by decide) rfl (fun ls hl => ?_)
        exact kX1_highestByCut_82 M ih T_5 x2 x3 x6 x5_8 x6 H locs ls hw (lv_sub hl [2, 3, 4, 5, 0, 1, 6] rfl) h
set_option maxHeartbeats 4000000 in
set_option maxRecDepth 100000 in
theorem m_X1_highestByCut (l : Launch) (z : KT) (qG : Nat → Nat) (qP : Nat → Nat) (qT : Nat → Nat) (G : RT) (T : RT) (P : RT) (x2 : Int32) (x3 : Int32) (Q : Int32 → RT → Prop) (h : wX1_highestByCut G T P x2 x3 Q) : CI l yX1_highestByCut cX1_highestByCut 7 .int rmX1_highestByCut z [.ref (qG 0), .ref (qP 0), .int x2, .int x3] (mW z qG qT G ++ (pW z qT T ++ (pW z qP P))) (fun u : RT => (mW z qG qT G ++ (pW z qT u ++ (pW z qP P)))) (fun (r : Int32) (u : RT) => Q r u) := by
  refine CI.of rfl (Nat.le_of_ble_eq_true rfl) ?_
  intro p e s m below meth c A ls M hw hl
  have M : Mc p s m _ meth c cX1_highestByCut 7 (some .int) RX1 z A := M
  obtain ⟨hx, hb, -, -, hown, hts, -, -, -, hN, hsr, -⟩ := id M
  have hl : lv_has ls 7 [(0, .ref (qG 0)), (1, .ref (qP 0)), (2, .int x2), (3, .int x3)] := hl
  unfold wX1_highestByCut at h
  generalize s.heap = H at hw ⊢
  generalize ([] : List Loc) = locs at hw ⊢
  refine lv_bipush (v := -9) hx hb dX1_highestByCut_0 (by decide) ?_
  refine lv_istore (lv' := [(4, .int (-9 : Int32)), (0, .ref (qG 0)), (1, .ref (qP 0)), (2, .int x2), (3, .int x3)]) hx hb dX1_highestByCut_2 hl (by decide) rfl (fun ls hl => ?_)
  refine lv_aload_n hx hb dX1_highestByCut_4 rfl (lv_at hl 1 rfl) ?_
  refine lv_aload_n hx hb dX1_highestByCut_5 rfl (lv_at hl 2 rfl) ?_
  refine lv_iload_n hx hb dX1_highestByCut_6 rfl (lv_at hl 4 rfl) ?_
  refine fr_Vr (wN := fun u : RT => (mW z qG qT G ++ (pW z qT u ++ (pW z qP P)))) M (m_X1_behind l z qG qP qT G T P x3 _ h) (cwV 2 hts (gdV cd_X1_behind ml_X1_79 im_X1_behind se_X1_behind in_X1) rfl rfl rfl hdV_X1_behind ⟨(Nat.le_of_ble_eq_true rfl), (Nat.le_of_ble_eq_true rfl)⟩) (Cut.self _) (Prm.self _ 19 (fun _ => rfl)) 0 rfl rfl rfl hw rfl hl.1 rfl (Nat.le_of_ble_eq_true rfl) dX1_highestByCut_7 (fun ra_ u_ H locs h hw => ?_)
  obtain ⟨T_1, rfl⟩ : ∃ z9 : RT, z9 = u_ := ⟨_, rfl⟩
  obtain ⟨rfl, h⟩ := h
  have hw : Hw s z A (mW z qG qT G ++ (pW z qT T_1 ++ (pW z qP P))) H locs := hw
  try dsimp only at h
  refine gt_f (v := .ref (qT 5)) M inlX3 hw 3 rfl rfl 4 (by decide) fl_X1_37 rfl rfl dX1_highestByCut_10 ?_
  refine lv_iload_n hx hb dX1_highestByCut_13 rfl (lv_at hl 3 rfl) ?_
  obtain ⟨a_2, h⟩ := h
  refine ld_i M hw 8 rfl a_2 dX1_highestByCut_14 ?_
  refine lv_topi (fun x5_3 ex5_3 => ?_)
  replace h := h x5_3 ex5_3
  refine lv_istore (lv' := [(5, .int x5_3), (4, .int (-9 : Int32)), (0, .ref (qG 0)), (1, .ref (qP 0)), (2, .int x2), (3, .int x3)]) hx hb dX1_highestByCut_15 hl (by decide) rfl (fun ls hl => ?_)
  refine lv_iconst (v := 0) hx hb dX1_highestByCut_17 (by decide) ?_
  refine lv_istore (lv' := [(6, .int (0 : Int32)), (5, .int x5_3), (4, .int (-9 : Int32)), (0, .ref (qG 0)), (1, .ref (qP 0)), (2, .int x2), (3, .int x3)]) hx hb dX1_highestByCut_18 hl (by decide) rfl (fun ls hl => ?_)
  obtain ⟨n0, h⟩ := h; exact kX1_highestByCut_20 M n0 T_1 x2 x3 (-9 : Int32) x5_3 (0 : Int32) H locs ls hw (lv_sub hl [3, 4, 5, 6, 2, 1, 0] rfl) h
abbrev rmX1_highestByStone : Room := { frames := 4, cells := 0, slots := 0, locals := 93 }
set_option maxHeartbeats 4000000 in
set_option maxRecDepth 100000 in
theorem kX1_highestByStone_90 {p : Program} {l : Launch} {e : Env} {s : State} {m : MethodId} {args : Array Value} {below : List Frame} {meth : Method} {c : Code} {z : KT} {A : Nat → Prop} {qG : Nat → Nat} {qP : Nat → Nat} {qT : Nat → Nat} {K17 : RT → Int32 → Int32 → Int32 → Int32 → Prop} {G : RT} {P : RT} {Q : Int32 → RT → Prop} (M : Mc p s m args meth c cX1_highestByStone 6 (some .int) RX1 z A) (hK17 : ∀ (T : RT) (x2 : Int32) (x3 : Int32) (x4 : Int32) (x5 : Int32) (H : Heap) (locs : List Loc) (ls : Array Slot), Hw s z A (mW z qG qT G ++ (pW z qT T ++ (pW z qP P))) H locs → lv_has ls 6 [(0, .ref (qG 0)), (1, .ref (qP 0)), (2, .int x2), (3, .int x3), (4, .int x4), (5, .int x5)] → K17 T x2 x3 x4 x5 → W p l e rmX1_highestByStone s m args below meth c H locs 0 0 (MQ below (va_Qi (fun (r : Int32) (u : RT) => Q r u) (fun u t => cAt z A ((fun u : RT => (mW z qG qT G ++ (pW z qT u ++ (pW z qP P)))) u) t) A) args s 0 0 A) (F0 m 17 ls [])) : ∀ (T : RT) (x2 : Int32) (x3 : Int32) (x4 : Int32) (x5 : Int32) (H : Heap) (locs : List Loc) (ls : Array Slot), Hw s z A (mW z qG qT G ++ (pW z qT T ++ (pW z qP P))) H locs → lv_has ls 6 [(0, .ref (qG 0)), (1, .ref (qP 0)), (2, .int x2), (3, .int x3), (4, .int x4), (5, .int x5)] → bX1_highestByStone_90 K17 G P Q T x2 x3 x4 x5 → W p l e rmX1_highestByStone s m args below meth c H locs 0 0 (MQ below (va_Qi (fun (r : Int32) (u : RT) => Q r u) (fun u t => cAt z A ((fun u : RT => (mW z qG qT G ++ (pW z qT u ++ (pW z qP P)))) u) t) A) args s 0 0 A) (F0 m 90 ls []) := by
  obtain ⟨hx, hb, -, -, hown, hts, -, -, -, hN, hsr, -⟩ := id M
  intro T x2 x3 x4 x5 H locs ls hw hl h
  unfold bX1_highestByStone_90 at h
  obtain ⟨x5_1, ex5_1⟩ : ∃ y : Int32, y = (x5 + (1 : Int32)) := ⟨_, rfl⟩
  replace h := h x5_1 ex5_1
  refine lv_iinc (v := x5_1) (lv' := [(5, .int x5_1), (0, .ref (qG 0)), (1, .ref (qP 0)), (2, .int x2), (3, .int x3), (4, .int x4)]) hx hb dX1_highestByStone_90 hl (k := 5) rfl (by rw [ex5_1]; rfl) (by decide) rfl (fun ls hl => ?_)
  refine lv_goto (tgt := 17) hx hb dX1_highestByStone_93 (by decide) ?_
  exact hK17 T x2 x3 x4 x5_1 H locs ls hw (lv_sub hl [1, 2, 3, 4, 5, 0] rfl) h
set_option maxHeartbeats 4000000 in
set_option maxRecDepth 100000 in
theorem kX1_highestByStone_17 {p : Program} {l : Launch} {e : Env} {s : State} {m : MethodId} {args : Array Value} {below : List Frame} {meth : Method} {c : Code} {z : KT} {A : Nat → Prop} {qG : Nat → Nat} {qP : Nat → Nat} {qT : Nat → Nat} {G : RT} {P : RT} {Q : Int32 → RT → Prop} (M : Mc p s m args meth c cX1_highestByStone 6 (some .int) RX1 z A) : ∀ (n : Nat) (T : RT) (x2 : Int32) (x3 : Int32) (x4 : Int32) (x5 : Int32) (H : Heap) (locs : List Loc) (ls : Array Slot), Hw s z A (mW z qG qT G ++ (pW z qT T ++ (pW z qP P))) H locs → lv_has ls 6 [(0, .ref (qG 0)), (1, .ref (qP 0)), (2, .int x2), (3, .int x3), (4, .int x4), (5, .int x5)] → bX1_highestByStone_17 G P Q n T x2 x3 x4 x5 → W p l e rmX1_highestByStone s m args below meth c H locs 0 0 (MQ below (va_Qi (fun (r : Int32) (u : RT) => Q r u) (fun u t => cAt z A ((fun u : RT => (mW z qG qT G ++ (pW z qT u ++ (pW z qP P)))) u) t) A) args s 0 0 A) (F0 m 17 ls []) := by
  obtain ⟨hx, hb, -, -, hown, hts, -, -, -, hN, hsr, -⟩ := id M
  intro n
  induction n with
  | zero => intro T x2 x3 x4 x5 H locs ls hw hl h; exact False.elim h
  | succ n ih =>
    intro T x2 x3 x4 x5 H locs ls hw hl h
    rw [bX1_highestByStone_17] at h
    refine lv_iload hx hb dX1_highestByStone_17 (lv_at hl 5 rfl) ?_
    refine lv_aload_n hx hb dX1_highestByStone_19 rfl (lv_at hl 1 rfl) ?_
    refine gt_f (v := .int (P 30 7)) M inlX3 hw 11 rfl rfl 7 (by decide) fl_X1_51 rfl rfl dX1_highestByStone_20 ?_
    refine lv_icmp_ge (tgt := 96) hx hb dX1_highestByStone_23 (by decide) (fun c_1 => ?_) (fun c_1 => ?_)
    · replace h := iT c_1 h
      refine lv_iload_n hx hb dX1_highestByStone_96 rfl (lv_at hl 3 rfl) ?_
      exact rt_i M T hw h dX1_highestByStone_97
    · replace h := iF c_1 h
      refine lv_aload_n hx hb dX1_highestByStone_26 rfl (lv_at hl 1 rfl) ?_
      refine gt_f (v := .ref (qP 4)) M inlX3 hw 11 rfl rfl 3 (by decide) fl_X1_69 rfl rfl dX1_highestByStone_27 ?_
      refine lv_iload hx hb dX1_highestByStone_30 (lv_at hl 5 rfl) ?_
      obtain ⟨a_2, h⟩ := h
      refine ld_i M hw 15 rfl a_2 dX1_highestByStone_32 ?_
      refine lv_bipush (v := 9) hx hb dX1_highestByStone_33 (by decide) ?_
      refine lv_icmp_ge (tgt := 90) hx hb dX1_highestByStone_35 (by decide) (fun c_3 => ?_) (fun c_3 => ?_)
      · replace h := iT c_3 h
        exact kX1_highestByStone_90 M ih T x2 x3 x4 x5 H locs ls hw (lv_sub hl [0, 1, 2, 3, 4, 5] rfl) h
      · replace h := iF c_3 h
        refine lv_aload_n hx hb dX1_highestByStone_38 rfl (lv_at hl 0 rfl) ?_
        refine lv_aload_n hx hb dX1_highestByStone_39 rfl (lv_at hl 1 rfl) ?_
        refine fr_Vr (wN := fun u : RT => (mW z qG qT G ++ (pW z qT u ++ (pW z qP P)))) M (m_X1_begin l z qG qP qT G T P _ h) (cwV 1 hts (gdV cd_X1_begin ml_X1_33 im_X1_begin se_X1_begin in_X1) rfl rfl rfl hdV_X1_begin ⟨(Nat.le_of_ble_eq_true rfl), (Nat.le_of_ble_eq_true rfl)⟩) (Cut.self _) (Prm.self _ 19 (fun _ => rfl)) 0 rfl rfl rfl hw rfl hl.1 rfl (Nat.le_of_ble_eq_true rfl) dX1_highestByStone_40 (fun ra_ u_ H locs h hw => ?_)
        obtain ⟨T_4, rfl⟩ : ∃ z9 : RT, z9 = u_ := ⟨_, rfl⟩
        obtain ⟨rfl, h⟩ := h
        have hw : Hw s z A (mW z qG qT G ++ (pW z qT T_4 ++ (pW z qP P))) H locs := hw
        try dsimp only at h
        refine lv_pop hx hb dX1_highestByStone_43 rfl ?_
        refine lv_aload_n hx hb dX1_highestByStone_44 rfl (lv_at hl 0 rfl) ?_
        refine gt_f (v := .ref (qT 0)) M inlX1 hw 0 rfl rfl 0 (by decide) fl_X1_12 rfl rfl dX1_highestByStone_45 ?_
        refine gt_f (v := .ref (qT 4)) M inlX3 hw 3 rfl rfl 3 (by decide) fl_X1_69 rfl rfl dX1_highestByStone_48 ?_
        refine lv_iload hx hb dX1_highestByStone_51 (lv_at hl 5 rfl) ?_
        refine lv_dup2_11 hx hb dX1_highestByStone_53 rfl rfl ?_
        refine ld_i M hw 7 rfl a_2 dX1_highestByStone_54 ?_
        refine lv_iconst (v := 1) hx hb dX1_highestByStone_55 (by decide) ?_
        refine lv_iadd hx hb dX1_highestByStone_56 ?_
        refine st_i (P := T_4) (r := 3) (wN := fun T_5 => (mW z qG qT G ++ (pW z qT T_5 ++ (pW z qP P)))) M hw 7 rfl rfl a_2 dX1_highestByStone_57 (fun T_5 H locs eT_5 hw => ?_)
        replace h := h T_5 eT_5
        refine lv_aload_n hx hb dX1_highestByStone_58 rfl (lv_at hl 0 rfl) ?_
        refine gt_f (v := .ref (qT 0)) M inlX1 hw 0 rfl rfl 0 (by decide) fl_X1_12 rfl rfl dX1_highestByStone_59 ?_
        refine lv_iload_n hx hb dX1_highestByStone_62 rfl (lv_at hl 2 rfl) ?_
        refine fr_Vv (wN := fun u : RT => (mW z qG qT G ++ (pW z qT u ++ (pW z qP P)))) M (m_X3_goHours l z qT T_5 x2 _ h) (cwV 1 hts (gdV cd_X3_goHours ml_X1_29 im_X3_goHours se_X3_goHours in_X3) rfl rfl rfl hdV_X3_goHours ⟨(Nat.le_of_ble_eq_true rfl), (Nat.le_of_ble_eq_true rfl)⟩) cut_2 prm_2 0 rfl rfl rfl hw rfl hl.1 rfl (Nat.le_of_ble_eq_true rfl) dX1_highestByStone_63 (fun u_ H locs h hw => ?_)
        obtain ⟨T_6, rfl⟩ : ∃ z9 : RT, z9 = u_ := ⟨_, rfl⟩
        have hw : Hw s z A (mW z qG qT G ++ (pW z qT T_6 ++ (pW z qP P))) H locs := hw
        try dsimp only at h
        refine lv_aload_n hx hb dX1_highestByStone_66 rfl (lv_at hl 0 rfl) ?_
        refine gt_f (v := .ref (qT 0)) M inlX1 hw 0 rfl rfl 0 (by decide) fl_X1_12 rfl rfl dX1_highestByStone_67 ?_
        refine fr_Vi (wN := fun _ : Unit => (mW z qG qT G ++ (pW z qT T_6 ++ (pW z qP P)))) M (m_X3_allHeights l z qT T_6 _ h) (cwV 0 hts (gdV cd_X3_allHeights ml_X1_90 im_X3_allHeights se_X3_allHeights in_X3) rfl rfl rfl hdV_X3_allHeights ⟨(Nat.le_of_ble_eq_true rfl), (Nat.le_of_ble_eq_true rfl)⟩) cut_5 prm_5 0 rfl rfl rfl hw rfl hl.1 rfl (Nat.le_of_ble_eq_true rfl) dX1_highestByStone_70 (fun r_7 u_ H locs h hw => ?_)
        have hw : Hw s z A (mW z qG qT G ++ (pW z qT T_6 ++ (pW z qP P))) H locs := hw
        try dsimp only at h
        refine lv_iload hx hb dX1_highestByStone_73 (lv_at hl 4 rfl) ?_
        refine lv_icmp_le (tgt := 90) hx hb dX1_highestByStone_75 (by decide) (fun c_8 => ?_) (fun c_8 => ?_)
        · replace h := iT c_8 h
          exact kX1_highestByStone_90 M ih T_6 x2 x3 x4 x5 H locs ls hw (lv_sub hl [0, 1, 2, 3, 4, 5] rfl) h
        · replace h := iF c_8 h
          refine lv_aload_n hx hb dX1_highestByStone_78 rfl (lv_at hl 0 rfl) ?_
          refine gt_f (v := .ref (qT 0)) M inlX1 hw 0 rfl rfl 0 (by decide) fl_X1_12 rfl rfl dX1_highestByStone_79 ?_
          refine fr_Vi (wN := fun _ : Unit => (mW z qG qT G ++ (pW z qT T_6 ++ (pW z qP P)))) M (m_X3_allHeights l z qT T_6 _ h) (cwV 0 hts (gdV cd_X3_allHeights ml_X1_90 im_X3_allHeights se_X3_allHeights in_X3) rfl rfl rfl hdV_X3_allHeights ⟨(Nat.le_of_ble_eq_true rfl), (Nat.le_of_ble_eq_true rfl)⟩) cut_5 prm_5 0 rfl rfl rfl hw rfl hl.1 rfl (Nat.le_of_ble_eq_true rfl) dX1_highestByStone_82 (fun r_9 u_ H locs h hw => ?_)
          have hw : Hw s z A (mW z qG qT G ++ (pW z qT T_6 ++ (pW z qP P))) H locs := hw
          try dsimp only at h
          refine lv_istore (lv' := [(4, .int r_9), (0, .ref (qG 0)), (1, .ref (qP 0)), (2, .int x2), (3, .int x3), (5, .int x5)]) hx hb dX1_highestByStone_85 hl (by decide) rfl (fun ls hl => ?_)
          refine lv_iload hx hb dX1_highestByStone_87 (lv_at hl 5 rfl) ?_
          refine lv_istore_n (lv' := [(3, .int x5), (4, .int r_9), (0, .ref (qG 0)), (1, .ref (qP 0)), (2, .int x2), (5, .int x5)]) hx hb dX1_highestByStone_89 rfl hl (by decide) rfl (fun ls hl => ?_)
          exact kX1_highestByStone_90 M ih T_6 x2 x5 r_9 x5 H locs ls hw (lv_sub hl [2, 3, 4, 0, 1, 5] rfl) h
set_option maxHeartbeats 4000000 in
set_option maxRecDepth 100000 in
theorem m_X1_highestByStone (l : Launch) (z : KT) (qG : Nat → Nat) (qP : Nat → Nat) (qT : Nat → Nat) (G : RT) (T : RT) (P : RT) (x2 : Int32) (Q : Int32 → RT → Prop) (h : wX1_highestByStone G T P x2 Q) : CI l yX1_highestByStone cX1_highestByStone 6 .int rmX1_highestByStone z [.ref (qG 0), .ref (qP 0), .int x2] (mW z qG qT G ++ (pW z qT T ++ (pW z qP P))) (fun u : RT => (mW z qG qT G ++ (pW z qT u ++ (pW z qP P)))) (fun (r : Int32) (u : RT) => Q r u) := by
  refine CI.of rfl (Nat.le_of_ble_eq_true rfl) ?_
  intro p e s m below meth c A ls M hw hl
  have M : Mc p s m _ meth c cX1_highestByStone 6 (some .int) RX1 z A := M
  obtain ⟨hx, hb, -, -, hown, hts, -, -, -, hN, hsr, -⟩ := id M
  have hl : lv_has ls 6 [(0, .ref (qG 0)), (1, .ref (qP 0)), (2, .int x2)] := hl
  unfold wX1_highestByStone at h
  generalize s.heap = H at hw ⊢
  generalize ([] : List Loc) = locs at hw ⊢
  refine lv_bipush (v := -9) hx hb dX1_highestByStone_0 (by decide) ?_
  refine lv_istore_n (lv' := [(3, .int (-9 : Int32)), (0, .ref (qG 0)), (1, .ref (qP 0)), (2, .int x2)]) hx hb dX1_highestByStone_2 rfl hl (by decide) rfl (fun ls hl => ?_)
  refine lv_aload_n hx hb dX1_highestByStone_3 rfl (lv_at hl 1 rfl) ?_
  refine lv_aload_n hx hb dX1_highestByStone_4 rfl (lv_at hl 2 rfl) ?_
  refine lv_iload_n hx hb dX1_highestByStone_5 rfl (lv_at hl 3 rfl) ?_
  refine fr_Vr (wN := fun u : RT => (mW z qG qT G ++ (pW z qT u ++ (pW z qP P)))) M (m_X1_behind l z qG qP qT G T P x2 _ h) (cwV 2 hts (gdV cd_X1_behind ml_X1_79 im_X1_behind se_X1_behind in_X1) rfl rfl rfl hdV_X1_behind ⟨(Nat.le_of_ble_eq_true rfl), (Nat.le_of_ble_eq_true rfl)⟩) (Cut.self _) (Prm.self _ 19 (fun _ => rfl)) 0 rfl rfl rfl hw rfl hl.1 rfl (Nat.le_of_ble_eq_true rfl) dX1_highestByStone_6 (fun ra_ u_ H locs h hw => ?_)
  obtain ⟨T_1, rfl⟩ : ∃ z9 : RT, z9 = u_ := ⟨_, rfl⟩
  obtain ⟨rfl, h⟩ := h
  have hw : Hw s z A (mW z qG qT G ++ (pW z qT T_1 ++ (pW z qP P))) H locs := hw
  try dsimp only at h
  refine fr_Vi (wN := fun _ : Unit => (mW z qG qT G ++ (pW z qT T_1 ++ (pW z qP P)))) M (m_X3_allHeights l z qT T_1 _ h) (cwV 0 hts (gdV cd_X3_allHeights ml_X1_90 im_X3_allHeights se_X3_allHeights in_X3) rfl rfl rfl hdV_X3_allHeights ⟨(Nat.le_of_ble_eq_true rfl), (Nat.le_of_ble_eq_true rfl)⟩) cut_5 prm_5 0 rfl rfl rfl hw rfl hl.1 rfl (Nat.le_of_ble_eq_true rfl) dX1_highestByStone_9 (fun r_2 u_ H locs h hw => ?_)
  have hw : Hw s z A (mW z qG qT G ++ (pW z qT T_1 ++ (pW z qP P))) H locs := hw
  try dsimp only at h
  refine lv_istore (lv' := [(4, .int r_2), (3, .int (-9 : Int32)), (0, .ref (qG 0)), (1, .ref (qP 0)), (2, .int x2)]) hx hb dX1_highestByStone_12 hl (by decide) rfl (fun ls hl => ?_)
  refine lv_iconst (v := 0) hx hb dX1_highestByStone_14 (by decide) ?_
  refine lv_istore (lv' := [(5, .int (0 : Int32)), (4, .int r_2), (3, .int (-9 : Int32)), (0, .ref (qG 0)), (1, .ref (qP 0)), (2, .int x2)]) hx hb dX1_highestByStone_15 hl (by decide) rfl (fun ls hl => ?_)
  obtain ⟨n0, h⟩ := h; exact kX1_highestByStone_17 M n0 T_1 x2 (-9 : Int32) r_2 (0 : Int32) H locs ls hw (lv_sub hl [3, 4, 5, 2, 1, 0] rfl) h
abbrev rmX1_leadBy : Room := { frames := 3, cells := 0, slots := 0, locals := 71 }
set_option maxHeartbeats 4000000 in
set_option maxRecDepth 100000 in
theorem kX1_leadBy_74 {p : Program} {l : Launch} {e : Env} {s : State} {m : MethodId} {args : Array Value} {below : List Frame} {meth : Method} {c : Code} {z : KT} {A : Nat → Prop} {qG : Nat → Nat} {qP : Nat → Nat} {qT : Nat → Nat} {G : RT} {P : RT} {Q : Int32 → RT → Prop} (M : Mc p s m args meth c cX1_leadBy 6 (some .int) RX1 z A) : ∀ (T : RT) (x3 : Int32) (x4 : Int32) (x5 : Int32) (H : Heap) (locs : List Loc) (ls : Array Slot), Hw s z A (mW z qG qT G ++ (pW z qT T ++ (pW z qP P))) H locs → lv_has ls 6 [(0, .ref (qG 0)), (3, .int x3), (4, .int x4), (5, .int x5)] → bX1_leadBy_74 G P Q T x3 x4 x5 → W p l e rmX1_leadBy s m args below meth c H locs 0 0 (MQ below (va_Qi (fun (r : Int32) (u : RT) => Q r u) (fun u t => cAt z A ((fun u : RT => (mW z qG qT G ++ (pW z qT u ++ (pW z qP P)))) u) t) A) args s 0 0 A) (F0 m 74 ls []) := by
  obtain ⟨hx, hb, -, -, hown, hts, -, -, -, hN, hsr, -⟩ := id M
  intro T x3 x4 x5 H locs ls hw hl h
  unfold bX1_leadBy_74 at h
  refine lv_aload_n hx hb dX1_leadBy_74 rfl (lv_at hl 0 rfl) ?_
  refine gt_f (v := .ref (qT 0)) M inlX1 hw 0 rfl rfl 0 (by decide) fl_X1_12 rfl rfl dX1_leadBy_75 ?_
  refine lv_iload hx hb dX1_leadBy_78 (lv_at hl 3 rfl) ?_
  refine fr_Vv (wN := fun u : RT => (mW z qG qT G ++ (pW z qT u ++ (pW z qP P)))) M (m_X3_goHours l z qT T x5 _ h) (cwV 1 hts (gdV cd_X3_goHours ml_X1_29 im_X3_goHours se_X3_goHours in_X3) rfl rfl rfl hdV_X3_goHours ⟨(Nat.le_of_ble_eq_true rfl), (Nat.le_of_ble_eq_true rfl)⟩) cut_2 prm_2 0 rfl rfl rfl hw rfl hl.1 rfl (Nat.le_of_ble_eq_true rfl) dX1_leadBy_80 (fun u_ H locs h hw => ?_)
  obtain ⟨T_1, rfl⟩ : ∃ z9 : RT, z9 = u_ := ⟨_, rfl⟩
  have hw : Hw s z A (mW z qG qT G ++ (pW z qT T_1 ++ (pW z qP P))) H locs := hw
  try dsimp only at h
  refine lv_aload_n hx hb dX1_leadBy_83 rfl (lv_at hl 0 rfl) ?_
  refine gt_f (v := .ref (qT 0)) M inlX1 hw 0 rfl rfl 0 (by decide) fl_X1_12 rfl rfl dX1_leadBy_84 ?_
  refine gt_f (v := .ref (qT 5)) M inlX3 hw 3 rfl rfl 4 (by decide) fl_X1_37 rfl rfl dX1_leadBy_87 ?_
  refine lv_iload_n hx hb dX1_leadBy_90 rfl (lv_at hl 1 rfl) ?_
  obtain ⟨a_2, h⟩ := h
  refine ld_i M hw 8 rfl a_2 dX1_leadBy_91 ?_
  refine lv_aload_n hx hb dX1_leadBy_92 rfl (lv_at hl 0 rfl) ?_
  refine gt_f (v := .ref (qT 0)) M inlX1 hw 0 rfl rfl 0 (by decide) fl_X1_12 rfl rfl dX1_leadBy_93 ?_
  refine gt_f (v := .ref (qT 5)) M inlX3 hw 3 rfl rfl 4 (by decide) fl_X1_37 rfl rfl dX1_leadBy_96 ?_
  refine lv_iload hx hb dX1_leadBy_99 (lv_at hl 2 rfl) ?_
  obtain ⟨a_3, h⟩ := h
  refine ld_i M hw 8 rfl a_3 dX1_leadBy_101 ?_
  refine lv_isub hx hb dX1_leadBy_102 ?_
  exact rt_i M T_1 hw h dX1_leadBy_103
set_option maxHeartbeats 4000000 in
set_option maxRecDepth 100000 in
theorem kX1_leadBy_39 {p : Program} {l : Launch} {e : Env} {s : State} {m : MethodId} {args : Array Value} {below : List Frame} {meth : Method} {c : Code} {z : KT} {A : Nat → Prop} {qG : Nat → Nat} {qP : Nat → Nat} {qT : Nat → Nat} {G : RT} {P : RT} {Q : Int32 → RT → Prop} (M : Mc p s m args meth c cX1_leadBy 6 (some .int) RX1 z A) : ∀ (T : RT) (x2 : Int32) (x3 : Int32) (x4 : Int32) (x5 : Int32) (H : Heap) (locs : List Loc) (ls : Array Slot), Hw s z A (mW z qG qT G ++ (pW z qT T ++ (pW z qP P))) H locs → lv_has ls 6 [(0, .ref (qG 0)), (2, .int x2), (3, .int x3), (4, .int x4), (5, .int x5)] → bX1_leadBy_39 G P Q T x2 x3 x4 x5 → W p l e rmX1_leadBy s m args below meth c H locs 0 0 (MQ below (va_Qi (fun (r : Int32) (u : RT) => Q r u) (fun u t => cAt z A ((fun u : RT => (mW z qG qT G ++ (pW z qT u ++ (pW z qP P)))) u) t) A) args s 0 0 A) (F0 m 39 ls []) := by
  obtain ⟨hx, hb, -, -, hown, hts, -, -, -, hN, hsr, -⟩ := id M
  intro T x2 x3 x4 x5 H locs ls hw hl h
  unfold bX1_leadBy_39 at h
  refine lv_iload_n hx hb dX1_leadBy_39 rfl (lv_at hl 1 rfl) ?_
  refine lv_iconst (v := 0) hx hb dX1_leadBy_40 (by decide) ?_
  refine fr_Ni (wN := fun _ : Unit => (mW z qG qT G ++ (pW z qT T ++ (pW z qP P)))) (host := RX6) M (m_X6_hasBit l z x2 (0 : Int32) _ h) ⟨va_cnB 2 hts (gdNL cd_X6_hasBit) rfl rfl rfl hN.1 (hts _ in_X6) hdS_X6_hasBit ⟨(Nat.le_of_ble_eq_true rfl), (Nat.le_of_ble_eq_true rfl)⟩, hts _ st_X6_hasBit, trivial⟩ (Cut.none _) (Prm.none _) hw rfl hl.1 rfl (Nat.le_of_ble_eq_true rfl) dX1_leadBy_41 (fun r_1 u_ H locs h hw => ?_)
  have hw : Hw s z A (mW z qG qT G ++ (pW z qT T ++ (pW z qP P))) H locs := hw
  try dsimp only at h
  refine lv_if_eq (tgt := 74) hx hb dX1_leadBy_44 (by decide) (fun c_2 => ?_) (fun c_2 => ?_)
  · replace h := iT c_2 h
    exact kX1_leadBy_74 M T x3 x4 x5 H locs ls hw (lv_sub hl [0, 2, 3, 4] rfl) h
  · replace h := iF c_2 h
    refine lv_aload_n hx hb dX1_leadBy_47 rfl (lv_at hl 0 rfl) ?_
    refine gt_f (v := .ref (qT 0)) M inlX1 hw 0 rfl rfl 0 (by decide) fl_X1_12 rfl rfl dX1_leadBy_48 ?_
    refine gt_f (v := .ref (qT 4)) M inlX3 hw 3 rfl rfl 3 (by decide) fl_X1_69 rfl rfl dX1_leadBy_51 ?_
    refine lv_iload hx hb dX1_leadBy_54 (lv_at hl 3 rfl) ?_
    refine lv_bipush (v := 9) hx hb dX1_leadBy_56 (by decide) ?_
    refine lv_aload_n hx hb dX1_leadBy_58 rfl (lv_at hl 0 rfl) ?_
    refine gt_f (v := .ref (qT 0)) M inlX1 hw 0 rfl rfl 0 (by decide) fl_X1_12 rfl rfl dX1_leadBy_59 ?_
    refine gt_f (v := .ref (qT 4)) M inlX3 hw 3 rfl rfl 3 (by decide) fl_X1_69 rfl rfl dX1_leadBy_62 ?_
    refine lv_iload hx hb dX1_leadBy_65 (lv_at hl 3 rfl) ?_
    obtain ⟨a_3, h⟩ := h
    refine ld_i M hw 7 rfl a_3 dX1_leadBy_67 ?_
    refine lv_iconst (v := 2) hx hb dX1_leadBy_68 (by decide) ?_
    refine lv_iadd hx hb dX1_leadBy_69 ?_
    refine mn_i M ml_X1_101 hl.1 (Nat.le_of_ble_eq_true rfl) (Nat.le_of_ble_eq_true rfl) dX1_leadBy_70 ?_
    refine st_i (P := T) (r := 3) (wN := fun T_4 => (mW z qG qT G ++ (pW z qT T_4 ++ (pW z qP P)))) M hw 7 rfl rfl a_3 dX1_leadBy_73 (fun T_4 H locs eT_4 hw => ?_)
    replace h := h T_4 eT_4
    exact kX1_leadBy_74 M T_4 x3 x4 x5 H locs ls hw (lv_sub hl [0, 2, 3, 4] rfl) h
set_option maxHeartbeats 4000000 in
set_option maxRecDepth 100000 in
theorem m_X1_leadBy (l : Launch) (z : KT) (qG : Nat → Nat) (qP : Nat → Nat) (qT : Nat → Nat) (G : RT) (T : RT) (P : RT) (x2 : Int32) (x3 : Int32) (x4 : Int32) (x5 : Int32) (Q : Int32 → RT → Prop) (h : wX1_leadBy G T P x2 x3 x4 x5 Q) : CI l yX1_leadBy cX1_leadBy 6 .int rmX1_leadBy z [.ref (qG 0), .ref (qP 0), .int x2, .int x3, .int x4, .int x5] (mW z qG qT G ++ (pW z qT T ++ (pW z qP P))) (fun u : RT => (mW z qG qT G ++ (pW z qT u ++ (pW z qP P)))) (fun (r : Int32) (u : RT) => Q r u) := by
  refine CI.of rfl (Nat.le_of_ble_eq_true rfl) ?_
  intro p e s m below meth c A ls M hw hl
  have M : Mc p s m _ meth c cX1_leadBy 6 (some .int) RX1 z A := M
  obtain ⟨hx, hb, -, -, hown, hts, -, -, -, hN, hsr, -⟩ := id M
  have hl : lv_has ls 6 [(0, .ref (qG 0)), (1, .ref (qP 0)), (2, .int x2), (3, .int x3), (4, .int x4), (5, .int x5)] := hl
  unfold wX1_leadBy at h
  generalize s.heap = H at hw ⊢
  generalize ([] : List Loc) = locs at hw ⊢
  refine lv_aload_n hx hb dX1_leadBy_0 rfl (lv_at hl 0 rfl) ?_
  refine lv_aload_n hx hb dX1_leadBy_1 rfl (lv_at hl 1 rfl) ?_
  refine fr_Vr (wN := fun u : RT => (mW z qG qT G ++ (pW z qT u ++ (pW z qP P)))) M (m_X1_begin l z qG qP qT G T P _ h) (cwV 1 hts (gdV cd_X1_begin ml_X1_33 im_X1_begin se_X1_begin in_X1) rfl rfl rfl hdV_X1_begin ⟨(Nat.le_of_ble_eq_true rfl), (Nat.le_of_ble_eq_true rfl)⟩) (Cut.self _) (Prm.self _ 19 (fun _ => rfl)) 0 rfl rfl rfl hw rfl hl.1 rfl (Nat.le_of_ble_eq_true rfl) dX1_leadBy_2 (fun ra_ u_ H locs h hw => ?_)
  obtain ⟨T_1, rfl⟩ : ∃ z9 : RT, z9 = u_ := ⟨_, rfl⟩
  obtain ⟨rfl, h⟩ := h
  have hw : Hw s z A (mW z qG qT G ++ (pW z qT T_1 ++ (pW z qP P))) H locs := hw
  try dsimp only at h
  refine lv_pop hx hb dX1_leadBy_5 rfl ?_
  refine lv_iload_n hx hb dX1_leadBy_6 rfl (lv_at hl 2 rfl) ?_
  refine lv_iconst (v := 1) hx hb dX1_leadBy_7 (by decide) ?_
  refine fr_Ni (wN := fun _ : Unit => (mW z qG qT G ++ (pW z qT T_1 ++ (pW z qP P)))) (host := RX6) M (m_X6_hasBit l z x2 (1 : Int32) _ h) ⟨va_cnB 2 hts (gdNL cd_X6_hasBit) rfl rfl rfl hN.1 (hts _ in_X6) hdS_X6_hasBit ⟨(Nat.le_of_ble_eq_true rfl), (Nat.le_of_ble_eq_true rfl)⟩, hts _ st_X6_hasBit, trivial⟩ (Cut.none _) (Prm.none _) hw rfl hl.1 rfl (Nat.le_of_ble_eq_true rfl) dX1_leadBy_8 (fun r_2 u_ H locs h hw => ?_)
  have hw : Hw s z A (mW z qG qT G ++ (pW z qT T_1 ++ (pW z qP P))) H locs := hw
  try dsimp only at h
  refine lv_if_eq (tgt := 39) hx hb dX1_leadBy_11 (by decide) (fun c_3 => ?_) (fun c_3 => ?_)
  · replace h := iT c_3 h
    exact kX1_leadBy_39 M T_1 x2 x3 x4 x5 H locs ls hw (lv_sub hl [0, 2, 3, 4, 5] rfl) h
  · replace h := iF c_3 h
    refine lv_aload_n hx hb dX1_leadBy_14 rfl (lv_at hl 0 rfl) ?_
    refine gt_f (v := .ref (qT 0)) M inlX1 hw 0 rfl rfl 0 (by decide) fl_X1_12 rfl rfl dX1_leadBy_15 ?_
    refine gt_f (v := .ref (qT 4)) M inlX3 hw 3 rfl rfl 3 (by decide) fl_X1_69 rfl rfl dX1_leadBy_18 ?_
    refine lv_iload_n hx hb dX1_leadBy_21 rfl (lv_at hl 3 rfl) ?_
    refine lv_bipush (v := 9) hx hb dX1_leadBy_22 (by decide) ?_
    refine lv_aload_n hx hb dX1_leadBy_24 rfl (lv_at hl 0 rfl) ?_
    refine gt_f (v := .ref (qT 0)) M inlX1 hw 0 rfl rfl 0 (by decide) fl_X1_12 rfl rfl dX1_leadBy_25 ?_
    refine gt_f (v := .ref (qT 4)) M inlX3 hw 3 rfl rfl 3 (by decide) fl_X1_69 rfl rfl dX1_leadBy_28 ?_
    refine lv_iload_n hx hb dX1_leadBy_31 rfl (lv_at hl 3 rfl) ?_
    obtain ⟨a_4, h⟩ := h
    refine ld_i M hw 7 rfl a_4 dX1_leadBy_32 ?_
    refine lv_iconst (v := 2) hx hb dX1_leadBy_33 (by decide) ?_
    refine lv_iadd hx hb dX1_leadBy_34 ?_
    refine mn_i M ml_X1_101 hl.1 (Nat.le_of_ble_eq_true rfl) (Nat.le_of_ble_eq_true rfl) dX1_leadBy_35 ?_
    refine st_i (P := T_1) (r := 3) (wN := fun T_5 => (mW z qG qT G ++ (pW z qT T_5 ++ (pW z qP P)))) M hw 7 rfl rfl a_4 dX1_leadBy_38 (fun T_5 H locs eT_5 hw => ?_)
    replace h := h T_5 eT_5
    exact kX1_leadBy_39 M T_5 x2 x3 x4 x5 H locs ls hw (lv_sub hl [0, 2, 3, 4, 5] rfl) h
abbrev rmX1_steadyPair : Room := { frames := 4, cells := 0, slots := 0, locals := 96 }
set_option maxHeartbeats 4000000 in
set_option maxRecDepth 100000 in
theorem kX1_steadyPair_93 {p : Program} {l : Launch} {e : Env} {s : State} {m : MethodId} {args : Array Value} {below : List Frame} {meth : Method} {c : Code} {z : KT} {A : Nat → Prop} {qG : Nat → Nat} {qP : Nat → Nat} {qT : Nat → Nat} {K36 : RT → RT → Int32 → Prop} {P : RT} {Q : Int32 → RT → RT → Prop} (M : Mc p s m args meth c cX1_steadyPair 6 (some .int) RX1 z A) (hK36 : ∀ (G : RT) (T : RT) (x5 : Int32) (H : Heap) (locs : List Loc) (ls : Array Slot), Hw s z A (mW z qG qT G ++ (pW z qT T ++ (pW z qP P))) H locs → lv_has ls 6 [(0, .ref (qG 0)), (5, .int x5)] → K36 G T x5 → W p l e rmX1_steadyPair s m args below meth c H locs 0 0 (MQ below (va_Qi (fun (r : Int32) (u : RT × RT) => Q r u.1 u.2) (fun u t => cAt z A ((fun u : RT × RT => (mW z qG qT u.1 ++ (pW z qT u.2 ++ (pW z qP P)))) u) t) A) args s 0 0 A) (F0 m 36 ls [])) : ∀ (G : RT) (T : RT) (x5 : Int32) (H : Heap) (locs : List Loc) (ls : Array Slot), Hw s z A (mW z qG qT G ++ (pW z qT T ++ (pW z qP P))) H locs → lv_has ls 6 [(0, .ref (qG 0)), (5, .int x5)] → bX1_steadyPair_93 K36 P Q G T x5 → W p l e rmX1_steadyPair s m args below meth c H locs 0 0 (MQ below (va_Qi (fun (r : Int32) (u : RT × RT) => Q r u.1 u.2) (fun u t => cAt z A ((fun u : RT × RT => (mW z qG qT u.1 ++ (pW z qT u.2 ++ (pW z qP P)))) u) t) A) args s 0 0 A) (F0 m 93 ls []) := by
  obtain ⟨hx, hb, -, -, hown, hts, -, -, -, hN, hsr, -⟩ := id M
  intro G T x5 H locs ls hw hl h
  unfold bX1_steadyPair_93 at h
  obtain ⟨x5_1, ex5_1⟩ : ∃ y : Int32, y = (x5 + (1 : Int32)) := ⟨_, rfl⟩
  replace h := h x5_1 ex5_1
  refine lv_iinc (v := x5_1) (lv' := [(5, .int x5_1), (0, .ref (qG 0))]) hx hb dX1_steadyPair_93 hl (k := 1) rfl (by rw [ex5_1]; rfl) (by decide) rfl (fun ls hl => ?_)
  refine lv_goto (tgt := 36) hx hb dX1_steadyPair_96 (by decide) ?_
  exact hK36 G T x5_1 H locs ls hw (lv_sub hl [1, 0] rfl) h
set_option maxHeartbeats 4000000 in
set_option maxRecDepth 100000 in
theorem kX1_steadyPair_36 {p : Program} {l : Launch} {e : Env} {s : State} {m : MethodId} {args : Array Value} {below : List Frame} {meth : Method} {c : Code} {z : KT} {A : Nat → Prop} {qG : Nat → Nat} {qP : Nat → Nat} {qT : Nat → Nat} {P : RT} {Q : Int32 → RT → RT → Prop} (M : Mc p s m args meth c cX1_steadyPair 6 (some .int) RX1 z A) : ∀ (n : Nat) (G : RT) (T : RT) (x5 : Int32) (H : Heap) (locs : List Loc) (ls : Array Slot), Hw s z A (mW z qG qT G ++ (pW z qT T ++ (pW z qP P))) H locs → lv_has ls 6 [(0, .ref (qG 0)), (5, .int x5)] → bX1_steadyPair_36 P Q n G T x5 → W p l e rmX1_steadyPair s m args below meth c H locs 0 0 (MQ below (va_Qi (fun (r : Int32) (u : RT × RT) => Q r u.1 u.2) (fun u t => cAt z A ((fun u : RT × RT => (mW z qG qT u.1 ++ (pW z qT u.2 ++ (pW z qP P)))) u) t) A) args s 0 0 A) (F0 m 36 ls []) := by
  obtain ⟨hx, hb, -, -, hown, hts, -, -, -, hN, hsr, -⟩ := id M
  intro n
  induction n with
  | zero => intro G T x5 H locs ls hw hl h; exact False.elim h
  | succ n ih =>
    intro G T x5 H locs ls hw hl h
    rw [bX1_steadyPair_36] at h
    refine lv_iload hx hb dX1_steadyPair_36 (lv_at hl 1 rfl) ?_
    refine lv_iconst (v := 4) hx hb dX1_steadyPair_38 (by decide) ?_
    refine lv_icmp_ge (tgt := 99) hx hb dX1_steadyPair_39 (by decide) (fun c_1 => ?_) (fun c_1 => ?_)
    · replace h := iT c_1 h
      refine lv_bipush (v := -9) hx hb dX1_steadyPair_99 (by decide) ?_
      exact rt_i M (G, T) hw h dX1_steadyPair_101
    · replace h := iF c_1 h
      refine lv_aload_n hx hb dX1_steadyPair_42 rfl (lv_at hl 0 rfl) ?_
      refine gt_f (v := .ref (qG 3)) M inlX1 hw 0 rfl rfl 2 (by decide) fl_X1_22 rfl rfl dX1_steadyPair_43 ?_
      refine lv_iload hx hb dX1_steadyPair_46 (lv_at hl 1 rfl) ?_
      refine lv_iconst (v := 2) hx hb dX1_steadyPair_48 (by decide) ?_
      refine lv_ixor hx hb dX1_steadyPair_49 ?_
      obtain ⟨a_2, h⟩ := h
      refine ld_i M hw 2 rfl a_2 dX1_steadyPair_50 ?_
      refine lv_aload_n hx hb dX1_steadyPair_51 rfl (lv_at hl 0 rfl) ?_
      refine gt_f (v := .ref (qG 3)) M inlX1 hw 0 rfl rfl 2 (by decide) fl_X1_22 rfl rfl dX1_steadyPair_52 ?_
      refine lv_iload hx hb dX1_steadyPair_55 (lv_at hl 1 rfl) ?_
      obtain ⟨a_3, h⟩ := h
      refine ld_i M hw 2 rfl a_3 dX1_steadyPair_57 ?_
      refine lv_icmp_gt (tgt := 93) hx hb dX1_steadyPair_58 (by decide) (fun c_4 => ?_) (fun c_4 => ?_)
      · replace h := iT c_4 h
        exact kX1_steadyPair_93 M ih G T x5 H locs ls hw (lv_sub hl [0, 1] rfl) h
      · replace h := iF c_4 h
        refine lv_aload_n hx hb dX1_steadyPair_61 rfl (lv_at hl 0 rfl) ?_
        refine gt_f (v := .ref (qG 3)) M inlX1 hw 0 rfl rfl 2 (by decide) fl_X1_22 rfl rfl dX1_steadyPair_62 ?_
        refine lv_iload hx hb dX1_steadyPair_65 (lv_at hl 1 rfl) ?_
        refine lv_iconst (v := 1) hx hb dX1_steadyPair_67 (by decide) ?_
        refine lv_ixor hx hb dX1_steadyPair_68 ?_
        obtain ⟨a_5, h⟩ := h
        refine ld_i M hw 2 rfl a_5 dX1_steadyPair_69 ?_
        refine lv_aload_n hx hb dX1_steadyPair_70 rfl (lv_at hl 0 rfl) ?_
        refine gt_f (v := .ref (qG 3)) M inlX1 hw 0 rfl rfl 2 (by decide) fl_X1_22 rfl rfl dX1_steadyPair_71 ?_
        refine lv_iload hx hb dX1_steadyPair_74 (lv_at hl 1 rfl) ?_
        refine ld_i M hw 2 rfl a_3 dX1_steadyPair_76 ?_
        refine lv_icmp_lt (tgt := 93) hx hb dX1_steadyPair_77 (by decide) (fun c_6 => ?_) (fun c_6 => ?_)
        · replace h := iT c_6 h
          exact kX1_steadyPair_93 M ih G T x5 H locs ls hw (lv_sub hl [0, 1] rfl) h
        · replace h := iF c_6 h
          refine lv_bipush (v := 10) hx hb dX1_steadyPair_80 (by decide) ?_
          refine lv_iload hx hb dX1_steadyPair_82 (lv_at hl 1 rfl) ?_
          refine lv_iconst (v := 2) hx hb dX1_steadyPair_84 (by decide) ?_
          refine lv_idiv hx hb dX1_steadyPair_85 (by decide) ?_
          refine lv_imul hx hb dX1_steadyPair_86 ?_
          refine lv_iload hx hb dX1_steadyPair_87 (lv_at hl 1 rfl) ?_
          refine lv_iconst (v := 2) hx hb dX1_steadyPair_89 (by decide) ?_
          refine lv_irem hx hb dX1_steadyPair_90 (by decide) ?_
          refine lv_iadd hx hb dX1_steadyPair_91 ?_
          exact rt_i M (G, T) hw h dX1_steadyPair_92
set_option maxHeartbeats 4000000 in
set_option maxRecDepth 100000 in
theorem kX1_steadyPair_3 {p : Program} {l : Launch} {e : Env} {s : State} {m : MethodId} {args : Array Value} {below : List Frame} {meth : Method} {c : Code} {z : KT} {A : Nat → Prop} {qG : Nat → Nat} {qP : Nat → Nat} {qT : Nat → Nat} {P : RT} {Q : Int32 → RT → RT → Prop} (M : Mc p s m args meth c cX1_steadyPair 6 (some .int) RX1 z A) : ∀ (n : Nat) (G : RT) (T : RT) (x2 : Int32) (x3 : Int32) (x4 : Int32) (x5 : Int32) (H : Heap) (locs : List Loc) (ls : Array Slot), Hw s z A (mW z qG qT G ++ (pW z qT T ++ (pW z qP P))) H locs → lv_has ls 6 [(0, .ref (qG 0)), (1, .ref (qP 0)), (2, .int x2), (3, .int x3), (4, .int x4), (5, .int x5)] → bX1_steadyPair_3 P Q n G T x2 x3 x4 x5 → W p l e rmX1_steadyPair s m args below meth c H locs 0 0 (MQ below (va_Qi (fun (r : Int32) (u : RT × RT) => Q r u.1 u.2) (fun u t => cAt z A ((fun u : RT × RT => (mW z qG qT u.1 ++ (pW z qT u.2 ++ (pW z qP P)))) u) t) A) args s 0 0 A) (F0 m 3 ls []) := by
  obtain ⟨hx, hb, -, -, hown, hts, -, -, -, hN, hsr, -⟩ := id M
  intro n
  induction n with
  | zero => intro G T x2 x3 x4 x5 H locs ls hw hl h; exact False.elim h
  | succ n ih =>
    intro G T x2 x3 x4 x5 H locs ls hw hl h
    rw [bX1_steadyPair_3] at h
    refine lv_iload hx hb dX1_steadyPair_3 (lv_at hl 5 rfl) ?_
    refine lv_iconst (v := 4) hx hb dX1_steadyPair_5 (by decide) ?_
    refine lv_icmp_ge (tgt := 33) hx hb dX1_steadyPair_6 (by decide) (fun c_1 => ?_) (fun c_1 => ?_)
    · replace h := iT c_1 h
      refine lv_iconst (v := 0) hx hb dX1_steadyPair_33 (by decide) ?_
      refine lv_istore (lv' := [(5, .int (0 : Int32)), (0, .ref (qG 0)), (1, .ref (qP 0)), (2, .int x2), (3, .int x3), (4, .int x4)]) hx hb dX1_steadyPair_34 hl (by decide) rfl (fun ls hl => ?_)
      obtain ⟨n0, h⟩ := h; exact kX1_steadyPair_36 M n0 G T (0 : Int32) H locs ls hw (lv_sub hl [1, 0] rfl) h
    · replace h := iF c_1 h
      refine lv_aload_n hx hb dX1_steadyPair_9 rfl (lv_at hl 0 rfl) ?_
      refine gt_f (v := .ref (qG 3)) M inlX1 hw 0 rfl rfl 2 (by decide) fl_X1_22 rfl rfl dX1_steadyPair_10 ?_
      refine lv_iload hx hb dX1_steadyPair_13 (lv_at hl 5 rfl) ?_
      refine lv_aload_n hx hb dX1_steadyPair_15 rfl (lv_at hl 0 rfl) ?_
      refine lv_aload_n hx hb dX1_steadyPair_16 rfl (lv_at hl 1 rfl) ?_
      refine lv_iload hx hb dX1_steadyPair_17 (lv_at hl 5 rfl) ?_
      refine lv_iload_n hx hb dX1_steadyPair_19 rfl (lv_at hl 2 rfl) ?_
      refine lv_iload_n hx hb dX1_steadyPair_20 rfl (lv_at hl 3 rfl) ?_
      refine lv_iload hx hb dX1_steadyPair_21 (lv_at hl 4 rfl) ?_
      refine fr_Vi (wN := fun u : RT => (mW z qG qT G ++ (pW z qT u ++ (pW z qP P)))) M (m_X1_leadBy l z qG qP qT G T P x5 x2 x3 x4 _ h) (cwV 5 hts (gdV cd_X1_leadBy ml_X1_93 im_X1_leadBy se_X1_leadBy in_X1) rfl rfl rfl hdV_X1_leadBy ⟨(Nat.le_of_ble_eq_true rfl), (Nat.le_of_ble_eq_true rfl)⟩) (Cut.self _) (Prm.self _ 19 (fun _ => rfl)) 0 rfl rfl rfl hw rfl hl.1 rfl (Nat.le_of_ble_eq_true rfl) dX1_steadyPair_23 (fun r_3 u_ H locs h hw => ?_)
      obtain ⟨T_2, rfl⟩ : ∃ z9 : RT, z9 = u_ := ⟨_, rfl⟩
      have hw : Hw s z A (mW z qG qT G ++ (pW z qT T_2 ++ (pW z qP P))) H locs := hw
      try dsimp only at h
      obtain ⟨a_4, h⟩ := h
      refine st_i (P := G) (r := 2) (wN := fun G_5 => (mW z qG qT G_5 ++ (pW z qT T_2 ++ (pW z qP P)))) M hw 2 rfl rfl a_4 dX1_steadyPair_26 (fun G_5 H locs eG_5 hw => ?_)
      replace h := h G_5 eG_5
      obtain ⟨x5_6, ex5_6⟩ : ∃ y : Int32, y = (x5 + (1 : Int32)) := ⟨_, rfl⟩
      replace h := h x5_6 ex5_6
      refine lv_iinc (v := x5_6) (lv' := [(5, .int x5_6), (0, .ref (qG 0)), (1, .ref (qP 0)), (2, .int x2), (3, .int x3), (4, .int x4)]) hx hb dX1_steadyPair_27 hl (k := 5) rfl (by rw [ex5_6]; rfl) (by decide) rfl (fun ls hl => ?_)
      refine lv_goto (tgt := 3) hx hb dX1_steadyPair_30 (by decide) ?_
      exact ih G_5 T_2 x2 x3 x4 x5_6 H locs ls hw (lv_sub hl [1, 2, 3, 4, 5, 0] rfl) h
set_option maxHeartbeats 4000000 in
set_option maxRecDepth 100000 in
theorem m_X1_steadyPair (l : Launch) (z : KT) (qG : Nat → Nat) (qP : Nat → Nat) (qT : Nat → Nat) (G : RT) (T : RT) (P : RT) (x2 : Int32) (x3 : Int32) (x4 : Int32) (Q : Int32 → RT → RT → Prop) (h : wX1_steadyPair G T P x2 x3 x4 Q) : CI l yX1_steadyPair cX1_steadyPair 6 .int rmX1_steadyPair z [.ref (qG 0), .ref (qP 0), .int x2, .int x3, .int x4] (mW z qG qT G ++ (pW z qT T ++ (pW z qP P))) (fun u : RT × RT => (mW z qG qT u.1 ++ (pW z qT u.2 ++ (pW z qP P)))) (fun (r : Int32) (u : RT × RT) => Q r u.1 u.2) := by
  refine CI.of rfl (Nat.le_of_ble_eq_true rfl) ?_
  intro p e s m below meth c A ls M hw hl
  have M : Mc p s m _ meth c cX1_steadyPair 6 (some .int) RX1 z A := M
  obtain ⟨hx, hb, -, -, hown, hts, -, -, -, hN, hsr, -⟩ := id M
  have hl : lv_has ls 6 [(0, .ref (qG 0)), (1, .ref (qP 0)), (2, .int x2), (3, .int x3), (4, .int x4)] := hl
  unfold wX1_steadyPair at h
  generalize s.heap = H at hw ⊢
  generalize ([] : List Loc) = locs at hw ⊢
  refine lv_iconst (v := 0) hx hb dX1_steadyPair_0 (by decide) ?_
  refine lv_istore (lv' := [(5, .int (0 : Int32)), (0, .ref (qG 0)), (1, .ref (qP 0)), (2, .int x2), (3, .int x3), (4, .int x4)]) hx hb dX1_steadyPair_1 hl (by decide) rfl (fun ls hl => ?_)
  obtain ⟨n0, h⟩ := h; exact kX1_steadyPair_3 M n0 G T x2 x3 x4 (0 : Int32) H locs ls hw (lv_sub hl [1, 2, 3, 4, 5, 0] rfl) h
abbrev rmX1_wetCases : Room := { frames := 3, cells := 0, slots := 0, locals := 60 }
set_option maxHeartbeats 4000000 in
set_option maxRecDepth 100000 in
theorem kX1_wetCases_51 {p : Program} {l : Launch} {e : Env} {s : State} {m : MethodId} {args : Array Value} {below : List Frame} {meth : Method} {c : Code} {z : KT} {A : Nat → Prop} {qG : Nat → Nat} {qP : Nat → Nat} {qT : Nat → Nat} {K6 : RT → Int32 → Int32 → Int32 → Int32 → Int32 → Int64 → Int32 → Prop} {K24 : RT → Int32 → Int32 → Int32 → Int32 → Int32 → Int64 → Int32 → Int32 → Prop} {G : RT} {P : RT} {Q : Int64 → RT → Prop} (M : Mc p s m args meth c cX1_wetCases 11 (some .long) RX1 z A) (hK6 : ∀ (T : RT) (x2 : Int32) (x3 : Int32) (x4 : Int32) (x5 : Int32) (x6 : Int32) (y7 : Int64) (x9 : Int32) (H : Heap) (locs : List Loc) (ls : Array Slot), Hw s z A (mW z qG qT G ++ (pW z qT T ++ (pW z qP P))) H locs → lv_has ls 11 [(0, .ref (qG 0)), (1, .ref (qP 0)), (2, .int x2), (3, .int x3), (4, .int x4), (5, .int x5), (6, .int x6), (7, .long y7), (9, .int x9)] → K6 T x2 x3 x4 x5 x6 y7 x9 → W p l e rmX1_wetCases s m args below meth c H locs 0 0 (MQ below (va_Ql (fun (r : Int64) (u : RT) => Q r u) (fun u t => cAt z A ((fun u : RT => (mW z qG qT G ++ (pW z qT u ++ (pW z qP P)))) u) t) A) args s 0 0 A) (F0 m 6 ls [])) (hK24 : ∀ (T : RT) (x2 : Int32) (x3 : Int32) (x4 : Int32) (x5 : Int32) (x6 : Int32) (y7 : Int64) (x9 : Int32) (x10 : Int32) (H : Heap) (locs : List Loc) (ls : Array Slot), Hw s z A (mW z qG qT G ++ (pW z qT T ++ (pW z qP P))) H locs → lv_has ls 11 [(0, .ref (qG 0)), (1, .ref (qP 0)), (2, .int x2), (3, .int x3), (4, .int x4), (5, .int x5), (6, .int x6), (7, .long y7), (9, .int x9), (10, .int x10)] → K24 T x2 x3 x4 x5 x6 y7 x9 x10 → W p l e rmX1_wetCases s m args below meth c H locs 0 0 (MQ below (va_Ql (fun (r : Int64) (u : RT) => Q r u) (fun u t => cAt z A ((fun u : RT => (mW z qG qT G ++ (pW z qT u ++ (pW z qP P)))) u) t) A) args s 0 0 A) (F0 m 24 ls [])) : ∀ (T : RT) (x2 : Int32) (x3 : Int32) (x4 : Int32) (x5 : Int32) (x6 : Int32) (y7 : Int64) (x9 : Int32) (x10 : Int32) (t1 : Int32) (H : Heap) (locs : List Loc) (ls : Array Slot), Hw s z A (mW z qG qT G ++ (pW z qT T ++ (pW z qP P))) H locs → lv_has ls 11 [(0, .ref (qG 0)), (1, .ref (qP 0)), (2, .int x2), (3, .int x3), (4, .int x4), (5, .int x5), (6, .int x6), (7, .long y7), (9, .int x9), (10, .int x10)] → bX1_wetCases_51 K6 K24 G P Q T x2 x3 x4 x5 x6 y7 x9 x10 t1 → W p l e rmX1_wetCases s m args below meth c H locs 0 0 (MQ below (va_Ql (fun (r : Int64) (u : RT) => Q r u) (fun u t => cAt z A ((fun u : RT => (mW z qG qT G ++ (pW z qT u ++ (pW z qP P)))) u) t) A) args s 0 0 A) (F0 m 51 ls [.int t1, .ref (qT 0)]) := by
  obtain ⟨hx, hb, -, -, hown, hts, -, -, -, hN, hsr, -⟩ := id M
  intro T x2 x3 x4 x5 x6 y7 x9 x10 t1 H locs ls hw hl h
  unfold bX1_wetCases_51 at h
  refine fr_Vv (wN := fun u : RT => (mW z qG qT G ++ (pW z qT u ++ (pW z qP P)))) M (m_X3_goHour l z qT T t1 _ h) (cwV 1 hts (gdV cd_X3_goHour ml_X1_40 im_X3_goHour se_X3_goHour in_X3) rfl rfl rfl hdV_X3_goHour ⟨(Nat.le_of_ble_eq_true rfl), (Nat.le_of_ble_eq_true rfl)⟩) cut_2 prm_2 0 rfl rfl rfl hw rfl hl.1 rfl (Nat.le_of_ble_eq_true rfl) dX1_wetCases_51 (fun u_ H locs h hw => ?_)
  obtain ⟨T_1, rfl⟩ : ∃ z9 : RT, z9 = u_ := ⟨_, rfl⟩
  have hw : Hw s z A (mW z qG qT G ++ (pW z qT T_1 ++ (pW z qP P))) H locs := hw
  try dsimp only at h
  obtain ⟨x10_2, ex10_2⟩ : ∃ y : Int32, y = (x10 + (1 : Int32)) := ⟨_, rfl⟩
  replace h := h x10_2 ex10_2
  refine lv_iinc (v := x10_2) (lv' := [(10, .int x10_2), (0, .ref (qG 0)), (1, .ref (qP 0)), (2, .int x2), (3, .int x3), (4, .int x4), (5, .int x5), (6, .int x6), (7, .long y7), (9, .int x9)]) hx hb dX1_wetCases_54 hl (k := 9) rfl (by rw [ex10_2]; rfl) (by decide) rfl (fun ls hl => ?_)
  refine lv_goto (tgt := 24) hx hb dX1_wetCases_57 (by decide) ?_
  exact hK24 T_1 x2 x3 x4 x5 x6 y7 x9 x10_2 H locs ls hw (lv_sub hl [1, 2, 3, 4, 5, 6, 7, 8, 9, 0] rfl) h
set_option maxHeartbeats 4000000 in
set_option maxRecDepth 100000 in
theorem kX1_wetCases_95 {p : Program} {l : Launch} {e : Env} {s : State} {m : MethodId} {args : Array Value} {below : List Frame} {meth : Method} {c : Code} {z : KT} {A : Nat → Prop} {qG : Nat → Nat} {qP : Nat → Nat} {qT : Nat → Nat} {K6 : RT → Int32 → Int32 → Int32 → Int32 → Int32 → Int64 → Int32 → Prop} {G : RT} {P : RT} {Q : Int64 → RT → Prop} (M : Mc p s m args meth c cX1_wetCases 11 (some .long) RX1 z A) (hK6 : ∀ (T : RT) (x2 : Int32) (x3 : Int32) (x4 : Int32) (x5 : Int32) (x6 : Int32) (y7 : Int64) (x9 : Int32) (H : Heap) (locs : List Loc) (ls : Array Slot), Hw s z A (mW z qG qT G ++ (pW z qT T ++ (pW z qP P))) H locs → lv_has ls 11 [(0, .ref (qG 0)), (1, .ref (qP 0)), (2, .int x2), (3, .int x3), (4, .int x4), (5, .int x5), (6, .int x6), (7, .long y7), (9, .int x9)] → K6 T x2 x3 x4 x5 x6 y7 x9 → W p l e rmX1_wetCases s m args below meth c H locs 0 0 (MQ below (va_Ql (fun (r : Int64) (u : RT) => Q r u) (fun u t => cAt z A ((fun u : RT => (mW z qG qT G ++ (pW z qT u ++ (pW z qP P)))) u) t) A) args s 0 0 A) (F0 m 6 ls [])) : ∀ (T : RT) (x2 : Int32) (x3 : Int32) (x4 : Int32) (x5 : Int32) (x6 : Int32) (y7 : Int64) (x9 : Int32) (H : Heap) (locs : List Loc) (ls : Array Slot), Hw s z A (mW z qG qT G ++ (pW z qT T ++ (pW z qP P))) H locs → lv_has ls 11 [(0, .ref (qG 0)), (1, .ref (qP 0)), (2, .int x2), (3, .int x3), (4, .int x4), (5, .int x5), (6, .int x6), (7, .long y7), (9, .int x9)] → bX1_wetCases_95 K6 G P Q T x2 x3 x4 x5 x6 y7 x9 → W p l e rmX1_wetCases s m args below meth c H locs 0 0 (MQ below (va_Ql (fun (r : Int64) (u : RT) => Q r u) (fun u t => cAt z A ((fun u : RT => (mW z qG qT G ++ (pW z qT u ++ (pW z qP P)))) u) t) A) args s 0 0 A) (F0 m 95 ls []) := by
  obtain ⟨hx, hb, -, -, hown, hts, -, -, -, hN, hsr, -⟩ := id M
  intro T x2 x3 x4 x5 x6 y7 x9 H locs ls hw hl h
  unfold bX1_wetCases_95 at h
  obtain ⟨x9_1, ex9_1⟩ : ∃ y : Int32, y = (x9 + (1 : Int32)) := ⟨_, rfl⟩
  replace h := h x9_1 ex9_1
  refine lv_iinc (v := x9_1) (lv' := [(9, .int x9_1), (0, .ref (qG 0)), (1, .ref (qP 0)), (2, .int x2), (3, .int x3), (4, .int x4), (5, .int x5), (6, .int x6), (7, .long y7)]) hx hb dX1_wetCases_95 hl (k := 8) rfl (by rw [ex9_1]; rfl) (by decide) rfl (fun ls hl => ?_)
  refine lv_goto (tgt := 6) hx hb dX1_wetCases_98 (by decide) ?_
  exact hK6 T x2 x3 x4 x5 x6 y7 x9_1 H locs ls hw (lv_sub hl [1, 2, 3, 4, 5, 6, 7, 8, 0] rfl) h
set_option maxHeartbeats 4000000 in
set_option maxRecDepth 100000 in
theorem kX1_wetCases_24 {p : Program} {l : Launch} {e : Env} {s : State} {m : MethodId} {args : Array Value} {below : List Frame} {meth : Method} {c : Code} {z : KT} {A : Nat → Prop} {qG : Nat → Nat} {qP : Nat → Nat} {qT : Nat → Nat} {K6 : RT → Int32 → Int32 → Int32 → Int32 → Int32 → Int64 → Int32 → Prop} {G : RT} {P : RT} {Q : Int64 → RT → Prop} (M : Mc p s m args meth c cX1_wetCases 11 (some .long) RX1 z A) (hK6 : ∀ (T : RT) (x2 : Int32) (x3 : Int32) (x4 : Int32) (x5 : Int32) (x6 : Int32) (y7 : Int64) (x9 : Int32) (H : Heap) (locs : List Loc) (ls : Array Slot), Hw s z A (mW z qG qT G ++ (pW z qT T ++ (pW z qP P))) H locs → lv_has ls 11 [(0, .ref (qG 0)), (1, .ref (qP 0)), (2, .int x2), (3, .int x3), (4, .int x4), (5, .int x5), (6, .int x6), (7, .long y7), (9, .int x9)] → K6 T x2 x3 x4 x5 x6 y7 x9 → W p l e rmX1_wetCases s m args below meth c H locs 0 0 (MQ below (va_Ql (fun (r : Int64) (u : RT) => Q r u) (fun u t => cAt z A ((fun u : RT => (mW z qG qT G ++ (pW z qT u ++ (pW z qP P)))) u) t) A) args s 0 0 A) (F0 m 6 ls [])) : ∀ (n : Nat) (T : RT) (x2 : Int32) (x3 : Int32) (x4 : Int32) (x5 : Int32) (x6 : Int32) (y7 : Int64) (x9 : Int32) (x10 : Int32) (H : Heap) (locs : List Loc) (ls : Array Slot), Hw s z A (mW z qG qT G ++ (pW z qT T ++ (pW z qP P))) H locs → lv_has ls 11 [(0, .ref (qG 0)), (1, .ref (qP 0)), (2, .int x2), (3, .int x3), (4, .int x4), (5, .int x5), (6, .int x6), (7, .long y7), (9, .int x9), (10, .int x10)] → bX1_wetCases_24 K6 G P Q n T x2 x3 x4 x5 x6 y7 x9 x10 → W p l e rmX1_wetCases s m args below meth c H locs 0 0 (MQ below (va_Ql (fun (r : Int64) (u : RT) => Q r u) (fun u t => cAt z A ((fun u : RT => (mW z qG qT G ++ (pW z qT u ++ (pW z qP P)))) u) t) A) args s 0 0 A) (F0 m 24 ls []) := by
  obtain ⟨hx, hb, -, -, hown, hts, -, -, -, hN, hsr, -⟩ := id M
  intro n
  induction n with
  | zero => intro T x2 x3 x4 x5 x6 y7 x9 x10 H locs ls hw hl h; exact False.elim h
  | succ n ih =>
    intro T x2 x3 x4 x5 x6 y7 x9 x10 H locs ls hw hl h
    rw [bX1_wetCases_24] at h
    refine lv_iload hx hb dX1_wetCases_24 (lv_at hl 9 rfl) ?_
    refine lv_iload hx hb dX1_wetCases_26 (lv_at hl 4 rfl) ?_
    refine lv_icmp_ge (tgt := 60) hx hb dX1_wetCases_28 (by decide) (fun c_1 => ?_) (fun c_1 => ?_)
    · replace h := iT c_1 h
      refine lv_aload_n hx hb dX1_wetCases_60 rfl (lv_at hl 0 rfl) ?_
      refine gt_f (v := .ref (qT 0)) M inlX1 hw 0 rfl rfl 0 (by decide) fl_X1_12 rfl rfl dX1_wetCases_61 ?_
      refine gt_f (v := .ref (qT 5)) M inlX3 hw 3 rfl rfl 4 (by decide) fl_X1_37 rfl rfl dX1_wetCases_64 ?_
      refine lv_iload_n hx hb dX1_wetCases_67 rfl (lv_at hl 3 rfl) ?_
      obtain ⟨a_2, h⟩ := h
      refine ld_i M hw 8 rfl a_2 dX1_wetCases_68 ?_
      refine lv_iload hx hb dX1_wetCases_69 (lv_at hl 6 rfl) ?_
      refine lv_icmp_lt (tgt := 95) hx hb dX1_wetCases_71 (by decide) (fun c_3 => ?_) (fun c_3 => ?_)
      · replace h := iT c_3 h
        exact kX1_wetCases_95 M hK6 T x2 x3 x4 x5 x6 y7 x9 H locs ls hw (lv_sub hl [0, 1, 2, 3, 4, 5, 6, 7, 8] rfl) h
      · replace h := iF c_3 h
        refine lv_lload hx hb dX1_wetCases_74 (lv_at hl 7 rfl) ?_
        refine lv_iload hx hb dX1_wetCases_76 (lv_at hl 5 rfl) ?_
        refine lv_iconst (v := 1) hx hb dX1_wetCases_78 (by decide) ?_
        refine lv_isub hx hb dX1_wetCases_79 ?_
        refine lv_i2l hx hb dX1_wetCases_80 rfl ?_
        refine lv_iload hx hb dX1_wetCases_81 (lv_at hl 4 rfl) ?_
        refine lv_iload hx hb dX1_wetCases_83 (lv_at hl 8 rfl) ?_
        refine fr_Si (wN := fun _ : Unit => (mW z qG qT G ++ (pW z qT T ++ (pW z qP P)))) M (m_J6_bitCount l z x9 _ h) (va_cwS 1 hts (gdS cd_J6_bitCount_0f7a4 ml_X1_106 st_J6_bitCount_0f7a4 in_J6) rfl rfl rfl hdS_J6_bitCount_0f7a4 ⟨(Nat.le_of_ble_eq_true rfl), (Nat.le_of_ble_eq_true rfl)⟩) (Cut.none _) (Prm.none _) hw rfl hl.1 rfl (Nat.le_of_ble_eq_true rfl) dX1_wetCases_85 (fun r_4 u_ H locs h hw => ?_)
        have hw : Hw s z A (mW z qG qT G ++ (pW z qT T ++ (pW z qP P))) H locs := hw
        try dsimp only at h
        refine lv_isub hx hb dX1_wetCases_88 ?_
        refine fr_Nl (wN := fun _ : Unit => (mW z qG qT G ++ (pW z qT T ++ (pW z qP P)))) (host := RX6) M (m_X6_power l z (((x5 - (1 : Int32))).toInt64) (x4 - r_4) _ h) ⟨va_cnB 2 hts (gdNL cd_X6_power) rfl rfl rfl hN.2.1 (hts _ in_X6) hdS_X6_power ⟨(Nat.le_of_ble_eq_true rfl), (Nat.le_of_ble_eq_true rfl)⟩, hts _ st_X6_power, trivial⟩ (Cut.none _) (Prm.none _) hw rfl hl.1 rfl (Nat.le_of_ble_eq_true rfl) dX1_wetCases_89 (fun r_5 u_ H locs h hw => ?_)
        have hw : Hw s z A (mW z qG qT G ++ (pW z qT T ++ (pW z qP P))) H locs := hw
        try dsimp only at h
        refine lv_ladd hx hb dX1_wetCases_92 ?_
        refine lv_topl (fun y7_6 ey7_6 => ?_)
        replace h := h y7_6 ey7_6
        refine lv_lstore (lv' := [(7, .long y7_6), (0, .ref (qG 0)), (1, .ref (qP 0)), (2, .int x2), (3, .int x3), (4, .int x4), (5, .int x5), (6, .int x6), (9, .int x9), (10, .int x10)]) hx hb dX1_wetCases_93 hl (by decide) rfl (fun ls hl => ?_)
        exact kX1_wetCases_95 M hK6 T x2 x3 x4 x5 x6 y7_6 x9 H locs ls hw (lv_sub hl [1, 2, 3, 4, 5, 6, 7, 0, 8] rfl) h
    · replace h := iF c_1 h
      refine lv_aload_n hx hb dX1_wetCases_31 rfl (lv_at hl 0 rfl) ?_
      refine gt_f (v := .ref (qT 0)) M inlX1 hw 0 rfl rfl 0 (by decide) fl_X1_12 rfl rfl dX1_wetCases_32 ?_
      refine lv_iload hx hb dX1_wetCases_35 (lv_at hl 8 rfl) ?_
      refine lv_iload hx hb dX1_wetCases_37 (lv_at hl 9 rfl) ?_
      refine fr_Ni (wN := fun _ : Unit => (mW z qG qT G ++ (pW z qT T ++ (pW z qP P)))) (host := RX6) M (m_X6_hasBit l z x9 x10 _ h) ⟨va_cnB 2 hts (gdNL cd_X6_hasBit) rfl rfl rfl hN.1 (hts _ in_X6) hdS_X6_hasBit ⟨(Nat.le_of_ble_eq_true rfl), (Nat.le_of_ble_eq_true rfl)⟩, hts _ st_X6_hasBit, trivial⟩ (Cut.none _) (Prm.none _) hw rfl hl.1 rfl (Nat.le_of_ble_eq_true rfl) dX1_wetCases_39 (fun r_7 u_ H locs h hw => ?_)
      have hw : Hw s z A (mW z qG qT G ++ (pW z qT T ++ (pW z qP P))) H locs := hw
      try dsimp only at h
      refine lv_if_eq (tgt := 49) hx hb dX1_wetCases_42 (by decide) (fun c_8 => ?_) (fun c_8 => ?_)
      · replace h := iT c_8 h
        refine lv_bipush (v := -9) hx hb dX1_wetCases_49 (by decide) ?_
        exact kX1_wetCases_51 M hK6 ih T x2 x3 x4 x5 x6 y7 x9 x10 (-9 : Int32) H locs ls hw (lv_sub hl [0, 1, 2, 3, 4, 5, 6, 7, 8, 9] rfl) h
      · replace h := iF c_8 h
        refine lv_iload_n hx hb dX1_wetCases_45 rfl (lv_at hl 2 rfl) ?_
        refine lv_goto (tgt := 51) hx hb dX1_wetCases_46 (by decide) ?_
        exact kX1_wetCases_51 M hK6 ih T x2 x3 x4 x5 x6 y7 x9 x10 x2 H locs ls hw (lv_sub hl [0, 1, 2, 3, 4, 5, 6, 7, 8, 9] rfl) h
set_option maxHeartbeats 4000000 in
set_option maxRecDepth 100000 in
theorem kX1_wetCases_6 {p : Program} {l : Launch} {e : Env} {s : State} {m : MethodId} {args : Array Value} {below : List Frame} {meth : Method} {c : Code} {z : KT} {A : Nat → Prop} {qG : Nat → Nat} {qP : Nat → Nat} {qT : Nat → Nat} {G : RT} {P : RT} {Q : Int64 → RT → Prop} (M : Mc p s m args meth c cX1_wetCases 11 (some .long) RX1 z A) : ∀ (n : Nat) (T : RT) (x2 : Int32) (x3 : Int32) (x4 : Int32) (x5 : Int32) (x6 : Int32) (y7 : Int64) (x9 : Int32) (H : Heap) (locs : List Loc) (ls : Array Slot), Hw s z A (mW z qG qT G ++ (pW z qT T ++ (pW z qP P))) H locs → lv_has ls 11 [(0, .ref (qG 0)), (1, .ref (qP 0)), (2, .int x2), (3, .int x3), (4, .int x4), (5, .int x5), (6, .int x6), (7, .long y7), (9, .int x9)] → bX1_wetCases_6 G P Q n T x2 x3 x4 x5 x6 y7 x9 → W p l e rmX1_wetCases s m args below meth c H locs 0 0 (MQ below (va_Ql (fun (r : Int64) (u : RT) => Q r u) (fun u t => cAt z A ((fun u : RT => (mW z qG qT G ++ (pW z qT u ++ (pW z qP P)))) u) t) A) args s 0 0 A) (F0 m 6 ls []) := by
  obtain ⟨hx, hb, -, -, hown, hts, -, -, -, hN, hsr, -⟩ := id M
  intro n
  induction n with
  | zero => intro T x2 x3 x4 x5 x6 y7 x9 H locs ls hw hl h; exact False.elim h
  | succ n ih =>
    intro T x2 x3 x4 x5 x6 y7 x9 H locs ls hw hl h
    rw [bX1_wetCases_6] at h
    refine lv_iload hx hb dX1_wetCases_6 (lv_at hl 8 rfl) ?_
    refine lv_iconst (v := 1) hx hb dX1_wetCases_8 (by decide) ?_
    refine lv_iload hx hb dX1_wetCases_9 (lv_at hl 4 rfl) ?_
    refine lv_ishl hx hb dX1_wetCases_11 ?_
    refine lv_icmp_ge (tgt := 101) hx hb dX1_wetCases_12 (by decide) (fun c_1 => ?_) (fun c_1 => ?_)
    · replace h := iT c_1 h
      refine lv_lload hx hb dX1_wetCases_101 (lv_at hl 7 rfl) ?_
      exact rt_l M T hw h dX1_wetCases_103
    · replace h := iF c_1 h
      refine lv_aload_n hx hb dX1_wetCases_15 rfl (lv_at hl 0 rfl) ?_
      refine lv_aload_n hx hb dX1_wetCases_16 rfl (lv_at hl 1 rfl) ?_
      refine fr_Vr (wN := fun u : RT => (mW z qG qT G ++ (pW z qT u ++ (pW z qP P)))) M (m_X1_begin l z qG qP qT G T P _ h) (cwV 1 hts (gdV cd_X1_begin ml_X1_33 im_X1_begin se_X1_begin in_X1) rfl rfl rfl hdV_X1_begin ⟨(Nat.le_of_ble_eq_true rfl), (Nat.le_of_ble_eq_true rfl)⟩) (Cut.self _) (Prm.self _ 19 (fun _ => rfl)) 0 rfl rfl rfl hw rfl hl.1 rfl (Nat.le_of_ble_eq_true rfl) dX1_wetCases_17 (fun ra_ u_ H locs h hw => ?_)
      obtain ⟨T_2, rfl⟩ : ∃ z9 : RT, z9 = u_ := ⟨_, rfl⟩
      obtain ⟨rfl, h⟩ := h
      have hw : Hw s z A (mW z qG qT G ++ (pW z qT T_2 ++ (pW z qP P))) H locs := hw
      try dsimp only at h
      refine lv_pop hx hb dX1_wetCases_20 rfl ?_
      refine lv_iconst (v := 0) hx hb dX1_wetCases_21 (by decide) ?_
      refine lv_istore (lv' := [(10, .int (0 : Int32)), (0, .ref (qG 0)), (1, .ref (qP 0)), (2, .int x2), (3, .int x3), (4, .int x4), (5, .int x5), (6, .int x6), (7, .long y7), (9, .int x9)]) hx hb dX1_wetCases_22 hl (by decide) rfl (fun ls hl => ?_)
      obtain ⟨n0, h⟩ := h; exact kX1_wetCases_24 M ih n0 T_2 x2 x3 x4 x5 x6 y7 x9 (0 : Int32) H locs ls hw (lv_sub hl [1, 2, 3, 4, 5, 6, 7, 8, 9, 0] rfl) h
set_option maxHeartbeats 4000000 in
set_option maxRecDepth 100000 in
theorem m_X1_wetCases (l : Launch) (z : KT) (qG : Nat → Nat) (qP : Nat → Nat) (qT : Nat → Nat) (G : RT) (T : RT) (P : RT) (x2 : Int32) (x3 : Int32) (x4 : Int32) (x5 : Int32) (x6 : Int32) (Q : Int64 → RT → Prop) (h : wX1_wetCases G T P x2 x3 x4 x5 x6 Q) : CL l yX1_wetCases cX1_wetCases 11 .long rmX1_wetCases z [.ref (qG 0), .ref (qP 0), .int x2, .int x3, .int x4, .int x5, .int x6] (mW z qG qT G ++ (pW z qT T ++ (pW z qP P))) (fun u : RT => (mW z qG qT G ++ (pW z qT u ++ (pW z qP P)))) (fun (r : Int64) (u : RT) => Q r u) := by
  refine CL.of rfl (Nat.le_of_ble_eq_true rfl) ?_
  intro p e s m below meth c A ls M hw hl
  have M : Mc p s m _ meth c cX1_wetCases 11 (some .long) RX1 z A := M
  obtain ⟨hx, hb, -, -, hown, hts, -, -, -, hN, hsr, -⟩ := id M
  have hl : lv_has ls 11 [(0, .ref (qG 0)), (1, .ref (qP 0)), (2, .int x2), (3, .int x3), (4, .int x4), (5, .int x5), (6, .int x6)] := hl
  unfold wX1_wetCases at h
  generalize s.heap = H at hw ⊢
  generalize ([] : List Loc) = locs at hw ⊢
  refine lv_lconst (v := 0) hx hb dX1_wetCases_0 rfl ?_
  refine lv_lstore (lv' := [(7, .long (0 : Int64)), (0, .ref (qG 0)), (1, .ref (qP 0)), (2, .int x2), (3, .int x3), (4, .int x4), (5, .int x5), (6, .int x6)]) hx hb dX1_wetCases_1 hl (by decide) rfl (fun ls hl => ?_)
  refine lv_iconst (v := 0) hx hb dX1_wetCases_3 (by decide) ?_
  refine lv_istore (lv' := [(9, .int (0 : Int32)), (7, .long (0 : Int64)), (0, .ref (qG 0)), (1, .ref (qP 0)), (2, .int x2), (3, .int x3), (4, .int x4), (5, .int x5), (6, .int x6)]) hx hb dX1_wetCases_4 hl (by decide) rfl (fun ls hl => ?_)
  obtain ⟨n0, h⟩ := h; exact kX1_wetCases_6 M n0 T x2 x3 x4 x5 x6 (0 : Int64) (0 : Int32) H locs ls hw (lv_sub hl [2, 3, 4, 5, 6, 7, 8, 1, 0] rfl) h
abbrev rmX1_goesAsTold : Room := { frames := 2, cells := 0, slots := 0, locals := 49 }
set_option maxHeartbeats 4000000 in
set_option maxRecDepth 100000 in
theorem kX1_goesAsTold_2 {p : Program} {l : Launch} {e : Env} {s : State} {m : MethodId} {args : Array Value} {below : List Frame} {meth : Method} {c : Code} {z : KT} {A : Nat → Prop} {qN : Nat → Nat} {qG : Nat → Nat} {qT : Nat → Nat} {G : RT} {N : RT} {Q : Int32 → RT → Prop} (M : Mc p s m args meth c cX1_goesAsTold 4 (some .boolean) RX1 z A) : ∀ (n : Nat) (T : RT) (x1 : Int32) (x3 : Int32) (H : Heap) (locs : List Loc) (ls : Array Slot), Hw s z A (mW z qG qT G ++ (pW z qT T ++ (nW z qN N))) H locs → lv_has ls 4 [(0, .ref (qG 0)), (1, .int x1), (2, .ref (qN 0)), (3, .int x3)] → bX1_goesAsTold_2 G N Q n T x1 x3 → W p l e rmX1_goesAsTold s m args below meth c H locs 0 0 (MQ below (va_Qi (fun (r : Int32) (u : RT) => Q r u) (fun u t => cAt z A ((fun u : RT => (mW z qG qT G ++ (pW z qT u ++ (nW z qN N)))) u) t) A) args s 0 0 A) (F0 m 2 ls []) := by
  obtain ⟨hx, hb, -, -, hown, hts, -, -, -, hN, hsr, -⟩ := id M
  intro n
  induction n with
  | zero => intro T x1 x3 H locs ls hw hl h; exact False.elim h
  | succ n ih =>
    intro T x1 x3 H locs ls hw hl h
    rw [bX1_goesAsTold_2] at h
    refine lv_iload_n hx hb dX1_goesAsTold_2 rfl (lv_at hl 3 rfl) ?_
    refine lv_aload_n hx hb dX1_goesAsTold_3 rfl (lv_at hl 2 rfl) ?_
    refine gt_f (v := .int (N 30 1)) M inlX5 hw 11 rfl rfl 1 (by decide) fl_X1_125 rfl rfl dX1_goesAsTold_4 ?_
    refine lv_icmp_ge (tgt := 45) hx hb dX1_goesAsTold_7 (by decide) (fun c_1 => ?_) (fun c_1 => ?_)
    · replace h := iT c_1 h
      refine lv_iconst (v := 1) hx hb dX1_goesAsTold_45 (by decide) ?_
      exact rt_z M T hw bz1 h dX1_goesAsTold_46
    · replace h := iF c_1 h
      refine lv_aload_n hx hb dX1_goesAsTold_10 rfl (lv_at hl 0 rfl) ?_
      refine gt_f (v := .ref (qT 0)) M inlX1 hw 0 rfl rfl 0 (by decide) fl_X1_12 rfl rfl dX1_goesAsTold_11 ?_
      refine gt_f (v := .ref (qT 5)) M inlX3 hw 3 rfl rfl 4 (by decide) fl_X1_37 rfl rfl dX1_goesAsTold_14 ?_
      refine lv_iload_n hx hb dX1_goesAsTold_17 rfl (lv_at hl 1 rfl) ?_
      obtain ⟨a_2, h⟩ := h
      refine ld_i M hw 8 rfl a_2 dX1_goesAsTold_18 ?_
      refine lv_aload_n hx hb dX1_goesAsTold_19 rfl (lv_at hl 2 rfl) ?_
      refine gt_f (v := .ref (qN 1)) M inlX5 hw 11 rfl rfl 0 (by decide) fl_X1_130 rfl rfl dX1_goesAsTold_20 ?_
      refine lv_iload_n hx hb dX1_goesAsTold_23 rfl (lv_at hl 3 rfl) ?_
      obtain ⟨a_3, h⟩ := h
      refine ld_i M hw 12 rfl a_3 dX1_goesAsTold_24 ?_
      refine lv_icmp_eq (tgt := 30) hx hb dX1_goesAsTold_25 (by decide) (fun c_4 => ?_) (fun c_4 => ?_)
      · replace h := iT c_4 h
        refine lv_aload_n hx hb dX1_goesAsTold_30 rfl (lv_at hl 0 rfl) ?_
        refine gt_f (v := .ref (qT 0)) M inlX1 hw 0 rfl rfl 0 (by decide) fl_X1_12 rfl rfl dX1_goesAsTold_31 ?_
        refine lv_bipush (v := -9) hx hb dX1_goesAsTold_34 (by decide) ?_
        refine fr_Vv (wN := fun u : RT => (mW z qG qT G ++ (pW z qT u ++ (nW z qN N)))) M (m_X3_goHour l z qT T (-9 : Int32) _ h) (cwV 1 hts (gdV cd_X3_goHour ml_X1_40 im_X3_goHour se_X3_goHour in_X3) rfl rfl rfl hdV_X3_goHour ⟨(Nat.le_of_ble_eq_true rfl), (Nat.le_of_ble_eq_true rfl)⟩) cut_6 prm_6 0 rfl rfl rfl hw rfl hl.1 rfl (Nat.le_of_ble_eq_true rfl) dX1_goesAsTold_36 (fun u_ H locs h hw => ?_)
        obtain ⟨T_5, rfl⟩ : ∃ z9 : RT, z9 = u_ := ⟨_, rfl⟩
        have hw : Hw s z A (mW z qG qT G ++ (pW z qT T_5 ++ (nW z qN N))) H locs := hw
        try dsimp only at h
        obtain ⟨x3_6, ex3_6⟩ : ∃ y : Int32, y = (x3 + (1 : Int32)) := ⟨_, rfl⟩
        replace h := h x3_6 ex3_6
        refine lv_iinc (v := x3_6) (lv' := [(3, .int x3_6), (0, .ref (qG 0)), (1, .int x1), (2, .ref (qN 0))]) hx hb dX1_goesAsTold_39 hl (k := 3) rfl (by rw [ex3_6]; rfl) (by decide) rfl (fun ls hl => ?_)
        refine lv_goto (tgt := 2) hx hb dX1_goesAsTold_42 (by decide) ?_
        exact ih T_5 x1 x3_6 H locs ls hw (lv_sub hl [1, 2, 3, 0] rfl) h
      · replace h := iF c_4 h
        refine lv_iconst (v := 0) hx hb dX1_goesAsTold_28 (by decide) ?_
        exact rt_z M T hw bz0 h dX1_goesAsTold_29
set_option maxHeartbeats 4000000 in
set_option maxRecDepth 100000 in
theorem m_X1_goesAsTold (l : Launch) (z : KT) (qN : Nat → Nat) (qG : Nat → Nat) (qT : Nat → Nat) (G : RT) (T : RT) (N : RT) (x1 : Int32) (Q : Int32 → RT → Prop) (h : wX1_goesAsTold G T N x1 Q) : CI l yX1_goesAsTold cX1_goesAsTold 4 .boolean rmX1_goesAsTold z [.ref (qG 0), .int x1, .ref (qN 0)] (mW z qG qT G ++ (pW z qT T ++ (nW z qN N))) (fun u : RT => (mW z qG qT G ++ (pW z qT u ++ (nW z qN N)))) (fun (r : Int32) (u : RT) => Q r u) := by
  refine CI.of rfl (Nat.le_of_ble_eq_true rfl) ?_
  intro p e s m below meth c A ls M hw hl
  have M : Mc p s m _ meth c cX1_goesAsTold 4 (some .boolean) RX1 z A := M
  obtain ⟨hx, hb, -, -, hown, hts, -, -, -, hN, hsr, -⟩ := id M
  have hl : lv_has ls 4 [(0, .ref (qG 0)), (1, .int x1), (2, .ref (qN 0))] := hl
  unfold wX1_goesAsTold at h
  generalize s.heap = H at hw ⊢
  generalize ([] : List Loc) = locs at hw ⊢
  refine lv_iconst (v := 0) hx hb dX1_goesAsTold_0 (by decide) ?_
  refine lv_istore_n (lv' := [(3, .int (0 : Int32)), (0, .ref (qG 0)), (1, .int x1), (2, .ref (qN 0))]) hx hb dX1_goesAsTold_1 rfl hl (by decide) rfl (fun ls hl => ?_)
  obtain ⟨n0, h⟩ := h; exact kX1_goesAsTold_2 M n0 T x1 (0 : Int32) H locs ls hw (lv_sub hl [1, 2, 3, 0] rfl) h
abbrev rmX1_kindsAsTold : Room := { frames := 3, cells := 0, slots := 0, locals := 72 }
set_option maxHeartbeats 4000000 in
set_option maxRecDepth 100000 in
theorem kX1_kindsAsTold_48 {p : Program} {l : Launch} {e : Env} {s : State} {m : MethodId} {args : Array Value} {below : List Frame} {meth : Method} {c : Code} {z : KT} {A : Nat → Prop} {qN : Nat → Nat} {qG : Nat → Nat} {qP : Nat → Nat} {qT : Nat → Nat} {K6 : RT → Int32 → Int32 → Int32 → Prop} {G : RT} {P : RT} {N : RT} {Q : Int32 → RT → Prop} (M : Mc p s m args meth c cX1_kindsAsTold 6 (some .int) RX1 z A) (hK6 : ∀ (T : RT) (x2 : Int32) (x4 : Int32) (x5 : Int32) (H : Heap) (locs : List Loc) (ls : Array Slot), Hw s z A (mW z qG qT G ++ (pW z qT T ++ (pW z qP P ++ (nW z qN N)))) H locs → lv_has ls 6 [(0, .ref (qG 0)), (1, .ref (qP 0)), (2, .int x2), (3, .ref (qN 0)), (4, .int x4), (5, .int x5)] → K6 T x2 x4 x5 → W p l e rmX1_kindsAsTold s m args below meth c H locs 0 0 (MQ below (va_Qi (fun (r : Int32) (u : RT) => Q r u) (fun u t => cAt z A ((fun u : RT => (mW z qG qT G ++ (pW z qT u ++ (pW z qP P ++ (nW z qN N))))) u) t) A) args s 0 0 A) (F0 m 6 ls [])) : ∀ (T : RT) (x2 : Int32) (x4 : Int32) (x5 : Int32) (H : Heap) (locs : List Loc) (ls : Array Slot), Hw s z A (mW z qG qT G ++ (pW z qT T ++ (pW z qP P ++ (nW z qN N)))) H locs → lv_has ls 6 [(0, .ref (qG 0)), (1, .ref (qP 0)), (2, .int x2), (3, .ref (qN 0)), (4, .int x4), (5, .int x5)] → bX1_kindsAsTold_48 K6 G P N Q T x2 x4 x5 → W p l e rmX1_kindsAsTold s m args below meth c H locs 0 0 (MQ below (va_Qi (fun (r : Int32) (u : RT) => Q r u) (fun u t => cAt z A ((fun u : RT => (mW z qG qT G ++ (pW z qT u ++ (pW z qP P ++ (nW z qN N))))) u) t) A) args s 0 0 A) (F0 m 48 ls []) := by
  obtain ⟨hx, hb, -, -, hown, hts, -, -, -, hN, hsr, -⟩ := id M
  intro T x2 x4 x5 H locs ls hw hl h
  unfold bX1_kindsAsTold_48 at h
  obtain ⟨x5_1, ex5_1⟩ : ∃ y : Int32, y = (x5 + (1 : Int32)) := ⟨_, rfl⟩
  replace h := h x5_1 ex5_1
  refine lv_iinc (v := x5_1) (lv' := [(5, .int x5_1), (0, .ref (qG 0)), (1, .ref (qP 0)), (2, .int x2), (3, .ref (qN 0)), (4, .int x4)]) hx hb dX1_kindsAsTold_48 hl (k := 5) rfl (by rw [ex5_1]; rfl) (by decide) rfl (fun ls hl => ?_)
  refine lv_goto (tgt := 6) hx hb dX1_kindsAsTold_51 (by decide) ?_
  exact hK6 T x2 x4 x5_1 H locs ls hw (lv_sub hl [1, 2, 3, 4, 5, 0] rfl) h
set_option maxHeartbeats 4000000 in
set_option maxRecDepth 100000 in
theorem kX1_kindsAsTold_6 {p : Program} {l : Launch} {e : Env} {s : State} {m : MethodId} {args : Array Value} {below : List Frame} {meth : Method} {c : Code} {z : KT} {A : Nat → Prop} {qN : Nat → Nat} {qG : Nat → Nat} {qP : Nat → Nat} {qT : Nat → Nat} {G : RT} {P : RT} {N : RT} {Q : Int32 → RT → Prop} (M : Mc p s m args meth c cX1_kindsAsTold 6 (some .int) RX1 z A) : ∀ (n : Nat) (T : RT) (x2 : Int32) (x4 : Int32) (x5 : Int32) (H : Heap) (locs : List Loc) (ls : Array Slot), Hw s z A (mW z qG qT G ++ (pW z qT T ++ (pW z qP P ++ (nW z qN N)))) H locs → lv_has ls 6 [(0, .ref (qG 0)), (1, .ref (qP 0)), (2, .int x2), (3, .ref (qN 0)), (4, .int x4), (5, .int x5)] → bX1_kindsAsTold_6 G P N Q n T x2 x4 x5 → W p l e rmX1_kindsAsTold s m args below meth c H locs 0 0 (MQ below (va_Qi (fun (r : Int32) (u : RT) => Q r u) (fun u t => cAt z A ((fun u : RT => (mW z qG qT G ++ (pW z qT u ++ (pW z qP P ++ (nW z qN N))))) u) t) A) args s 0 0 A) (F0 m 6 ls []) := by
  obtain ⟨hx, hb, -, -, hown, hts, -, -, -, hN, hsr, -⟩ := id M
  intro n
  induction n with
  | zero => intro T x2 x4 x5 H locs ls hw hl h; exact False.elim h
  | succ n ih =>
    intro T x2 x4 x5 H locs ls hw hl h
    rw [bX1_kindsAsTold_6] at h
    refine lv_iload hx hb dX1_kindsAsTold_6 (lv_at hl 5 rfl) ?_
    refine lv_bipush (v := 6) hx hb dX1_kindsAsTold_8 (by decide) ?_
    refine lv_icmp_ge (tgt := 54) hx hb dX1_kindsAsTold_10 (by decide) (fun c_1 => ?_) (fun c_1 => ?_)
    · replace h := iT c_1 h
      refine lv_iload hx hb dX1_kindsAsTold_54 (lv_at hl 4 rfl) ?_
      exact rt_i M T hw h dX1_kindsAsTold_56
    · replace h := iF c_1 h
      refine lv_aload_n hx hb dX1_kindsAsTold_13 rfl (lv_at hl 0 rfl) ?_
      refine lv_aload_n hx hb dX1_kindsAsTold_14 rfl (lv_at hl 1 rfl) ?_
      refine fr_Vr (wN := fun u : RT => (mW z qG qT G ++ (pW z qT u ++ (pW z qP P ++ (nW z qN N))))) M (m_X1_begin l z qG qP qT G T P _ h) (cwV 1 hts (gdV cd_X1_begin ml_X1_33 im_X1_begin se_X1_begin in_X1) rfl rfl rfl hdV_X1_begin ⟨(Nat.le_of_ble_eq_true rfl), (Nat.le_of_ble_eq_true rfl)⟩) cut_7 prm_7 0 rfl rfl rfl hw rfl hl.1 rfl (Nat.le_of_ble_eq_true rfl) dX1_kindsAsTold_15 (fun ra_ u_ H locs h hw => ?_)
      obtain ⟨T_2, rfl⟩ : ∃ z9 : RT, z9 = u_ := ⟨_, rfl⟩
      obtain ⟨rfl, h⟩ := h
      have hw : Hw s z A (mW z qG qT G ++ (pW z qT T_2 ++ (pW z qP P ++ (nW z qN N)))) H locs := hw
      try dsimp only at h
      refine lv_pop hx hb dX1_kindsAsTold_18 rfl ?_
      refine lv_aload_n hx hb dX1_kindsAsTold_19 rfl (lv_at hl 0 rfl) ?_
      refine gt_f (v := .ref (qT 0)) M inlX1 hw 0 rfl rfl 0 (by decide) fl_X1_12 rfl rfl dX1_kindsAsTold_20 ?_
      refine gt_f (v := .ref (qT 1)) M inlX3 hw 3 rfl rfl 0 (by decide) fl_X1_115 rfl rfl dX1_kindsAsTold_23 ?_
      refine lv_iload_n hx hb dX1_kindsAsTold_26 rfl (lv_at hl 2 rfl) ?_
      refine lv_iload hx hb dX1_kindsAsTold_27 (lv_at hl 5 rfl) ?_
      obtain ⟨a_3, h⟩ := h
      refine st_i (P := T_2) (r := 0) (wN := fun T_4 => (mW z qG qT G ++ (pW z qT T_4 ++ (pW z qP P ++ (nW z qN N))))) M hw 4 rfl rfl a_3 dX1_kindsAsTold_29 (fun T_4 H locs eT_4 hw => ?_)
      replace h := h T_4 eT_4
      refine lv_aload_n hx hb dX1_kindsAsTold_30 rfl (lv_at hl 0 rfl) ?_
      refine lv_iload_n hx hb dX1_kindsAsTold_31 rfl (lv_at hl 2 rfl) ?_
      refine lv_aload_n hx hb dX1_kindsAsTold_32 rfl (lv_at hl 3 rfl) ?_
      refine fr_Vi (wN := fun u : RT => (mW z qG qT G ++ (pW z qT u ++ (pW z qP P ++ (nW z qN N))))) M (m_X1_goesAsTold l z qN qG qT G T_4 N x2 _ h) (cwV 2 hts (gdV cd_X1_goesAsTold ml_X1_118 im_X1_goesAsTold se_X1_goesAsTold in_X1) rfl rfl rfl hdV_X1_goesAsTold ⟨(Nat.le_of_ble_eq_true rfl), (Nat.le_of_ble_eq_true rfl)⟩) cut_8 prm_8 0 rfl rfl rfl hw rfl hl.1 rfl (Nat.le_of_ble_eq_true rfl) dX1_kindsAsTold_33 (fun r_6 u_ H locs h hw => ?_)
      obtain ⟨T_5, rfl⟩ : ∃ z9 : RT, z9 = u_ := ⟨_, rfl⟩
      have hw : Hw s z A (mW z qG qT G ++ (pW z qT T_5 ++ (pW z qP P ++ (nW z qN N)))) H locs := hw
      try dsimp only at h
      refine lv_if_eq (tgt := 48) hx hb dX1_kindsAsTold_36 (by decide) (fun c_7 => ?_) (fun c_7 => ?_)
      · replace h := iT c_7 h
        exact kX1_kindsAsTold_48 M ih T_5 x2 x4 x5 H locs ls hw (lv_sub hl [0, 1, 2, 3, 4, 5] rfl) h
      · replace h := iF c_7 h
        refine lv_iload hx hb dX1_kindsAsTold_39 (lv_at hl 4 rfl) ?_
        refine lv_iconst (v := 1) hx hb dX1_kindsAsTold_41 (by decide) ?_
        refine lv_iload hx hb dX1_kindsAsTold_42 (lv_at hl 5 rfl) ?_
        refine lv_ishl hx hb dX1_kindsAsTold_44 ?_
        refine lv_ior hx hb dX1_kindsAsTold_45 ?_
        refine lv_topi (fun x4_8 ex4_8 => ?_)
        replace h := h x4_8 ex4_8
        refine lv_istore (lv' := [(4, .int x4_8), (0, .ref (qG 0)), (1, .ref (qP 0)), (2, .int x2), (3, .ref (qN 0)), (5, .int x5)]) hx hb dX1_kindsAsTold_46 hl (by decide) rfl (fun ls hl => ?_)
        exact kX1_kindsAsTold_48 M ih T_5 x2 x4_8 x5 H locs ls hw (lv_sub hl [1, 2, 3, 4, 0, 5] rfl) h
set_option maxHeartbeats 4000000 in
set_option maxRecDepth 100000 in
theorem m_X1_kindsAsTold (l : Launch) (z : KT) (qN : Nat → Nat) (qG : Nat → Nat) (qP : Nat → Nat) (qT : Nat → Nat) (G : RT) (T : RT) (P : RT) (N : RT) (x2 : Int32) (Q : Int32 → RT → Prop) (h : wX1_kindsAsTold G T P N x2 Q) : CI l yX1_kindsAsTold cX1_kindsAsTold 6 .int rmX1_kindsAsTold z [.ref (qG 0), .ref (qP 0), .int x2, .ref (qN 0)] (mW z qG qT G ++ (pW z qT T ++ (pW z qP P ++ (nW z qN N)))) (fun u : RT => (mW z qG qT G ++ (pW z qT u ++ (pW z qP P ++ (nW z qN N))))) (fun (r : Int32) (u : RT) => Q r u) := by
  refine CI.of rfl (Nat.le_of_ble_eq_true rfl) ?_
  intro p e s m below meth c A ls M hw hl
  have M : Mc p s m _ meth c cX1_kindsAsTold 6 (some .int) RX1 z A := M
  obtain ⟨hx, hb, -, -, hown, hts, -, -, -, hN, hsr, -⟩ := id M
  have hl : lv_has ls 6 [(0, .ref (qG 0)), (1, .ref (qP 0)), (2, .int x2), (3, .ref (qN 0))] := hl
  unfold wX1_kindsAsTold at h
  generalize s.heap = H at hw ⊢
  generalize ([] : List Loc) = locs at hw ⊢
  refine lv_iconst (v := 0) hx hb dX1_kindsAsTold_0 (by decide) ?_
  refine lv_istore (lv' := [(4, .int (0 : Int32)), (0, .ref (qG 0)), (1, .ref (qP 0)), (2, .int x2), (3, .ref (qN 0))]) hx hb dX1_kindsAsTold_1 hl (by decide) rfl (fun ls hl => ?_)
  refine lv_iconst (v := 0) hx hb dX1_kindsAsTold_3 (by decide) ?_
  refine lv_istore (lv' := [(5, .int (0 : Int32)), (4, .int (0 : Int32)), (0, .ref (qG 0)), (1, .ref (qP 0)), (2, .int x2), (3, .ref (qN 0))]) hx hb dX1_kindsAsTold_4 hl (by decide) rfl (fun ls hl => ?_)
  obtain ⟨n0, h⟩ := h; exact kX1_kindsAsTold_6 M n0 T x2 (0 : Int32) (0 : Int32) H locs ls hw (lv_sub hl [2, 3, 4, 5, 1, 0] rfl) h
abbrev rmX1_weightsAsTold : Room := { frames := 3, cells := 0, slots := 0, locals := 72 }
set_option maxHeartbeats 4000000 in
set_option maxRecDepth 100000 in
theorem kX1_weightsAsTold_42 {p : Program} {l : Launch} {e : Env} {s : State} {m : MethodId} {args : Array Value} {below : List Frame} {meth : Method} {c : Code} {z : KT} {A : Nat → Prop} {qN : Nat → Nat} {qG : Nat → Nat} {qP : Nat → Nat} {qT : Nat → Nat} {K6 : RT → Int32 → Int32 → Int32 → Prop} {G : RT} {P : RT} {N : RT} {Q : Int32 → RT → Prop} (M : Mc p s m args meth c cX1_weightsAsTold 6 (some .int) RX1 z A) (hK6 : ∀ (T : RT) (x2 : Int32) (x4 : Int32) (x5 : Int32) (H : Heap) (locs : List Loc) (ls : Array Slot), Hw s z A (mW z qG qT G ++ (pW z qT T ++ (pW z qP P ++ (nW z qN N)))) H locs → lv_has ls 6 [(0, .ref (qG 0)), (1, .ref (qP 0)), (2, .int x2), (3, .ref (qN 0)), (4, .int x4), (5, .int x5)] → K6 T x2 x4 x5 → W p l e rmX1_weightsAsTold s m args below meth c H locs 0 0 (MQ below (va_Qi (fun (r : Int32) (u : RT) => Q r u) (fun u t => cAt z A ((fun u : RT => (mW z qG qT G ++ (pW z qT u ++ (pW z qP P ++ (nW z qN N))))) u) t) A) args s 0 0 A) (F0 m 6 ls [])) : ∀ (T : RT) (x2 : Int32) (x4 : Int32) (x5 : Int32) (H : Heap) (locs : List Loc) (ls : Array Slot), Hw s z A (mW z qG qT G ++ (pW z qT T ++ (pW z qP P ++ (nW z qN N)))) H locs → lv_has ls 6 [(0, .ref (qG 0)), (1, .ref (qP 0)), (2, .int x2), (3, .ref (qN 0)), (4, .int x4), (5, .int x5)] → bX1_weightsAsTold_42 K6 G P N Q T x2 x4 x5 → W p l e rmX1_weightsAsTold s m args below meth c H locs 0 0 (MQ below (va_Qi (fun (r : Int32) (u : RT) => Q r u) (fun u t => cAt z A ((fun u : RT => (mW z qG qT G ++ (pW z qT u ++ (pW z qP P ++ (nW z qN N))))) u) t) A) args s 0 0 A) (F0 m 42 ls []) := by
  obtain ⟨hx, hb, -, -, hown, hts, -, -, -, hN, hsr, -⟩ := id M
  intro T x2 x4 x5 H locs ls hw hl h
  unfold bX1_weightsAsTold_42 at h
  obtain ⟨x5_1, ex5_1⟩ : ∃ y : Int32, y = (x5 + (1 : Int32)) := ⟨_, rfl⟩
  replace h := h x5_1 ex5_1
  refine lv_iinc (v := x5_1) (lv' := [(5, .int x5_1), (0, .ref (qG 0)), (1, .ref (qP 0)), (2, .int x2), (3, .ref (qN 0)), (4, .int x4)]) hx hb dX1_weightsAsTold_42 hl (k := 5) rfl (by rw [ex5_1]; rfl) (by decide) rfl (fun ls hl => ?_)
  refine lv_goto (tgt := 6) hx hb dX1_weightsAsTold_45 (by decide) ?_
  exact hK6 T x2 x4 x5_1 H locs ls hw (lv_sub hl [1, 2, 3, 4, 5, 0] rfl) h
set_option maxHeartbeats 4000000 in
set_option maxRecDepth 100000 in
theorem kX1_weightsAsTold_6 {p : Program} {l : Launch} {e : Env} {s : State} {m : MethodId} {args : Array Value} {below : List Frame} {meth : Method} {c : Code} {z : KT} {A : Nat → Prop} {qN : Nat → Nat} {qG : Nat → Nat} {qP : Nat → Nat} {qT : Nat → Nat} {G : RT} {P : RT} {N : RT} {Q : Int32 → RT → Prop} (M : Mc p s m args meth c cX1_weightsAsTold 6 (some .int) RX1 z A) : ∀ (n : Nat) (T : RT) (x2 : Int32) (x4 : Int32) (x5 : Int32) (H : Heap) (locs : List Loc) (ls : Array Slot), Hw s z A (mW z qG qT G ++ (pW z qT T ++ (pW z qP P ++ (nW z qN N)))) H locs → lv_has ls 6 [(0, .ref (qG 0)), (1, .ref (qP 0)), (2, .int x2), (3, .ref (qN 0)), (4, .int x4), (5, .int x5)] → bX1_weightsAsTold_6 G P N Q n T x2 x4 x5 → W p l e rmX1_weightsAsTold s m args below meth c H locs 0 0 (MQ below (va_Qi (fun (r : Int32) (u : RT) => Q r u) (fun u t => cAt z A ((fun u : RT => (mW z qG qT G ++ (pW z qT u ++ (pW z qP P ++ (nW z qN N))))) u) t) A) args s 0 0 A) (F0 m 6 ls []) := by
  obtain ⟨hx, hb, -, -, hown, hts, -, -, -, hN, hsr, -⟩ := id M
  intro n
  induction n with
  | zero => intro T x2 x4 x5 H locs ls hw hl h; exact False.elim h
  | succ n ih =>
    intro T x2 x4 x5 H locs ls hw hl h
    rw [bX1_weightsAsTold_6] at h
    refine lv_iload hx hb dX1_weightsAsTold_6 (lv_at hl 5 rfl) ?_
    refine lv_bipush (v := 60) hx hb dX1_weightsAsTold_8 (by decide) ?_
    refine lv_icmp_gt (tgt := 48) hx hb dX1_weightsAsTold_10 (by decide) (fun c_1 => ?_) (fun c_1 => ?_)
    · replace h := iT c_1 h
      refine lv_iload hx hb dX1_weightsAsTold_48 (lv_at hl 4 rfl) ?_
      exact rt_i M T hw h dX1_weightsAsTold_50
    · replace h := iF c_1 h
      refine lv_aload_n hx hb dX1_weightsAsTold_13 rfl (lv_at hl 0 rfl) ?_
      refine lv_aload_n hx hb dX1_weightsAsTold_14 rfl (lv_at hl 1 rfl) ?_
      refine fr_Vr (wN := fun u : RT => (mW z qG qT G ++ (pW z qT u ++ (pW z qP P ++ (nW z qN N))))) M (m_X1_begin l z qG qP qT G T P _ h) (cwV 1 hts (gdV cd_X1_begin ml_X1_33 im_X1_begin se_X1_begin in_X1) rfl rfl rfl hdV_X1_begin ⟨(Nat.le_of_ble_eq_true rfl), (Nat.le_of_ble_eq_true rfl)⟩) cut_7 prm_7 0 rfl rfl rfl hw rfl hl.1 rfl (Nat.le_of_ble_eq_true rfl) dX1_weightsAsTold_15 (fun ra_ u_ H locs h hw => ?_)
      obtain ⟨T_2, rfl⟩ : ∃ z9 : RT, z9 = u_ := ⟨_, rfl⟩
      obtain ⟨rfl, h⟩ := h
      have hw : Hw s z A (mW z qG qT G ++ (pW z qT T_2 ++ (pW z qP P ++ (nW z qN N)))) H locs := hw
      try dsimp only at h
      refine lv_pop hx hb dX1_weightsAsTold_18 rfl ?_
      refine lv_aload_n hx hb dX1_weightsAsTold_19 rfl (lv_at hl 0 rfl) ?_
      refine gt_f (v := .ref (qT 0)) M inlX1 hw 0 rfl rfl 0 (by decide) fl_X1_12 rfl rfl dX1_weightsAsTold_20 ?_
      refine gt_f (v := .ref (qT 3)) M inlX3 hw 3 rfl rfl 2 (by decide) fl_X1_122 rfl rfl dX1_weightsAsTold_23 ?_
      refine lv_iload_n hx hb dX1_weightsAsTold_26 rfl (lv_at hl 2 rfl) ?_
      refine lv_iload hx hb dX1_weightsAsTold_27 (lv_at hl 5 rfl) ?_
      obtain ⟨a_3, h⟩ := h
      refine st_i (P := T_2) (r := 2) (wN := fun T_4 => (mW z qG qT G ++ (pW z qT T_4 ++ (pW z qP P ++ (nW z qN N))))) M hw 6 rfl rfl a_3 dX1_weightsAsTold_29 (fun T_4 H locs eT_4 hw => ?_)
      replace h := h T_4 eT_4
      refine lv_aload_n hx hb dX1_weightsAsTold_30 rfl (lv_at hl 0 rfl) ?_
      refine lv_iload_n hx hb dX1_weightsAsTold_31 rfl (lv_at hl 2 rfl) ?_
      refine lv_aload_n hx hb dX1_weightsAsTold_32 rfl (lv_at hl 3 rfl) ?_
      refine fr_Vi (wN := fun u : RT => (mW z qG qT G ++ (pW z qT u ++ (pW z qP P ++ (nW z qN N))))) M (m_X1_goesAsTold l z qN qG qT G T_4 N x2 _ h) (cwV 2 hts (gdV cd_X1_goesAsTold ml_X1_118 im_X1_goesAsTold se_X1_goesAsTold in_X1) rfl rfl rfl hdV_X1_goesAsTold ⟨(Nat.le_of_ble_eq_true rfl), (Nat.le_of_ble_eq_true rfl)⟩) cut_8 prm_8 0 rfl rfl rfl hw rfl hl.1 rfl (Nat.le_of_ble_eq_true rfl) dX1_weightsAsTold_33 (fun r_6 u_ H locs h hw => ?_)
      obtain ⟨T_5, rfl⟩ : ∃ z9 : RT, z9 = u_ := ⟨_, rfl⟩
      have hw : Hw s z A (mW z qG qT G ++ (pW z qT T_5 ++ (pW z qP P ++ (nW z qN N)))) H locs := hw
      try dsimp only at h
      refine lv_if_eq (tgt := 42) hx hb dX1_weightsAsTold_36 (by decide) (fun c_7 => ?_) (fun c_7 => ?_)
      · replace h := iT c_7 h
        exact kX1_weightsAsTold_42 M ih T_5 x2 x4 x5 H locs ls hw (lv_sub hl [0, 1, 2, 3, 4, 5] rfl) h
      · replace h := iF c_7 h
        obtain ⟨x4_8, ex4_8⟩ : ∃ y : Int32, y = (x4 + (1 : Int32)) := ⟨_, rfl⟩
        replace h := h x4_8 ex4_8
        refine lv_iinc (v := x4_8) (lv' := [(4, .int x4_8), (0, .ref (qG 0)), (1, .ref (qP 0)), (2, .int x2), (3, .ref (qN 0)), (5, .int x5)]) hx hb dX1_weightsAsTold_39 hl (k := 4) rfl (by rw [ex4_8]; rfl) (by decide) rfl (fun ls hl => ?_)
        exact kX1_weightsAsTold_42 M ih T_5 x2 x4_8 x5 H locs ls hw (lv_sub hl [1, 2, 3, 4, 0, 5] rfl) h
set_option maxHeartbeats 4000000 in
set_option maxRecDepth 100000 in
theorem m_X1_weightsAsTold (l : Launch) (z : KT) (qN : Nat → Nat) (qG : Nat → Nat) (qP : Nat → Nat) (qT : Nat → Nat) (G : RT) (T : RT) (P : RT) (N : RT) (x2 : Int32) (Q : Int32 → RT → Prop) (h : wX1_weightsAsTold G T P N x2 Q) : CI l yX1_weightsAsTold cX1_weightsAsTold 6 .int rmX1_weightsAsTold z [.ref (qG 0), .ref (qP 0), .int x2, .ref (qN 0)] (mW z qG qT G ++ (pW z qT T ++ (pW z qP P ++ (nW z qN N)))) (fun u : RT => (mW z qG qT G ++ (pW z qT u ++ (pW z qP P ++ (nW z qN N))))) (fun (r : Int32) (u : RT) => Q r u) := by
  refine CI.of rfl (Nat.le_of_ble_eq_true rfl) ?_
  intro p e s m below meth c A ls M hw hl
  have M : Mc p s m _ meth c cX1_weightsAsTold 6 (some .int) RX1 z A := M
  obtain ⟨hx, hb, -, -, hown, hts, -, -, -, hN, hsr, -⟩ := id M
  have hl : lv_has ls 6 [(0, .ref (qG 0)), (1, .ref (qP 0)), (2, .int x2), (3, .ref (qN 0))] := hl
  unfold wX1_weightsAsTold at h
  generalize s.heap = H at hw ⊢
  generalize ([] : List Loc) = locs at hw ⊢
  refine lv_iconst (v := 0) hx hb dX1_weightsAsTold_0 (by decide) ?_
  refine lv_istore (lv' := [(4, .int (0 : Int32)), (0, .ref (qG 0)), (1, .ref (qP 0)), (2, .int x2), (3, .ref (qN 0))]) hx hb dX1_weightsAsTold_1 hl (by decide) rfl (fun ls hl => ?_)
  refine lv_iconst (v := 0) hx hb dX1_weightsAsTold_3 (by decide) ?_
  refine lv_istore (lv' := [(5, .int (0 : Int32)), (4, .int (0 : Int32)), (0, .ref (qG 0)), (1, .ref (qP 0)), (2, .int x2), (3, .ref (qN 0))]) hx hb dX1_weightsAsTold_4 hl (by decide) rfl (fun ls hl => ?_)
  obtain ⟨n0, h⟩ := h; exact kX1_weightsAsTold_6 M n0 T x2 (0 : Int32) (0 : Int32) H locs ls hw (lv_sub hl [2, 3, 4, 5, 1, 0] rfl) h
abbrev rmX1_byLot : Room := { frames := 3, cells := 0, slots := 0, locals := 71 }
set_option maxHeartbeats 4000000 in
set_option maxRecDepth 100000 in
theorem kX1_byLot_110 {p : Program} {l : Launch} {e : Env} {s : State} {m : MethodId} {args : Array Value} {below : List Frame} {meth : Method} {c : Code} {z : KT} {A : Nat → Prop} {qG : Nat → Nat} {qP : Nat → Nat} {qT : Nat → Nat} {K9 : RT → Int32 → Int32 → Int32 → Int32 → Int32 → Prop} {G : RT} {P : RT} {Q : Int32 → RT → Prop} (M : Mc p s m args meth c cX1_byLot 9 (some .int) RX1 z A) (hK9 : ∀ (T : RT) (x2 : Int32) (x4 : Int32) (x5 : Int32) (x6 : Int32) (x7 : Int32) (H : Heap) (locs : List Loc) (ls : Array Slot), Hw s z A (mW z qG qT G ++ (pW z qT T ++ (pW z qP P))) H locs → lv_has ls 9 [(0, .ref (qG 0)), (1, .ref (qP 0)), (2, .int x2), (4, .int x4), (5, .int x5), (6, .int x6), (7, .int x7)] → K9 T x2 x4 x5 x6 x7 → W p l e rmX1_byLot s m args below meth c H locs 0 0 (MQ below (va_Qi (fun (r : Int32) (u : RT) => Q r u) (fun u t => cAt z A ((fun u : RT => (mW z qG qT G ++ (pW z qT u ++ (pW z qP P)))) u) t) A) args s 0 0 A) (F0 m 9 ls [])) : ∀ (T : RT) (x2 : Int32) (x4 : Int32) (x5 : Int32) (x7 : Int32) (t0 : Int32) (t1 : Int32) (H : Heap) (locs : List Loc) (ls : Array Slot), Hw s z A (mW z qG qT G ++ (pW z qT T ++ (pW z qP P))) H locs → lv_has ls 9 [(0, .ref (qG 0)), (1, .ref (qP 0)), (2, .int x2), (4, .int x4), (5, .int x5), (7, .int x7)] → bX1_byLot_110 K9 G P Q T x2 x4 x5 x7 t0 t1 → W p l e rmX1_byLot s m args below meth c H locs 0 0 (MQ below (va_Qi (fun (r : Int32) (u : RT) => Q r u) (fun u t => cAt z A ((fun u : RT => (mW z qG qT G ++ (pW z qT u ++ (pW z qP P)))) u) t) A) args s 0 0 A) (F0 m 110 ls [.int t1, .int t0]) := by
  obtain ⟨hx, hb, -, -, hown, hts, -, -, -, hN, hsr, -⟩ := id M
  intro T x2 x4 x5 x7 t0 t1 H locs ls hw hl h
  unfold bX1_byLot_110 at h
  refine lv_iadd hx hb dX1_byLot_110 ?_
  refine lv_topi (fun x6_1 ex6_1 => ?_)
  replace h := h x6_1 ex6_1
  refine lv_istore (lv' := [(6, .int x6_1), (0, .ref (qG 0)), (1, .ref (qP 0)), (2, .int x2), (4, .int x4), (5, .int x5), (7, .int x7)]) hx hb dX1_byLot_111 hl (by decide) rfl (fun ls hl => ?_)
  obtain ⟨x7_2, ex7_2⟩ : ∃ y : Int32, y = (x7 + (1 : Int32)) := ⟨_, rfl⟩
  replace h := h x7_2 ex7_2
  refine lv_iinc (v := x7_2) (lv' := [(7, .int x7_2), (6, .int x6_1), (0, .ref (qG 0)), (1, .ref (qP 0)), (2, .int x2), (4, .int x4), (5, .int x5)]) hx hb dX1_byLot_113 hl (k := 6) rfl (by rw [ex7_2]; rfl) (by decide) rfl (fun ls hl => ?_)
  refine lv_goto (tgt := 9) hx hb dX1_byLot_116 (by decide) ?_
  exact hK9 T x2 x4 x5 x6_1 x7_2 H locs ls hw (lv_sub hl [2, 3, 4, 5, 6, 1, 0] rfl) h
set_option maxHeartbeats 4000000 in
set_option maxRecDepth 100000 in
theorem kX1_byLot_24 {p : Program} {l : Launch} {e : Env} {s : State} {m : MethodId} {args : Array Value} {below : List Frame} {meth : Method} {c : Code} {z : KT} {A : Nat → Prop} {qG : Nat → Nat} {qP : Nat → Nat} {qT : Nat → Nat} {K9 : RT → Int32 → Int32 → Int32 → Int32 → Int32 → Prop} {G : RT} {P : RT} {Q : Int32 → RT → Prop} (M : Mc p s m args meth c cX1_byLot 9 (some .int) RX1 z A) (hK9 : ∀ (T : RT) (x2 : Int32) (x4 : Int32) (x5 : Int32) (x6 : Int32) (x7 : Int32) (H : Heap) (locs : List Loc) (ls : Array Slot), Hw s z A (mW z qG qT G ++ (pW z qT T ++ (pW z qP P))) H locs → lv_has ls 9 [(0, .ref (qG 0)), (1, .ref (qP 0)), (2, .int x2), (4, .int x4), (5, .int x5), (6, .int x6), (7, .int x7)] → K9 T x2 x4 x5 x6 x7 → W p l e rmX1_byLot s m args below meth c H locs 0 0 (MQ below (va_Qi (fun (r : Int32) (u : RT) => Q r u) (fun u t => cAt z A ((fun u : RT => (mW z qG qT G ++ (pW z qT u ++ (pW z qP P)))) u) t) A) args s 0 0 A) (F0 m 9 ls [])) : ∀ (n : Nat) (T : RT) (x2 : Int32) (x4 : Int32) (x5 : Int32) (x6 : Int32) (x7 : Int32) (x8 : Int32) (H : Heap) (locs : List Loc) (ls : Array Slot), Hw s z A (mW z qG qT G ++ (pW z qT T ++ (pW z qP P))) H locs → lv_has ls 9 [(0, .ref (qG 0)), (1, .ref (qP 0)), (2, .int x2), (4, .int x4), (5, .int x5), (6, .int x6), (7, .int x7), (8, .int x8)] → bX1_byLot_24 K9 G P Q n T x2 x4 x5 x6 x7 x8 → W p l e rmX1_byLot s m args below meth c H locs 0 0 (MQ below (va_Qi (fun (r : Int32) (u : RT) => Q r u) (fun u t => cAt z A ((fun u : RT => (mW z qG qT G ++ (pW z qT u ++ (pW z qP P)))) u) t) A) args s 0 0 A) (F0 m 24 ls []) := by
  obtain ⟨hx, hb, -, -, hown, hts, -, -, -, hN, hsr, -⟩ := id M
  intro n
  induction n with
  | zero => intro T x2 x4 x5 x6 x7 x8 H locs ls hw hl h; exact False.elim h
  | succ n ih =>
    intro T x2 x4 x5 x6 x7 x8 H locs ls hw hl h
    rw [bX1_byLot_24] at h
    refine lv_iload hx hb dX1_byLot_24 (lv_at hl 7 rfl) ?_
    refine lv_aload_n hx hb dX1_byLot_26 rfl (lv_at hl 0 rfl) ?_
    refine gt_f (v := .ref (qT 0)) M inlX1 hw 0 rfl rfl 0 (by decide) fl_X1_12 rfl rfl dX1_byLot_27 ?_
    refine gt_f (v := .int (T 30 7)) M inlX3 hw 3 rfl rfl 7 (by decide) fl_X1_51 rfl rfl dX1_byLot_30 ?_
    refine lv_icmp_ge (tgt := 74) hx hb dX1_byLot_33 (by decide) (fun c_1 => ?_) (fun c_1 => ?_)
    · replace h := iT c_1 h
      refine lv_aload_n hx hb dX1_byLot_74 rfl (lv_at hl 0 rfl) ?_
      refine gt_f (v := .ref (qT 0)) M inlX1 hw 0 rfl rfl 0 (by decide) fl_X1_12 rfl rfl dX1_byLot_75 ?_
      refine lv_bipush (v := 10) hx hb dX1_byLot_78 (by decide) ?_
      refine fr_Vv (wN := fun u : RT => (mW z qG qT G ++ (pW z qT u ++ (pW z qP P)))) M (m_X3_goHours l z qT T (10 : Int32) _ h) (cwV 1 hts (gdV cd_X3_goHours ml_X1_29 im_X3_goHours se_X3_goHours in_X3) rfl rfl rfl hdV_X3_goHours ⟨(Nat.le_of_ble_eq_true rfl), (Nat.le_of_ble_eq_true rfl)⟩) cut_2 prm_2 0 rfl rfl rfl hw rfl hl.1 rfl (Nat.le_of_ble_eq_true rfl) dX1_byLot_80 (fun u_ H locs h hw => ?_)
      obtain ⟨T_2, rfl⟩ : ∃ z9 : RT, z9 = u_ := ⟨_, rfl⟩
      have hw : Hw s z A (mW z qG qT G ++ (pW z qT T_2 ++ (pW z qP P))) H locs := hw
      try dsimp only at h
      refine lv_iload hx hb dX1_byLot_83 (lv_at hl 5 rfl) ?_
      refine lv_iload hx hb dX1_byLot_85 (lv_at hl 3 rfl) ?_
      refine lv_if_eq (tgt := 100) hx hb dX1_byLot_87 (by decide) (fun c_3 => ?_) (fun c_3 => ?_)
      · replace h := iT c_3 h
        refine lv_aload_n hx hb dX1_byLot_100 rfl (lv_at hl 0 rfl) ?_
        refine gt_f (v := .ref (qT 0)) M inlX1 hw 0 rfl rfl 0 (by decide) fl_X1_12 rfl rfl dX1_byLot_101 ?_
        refine fr_Vi (wN := fun _ : Unit => (mW z qG qT G ++ (pW z qT T_2 ++ (pW z qP P)))) M (m_X3_looseRopes l z qT T_2 _ h) (cwV 0 hts (gdV cd_X3_looseRopes ml_X1_136 im_X3_looseRopes se_X3_looseRopes in_X3) rfl rfl rfl hdV_X3_looseRopes ⟨(Nat.le_of_ble_eq_true rfl), (Nat.le_of_ble_eq_true rfl)⟩) cut_5 prm_5 0 rfl rfl rfl hw rfl hl.1 rfl (Nat.le_of_ble_eq_true rfl) dX1_byLot_104 (fun r_4 u_ H locs h hw => ?_)
        have hw : Hw s z A (mW z qG qT G ++ (pW z qT T_2 ++ (pW z qP P))) H locs := hw
        try dsimp only at h
        refine fr_Si (wN := fun _ : Unit => (mW z qG qT G ++ (pW z qT T_2 ++ (pW z qP P)))) M (m_J6_bitCount l z r_4 _ h) (va_cwS 1 hts (gdS cd_J6_bitCount_0f7a4 ml_X1_106 st_J6_bitCount_0f7a4 in_J6) rfl rfl rfl hdS_J6_bitCount_0f7a4 ⟨(Nat.le_of_ble_eq_true rfl), (Nat.le_of_ble_eq_true rfl)⟩) (Cut.none _) (Prm.none _) hw rfl hl.1 rfl (Nat.le_of_ble_eq_true rfl) dX1_byLot_107 (fun r_5 u_ H locs h hw => ?_)
        have hw : Hw s z A (mW z qG qT G ++ (pW z qT T_2 ++ (pW z qP P))) H locs := hw
        try dsimp only at h
        exact kX1_byLot_110 M hK9 T_2 x2 x4 x5 x7 x6 r_5 H locs ls hw (lv_sub hl [0, 1, 2, 3, 4, 6] rfl) h
      · replace h := iF c_3 h
        refine lv_aload_n hx hb dX1_byLot_90 rfl (lv_at hl 0 rfl) ?_
        refine gt_f (v := .ref (qT 0)) M inlX1 hw 0 rfl rfl 0 (by decide) fl_X1_12 rfl rfl dX1_byLot_91 ?_
        refine fr_Vi (wN := fun _ : Unit => (mW z qG qT G ++ (pW z qT T_2 ++ (pW z qP P)))) M (m_X3_allHeights l z qT T_2 _ h) (cwV 0 hts (gdV cd_X3_allHeights ml_X1_90 im_X3_allHeights se_X3_allHeights in_X3) rfl rfl rfl hdV_X3_allHeights ⟨(Nat.le_of_ble_eq_true rfl), (Nat.le_of_ble_eq_true rfl)⟩) cut_5 prm_5 0 rfl rfl rfl hw rfl hl.1 rfl (Nat.le_of_ble_eq_true rfl) dX1_byLot_94 (fun r_6 u_ H locs h hw => ?_)
        have hw : Hw s z A (mW z qG qT G ++ (pW z qT T_2 ++ (pW z qP P))) H locs := hw
        try dsimp only at h
        refine lv_goto (tgt := 110) hx hb dX1_byLot_97 (by decide) ?_
        exact kX1_byLot_110 M hK9 T_2 x2 x4 x5 x7 x6 r_6 H locs ls hw (lv_sub hl [0, 1, 2, 3, 4, 6] rfl) h
    · replace h := iF c_1 h
      refine lv_iload hx hb dX1_byLot_36 (lv_at hl 4 rfl) ?_
      refine lv_ldc hx hb hown (hts _ cn_X1_133) dX1_byLot_38 ?_
      refine lv_imul hx hb dX1_byLot_40 ?_
      refine lv_ldc hx hb hown (hts _ cn_X1_134) dX1_byLot_41 ?_
      refine lv_iadd hx hb dX1_byLot_43 ?_
      refine lv_topi (fun x5_7 ex5_7 => ?_)
      replace h := h x5_7 ex5_7
      refine lv_istore (lv' := [(5, .int x5_7), (0, .ref (qG 0)), (1, .ref (qP 0)), (2, .int x2), (4, .int x4), (6, .int x6), (7, .int x7), (8, .int x8)]) hx hb dX1_byLot_44 hl (by decide) rfl (fun ls hl => ?_)
      refine lv_aload_n hx hb dX1_byLot_46 rfl (lv_at hl 1 rfl) ?_
      refine gt_f (v := .ref (qT 0)) M inlX1 hw 0 rfl rfl 0 (by decide) fl_X1_12 rfl rfl dX1_byLot_47 ?_
      refine gt_f (v := .ref (qT 4)) M inlX3 hw 3 rfl rfl 3 (by decide) fl_X1_69 rfl rfl dX1_byLot_50 ?_
      refine lv_iload hx hb dX1_byLot_53 (lv_at hl 7 rfl) ?_
      refine lv_iload hx hb dX1_byLot_55 (lv_at hl 0 rfl) ?_
      refine lv_ldc hx hb hown (hts _ cn_X1_135) dX1_byLot_57 ?_
      refine lv_iand hx hb dX1_byLot_59 ?_
      refine lv_sipush (v := 256) hx hb dX1_byLot_60 (by decide) ?_
      refine lv_idiv hx hb dX1_byLot_63 (by decide) ?_
      refine lv_bipush (v := 10) hx hb dX1_byLot_64 (by decide) ?_
      refine lv_irem hx hb dX1_byLot_66 (by decide) ?_
      obtain ⟨a_8, h⟩ := h
      refine st_i (P := T) (r := 3) (wN := fun T_9 => (mW z qG qT G ++ (pW z qT T_9 ++ (pW z qP P)))) M hw 7 rfl rfl a_8 dX1_byLot_67 (fun T_9 H locs eT_9 hw => ?_)
      replace h := h T_9 eT_9
      obtain ⟨x8_10, ex8_10⟩ : ∃ y : Int32, y = (x8 + (1 : Int32)) := ⟨_, rfl⟩
      replace h := h x8_10 ex8_10
      refine lv_iinc (v := x8_10) (lv' := [(8, .int x8_10), (5, .int x5_7), (0, .ref (qG 0)), (1, .ref (qP 0)), (2, .int x2), (4, .int x4), (6, .int x6), (7, .int x7)]) hx hb dX1_byLot_68 hl (k := 7) rfl (by rw [ex8_10]; rfl) (by decide) rfl (fun ls hl => ?_)
      refine lv_goto (tgt := 24) hx hb dX1_byLot_71 (by decide) ?_
      exact ih T_9 x2 x4 x5_7 x6 x7 x8_10 H locs ls hw (lv_sub hl [2, 3, 4, 5, 1, 6, 7, 0] rfl) h
set_option maxHeartbeats 4000000 in
set_option maxRecDepth 100000 in
theorem kX1_byLot_9 {p : Program} {l : Launch} {e : Env} {s : State} {m : MethodId} {args : Array Value} {below : List Frame} {meth : Method} {c : Code} {z : KT} {A : Nat → Prop} {qG : Nat → Nat} {qP : Nat → Nat} {qT : Nat → Nat} {G : RT} {P : RT} {Q : Int32 → RT → Prop} (M : Mc p s m args meth c cX1_byLot 9 (some .int) RX1 z A) : ∀ (n : Nat) (T : RT) (x2 : Int32) (x4 : Int32) (x5 : Int32) (x6 : Int32) (x7 : Int32) (H : Heap) (locs : List Loc) (ls : Array Slot), Hw s z A (mW z qG qT G ++ (pW z qT T ++ (pW z qP P))) H locs → lv_has ls 9 [(0, .ref (qG 0)), (1, .ref (qP 0)), (2, .int x2), (4, .int x4), (5, .int x5), (6, .int x6), (7, .int x7)] → bX1_byLot_9 G P Q n T x2 x4 x5 x6 x7 → W p l e rmX1_byLot s m args below meth c H locs 0 0 (MQ below (va_Qi (fun (r : Int32) (u : RT) => Q r u) (fun u t => cAt z A ((fun u : RT => (mW z qG qT G ++ (pW z qT u ++ (pW z qP P)))) u) t) A) args s 0 0 A) (F0 m 9 ls []) := by
  obtain ⟨hx, hb, -, -, hown, hts, -, -, -, hN, hsr, -⟩ := id M
  intro n
  induction n with
  | zero => intro T x2 x4 x5 x6 x7 H locs ls hw hl h; exact False.elim h
  | succ n ih =>
    intro T x2 x4 x5 x6 x7 H locs ls hw hl h
    rw [bX1_byLot_9] at h
    refine lv_iload hx hb dX1_byLot_9 (lv_at hl 6 rfl) ?_
    refine lv_iload_n hx hb dX1_byLot_11 rfl (lv_at hl 2 rfl) ?_
    refine lv_icmp_ge (tgt := 119) hx hb dX1_byLot_12 (by decide) (fun c_1 => ?_) (fun c_1 => ?_)
    · replace h := iT c_1 h
      refine lv_iload hx hb dX1_byLot_119 (lv_at hl 5 rfl) ?_
      exact rt_i M T hw h dX1_byLot_121
    · replace h := iF c_1 h
      refine lv_aload_n hx hb dX1_byLot_15 rfl (lv_at hl 0 rfl) ?_
      refine lv_aload_n hx hb dX1_byLot_16 rfl (lv_at hl 1 rfl) ?_
      refine fr_Vr (wN := fun u : RT => (mW z qG qT G ++ (pW z qT u ++ (pW z qP P)))) M (m_X1_begin l z qG qP qT G T P _ h) (cwV 1 hts (gdV cd_X1_begin ml_X1_33 im_X1_begin se_X1_begin in_X1) rfl rfl rfl hdV_X1_begin ⟨(Nat.le_of_ble_eq_true rfl), (Nat.le_of_ble_eq_true rfl)⟩) (Cut.self _) (Prm.self _ 19 (fun _ => rfl)) 0 rfl rfl rfl hw rfl hl.1 rfl (Nat.le_of_ble_eq_true rfl) dX1_byLot_17 (fun ra_ u_ H locs h hw => ?_)
      obtain ⟨T_2, rfl⟩ : ∃ z9 : RT, z9 = u_ := ⟨_, rfl⟩
      obtain ⟨rfl, h⟩ := h
      have hw : Hw s z A (mW z qG qT G ++ (pW z qT T_2 ++ (pW z qP P))) H locs := hw
      try dsimp only at h
      refine lv_pop hx hb dX1_byLot_20 rfl ?_
      refine lv_iconst (v := 0) hx hb dX1_byLot_21 (by decide) ?_
      refine lv_istore (lv' := [(8, .int (0 : Int32)), (0, .ref (qG 0)), (1, .ref (qP 0)), (2, .int x2), (4, .int x4), (5, .int x5), (6, .int x6), (7, .int x7)]) hx hb dX1_byLot_22 hl (by decide) rfl (fun ls hl => ?_)
      obtain ⟨n0, h⟩ := h; exact kX1_byLot_24 M ih n0 T_2 x2 x4 x5 x6 x7 (0 : Int32) H locs ls hw (lv_sub hl [1, 2, 3, 4, 5, 6, 7, 0] rfl) h
set_option maxHeartbeats 4000000 in
set_option maxRecDepth 100000 in
theorem m_X1_byLot (l : Launch) (z : KT) (qG : Nat → Nat) (qP : Nat → Nat) (qT : Nat → Nat) (G : RT) (T : RT) (P : RT) (x2 : Int32) (x3 : Int32) (x4 : Int32) (Q : Int32 → RT → Prop) (h : wX1_byLot G T P x2 x3 x4 Q) : CI l yX1_byLot cX1_byLot 9 .int rmX1_byLot z [.ref (qG 0), .ref (qP 0), .int x2, .int x3, .int x4] (mW z qG qT G ++ (pW z qT T ++ (pW z qP P))) (fun u : RT => (mW z qG qT G ++ (pW z qT u ++ (pW z qP P)))) (fun (r : Int32) (u : RT) => Q r u) := by
  refine CI.of rfl (Nat.le_of_ble_eq_true rfl) ?_
  intro p e s m below meth c A ls M hw hl
  have M : Mc p s m _ meth c cX1_byLot 9 (some .int) RX1 z A := M
  obtain ⟨hx, hb, -, -, hown, hts, -, -, -, hN, hsr, -⟩ := id M
  have hl : lv_has ls 9 [(0, .ref (qG 0)), (1, .ref (qP 0)), (2, .int x2), (3, .int x3), (4, .int x4)] := hl
  unfold wX1_byLot at h
  generalize s.heap = H at hw ⊢
  generalize ([] : List Loc) = locs at hw ⊢
  refine lv_iload_n hx hb dX1_byLot_0 rfl (lv_at hl 3 rfl) ?_
  refine lv_istore (lv' := [(5, .int x3), (0, .ref (qG 0)), (1, .ref (qP 0)), (2, .int x2), (3, .int x3), (4, .int x4)]) hx hb dX1_byLot_1 hl (by decide) rfl (fun ls hl => ?_)
  refine lv_iconst (v := 0) hx hb dX1_byLot_3 (by decide) ?_
  refine lv_istore (lv' := [(6, .int (0 : Int32)), (5, .int x3), (0, .ref (qG 0)), (1, .ref (qP 0)), (2, .int x2), (3, .int x3), (4, .int x4)]) hx hb dX1_byLot_4 hl (by decide) rfl (fun ls hl => ?_)
  refine lv_iconst (v := 0) hx hb dX1_byLot_6 (by decide) ?_
  refine lv_istore (lv' := [(7, .int (0 : Int32)), (6, .int (0 : Int32)), (5, .int x3), (0, .ref (qG 0)), (1, .ref (qP 0)), (2, .int x2), (3, .int x3), (4, .int x4)]) hx hb dX1_byLot_7 hl (by decide) rfl (fun ls hl => ?_)
  obtain ⟨n0, h⟩ := h; exact kX1_byLot_9 M n0 T x2 x4 x3 (0 : Int32) (0 : Int32) H locs ls hw (lv_sub hl [3, 4, 5, 7, 2, 1, 0] rfl) h
