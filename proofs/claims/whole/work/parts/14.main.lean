/-! ===== the class (laid by wip/whole/gen.py) ===== -/
theorem hdV_X6_refuse : yX6_refuse.cls = RX6 ∧ yX6_refuse.cls ≠ "java/lang/invoke/MethodHandle" ∧ yX6_refuse.cls ≠ "java/lang/invoke/VarHandle" ∧ (parseMethodDescriptor yX6_refuse.desc).map (fun d => d.parameters.length) = some 1 := by decide +kernel
theorem hdV_X6_letter : yX6_letter.cls = RX6 ∧ yX6_letter.cls ≠ "java/lang/invoke/MethodHandle" ∧ yX6_letter.cls ≠ "java/lang/invoke/VarHandle" ∧ (parseMethodDescriptor yX6_letter.desc).map (fun d => d.parameters.length) = some 1 := by decide +kernel
theorem hdV_X6_port : yX6_port.cls = RX6 ∧ yX6_port.cls ≠ "java/lang/invoke/MethodHandle" ∧ yX6_port.cls ≠ "java/lang/invoke/VarHandle" ∧ (parseMethodDescriptor yX6_port.desc).map (fun d => d.parameters.length) = some 0 := by decide +kernel
theorem hdV_X6_thing : yX6_thing.cls = RX6 ∧ yX6_thing.cls ≠ "java/lang/invoke/MethodHandle" ∧ yX6_thing.cls ≠ "java/lang/invoke/VarHandle" ∧ (parseMethodDescriptor yX6_thing.desc).map (fun d => d.parameters.length) = some 2 := by decide +kernel
theorem hdV_X6_rope : yX6_rope.cls = RX6 ∧ yX6_rope.cls ≠ "java/lang/invoke/MethodHandle" ∧ yX6_rope.cls ≠ "java/lang/invoke/VarHandle" ∧ (parseMethodDescriptor yX6_rope.desc).map (fun d => d.parameters.length) = some 2 := by decide +kernel
theorem hdV_X6_ties : yX6_ties.cls = RX6 ∧ yX6_ties.cls ≠ "java/lang/invoke/MethodHandle" ∧ yX6_ties.cls ≠ "java/lang/invoke/VarHandle" ∧ (parseMethodDescriptor yX6_ties.desc).map (fun d => d.parameters.length) = some 2 := by decide +kernel
theorem hdV_X6_cuts : yX6_cuts.cls = RX6 ∧ yX6_cuts.cls ≠ "java/lang/invoke/MethodHandle" ∧ yX6_cuts.cls ≠ "java/lang/invoke/VarHandle" ∧ (parseMethodDescriptor yX6_cuts.desc).map (fun d => d.parameters.length) = some 1 := by decide +kernel
theorem hdV_X6_thingFault : yX6_thingFault.cls = RX6 ∧ yX6_thingFault.cls ≠ "java/lang/invoke/MethodHandle" ∧ yX6_thingFault.cls ≠ "java/lang/invoke/VarHandle" ∧ (parseMethodDescriptor yX6_thingFault.desc).map (fun d => d.parameters.length) = some 3 := by decide +kernel
theorem hdV_X6_stones : yX6_stones.cls = RX6 ∧ yX6_stones.cls ≠ "java/lang/invoke/MethodHandle" ∧ yX6_stones.cls ≠ "java/lang/invoke/VarHandle" ∧ (parseMethodDescriptor yX6_stones.desc).map (fun d => d.parameters.length) = some 2 := by decide +kernel
theorem hdV_X6_weighs : yX6_weighs.cls = RX6 ∧ yX6_weighs.cls ≠ "java/lang/invoke/MethodHandle" ∧ yX6_weighs.cls ≠ "java/lang/invoke/VarHandle" ∧ (parseMethodDescriptor yX6_weighs.desc).map (fun d => d.parameters.length) = some 2 := by decide +kernel
theorem hdV_X6_lifts : yX6_lifts.cls = RX6 ∧ yX6_lifts.cls ≠ "java/lang/invoke/MethodHandle" ∧ yX6_lifts.cls ≠ "java/lang/invoke/VarHandle" ∧ (parseMethodDescriptor yX6_lifts.desc).map (fun d => d.parameters.length) = some 2 := by decide +kernel
theorem hdV_X6_turn : yX6_turn.cls = RX6 ∧ yX6_turn.cls ≠ "java/lang/invoke/MethodHandle" ∧ yX6_turn.cls ≠ "java/lang/invoke/VarHandle" ∧ (parseMethodDescriptor yX6_turn.desc).map (fun d => d.parameters.length) = some 3 := by decide +kernel
theorem hdV_X6_hours : yX6_hours.cls = RX6 ∧ yX6_hours.cls ≠ "java/lang/invoke/MethodHandle" ∧ yX6_hours.cls ≠ "java/lang/invoke/VarHandle" ∧ (parseMethodDescriptor yX6_hours.desc).map (fun d => d.parameters.length) = some 1 := by decide +kernel
theorem hdV_X6_thingThen : yX6_thingThen.cls = RX6 ∧ yX6_thingThen.cls ≠ "java/lang/invoke/MethodHandle" ∧ yX6_thingThen.cls ≠ "java/lang/invoke/VarHandle" ∧ (parseMethodDescriptor yX6_thingThen.desc).map (fun d => d.parameters.length) = some 3 := by decide +kernel
theorem hdV_X6_ropeThen : yX6_ropeThen.cls = RX6 ∧ yX6_ropeThen.cls ≠ "java/lang/invoke/MethodHandle" ∧ yX6_ropeThen.cls ≠ "java/lang/invoke/VarHandle" ∧ (parseMethodDescriptor yX6_ropeThen.desc).map (fun d => d.parameters.length) = some 2 := by decide +kernel
theorem hdV_X6_up : yX6_up.cls = RX6 ∧ yX6_up.cls ≠ "java/lang/invoke/MethodHandle" ∧ yX6_up.cls ≠ "java/lang/invoke/VarHandle" ∧ (parseMethodDescriptor yX6_up.desc).map (fun d => d.parameters.length) = some 2 := by decide +kernel
theorem hdV_X6_first : yX6_first.cls = RX6 ∧ yX6_first.cls ≠ "java/lang/invoke/MethodHandle" ∧ yX6_first.cls ≠ "java/lang/invoke/VarHandle" ∧ (parseMethodDescriptor yX6_first.desc).map (fun d => d.parameters.length) = some 1 := by decide +kernel
theorem hdV_X6_changes : yX6_changes.cls = RX6 ∧ yX6_changes.cls ≠ "java/lang/invoke/MethodHandle" ∧ yX6_changes.cls ≠ "java/lang/invoke/VarHandle" ∧ (parseMethodDescriptor yX6_changes.desc).map (fun d => d.parameters.length) = some 1 := by decide +kernel
theorem hdV_X6_aimFault : yX6_aimFault.cls = RX6 ∧ yX6_aimFault.cls ≠ "java/lang/invoke/MethodHandle" ∧ yX6_aimFault.cls ≠ "java/lang/invoke/VarHandle" ∧ (parseMethodDescriptor yX6_aimFault.desc).map (fun d => d.parameters.length) = some 3 := by decide +kernel
theorem hdV_X6_throwsDown : yX6_throwsDown.cls = RX6 ∧ yX6_throwsDown.cls ≠ "java/lang/invoke/MethodHandle" ∧ yX6_throwsDown.cls ≠ "java/lang/invoke/VarHandle" ∧ (parseMethodDescriptor yX6_throwsDown.desc).map (fun d => d.parameters.length) = some 3 := by decide +kernel
theorem hdV_X6_takesUp : yX6_takesUp.cls = RX6 ∧ yX6_takesUp.cls ≠ "java/lang/invoke/MethodHandle" ∧ yX6_takesUp.cls ≠ "java/lang/invoke/VarHandle" ∧ (parseMethodDescriptor yX6_takesUp.desc).map (fun d => d.parameters.length) = some 3 := by decide +kernel
theorem hdV_X6_bestTie : yX6_bestTie.cls = RX6 ∧ yX6_bestTie.cls ≠ "java/lang/invoke/MethodHandle" ∧ yX6_bestTie.cls ≠ "java/lang/invoke/VarHandle" ∧ (parseMethodDescriptor yX6_bestTie.desc).map (fun d => d.parameters.length) = some 2 := by decide +kernel
theorem hdV_X6_bestCut : yX6_bestCut.cls = RX6 ∧ yX6_bestCut.cls ≠ "java/lang/invoke/MethodHandle" ∧ yX6_bestCut.cls ≠ "java/lang/invoke/VarHandle" ∧ (parseMethodDescriptor yX6_bestCut.desc).map (fun d => d.parameters.length) = some 2 := by decide +kernel
theorem hdV_X6_bestStone : yX6_bestStone.cls = RX6 ∧ yX6_bestStone.cls ≠ "java/lang/invoke/MethodHandle" ∧ yX6_bestStone.cls ≠ "java/lang/invoke/VarHandle" ∧ (parseMethodDescriptor yX6_bestStone.desc).map (fun d => d.parameters.length) = some 1 := by decide +kernel
theorem hdV_X6_rows : yX6_rows.cls = RX6 ∧ yX6_rows.cls ≠ "java/lang/invoke/MethodHandle" ∧ yX6_rows.cls ≠ "java/lang/invoke/VarHandle" ∧ (parseMethodDescriptor yX6_rows.desc).map (fun d => d.parameters.length) = some 1 := by decide +kernel
theorem hdV_X6_between : yX6_between.cls = RX6 ∧ yX6_between.cls ≠ "java/lang/invoke/MethodHandle" ∧ yX6_between.cls ≠ "java/lang/invoke/VarHandle" ∧ (parseMethodDescriptor yX6_between.desc).map (fun d => d.parameters.length) = some 2 := by decide +kernel
theorem hdV_X6_balance : yX6_balance.cls = RX6 ∧ yX6_balance.cls ≠ "java/lang/invoke/MethodHandle" ∧ yX6_balance.cls ≠ "java/lang/invoke/VarHandle" ∧ (parseMethodDescriptor yX6_balance.desc).map (fun d => d.parameters.length) = some 1 := by decide +kernel
theorem hdV_X6_nearest : yX6_nearest.cls = RX6 ∧ yX6_nearest.cls ≠ "java/lang/invoke/MethodHandle" ∧ yX6_nearest.cls ≠ "java/lang/invoke/VarHandle" ∧ (parseMethodDescriptor yX6_nearest.desc).map (fun d => d.parameters.length) = some 1 := by decide +kernel
theorem hdV_X6_sides : yX6_sides.cls = RX6 ∧ yX6_sides.cls ≠ "java/lang/invoke/MethodHandle" ∧ yX6_sides.cls ≠ "java/lang/invoke/VarHandle" ∧ (parseMethodDescriptor yX6_sides.desc).map (fun d => d.parameters.length) = some 1 := by decide +kernel
theorem hdV_X6_chain : yX6_chain.cls = RX6 ∧ yX6_chain.cls ≠ "java/lang/invoke/MethodHandle" ∧ yX6_chain.cls ≠ "java/lang/invoke/VarHandle" ∧ (parseMethodDescriptor yX6_chain.desc).map (fun d => d.parameters.length) = some 1 := by decide +kernel
theorem hdV_X6_chains : yX6_chains.cls = RX6 ∧ yX6_chains.cls ≠ "java/lang/invoke/MethodHandle" ∧ yX6_chains.cls ≠ "java/lang/invoke/VarHandle" ∧ (parseMethodDescriptor yX6_chains.desc).map (fun d => d.parameters.length) = some 1 := by decide +kernel
theorem hdV_X6_hauled : yX6_hauled.cls = RX6 ∧ yX6_hauled.cls ≠ "java/lang/invoke/MethodHandle" ∧ yX6_hauled.cls ≠ "java/lang/invoke/VarHandle" ∧ (parseMethodDescriptor yX6_hauled.desc).map (fun d => d.parameters.length) = some 2 := by decide +kernel
theorem hdV_X6_top : yX6_top.cls = RX6 ∧ yX6_top.cls ≠ "java/lang/invoke/MethodHandle" ∧ yX6_top.cls ≠ "java/lang/invoke/VarHandle" ∧ (parseMethodDescriptor yX6_top.desc).map (fun d => d.parameters.length) = some 1 := by decide +kernel
theorem hdV_X6_odd : yX6_odd.cls = RX6 ∧ yX6_odd.cls ≠ "java/lang/invoke/MethodHandle" ∧ yX6_odd.cls ≠ "java/lang/invoke/VarHandle" ∧ (parseMethodDescriptor yX6_odd.desc).map (fun d => d.parameters.length) = some 0 := by decide +kernel
theorem hdV_X6_meet : yX6_meet.cls = RX6 ∧ yX6_meet.cls ≠ "java/lang/invoke/MethodHandle" ∧ yX6_meet.cls ≠ "java/lang/invoke/VarHandle" ∧ (parseMethodDescriptor yX6_meet.desc).map (fun d => d.parameters.length) = some 2 := by decide +kernel
theorem hdV_X6_two : yX6_two.cls = RX6 ∧ yX6_two.cls ≠ "java/lang/invoke/MethodHandle" ∧ yX6_two.cls ≠ "java/lang/invoke/VarHandle" ∧ (parseMethodDescriptor yX6_two.desc).map (fun d => d.parameters.length) = some 3 := by decide +kernel
theorem hdV_X6_wetFault : yX6_wetFault.cls = RX6 ∧ yX6_wetFault.cls ≠ "java/lang/invoke/MethodHandle" ∧ yX6_wetFault.cls ≠ "java/lang/invoke/VarHandle" ∧ (parseMethodDescriptor yX6_wetFault.desc).map (fun d => d.parameters.length) = some 5 := by decide +kernel
theorem hdV_X6_refuseLong : yX6_refuseLong.cls = RX6 ∧ yX6_refuseLong.cls ≠ "java/lang/invoke/MethodHandle" ∧ yX6_refuseLong.cls ≠ "java/lang/invoke/VarHandle" ∧ (parseMethodDescriptor yX6_refuseLong.desc).map (fun d => d.parameters.length) = some 1 := by decide +kernel
theorem hdV_X6_wet : yX6_wet.cls = RX6 ∧ yX6_wet.cls ≠ "java/lang/invoke/MethodHandle" ∧ yX6_wet.cls ≠ "java/lang/invoke/VarHandle" ∧ (parseMethodDescriptor yX6_wet.desc).map (fun d => d.parameters.length) = some 6 := by decide +kernel
theorem hdV_X6_mean : yX6_mean.cls = RX6 ∧ yX6_mean.cls ≠ "java/lang/invoke/MethodHandle" ∧ yX6_mean.cls ≠ "java/lang/invoke/VarHandle" ∧ (parseMethodDescriptor yX6_mean.desc).map (fun d => d.parameters.length) = some 1 := by decide +kernel
theorem hdV_X6_lots : yX6_lots.cls = RX6 ∧ yX6_lots.cls ≠ "java/lang/invoke/MethodHandle" ∧ yX6_lots.cls ≠ "java/lang/invoke/VarHandle" ∧ (parseMethodDescriptor yX6_lots.desc).map (fun d => d.parameters.length) = some 3 := by decide +kernel
theorem hdV_X6_whatIs : yX6_whatIs.cls = RX6 ∧ yX6_whatIs.cls ≠ "java/lang/invoke/MethodHandle" ∧ yX6_whatIs.cls ≠ "java/lang/invoke/VarHandle" ∧ (parseMethodDescriptor yX6_whatIs.desc).map (fun d => d.parameters.length) = some 2 := by decide +kernel
theorem hdV_X6_row : yX6_row.cls = RX6 ∧ yX6_row.cls ≠ "java/lang/invoke/MethodHandle" ∧ yX6_row.cls ≠ "java/lang/invoke/VarHandle" ∧ (parseMethodDescriptor yX6_row.desc).map (fun d => d.parameters.length) = some 1 := by decide +kernel
theorem hdV_X6_judge : yX6_judge.cls = RX6 ∧ yX6_judge.cls ≠ "java/lang/invoke/MethodHandle" ∧ yX6_judge.cls ≠ "java/lang/invoke/VarHandle" ∧ (parseMethodDescriptor yX6_judge.desc).map (fun d => d.parameters.length) = some 0 := by decide +kernel
theorem hdV_X6_clear : yX6_clear.cls = RX6 ∧ yX6_clear.cls ≠ "java/lang/invoke/MethodHandle" ∧ yX6_clear.cls ≠ "java/lang/invoke/VarHandle" ∧ (parseMethodDescriptor yX6_clear.desc).map (fun d => d.parameters.length) = some 0 := by decide +kernel
theorem hdV_X6_image : yX6_image.cls = RX6 ∧ yX6_image.cls ≠ "java/lang/invoke/MethodHandle" ∧ yX6_image.cls ≠ "java/lang/invoke/VarHandle" ∧ (parseMethodDescriptor yX6_image.desc).map (fun d => d.parameters.length) = some 0 := by decide +kernel
theorem hdV_X6_on : yX6_on.cls = RX6 ∧ yX6_on.cls ≠ "java/lang/invoke/MethodHandle" ∧ yX6_on.cls ≠ "java/lang/invoke/VarHandle" ∧ (parseMethodDescriptor yX6_on.desc).map (fun d => d.parameters.length) = some 0 := by decide +kernel
theorem hdV_X6_count : yX6_count.cls = RX6 ∧ yX6_count.cls ≠ "java/lang/invoke/MethodHandle" ∧ yX6_count.cls ≠ "java/lang/invoke/VarHandle" ∧ (parseMethodDescriptor yX6_count.desc).map (fun d => d.parameters.length) = some 1 := by decide +kernel
theorem cut_11 {z : KT} {qX : Nat → Nat} {qL : Nat → Nat} {qN : Nat → Nat} {qG : Nat → Nat} {qP : Nat → Nat} {qK : Nat → Nat} {qT : Nat → Nat} {F : RT} {P : RT} {K : RT} {G : RT} {T : RT} {N : RT} {L : RT} : Cut (fW z qX qP qK qN qL qG F ++ (pW z qP P ++ (pW z qK K ++ (mW z qG qT G ++ (pW z qT T ++ (nW z qN N ++ (lW z qL L))))))) (lW z qL L) (fW z qX qP qK qN qL qG F ++ (pW z qP P ++ (pW z qK K ++ (mW z qG qT G ++ (pW z qT T ++ (nW z qN N)))))) := ⟨[31, 32], [0, 1, 2, 3, 4, 5, 6, 7, 8, 9, 10, 11, 12, 13, 14, 15, 16, 17, 18, 19, 20, 21, 22, 23, 24, 25, 26, 27, 28, 29, 30], rfl, rfl, rfl, rfl, by decide⟩
theorem prm_11 {z : KT} {qX : Nat → Nat} {qL : Nat → Nat} {qN : Nat → Nat} {qG : Nat → Nat} {qP : Nat → Nat} {qK : Nat → Nat} {qT : Nat → Nat} {F : RT} {P : RT} {K : RT} {G : RT} {T : RT} {N : RT} : Prm (S := RT) (fW z qX qP qK qN qL qG F ++ (pW z qP P ++ (pW z qK K ++ (mW z qG qT G ++ (pW z qT T ++ (nW z qN N)))))) (fun u => (lW z qL u)) (fun u => (fW z qX qP qK qN qL qG F ++ (pW z qP P ++ (pW z qK K ++ (mW z qG qT G ++ (pW z qT T ++ (nW z qN N ++ (lW z qL u)))))))) := ⟨[0, 1, 2, 3, 4, 5, 6, 7, 8, 9, 10, 11, 12, 13, 14, 15, 16, 17, 18, 19, 20, 21, 22, 23, 24, 25, 26, 27, 28, 29, 30, 31, 32], rfl, fun _ => rfl⟩
theorem cut_12 {z : KT} {qX : Nat → Nat} {qL : Nat → Nat} {qN : Nat → Nat} {qG : Nat → Nat} {qP : Nat → Nat} {qK : Nat → Nat} {qT : Nat → Nat} {F : RT} {P : RT} {K : RT} {G : RT} {T : RT} {N : RT} {L : RT} : Cut (fW z qX qP qK qN qL qG F ++ (pW z qP P ++ (pW z qK K ++ (mW z qG qT G ++ (pW z qT T ++ (nW z qN N ++ (lW z qL L))))))) (fW z qX qP qK qN qL qG F) (pW z qP P ++ (pW z qK K ++ (mW z qG qT G ++ (pW z qT T ++ (nW z qN N ++ (lW z qL L)))))) := ⟨[0, 1], [2, 3, 4, 5, 6, 7, 8, 9, 10, 11, 12, 13, 14, 15, 16, 17, 18, 19, 20, 21, 22, 23, 24, 25, 26, 27, 28, 29, 30, 31, 32], rfl, rfl, rfl, rfl, by decide⟩
theorem prm_12 {z : KT} {qX : Nat → Nat} {qL : Nat → Nat} {qN : Nat → Nat} {qG : Nat → Nat} {qP : Nat → Nat} {qK : Nat → Nat} {qT : Nat → Nat} {P : RT} {K : RT} {G : RT} {T : RT} {N : RT} {L : RT} : Prm (S := RT) (pW z qP P ++ (pW z qK K ++ (mW z qG qT G ++ (pW z qT T ++ (nW z qN N ++ (lW z qL L)))))) (fun u => (fW z qX qP qK qN qL qG u)) (fun u => (fW z qX qP qK qN qL qG u ++ (pW z qP P ++ (pW z qK K ++ (mW z qG qT G ++ (pW z qT T ++ (nW z qN N ++ (lW z qL L)))))))) := ⟨[31, 32, 0, 1, 2, 3, 4, 5, 6, 7, 8, 9, 10, 11, 12, 13, 14, 15, 16, 17, 18, 19, 20, 21, 22, 23, 24, 25, 26, 27, 28, 29, 30], rfl, fun _ => rfl⟩
theorem cut_13 {z : KT} {qX : Nat → Nat} {qL : Nat → Nat} {qN : Nat → Nat} {qG : Nat → Nat} {qP : Nat → Nat} {qK : Nat → Nat} {qT : Nat → Nat} {F : RT} {P : RT} {K : RT} {G : RT} {T : RT} {N : RT} {L : RT} : Cut (fW z qX qP qK qN qL qG F ++ (pW z qP P ++ (pW z qK K ++ (mW z qG qT G ++ (pW z qT T ++ (nW z qN N ++ (lW z qL L))))))) (mW z qG qT G ++ (pW z qT T ++ (pW z qP P))) (fW z qX qP qK qN qL qG F ++ (pW z qK K ++ (nW z qN N ++ (lW z qL L)))) := ⟨[18, 19, 20, 21, 22, 23, 24, 25, 26, 27, 28, 2, 3, 4, 5, 6, 7, 8, 9], [0, 1, 10, 11, 12, 13, 14, 15, 16, 17, 29, 30, 31, 32], rfl, rfl, rfl, rfl, by decide⟩
theorem prm_13 {z : KT} {qX : Nat → Nat} {qL : Nat → Nat} {qN : Nat → Nat} {qG : Nat → Nat} {qP : Nat → Nat} {qK : Nat → Nat} {qT : Nat → Nat} {F : RT} {P : RT} {K : RT} {G : RT} {N : RT} {L : RT} : Prm (S := RT) (fW z qX qP qK qN qL qG F ++ (pW z qK K ++ (nW z qN N ++ (lW z qL L)))) (fun u => (mW z qG qT G ++ (pW z qT u ++ (pW z qP P)))) (fun u => (fW z qX qP qK qN qL qG F ++ (pW z qP P ++ (pW z qK K ++ (mW z qG qT G ++ (pW z qT u ++ (nW z qN N ++ (lW z qL L)))))))) := ⟨[0, 1, 25, 26, 27, 28, 29, 30, 31, 32, 2, 3, 4, 5, 6, 7, 8, 9, 14, 15, 16, 17, 18, 19, 20, 21, 22, 23, 24, 10, 11, 12, 13], rfl, fun _ => rfl⟩
theorem cut_14 {z : KT} {qX : Nat → Nat} {qL : Nat → Nat} {qN : Nat → Nat} {qG : Nat → Nat} {qP : Nat → Nat} {qK : Nat → Nat} {qT : Nat → Nat} {F : RT} {P : RT} {K : RT} {G : RT} {T : RT} {N : RT} {L : RT} : Cut (fW z qX qP qK qN qL qG F ++ (pW z qP P ++ (pW z qK K ++ (mW z qG qT G ++ (pW z qT T ++ (nW z qN N ++ (lW z qL L))))))) (lW z qL L ++ (pW z qT T)) (fW z qX qP qK qN qL qG F ++ (pW z qP P ++ (pW z qK K ++ (mW z qG qT G ++ (nW z qN N))))) := ⟨[31, 32, 21, 22, 23, 24, 25, 26, 27, 28], [0, 1, 2, 3, 4, 5, 6, 7, 8, 9, 10, 11, 12, 13, 14, 15, 16, 17, 18, 19, 20, 29, 30], rfl, rfl, rfl, rfl, by decide⟩
theorem prm_14 {z : KT} {qX : Nat → Nat} {qL : Nat → Nat} {qN : Nat → Nat} {qG : Nat → Nat} {qP : Nat → Nat} {qK : Nat → Nat} {qT : Nat → Nat} {F : RT} {P : RT} {K : RT} {G : RT} {N : RT} {L : RT} : Prm (S := RT) (fW z qX qP qK qN qL qG F ++ (pW z qP P ++ (pW z qK K ++ (mW z qG qT G ++ (nW z qN N))))) (fun u => (lW z qL L ++ (pW z qT u))) (fun u => (fW z qX qP qK qN qL qG F ++ (pW z qP P ++ (pW z qK K ++ (mW z qG qT G ++ (pW z qT u ++ (nW z qN N ++ (lW z qL L)))))))) := ⟨[0, 1, 2, 3, 4, 5, 6, 7, 8, 9, 10, 11, 12, 13, 14, 15, 16, 17, 18, 19, 20, 25, 26, 27, 28, 29, 30, 31, 32, 21, 22, 23, 24], rfl, fun _ => rfl⟩
theorem cut_15 {z : KT} {qX : Nat → Nat} {qL : Nat → Nat} {qN : Nat → Nat} {qG : Nat → Nat} {qP : Nat → Nat} {qK : Nat → Nat} {qT : Nat → Nat} {F : RT} {P : RT} {K : RT} {G : RT} {T : RT} {N : RT} {L : RT} : Cut (fW z qX qP qK qN qL qG F ++ (pW z qP P ++ (pW z qK K ++ (mW z qG qT G ++ (pW z qT T ++ (nW z qN N ++ (lW z qL L))))))) (pW z qP P ++ (pW z qT T)) (fW z qX qP qK qN qL qG F ++ (pW z qK K ++ (mW z qG qT G ++ (nW z qN N ++ (lW z qL L))))) := ⟨[2, 3, 4, 5, 6, 7, 8, 9, 21, 22, 23, 24, 25, 26, 27, 28], [0, 1, 10, 11, 12, 13, 14, 15, 16, 17, 18, 19, 20, 29, 30, 31, 32], rfl, rfl, rfl, rfl, by decide⟩
theorem prm_15 {z : KT} {qX : Nat → Nat} {qL : Nat → Nat} {qN : Nat → Nat} {qG : Nat → Nat} {qP : Nat → Nat} {qK : Nat → Nat} {qT : Nat → Nat} {F : RT} {K : RT} {G : RT} {T : RT} {N : RT} {L : RT} : Prm (S := RT) (fW z qX qP qK qN qL qG F ++ (pW z qK K ++ (mW z qG qT G ++ (nW z qN N ++ (lW z qL L))))) (fun u => (pW z qP u ++ (pW z qT T))) (fun u => (fW z qX qP qK qN qL qG F ++ (pW z qP u ++ (pW z qK K ++ (mW z qG qT G ++ (pW z qT T ++ (nW z qN N ++ (lW z qL L)))))))) := ⟨[0, 1, 17, 18, 19, 20, 21, 22, 23, 24, 2, 3, 4, 5, 6, 7, 8, 9, 10, 11, 12, 25, 26, 27, 28, 29, 30, 31, 32, 13, 14, 15, 16], rfl, fun _ => rfl⟩
theorem cut_16 {z : KT} {qX : Nat → Nat} {qL : Nat → Nat} {qN : Nat → Nat} {qG : Nat → Nat} {qP : Nat → Nat} {qK : Nat → Nat} {qT : Nat → Nat} {F : RT} {P : RT} {K : RT} {G : RT} {T : RT} {N : RT} {L : RT} : Cut (fW z qX qP qK qN qL qG F ++ (pW z qP P ++ (pW z qK K ++ (mW z qG qT G ++ (pW z qT T ++ (nW z qN N ++ (lW z qL L))))))) (pW z qP P) (fW z qX qP qK qN qL qG F ++ (pW z qK K ++ (mW z qG qT G ++ (pW z qT T ++ (nW z qN N ++ (lW z qL L)))))) := ⟨[2, 3, 4, 5, 6, 7, 8, 9], [0, 1, 10, 11, 12, 13, 14, 15, 16, 17, 18, 19, 20, 21, 22, 23, 24, 25, 26, 27, 28, 29, 30, 31, 32], rfl, rfl, rfl, rfl, by decide⟩
theorem prm_16 {z : KT} {qX : Nat → Nat} {qL : Nat → Nat} {qN : Nat → Nat} {qG : Nat → Nat} {qP : Nat → Nat} {qK : Nat → Nat} {qT : Nat → Nat} {F : RT} {P : RT} {K : RT} {G : RT} {T : RT} {N : RT} {L : RT} : Prm (S := Unit) (fW z qX qP qK qN qL qG F ++ (pW z qK K ++ (mW z qG qT G ++ (pW z qT T ++ (nW z qN N ++ (lW z qL L)))))) (fun _ => (pW z qP P)) (fun _ => (fW z qX qP qK qN qL qG F ++ (pW z qP P ++ (pW z qK K ++ (mW z qG qT G ++ (pW z qT T ++ (nW z qN N ++ (lW z qL L)))))))) := ⟨[0, 1, 25, 26, 27, 28, 29, 30, 31, 32, 2, 3, 4, 5, 6, 7, 8, 9, 10, 11, 12, 13, 14, 15, 16, 17, 18, 19, 20, 21, 22, 23, 24], rfl, fun _ => rfl⟩
theorem cut_17 {z : KT} {qX : Nat → Nat} {qL : Nat → Nat} {qN : Nat → Nat} {qG : Nat → Nat} {qP : Nat → Nat} {qK : Nat → Nat} {qT : Nat → Nat} {F : RT} {P : RT} {K : RT} {G : RT} {T : RT} {N : RT} {L : RT} : Cut (fW z qX qP qK qN qL qG F ++ (pW z qP P ++ (pW z qK K ++ (mW z qG qT G ++ (pW z qT T ++ (nW z qN N ++ (lW z qL L))))))) (pW z qP P) (fW z qX qP qK qN qL qG F ++ (pW z qK K ++ (mW z qG qT G ++ (pW z qT T ++ (nW z qN N ++ (lW z qL L)))))) := ⟨[2, 3, 4, 5, 6, 7, 8, 9], [0, 1, 10, 11, 12, 13, 14, 15, 16, 17, 18, 19, 20, 21, 22, 23, 24, 25, 26, 27, 28, 29, 30, 31, 32], rfl, rfl, rfl, rfl, by decide⟩
theorem prm_17 {z : KT} {qX : Nat → Nat} {qL : Nat → Nat} {qN : Nat → Nat} {qG : Nat → Nat} {qP : Nat → Nat} {qK : Nat → Nat} {qT : Nat → Nat} {F : RT} {K : RT} {G : RT} {T : RT} {N : RT} {L : RT} : Prm (S := RT) (fW z qX qP qK qN qL qG F ++ (pW z qK K ++ (mW z qG qT G ++ (pW z qT T ++ (nW z qN N ++ (lW z qL L)))))) (fun u => (pW z qP u)) (fun u => (fW z qX qP qK qN qL qG F ++ (pW z qP u ++ (pW z qK K ++ (mW z qG qT G ++ (pW z qT T ++ (nW z qN N ++ (lW z qL L)))))))) := ⟨[0, 1, 25, 26, 27, 28, 29, 30, 31, 32, 2, 3, 4, 5, 6, 7, 8, 9, 10, 11, 12, 13, 14, 15, 16, 17, 18, 19, 20, 21, 22, 23, 24], rfl, fun _ => rfl⟩
theorem cut_18 {z : KT} {qX : Nat → Nat} {qL : Nat → Nat} {qN : Nat → Nat} {qG : Nat → Nat} {qP : Nat → Nat} {qK : Nat → Nat} {F : RT} {P : RT} : Cut (fW z qX qP qK qN qL qG F ++ (pW z qP P)) (pW z qP P) (fW z qX qP qK qN qL qG F) := ⟨[2, 3, 4, 5, 6, 7, 8, 9], [0, 1], rfl, rfl, rfl, rfl, by decide⟩
theorem prm_18 {z : KT} {qX : Nat → Nat} {qL : Nat → Nat} {qN : Nat → Nat} {qG : Nat → Nat} {qP : Nat → Nat} {qK : Nat → Nat} {F : RT} {P : RT} : Prm (S := Unit) (fW z qX qP qK qN qL qG F) (fun _ => (pW z qP P)) (fun _ => (fW z qX qP qK qN qL qG F ++ (pW z qP P))) := ⟨[0, 1, 2, 3, 4, 5, 6, 7, 8, 9], rfl, fun _ => rfl⟩
theorem cut_19 {z : KT} {qX : Nat → Nat} {qL : Nat → Nat} {qN : Nat → Nat} {qG : Nat → Nat} {qP : Nat → Nat} {qK : Nat → Nat} {qT : Nat → Nat} {F : RT} {P : RT} {K : RT} {G : RT} {T : RT} {N : RT} {L : RT} : Cut (fW z qX qP qK qN qL qG F ++ (pW z qP P ++ (pW z qK K ++ (mW z qG qT G ++ (pW z qT T ++ (nW z qN N ++ (lW z qL L))))))) (fW z qX qP qK qN qL qG F ++ (pW z qP P)) (pW z qK K ++ (mW z qG qT G ++ (pW z qT T ++ (nW z qN N ++ (lW z qL L))))) := ⟨[0, 1, 2, 3, 4, 5, 6, 7, 8, 9], [10, 11, 12, 13, 14, 15, 16, 17, 18, 19, 20, 21, 22, 23, 24, 25, 26, 27, 28, 29, 30, 31, 32], rfl, rfl, rfl, rfl, by decide⟩
theorem prm_19 {z : KT} {qX : Nat → Nat} {qL : Nat → Nat} {qN : Nat → Nat} {qG : Nat → Nat} {qP : Nat → Nat} {qK : Nat → Nat} {qT : Nat → Nat} {F : RT} {P : RT} {K : RT} {G : RT} {T : RT} {N : RT} {L : RT} : Prm (S := Unit) (pW z qK K ++ (mW z qG qT G ++ (pW z qT T ++ (nW z qN N ++ (lW z qL L))))) (fun _ => (fW z qX qP qK qN qL qG F ++ (pW z qP P))) (fun _ => (fW z qX qP qK qN qL qG F ++ (pW z qP P ++ (pW z qK K ++ (mW z qG qT G ++ (pW z qT T ++ (nW z qN N ++ (lW z qL L)))))))) := ⟨[23, 24, 25, 26, 27, 28, 29, 30, 31, 32, 0, 1, 2, 3, 4, 5, 6, 7, 8, 9, 10, 11, 12, 13, 14, 15, 16, 17, 18, 19, 20, 21, 22], rfl, fun _ => rfl⟩
theorem cut_20 {z : KT} {qX : Nat → Nat} {qL : Nat → Nat} {qN : Nat → Nat} {qG : Nat → Nat} {qP : Nat → Nat} {qK : Nat → Nat} {qT : Nat → Nat} {F : RT} {P : RT} {K : RT} {G : RT} {T : RT} {N : RT} {L : RT} : Cut (fW z qX qP qK qN qL qG F ++ (pW z qP P ++ (pW z qK K ++ (mW z qG qT G ++ (pW z qT T ++ (nW z qN N ++ (lW z qL L))))))) (pW z qT T) (fW z qX qP qK qN qL qG F ++ (pW z qP P ++ (pW z qK K ++ (mW z qG qT G ++ (nW z qN N ++ (lW z qL L)))))) := ⟨[21, 22, 23, 24, 25, 26, 27, 28], [0, 1, 2, 3, 4, 5, 6, 7, 8, 9, 10, 11, 12, 13, 14, 15, 16, 17, 18, 19, 20, 29, 30, 31, 32], rfl, rfl, rfl, rfl, by decide⟩
theorem prm_20 {z : KT} {qX : Nat → Nat} {qL : Nat → Nat} {qN : Nat → Nat} {qG : Nat → Nat} {qP : Nat → Nat} {qK : Nat → Nat} {qT : Nat → Nat} {F : RT} {P : RT} {K : RT} {G : RT} {T : RT} {N : RT} {L : RT} : Prm (S := Unit) (fW z qX qP qK qN qL qG F ++ (pW z qP P ++ (pW z qK K ++ (mW z qG qT G ++ (nW z qN N ++ (lW z qL L)))))) (fun _ => (pW z qT T)) (fun _ => (fW z qX qP qK qN qL qG F ++ (pW z qP P ++ (pW z qK K ++ (mW z qG qT G ++ (pW z qT T ++ (nW z qN N ++ (lW z qL L)))))))) := ⟨[0, 1, 2, 3, 4, 5, 6, 7, 8, 9, 10, 11, 12, 13, 14, 15, 16, 17, 18, 19, 20, 25, 26, 27, 28, 29, 30, 31, 32, 21, 22, 23, 24], rfl, fun _ => rfl⟩
theorem cut_21 {z : KT} {qX : Nat → Nat} {qL : Nat → Nat} {qN : Nat → Nat} {qG : Nat → Nat} {qP : Nat → Nat} {qK : Nat → Nat} {qT : Nat → Nat} {F : RT} {P : RT} {K : RT} {G : RT} {T : RT} {N : RT} {L : RT} : Cut (fW z qX qP qK qN qL qG F ++ (pW z qP P ++ (pW z qK K ++ (mW z qG qT G ++ (pW z qT T ++ (nW z qN N ++ (lW z qL L))))))) (mW z qG qT G ++ (pW z qT T ++ (pW z qP P))) (fW z qX qP qK qN qL qG F ++ (pW z qK K ++ (nW z qN N ++ (lW z qL L)))) := ⟨[18, 19, 20, 21, 22, 23, 24, 25, 26, 27, 28, 2, 3, 4, 5, 6, 7, 8, 9], [0, 1, 10, 11, 12, 13, 14, 15, 16, 17, 29, 30, 31, 32], rfl, rfl, rfl, rfl, by decide⟩
theorem prm_21 {z : KT} {qX : Nat → Nat} {qL : Nat → Nat} {qN : Nat → Nat} {qG : Nat → Nat} {qP : Nat → Nat} {qK : Nat → Nat} {qT : Nat → Nat} {F : RT} {P : RT} {K : RT} {N : RT} {L : RT} : Prm (S := RT × RT) (fW z qX qP qK qN qL qG F ++ (pW z qK K ++ (nW z qN N ++ (lW z qL L)))) (fun u => (mW z qG qT u.1 ++ (pW z qT u.2 ++ (pW z qP P)))) (fun u => (fW z qX qP qK qN qL qG F ++ (pW z qP P ++ (pW z qK K ++ (mW z qG qT u.1 ++ (pW z qT u.2 ++ (nW z qN N ++ (lW z qL L)))))))) := ⟨[0, 1, 25, 26, 27, 28, 29, 30, 31, 32, 2, 3, 4, 5, 6, 7, 8, 9, 14, 15, 16, 17, 18, 19, 20, 21, 22, 23, 24, 10, 11, 12, 13], rfl, fun _ => rfl⟩
theorem cut_22 {z : KT} {qX : Nat → Nat} {qL : Nat → Nat} {qN : Nat → Nat} {qG : Nat → Nat} {qP : Nat → Nat} {qK : Nat → Nat} {qT : Nat → Nat} {F : RT} {P : RT} {K : RT} {G : RT} {T : RT} {N : RT} {L : RT} : Cut (fW z qX qP qK qN qL qG F ++ (pW z qP P ++ (pW z qK K ++ (mW z qG qT G ++ (pW z qT T ++ (nW z qN N ++ (lW z qL L))))))) (mW z qG qT G ++ (pW z qT T ++ (pW z qP P ++ (nW z qN N)))) (fW z qX qP qK qN qL qG F ++ (pW z qK K ++ (lW z qL L))) := ⟨[18, 19, 20, 21, 22, 23, 24, 25, 26, 27, 28, 2, 3, 4, 5, 6, 7, 8, 9, 29, 30], [0, 1, 10, 11, 12, 13, 14, 15, 16, 17, 31, 32], rfl, rfl, rfl, rfl, by decide⟩
theorem prm_22 {z : KT} {qX : Nat → Nat} {qL : Nat → Nat} {qN : Nat → Nat} {qG : Nat → Nat} {qP : Nat → Nat} {qK : Nat → Nat} {qT : Nat → Nat} {F : RT} {P : RT} {K : RT} {G : RT} {N : RT} {L : RT} : Prm (S := RT) (fW z qX qP qK qN qL qG F ++ (pW z qK K ++ (lW z qL L))) (fun u => (mW z qG qT G ++ (pW z qT u ++ (pW z qP P ++ (nW z qN N))))) (fun u => (fW z qX qP qK qN qL qG F ++ (pW z qP P ++ (pW z qK K ++ (mW z qG qT G ++ (pW z qT u ++ (nW z qN N ++ (lW z qL L)))))))) := ⟨[0, 1, 23, 24, 25, 26, 27, 28, 29, 30, 2, 3, 4, 5, 6, 7, 8, 9, 12, 13, 14, 15, 16, 17, 18, 19, 20, 21, 22, 31, 32, 10, 11], rfl, fun _ => rfl⟩
theorem cut_23 {z : KT} {qX : Nat → Nat} {qL : Nat → Nat} {qN : Nat → Nat} {qG : Nat → Nat} {qP : Nat → Nat} {qK : Nat → Nat} {qT : Nat → Nat} {F : RT} {P : RT} {K : RT} {G : RT} {T : RT} {N : RT} {L : RT} : Cut (fW z qX qP qK qN qL qG F ++ (pW z qP P ++ (pW z qK K ++ (mW z qG qT G ++ (pW z qT T ++ (nW z qN N ++ (lW z qL L))))))) (nW z qN N) (fW z qX qP qK qN qL qG F ++ (pW z qP P ++ (pW z qK K ++ (mW z qG qT G ++ (pW z qT T ++ (lW z qL L)))))) := ⟨[29, 30], [0, 1, 2, 3, 4, 5, 6, 7, 8, 9, 10, 11, 12, 13, 14, 15, 16, 17, 18, 19, 20, 21, 22, 23, 24, 25, 26, 27, 28, 31, 32], rfl, rfl, rfl, rfl, by decide⟩
theorem prm_23 {z : KT} {qX : Nat → Nat} {qL : Nat → Nat} {qN : Nat → Nat} {qG : Nat → Nat} {qP : Nat → Nat} {qK : Nat → Nat} {qT : Nat → Nat} {F : RT} {P : RT} {K : RT} {G : RT} {T : RT} {L : RT} : Prm (S := RT) (fW z qX qP qK qN qL qG F ++ (pW z qP P ++ (pW z qK K ++ (mW z qG qT G ++ (pW z qT T ++ (lW z qL L)))))) (fun u => (nW z qN u)) (fun u => (fW z qX qP qK qN qL qG F ++ (pW z qP P ++ (pW z qK K ++ (mW z qG qT G ++ (pW z qT T ++ (nW z qN u ++ (lW z qL L)))))))) := ⟨[0, 1, 2, 3, 4, 5, 6, 7, 8, 9, 10, 11, 12, 13, 14, 15, 16, 17, 18, 19, 20, 21, 22, 23, 24, 25, 26, 27, 28, 31, 32, 29, 30], rfl, fun _ => rfl⟩
theorem cut_24 {z : KT} {qX : Nat → Nat} {qL : Nat → Nat} {qN : Nat → Nat} {qG : Nat → Nat} {qP : Nat → Nat} {qK : Nat → Nat} {qT : Nat → Nat} {F : RT} {P : RT} {K : RT} {G : RT} {T : RT} {N : RT} {L : RT} : Cut (fW z qX qP qK qN qL qG F ++ (pW z qP P ++ (pW z qK K ++ (mW z qG qT G ++ (pW z qT T ++ (nW z qN N ++ (lW z qL L))))))) (nW z qN N ++ (pW z qP P)) (fW z qX qP qK qN qL qG F ++ (pW z qK K ++ (mW z qG qT G ++ (pW z qT T ++ (lW z qL L))))) := ⟨[29, 30, 2, 3, 4, 5, 6, 7, 8, 9], [0, 1, 10, 11, 12, 13, 14, 15, 16, 17, 18, 19, 20, 21, 22, 23, 24, 25, 26, 27, 28, 31, 32], rfl, rfl, rfl, rfl, by decide⟩
theorem prm_24 {z : KT} {qX : Nat → Nat} {qL : Nat → Nat} {qN : Nat → Nat} {qG : Nat → Nat} {qP : Nat → Nat} {qK : Nat → Nat} {qT : Nat → Nat} {F : RT} {P : RT} {K : RT} {G : RT} {T : RT} {N : RT} {L : RT} : Prm (S := Unit) (fW z qX qP qK qN qL qG F ++ (pW z qK K ++ (mW z qG qT G ++ (pW z qT T ++ (lW z qL L))))) (fun _ => (nW z qN N ++ (pW z qP P))) (fun _ => (fW z qX qP qK qN qL qG F ++ (pW z qP P ++ (pW z qK K ++ (mW z qG qT G ++ (pW z qT T ++ (nW z qN N ++ (lW z qL L)))))))) := ⟨[0, 1, 25, 26, 27, 28, 29, 30, 31, 32, 2, 3, 4, 5, 6, 7, 8, 9, 10, 11, 12, 13, 14, 15, 16, 17, 18, 19, 20, 23, 24, 21, 22], rfl, fun _ => rfl⟩
theorem cut_25 {z : KT} {qX : Nat → Nat} {qL : Nat → Nat} {qN : Nat → Nat} {qG : Nat → Nat} {qP : Nat → Nat} {qK : Nat → Nat} {qT : Nat → Nat} {F : RT} {P : RT} {K : RT} {G : RT} {T : RT} {N : RT} {L : RT} : Cut (fW z qX qP qK qN qL qG F ++ (pW z qP P ++ (pW z qK K ++ (mW z qG qT G ++ (pW z qT T ++ (nW z qN N ++ (lW z qL L))))))) (pW z qK K ++ (pW z qP P)) (fW z qX qP qK qN qL qG F ++ (mW z qG qT G ++ (pW z qT T ++ (nW z qN N ++ (lW z qL L))))) := ⟨[10, 11, 12, 13, 14, 15, 16, 17, 2, 3, 4, 5, 6, 7, 8, 9], [0, 1, 18, 19, 20, 21, 22, 23, 24, 25, 26, 27, 28, 29, 30, 31, 32], rfl, rfl, rfl, rfl, by decide⟩
theorem prm_25 {z : KT} {qX : Nat → Nat} {qL : Nat → Nat} {qN : Nat → Nat} {qG : Nat → Nat} {qP : Nat → Nat} {qK : Nat → Nat} {qT : Nat → Nat} {F : RT} {P : RT} {G : RT} {T : RT} {N : RT} {L : RT} : Prm (S := RT) (fW z qX qP qK qN qL qG F ++ (mW z qG qT G ++ (pW z qT T ++ (nW z qN N ++ (lW z qL L))))) (fun u => (pW z qK u ++ (pW z qP P))) (fun u => (fW z qX qP qK qN qL qG F ++ (pW z qP P ++ (pW z qK u ++ (mW z qG qT G ++ (pW z qT T ++ (nW z qN N ++ (lW z qL L)))))))) := ⟨[0, 1, 25, 26, 27, 28, 29, 30, 31, 32, 17, 18, 19, 20, 21, 22, 23, 24, 2, 3, 4, 5, 6, 7, 8, 9, 10, 11, 12, 13, 14, 15, 16], rfl, fun _ => rfl⟩
theorem cut_26 {z : KT} {qX : Nat → Nat} {qL : Nat → Nat} {qN : Nat → Nat} {qG : Nat → Nat} {qP : Nat → Nat} {qK : Nat → Nat} {qT : Nat → Nat} {F : RT} {P : RT} {K : RT} {G : RT} {T : RT} {N : RT} {L : RT} : Cut (fW z qX qP qK qN qL qG F ++ (pW z qP P ++ (pW z qK K ++ (mW z qG qT G ++ (pW z qT T ++ (nW z qN N ++ (lW z qL L))))))) (pW z qP P ++ (pW z qK K)) (fW z qX qP qK qN qL qG F ++ (mW z qG qT G ++ (pW z qT T ++ (nW z qN N ++ (lW z qL L))))) := ⟨[2, 3, 4, 5, 6, 7, 8, 9, 10, 11, 12, 13, 14, 15, 16, 17], [0, 1, 18, 19, 20, 21, 22, 23, 24, 25, 26, 27, 28, 29, 30, 31, 32], rfl, rfl, rfl, rfl, by decide⟩
theorem prm_26 {z : KT} {qX : Nat → Nat} {qL : Nat → Nat} {qN : Nat → Nat} {qG : Nat → Nat} {qP : Nat → Nat} {qK : Nat → Nat} {qT : Nat → Nat} {F : RT} {K : RT} {G : RT} {T : RT} {N : RT} {L : RT} : Prm (S := RT) (fW z qX qP qK qN qL qG F ++ (mW z qG qT G ++ (pW z qT T ++ (nW z qN N ++ (lW z qL L))))) (fun u => (pW z qP u ++ (pW z qK K))) (fun u => (fW z qX qP qK qN qL qG F ++ (pW z qP u ++ (pW z qK K ++ (mW z qG qT G ++ (pW z qT T ++ (nW z qN N ++ (lW z qL L)))))))) := ⟨[0, 1, 17, 18, 19, 20, 21, 22, 23, 24, 25, 26, 27, 28, 29, 30, 31, 32, 2, 3, 4, 5, 6, 7, 8, 9, 10, 11, 12, 13, 14, 15, 16], rfl, fun _ => rfl⟩
def wX6_refuse (F : RT) (x1 : Int32) (Q : Int32 → RT → Prop) : Prop := (vp_in (-x1) 7 ∧ (∀ F_2 : RT, F_2 = set2 F 6 ((-x1)).toNatClampNeg ((F 6 ((-x1)).toNatClampNeg) + (1 : Int32)) → (Q x1 F_2)))
def bX6_letter_28 (P : RT) (K : RT) (G : RT) (T : RT) (N : RT) (Q : Int32 → RT → RT → Prop) (F : RT) (L : RT) (x1 : Int32) (x2 : Int32) : Prop := (if x2 = (0 : Int32) then (wX0_add L x1 (fun (r_3 : Int32) (L_2 : RT) => (Q r_3 F L_2))) else (wX6_refuse F x2 (fun (r_5 : Int32) (F_4 : RT) => (Q r_5 F_4 L))))
def wX6_letter (F : RT) (P : RT) (K : RT) (G : RT) (T : RT) (N : RT) (L : RT) (x1 : Int32) (Q : Int32 → RT → RT → Prop) : Prop := (wX6_rangeFault  x1 (0 : Int32) (255 : Int32) (fun (r_1 : Int32) => (if r_1 = (0 : Int32) then (if (L 30 1) < (96 : Int32) then (bX6_letter_28 P K G T N Q F L x1 r_1) else (bX6_letter_28 P K G T N Q F L x1 (-6 : Int32))) else (bX6_letter_28 P K G T N Q F L x1 r_1))))
def wX6_port (F : RT) (P : RT) (K : RT) (G : RT) (T : RT) (N : RT) (L : RT) (Q : Int32 → RT → RT → RT → Prop) : Prop := (wX1_begin G T P  (fun (T_1 : RT) => (wX0_tellTo L T_1  (fun (r_3 : Int32) (T_2 : RT) => (∀ L_4 : RT, L_4 = set2 L 30 1 (0 : Int32) → (if r_3 < (0 : Int32) then (Q r_3 P T_2 L_4) else (wX3_copyFrom P T_2  (fun (P_6 : RT) => (Q r_3 P_6 T_2 L_4)))))))))
def wX6_thing (F : RT) (P : RT) (K : RT) (G : RT) (T : RT) (N : RT) (L : RT) (x1 : Int32) (x2 : Int32) (Q : Int32 → RT → Prop) : Prop := (wX3_hasThing P x1 (fun (r_1 : Int32) => (if r_1 = (0 : Int32) then (wX6_refuse F (-1 : Int32) (fun (r_19 : Int32) (F_18 : RT) => (Q r_19 F_18))) else (if x2 = (0 : Int32) then (vp_in x1 8 ∧ (Q (P 0 (x1).toNatClampNeg) F)) else (if x2 = (1 : Int32) then (vp_in x1 8 ∧ (Q (P 1 (x1).toNatClampNeg) F)) else (if x2 = (2 : Int32) then (vp_in x1 8 ∧ (Q (P 2 (x1).toNatClampNeg) F)) else (if x2 = (3 : Int32) then (vp_in x1 8 ∧ (Q (P 3 (x1).toNatClampNeg) F)) else (if x2 = (4 : Int32) then (vp_in x1 8 ∧ (Q (P 4 (x1).toNatClampNeg) F)) else (if x2 = (5 : Int32) then (wX3_heftOf P x1 (fun (r_15 : Int32) => (Q r_15 F))) else (wX6_refuse F (-2 : Int32) (fun (r_17 : Int32) (F_16 : RT) => (Q r_17 F_16))))))))))))
def wX6_rope (F : RT) (P : RT) (K : RT) (G : RT) (T : RT) (N : RT) (L : RT) (x1 : Int32) (x2 : Int32) (Q : Int32 → RT → Prop) : Prop := (wX3_hasRope P x1 (fun (r_1 : Int32) => (if r_1 = (0 : Int32) then (wX6_refuse F (-1 : Int32) (fun (r_13 : Int32) (F_12 : RT) => (Q r_13 F_12))) else (if x2 = (0 : Int32) then (vp_in x1 6 ∧ (Q (P 5 (x1).toNatClampNeg) F)) else (if x2 = (1 : Int32) then (vp_in x1 6 ∧ (Q (P 6 (x1).toNatClampNeg) F)) else (if x2 = (2 : Int32) then (wX3_heavierEnd P x1 (fun (r_9 : Int32) => (Q r_9 F))) else (wX6_refuse F (-2 : Int32) (fun (r_11 : Int32) (F_10 : RT) => (Q r_11 F_10)))))))))
def wX6_ties (F : RT) (P : RT) (K : RT) (G : RT) (T : RT) (N : RT) (L : RT) (x1 : Int32) (x2 : Int32) (Q : Int32 → RT → RT → Prop) : Prop := (wX3_hasPair P x1 x2 (fun (r_1 : Int32) => (if r_1 = (0 : Int32) then (wX6_refuse F (-1 : Int32) (fun (r_9 : Int32) (F_8 : RT) => (Q r_9 F_8 P))) else (if (P 30 8) < (6 : Int32) then (wX3_addRope P x1 x2 (fun (r_5 : Int32) (P_4 : RT) => (Q r_5 F P_4))) else (wX6_refuse F (-6 : Int32) (fun (r_7 : Int32) (F_6 : RT) => (Q r_7 F_6 P)))))))
def wX6_cuts (F : RT) (P : RT) (K : RT) (G : RT) (T : RT) (N : RT) (L : RT) (x1 : Int32) (Q : Int32 → RT → RT → Prop) : Prop := (wX3_hasRope P x1 (fun (r_1 : Int32) => (if r_1 = (0 : Int32) then (wX6_refuse F (-1 : Int32) (fun (r_6 : Int32) (F_5 : RT) => (Q r_6 F_5 P))) else (wX3_dropRope P x1 (fun (r_4 : Int32) (P_3 : RT) => (Q r_4 F P_3))))))
def wX6_thingFault (F : RT) (P : RT) (x1 : Int32) (x2 : Int32) (x3 : Int32) (Q : Int32 → Prop) : Prop := (wX3_hasThing P x1 (fun (r_1 : Int32) => (if r_1 = (0 : Int32) then (Q (-1 : Int32)) else (wX6_rangeFault  x2 (0 : Int32) x3 (fun (r_3 : Int32) => (Q r_3))))))
def wX6_stones (F : RT) (P : RT) (K : RT) (G : RT) (T : RT) (N : RT) (L : RT) (x1 : Int32) (x2 : Int32) (Q : Int32 → RT → RT → Prop) : Prop := (wX6_thingFault F P x1 x2 (9 : Int32) (fun (r_1 : Int32) => (if r_1 = (0 : Int32) then (vp_in x1 8 ∧ (∀ x4_4 : Int32, x4_4 = (P 3 (x1).toNatClampNeg) → (∀ P_5 : RT, P_5 = set2 P 3 (x1).toNatClampNeg x2 → (Q x4_4 F P_5)))) else (wX6_refuse F r_1 (fun (r_7 : Int32) (F_6 : RT) => (Q r_7 F_6 P))))))
def wX6_weighs (F : RT) (P : RT) (K : RT) (G : RT) (T : RT) (N : RT) (L : RT) (x1 : Int32) (x2 : Int32) (Q : Int32 → RT → RT → Prop) : Prop := (wX6_thingFault F P x1 x2 (60 : Int32) (fun (r_1 : Int32) => (if r_1 = (0 : Int32) then (vp_in x1 8 ∧ (∀ x4_4 : Int32, x4_4 = (P 2 (x1).toNatClampNeg) → (∀ P_5 : RT, P_5 = set2 P 2 (x1).toNatClampNeg x2 → (Q x4_4 F P_5)))) else (wX6_refuse F r_1 (fun (r_7 : Int32) (F_6 : RT) => (Q r_7 F_6 P))))))
def wX6_lifts (F : RT) (P : RT) (K : RT) (G : RT) (T : RT) (N : RT) (L : RT) (x1 : Int32) (x2 : Int32) (Q : Int32 → RT → RT → Prop) : Prop := (wX6_thingFault F P x1 x2 (20 : Int32) (fun (r_1 : Int32) => (if r_1 = (0 : Int32) then (vp_in x1 8 ∧ (∀ x4_4 : Int32, x4_4 = (P 4 (x1).toNatClampNeg) → (∀ P_5 : RT, P_5 = set2 P 4 (x1).toNatClampNeg x2 → (Q x4_4 F P_5)))) else (wX6_refuse F r_1 (fun (r_7 : Int32) (F_6 : RT) => (Q r_7 F_6 P))))))
def bX6_turn_27 (K : RT) (G : RT) (T : RT) (N : RT) (L : RT) (Q : Int32 → RT → RT → Prop) (F : RT) (P : RT) : Prop := (wX6_refuse F (-2 : Int32) (fun (r_2 : Int32) (F_1 : RT) => (Q r_2 F_1 P)))
def wX6_turn (F : RT) (P : RT) (K : RT) (G : RT) (T : RT) (N : RT) (L : RT) (x1 : Int32) (x2 : Int32) (x3 : Int32) (Q : Int32 → RT → RT → Prop) : Prop := (wX3_hasThing P x1 (fun (r_1 : Int32) => (if r_1 = (0 : Int32) then (wX6_refuse F (-1 : Int32) (fun (r_14 : Int32) (F_13 : RT) => (Q r_14 F_13 P))) else (if x2 < (0 : Int32) then (bX6_turn_27 K G T N L Q F P) else (if x2 < (6 : Int32) then (wX6_rangeFault  x3 (0 : Int32) (9 : Int32) (fun (r_5 : Int32) => (if r_5 = (0 : Int32) then (vp_in x1 8 ∧ (∀ x5_8 : Int32, x5_8 = (((10 : Int32) * (P 0 (x1).toNatClampNeg)) + (P 1 (x1).toNatClampNeg)) → (∀ P_9 : RT, P_9 = set2 P 0 (x1).toNatClampNeg x2 → (∀ P_10 : RT, P_10 = set2 P_9 1 (x1).toNatClampNeg x3 → (Q x5_8 F P_10))))) else (wX6_refuse F r_5 (fun (r_12 : Int32) (F_11 : RT) => (Q r_12 F_11 P)))))) else (bX6_turn_27 K G T N L Q F P))))))
def bX6_hours_30 (K : RT) (G : RT) (T : RT) (N : RT) (L : RT) (Q : Int32 → RT → RT → Prop) (F : RT) (P : RT) (x1 : Int32) (x2 : Int32) : Prop := (if x2 = (0 : Int32) then (wX3_goHours P x1 (fun (P_2 : RT) => (wX3_allHeights P_2  (fun (r_3 : Int32) => (Q r_3 F P_2))))) else (wX6_refuse F x2 (fun (r_5 : Int32) (F_4 : RT) => (Q r_5 F_4 P))))
def wX6_hours (F : RT) (P : RT) (K : RT) (G : RT) (T : RT) (N : RT) (L : RT) (x1 : Int32) (Q : Int32 → RT → RT → Prop) : Prop := (wX6_rangeFault  x1 (1 : Int32) (60 : Int32) (fun (r_1 : Int32) => (if r_1 = (0 : Int32) then (if ((P 30 9) + x1) ≤ (999 : Int32) then (bX6_hours_30 K G T N L Q F P x1 r_1) else (bX6_hours_30 K G T N L Q F P x1 (-6 : Int32))) else (bX6_hours_30 K G T N L Q F P x1 r_1))))
def bX6_thingThen_28 (P : RT) (K : RT) (G : RT) (N : RT) (L : RT) (Q : Int32 → RT → RT → Prop) (F : RT) (T : RT) (x1 : Int32) (x2 : Int32) (x3 : Int32) (x4 : Int32) : Prop := (if x4 = (0 : Int32) then (wX1_behind G T P x2 (fun (T_2 : RT) => (if x3 = (0 : Int32) then (vp_in x1 8 ∧ (Q (T_2 4 (x1).toNatClampNeg) F T_2)) else (wX3_heftOf T_2 x1 (fun (r_4 : Int32) => (Q r_4 F T_2)))))) else (wX6_refuse F x4 (fun (r_7 : Int32) (F_6 : RT) => (Q r_7 F_6 T))))
def wX6_thingThen (F : RT) (P : RT) (K : RT) (G : RT) (T : RT) (N : RT) (L : RT) (x1 : Int32) (x2 : Int32) (x3 : Int32) (Q : Int32 → RT → RT → Prop) : Prop := (wX6_thingFault F P x1 x2 (99 : Int32) (fun (r_1 : Int32) => (if r_1 = (0 : Int32) then (if x3 = (0 : Int32) then (bX6_thingThen_28 P K G N L Q F T x1 x2 x3 r_1) else (if x3 = (1 : Int32) then (bX6_thingThen_28 P K G N L Q F T x1 x2 x3 r_1) else (bX6_thingThen_28 P K G N L Q F T x1 x2 x3 (-2 : Int32)))) else (bX6_thingThen_28 P K G N L Q F T x1 x2 x3 r_1))))
def wX6_ropeThen (F : RT) (P : RT) (K : RT) (G : RT) (T : RT) (N : RT) (L : RT) (x1 : Int32) (x2 : Int32) (Q : Int32 → RT → RT → Prop) : Prop := (wX3_hasRope P x1 (fun (r_1 : Int32) => (if r_1 = (0 : Int32) then (wX6_refuse F (-1 : Int32) (fun (r_10 : Int32) (F_9 : RT) => (Q r_10 F_9 T))) else (wX6_rangeFault  x2 (0 : Int32) (99 : Int32) (fun (r_3 : Int32) => (if r_3 = (0 : Int32) then (wX1_behind G T P x2 (fun (T_5 : RT) => (wX3_heavierEnd T_5 x1 (fun (r_6 : Int32) => (Q r_6 F T_5))))) else (wX6_refuse F r_3 (fun (r_8 : Int32) (F_7 : RT) => (Q r_8 F_7 T)))))))))
def wX6_up (F : RT) (P : RT) (K : RT) (G : RT) (T : RT) (N : RT) (L : RT) (x1 : Int32) (x2 : Int32) (Q : Int32 → RT → RT → Prop) : Prop := (wX6_thingFault F P x1 x2 (20 : Int32) (fun (r_1 : Int32) => (if r_1 = (0 : Int32) then (wX1_whenUp G T P x1 x2 (fun (r_4 : Int32) (T_3 : RT) => (Q r_4 F T_3))) else (wX6_refuse F r_1 (fun (r_6 : Int32) (F_5 : RT) => (Q r_6 F_5 T))))))
def wX6_first (F : RT) (P : RT) (K : RT) (G : RT) (T : RT) (N : RT) (L : RT) (x1 : Int32) (Q : Int32 → RT → RT → RT → Prop) : Prop := (if x1 = (0 : Int32) then (wX1_whoFirst G T P  (fun (r_4 : Int32) (T_3 : RT) => (Q r_4 F G T_3))) else (if x1 = (1 : Int32) then (wX1_whenFirst G T P  (fun (r_7 : Int32) (T_6 : RT) => (Q r_7 F G T_6))) else (if x1 = (2 : Int32) then (wX1_whenRest G T P  (fun (r_11 : Int32) (G_9 : RT) (T_10 : RT) => (Q r_11 F G_9 T_10))) else (wX6_refuse F (-2 : Int32) (fun (r_13 : Int32) (F_12 : RT) => (Q r_13 F_12 G T))))))
def wX6_changes (F : RT) (P : RT) (K : RT) (G : RT) (T : RT) (N : RT) (L : RT) (x1 : Int32) (Q : Int32 → RT → RT → Prop) : Prop := (wX3_hasRope P x1 (fun (r_1 : Int32) => (if r_1 = (0 : Int32) then (wX6_refuse F (-1 : Int32) (fun (r_6 : Int32) (F_5 : RT) => (Q r_6 F_5 T))) else (wX1_whenOtherwise G T P x1 (fun (r_4 : Int32) (T_3 : RT) => (Q r_4 F T_3))))))
def wX6_aimFault (F : RT) (P : RT) (x1 : Int32) (x2 : Int32) (x3 : Int32) (Q : Int32 → Prop) : Prop := (wX3_hasThing P x1 (fun (r_1 : Int32) => (if r_1 = (0 : Int32) then (Q (-1 : Int32)) else (if x2 < (0 : Int32) then (Q (-4 : Int32)) else (if (0 : Int32) ≤ x3 then (if (20 : Int32) < x2 then (Q (-6 : Int32)) else (if x3 ≤ (30 : Int32) then (Q (0 : Int32)) else (Q (-6 : Int32)))) else (Q (-4 : Int32)))))))
def wX6_throwsDown (F : RT) (P : RT) (K : RT) (G : RT) (T : RT) (N : RT) (L : RT) (x1 : Int32) (x2 : Int32) (x3 : Int32) (Q : Int32 → RT → RT → Prop) : Prop := (wX6_aimFault F P x1 x2 x3 (fun (r_1 : Int32) => (if r_1 = (0 : Int32) then (wX1_fewestLess G T P x1 x2 x3 (fun (r_4 : Int32) (T_3 : RT) => (Q r_4 F T_3))) else (wX6_refuse F r_1 (fun (r_6 : Int32) (F_5 : RT) => (Q r_6 F_5 T))))))
def wX6_takesUp (F : RT) (P : RT) (K : RT) (G : RT) (T : RT) (N : RT) (L : RT) (x1 : Int32) (x2 : Int32) (x3 : Int32) (Q : Int32 → RT → RT → Prop) : Prop := (wX6_aimFault F P x1 x2 x3 (fun (r_1 : Int32) => (if r_1 = (0 : Int32) then (wX1_fewestMore G T P x1 x2 x3 (fun (r_4 : Int32) (T_3 : RT) => (Q r_4 F T_3))) else (wX6_refuse F r_1 (fun (r_6 : Int32) (F_5 : RT) => (Q r_6 F_5 T))))))
def wX6_bestTie (F : RT) (P : RT) (K : RT) (G : RT) (T : RT) (N : RT) (L : RT) (x1 : Int32) (x2 : Int32) (Q : Int32 → RT → RT → Prop) : Prop := (wX6_thingFault F P x1 x2 (30 : Int32) (fun (r_1 : Int32) => (if r_1 = (0 : Int32) then (wX1_highestByTie G T P x1 x2 (fun (r_4 : Int32) (T_3 : RT) => (Q r_4 F T_3))) else (wX6_refuse F r_1 (fun (r_6 : Int32) (F_5 : RT) => (Q r_6 F_5 T))))))
def wX6_bestCut (F : RT) (P : RT) (K : RT) (G : RT) (T : RT) (N : RT) (L : RT) (x1 : Int32) (x2 : Int32) (Q : Int32 → RT → RT → Prop) : Prop := (wX6_thingFault F P x1 x2 (30 : Int32) (fun (r_1 : Int32) => (if r_1 = (0 : Int32) then (wX1_highestByCut G T P x1 x2 (fun (r_4 : Int32) (T_3 : RT) => (Q r_4 F T_3))) else (wX6_refuse F r_1 (fun (r_6 : Int32) (F_5 : RT) => (Q r_6 F_5 T))))))
def wX6_bestStone (F : RT) (P : RT) (K : RT) (G : RT) (T : RT) (N : RT) (L : RT) (x1 : Int32) (Q : Int32 → RT → RT → Prop) : Prop := (wX6_rangeFault  x1 (0 : Int32) (30 : Int32) (fun (r_1 : Int32) => (if r_1 = (0 : Int32) then (wX1_highestByStone G T P x1 (fun (r_4 : Int32) (T_3 : RT) => (Q r_4 F T_3))) else (wX6_refuse F r_1 (fun (r_6 : Int32) (F_5 : RT) => (Q r_6 F_5 T))))))
def wX6_rows (F : RT) (P : RT) (K : RT) (G : RT) (T : RT) (N : RT) (L : RT) (x1 : Int32) (Q : Int32 → RT → Prop) : Prop := (if (0 : Int32) ≤ x1 then (wX4_ranked P x1 (fun (r_2 : Int32) => (Q r_2 F))) else (wX6_refuse F (-4 : Int32) (fun (r_4 : Int32) (F_3 : RT) => (Q r_4 F_3))))
def wX6_between (F : RT) (P : RT) (K : RT) (G : RT) (T : RT) (N : RT) (L : RT) (x1 : Int32) (x2 : Int32) (Q : Int32 → RT → Prop) : Prop := (wX3_hasPair P x1 x2 (fun (r_1 : Int32) => (if r_1 = (0 : Int32) then (wX6_refuse F (-1 : Int32) (fun (r_5 : Int32) (F_4 : RT) => (Q r_5 F_4))) else (wX4_countInside P x1 x2 (fun (r_3 : Int32) => (Q r_3 F))))))
def wX6_balance (F : RT) (P : RT) (K : RT) (G : RT) (T : RT) (N : RT) (L : RT) (x1 : Int32) (Q : Int32 → RT → Prop) : Prop := (wX3_hasThing P x1 (fun (r_1 : Int32) => (if r_1 = (0 : Int32) then (wX6_refuse F (-1 : Int32) (fun (r_5 : Int32) (F_4 : RT) => (Q r_5 F_4))) else (wX4_counterweight P x1 (fun (r_3 : Int32) => (Q r_3 F))))))
def wX6_nearest (F : RT) (P : RT) (K : RT) (G : RT) (T : RT) (N : RT) (L : RT) (x1 : Int32) (Q : Int32 → RT → Prop) : Prop := (wX3_hasThing P x1 (fun (r_1 : Int32) => (if r_1 = (0 : Int32) then (wX6_refuse F (-1 : Int32) (fun (r_5 : Int32) (F_4 : RT) => (Q r_5 F_4))) else (wX4_mostAlike P x1 (fun (r_3 : Int32) => (Q r_3 F))))))
def bX6_sides_16 (P : RT) (K : RT) (G : RT) (T : RT) (N : RT) (L : RT) (Q : Int32 → RT → Prop) (F : RT) (x1 : Int32) : Prop := (wX4_firstSide P  (fun (r_1 : Int32) => (if x1 = (0 : Int32) then (Q r_1 F) else (if r_1 = (-9 : Int32) then (Q r_1 F) else (wX4_apart P r_1 (fun (r_4 : Int32) => (Q r_4 F)))))))
def wX6_sides (F : RT) (P : RT) (K : RT) (G : RT) (T : RT) (N : RT) (L : RT) (x1 : Int32) (Q : Int32 → RT → Prop) : Prop := (if x1 = (0 : Int32) then (bX6_sides_16 P K G T N L Q F x1) else (if x1 = (1 : Int32) then (bX6_sides_16 P K G T N L Q F x1) else (wX6_refuse F (-2 : Int32) (fun (r_4 : Int32) (F_3 : RT) => (Q r_4 F_3)))))
def wX6_chain (F : RT) (P : RT) (K : RT) (G : RT) (T : RT) (N : RT) (L : RT) (x1 : Int32) (Q : Int32 → RT → Prop) : Prop := (wX3_hasThing P x1 (fun (r_1 : Int32) => (if r_1 = (0 : Int32) then (wX6_refuse F (-1 : Int32) (fun (r_5 : Int32) (F_4 : RT) => (Q r_5 F_4))) else (wX2_hangingWith P x1 (fun (r_3 : Int32) => (Q r_3 F))))))
def wX6_chains (F : RT) (P : RT) (K : RT) (G : RT) (T : RT) (N : RT) (L : RT) (x1 : Int32) (Q : Int32 → RT → Prop) : Prop := (if x1 = (0 : Int32) then (wX2_pieces P  (fun (r_3 : Int32) => (Q r_3 F))) else (if x1 = (1 : Int32) then (wX2_greatestPiece P  (fun (r_5 : Int32) => (Q r_5 F))) else (if x1 = (2 : Int32) then (wX2_hasRing P  (fun (r_7 : Int32) => (if r_7 = (0 : Int32) then (Q (0 : Int32) F) else (Q (1 : Int32) F)))) else (wX6_refuse F (-2 : Int32) (fun (r_10 : Int32) (F_9 : RT) => (Q r_10 F_9))))))
def wX6_hauled (F : RT) (P : RT) (K : RT) (G : RT) (T : RT) (N : RT) (L : RT) (x1 : Int32) (x2 : Int32) (Q : Int32 → RT → Prop) : Prop := (wX3_hasPair P x1 x2 (fun (r_1 : Int32) => (if r_1 = (0 : Int32) then (wX6_refuse F (-1 : Int32) (fun (r_7 : Int32) (F_6 : RT) => (Q r_7 F_6))) else (wX2_heavierThan P x1 (fun (r_3 : Int32) => (wX6_hasBit  r_3 x2 (fun (r_4 : Int32) => (if r_4 = (0 : Int32) then (Q (0 : Int32) F) else (Q (1 : Int32) F)))))))))
def wX6_top (F : RT) (P : RT) (K : RT) (G : RT) (T : RT) (N : RT) (L : RT) (x1 : Int32) (Q : Int32 → RT → Prop) : Prop := (wX3_hasThing P x1 (fun (r_1 : Int32) => (if r_1 = (0 : Int32) then (wX6_refuse F (-1 : Int32) (fun (r_5 : Int32) (F_4 : RT) => (Q r_5 F_4))) else (wX2_heaviestAbove P x1 (fun (r_3 : Int32) => (Q r_3 F))))))
def wX6_odd (F : RT) (P : RT) (K : RT) (G : RT) (T : RT) (N : RT) (L : RT) (Q : Int32 → Prop) : Prop := (wX3_looseRopes P  (fun (r_1 : Int32) => (Q r_1)))
def wX6_meet (F : RT) (P : RT) (K : RT) (G : RT) (T : RT) (N : RT) (L : RT) (x1 : Int32) (x2 : Int32) (Q : Int32 → RT → RT → Prop) : Prop := (wX3_hasPair P x1 x2 (fun (r_1 : Int32) => (if r_1 = (0 : Int32) then (wX6_refuse F (-1 : Int32) (fun (r_6 : Int32) (F_5 : RT) => (Q r_6 F_5 T))) else (wX1_whenLevel G T P x1 x2 (fun (r_4 : Int32) (T_3 : RT) => (Q r_4 F T_3))))))
def wX6_two (F : RT) (P : RT) (K : RT) (G : RT) (T : RT) (N : RT) (L : RT) (x1 : Int32) (x2 : Int32) (x3 : Int32) (Q : Int32 → RT → RT → RT → Prop) : Prop := (wX3_hasPair P x1 x2 (fun (r_1 : Int32) => (if r_1 = (0 : Int32) then (wX6_refuse F (-1 : Int32) (fun (r_11 : Int32) (F_10 : RT) => (Q r_11 F_10 G T))) else (wX6_rangeFault  x3 (0 : Int32) (30 : Int32) (fun (r_3 : Int32) => (if r_3 = (0 : Int32) then (wX1_steadyPair G T P x1 x2 x3 (fun (r_7 : Int32) (G_5 : RT) (T_6 : RT) => (Q r_7 F G_5 T_6))) else (wX6_refuse F r_3 (fun (r_9 : Int32) (F_8 : RT) => (Q r_9 F_8 G T)))))))))
def wX6_wetFault (F : RT) (P : RT) (x1 : Int32) (x2 : Int32) (x3 : Int32) (x4 : Int32) (x5 : Int32) (Q : Int32 → Prop) : Prop := (wX3_hasRope P x1 (fun (r_1 : Int32) => (if r_1 = (0 : Int32) then (Q (-1 : Int32)) else (wX3_hasThing P x2 (fun (r_3 : Int32) => (if r_3 = (0 : Int32) then (Q (-1 : Int32)) else (if x3 < (0 : Int32) then (Q (-4 : Int32)) else (if x5 < (0 : Int32) then (Q (-4 : Int32)) else (if (2 : Int32) ≤ x4 then (if (7 : Int32) < x3 then (Q (-6 : Int32)) else (if (20 : Int32) < x4 then (Q (-6 : Int32)) else (if x5 ≤ (20 : Int32) then (Q (0 : Int32)) else (Q (-6 : Int32))))) else (Q (-4 : Int32)))))))))))
def wX6_refuseLong (F : RT) (x1 : Int32) (Q : Int64 → RT → Prop) : Prop := (wX6_refuse F x1 (fun (r_2 : Int32) (F_1 : RT) => (Q ((4000000000000000000 : Int64) - ((r_2).toInt64)) F_1)))
def bX6_wet_33 (P : RT) (K : RT) (G : RT) (N : RT) (L : RT) (Q : Int64 → RT → RT → Prop) (F : RT) (T : RT) (x1 : Int32) (x2 : Int32) (x3 : Int32) (x4 : Int32) (x5 : Int32) (x6 : Int32) (x7 : Int32) : Prop := (if x7 = (0 : Int32) then (wX1_wetCases G T P x1 x2 x3 x4 x5 (fun (r_3 : Int64) (T_2 : RT) => (wX6_power  ((x4).toInt64) x3 (fun (r_4 : Int64) => (wX6_inLeastTerms  r_3 r_4 x6 (fun (r_5 : Int64) => (Q r_5 F T_2))))))) else (wX6_refuseLong F x7 (fun (r_7 : Int64) (F_6 : RT) => (Q r_7 F_6 T))))
def wX6_wet (F : RT) (P : RT) (K : RT) (G : RT) (T : RT) (N : RT) (L : RT) (x1 : Int32) (x2 : Int32) (x3 : Int32) (x4 : Int32) (x5 : Int32) (x6 : Int32) (Q : Int64 → RT → RT → Prop) : Prop := (wX6_wetFault F P x1 x2 x3 x4 x5 (fun (r_1 : Int32) => (if r_1 = (0 : Int32) then (if x6 = (0 : Int32) then (bX6_wet_33 P K G N L Q F T x1 x2 x3 x4 x5 x6 r_1) else (if x6 = (1 : Int32) then (bX6_wet_33 P K G N L Q F T x1 x2 x3 x4 x5 x6 r_1) else (bX6_wet_33 P K G N L Q F T x1 x2 x3 x4 x5 x6 (-2 : Int32)))) else (bX6_wet_33 P K G N L Q F T x1 x2 x3 x4 x5 x6 r_1))))
def bX6_mean_16 (P : RT) (K : RT) (G : RT) (T : RT) (N : RT) (L : RT) (Q : Int64 → RT → Prop) (F : RT) (x1 : Int32) : Prop := (wX3_allHeights P  (fun (r_1 : Int32) => (wX6_inLeastTerms  ((r_1).toInt64) (((if (1 : Int32) < (P 30 7) then (P 30 7) else (1 : Int32))).toInt64) x1 (fun (r_2 : Int64) => (Q r_2 F)))))
def wX6_mean (F : RT) (P : RT) (K : RT) (G : RT) (T : RT) (N : RT) (L : RT) (x1 : Int32) (Q : Int64 → RT → Prop) : Prop := (if x1 = (0 : Int32) then (bX6_mean_16 P K G T N L Q F x1) else (if x1 = (1 : Int32) then (bX6_mean_16 P K G T N L Q F x1) else (wX6_refuseLong F (-2 : Int32) (fun (r_4 : Int64) (F_3 : RT) => (Q r_4 F_3)))))
def bX6_lots_58 (P : RT) (K : RT) (G : RT) (N : RT) (L : RT) (Q : Int32 → RT → RT → Prop) (F : RT) (T : RT) (t2 : Int32) (t3 : Int32) (t4 : Int32) : Prop := (wX1_byLot G T P t2 t3 t4 (fun (r_2 : Int32) (T_1 : RT) => (Q r_2 F T_1)))
def bX6_lots_27 (P : RT) (K : RT) (G : RT) (N : RT) (L : RT) (Q : Int32 → RT → RT → Prop) (F : RT) (T : RT) (x1 : Int32) (x2 : Int32) (x3 : Int32) (x4 : Int32) : Prop := (if x4 = (0 : Int32) then (if x3 = (0 : Int32) then (bX6_lots_58 P K G N L Q F T x1 x2 (1 : Int32)) else (bX6_lots_58 P K G N L Q F T x1 x2 (0 : Int32))) else (wX6_refuse F x4 (fun (r_4 : Int32) (F_3 : RT) => (Q r_4 F_3 T))))
def wX6_lots (F : RT) (P : RT) (K : RT) (G : RT) (T : RT) (N : RT) (L : RT) (x1 : Int32) (x2 : Int32) (x3 : Int32) (Q : Int32 → RT → RT → Prop) : Prop := (wX6_rangeFault  x1 (1 : Int32) (20 : Int32) (fun (r_1 : Int32) => (if r_1 = (0 : Int32) then (if x3 = (0 : Int32) then (bX6_lots_27 P K G N L Q F T x1 x2 x3 r_1) else (if x3 = (1 : Int32) then (bX6_lots_27 P K G N L Q F T x1 x2 x3 r_1) else (bX6_lots_27 P K G N L Q F T x1 x2 x3 (-2 : Int32)))) else (bX6_lots_27 P K G N L Q F T x1 x2 x3 r_1))))
def wX6_whatIs (F : RT) (P : RT) (K : RT) (G : RT) (T : RT) (N : RT) (L : RT) (x1 : Int32) (x2 : Int32) (Q : Int32 → RT → RT → Prop) : Prop := (wX3_hasThing P x1 (fun (r_1 : Int32) => (if r_1 = (0 : Int32) then (wX6_refuse F (-1 : Int32) (fun (r_13 : Int32) (F_12 : RT) => (Q r_13 F_12 T))) else (if x2 = (0 : Int32) then (wX1_kindsAsTold G T P N x1 (fun (r_6 : Int32) (T_5 : RT) => (Q r_6 F T_5))) else (if x2 = (1 : Int32) then (wX1_weightsAsTold G T P N x1 (fun (r_9 : Int32) (T_8 : RT) => (Q r_9 F T_8))) else (wX6_refuse F (-2 : Int32) (fun (r_11 : Int32) (F_10 : RT) => (Q r_11 F_10 T))))))))
def bX6_row_27 (P : RT) (K : RT) (G : RT) (T : RT) (L : RT) (Q : Int32 → RT → RT → Prop) (F : RT) (N : RT) (x1 : Int32) (x2 : Int32) : Prop := (if x2 = (0 : Int32) then (wX5_add N x1 (fun (r_3 : Int32) (N_2 : RT) => (Q r_3 F N_2))) else (wX6_refuse F x2 (fun (r_5 : Int32) (F_4 : RT) => (Q r_5 F_4 N))))
def wX6_row (F : RT) (P : RT) (K : RT) (G : RT) (T : RT) (N : RT) (L : RT) (x1 : Int32) (Q : Int32 → RT → RT → Prop) : Prop := (wX6_rangeFault  x1 (0 : Int32) (99 : Int32) (fun (r_1 : Int32) => (if r_1 = (0 : Int32) then (if (N 30 1) < (16 : Int32) then (bX6_row_27 P K G T L Q F N x1 r_1) else (bX6_row_27 P K G T L Q F N x1 (-6 : Int32))) else (bX6_row_27 P K G T L Q F N x1 r_1))))
def wX6_judge (F : RT) (P : RT) (K : RT) (G : RT) (T : RT) (N : RT) (L : RT) (Q : Int32 → RT → Prop) : Prop := (wX5_firstWrong N P  (fun (r_1 : Int32) => (∀ N_2 : RT, N_2 = set2 N 30 1 (0 : Int32) → (Q r_1 N_2))))
def wX6_clear (F : RT) (P : RT) (K : RT) (G : RT) (T : RT) (N : RT) (L : RT) (Q : Int32 → RT → Prop) : Prop := (∀ x1_1 : Int32, x1_1 = (N 30 1) → (∀ N_2 : RT, N_2 = set2 N 30 1 (0 : Int32) → (Q x1_1 N_2)))
def wX6_image (F : RT) (P : RT) (K : RT) (G : RT) (T : RT) (N : RT) (L : RT) (Q : Int32 → RT → RT → Prop) : Prop := (wX3_copyFrom K P  (fun (K_1 : RT) => (∀ F_2 : RT, F_2 = set2 F 30 2 (1 : Int32) → (Q (P 30 9) F_2 K_1))))
def wX6_on (F : RT) (P : RT) (K : RT) (G : RT) (T : RT) (N : RT) (L : RT) (Q : Int32 → RT → RT → Prop) : Prop := (if (F 30 2) = (0 : Int32) then (wX6_refuse F (-3 : Int32) (fun (r_4 : Int32) (F_3 : RT) => (Q r_4 F_3 P))) else (wX3_copyFrom P K  (fun (P_2 : RT) => (Q (P_2 30 9) F P_2))))
def wX6_count (F : RT) (P : RT) (K : RT) (G : RT) (T : RT) (N : RT) (L : RT) (x1 : Int32) (Q : Int32 → Prop) : Prop := (if x1 = (0 : Int32) then (Q (P 30 7)) else (if x1 = (1 : Int32) then (Q (P 30 8)) else (if x1 = (2 : Int32) then (Q (P 30 9)) else (if x1 = (3 : Int32) then (wX3_allHeights P  (fun (r_6 : Int32) => (Q r_6))) else (if x1 = (4 : Int32) then (wX3_allStones P  (fun (r_8 : Int32) => (Q r_8))) else (if x1 = (5 : Int32) then (wX3_allHeft P  (fun (r_10 : Int32) => (Q r_10))) else (if x1 = (6 : Int32) then (Q (N 30 1)) else (if x1 = (7 : Int32) then (Q (L 30 1)) else (if x1 ≤ (10 : Int32) then (Q (-9 : Int32)) else (if (16 : Int32) < x1 then (Q (-9 : Int32)) else (vp_in (x1 - (10 : Int32)) 7 ∧ (Q (F 6 ((x1 - (10 : Int32))).toNatClampNeg)))))))))))))
abbrev rmX6_refuse : Room := { frames := 0, cells := 0, slots := 0, locals := 0 }
set_option maxHeartbeats 4000000 in
set_option maxRecDepth 100000 in
theorem m_X6_refuse (l : Launch) (z : KT) (qX : Nat → Nat) (qL : Nat → Nat) (qN : Nat → Nat) (qG : Nat → Nat) (qP : Nat → Nat) (qK : Nat → Nat) (F : RT) (x1 : Int32) (Q : Int32 → RT → Prop) (h : wX6_refuse F x1 Q) : CI l yX6_refuse cX6_refuse 2 .int rmX6_refuse z [.ref (qX 0), .int x1] (fW z qX qP qK qN qL qG F) (fun u : RT => (fW z qX qP qK qN qL qG u)) (fun (r : Int32) (u : RT) => Q r u) := by
  refine CI.of rfl (Nat.le_of_ble_eq_true rfl) ?_
  intro p e s m below meth c A ls M hw hl
  have M : Mc p s m _ meth c cX6_refuse 2 (some .int) RX6 z A := M
  obtain ⟨hx, hb, -, -, hown, hts, -, -, -, hN, hsr, -⟩ := id M
  have hl : lv_has ls 2 [(0, .ref (qX 0)), (1, .int x1)] := hl
  unfold wX6_refuse at h
  generalize s.heap = H at hw ⊢
  generalize ([] : List Loc) = locs at hw ⊢
  refine lv_aload_n hx hb dX6_refuse_0 rfl (lv_at hl 0 rfl) ?_
  refine gt_f (v := .ref (qX 7)) M inlX6 hw 0 rfl rfl 6 (by decide) fl_X6_44 rfl rfl dX6_refuse_1 ?_
  refine lv_iload_n hx hb dX6_refuse_4 rfl (lv_at hl 1 rfl) ?_
  refine lv_ineg hx hb dX6_refuse_5 ?_
  refine lv_dup2_11 hx hb dX6_refuse_6 rfl rfl ?_
  obtain ⟨a_1, h⟩ := h
  refine ld_i M hw 1 rfl a_1 dX6_refuse_7 ?_
  refine lv_iconst (v := 1) hx hb dX6_refuse_8 (by decide) ?_
  refine lv_iadd hx hb dX6_refuse_9 ?_
  refine st_i (P := F) (r := 6) (wN := fun F_2 => (fW z qX qP qK qN qL qG F_2)) M hw 1 rfl rfl a_1 dX6_refuse_10 (fun F_2 H locs eF_2 hw => ?_)
  replace h := h F_2 eF_2
  refine lv_iload_n hx hb dX6_refuse_11 rfl (lv_at hl 1 rfl) ?_
  exact rt_i M F_2 hw h dX6_refuse_12
abbrev rmX6_letter : Room := { frames := 1, cells := 0, slots := 0, locals := 22 }
set_option maxHeartbeats 4000000 in
set_option maxRecDepth 100000 in
theorem kX6_letter_28 {p : Program} {l : Launch} {e : Env} {s : State} {m : MethodId} {args : Array Value} {below : List Frame} {meth : Method} {c : Code} {z : KT} {A : Nat → Prop} {qX : Nat → Nat} {qL : Nat → Nat} {qN : Nat → Nat} {qG : Nat → Nat} {qP : Nat → Nat} {qK : Nat → Nat} {qT : Nat → Nat} {P : RT} {K : RT} {G : RT} {T : RT} {N : RT} {Q : Int32 → RT → RT → Prop} (M : Mc p s m args meth c cX6_letter 3 (some .int) RX6 z A) : ∀ (F : RT) (L : RT) (x1 : Int32) (x2 : Int32) (H : Heap) (locs : List Loc) (ls : Array Slot), Hw s z A (fW z qX qP qK qN qL qG F ++ (pW z qP P ++ (pW z qK K ++ (mW z qG qT G ++ (pW z qT T ++ (nW z qN N ++ (lW z qL L))))))) H locs → lv_has ls 3 [(0, .ref (qX 0)), (1, .int x1), (2, .int x2)] → bX6_letter_28 P K G T N Q F L x1 x2 → W p l e rmX6_letter s m args below meth c H locs 0 0 (MQ below (va_Qi (fun (r : Int32) (u : RT × RT) => Q r u.1 u.2) (fun u t => cAt z A ((fun u : RT × RT => (fW z qX qP qK qN qL qG u.1 ++ (pW z qP P ++ (pW z qK K ++ (mW z qG qT G ++ (pW z qT T ++ (nW z qN N ++ (lW z qL u.2)))))))) u) t) A) args s 0 0 A) (F0 m 28 ls []) := by
  obtain ⟨hx, hb, -, -, hown, hts, -, -, -, hN, hsr, -⟩ := id M
  intro F L x1 x2 H locs ls hw hl h
  unfold bX6_letter_28 at h
  refine lv_iload_n hx hb dX6_letter_28 rfl (lv_at hl 2 rfl) ?_
  refine lv_if_eq (tgt := 38) hx hb dX6_letter_29 (by decide) (fun c_1 => ?_) (fun c_1 => ?_)
  · replace h := iT c_1 h
    refine lv_aload_n hx hb dX6_letter_38 rfl (lv_at hl 0 rfl) ?_
    refine gt_f (v := .ref (qL 0)) M inlX6 hw 0 rfl rfl 4 (by decide) fl_X6_33 rfl rfl dX6_letter_39 ?_
    refine lv_iload_n hx hb dX6_letter_42 rfl (lv_at hl 1 rfl) ?_
    refine fr_Vi (wN := fun u : RT => (fW z qX qP qK qN qL qG F ++ (pW z qP P ++ (pW z qK K ++ (mW z qG qT G ++ (pW z qT T ++ (nW z qN N ++ (lW z qL u)))))))) M (m_X0_add l z qL L x1 _ h) (cwV 1 hts (gdV cd_X0_add ml_X6_60 im_X0_add se_X0_add in_X0) rfl rfl rfl hdV_X0_add ⟨(Nat.le_of_ble_eq_true rfl), (Nat.le_of_ble_eq_true rfl)⟩) cut_11 prm_11 0 rfl rfl rfl hw rfl hl.1 rfl (Nat.le_of_ble_eq_true rfl) dX6_letter_43 (fun r_3 u_ H locs h hw => ?_)
    obtain ⟨L_2, rfl⟩ : ∃ z9 : RT, z9 = u_ := ⟨_, rfl⟩
    have hw : Hw s z A (fW z qX qP qK qN qL qG F ++ (pW z qP P ++ (pW z qK K ++ (mW z qG qT G ++ (pW z qT T ++ (nW z qN N ++ (lW z qL L_2))))))) H locs := hw
    try dsimp only at h
    exact rt_i M (F, L_2) hw h dX6_letter_46
  · replace h := iF c_1 h
    refine lv_aload_n hx hb dX6_letter_32 rfl (lv_at hl 0 rfl) ?_
    refine lv_iload_n hx hb dX6_letter_33 rfl (lv_at hl 2 rfl) ?_
    refine fr_Vi (wN := fun u : RT => (fW z qX qP qK qN qL qG u ++ (pW z qP P ++ (pW z qK K ++ (mW z qG qT G ++ (pW z qT T ++ (nW z qN N ++ (lW z qL L)))))))) M (m_X6_refuse l z qX qL qN qG qP qK F x2 _ h) (cwV 1 hts (gdV cd_X6_refuse ml_X6_56 im_X6_refuse se_X6_refuse in_X6) rfl rfl rfl hdV_X6_refuse ⟨(Nat.le_of_ble_eq_true rfl), (Nat.le_of_ble_eq_true rfl)⟩) cut_12 prm_12 0 rfl rfl rfl hw rfl hl.1 rfl (Nat.le_of_ble_eq_true rfl) dX6_letter_34 (fun r_5 u_ H locs h hw => ?_)
    obtain ⟨F_4, rfl⟩ : ∃ z9 : RT, z9 = u_ := ⟨_, rfl⟩
    have hw : Hw s z A (fW z qX qP qK qN qL qG F_4 ++ (pW z qP P ++ (pW z qK K ++ (mW z qG qT G ++ (pW z qT T ++ (nW z qN N ++ (lW z qL L))))))) H locs := hw
    try dsimp only at h
    exact rt_i M (F_4, L) hw h dX6_letter_37
set_option maxHeartbeats 4000000 in
set_option maxRecDepth 100000 in
theorem m_X6_letter (l : Launch) (z : KT) (qX : Nat → Nat) (qL : Nat → Nat) (qN : Nat → Nat) (qG : Nat → Nat) (qP : Nat → Nat) (qK : Nat → Nat) (qT : Nat → Nat) (F : RT) (P : RT) (K : RT) (G : RT) (T : RT) (N : RT) (L : RT) (x1 : Int32) (Q : Int32 → RT → RT → Prop) (h : wX6_letter F P K G T N L x1 Q) : CI l yX6_letter cX6_letter 3 .int rmX6_letter z [.ref (qX 0), .int x1] (fW z qX qP qK qN qL qG F ++ (pW z qP P ++ (pW z qK K ++ (mW z qG qT G ++ (pW z qT T ++ (nW z qN N ++ (lW z qL L))))))) (fun u : RT × RT => (fW z qX qP qK qN qL qG u.1 ++ (pW z qP P ++ (pW z qK K ++ (mW z qG qT G ++ (pW z qT T ++ (nW z qN N ++ (lW z qL u.2)))))))) (fun (r : Int32) (u : RT × RT) => Q r u.1 u.2) := by
  refine CI.of rfl (Nat.le_of_ble_eq_true rfl) ?_
  intro p e s m below meth c A ls M hw hl
  have M : Mc p s m _ meth c cX6_letter 3 (some .int) RX6 z A := M
  obtain ⟨hx, hb, -, -, hown, hts, -, -, -, hN, hsr, -⟩ := id M
  have hl : lv_has ls 3 [(0, .ref (qX 0)), (1, .int x1)] := hl
  unfold wX6_letter at h
  generalize s.heap = H at hw ⊢
  generalize ([] : List Loc) = locs at hw ⊢
  refine lv_iload_n hx hb dX6_letter_0 rfl (lv_at hl 1 rfl) ?_
  refine lv_iconst (v := 0) hx hb dX6_letter_1 (by decide) ?_
  refine lv_sipush (v := 255) hx hb dX6_letter_2 (by decide) ?_
  refine fr_Si (wN := fun _ : Unit => (fW z qX qP qK qN qL qG F ++ (pW z qP P ++ (pW z qK K ++ (mW z qG qT G ++ (pW z qT T ++ (nW z qN N ++ (lW z qL L)))))))) M (m_X6_rangeFault l z x1 (0 : Int32) (255 : Int32) _ h) (va_cwS 3 hts (gdS cd_X6_rangeFault ml_X6_48 st_X6_rangeFault in_X6) rfl rfl rfl hdS_X6_rangeFault ⟨(Nat.le_of_ble_eq_true rfl), (Nat.le_of_ble_eq_true rfl)⟩) (Cut.none _) (Prm.none _) hw rfl hl.1 rfl (Nat.le_of_ble_eq_true rfl) dX6_letter_5 (fun r_1 u_ H locs h hw => ?_)
  have hw : Hw s z A (fW z qX qP qK qN qL qG F ++ (pW z qP P ++ (pW z qK K ++ (mW z qG qT G ++ (pW z qT T ++ (nW z qN N ++ (lW z qL L))))))) H locs := hw
  try dsimp only at h
  refine lv_istore_n (lv' := [(2, .int r_1), (0, .ref (qX 0)), (1, .int x1)]) hx hb dX6_letter_8 rfl hl (by decide) rfl (fun ls hl => ?_)
  refine lv_iload_n hx hb dX6_letter_9 rfl (lv_at hl 0 rfl) ?_
  refine lv_if_ne (tgt := 28) hx hb dX6_letter_10 (by decide) (fun c_2 => ?_) (fun c_2 => ?_)
  · replace h := iF c_2 h
    exact kX6_letter_28 M F L x1 r_1 H locs ls hw (lv_sub hl [1, 2, 0] rfl) h
  · replace h := iT c_2 h
    refine lv_aload_n hx hb dX6_letter_13 rfl (lv_at hl 1 rfl) ?_
    refine gt_f (v := .ref (qL 0)) M inlX6 hw 0 rfl rfl 4 (by decide) fl_X6_33 rfl rfl dX6_letter_14 ?_
    refine gt_f (v := .int (L 30 1)) M inlX0 hw 31 rfl rfl 1 (by decide) fl_X6_52 rfl rfl dX6_letter_17 ?_
    refine lv_bipush (v := 96) hx hb dX6_letter_20 (by decide) ?_
    refine lv_icmp_lt (tgt := 28) hx hb dX6_letter_22 (by decide) (fun c_3 => ?_) (fun c_3 => ?_)
    · replace h := iT c_3 h
      exact kX6_letter_28 M F L x1 r_1 H locs ls hw (lv_sub hl [1, 2, 0] rfl) h
    · replace h := iF c_3 h
      refine lv_bipush (v := -6) hx hb dX6_letter_25 (by decide) ?_
      refine lv_istore_n (lv' := [(2, .int (-6 : Int32)), (0, .ref (qX 0)), (1, .int x1)]) hx hb dX6_letter_27 rfl hl (by decide) rfl (fun ls hl => ?_)
      exact kX6_letter_28 M F L x1 (-6 : Int32) H locs ls hw (lv_sub hl [1, 2, 0] rfl) h
abbrev rmX6_port : Room := { frames := 8, cells := 0, slots := 0, locals := 176 }
set_option maxHeartbeats 4000000 in
set_option maxRecDepth 100000 in
theorem m_X6_port (l : Launch) (z : KT) (qX : Nat → Nat) (qL : Nat → Nat) (qN : Nat → Nat) (qG : Nat → Nat) (qP : Nat → Nat) (qK : Nat → Nat) (qT : Nat → Nat) (F : RT) (P : RT) (K : RT) (G : RT) (T : RT) (N : RT) (L : RT) (Q : Int32 → RT → RT → RT → Prop) (h : wX6_port F P K G T N L Q) : CI l yX6_port cX6_port 3 .int rmX6_port z [.ref (qX 0)] (fW z qX qP qK qN qL qG F ++ (pW z qP P ++ (pW z qK K ++ (mW z qG qT G ++ (pW z qT T ++ (nW z qN N ++ (lW z qL L))))))) (fun u : RT × RT × RT => (fW z qX qP qK qN qL qG F ++ (pW z qP u.1 ++ (pW z qK K ++ (mW z qG qT G ++ (pW z qT u.2.1 ++ (nW z qN N ++ (lW z qL u.2.2)))))))) (fun (r : Int32) (u : RT × RT × RT) => Q r u.1 u.2.1 u.2.2) := by
  refine CI.of rfl (Nat.le_of_ble_eq_true rfl) ?_
  intro p e s m below meth c A ls M hw hl
  have M : Mc p s m _ meth c cX6_port 3 (some .int) RX6 z A := M
  obtain ⟨hx, hb, -, -, hown, hts, -, -, -, hN, hsr, -⟩ := id M
  have hl : lv_has ls 3 [(0, .ref (qX 0))] := hl
  unfold wX6_port at h
  generalize s.heap = H at hw ⊢
  generalize ([] : List Loc) = locs at hw ⊢
  refine lv_aload_n hx hb dX6_port_0 rfl (lv_at hl 0 rfl) ?_
  refine gt_f (v := .ref (qG 0)) M inlX6 hw 0 rfl rfl 5 (by decide) fl_X6_40 rfl rfl dX6_port_1 ?_
  refine lv_aload_n hx hb dX6_port_4 rfl (lv_at hl 0 rfl) ?_
  refine gt_f (v := .ref (qP 0)) M inlX6 hw 0 rfl rfl 0 (by decide) fl_X6_10 rfl rfl dX6_port_5 ?_
  refine fr_Vr (wN := fun u : RT => (fW z qX qP qK qN qL qG F ++ (pW z qP P ++ (pW z qK K ++ (mW z qG qT G ++ (pW z qT u ++ (nW z qN N ++ (lW z qL L)))))))) M (m_X1_begin l z qG qP qT G T P _ h) (cwV 1 hts (gdV cd_X1_begin ml_X6_63 im_X1_begin se_X1_begin in_X1) rfl rfl rfl hdV_X1_begin ⟨(Nat.le_of_ble_eq_true rfl), (Nat.le_of_ble_eq_true rfl)⟩) cut_13 prm_13 0 rfl rfl rfl hw rfl hl.1 rfl (Nat.le_of_ble_eq_true rfl) dX6_port_8 (fun ra_ u_ H locs h hw => ?_)
  obtain ⟨T_1, rfl⟩ : ∃ z9 : RT, z9 = u_ := ⟨_, rfl⟩
  obtain ⟨rfl, h⟩ := h
  have hw : Hw s z A (fW z qX qP qK qN qL qG F ++ (pW z qP P ++ (pW z qK K ++ (mW z qG qT G ++ (pW z qT T_1 ++ (nW z qN N ++ (lW z qL L))))))) H locs := hw
  try dsimp only at h
  refine lv_astore_n (lv' := [(1, .ref (qT 0)), (0, .ref (qX 0))]) hx hb dX6_port_11 rfl hl (by decide) rfl (fun ls hl => ?_)
  refine lv_aload_n hx hb dX6_port_12 rfl (lv_at hl 1 rfl) ?_
  refine gt_f (v := .ref (qL 0)) M inlX6 hw 0 rfl rfl 4 (by decide) fl_X6_33 rfl rfl dX6_port_13 ?_
  refine lv_aload_n hx hb dX6_port_16 rfl (lv_at hl 0 rfl) ?_
  refine fr_Vi (wN := fun u : RT => (fW z qX qP qK qN qL qG F ++ (pW z qP P ++ (pW z qK K ++ (mW z qG qT G ++ (pW z qT u ++ (nW z qN N ++ (lW z qL L)))))))) M (m_X0_tellTo l z qL qT L T_1 _ h) (cwV 1 hts (gdV cd_X0_tellTo ml_X6_67 im_X0_tellTo se_X0_tellTo in_X0) rfl rfl rfl hdV_X0_tellTo ⟨(Nat.le_of_ble_eq_true rfl), (Nat.le_of_ble_eq_true rfl)⟩) cut_14 prm_14 0 rfl rfl rfl hw rfl hl.1 rfl (Nat.le_of_ble_eq_true rfl) dX6_port_17 (fun r_3 u_ H locs h hw => ?_)
  obtain ⟨T_2, rfl⟩ : ∃ z9 : RT, z9 = u_ := ⟨_, rfl⟩
  have hw : Hw s z A (fW z qX qP qK qN qL qG F ++ (pW z qP P ++ (pW z qK K ++ (mW z qG qT G ++ (pW z qT T_2 ++ (nW z qN N ++ (lW z qL L))))))) H locs := hw
  try dsimp only at h
  refine lv_istore_n (lv' := [(2, .int r_3), (1, .ref (qT 0)), (0, .ref (qX 0))]) hx hb dX6_port_20 rfl hl (by decide) rfl (fun ls hl => ?_)
  refine lv_aload_n hx hb dX6_port_21 rfl (lv_at hl 2 rfl) ?_
  refine gt_f (v := .ref (qL 0)) M inlX6 hw 0 rfl rfl 4 (by decide) fl_X6_33 rfl rfl dX6_port_22 ?_
  refine lv_iconst (v := 0) hx hb dX6_port_25 (by decide) ?_
  refine st_f (P := L) (r := 30) (j := 1) (wN := fun L_4 => (fW z qX qP qK qN qL qG F ++ (pW z qP P ++ (pW z qK K ++ (mW z qG qT G ++ (pW z qT T_2 ++ (nW z qN N ++ (lW z qL L_4)))))))) M inlX0 tyX0_ok nmX0 hw 31 rfl rfl 1 (by decide) fl_X6_52 rfl rfl rfl rfl rfl (Nat.le_of_ble_eq_true rfl) rfl dX6_port_26 (fun L_4 H locs eL_4 hw => ?_)
  replace h := h L_4 eL_4
  refine lv_iload_n hx hb dX6_port_29 rfl (lv_at hl 0 rfl) ?_
  refine lv_if_lt (tgt := 41) hx hb dX6_port_30 (by decide) (fun c_5 => ?_) (fun c_5 => ?_)
  · replace h := iT c_5 h
    refine lv_iload_n hx hb dX6_port_41 rfl (lv_at hl 0 rfl) ?_
    exact rt_i M (P, T_2, L_4) hw h dX6_port_42
  · replace h := iF c_5 h
    refine lv_aload_n hx hb dX6_port_33 rfl (lv_at hl 2 rfl) ?_
    refine gt_f (v := .ref (qP 0)) M inlX6 hw 0 rfl rfl 0 (by decide) fl_X6_10 rfl rfl dX6_port_34 ?_
    refine lv_aload_n hx hb dX6_port_37 rfl (lv_at hl 1 rfl) ?_
    refine fr_Vv (wN := fun u : RT => (fW z qX qP qK qN qL qG F ++ (pW z qP u ++ (pW z qK K ++ (mW z qG qT G ++ (pW z qT T_2 ++ (nW z qN N ++ (lW z qL L_4)))))))) M (m_X3_copyFrom l z qP qT P T_2 _ h) (cwV 1 hts (gdV cd_X3_copyFrom ml_X6_71 im_X3_copyFrom se_X3_copyFrom in_X3) rfl rfl rfl hdV_X3_copyFrom ⟨(Nat.le_of_ble_eq_true rfl), (Nat.le_of_ble_eq_true rfl)⟩) cut_15 prm_15 0 rfl rfl rfl hw rfl hl.1 rfl (Nat.le_of_ble_eq_true rfl) dX6_port_38 (fun u_ H locs h hw => ?_)
    obtain ⟨P_6, rfl⟩ : ∃ z9 : RT, z9 = u_ := ⟨_, rfl⟩
    have hw : Hw s z A (fW z qX qP qK qN qL qG F ++ (pW z qP P_6 ++ (pW z qK K ++ (mW z qG qT G ++ (pW z qT T_2 ++ (nW z qN N ++ (lW z qL L_4))))))) H locs := hw
    try dsimp only at h
    refine lv_iload_n hx hb dX6_port_41 rfl (lv_at hl 0 rfl) ?_
    exact rt_i M (P_6, T_2, L_4) hw h dX6_port_42
abbrev rmX6_thing : Room := { frames := 1, cells := 0, slots := 0, locals := 26 }
set_option maxHeartbeats 4000000 in
set_option maxRecDepth 100000 in
theorem m_X6_thing (l : Launch) (z : KT) (qX : Nat → Nat) (qL : Nat → Nat) (qN : Nat → Nat) (qG : Nat → Nat) (qP : Nat → Nat) (qK : Nat → Nat) (qT : Nat → Nat) (F : RT) (P : RT) (K : RT) (G : RT) (T : RT) (N : RT) (L : RT) (x1 : Int32) (x2 : Int32) (Q : Int32 → RT → Prop) (h : wX6_thing F P K G T N L x1 x2 Q) : CI l yX6_thing cX6_thing 3 .int rmX6_thing z [.ref (qX 0), .int x1, .int x2] (fW z qX qP qK qN qL qG F ++ (pW z qP P ++ (pW z qK K ++ (mW z qG qT G ++ (pW z qT T ++ (nW z qN N ++ (lW z qL L))))))) (fun u : RT => (fW z qX qP qK qN qL qG u ++ (pW z qP P ++ (pW z qK K ++ (mW z qG qT G ++ (pW z qT T ++ (nW z qN N ++ (lW z qL L)))))))) (fun (r : Int32) (u : RT) => Q r u) := by
  refine CI.of rfl (Nat.le_of_ble_eq_true rfl) ?_
  intro p e s m below meth c A ls M hw hl
  have M : Mc p s m _ meth c cX6_thing 3 (some .int) RX6 z A := M
  obtain ⟨hx, hb, -, -, hown, hts, -, -, -, hN, hsr, -⟩ := id M
  have hl : lv_has ls 3 [(0, .ref (qX 0)), (1, .int x1), (2, .int x2)] := hl
  unfold wX6_thing at h
  generalize s.heap = H at hw ⊢
  generalize ([] : List Loc) = locs at hw ⊢
  refine lv_aload_n hx hb dX6_thing_0 rfl (lv_at hl 0 rfl) ?_
  refine gt_f (v := .ref (qP 0)) M inlX6 hw 0 rfl rfl 0 (by decide) fl_X6_10 rfl rfl dX6_thing_1 ?_
  refine lv_iload_n hx hb dX6_thing_4 rfl (lv_at hl 1 rfl) ?_
  refine fr_Vi (wN := fun _ : Unit => (fW z qX qP qK qN qL qG F ++ (pW z qP P ++ (pW z qK K ++ (mW z qG qT G ++ (pW z qT T ++ (nW z qN N ++ (lW z qL L)))))))) M (m_X3_hasThing l z qP P x1 _ h) (cwV 1 hts (gdV cd_X3_hasThing ml_X6_75 im_X3_hasThing se_X3_hasThing in_X3) rfl rfl rfl hdV_X3_hasThing ⟨(Nat.le_of_ble_eq_true rfl), (Nat.le_of_ble_eq_true rfl)⟩) cut_16 prm_16 0 rfl rfl rfl hw rfl hl.1 rfl (Nat.le_of_ble_eq_true rfl) dX6_thing_5 (fun r_1 u_ H locs h hw => ?_)
  have hw : Hw s z A (fW z qX qP qK qN qL qG F ++ (pW z qP P ++ (pW z qK K ++ (mW z qG qT G ++ (pW z qT T ++ (nW z qN N ++ (lW z qL L))))))) H locs := hw
  try dsimp only at h
  refine lv_if_ne (tgt := 17) hx hb dX6_thing_8 (by decide) (fun c_2 => ?_) (fun c_2 => ?_)
  · replace h := iF c_2 h
    refine lv_iload_n hx hb dX6_thing_17 rfl (lv_at hl 2 rfl) ?_
    by_cases c_4 : x2 = (0 : Int32)
    · replace h := iT c_4 h
      refine lv_tableIn (tgt := 56) hx hb dX6_thing_18 (by rw [c_4]; decide) (by rw [c_4]; decide) (by rw [c_4]; rfl) (by decide) ?_
      refine lv_aload_n hx hb dX6_thing_56 rfl (lv_at hl 0 rfl) ?_
      refine gt_f (v := .ref (qP 0)) M inlX6 hw 0 rfl rfl 0 (by decide) fl_X6_10 rfl rfl dX6_thing_57 ?_
      refine gt_f (v := .ref (qP 1)) M inlX3 hw 2 rfl rfl 0 (by decide) fl_X6_79 rfl rfl dX6_thing_60 ?_
      refine lv_iload_n hx hb dX6_thing_63 rfl (lv_at hl 1 rfl) ?_
      obtain ⟨a_5, h⟩ := h
      refine ld_i M hw 3 rfl a_5 dX6_thing_64 ?_
      exact rt_i M F hw h dX6_thing_65
    replace h := iF c_4 h
    by_cases c_6 : x2 = (1 : Int32)
    · replace h := iT c_6 h
      refine lv_tableIn (tgt := 66) hx hb dX6_thing_18 (by rw [c_6]; decide) (by rw [c_6]; decide) (by rw [c_6]; rfl) (by decide) ?_
      refine lv_aload_n hx hb dX6_thing_66 rfl (lv_at hl 0 rfl) ?_
      refine gt_f (v := .ref (qP 0)) M inlX6 hw 0 rfl rfl 0 (by decide) fl_X6_10 rfl rfl dX6_thing_67 ?_
      refine gt_f (v := .ref (qP 2)) M inlX3 hw 2 rfl rfl 1 (by decide) fl_X6_82 rfl rfl dX6_thing_70 ?_
      refine lv_iload_n hx hb dX6_thing_73 rfl (lv_at hl 1 rfl) ?_
      obtain ⟨a_7, h⟩ := h
      refine ld_i M hw 4 rfl a_7 dX6_thing_74 ?_
      exact rt_i M F hw h dX6_thing_75
    replace h := iF c_6 h
    by_cases c_8 : x2 = (2 : Int32)
    · replace h := iT c_8 h
      refine lv_tableIn (tgt := 76) hx hb dX6_thing_18 (by rw [c_8]; decide) (by rw [c_8]; decide) (by rw [c_8]; rfl) (by decide) ?_
      refine lv_aload_n hx hb dX6_thing_76 rfl (lv_at hl 0 rfl) ?_
      refine gt_f (v := .ref (qP 0)) M inlX6 hw 0 rfl rfl 0 (by decide) fl_X6_10 rfl rfl dX6_thing_77 ?_
      refine gt_f (v := .ref (qP 3)) M inlX3 hw 2 rfl rfl 2 (by decide) fl_X6_85 rfl rfl dX6_thing_80 ?_
      refine lv_iload_n hx hb dX6_thing_83 rfl (lv_at hl 1 rfl) ?_
      obtain ⟨a_9, h⟩ := h
      refine ld_i M hw 5 rfl a_9 dX6_thing_84 ?_
      exact rt_i M F hw h dX6_thing_85
    replace h := iF c_8 h
    by_cases c_10 : x2 = (3 : Int32)
    · replace h := iT c_10 h
      refine lv_tableIn (tgt := 86) hx hb dX6_thing_18 (by rw [c_10]; decide) (by rw [c_10]; decide) (by rw [c_10]; rfl) (by decide) ?_
      refine lv_aload_n hx hb dX6_thing_86 rfl (lv_at hl 0 rfl) ?_
      refine gt_f (v := .ref (qP 0)) M inlX6 hw 0 rfl rfl 0 (by decide) fl_X6_10 rfl rfl dX6_thing_87 ?_
      refine gt_f (v := .ref (qP 4)) M inlX3 hw 2 rfl rfl 3 (by decide) fl_X6_88 rfl rfl dX6_thing_90 ?_
      refine lv_iload_n hx hb dX6_thing_93 rfl (lv_at hl 1 rfl) ?_
      obtain ⟨a_11, h⟩ := h
      refine ld_i M hw 6 rfl a_11 dX6_thing_94 ?_
      exact rt_i M F hw h dX6_thing_95
    replace h := iF c_10 h
    by_cases c_12 : x2 = (4 : Int32)
    · replace h := iT c_12 h
      refine lv_tableIn (tgt := 96) hx hb dX6_thing_18 (by rw [c_12]; decide) (by rw [c_12]; decide) (by rw [c_12]; rfl) (by decide) ?_
      refine lv_aload_n hx hb dX6_thing_96 rfl (lv_at hl 0 rfl) ?_
      refine gt_f (v := .ref (qP 0)) M inlX6 hw 0 rfl rfl 0 (by decide) fl_X6_10 rfl rfl dX6_thing_97 ?_
      refine gt_f (v := .ref (qP 5)) M inlX3 hw 2 rfl rfl 4 (by decide) fl_X6_91 rfl rfl dX6_thing_100 ?_
      refine lv_iload_n hx hb dX6_thing_103 rfl (lv_at hl 1 rfl) ?_
      obtain ⟨a_13, h⟩ := h
      refine ld_i M hw 7 rfl a_13 dX6_thing_104 ?_
      exact rt_i M F hw h dX6_thing_105
    replace h := iF c_12 h
    by_cases c_14 : x2 = (5 : Int32)
    · replace h := iT c_14 h
      refine lv_tableIn (tgt := 106) hx hb dX6_thing_18 (by rw [c_14]; decide) (by rw [c_14]; decide) (by rw [c_14]; rfl) (by decide) ?_
      refine lv_aload_n hx hb dX6_thing_106 rfl (lv_at hl 0 rfl) ?_
      refine gt_f (v := .ref (qP 0)) M inlX6 hw 0 rfl rfl 0 (by decide) fl_X6_10 rfl rfl dX6_thing_107 ?_
      refine lv_iload_n hx hb dX6_thing_110 rfl (lv_at hl 1 rfl) ?_
      refine fr_Vi (wN := fun _ : Unit => (fW z qX qP qK qN qL qG F ++ (pW z qP P ++ (pW z qK K ++ (mW z qG qT G ++ (pW z qT T ++ (nW z qN N ++ (lW z qL L)))))))) M (m_X3_heftOf l z qP P x1 _ h) (cwV 1 hts (gdV cd_X3_heftOf ml_X6_94 im_X3_heftOf se_X3_heftOf in_X3) rfl rfl rfl hdV_X3_heftOf ⟨(Nat.le_of_ble_eq_true rfl), (Nat.le_of_ble_eq_true rfl)⟩) cut_16 prm_16 0 rfl rfl rfl hw rfl hl.1 rfl (Nat.le_of_ble_eq_true rfl) dX6_thing_111 (fun r_15 u_ H locs h hw => ?_)
      have hw : Hw s z A (fW z qX qP qK qN qL qG F ++ (pW z qP P ++ (pW z qK K ++ (mW z qG qT G ++ (pW z qT T ++ (nW z qN N ++ (lW z qL L))))))) H locs := hw
      try dsimp only at h
      exact rt_i M F hw h dX6_thing_114
    replace h := iF c_14 h
    refine lv_tableOut (tgt := 115) hx hb dX6_thing_18 (by have q0 := lv_neT (a := 0) c_4 (by decide); have q1 := lv_neT (a := 1) c_6 (by decide); have q2 := lv_neT (a := 2) c_8 (by decide); have q3 := lv_neT (a := 3) c_10 (by decide); have q4 := lv_neT (a := 4) c_12 (by decide); have q5 := lv_neT (a := 5) c_14 (by decide); omega) (by decide) ?_
    refine lv_aload_n hx hb dX6_thing_115 rfl (lv_at hl 0 rfl) ?_
    refine lv_bipush (v := -2) hx hb dX6_thing_116 (by decide) ?_
    refine fr_Vi (wN := fun u : RT => (fW z qX qP qK qN qL qG u ++ (pW z qP P ++ (pW z qK K ++ (mW z qG qT G ++ (pW z qT T ++ (nW z qN N ++ (lW z qL L)))))))) M (m_X6_refuse l z qX qL qN qG qP qK F (-2 : Int32) _ h) (cwV 1 hts (gdV cd_X6_refuse ml_X6_56 im_X6_refuse se_X6_refuse in_X6) rfl rfl rfl hdV_X6_refuse ⟨(Nat.le_of_ble_eq_true rfl), (Nat.le_of_ble_eq_true rfl)⟩) cut_12 prm_12 0 rfl rfl rfl hw rfl hl.1 rfl (Nat.le_of_ble_eq_true rfl) dX6_thing_118 (fun r_17 u_ H locs h hw => ?_)
    obtain ⟨F_16, rfl⟩ : ∃ z9 : RT, z9 = u_ := ⟨_, rfl⟩
    have hw : Hw s z A (fW z qX qP qK qN qL qG F_16 ++ (pW z qP P ++ (pW z qK K ++ (mW z qG qT G ++ (pW z qT T ++ (nW z qN N ++ (lW z qL L))))))) H locs := hw
    try dsimp only at h
    exact rt_i M F_16 hw h dX6_thing_121
  · replace h := iT c_2 h
    refine lv_aload_n hx hb dX6_thing_11 rfl (lv_at hl 0 rfl) ?_
    refine lv_iconst (v := -1) hx hb dX6_thing_12 (by decide) ?_
    refine fr_Vi (wN := fun u : RT => (fW z qX qP qK qN qL qG u ++ (pW z qP P ++ (pW z qK K ++ (mW z qG qT G ++ (pW z qT T ++ (nW z qN N ++ (lW z qL L)))))))) M (m_X6_refuse l z qX qL qN qG qP qK F (-1 : Int32) _ h) (cwV 1 hts (gdV cd_X6_refuse ml_X6_56 im_X6_refuse se_X6_refuse in_X6) rfl rfl rfl hdV_X6_refuse ⟨(Nat.le_of_ble_eq_true rfl), (Nat.le_of_ble_eq_true rfl)⟩) cut_12 prm_12 0 rfl rfl rfl hw rfl hl.1 rfl (Nat.le_of_ble_eq_true rfl) dX6_thing_13 (fun r_19 u_ H locs h hw => ?_)
    obtain ⟨F_18, rfl⟩ : ∃ z9 : RT, z9 = u_ := ⟨_, rfl⟩
    have hw : Hw s z A (fW z qX qP qK qN qL qG F_18 ++ (pW z qP P ++ (pW z qK K ++ (mW z qG qT G ++ (pW z qT T ++ (nW z qN N ++ (lW z qL L))))))) H locs := hw
    try dsimp only at h
    exact rt_i M F_18 hw h dX6_thing_16
abbrev rmX6_rope : Room := { frames := 2, cells := 0, slots := 0, locals := 48 }
set_option maxHeartbeats 4000000 in
set_option maxRecDepth 100000 in
theorem m_X6_rope (l : Launch) (z : KT) (qX : Nat → Nat) (qL : Nat → Nat) (qN : Nat → Nat) (qG : Nat → Nat) (qP : Nat → Nat) (qK : Nat → Nat) (qT : Nat → Nat) (F : RT) (P : RT) (K : RT) (G : RT) (T : RT) (N : RT) (L : RT) (x1 : Int32) (x2 : Int32) (Q : Int32 → RT → Prop) (h : wX6_rope F P K G T N L x1 x2 Q) : CI l yX6_rope cX6_rope 3 .int rmX6_rope z [.ref (qX 0), .int x1, .int x2] (fW z qX qP qK qN qL qG F ++ (pW z qP P ++ (pW z qK K ++ (mW z qG qT G ++ (pW z qT T ++ (nW z qN N ++ (lW z qL L))))))) (fun u : RT => (fW z qX qP qK qN qL qG u ++ (pW z qP P ++ (pW z qK K ++ (mW z qG qT G ++ (pW z qT T ++ (nW z qN N ++ (lW z qL L)))))))) (fun (r : Int32) (u : RT) => Q r u) := by
  refine CI.of rfl (Nat.le_of_ble_eq_true rfl) ?_
  intro p e s m below meth c A ls M hw hl
  have M : Mc p s m _ meth c cX6_rope 3 (some .int) RX6 z A := M
  obtain ⟨hx, hb, -, -, hown, hts, -, -, -, hN, hsr, -⟩ := id M
  have hl : lv_has ls 3 [(0, .ref (qX 0)), (1, .int x1), (2, .int x2)] := hl
  unfold wX6_rope at h
  generalize s.heap = H at hw ⊢
  generalize ([] : List Loc) = locs at hw ⊢
  refine lv_aload_n hx hb dX6_rope_0 rfl (lv_at hl 0 rfl) ?_
  refine gt_f (v := .ref (qP 0)) M inlX6 hw 0 rfl rfl 0 (by decide) fl_X6_10 rfl rfl dX6_rope_1 ?_
  refine lv_iload_n hx hb dX6_rope_4 rfl (lv_at hl 1 rfl) ?_
  refine fr_Vi (wN := fun _ : Unit => (fW z qX qP qK qN qL qG F ++ (pW z qP P ++ (pW z qK K ++ (mW z qG qT G ++ (pW z qT T ++ (nW z qN N ++ (lW z qL L)))))))) M (m_X3_hasRope l z qP P x1 _ h) (cwV 1 hts (gdV cd_X3_hasRope ml_X6_97 im_X3_hasRope se_X3_hasRope in_X3) rfl rfl rfl hdV_X3_hasRope ⟨(Nat.le_of_ble_eq_true rfl), (Nat.le_of_ble_eq_true rfl)⟩) cut_16 prm_16 0 rfl rfl rfl hw rfl hl.1 rfl (Nat.le_of_ble_eq_true rfl) dX6_rope_5 (fun r_1 u_ H locs h hw => ?_)
  have hw : Hw s z A (fW z qX qP qK qN qL qG F ++ (pW z qP P ++ (pW z qK K ++ (mW z qG qT G ++ (pW z qT T ++ (nW z qN N ++ (lW z qL L))))))) H locs := hw
  try dsimp only at h
  refine lv_if_ne (tgt := 17) hx hb dX6_rope_8 (by decide) (fun c_2 => ?_) (fun c_2 => ?_)
  · replace h := iF c_2 h
    refine lv_iload_n hx hb dX6_rope_17 rfl (lv_at hl 2 rfl) ?_
    by_cases c_4 : x2 = (0 : Int32)
    · replace h := iT c_4 h
      refine lv_tableIn (tgt := 44) hx hb dX6_rope_18 (by rw [c_4]; decide) (by rw [c_4]; decide) (by rw [c_4]; rfl) (by decide) ?_
      refine lv_aload_n hx hb dX6_rope_44 rfl (lv_at hl 0 rfl) ?_
      refine gt_f (v := .ref (qP 0)) M inlX6 hw 0 rfl rfl 0 (by decide) fl_X6_10 rfl rfl dX6_rope_45 ?_
      refine gt_f (v := .ref (qP 6)) M inlX3 hw 2 rfl rfl 5 (by decide) fl_X6_100 rfl rfl dX6_rope_48 ?_
      refine lv_iload_n hx hb dX6_rope_51 rfl (lv_at hl 1 rfl) ?_
      obtain ⟨a_5, h⟩ := h
      refine ld_i M hw 8 rfl a_5 dX6_rope_52 ?_
      exact rt_i M F hw h dX6_rope_53
    replace h := iF c_4 h
    by_cases c_6 : x2 = (1 : Int32)
    · replace h := iT c_6 h
      refine lv_tableIn (tgt := 54) hx hb dX6_rope_18 (by rw [c_6]; decide) (by rw [c_6]; decide) (by rw [c_6]; rfl) (by decide) ?_
      refine lv_aload_n hx hb dX6_rope_54 rfl (lv_at hl 0 rfl) ?_
      refine gt_f (v := .ref (qP 0)) M inlX6 hw 0 rfl rfl 0 (by decide) fl_X6_10 rfl rfl dX6_rope_55 ?_
      refine gt_f (v := .ref (qP 7)) M inlX3 hw 2 rfl rfl 6 (by decide) fl_X6_103 rfl rfl dX6_rope_58 ?_
      refine lv_iload_n hx hb dX6_rope_61 rfl (lv_at hl 1 rfl) ?_
      obtain ⟨a_7, h⟩ := h
      refine ld_i M hw 9 rfl a_7 dX6_rope_62 ?_
      exact rt_i M F hw h dX6_rope_63
    replace h := iF c_6 h
    by_cases c_8 : x2 = (2 : Int32)
    · replace h := iT c_8 h
      refine lv_tableIn (tgt := 64) hx hb dX6_rope_18 (by rw [c_8]; decide) (by rw [c_8]; decide) (by rw [c_8]; rfl) (by decide) ?_
      refine lv_aload_n hx hb dX6_rope_64 rfl (lv_at hl 0 rfl) ?_
      refine gt_f (v := .ref (qP 0)) M inlX6 hw 0 rfl rfl 0 (by decide) fl_X6_10 rfl rfl dX6_rope_65 ?_
      refine lv_iload_n hx hb dX6_rope_68 rfl (lv_at hl 1 rfl) ?_
      refine fr_Vi (wN := fun _ : Unit => (fW z qX qP qK qN qL qG F ++ (pW z qP P ++ (pW z qK K ++ (mW z qG qT G ++ (pW z qT T ++ (nW z qN N ++ (lW z qL L)))))))) M (m_X3_heavierEnd l z qP P x1 _ h) (cwV 1 hts (gdV cd_X3_heavierEnd ml_X6_106 im_X3_heavierEnd se_X3_heavierEnd in_X3) rfl rfl rfl hdV_X3_heavierEnd ⟨(Nat.le_of_ble_eq_true rfl), (Nat.le_of_ble_eq_true rfl)⟩) cut_16 prm_16 0 rfl rfl rfl hw rfl hl.1 rfl (Nat.le_of_ble_eq_true rfl) dX6_rope_69 (fun r_9 u_ H locs h hw => ?_)
      have hw : Hw s z A (fW z qX qP qK qN qL qG F ++ (pW z qP P ++ (pW z qK K ++ (mW z qG qT G ++ (pW z qT T ++ (nW z qN N ++ (lW z qL L))))))) H locs := hw
      try dsimp only at h
      exact rt_i M F hw h dX6_rope_72
    replace h := iF c_8 h
    refine lv_tableOut (tgt := 73) hx hb dX6_rope_18 (by have q0 := lv_neT (a := 0) c_4 (by decide); have q1 := lv_neT (a := 1) c_6 (by decide); have q2 := lv_neT (a := 2) c_8 (by decide); omega) (by decide) ?_
    refine lv_aload_n hx hb dX6_rope_73 rfl (lv_at hl 0 rfl) ?_
    refine lv_bipush (v := -2) hx hb dX6_rope_74 (by decide) ?_
    refine fr_Vi (wN := fun u : RT => (fW z qX qP qK qN qL qG u ++ (pW z qP P ++ (pW z qK K ++ (mW z qG qT G ++ (pW z qT T ++ (nW z qN N ++ (lW z qL L)))))))) M (m_X6_refuse l z qX qL qN qG qP qK F (-2 : Int32) _ h) (cwV 1 hts (gdV cd_X6_refuse ml_X6_56 im_X6_refuse se_X6_refuse in_X6) rfl rfl rfl hdV_X6_refuse ⟨(Nat.le_of_ble_eq_true rfl), (Nat.le_of_ble_eq_true rfl)⟩) cut_12 prm_12 0 rfl rfl rfl hw rfl hl.1 rfl (Nat.le_of_ble_eq_true rfl) dX6_rope_76 (fun r_11 u_ H locs h hw => ?_)
    obtain ⟨F_10, rfl⟩ : ∃ z9 : RT, z9 = u_ := ⟨_, rfl⟩
    have hw : Hw s z A (fW z qX qP qK qN qL qG F_10 ++ (pW z qP P ++ (pW z qK K ++ (mW z qG qT G ++ (pW z qT T ++ (nW z qN N ++ (lW z qL L))))))) H locs := hw
    try dsimp only at h
    exact rt_i M F_10 hw h dX6_rope_79
  · replace h := iT c_2 h
    refine lv_aload_n hx hb dX6_rope_11 rfl (lv_at hl 0 rfl) ?_
    refine lv_iconst (v := -1) hx hb dX6_rope_12 (by decide) ?_
    refine fr_Vi (wN := fun u : RT => (fW z qX qP qK qN qL qG u ++ (pW z qP P ++ (pW z qK K ++ (mW z qG qT G ++ (pW z qT T ++ (nW z qN N ++ (lW z qL L)))))))) M (m_X6_refuse l z qX qL qN qG qP qK F (-1 : Int32) _ h) (cwV 1 hts (gdV cd_X6_refuse ml_X6_56 im_X6_refuse se_X6_refuse in_X6) rfl rfl rfl hdV_X6_refuse ⟨(Nat.le_of_ble_eq_true rfl), (Nat.le_of_ble_eq_true rfl)⟩) cut_12 prm_12 0 rfl rfl rfl hw rfl hl.1 rfl (Nat.le_of_ble_eq_true rfl) dX6_rope_13 (fun r_13 u_ H locs h hw => ?_)
    obtain ⟨F_12, rfl⟩ : ∃ z9 : RT, z9 = u_ := ⟨_, rfl⟩
    have hw : Hw s z A (fW z qX qP qK qN qL qG F_12 ++ (pW z qP P ++ (pW z qK K ++ (mW z qG qT G ++ (pW z qT T ++ (nW z qN N ++ (lW z qL L))))))) H locs := hw
    try dsimp only at h
    exact rt_i M F_12 hw h dX6_rope_16
abbrev rmX6_ties : Room := { frames := 2, cells := 0, slots := 0, locals := 43 }
set_option maxHeartbeats 4000000 in
set_option maxRecDepth 100000 in
theorem m_X6_ties (l : Launch) (z : KT) (qX : Nat → Nat) (qL : Nat → Nat) (qN : Nat → Nat) (qG : Nat → Nat) (qP : Nat → Nat) (qK : Nat → Nat) (qT : Nat → Nat) (F : RT) (P : RT) (K : RT) (G : RT) (T : RT) (N : RT) (L : RT) (x1 : Int32) (x2 : Int32) (Q : Int32 → RT → RT → Prop) (h : wX6_ties F P K G T N L x1 x2 Q) : CI l yX6_ties cX6_ties 3 .int rmX6_ties z [.ref (qX 0), .int x1, .int x2] (fW z qX qP qK qN qL qG F ++ (pW z qP P ++ (pW z qK K ++ (mW z qG qT G ++ (pW z qT T ++ (nW z qN N ++ (lW z qL L))))))) (fun u : RT × RT => (fW z qX qP qK qN qL qG u.1 ++ (pW z qP u.2 ++ (pW z qK K ++ (mW z qG qT G ++ (pW z qT T ++ (nW z qN N ++ (lW z qL L)))))))) (fun (r : Int32) (u : RT × RT) => Q r u.1 u.2) := by
  refine CI.of rfl (Nat.le_of_ble_eq_true rfl) ?_
  intro p e s m below meth c A ls M hw hl
  have M : Mc p s m _ meth c cX6_ties 3 (some .int) RX6 z A := M
  obtain ⟨hx, hb, -, -, hown, hts, -, -, -, hN, hsr, -⟩ := id M
  have hl : lv_has ls 3 [(0, .ref (qX 0)), (1, .int x1), (2, .int x2)] := hl
  unfold wX6_ties at h
  generalize s.heap = H at hw ⊢
  generalize ([] : List Loc) = locs at hw ⊢
  refine lv_aload_n hx hb dX6_ties_0 rfl (lv_at hl 0 rfl) ?_
  refine gt_f (v := .ref (qP 0)) M inlX6 hw 0 rfl rfl 0 (by decide) fl_X6_10 rfl rfl dX6_ties_1 ?_
  refine lv_iload_n hx hb dX6_ties_4 rfl (lv_at hl 1 rfl) ?_
  refine lv_iload_n hx hb dX6_ties_5 rfl (lv_at hl 2 rfl) ?_
  refine fr_Vi (wN := fun _ : Unit => (fW z qX qP qK qN qL qG F ++ (pW z qP P ++ (pW z qK K ++ (mW z qG qT G ++ (pW z qT T ++ (nW z qN N ++ (lW z qL L)))))))) M (m_X3_hasPair l z qP P x1 x2 _ h) (cwV 2 hts (gdV cd_X3_hasPair ml_X6_109 im_X3_hasPair se_X3_hasPair in_X3) rfl rfl rfl hdV_X3_hasPair ⟨(Nat.le_of_ble_eq_true rfl), (Nat.le_of_ble_eq_true rfl)⟩) cut_16 prm_16 0 rfl rfl rfl hw rfl hl.1 rfl (Nat.le_of_ble_eq_true rfl) dX6_ties_6 (fun r_1 u_ H locs h hw => ?_)
  have hw : Hw s z A (fW z qX qP qK qN qL qG F ++ (pW z qP P ++ (pW z qK K ++ (mW z qG qT G ++ (pW z qT T ++ (nW z qN N ++ (lW z qL L))))))) H locs := hw
  try dsimp only at h
  refine lv_if_ne (tgt := 18) hx hb dX6_ties_9 (by decide) (fun c_2 => ?_) (fun c_2 => ?_)
  · replace h := iF c_2 h
    refine lv_aload_n hx hb dX6_ties_18 rfl (lv_at hl 0 rfl) ?_
    refine gt_f (v := .ref (qP 0)) M inlX6 hw 0 rfl rfl 0 (by decide) fl_X6_10 rfl rfl dX6_ties_19 ?_
    refine gt_f (v := .int (P 30 8)) M inlX3 hw 2 rfl rfl 8 (by decide) fl_X6_113 rfl rfl dX6_ties_22 ?_
    refine lv_bipush (v := 6) hx hb dX6_ties_25 (by decide) ?_
    refine lv_icmp_lt (tgt := 37) hx hb dX6_ties_27 (by decide) (fun c_3 => ?_) (fun c_3 => ?_)
    · replace h := iT c_3 h
      refine lv_aload_n hx hb dX6_ties_37 rfl (lv_at hl 0 rfl) ?_
      refine gt_f (v := .ref (qP 0)) M inlX6 hw 0 rfl rfl 0 (by decide) fl_X6_10 rfl rfl dX6_ties_38 ?_
      refine lv_iload_n hx hb dX6_ties_41 rfl (lv_at hl 1 rfl) ?_
      refine lv_iload_n hx hb dX6_ties_42 rfl (lv_at hl 2 rfl) ?_
      refine fr_Vi (wN := fun u : RT => (fW z qX qP qK qN qL qG F ++ (pW z qP u ++ (pW z qK K ++ (mW z qG qT G ++ (pW z qT T ++ (nW z qN N ++ (lW z qL L)))))))) M (m_X3_addRope l z qP P x1 x2 _ h) (cwV 2 hts (gdV cd_X3_addRope ml_X6_116 im_X3_addRope se_X3_addRope in_X3) rfl rfl rfl hdV_X3_addRope ⟨(Nat.le_of_ble_eq_true rfl), (Nat.le_of_ble_eq_true rfl)⟩) cut_17 prm_17 0 rfl rfl rfl hw rfl hl.1 rfl (Nat.le_of_ble_eq_true rfl) dX6_ties_43 (fun r_5 u_ H locs h hw => ?_)
      obtain ⟨P_4, rfl⟩ : ∃ z9 : RT, z9 = u_ := ⟨_, rfl⟩
      have hw : Hw s z A (fW z qX qP qK qN qL qG F ++ (pW z qP P_4 ++ (pW z qK K ++ (mW z qG qT G ++ (pW z qT T ++ (nW z qN N ++ (lW z qL L))))))) H locs := hw
      try dsimp only at h
      exact rt_i M (F, P_4) hw h dX6_ties_46
    · replace h := iF c_3 h
      refine lv_aload_n hx hb dX6_ties_30 rfl (lv_at hl 0 rfl) ?_
      refine lv_bipush (v := -6) hx hb dX6_ties_31 (by decide) ?_
      refine fr_Vi (wN := fun u : RT => (fW z qX qP qK qN qL qG u ++ (pW z qP P ++ (pW z qK K ++ (mW z qG qT G ++ (pW z qT T ++ (nW z qN N ++ (lW z qL L)))))))) M (m_X6_refuse l z qX qL qN qG qP qK F (-6 : Int32) _ h) (cwV 1 hts (gdV cd_X6_refuse ml_X6_56 im_X6_refuse se_X6_refuse in_X6) rfl rfl rfl hdV_X6_refuse ⟨(Nat.le_of_ble_eq_true rfl), (Nat.le_of_ble_eq_true rfl)⟩) cut_12 prm_12 0 rfl rfl rfl hw rfl hl.1 rfl (Nat.le_of_ble_eq_true rfl) dX6_ties_33 (fun r_7 u_ H locs h hw => ?_)
      obtain ⟨F_6, rfl⟩ : ∃ z9 : RT, z9 = u_ := ⟨_, rfl⟩
      have hw : Hw s z A (fW z qX qP qK qN qL qG F_6 ++ (pW z qP P ++ (pW z qK K ++ (mW z qG qT G ++ (pW z qT T ++ (nW z qN N ++ (lW z qL L))))))) H locs := hw
      try dsimp only at h
      exact rt_i M (F_6, P) hw h dX6_ties_36
  · replace h := iT c_2 h
    refine lv_aload_n hx hb dX6_ties_12 rfl (lv_at hl 0 rfl) ?_
    refine lv_iconst (v := -1) hx hb dX6_ties_13 (by decide) ?_
    refine fr_Vi (wN := fun u : RT => (fW z qX qP qK qN qL qG u ++ (pW z qP P ++ (pW z qK K ++ (mW z qG qT G ++ (pW z qT T ++ (nW z qN N ++ (lW z qL L)))))))) M (m_X6_refuse l z qX qL qN qG qP qK F (-1 : Int32) _ h) (cwV 1 hts (gdV cd_X6_refuse ml_X6_56 im_X6_refuse se_X6_refuse in_X6) rfl rfl rfl hdV_X6_refuse ⟨(Nat.le_of_ble_eq_true rfl), (Nat.le_of_ble_eq_true rfl)⟩) cut_12 prm_12 0 rfl rfl rfl hw rfl hl.1 rfl (Nat.le_of_ble_eq_true rfl) dX6_ties_14 (fun r_9 u_ H locs h hw => ?_)
    obtain ⟨F_8, rfl⟩ : ∃ z9 : RT, z9 = u_ := ⟨_, rfl⟩
    have hw : Hw s z A (fW z qX qP qK qN qL qG F_8 ++ (pW z qP P ++ (pW z qK K ++ (mW z qG qT G ++ (pW z qT T ++ (nW z qN N ++ (lW z qL L))))))) H locs := hw
    try dsimp only at h
    exact rt_i M (F_8, P) hw h dX6_ties_17
abbrev rmX6_cuts : Room := { frames := 1, cells := 0, slots := 0, locals := 22 }
set_option maxHeartbeats 4000000 in
set_option maxRecDepth 100000 in
theorem m_X6_cuts (l : Launch) (z : KT) (qX : Nat → Nat) (qL : Nat → Nat) (qN : Nat → Nat) (qG : Nat → Nat) (qP : Nat → Nat) (qK : Nat → Nat) (qT : Nat → Nat) (F : RT) (P : RT) (K : RT) (G : RT) (T : RT) (N : RT) (L : RT) (x1 : Int32) (Q : Int32 → RT → RT → Prop) (h : wX6_cuts F P K G T N L x1 Q) : CI l yX6_cuts cX6_cuts 2 .int rmX6_cuts z [.ref (qX 0), .int x1] (fW z qX qP qK qN qL qG F ++ (pW z qP P ++ (pW z qK K ++ (mW z qG qT G ++ (pW z qT T ++ (nW z qN N ++ (lW z qL L))))))) (fun u : RT × RT => (fW z qX qP qK qN qL qG u.1 ++ (pW z qP u.2 ++ (pW z qK K ++ (mW z qG qT G ++ (pW z qT T ++ (nW z qN N ++ (lW z qL L)))))))) (fun (r : Int32) (u : RT × RT) => Q r u.1 u.2) := by
  refine CI.of rfl (Nat.le_of_ble_eq_true rfl) ?_
  intro p e s m below meth c A ls M hw hl
  have M : Mc p s m _ meth c cX6_cuts 2 (some .int) RX6 z A := M
  obtain ⟨hx, hb, -, -, hown, hts, -, -, -, hN, hsr, -⟩ := id M
  have hl : lv_has ls 2 [(0, .ref (qX 0)), (1, .int x1)] := hl
  unfold wX6_cuts at h
  generalize s.heap = H at hw ⊢
  generalize ([] : List Loc) = locs at hw ⊢
  refine lv_aload_n hx hb dX6_cuts_0 rfl (lv_at hl 0 rfl) ?_
  refine gt_f (v := .ref (qP 0)) M inlX6 hw 0 rfl rfl 0 (by decide) fl_X6_10 rfl rfl dX6_cuts_1 ?_
  refine lv_iload_n hx hb dX6_cuts_4 rfl (lv_at hl 1 rfl) ?_
  refine fr_Vi (wN := fun _ : Unit => (fW z qX qP qK qN qL qG F ++ (pW z qP P ++ (pW z qK K ++ (mW z qG qT G ++ (pW z qT T ++ (nW z qN N ++ (lW z qL L)))))))) M (m_X3_hasRope l z qP P x1 _ h) (cwV 1 hts (gdV cd_X3_hasRope ml_X6_97 im_X3_hasRope se_X3_hasRope in_X3) rfl rfl rfl hdV_X3_hasRope ⟨(Nat.le_of_ble_eq_true rfl), (Nat.le_of_ble_eq_true rfl)⟩) cut_16 prm_16 0 rfl rfl rfl hw rfl hl.1 rfl (Nat.le_of_ble_eq_true rfl) dX6_cuts_5 (fun r_1 u_ H locs h hw => ?_)
  have hw : Hw s z A (fW z qX qP qK qN qL qG F ++ (pW z qP P ++ (pW z qK K ++ (mW z qG qT G ++ (pW z qT T ++ (nW z qN N ++ (lW z qL L))))))) H locs := hw
  try dsimp only at h
  refine lv_if_ne (tgt := 17) hx hb dX6_cuts_8 (by decide) (fun c_2 => ?_) (fun c_2 => ?_)
  · replace h := iF c_2 h
    refine lv_aload_n hx hb dX6_cuts_17 rfl (lv_at hl 0 rfl) ?_
    refine gt_f (v := .ref (qP 0)) M inlX6 hw 0 rfl rfl 0 (by decide) fl_X6_10 rfl rfl dX6_cuts_18 ?_
    refine lv_iload_n hx hb dX6_cuts_21 rfl (lv_at hl 1 rfl) ?_
    refine fr_Vi (wN := fun u : RT => (fW z qX qP qK qN qL qG F ++ (pW z qP u ++ (pW z qK K ++ (mW z qG qT G ++ (pW z qT T ++ (nW z qN N ++ (lW z qL L)))))))) M (m_X3_dropRope l z qP P x1 _ h) (cwV 1 hts (gdV cd_X3_dropRope ml_X6_120 im_X3_dropRope se_X3_dropRope in_X3) rfl rfl rfl hdV_X3_dropRope ⟨(Nat.le_of_ble_eq_true rfl), (Nat.le_of_ble_eq_true rfl)⟩) cut_17 prm_17 0 rfl rfl rfl hw rfl hl.1 rfl (Nat.le_of_ble_eq_true rfl) dX6_cuts_22 (fun r_4 u_ H locs h hw => ?_)
    obtain ⟨P_3, rfl⟩ : ∃ z9 : RT, z9 = u_ := ⟨_, rfl⟩
    have hw : Hw s z A (fW z qX qP qK qN qL qG F ++ (pW z qP P_3 ++ (pW z qK K ++ (mW z qG qT G ++ (pW z qT T ++ (nW z qN N ++ (lW z qL L))))))) H locs := hw
    try dsimp only at h
    exact rt_i M (F, P_3) hw h dX6_cuts_25
  · replace h := iT c_2 h
    refine lv_aload_n hx hb dX6_cuts_11 rfl (lv_at hl 0 rfl) ?_
    refine lv_iconst (v := -1) hx hb dX6_cuts_12 (by decide) ?_
    refine fr_Vi (wN := fun u : RT => (fW z qX qP qK qN qL qG u ++ (pW z qP P ++ (pW z qK K ++ (mW z qG qT G ++ (pW z qT T ++ (nW z qN N ++ (lW z qL L)))))))) M (m_X6_refuse l z qX qL qN qG qP qK F (-1 : Int32) _ h) (cwV 1 hts (gdV cd_X6_refuse ml_X6_56 im_X6_refuse se_X6_refuse in_X6) rfl rfl rfl hdV_X6_refuse ⟨(Nat.le_of_ble_eq_true rfl), (Nat.le_of_ble_eq_true rfl)⟩) cut_12 prm_12 0 rfl rfl rfl hw rfl hl.1 rfl (Nat.le_of_ble_eq_true rfl) dX6_cuts_13 (fun r_6 u_ H locs h hw => ?_)
    obtain ⟨F_5, rfl⟩ : ∃ z9 : RT, z9 = u_ := ⟨_, rfl⟩
    have hw : Hw s z A (fW z qX qP qK qN qL qG F_5 ++ (pW z qP P ++ (pW z qK K ++ (mW z qG qT G ++ (pW z qT T ++ (nW z qN N ++ (lW z qL L))))))) H locs := hw
    try dsimp only at h
    exact rt_i M (F_5, P) hw h dX6_cuts_16
abbrev rmX6_thingFault : Room := { frames := 1, cells := 0, slots := 0, locals := 22 }
set_option maxHeartbeats 4000000 in
set_option maxRecDepth 100000 in
theorem m_X6_thingFault (l : Launch) (z : KT) (qX : Nat → Nat) (qL : Nat → Nat) (qN : Nat → Nat) (qG : Nat → Nat) (qP : Nat → Nat) (qK : Nat → Nat) (F : RT) (P : RT) (x1 : Int32) (x2 : Int32) (x3 : Int32) (Q : Int32 → Prop) (h : wX6_thingFault F P x1 x2 x3 Q) : CI l yX6_thingFault cX6_thingFault 4 .int rmX6_thingFault z [.ref (qX 0), .int x1, .int x2, .int x3] (fW z qX qP qK qN qL qG F ++ (pW z qP P)) (fun _ : Unit => (fW z qX qP qK qN qL qG F ++ (pW z qP P))) (fun (r : Int32) (_ : Unit) => Q r) := by
  refine CI.of rfl (Nat.le_of_ble_eq_true rfl) ?_
  intro p e s m below meth c A ls M hw hl
  have M : Mc p s m _ meth c cX6_thingFault 4 (some .int) RX6 z A := M
  obtain ⟨hx, hb, -, -, hown, hts, -, -, -, hN, hsr, -⟩ := id M
  have hl : lv_has ls 4 [(0, .ref (qX 0)), (1, .int x1), (2, .int x2), (3, .int x3)] := hl
  unfold wX6_thingFault at h
  generalize s.heap = H at hw ⊢
  generalize ([] : List Loc) = locs at hw ⊢
  refine lv_aload_n hx hb dX6_thingFault_0 rfl (lv_at hl 0 rfl) ?_
  refine gt_f (v := .ref (qP 0)) M inlX6 hw 0 rfl rfl 0 (by decide) fl_X6_10 rfl rfl dX6_thingFault_1 ?_
  refine lv_iload_n hx hb dX6_thingFault_4 rfl (lv_at hl 1 rfl) ?_
  refine fr_Vi (wN := fun _ : Unit => (fW z qX qP qK qN qL qG F ++ (pW z qP P))) M (m_X3_hasThing l z qP P x1 _ h) (cwV 1 hts (gdV cd_X3_hasThing ml_X6_75 im_X3_hasThing se_X3_hasThing in_X3) rfl rfl rfl hdV_X3_hasThing ⟨(Nat.le_of_ble_eq_true rfl), (Nat.le_of_ble_eq_true rfl)⟩) cut_18 prm_18 0 rfl rfl rfl hw rfl hl.1 rfl (Nat.le_of_ble_eq_true rfl) dX6_thingFault_5 (fun r_1 u_ H locs h hw => ?_)
  have hw : Hw s z A (fW z qX qP qK qN qL qG F ++ (pW z qP P)) H locs := hw
  try dsimp only at h
  refine lv_if_eq (tgt := 20) hx hb dX6_thingFault_8 (by decide) (fun c_2 => ?_) (fun c_2 => ?_)
  · replace h := iT c_2 h
    refine lv_iconst (v := -1) hx hb dX6_thingFault_20 (by decide) ?_
    exact rt_i M () hw h dX6_thingFault_21
  · replace h := iF c_2 h
    refine lv_iload_n hx hb dX6_thingFault_11 rfl (lv_at hl 2 rfl) ?_
    refine lv_iconst (v := 0) hx hb dX6_thingFault_12 (by decide) ?_
    refine lv_iload_n hx hb dX6_thingFault_13 rfl (lv_at hl 3 rfl) ?_
    refine fr_Si (wN := fun _ : Unit => (fW z qX qP qK qN qL qG F ++ (pW z qP P))) M (m_X6_rangeFault l z x2 (0 : Int32) x3 _ h) (va_cwS 3 hts (gdS cd_X6_rangeFault ml_X6_48 st_X6_rangeFault in_X6) rfl rfl rfl hdS_X6_rangeFault ⟨(Nat.le_of_ble_eq_true rfl), (Nat.le_of_ble_eq_true rfl)⟩) (Cut.none _) (Prm.none _) hw rfl hl.1 rfl (Nat.le_of_ble_eq_true rfl) dX6_thingFault_14 (fun r_3 u_ H locs h hw => ?_)
    have hw : Hw s z A (fW z qX qP qK qN qL qG F ++ (pW z qP P)) H locs := hw
    try dsimp only at h
    refine lv_goto (tgt := 21) hx hb dX6_thingFault_17 (by decide) ?_
    exact rt_i M () hw h dX6_thingFault_21
abbrev rmX6_stones : Room := { frames := 2, cells := 0, slots := 0, locals := 45 }
set_option maxHeartbeats 4000000 in
set_option maxRecDepth 100000 in
theorem m_X6_stones (l : Launch) (z : KT) (qX : Nat → Nat) (qL : Nat → Nat) (qN : Nat → Nat) (qG : Nat → Nat) (qP : Nat → Nat) (qK : Nat → Nat) (qT : Nat → Nat) (F : RT) (P : RT) (K : RT) (G : RT) (T : RT) (N : RT) (L : RT) (x1 : Int32) (x2 : Int32) (Q : Int32 → RT → RT → Prop) (h : wX6_stones F P K G T N L x1 x2 Q) : CI l yX6_stones cX6_stones 5 .int rmX6_stones z [.ref (qX 0), .int x1, .int x2] (fW z qX qP qK qN qL qG F ++ (pW z qP P ++ (pW z qK K ++ (mW z qG qT G ++ (pW z qT T ++ (nW z qN N ++ (lW z qL L))))))) (fun u : RT × RT => (fW z qX qP qK qN qL qG u.1 ++ (pW z qP u.2 ++ (pW z qK K ++ (mW z qG qT G ++ (pW z qT T ++ (nW z qN N ++ (lW z qL L)))))))) (fun (r : Int32) (u : RT × RT) => Q r u.1 u.2) := by
  refine CI.of rfl (Nat.le_of_ble_eq_true rfl) ?_
  intro p e s m below meth c A ls M hw hl
  have M : Mc p s m _ meth c cX6_stones 5 (some .int) RX6 z A := M
  obtain ⟨hx, hb, -, -, hown, hts, -, -, -, hN, hsr, -⟩ := id M
  have hl : lv_has ls 5 [(0, .ref (qX 0)), (1, .int x1), (2, .int x2)] := hl
  unfold wX6_stones at h
  generalize s.heap = H at hw ⊢
  generalize ([] : List Loc) = locs at hw ⊢
  refine lv_aload_n hx hb dX6_stones_0 rfl (lv_at hl 0 rfl) ?_
  refine lv_iload_n hx hb dX6_stones_1 rfl (lv_at hl 1 rfl) ?_
  refine lv_iload_n hx hb dX6_stones_2 rfl (lv_at hl 2 rfl) ?_
  refine lv_bipush (v := 9) hx hb dX6_stones_3 (by decide) ?_
  refine fr_Vi (wN := fun _ : Unit => (fW z qX qP qK qN qL qG F ++ (pW z qP P ++ (pW z qK K ++ (mW z qG qT G ++ (pW z qT T ++ (nW z qN N ++ (lW z qL L)))))))) M (m_X6_thingFault l z qX qL qN qG qP qK F P x1 x2 (9 : Int32) _ h) (cwV 3 hts (gdV cd_X6_thingFault ml_X6_123 im_X6_thingFault se_X6_thingFault in_X6) rfl rfl rfl hdV_X6_thingFault ⟨(Nat.le_of_ble_eq_true rfl), (Nat.le_of_ble_eq_true rfl)⟩) cut_19 prm_19 0 rfl rfl rfl hw rfl hl.1 rfl (Nat.le_of_ble_eq_true rfl) dX6_stones_5 (fun r_1 u_ H locs h hw => ?_)
  have hw : Hw s z A (fW z qX qP qK qN qL qG F ++ (pW z qP P ++ (pW z qK K ++ (mW z qG qT G ++ (pW z qT T ++ (nW z qN N ++ (lW z qL L))))))) H locs := hw
  try dsimp only at h
  refine lv_istore_n (lv' := [(3, .int r_1), (0, .ref (qX 0)), (1, .int x1), (2, .int x2)]) hx hb dX6_stones_8 rfl hl (by decide) rfl (fun ls hl => ?_)
  refine lv_iload_n hx hb dX6_stones_9 rfl (lv_at hl 0 rfl) ?_
  refine lv_if_eq (tgt := 19) hx hb dX6_stones_10 (by decide) (fun c_2 => ?_) (fun c_2 => ?_)
  · replace h := iT c_2 h
    refine lv_aload_n hx hb dX6_stones_19 rfl (lv_at hl 1 rfl) ?_
    refine gt_f (v := .ref (qP 0)) M inlX6 hw 0 rfl rfl 0 (by decide) fl_X6_10 rfl rfl dX6_stones_20 ?_
    refine gt_f (v := .ref (qP 4)) M inlX3 hw 2 rfl rfl 3 (by decide) fl_X6_88 rfl rfl dX6_stones_23 ?_
    refine lv_iload_n hx hb dX6_stones_26 rfl (lv_at hl 2 rfl) ?_
    obtain ⟨a_3, h⟩ := h
    refine ld_i M hw 6 rfl a_3 dX6_stones_27 ?_
    refine lv_topi (fun x4_4 ex4_4 => ?_)
    replace h := h x4_4 ex4_4
    refine lv_istore (lv' := [(4, .int x4_4), (3, .int r_1), (0, .ref (qX 0)), (1, .int x1), (2, .int x2)]) hx hb dX6_stones_28 hl (by decide) rfl (fun ls hl => ?_)
    refine lv_aload_n hx hb dX6_stones_30 rfl (lv_at hl 2 rfl) ?_
    refine gt_f (v := .ref (qP 0)) M inlX6 hw 0 rfl rfl 0 (by decide) fl_X6_10 rfl rfl dX6_stones_31 ?_
    refine gt_f (v := .ref (qP 4)) M inlX3 hw 2 rfl rfl 3 (by decide) fl_X6_88 rfl rfl dX6_stones_34 ?_
    refine lv_iload_n hx hb dX6_stones_37 rfl (lv_at hl 3 rfl) ?_
    refine lv_iload_n hx hb dX6_stones_38 rfl (lv_at hl 4 rfl) ?_
    refine st_i (P := P) (r := 3) (wN := fun P_5 => (fW z qX qP qK qN qL qG F ++ (pW z qP P_5 ++ (pW z qK K ++ (mW z qG qT G ++ (pW z qT T ++ (nW z qN N ++ (lW z qL L)))))))) M hw 6 rfl rfl a_3 dX6_stones_39 (fun P_5 H locs eP_5 hw => ?_)
    replace h := h P_5 eP_5
    refine lv_iload hx hb dX6_stones_40 (lv_at hl 0 rfl) ?_
    exact rt_i M (F, P_5) hw h dX6_stones_42
  · replace h := iF c_2 h
    refine lv_aload_n hx hb dX6_stones_13 rfl (lv_at hl 1 rfl) ?_
    refine lv_iload_n hx hb dX6_stones_14 rfl (lv_at hl 0 rfl) ?_
    refine fr_Vi (wN := fun u : RT => (fW z qX qP qK qN qL qG u ++ (pW z qP P ++ (pW z qK K ++ (mW z qG qT G ++ (pW z qT T ++ (nW z qN N ++ (lW z qL L)))))))) M (m_X6_refuse l z qX qL qN qG qP qK F r_1 _ h) (cwV 1 hts (gdV cd_X6_refuse ml_X6_56 im_X6_refuse se_X6_refuse in_X6) rfl rfl rfl hdV_X6_refuse ⟨(Nat.le_of_ble_eq_true rfl), (Nat.le_of_ble_eq_true rfl)⟩) cut_12 prm_12 0 rfl rfl rfl hw rfl hl.1 rfl (Nat.le_of_ble_eq_true rfl) dX6_stones_15 (fun r_7 u_ H locs h hw => ?_)
    obtain ⟨F_6, rfl⟩ : ∃ z9 : RT, z9 = u_ := ⟨_, rfl⟩
    have hw : Hw s z A (fW z qX qP qK qN qL qG F_6 ++ (pW z qP P ++ (pW z qK K ++ (mW z qG qT G ++ (pW z qT T ++ (nW z qN N ++ (lW z qL L))))))) H locs := hw
    try dsimp only at h
    exact rt_i M (F_6, P) hw h dX6_stones_18
abbrev rmX6_weighs : Room := { frames := 2, cells := 0, slots := 0, locals := 45 }
set_option maxHeartbeats 4000000 in
set_option maxRecDepth 100000 in
theorem m_X6_weighs (l : Launch) (z : KT) (qX : Nat → Nat) (qL : Nat → Nat) (qN : Nat → Nat) (qG : Nat → Nat) (qP : Nat → Nat) (qK : Nat → Nat) (qT : Nat → Nat) (F : RT) (P : RT) (K : RT) (G : RT) (T : RT) (N : RT) (L : RT) (x1 : Int32) (x2 : Int32) (Q : Int32 → RT → RT → Prop) (h : wX6_weighs F P K G T N L x1 x2 Q) : CI l yX6_weighs cX6_weighs 5 .int rmX6_weighs z [.ref (qX 0), .int x1, .int x2] (fW z qX qP qK qN qL qG F ++ (pW z qP P ++ (pW z qK K ++ (mW z qG qT G ++ (pW z qT T ++ (nW z qN N ++ (lW z qL L))))))) (fun u : RT × RT => (fW z qX qP qK qN qL qG u.1 ++ (pW z qP u.2 ++ (pW z qK K ++ (mW z qG qT G ++ (pW z qT T ++ (nW z qN N ++ (lW z qL L)))))))) (fun (r : Int32) (u : RT × RT) => Q r u.1 u.2) := by
  refine CI.of rfl (Nat.le_of_ble_eq_true rfl) ?_
  intro p e s m below meth c A ls M hw hl
  have M : Mc p s m _ meth c cX6_weighs 5 (some .int) RX6 z A := M
  obtain ⟨hx, hb, -, -, hown, hts, -, -, -, hN, hsr, -⟩ := id M
  have hl : lv_has ls 5 [(0, .ref (qX 0)), (1, .int x1), (2, .int x2)] := hl
  unfold wX6_weighs at h
  generalize s.heap = H at hw ⊢
  generalize ([] : List Loc) = locs at hw ⊢
  refine lv_aload_n hx hb dX6_weighs_0 rfl (lv_at hl 0 rfl) ?_
  refine lv_iload_n hx hb dX6_weighs_1 rfl (lv_at hl 1 rfl) ?_
  refine lv_iload_n hx hb dX6_weighs_2 rfl (lv_at hl 2 rfl) ?_
  refine lv_bipush (v := 60) hx hb dX6_weighs_3 (by decide) ?_
  refine fr_Vi (wN := fun _ : Unit => (fW z qX qP qK qN qL qG F ++ (pW z qP P ++ (pW z qK K ++ (mW z qG qT G ++ (pW z qT T ++ (nW z qN N ++ (lW z qL L)))))))) M (m_X6_thingFault l z qX qL qN qG qP qK F P x1 x2 (60 : Int32) _ h) (cwV 3 hts (gdV cd_X6_thingFault ml_X6_123 im_X6_thingFault se_X6_thingFault in_X6) rfl rfl rfl hdV_X6_thingFault ⟨(Nat.le_of_ble_eq_true rfl), (Nat.le_of_ble_eq_true rfl)⟩) cut_19 prm_19 0 rfl rfl rfl hw rfl hl.1 rfl (Nat.le_of_ble_eq_true rfl) dX6_weighs_5 (fun r_1 u_ H locs h hw => ?_)
  have hw : Hw s z A (fW z qX qP qK qN qL qG F ++ (pW z qP P ++ (pW z qK K ++ (mW z qG qT G ++ (pW z qT T ++ (nW z qN N ++ (lW z qL L))))))) H locs := hw
  try dsimp only at h
  refine lv_istore_n (lv' := [(3, .int r_1), (0, .ref (qX 0)), (1, .int x1), (2, .int x2)]) hx hb dX6_weighs_8 rfl hl (by decide) rfl (fun ls hl => ?_)
  refine lv_iload_n hx hb dX6_weighs_9 rfl (lv_at hl 0 rfl) ?_
  refine lv_if_eq (tgt := 19) hx hb dX6_weighs_10 (by decide) (fun c_2 => ?_) (fun c_2 => ?_)
  · replace h := iT c_2 h
    refine lv_aload_n hx hb dX6_weighs_19 rfl (lv_at hl 1 rfl) ?_
    refine gt_f (v := .ref (qP 0)) M inlX6 hw 0 rfl rfl 0 (by decide) fl_X6_10 rfl rfl dX6_weighs_20 ?_
    refine gt_f (v := .ref (qP 3)) M inlX3 hw 2 rfl rfl 2 (by decide) fl_X6_85 rfl rfl dX6_weighs_23 ?_
    refine lv_iload_n hx hb dX6_weighs_26 rfl (lv_at hl 2 rfl) ?_
    obtain ⟨a_3, h⟩ := h
    refine ld_i M hw 5 rfl a_3 dX6_weighs_27 ?_
    refine lv_topi (fun x4_4 ex4_4 => ?_)
    replace h := h x4_4 ex4_4
    refine lv_istore (lv' := [(4, .int x4_4), (3, .int r_1), (0, .ref (qX 0)), (1, .int x1), (2, .int x2)]) hx hb dX6_weighs_28 hl (by decide) rfl (fun ls hl => ?_)
    refine lv_aload_n hx hb dX6_weighs_30 rfl (lv_at hl 2 rfl) ?_
    refine gt_f (v := .ref (qP 0)) M inlX6 hw 0 rfl rfl 0 (by decide) fl_X6_10 rfl rfl dX6_weighs_31 ?_
    refine gt_f (v := .ref (qP 3)) M inlX3 hw 2 rfl rfl 2 (by decide) fl_X6_85 rfl rfl dX6_weighs_34 ?_
    refine lv_iload_n hx hb dX6_weighs_37 rfl (lv_at hl 3 rfl) ?_
    refine lv_iload_n hx hb dX6_weighs_38 rfl (lv_at hl 4 rfl) ?_
    refine st_i (P := P) (r := 2) (wN := fun P_5 => (fW z qX qP qK qN qL qG F ++ (pW z qP P_5 ++ (pW z qK K ++ (mW z qG qT G ++ (pW z qT T ++ (nW z qN N ++ (lW z qL L)))))))) M hw 5 rfl rfl a_3 dX6_weighs_39 (fun P_5 H locs eP_5 hw => ?_)
    replace h := h P_5 eP_5
    refine lv_iload hx hb dX6_weighs_40 (lv_at hl 0 rfl) ?_
    exact rt_i M (F, P_5) hw h dX6_weighs_42
  · replace h := iF c_2 h
    refine lv_aload_n hx hb dX6_weighs_13 rfl (lv_at hl 1 rfl) ?_
    refine lv_iload_n hx hb dX6_weighs_14 rfl (lv_at hl 0 rfl) ?_
    refine fr_Vi (wN := fun u : RT => (fW z qX qP qK qN qL qG u ++ (pW z qP P ++ (pW z qK K ++ (mW z qG qT G ++ (pW z qT T ++ (nW z qN N ++ (lW z qL L)))))))) M (m_X6_refuse l z qX qL qN qG qP qK F r_1 _ h) (cwV 1 hts (gdV cd_X6_refuse ml_X6_56 im_X6_refuse se_X6_refuse in_X6) rfl rfl rfl hdV_X6_refuse ⟨(Nat.le_of_ble_eq_true rfl), (Nat.le_of_ble_eq_true rfl)⟩) cut_12 prm_12 0 rfl rfl rfl hw rfl hl.1 rfl (Nat.le_of_ble_eq_true rfl) dX6_weighs_15 (fun r_7 u_ H locs h hw => ?_)
    obtain ⟨F_6, rfl⟩ : ∃ z9 : RT, z9 = u_ := ⟨_, rfl⟩
    have hw : Hw s z A (fW z qX qP qK qN qL qG F_6 ++ (pW z qP P ++ (pW z qK K ++ (mW z qG qT G ++ (pW z qT T ++ (nW z qN N ++ (lW z qL L))))))) H locs := hw
    try dsimp only at h
    exact rt_i M (F_6, P) hw h dX6_weighs_18
abbrev rmX6_lifts : Room := { frames := 2, cells := 0, slots := 0, locals := 45 }
set_option maxHeartbeats 4000000 in
set_option maxRecDepth 100000 in
theorem m_X6_lifts (l : Launch) (z : KT) (qX : Nat → Nat) (qL : Nat → Nat) (qN : Nat → Nat) (qG : Nat → Nat) (qP : Nat → Nat) (qK : Nat → Nat) (qT : Nat → Nat) (F : RT) (P : RT) (K : RT) (G : RT) (T : RT) (N : RT) (L : RT) (x1 : Int32) (x2 : Int32) (Q : Int32 → RT → RT → Prop) (h : wX6_lifts F P K G T N L x1 x2 Q) : CI l yX6_lifts cX6_lifts 5 .int rmX6_lifts z [.ref (qX 0), .int x1, .int x2] (fW z qX qP qK qN qL qG F ++ (pW z qP P ++ (pW z qK K ++ (mW z qG qT G ++ (pW z qT T ++ (nW z qN N ++ (lW z qL L))))))) (fun u : RT × RT => (fW z qX qP qK qN qL qG u.1 ++ (pW z qP u.2 ++ (pW z qK K ++ (mW z qG qT G ++ (pW z qT T ++ (nW z qN N ++ (lW z qL L)))))))) (fun (r : Int32) (u : RT × RT) => Q r u.1 u.2) := by
  refine CI.of rfl (Nat.le_of_ble_eq_true rfl) ?_
  intro p e s m below meth c A ls M hw hl
  have M : Mc p s m _ meth c cX6_lifts 5 (some .int) RX6 z A := M
  obtain ⟨hx, hb, -, -, hown, hts, -, -, -, hN, hsr, -⟩ := id M
  have hl : lv_has ls 5 [(0, .ref (qX 0)), (1, .int x1), (2, .int x2)] := hl
  unfold wX6_lifts at h
  generalize s.heap = H at hw ⊢
  generalize ([] : List Loc) = locs at hw ⊢
  refine lv_aload_n hx hb dX6_lifts_0 rfl (lv_at hl 0 rfl) ?_
  refine lv_iload_n hx hb dX6_lifts_1 rfl (lv_at hl 1 rfl) ?_
  refine lv_iload_n hx hb dX6_lifts_2 rfl (lv_at hl 2 rfl) ?_
  refine lv_bipush (v := 20) hx hb dX6_lifts_3 (by decide) ?_
  refine fr_Vi (wN := fun _ : Unit => (fW z qX qP qK qN qL qG F ++ (pW z qP P ++ (pW z qK K ++ (mW z qG qT G ++ (pW z qT T ++ (nW z qN N ++ (lW z qL L)))))))) M (m_X6_thingFault l z qX qL qN qG qP qK F P x1 x2 (20 : Int32) _ h) (cwV 3 hts (gdV cd_X6_thingFault ml_X6_123 im_X6_thingFault se_X6_thingFault in_X6) rfl rfl rfl hdV_X6_thingFault ⟨(Nat.le_of_ble_eq_true rfl), (Nat.le_of_ble_eq_true rfl)⟩) cut_19 prm_19 0 rfl rfl rfl hw rfl hl.1 rfl (Nat.le_of_ble_eq_true rfl) dX6_lifts_5 (fun r_1 u_ H locs h hw => ?_)
  have hw : Hw s z A (fW z qX qP qK qN qL qG F ++ (pW z qP P ++ (pW z qK K ++ (mW z qG qT G ++ (pW z qT T ++ (nW z qN N ++ (lW z qL L))))))) H locs := hw
  try dsimp only at h
  refine lv_istore_n (lv' := [(3, .int r_1), (0, .ref (qX 0)), (1, .int x1), (2, .int x2)]) hx hb dX6_lifts_8 rfl hl (by decide) rfl (fun ls hl => ?_)
  refine lv_iload_n hx hb dX6_lifts_9 rfl (lv_at hl 0 rfl) ?_
  refine lv_if_eq (tgt := 19) hx hb dX6_lifts_10 (by decide) (fun c_2 => ?_) (fun c_2 => ?_)
  · replace h := iT c_2 h
    refine lv_aload_n hx hb dX6_lifts_19 rfl (lv_at hl 1 rfl) ?_
    refine gt_f (v := .ref (qP 0)) M inlX6 hw 0 rfl rfl 0 (by decide) fl_X6_10 rfl rfl dX6_lifts_20 ?_
    refine gt_f (v := .ref (qP 5)) M inlX3 hw 2 rfl rfl 4 (by decide) fl_X6_91 rfl rfl dX6_lifts_23 ?_
    refine lv_iload_n hx hb dX6_lifts_26 rfl (lv_at hl 2 rfl) ?_
    obtain ⟨a_3, h⟩ := h
    refine ld_i M hw 7 rfl a_3 dX6_lifts_27 ?_
    refine lv_topi (fun x4_4 ex4_4 => ?_)
    replace h := h x4_4 ex4_4
    refine lv_istore (lv' := [(4, .int x4_4), (3, .int r_1), (0, .ref (qX 0)), (1, .int x1), (2, .int x2)]) hx hb dX6_lifts_28 hl (by decide) rfl (fun ls hl => ?_)
    refine lv_aload_n hx hb dX6_lifts_30 rfl (lv_at hl 2 rfl) ?_
    refine gt_f (v := .ref (qP 0)) M inlX6 hw 0 rfl rfl 0 (by decide) fl_X6_10 rfl rfl dX6_lifts_31 ?_
    refine gt_f (v := .ref (qP 5)) M inlX3 hw 2 rfl rfl 4 (by decide) fl_X6_91 rfl rfl dX6_lifts_34 ?_
    refine lv_iload_n hx hb dX6_lifts_37 rfl (lv_at hl 3 rfl) ?_
    refine lv_iload_n hx hb dX6_lifts_38 rfl (lv_at hl 4 rfl) ?_
    refine st_i (P := P) (r := 4) (wN := fun P_5 => (fW z qX qP qK qN qL qG F ++ (pW z qP P_5 ++ (pW z qK K ++ (mW z qG qT G ++ (pW z qT T ++ (nW z qN N ++ (lW z qL L)))))))) M hw 7 rfl rfl a_3 dX6_lifts_39 (fun P_5 H locs eP_5 hw => ?_)
    replace h := h P_5 eP_5
    refine lv_iload hx hb dX6_lifts_40 (lv_at hl 0 rfl) ?_
    exact rt_i M (F, P_5) hw h dX6_lifts_42
  · replace h := iF c_2 h
    refine lv_aload_n hx hb dX6_lifts_13 rfl (lv_at hl 1 rfl) ?_
    refine lv_iload_n hx hb dX6_lifts_14 rfl (lv_at hl 0 rfl) ?_
    refine fr_Vi (wN := fun u : RT => (fW z qX qP qK qN qL qG u ++ (pW z qP P ++ (pW z qK K ++ (mW z qG qT G ++ (pW z qT T ++ (nW z qN N ++ (lW z qL L)))))))) M (m_X6_refuse l z qX qL qN qG qP qK F r_1 _ h) (cwV 1 hts (gdV cd_X6_refuse ml_X6_56 im_X6_refuse se_X6_refuse in_X6) rfl rfl rfl hdV_X6_refuse ⟨(Nat.le_of_ble_eq_true rfl), (Nat.le_of_ble_eq_true rfl)⟩) cut_12 prm_12 0 rfl rfl rfl hw rfl hl.1 rfl (Nat.le_of_ble_eq_true rfl) dX6_lifts_15 (fun r_7 u_ H locs h hw => ?_)
    obtain ⟨F_6, rfl⟩ : ∃ z9 : RT, z9 = u_ := ⟨_, rfl⟩
    have hw : Hw s z A (fW z qX qP qK qN qL qG F_6 ++ (pW z qP P ++ (pW z qK K ++ (mW z qG qT G ++ (pW z qT T ++ (nW z qN N ++ (lW z qL L))))))) H locs := hw
    try dsimp only at h
    exact rt_i M (F_6, P) hw h dX6_lifts_18
abbrev rmX6_turn : Room := { frames := 1, cells := 0, slots := 0, locals := 22 }
set_option maxHeartbeats 4000000 in
set_option maxRecDepth 100000 in
theorem kX6_turn_27 {p : Program} {l : Launch} {e : Env} {s : State} {m : MethodId} {args : Array Value} {below : List Frame} {meth : Method} {c : Code} {z : KT} {A : Nat → Prop} {qX : Nat → Nat} {qL : Nat → Nat} {qN : Nat → Nat} {qG : Nat → Nat} {qP : Nat → Nat} {qK : Nat → Nat} {qT : Nat → Nat} {K : RT} {G : RT} {T : RT} {N : RT} {L : RT} {Q : Int32 → RT → RT → Prop} (M : Mc p s m args meth c cX6_turn 6 (some .int) RX6 z A) : ∀ (F : RT) (P : RT) (H : Heap) (locs : List Loc) (ls : Array Slot), Hw s z A (fW z qX qP qK qN qL qG F ++ (pW z qP P ++ (pW z qK K ++ (mW z qG qT G ++ (pW z qT T ++ (nW z qN N ++ (lW z qL L))))))) H locs → lv_has ls 6 [(0, .ref (qX 0))] → bX6_turn_27 K G T N L Q F P → W p l e rmX6_turn s m args below meth c H locs 0 0 (MQ below (va_Qi (fun (r : Int32) (u : RT × RT) => Q r u.1 u.2) (fun u t => cAt z A ((fun u : RT × RT => (fW z qX qP qK qN qL qG u.1 ++ (pW z qP u.2 ++ (pW z qK K ++ (mW z qG qT G ++ (pW z qT T ++ (nW z qN N ++ (lW z qL L)))))))) u) t) A) args s 0 0 A) (F0 m 27 ls []) := by
  obtain ⟨hx, hb, -, -, hown, hts, -, -, -, hN, hsr, -⟩ := id M
  intro F P H locs ls hw hl h
  unfold bX6_turn_27 at h
  refine lv_aload_n hx hb dX6_turn_27 rfl (lv_at hl 0 rfl) ?_
  refine lv_bipush (v := -2) hx hb dX6_turn_28 (by decide) ?_
  refine fr_Vi (wN := fun u : RT => (fW z qX qP qK qN qL qG u ++ (pW z qP P ++ (pW z qK K ++ (mW z qG qT G ++ (pW z qT T ++ (nW z qN N ++ (lW z qL L)))))))) M (m_X6_refuse l z qX qL qN qG qP qK F (-2 : Int32) _ h) (cwV 1 hts (gdV cd_X6_refuse ml_X6_56 im_X6_refuse se_X6_refuse in_X6) rfl rfl rfl hdV_X6_refuse ⟨(Nat.le_of_ble_eq_true rfl), (Nat.le_of_ble_eq_true rfl)⟩) cut_12 prm_12 0 rfl rfl rfl hw rfl hl.1 rfl (Nat.le_of_ble_eq_true rfl) dX6_turn_30 (fun r_2 u_ H locs h hw => ?_)
  obtain ⟨F_1, rfl⟩ : ∃ z9 : RT, z9 = u_ := ⟨_, rfl⟩
  have hw : Hw s z A (fW z qX qP qK qN qL qG F_1 ++ (pW z qP P ++ (pW z qK K ++ (mW z qG qT G ++ (pW z qT T ++ (nW z qN N ++ (lW z qL L))))))) H locs := hw
  try dsimp only at h
  exact rt_i M (F_1, P) hw h dX6_turn_33
set_option maxHeartbeats 4000000 in
set_option maxRecDepth 100000 in
theorem m_X6_turn (l : Launch) (z : KT) (qX : Nat → Nat) (qL : Nat → Nat) (qN : Nat → Nat) (qG : Nat → Nat) (qP : Nat → Nat) (qK : Nat → Nat) (qT : Nat → Nat) (F : RT) (P : RT) (K : RT) (G : RT) (T : RT) (N : RT) (L : RT) (x1 : Int32) (x2 : Int32) (x3 : Int32) (Q : Int32 → RT → RT → Prop) (h : wX6_turn F P K G T N L x1 x2 x3 Q) : CI l yX6_turn cX6_turn 6 .int rmX6_turn z [.ref (qX 0), .int x1, .int x2, .int x3] (fW z qX qP qK qN qL qG F ++ (pW z qP P ++ (pW z qK K ++ (mW z qG qT G ++ (pW z qT T ++ (nW z qN N ++ (lW z qL L))))))) (fun u : RT × RT => (fW z qX qP qK qN qL qG u.1 ++ (pW z qP u.2 ++ (pW z qK K ++ (mW z qG qT G ++ (pW z qT T ++ (nW z qN N ++ (lW z qL L)))))))) (fun (r : Int32) (u : RT × RT) => Q r u.1 u.2) := by
  refine CI.of rfl (Nat.le_of_ble_eq_true rfl) ?_
  intro p e s m below meth c A ls M hw hl
  have M : Mc p s m _ meth c cX6_turn 6 (some .int) RX6 z A := M
  obtain ⟨hx, hb, -, -, hown, hts, -, -, -, hN, hsr, -⟩ := id M
  have hl : lv_has ls 6 [(0, .ref (qX 0)), (1, .int x1), (2, .int x2), (3, .int x3)] := hl
  unfold wX6_turn at h
  generalize s.heap = H at hw ⊢
  generalize ([] : List Loc) = locs at hw ⊢
  refine lv_aload_n hx hb dX6_turn_0 rfl (lv_at hl 0 rfl) ?_
  refine gt_f (v := .ref (qP 0)) M inlX6 hw 0 rfl rfl 0 (by decide) fl_X6_10 rfl rfl dX6_turn_1 ?_
  refine lv_iload_n hx hb dX6_turn_4 rfl (lv_at hl 1 rfl) ?_
  refine fr_Vi (wN := fun _ : Unit => (fW z qX qP qK qN qL qG F ++ (pW z qP P ++ (pW z qK K ++ (mW z qG qT G ++ (pW z qT T ++ (nW z qN N ++ (lW z qL L)))))))) M (m_X3_hasThing l z qP P x1 _ h) (cwV 1 hts (gdV cd_X3_hasThing ml_X6_75 im_X3_hasThing se_X3_hasThing in_X3) rfl rfl rfl hdV_X3_hasThing ⟨(Nat.le_of_ble_eq_true rfl), (Nat.le_of_ble_eq_true rfl)⟩) cut_16 prm_16 0 rfl rfl rfl hw rfl hl.1 rfl (Nat.le_of_ble_eq_true rfl) dX6_turn_5 (fun r_1 u_ H locs h hw => ?_)
  have hw : Hw s z A (fW z qX qP qK qN qL qG F ++ (pW z qP P ++ (pW z qK K ++ (mW z qG qT G ++ (pW z qT T ++ (nW z qN N ++ (lW z qL L))))))) H locs := hw
  try dsimp only at h
  refine lv_if_ne (tgt := 17) hx hb dX6_turn_8 (by decide) (fun c_2 => ?_) (fun c_2 => ?_)
  · replace h := iF c_2 h
    refine lv_iload_n hx hb dX6_turn_17 rfl (lv_at hl 2 rfl) ?_
    refine lv_if_lt (tgt := 27) hx hb dX6_turn_18 (by decide) (fun c_3 => ?_) (fun c_3 => ?_)
    · replace h := iT c_3 h
      exact kX6_turn_27 M F P H locs ls hw (lv_sub hl [0] rfl) h
    · replace h := iF c_3 h
      refine lv_iload_n hx hb dX6_turn_21 rfl (lv_at hl 2 rfl) ?_
      refine lv_bipush (v := 6) hx hb dX6_turn_22 (by decide) ?_
      refine lv_icmp_lt (tgt := 34) hx hb dX6_turn_24 (by decide) (fun c_4 => ?_) (fun c_4 => ?_)
      · replace h := iT c_4 h
        refine lv_iload_n hx hb dX6_turn_34 rfl (lv_at hl 3 rfl) ?_
        refine lv_iconst (v := 0) hx hb dX6_turn_35 (by decide) ?_
        refine lv_bipush (v := 9) hx hb dX6_turn_36 (by decide) ?_
        refine fr_Si (wN := fun _ : Unit => (fW z qX qP qK qN qL qG F ++ (pW z qP P ++ (pW z qK K ++ (mW z qG qT G ++ (pW z qT T ++ (nW z qN N ++ (lW z qL L)))))))) M (m_X6_rangeFault l z x3 (0 : Int32) (9 : Int32) _ h) (va_cwS 3 hts (gdS cd_X6_rangeFault ml_X6_48 st_X6_rangeFault in_X6) rfl rfl rfl hdS_X6_rangeFault ⟨(Nat.le_of_ble_eq_true rfl), (Nat.le_of_ble_eq_true rfl)⟩) (Cut.none _) (Prm.none _) hw rfl hl.1 rfl (Nat.le_of_ble_eq_true rfl) dX6_turn_38 (fun r_5 u_ H locs h hw => ?_)
        have hw : Hw s z A (fW z qX qP qK qN qL qG F ++ (pW z qP P ++ (pW z qK K ++ (mW z qG qT G ++ (pW z qT T ++ (nW z qN N ++ (lW z qL L))))))) H locs := hw
        try dsimp only at h
        refine lv_istore (lv' := [(4, .int r_5), (0, .ref (qX 0)), (1, .int x1), (2, .int x2), (3, .int x3)]) hx hb dX6_turn_41 hl (by decide) rfl (fun ls hl => ?_)
        refine lv_iload hx hb dX6_turn_43 (lv_at hl 0 rfl) ?_
        refine lv_if_eq (tgt := 55) hx hb dX6_turn_45 (by decide) (fun c_6 => ?_) (fun c_6 => ?_)
        · replace h := iT c_6 h
          refine lv_bipush (v := 10) hx hb dX6_turn_55 (by decide) ?_
          refine lv_aload_n hx hb dX6_turn_57 rfl (lv_at hl 1 rfl) ?_
          refine gt_f (v := .ref (qP 0)) M inlX6 hw 0 rfl rfl 0 (by decide) fl_X6_10 rfl rfl dX6_turn_58 ?_
          refine gt_f (v := .ref (qP 1)) M inlX3 hw 2 rfl rfl 0 (by decide) fl_X6_79 rfl rfl dX6_turn_61 ?_
          refine lv_iload_n hx hb dX6_turn_64 rfl (lv_at hl 2 rfl) ?_
          obtain ⟨a_7, h⟩ := h
          refine ld_i M hw 3 rfl a_7 dX6_turn_65 ?_
          refine lv_imul hx hb dX6_turn_66 ?_
          refine lv_aload_n hx hb dX6_turn_67 rfl (lv_at hl 1 rfl) ?_
          refine gt_f (v := .ref (qP 0)) M inlX6 hw 0 rfl rfl 0 (by decide) fl_X6_10 rfl rfl dX6_turn_68 ?_
          refine gt_f (v := .ref (qP 2)) M inlX3 hw 2 rfl rfl 1 (by decide) fl_X6_82 rfl rfl dX6_turn_71 ?_
          refine lv_iload_n hx hb dX6_turn_74 rfl (lv_at hl 2 rfl) ?_
          refine ld_i M hw 4 rfl a_7 dX6_turn_75 ?_
          refine lv_iadd hx hb dX6_turn_76 ?_
          refine lv_topi (fun x5_8 ex5_8 => ?_)
          replace h := h x5_8 ex5_8
          refine lv_istore (lv' := [(5, .int x5_8), (4, .int r_5), (0, .ref (qX 0)), (1, .int x1), (2, .int x2), (3, .int x3)]) hx hb dX6_turn_77 hl (by decide) rfl (fun ls hl => ?_)
          refine lv_aload_n hx hb dX6_turn_79 rfl (lv_at hl 2 rfl) ?_
          refine gt_f (v := .ref (qP 0)) M inlX6 hw 0 rfl rfl 0 (by decide) fl_X6_10 rfl rfl dX6_turn_80 ?_
          refine gt_f (v := .ref (qP 1)) M inlX3 hw 2 rfl rfl 0 (by decide) fl_X6_79 rfl rfl dX6_turn_83 ?_
          refine lv_iload_n hx hb dX6_turn_86 rfl (lv_at hl 3 rfl) ?_
          refine lv_iload_n hx hb dX6_turn_87 rfl (lv_at hl 4 rfl) ?_
          refine st_i (P := P) (r := 0) (wN := fun P_9 => (fW z qX qP qK qN qL qG F ++ (pW z qP P_9 ++ (pW z qK K ++ (mW z qG qT G ++ (pW z qT T ++ (nW z qN N ++ (lW z qL L)))))))) M hw 3 rfl rfl a_7 dX6_turn_88 (fun P_9 H locs eP_9 hw => ?_)
          replace h := h P_9 eP_9
          refine lv_aload_n hx hb dX6_turn_89 rfl (lv_at hl 2 rfl) ?_
          refine gt_f (v := .ref (qP 0)) M inlX6 hw 0 rfl rfl 0 (by decide) fl_X6_10 rfl rfl dX6_turn_90 ?_
          refine gt_f (v := .ref (qP 2)) M inlX3 hw 2 rfl rfl 1 (by decide) fl_X6_82 rfl rfl dX6_turn_93 ?_
          refine lv_iload_n hx hb dX6_turn_96 rfl (lv_at hl 3 rfl) ?_
          refine lv_iload_n hx hb dX6_turn_97 rfl (lv_at hl 5 rfl) ?_
          refine st_i (P := P_9) (r := 1) (wN := fun P_10 => (fW z qX qP qK qN qL qG F ++ (pW z qP P_10 ++ (pW z qK K ++ (mW z qG qT G ++ (pW z qT T ++ (nW z qN N ++ (lW z qL L)))))))) M hw 4 rfl rfl a_7 dX6_turn_98 (fun P_10 H locs eP_10 hw => ?_)
          replace h := h P_10 eP_10
          refine lv_iload hx hb dX6_turn_99 (lv_at hl 0 rfl) ?_
          exact rt_i M (F, P_10) hw h dX6_turn_101
        · replace h := iF c_6 h
          refine lv_aload_n hx hb dX6_turn_48 rfl (lv_at hl 1 rfl) ?_
          refine lv_iload hx hb dX6_turn_49 (lv_at hl 0 rfl) ?_
          refine fr_Vi (wN := fun u : RT => (fW z qX qP qK qN qL qG u ++ (pW z qP P ++ (pW z qK K ++ (mW z qG qT G ++ (pW z qT T ++ (nW z qN N ++ (lW z qL L)))))))) M (m_X6_refuse l z qX qL qN qG qP qK F r_5 _ h) (cwV 1 hts (gdV cd_X6_refuse ml_X6_56 im_X6_refuse se_X6_refuse in_X6) rfl rfl rfl hdV_X6_refuse ⟨(Nat.le_of_ble_eq_true rfl), (Nat.le_of_ble_eq_true rfl)⟩) cut_12 prm_12 0 rfl rfl rfl hw rfl hl.1 rfl (Nat.le_of_ble_eq_true rfl) dX6_turn_51 (fun r_12 u_ H locs h hw => ?_)
          obtain ⟨F_11, rfl⟩ : ∃ z9 : RT, z9 = u_ := ⟨_, rfl⟩
          have hw : Hw s z A (fW z qX qP qK qN qL qG F_11 ++ (pW z qP P ++ (pW z qK K ++ (mW z qG qT G ++ (pW z qT T ++ (nW z qN N ++ (lW z qL L))))))) H locs := hw
          try dsimp only at h
          exact rt_i M (F_11, P) hw h dX6_turn_54
      · replace h := iF c_4 h
        exact kX6_turn_27 M F P H locs ls hw (lv_sub hl [0] rfl) h
  · replace h := iT c_2 h
    refine lv_aload_n hx hb dX6_turn_11 rfl (lv_at hl 0 rfl) ?_
    refine lv_iconst (v := -1) hx hb dX6_turn_12 (by decide) ?_
    refine fr_Vi (wN := fun u : RT => (fW z qX qP qK qN qL qG u ++ (pW z qP P ++ (pW z qK K ++ (mW z qG qT G ++ (pW z qT T ++ (nW z qN N ++ (lW z qL L)))))))) M (m_X6_refuse l z qX qL qN qG qP qK F (-1 : Int32) _ h) (cwV 1 hts (gdV cd_X6_refuse ml_X6_56 im_X6_refuse se_X6_refuse in_X6) rfl rfl rfl hdV_X6_refuse ⟨(Nat.le_of_ble_eq_true rfl), (Nat.le_of_ble_eq_true rfl)⟩) cut_12 prm_12 0 rfl rfl rfl hw rfl hl.1 rfl (Nat.le_of_ble_eq_true rfl) dX6_turn_13 (fun r_14 u_ H locs h hw => ?_)
    obtain ⟨F_13, rfl⟩ : ∃ z9 : RT, z9 = u_ := ⟨_, rfl⟩
    have hw : Hw s z A (fW z qX qP qK qN qL qG F_13 ++ (pW z qP P ++ (pW z qK K ++ (mW z qG qT G ++ (pW z qT T ++ (nW z qN N ++ (lW z qL L))))))) H locs := hw
    try dsimp only at h
    exact rt_i M (F_13, P) hw h dX6_turn_16
abbrev rmX6_hours : Room := { frames := 3, cells := 0, slots := 0, locals := 71 }
set_option maxHeartbeats 4000000 in
set_option maxRecDepth 100000 in
theorem kX6_hours_30 {p : Program} {l : Launch} {e : Env} {s : State} {m : MethodId} {args : Array Value} {below : List Frame} {meth : Method} {c : Code} {z : KT} {A : Nat → Prop} {qX : Nat → Nat} {qL : Nat → Nat} {qN : Nat → Nat} {qG : Nat → Nat} {qP : Nat → Nat} {qK : Nat → Nat} {qT : Nat → Nat} {K : RT} {G : RT} {T : RT} {N : RT} {L : RT} {Q : Int32 → RT → RT → Prop} (M : Mc p s m args meth c cX6_hours 3 (some .int) RX6 z A) : ∀ (F : RT) (P : RT) (x1 : Int32) (x2 : Int32) (H : Heap) (locs : List Loc) (ls : Array Slot), Hw s z A (fW z qX qP qK qN qL qG F ++ (pW z qP P ++ (pW z qK K ++ (mW z qG qT G ++ (pW z qT T ++ (nW z qN N ++ (lW z qL L))))))) H locs → lv_has ls 3 [(0, .ref (qX 0)), (1, .int x1), (2, .int x2)] → bX6_hours_30 K G T N L Q F P x1 x2 → W p l e rmX6_hours s m args below meth c H locs 0 0 (MQ below (va_Qi (fun (r : Int32) (u : RT × RT) => Q r u.1 u.2) (fun u t => cAt z A ((fun u : RT × RT => (fW z qX qP qK qN qL qG u.1 ++ (pW z qP u.2 ++ (pW z qK K ++ (mW z qG qT G ++ (pW z qT T ++ (nW z qN N ++ (lW z qL L)))))))) u) t) A) args s 0 0 A) (F0 m 30 ls []) := by
  obtain ⟨hx, hb, -, -, hown, hts, -, -, -, hN, hsr, -⟩ := id M
  intro F P x1 x2 H locs ls hw hl h
  unfold bX6_hours_30 at h
  refine lv_iload_n hx hb dX6_hours_30 rfl (lv_at hl 2 rfl) ?_
  refine lv_if_eq (tgt := 40) hx hb dX6_hours_31 (by decide) (fun c_1 => ?_) (fun c_1 => ?_)
  · replace h := iT c_1 h
    refine lv_aload_n hx hb dX6_hours_40 rfl (lv_at hl 0 rfl) ?_
    refine gt_f (v := .ref (qP 0)) M inlX6 hw 0 rfl rfl 0 (by decide) fl_X6_10 rfl rfl dX6_hours_41 ?_
    refine lv_iload_n hx hb dX6_hours_44 rfl (lv_at hl 1 rfl) ?_
    refine fr_Vv (wN := fun u : RT => (fW z qX qP qK qN qL qG F ++ (pW z qP u ++ (pW z qK K ++ (mW z qG qT G ++ (pW z qT T ++ (nW z qN N ++ (lW z qL L)))))))) M (m_X3_goHours l z qP P x1 _ h) (cwV 1 hts (gdV cd_X3_goHours ml_X6_129 im_X3_goHours se_X3_goHours in_X3) rfl rfl rfl hdV_X3_goHours ⟨(Nat.le_of_ble_eq_true rfl), (Nat.le_of_ble_eq_true rfl)⟩) cut_17 prm_17 0 rfl rfl rfl hw rfl hl.1 rfl (Nat.le_of_ble_eq_true rfl) dX6_hours_45 (fun u_ H locs h hw => ?_)
    obtain ⟨P_2, rfl⟩ : ∃ z9 : RT, z9 = u_ := ⟨_, rfl⟩
    have hw : Hw s z A (fW z qX qP qK qN qL qG F ++ (pW z qP P_2 ++ (pW z qK K ++ (mW z qG qT G ++ (pW z qT T ++ (nW z qN N ++ (lW z qL L))))))) H locs := hw
    try dsimp only at h
    refine lv_aload_n hx hb dX6_hours_48 rfl (lv_at hl 0 rfl) ?_
    refine gt_f (v := .ref (qP 0)) M inlX6 hw 0 rfl rfl 0 (by decide) fl_X6_10 rfl rfl dX6_hours_49 ?_
    refine fr_Vi (wN := fun _ : Unit => (fW z qX qP qK qN qL qG F ++ (pW z qP P_2 ++ (pW z qK K ++ (mW z qG qT G ++ (pW z qT T ++ (nW z qN N ++ (lW z qL L)))))))) M (m_X3_allHeights l z qP P_2 _ h) (cwV 0 hts (gdV cd_X3_allHeights ml_X6_133 im_X3_allHeights se_X3_allHeights in_X3) rfl rfl rfl hdV_X3_allHeights ⟨(Nat.le_of_ble_eq_true rfl), (Nat.le_of_ble_eq_true rfl)⟩) cut_16 prm_16 0 rfl rfl rfl hw rfl hl.1 rfl (Nat.le_of_ble_eq_true rfl) dX6_hours_52 (fun r_3 u_ H locs h hw => ?_)
    have hw : Hw s z A (fW z qX qP qK qN qL qG F ++ (pW z qP P_2 ++ (pW z qK K ++ (mW z qG qT G ++ (pW z qT T ++ (nW z qN N ++ (lW z qL L))))))) H locs := hw
    try dsimp only at h
    exact rt_i M (F, P_2) hw h dX6_hours_55
  · replace h := iF c_1 h
    refine lv_aload_n hx hb dX6_hours_34 rfl (lv_at hl 0 rfl) ?_
    refine lv_iload_n hx hb dX6_hours_35 rfl (lv_at hl 2 rfl) ?_
    refine fr_Vi (wN := fun u : RT => (fW z qX qP qK qN qL qG u ++ (pW z qP P ++ (pW z qK K ++ (mW z qG qT G ++ (pW z qT T ++ (nW z qN N ++ (lW z qL L)))))))) M (m_X6_refuse l z qX qL qN qG qP qK F x2 _ h) (cwV 1 hts (gdV cd_X6_refuse ml_X6_56 im_X6_refuse se_X6_refuse in_X6) rfl rfl rfl hdV_X6_refuse ⟨(Nat.le_of_ble_eq_true rfl), (Nat.le_of_ble_eq_true rfl)⟩) cut_12 prm_12 0 rfl rfl rfl hw rfl hl.1 rfl (Nat.le_of_ble_eq_true rfl) dX6_hours_36 (fun r_5 u_ H locs h hw => ?_)
    obtain ⟨F_4, rfl⟩ : ∃ z9 : RT, z9 = u_ := ⟨_, rfl⟩
    have hw : Hw s z A (fW z qX qP qK qN qL qG F_4 ++ (pW z qP P ++ (pW z qK K ++ (mW z qG qT G ++ (pW z qT T ++ (nW z qN N ++ (lW z qL L))))))) H locs := hw
    try dsimp only at h
    exact rt_i M (F_4, P) hw h dX6_hours_39
set_option maxHeartbeats 4000000 in
set_option maxRecDepth 100000 in
theorem m_X6_hours (l : Launch) (z : KT) (qX : Nat → Nat) (qL : Nat → Nat) (qN : Nat → Nat) (qG : Nat → Nat) (qP : Nat → Nat) (qK : Nat → Nat) (qT : Nat → Nat) (F : RT) (P : RT) (K : RT) (G : RT) (T : RT) (N : RT) (L : RT) (x1 : Int32) (Q : Int32 → RT → RT → Prop) (h : wX6_hours F P K G T N L x1 Q) : CI l yX6_hours cX6_hours 3 .int rmX6_hours z [.ref (qX 0), .int x1] (fW z qX qP qK qN qL qG F ++ (pW z qP P ++ (pW z qK K ++ (mW z qG qT G ++ (pW z qT T ++ (nW z qN N ++ (lW z qL L))))))) (fun u : RT × RT => (fW z qX qP qK qN qL qG u.1 ++ (pW z qP u.2 ++ (pW z qK K ++ (mW z qG qT G ++ (pW z qT T ++ (nW z qN N ++ (lW z qL L)))))))) (fun (r : Int32) (u : RT × RT) => Q r u.1 u.2) := by
  refine CI.of rfl (Nat.le_of_ble_eq_true rfl) ?_
  intro p e s m below meth c A ls M hw hl
  have M : Mc p s m _ meth c cX6_hours 3 (some .int) RX6 z A := M
  obtain ⟨hx, hb, -, -, hown, hts, -, -, -, hN, hsr, -⟩ := id M
  have hl : lv_has ls 3 [(0, .ref (qX 0)), (1, .int x1)] := hl
  unfold wX6_hours at h
  generalize s.heap = H at hw ⊢
  generalize ([] : List Loc) = locs at hw ⊢
  refine lv_iload_n hx hb dX6_hours_0 rfl (lv_at hl 1 rfl) ?_
  refine lv_iconst (v := 1) hx hb dX6_hours_1 (by decide) ?_
  refine lv_bipush (v := 60) hx hb dX6_hours_2 (by decide) ?_
  refine fr_Si (wN := fun _ : Unit => (fW z qX qP qK qN qL qG F ++ (pW z qP P ++ (pW z qK K ++ (mW z qG qT G ++ (pW z qT T ++ (nW z qN N ++ (lW z qL L)))))))) M (m_X6_rangeFault l z x1 (1 : Int32) (60 : Int32) _ h) (va_cwS 3 hts (gdS cd_X6_rangeFault ml_X6_48 st_X6_rangeFault in_X6) rfl rfl rfl hdS_X6_rangeFault ⟨(Nat.le_of_ble_eq_true rfl), (Nat.le_of_ble_eq_true rfl)⟩) (Cut.none _) (Prm.none _) hw rfl hl.1 rfl (Nat.le_of_ble_eq_true rfl) dX6_hours_4 (fun r_1 u_ H locs h hw => ?_)
  have hw : Hw s z A (fW z qX qP qK qN qL qG F ++ (pW z qP P ++ (pW z qK K ++ (mW z qG qT G ++ (pW z qT T ++ (nW z qN N ++ (lW z qL L))))))) H locs := hw
  try dsimp only at h
  refine lv_istore_n (lv' := [(2, .int r_1), (0, .ref (qX 0)), (1, .int x1)]) hx hb dX6_hours_7 rfl hl (by decide) rfl (fun ls hl => ?_)
  refine lv_iload_n hx hb dX6_hours_8 rfl (lv_at hl 0 rfl) ?_
  refine lv_if_ne (tgt := 30) hx hb dX6_hours_9 (by decide) (fun c_2 => ?_) (fun c_2 => ?_)
  · replace h := iF c_2 h
    exact kX6_hours_30 M F P x1 r_1 H locs ls hw (lv_sub hl [1, 2, 0] rfl) h
  · replace h := iT c_2 h
    refine lv_aload_n hx hb dX6_hours_12 rfl (lv_at hl 1 rfl) ?_
    refine gt_f (v := .ref (qP 0)) M inlX6 hw 0 rfl rfl 0 (by decide) fl_X6_10 rfl rfl dX6_hours_13 ?_
    refine gt_f (v := .int (P 30 9)) M inlX3 hw 2 rfl rfl 9 (by decide) fl_X6_126 rfl rfl dX6_hours_16 ?_
    refine lv_iload_n hx hb dX6_hours_19 rfl (lv_at hl 2 rfl) ?_
    refine lv_iadd hx hb dX6_hours_20 ?_
    refine lv_sipush (v := 999) hx hb dX6_hours_21 (by decide) ?_
    refine lv_icmp_le (tgt := 30) hx hb dX6_hours_24 (by decide) (fun c_3 => ?_) (fun c_3 => ?_)
    · replace h := iT c_3 h
      exact kX6_hours_30 M F P x1 r_1 H locs ls hw (lv_sub hl [1, 2, 0] rfl) h
    · replace h := iF c_3 h
      refine lv_bipush (v := -6) hx hb dX6_hours_27 (by decide) ?_
      refine lv_istore_n (lv' := [(2, .int (-6 : Int32)), (0, .ref (qX 0)), (1, .int x1)]) hx hb dX6_hours_29 rfl hl (by decide) rfl (fun ls hl => ?_)
      exact kX6_hours_30 M F P x1 (-6 : Int32) H locs ls hw (lv_sub hl [1, 2, 0] rfl) h
abbrev rmX6_thingThen : Room := { frames := 4, cells := 0, slots := 0, locals := 93 }
set_option maxHeartbeats 4000000 in
set_option maxRecDepth 100000 in
theorem kX6_thingThen_28 {p : Program} {l : Launch} {e : Env} {s : State} {m : MethodId} {args : Array Value} {below : List Frame} {meth : Method} {c : Code} {z : KT} {A : Nat → Prop} {qX : Nat → Nat} {qL : Nat → Nat} {qN : Nat → Nat} {qG : Nat → Nat} {qP : Nat → Nat} {qK : Nat → Nat} {qT : Nat → Nat} {P : RT} {K : RT} {G : RT} {N : RT} {L : RT} {Q : Int32 → RT → RT → Prop} (M : Mc p s m args meth c cX6_thingThen 6 (some .int) RX6 z A) : ∀ (F : RT) (T : RT) (x1 : Int32) (x2 : Int32) (x3 : Int32) (x4 : Int32) (H : Heap) (locs : List Loc) (ls : Array Slot), Hw s z A (fW z qX qP qK qN qL qG F ++ (pW z qP P ++ (pW z qK K ++ (mW z qG qT G ++ (pW z qT T ++ (nW z qN N ++ (lW z qL L))))))) H locs → lv_has ls 6 [(0, .ref (qX 0)), (1, .int x1), (2, .int x2), (3, .int x3), (4, .int x4)] → bX6_thingThen_28 P K G N L Q F T x1 x2 x3 x4 → W p l e rmX6_thingThen s m args below meth c H locs 0 0 (MQ below (va_Qi (fun (r : Int32) (u : RT × RT) => Q r u.1 u.2) (fun u t => cAt z A ((fun u : RT × RT => (fW z qX qP qK qN qL qG u.1 ++ (pW z qP P ++ (pW z qK K ++ (mW z qG qT G ++ (pW z qT u.2 ++ (nW z qN N ++ (lW z qL L)))))))) u) t) A) args s 0 0 A) (F0 m 28 ls []) := by
  obtain ⟨hx, hb, -, -, hown, hts, -, -, -, hN, hsr, -⟩ := id M
  intro F T x1 x2 x3 x4 H locs ls hw hl h
  unfold bX6_thingThen_28 at h
  refine lv_iload hx hb dX6_thingThen_28 (lv_at hl 4 rfl) ?_
  refine lv_if_eq (tgt := 40) hx hb dX6_thingThen_30 (by decide) (fun c_1 => ?_) (fun c_1 => ?_)
  · replace h := iT c_1 h
    refine lv_aload_n hx hb dX6_thingThen_40 rfl (lv_at hl 0 rfl) ?_
    refine gt_f (v := .ref (qG 0)) M inlX6 hw 0 rfl rfl 5 (by decide) fl_X6_40 rfl rfl dX6_thingThen_41 ?_
    refine lv_aload_n hx hb dX6_thingThen_44 rfl (lv_at hl 0 rfl) ?_
    refine gt_f (v := .ref (qP 0)) M inlX6 hw 0 rfl rfl 0 (by decide) fl_X6_10 rfl rfl dX6_thingThen_45 ?_
    refine lv_iload_n hx hb dX6_thingThen_48 rfl (lv_at hl 2 rfl) ?_
    refine fr_Vr (wN := fun u : RT => (fW z qX qP qK qN qL qG F ++ (pW z qP P ++ (pW z qK K ++ (mW z qG qT G ++ (pW z qT u ++ (nW z qN N ++ (lW z qL L)))))))) M (m_X1_behind l z qG qP qT G T P x2 _ h) (cwV 2 hts (gdV cd_X1_behind ml_X6_137 im_X1_behind se_X1_behind in_X1) rfl rfl rfl hdV_X1_behind ⟨(Nat.le_of_ble_eq_true rfl), (Nat.le_of_ble_eq_true rfl)⟩) cut_13 prm_13 0 rfl rfl rfl hw rfl hl.1 rfl (Nat.le_of_ble_eq_true rfl) dX6_thingThen_49 (fun ra_ u_ H locs h hw => ?_)
    obtain ⟨T_2, rfl⟩ : ∃ z9 : RT, z9 = u_ := ⟨_, rfl⟩
    obtain ⟨rfl, h⟩ := h
    have hw : Hw s z A (fW z qX qP qK qN qL qG F ++ (pW z qP P ++ (pW z qK K ++ (mW z qG qT G ++ (pW z qT T_2 ++ (nW z qN N ++ (lW z qL L))))))) H locs := hw
    try dsimp only at h
    refine lv_astore (lv' := [(5, .ref (qT 0)), (0, .ref (qX 0)), (1, .int x1), (2, .int x2), (3, .int x3), (4, .int x4)]) hx hb dX6_thingThen_52 hl (by decide) rfl (fun ls hl => ?_)
    refine lv_iload_n hx hb dX6_thingThen_54 rfl (lv_at hl 4 rfl) ?_
    refine lv_if_ne (tgt := 68) hx hb dX6_thingThen_55 (by decide) (fun c_3 => ?_) (fun c_3 => ?_)
    · replace h := iF c_3 h
      refine lv_aload hx hb dX6_thingThen_68 (lv_at hl 0 rfl) ?_
      refine lv_iload_n hx hb dX6_thingThen_70 rfl (lv_at hl 2 rfl) ?_
      refine fr_Vi (wN := fun _ : Unit => (fW z qX qP qK qN qL qG F ++ (pW z qP P ++ (pW z qK K ++ (mW z qG qT G ++ (pW z qT T_2 ++ (nW z qN N ++ (lW z qL L)))))))) M (m_X3_heftOf l z qT T_2 x1 _ h) (cwV 1 hts (gdV cd_X3_heftOf ml_X6_94 im_X3_heftOf se_X3_heftOf in_X3) rfl rfl rfl hdV_X3_heftOf ⟨(Nat.le_of_ble_eq_true rfl), (Nat.le_of_ble_eq_true rfl)⟩) cut_20 prm_20 0 rfl rfl rfl hw rfl hl.1 rfl (Nat.le_of_ble_eq_true rfl) dX6_thingThen_71 (fun r_4 u_ H locs h hw => ?_)
      have hw : Hw s z A (fW z qX qP qK qN qL qG F ++ (pW z qP P ++ (pW z qK K ++ (mW z qG qT G ++ (pW z qT T_2 ++ (nW z qN N ++ (lW z qL L))))))) H locs := hw
      try dsimp only at h
      exact rt_i M (F, T_2) hw h dX6_thingThen_74
    · replace h := iT c_3 h
      refine lv_aload hx hb dX6_thingThen_58 (lv_at hl 0 rfl) ?_
      refine gt_f (v := .ref (qT 5)) M inlX3 hw 21 rfl rfl 4 (by decide) fl_X6_91 rfl rfl dX6_thingThen_60 ?_
      refine lv_iload_n hx hb dX6_thingThen_63 rfl (lv_at hl 2 rfl) ?_
      obtain ⟨a_5, h⟩ := h
      refine ld_i M hw 26 rfl a_5 dX6_thingThen_64 ?_
      refine lv_goto (tgt := 74) hx hb dX6_thingThen_65 (by decide) ?_
      exact rt_i M (F, T_2) hw h dX6_thingThen_74
  · replace h := iF c_1 h
    refine lv_aload_n hx hb dX6_thingThen_33 rfl (lv_at hl 0 rfl) ?_
    refine lv_iload hx hb dX6_thingThen_34 (lv_at hl 4 rfl) ?_
    refine fr_Vi (wN := fun u : RT => (fW z qX qP qK qN qL qG u ++ (pW z qP P ++ (pW z qK K ++ (mW z qG qT G ++ (pW z qT T ++ (nW z qN N ++ (lW z qL L)))))))) M (m_X6_refuse l z qX qL qN qG qP qK F x4 _ h) (cwV 1 hts (gdV cd_X6_refuse ml_X6_56 im_X6_refuse se_X6_refuse in_X6) rfl rfl rfl hdV_X6_refuse ⟨(Nat.le_of_ble_eq_true rfl), (Nat.le_of_ble_eq_true rfl)⟩) cut_12 prm_12 0 rfl rfl rfl hw rfl hl.1 rfl (Nat.le_of_ble_eq_true rfl) dX6_thingThen_36 (fun r_7 u_ H locs h hw => ?_)
    obtain ⟨F_6, rfl⟩ : ∃ z9 : RT, z9 = u_ := ⟨_, rfl⟩
    have hw : Hw s z A (fW z qX qP qK qN qL qG F_6 ++ (pW z qP P ++ (pW z qK K ++ (mW z qG qT G ++ (pW z qT T ++ (nW z qN N ++ (lW z qL L))))))) H locs := hw
    try dsimp only at h
    exact rt_i M (F_6, T) hw h dX6_thingThen_39
set_option maxHeartbeats 4000000 in
set_option maxRecDepth 100000 in
theorem m_X6_thingThen (l : Launch) (z : KT) (qX : Nat → Nat) (qL : Nat → Nat) (qN : Nat → Nat) (qG : Nat → Nat) (qP : Nat → Nat) (qK : Nat → Nat) (qT : Nat → Nat) (F : RT) (P : RT) (K : RT) (G : RT) (T : RT) (N : RT) (L : RT) (x1 : Int32) (x2 : Int32) (x3 : Int32) (Q : Int32 → RT → RT → Prop) (h : wX6_thingThen F P K G T N L x1 x2 x3 Q) : CI l yX6_thingThen cX6_thingThen 6 .int rmX6_thingThen z [.ref (qX 0), .int x1, .int x2, .int x3] (fW z qX qP qK qN qL qG F ++ (pW z qP P ++ (pW z qK K ++ (mW z qG qT G ++ (pW z qT T ++ (nW z qN N ++ (lW z qL L))))))) (fun u : RT × RT => (fW z qX qP qK qN qL qG u.1 ++ (pW z qP P ++ (pW z qK K ++ (mW z qG qT G ++ (pW z qT u.2 ++ (nW z qN N ++ (lW z qL L)))))))) (fun (r : Int32) (u : RT × RT) => Q r u.1 u.2) := by
  refine CI.of rfl (Nat.le_of_ble_eq_true rfl) ?_
  intro p e s m below meth c A ls M hw hl
  have M : Mc p s m _ meth c cX6_thingThen 6 (some .int) RX6 z A := M
  obtain ⟨hx, hb, -, -, hown, hts, -, -, -, hN, hsr, -⟩ := id M
  have hl : lv_has ls 6 [(0, .ref (qX 0)), (1, .int x1), (2, .int x2), (3, .int x3)] := hl
  unfold wX6_thingThen at h
  generalize s.heap = H at hw ⊢
  generalize ([] : List Loc) = locs at hw ⊢
  refine lv_aload_n hx hb dX6_thingThen_0 rfl (lv_at hl 0 rfl) ?_
  refine lv_iload_n hx hb dX6_thingThen_1 rfl (lv_at hl 1 rfl) ?_
  refine lv_iload_n hx hb dX6_thingThen_2 rfl (lv_at hl 2 rfl) ?_
  refine lv_bipush (v := 99) hx hb dX6_thingThen_3 (by decide) ?_
  refine fr_Vi (wN := fun _ : Unit => (fW z qX qP qK qN qL qG F ++ (pW z qP P ++ (pW z qK K ++ (mW z qG qT G ++ (pW z qT T ++ (nW z qN N ++ (lW z qL L)))))))) M (m_X6_thingFault l z qX qL qN qG qP qK F P x1 x2 (99 : Int32) _ h) (cwV 3 hts (gdV cd_X6_thingFault ml_X6_123 im_X6_thingFault se_X6_thingFault in_X6) rfl rfl rfl hdV_X6_thingFault ⟨(Nat.le_of_ble_eq_true rfl), (Nat.le_of_ble_eq_true rfl)⟩) cut_19 prm_19 0 rfl rfl rfl hw rfl hl.1 rfl (Nat.le_of_ble_eq_true rfl) dX6_thingThen_5 (fun r_1 u_ H locs h hw => ?_)
  have hw : Hw s z A (fW z qX qP qK qN qL qG F ++ (pW z qP P ++ (pW z qK K ++ (mW z qG qT G ++ (pW z qT T ++ (nW z qN N ++ (lW z qL L))))))) H locs := hw
  try dsimp only at h
  refine lv_istore (lv' := [(4, .int r_1), (0, .ref (qX 0)), (1, .int x1), (2, .int x2), (3, .int x3)]) hx hb dX6_thingThen_8 hl (by decide) rfl (fun ls hl => ?_)
  refine lv_iload hx hb dX6_thingThen_10 (lv_at hl 0 rfl) ?_
  refine lv_if_ne (tgt := 28) hx hb dX6_thingThen_12 (by decide) (fun c_2 => ?_) (fun c_2 => ?_)
  · replace h := iF c_2 h
    exact kX6_thingThen_28 M F T x1 x2 x3 r_1 H locs ls hw (lv_sub hl [1, 2, 3, 4, 0] rfl) h
  · replace h := iT c_2 h
    refine lv_iload_n hx hb dX6_thingThen_15 rfl (lv_at hl 4 rfl) ?_
    refine lv_if_eq (tgt := 28) hx hb dX6_thingThen_16 (by decide) (fun c_3 => ?_) (fun c_3 => ?_)
    · replace h := iT c_3 h
      exact kX6_thingThen_28 M F T x1 x2 x3 r_1 H locs ls hw (lv_sub hl [1, 2, 3, 4, 0] rfl) h
    · replace h := iF c_3 h
      refine lv_iload_n hx hb dX6_thingThen_19 rfl (lv_at hl 4 rfl) ?_
      refine lv_iconst (v := 1) hx hb dX6_thingThen_20 (by decide) ?_
      refine lv_icmp_eq (tgt := 28) hx hb dX6_thingThen_21 (by decide) (fun c_4 => ?_) (fun c_4 => ?_)
      · replace h := iT c_4 h
        exact kX6_thingThen_28 M F T x1 x2 x3 r_1 H locs ls hw (lv_sub hl [1, 2, 3, 4, 0] rfl) h
      · replace h := iF c_4 h
        refine lv_bipush (v := -2) hx hb dX6_thingThen_24 (by decide) ?_
        refine lv_istore (lv' := [(4, .int (-2 : Int32)), (0, .ref (qX 0)), (1, .int x1), (2, .int x2), (3, .int x3)]) hx hb dX6_thingThen_26 hl (by decide) rfl (fun ls hl => ?_)
        exact kX6_thingThen_28 M F T x1 x2 x3 (-2 : Int32) H locs ls hw (lv_sub hl [1, 2, 3, 4, 0] rfl) h
abbrev rmX6_ropeThen : Room := { frames := 4, cells := 0, slots := 0, locals := 93 }
set_option maxHeartbeats 4000000 in
set_option maxRecDepth 100000 in
theorem m_X6_ropeThen (l : Launch) (z : KT) (qX : Nat → Nat) (qL : Nat → Nat) (qN : Nat → Nat) (qG : Nat → Nat) (qP : Nat → Nat) (qK : Nat → Nat) (qT : Nat → Nat) (F : RT) (P : RT) (K : RT) (G : RT) (T : RT) (N : RT) (L : RT) (x1 : Int32) (x2 : Int32) (Q : Int32 → RT → RT → Prop) (h : wX6_ropeThen F P K G T N L x1 x2 Q) : CI l yX6_ropeThen cX6_ropeThen 4 .int rmX6_ropeThen z [.ref (qX 0), .int x1, .int x2] (fW z qX qP qK qN qL qG F ++ (pW z qP P ++ (pW z qK K ++ (mW z qG qT G ++ (pW z qT T ++ (nW z qN N ++ (lW z qL L))))))) (fun u : RT × RT => (fW z qX qP qK qN qL qG u.1 ++ (pW z qP P ++ (pW z qK K ++ (mW z qG qT G ++ (pW z qT u.2 ++ (nW z qN N ++ (lW z qL L)))))))) (fun (r : Int32) (u : RT × RT) => Q r u.1 u.2) := by
  refine CI.of rfl (Nat.le_of_ble_eq_true rfl) ?_
  intro p e s m below meth c A ls M hw hl
  have M : Mc p s m _ meth c cX6_ropeThen 4 (some .int) RX6 z A := M
  obtain ⟨hx, hb, -, -, hown, hts, -, -, -, hN, hsr, -⟩ := id M
  have hl : lv_has ls 4 [(0, .ref (qX 0)), (1, .int x1), (2, .int x2)] := hl
  unfold wX6_ropeThen at h
  generalize s.heap = H at hw ⊢
  generalize ([] : List Loc) = locs at hw ⊢
  refine lv_aload_n hx hb dX6_ropeThen_0 rfl (lv_at hl 0 rfl) ?_
  refine gt_f (v := .ref (qP 0)) M inlX6 hw 0 rfl rfl 0 (by decide) fl_X6_10 rfl rfl dX6_ropeThen_1 ?_
  refine lv_iload_n hx hb dX6_ropeThen_4 rfl (lv_at hl 1 rfl) ?_
  refine fr_Vi (wN := fun _ : Unit => (fW z qX qP qK qN qL qG F ++ (pW z qP P ++ (pW z qK K ++ (mW z qG qT G ++ (pW z qT T ++ (nW z qN N ++ (lW z qL L)))))))) M (m_X3_hasRope l z qP P x1 _ h) (cwV 1 hts (gdV cd_X3_hasRope ml_X6_97 im_X3_hasRope se_X3_hasRope in_X3) rfl rfl rfl hdV_X3_hasRope ⟨(Nat.le_of_ble_eq_true rfl), (Nat.le_of_ble_eq_true rfl)⟩) cut_16 prm_16 0 rfl rfl rfl hw rfl hl.1 rfl (Nat.le_of_ble_eq_true rfl) dX6_ropeThen_5 (fun r_1 u_ H locs h hw => ?_)
  have hw : Hw s z A (fW z qX qP qK qN qL qG F ++ (pW z qP P ++ (pW z qK K ++ (mW z qG qT G ++ (pW z qT T ++ (nW z qN N ++ (lW z qL L))))))) H locs := hw
  try dsimp only at h
  refine lv_if_ne (tgt := 17) hx hb dX6_ropeThen_8 (by decide) (fun c_2 => ?_) (fun c_2 => ?_)
  · replace h := iF c_2 h
    refine lv_iload_n hx hb dX6_ropeThen_17 rfl (lv_at hl 2 rfl) ?_
    refine lv_iconst (v := 0) hx hb dX6_ropeThen_18 (by decide) ?_
    refine lv_bipush (v := 99) hx hb dX6_ropeThen_19 (by decide) ?_
    refine fr_Si (wN := fun _ : Unit => (fW z qX qP qK qN qL qG F ++ (pW z qP P ++ (pW z qK K ++ (mW z qG qT G ++ (pW z qT T ++ (nW z qN N ++ (lW z qL L)))))))) M (m_X6_rangeFault l z x2 (0 : Int32) (99 : Int32) _ h) (va_cwS 3 hts (gdS cd_X6_rangeFault ml_X6_48 st_X6_rangeFault in_X6) rfl rfl rfl hdS_X6_rangeFault ⟨(Nat.le_of_ble_eq_true rfl), (Nat.le_of_ble_eq_true rfl)⟩) (Cut.none _) (Prm.none _) hw rfl hl.1 rfl (Nat.le_of_ble_eq_true rfl) dX6_ropeThen_21 (fun r_3 u_ H locs h hw => ?_)
    have hw : Hw s z A (fW z qX qP qK qN qL qG F ++ (pW z qP P ++ (pW z qK K ++ (mW z qG qT G ++ (pW z qT T ++ (nW z qN N ++ (lW z qL L))))))) H locs := hw
    try dsimp only at h
    refine lv_istore_n (lv' := [(3, .int r_3), (0, .ref (qX 0)), (1, .int x1), (2, .int x2)]) hx hb dX6_ropeThen_24 rfl hl (by decide) rfl (fun ls hl => ?_)
    refine lv_iload_n hx hb dX6_ropeThen_25 rfl (lv_at hl 0 rfl) ?_
    refine lv_if_eq (tgt := 35) hx hb dX6_ropeThen_26 (by decide) (fun c_4 => ?_) (fun c_4 => ?_)
    · replace h := iT c_4 h
      refine lv_aload_n hx hb dX6_ropeThen_35 rfl (lv_at hl 1 rfl) ?_
      refine gt_f (v := .ref (qG 0)) M inlX6 hw 0 rfl rfl 5 (by decide) fl_X6_40 rfl rfl dX6_ropeThen_36 ?_
      refine lv_aload_n hx hb dX6_ropeThen_39 rfl (lv_at hl 1 rfl) ?_
      refine gt_f (v := .ref (qP 0)) M inlX6 hw 0 rfl rfl 0 (by decide) fl_X6_10 rfl rfl dX6_ropeThen_40 ?_
      refine lv_iload_n hx hb dX6_ropeThen_43 rfl (lv_at hl 3 rfl) ?_
      refine fr_Vr (wN := fun u : RT => (fW z qX qP qK qN qL qG F ++ (pW z qP P ++ (pW z qK K ++ (mW z qG qT G ++ (pW z qT u ++ (nW z qN N ++ (lW z qL L)))))))) M (m_X1_behind l z qG qP qT G T P x2 _ h) (cwV 2 hts (gdV cd_X1_behind ml_X6_137 im_X1_behind se_X1_behind in_X1) rfl rfl rfl hdV_X1_behind ⟨(Nat.le_of_ble_eq_true rfl), (Nat.le_of_ble_eq_true rfl)⟩) cut_13 prm_13 0 rfl rfl rfl hw rfl hl.1 rfl (Nat.le_of_ble_eq_true rfl) dX6_ropeThen_44 (fun ra_ u_ H locs h hw => ?_)
      obtain ⟨T_5, rfl⟩ : ∃ z9 : RT, z9 = u_ := ⟨_, rfl⟩
      obtain ⟨rfl, h⟩ := h
      have hw : Hw s z A (fW z qX qP qK qN qL qG F ++ (pW z qP P ++ (pW z qK K ++ (mW z qG qT G ++ (pW z qT T_5 ++ (nW z qN N ++ (lW z qL L))))))) H locs := hw
      try dsimp only at h
      refine lv_iload_n hx hb dX6_ropeThen_47 rfl (lv_at hl 2 rfl) ?_
      refine fr_Vi (wN := fun _ : Unit => (fW z qX qP qK qN qL qG F ++ (pW z qP P ++ (pW z qK K ++ (mW z qG qT G ++ (pW z qT T_5 ++ (nW z qN N ++ (lW z qL L)))))))) M (m_X3_heavierEnd l z qT T_5 x1 _ h) (cwV 1 hts (gdV cd_X3_heavierEnd ml_X6_106 im_X3_heavierEnd se_X3_heavierEnd in_X3) rfl rfl rfl hdV_X3_heavierEnd ⟨(Nat.le_of_ble_eq_true rfl), (Nat.le_of_ble_eq_true rfl)⟩) cut_20 prm_20 0 rfl rfl rfl hw rfl hl.1 rfl (Nat.le_of_ble_eq_true rfl) dX6_ropeThen_48 (fun r_6 u_ H locs h hw => ?_)
      have hw : Hw s z A (fW z qX qP qK qN qL qG F ++ (pW z qP P ++ (pW z qK K ++ (mW z qG qT G ++ (pW z qT T_5 ++ (nW z qN N ++ (lW z qL L))))))) H locs := hw
      try dsimp only at h
      exact rt_i M (F, T_5) hw h dX6_ropeThen_51
    · replace h := iF c_4 h
      refine lv_aload_n hx hb dX6_ropeThen_29 rfl (lv_at hl 1 rfl) ?_
      refine lv_iload_n hx hb dX6_ropeThen_30 rfl (lv_at hl 0 rfl) ?_
      refine fr_Vi (wN := fun u : RT => (fW z qX qP qK qN qL qG u ++ (pW z qP P ++ (pW z qK K ++ (mW z qG qT G ++ (pW z qT T ++ (nW z qN N ++ (lW z qL L)))))))) M (m_X6_refuse l z qX qL qN qG qP qK F r_3 _ h) (cwV 1 hts (gdV cd_X6_refuse ml_X6_56 im_X6_refuse se_X6_refuse in_X6) rfl rfl rfl hdV_X6_refuse ⟨(Nat.le_of_ble_eq_true rfl), (Nat.le_of_ble_eq_true rfl)⟩) cut_12 prm_12 0 rfl rfl rfl hw rfl hl.1 rfl (Nat.le_of_ble_eq_true rfl) dX6_ropeThen_31 (fun r_8 u_ H locs h hw => ?_)
      obtain ⟨F_7, rfl⟩ : ∃ z9 : RT, z9 = u_ := ⟨_, rfl⟩
      have hw : Hw s z A (fW z qX qP qK qN qL qG F_7 ++ (pW z qP P ++ (pW z qK K ++ (mW z qG qT G ++ (pW z qT T ++ (nW z qN N ++ (lW z qL L))))))) H locs := hw
      try dsimp only at h
      exact rt_i M (F_7, T) hw h dX6_ropeThen_34
  · replace h := iT c_2 h
    refine lv_aload_n hx hb dX6_ropeThen_11 rfl (lv_at hl 0 rfl) ?_
    refine lv_iconst (v := -1) hx hb dX6_ropeThen_12 (by decide) ?_
    refine fr_Vi (wN := fun u : RT => (fW z qX qP qK qN qL qG u ++ (pW z qP P ++ (pW z qK K ++ (mW z qG qT G ++ (pW z qT T ++ (nW z qN N ++ (lW z qL L)))))))) M (m_X6_refuse l z qX qL qN qG qP qK F (-1 : Int32) _ h) (cwV 1 hts (gdV cd_X6_refuse ml_X6_56 im_X6_refuse se_X6_refuse in_X6) rfl rfl rfl hdV_X6_refuse ⟨(Nat.le_of_ble_eq_true rfl), (Nat.le_of_ble_eq_true rfl)⟩) cut_12 prm_12 0 rfl rfl rfl hw rfl hl.1 rfl (Nat.le_of_ble_eq_true rfl) dX6_ropeThen_13 (fun r_10 u_ H locs h hw => ?_)
    obtain ⟨F_9, rfl⟩ : ∃ z9 : RT, z9 = u_ := ⟨_, rfl⟩
    have hw : Hw s z A (fW z qX qP qK qN qL qG F_9 ++ (pW z qP P ++ (pW z qK K ++ (mW z qG qT G ++ (pW z qT T ++ (nW z qN N ++ (lW z qL L))))))) H locs := hw
    try dsimp only at h
    exact rt_i M (F_9, T) hw h dX6_ropeThen_16
abbrev rmX6_up : Room := { frames := 4, cells := 0, slots := 0, locals := 84 }
set_option maxHeartbeats 4000000 in
set_option maxRecDepth 100000 in
theorem m_X6_up (l : Launch) (z : KT) (qX : Nat → Nat) (qL : Nat → Nat) (qN : Nat → Nat) (qG : Nat → Nat) (qP : Nat → Nat) (qK : Nat → Nat) (qT : Nat → Nat) (F : RT) (P : RT) (K : RT) (G : RT) (T : RT) (N : RT) (L : RT) (x1 : Int32) (x2 : Int32) (Q : Int32 → RT → RT → Prop) (h : wX6_up F P K G T N L x1 x2 Q) : CI l yX6_up cX6_up 4 .int rmX6_up z [.ref (qX 0), .int x1, .int x2] (fW z qX qP qK qN qL qG F ++ (pW z qP P ++ (pW z qK K ++ (mW z qG qT G ++ (pW z qT T ++ (nW z qN N ++ (lW z qL L))))))) (fun u : RT × RT => (fW z qX qP qK qN qL qG u.1 ++ (pW z qP P ++ (pW z qK K ++ (mW z qG qT G ++ (pW z qT u.2 ++ (nW z qN N ++ (lW z qL L)))))))) (fun (r : Int32) (u : RT × RT) => Q r u.1 u.2) := by
  refine CI.of rfl (Nat.le_of_ble_eq_true rfl) ?_
  intro p e s m below meth c A ls M hw hl
  have M : Mc p s m _ meth c cX6_up 4 (some .int) RX6 z A := M
  obtain ⟨hx, hb, -, -, hown, hts, -, -, -, hN, hsr, -⟩ := id M
  have hl : lv_has ls 4 [(0, .ref (qX 0)), (1, .int x1), (2, .int x2)] := hl
  unfold wX6_up at h
  generalize s.heap = H at hw ⊢
  generalize ([] : List Loc) = locs at hw ⊢
  refine lv_aload_n hx hb dX6_up_0 rfl (lv_at hl 0 rfl) ?_
  refine lv_iload_n hx hb dX6_up_1 rfl (lv_at hl 1 rfl) ?_
  refine lv_iload_n hx hb dX6_up_2 rfl (lv_at hl 2 rfl) ?_
  refine lv_bipush (v := 20) hx hb dX6_up_3 (by decide) ?_
  refine fr_Vi (wN := fun _ : Unit => (fW z qX qP qK qN qL qG F ++ (pW z qP P ++ (pW z qK K ++ (mW z qG qT G ++ (pW z qT T ++ (nW z qN N ++ (lW z qL L)))))))) M (m_X6_thingFault l z qX qL qN qG qP qK F P x1 x2 (20 : Int32) _ h) (cwV 3 hts (gdV cd_X6_thingFault ml_X6_123 im_X6_thingFault se_X6_thingFault in_X6) rfl rfl rfl hdV_X6_thingFault ⟨(Nat.le_of_ble_eq_true rfl), (Nat.le_of_ble_eq_true rfl)⟩) cut_19 prm_19 0 rfl rfl rfl hw rfl hl.1 rfl (Nat.le_of_ble_eq_true rfl) dX6_up_5 (fun r_1 u_ H locs h hw => ?_)
  have hw : Hw s z A (fW z qX qP qK qN qL qG F ++ (pW z qP P ++ (pW z qK K ++ (mW z qG qT G ++ (pW z qT T ++ (nW z qN N ++ (lW z qL L))))))) H locs := hw
  try dsimp only at h
  refine lv_istore_n (lv' := [(3, .int r_1), (0, .ref (qX 0)), (1, .int x1), (2, .int x2)]) hx hb dX6_up_8 rfl hl (by decide) rfl (fun ls hl => ?_)
  refine lv_iload_n hx hb dX6_up_9 rfl (lv_at hl 0 rfl) ?_
  refine lv_if_eq (tgt := 19) hx hb dX6_up_10 (by decide) (fun c_2 => ?_) (fun c_2 => ?_)
  · replace h := iT c_2 h
    refine lv_aload_n hx hb dX6_up_19 rfl (lv_at hl 1 rfl) ?_
    refine gt_f (v := .ref (qG 0)) M inlX6 hw 0 rfl rfl 5 (by decide) fl_X6_40 rfl rfl dX6_up_20 ?_
    refine lv_aload_n hx hb dX6_up_23 rfl (lv_at hl 1 rfl) ?_
    refine gt_f (v := .ref (qP 0)) M inlX6 hw 0 rfl rfl 0 (by decide) fl_X6_10 rfl rfl dX6_up_24 ?_
    refine lv_iload_n hx hb dX6_up_27 rfl (lv_at hl 2 rfl) ?_
    refine lv_iload_n hx hb dX6_up_28 rfl (lv_at hl 3 rfl) ?_
    refine fr_Vi (wN := fun u : RT => (fW z qX qP qK qN qL qG F ++ (pW z qP P ++ (pW z qK K ++ (mW z qG qT G ++ (pW z qT u ++ (nW z qN N ++ (lW z qL L)))))))) M (m_X1_whenUp l z qG qP qT G T P x1 x2 _ h) (cwV 3 hts (gdV cd_X1_whenUp ml_X6_141 im_X1_whenUp se_X1_whenUp in_X1) rfl rfl rfl hdV_X1_whenUp ⟨(Nat.le_of_ble_eq_true rfl), (Nat.le_of_ble_eq_true rfl)⟩) cut_13 prm_13 0 rfl rfl rfl hw rfl hl.1 rfl (Nat.le_of_ble_eq_true rfl) dX6_up_29 (fun r_4 u_ H locs h hw => ?_)
    obtain ⟨T_3, rfl⟩ : ∃ z9 : RT, z9 = u_ := ⟨_, rfl⟩
    have hw : Hw s z A (fW z qX qP qK qN qL qG F ++ (pW z qP P ++ (pW z qK K ++ (mW z qG qT G ++ (pW z qT T_3 ++ (nW z qN N ++ (lW z qL L))))))) H locs := hw
    try dsimp only at h
    exact rt_i M (F, T_3) hw h dX6_up_32
  · replace h := iF c_2 h
    refine lv_aload_n hx hb dX6_up_13 rfl (lv_at hl 1 rfl) ?_
    refine lv_iload_n hx hb dX6_up_14 rfl (lv_at hl 0 rfl) ?_
    refine fr_Vi (wN := fun u : RT => (fW z qX qP qK qN qL qG u ++ (pW z qP P ++ (pW z qK K ++ (mW z qG qT G ++ (pW z qT T ++ (nW z qN N ++ (lW z qL L)))))))) M (m_X6_refuse l z qX qL qN qG qP qK F r_1 _ h) (cwV 1 hts (gdV cd_X6_refuse ml_X6_56 im_X6_refuse se_X6_refuse in_X6) rfl rfl rfl hdV_X6_refuse ⟨(Nat.le_of_ble_eq_true rfl), (Nat.le_of_ble_eq_true rfl)⟩) cut_12 prm_12 0 rfl rfl rfl hw rfl hl.1 rfl (Nat.le_of_ble_eq_true rfl) dX6_up_15 (fun r_6 u_ H locs h hw => ?_)
    obtain ⟨F_5, rfl⟩ : ∃ z9 : RT, z9 = u_ := ⟨_, rfl⟩
    have hw : Hw s z A (fW z qX qP qK qN qL qG F_5 ++ (pW z qP P ++ (pW z qK K ++ (mW z qG qT G ++ (pW z qT T ++ (nW z qN N ++ (lW z qL L))))))) H locs := hw
    try dsimp only at h
    exact rt_i M (F_5, T) hw h dX6_up_18
abbrev rmX6_first : Room := { frames := 5, cells := 0, slots := 0, locals := 103 }
set_option maxHeartbeats 4000000 in
set_option maxRecDepth 100000 in
theorem m_X6_first (l : Launch) (z : KT) (qX : Nat → Nat) (qL : Nat → Nat) (qN : Nat → Nat) (qG : Nat → Nat) (qP : Nat → Nat) (qK : Nat → Nat) (qT : Nat → Nat) (F : RT) (P : RT) (K : RT) (G : RT) (T : RT) (N : RT) (L : RT) (x1 : Int32) (Q : Int32 → RT → RT → RT → Prop) (h : wX6_first F P K G T N L x1 Q) : CI l yX6_first cX6_first 2 .int rmX6_first z [.ref (qX 0), .int x1] (fW z qX qP qK qN qL qG F ++ (pW z qP P ++ (pW z qK K ++ (mW z qG qT G ++ (pW z qT T ++ (nW z qN N ++ (lW z qL L))))))) (fun u : RT × RT × RT => (fW z qX qP qK qN qL qG u.1 ++ (pW z qP P ++ (pW z qK K ++ (mW z qG qT u.2.1 ++ (pW z qT u.2.2 ++ (nW z qN N ++ (lW z qL L)))))))) (fun (r : Int32) (u : RT × RT × RT) => Q r u.1 u.2.1 u.2.2) := by
  refine CI.of rfl (Nat.le_of_ble_eq_true rfl) ?_
  intro p e s m below meth c A ls M hw hl
  have M : Mc p s m _ meth c cX6_first 2 (some .int) RX6 z A := M
  obtain ⟨hx, hb, -, -, hown, hts, -, -, -, hN, hsr, -⟩ := id M
  have hl : lv_has ls 2 [(0, .ref (qX 0)), (1, .int x1)] := hl
  unfold wX6_first at h
  generalize s.heap = H at hw ⊢
  generalize ([] : List Loc) = locs at hw ⊢
  refine lv_iload_n hx hb dX6_first_0 rfl (lv_at hl 1 rfl) ?_
  by_cases c_2 : x1 = (0 : Int32)
  · replace h := iT c_2 h
    refine lv_tableIn (tgt := 28) hx hb dX6_first_1 (by rw [c_2]; decide) (by rw [c_2]; decide) (by rw [c_2]; rfl) (by decide) ?_
    refine lv_aload_n hx hb dX6_first_28 rfl (lv_at hl 0 rfl) ?_
    refine gt_f (v := .ref (qG 0)) M inlX6 hw 0 rfl rfl 5 (by decide) fl_X6_40 rfl rfl dX6_first_29 ?_
    refine lv_aload_n hx hb dX6_first_32 rfl (lv_at hl 0 rfl) ?_
    refine gt_f (v := .ref (qP 0)) M inlX6 hw 0 rfl rfl 0 (by decide) fl_X6_10 rfl rfl dX6_first_33 ?_
    refine fr_Vi (wN := fun u : RT => (fW z qX qP qK qN qL qG F ++ (pW z qP P ++ (pW z qK K ++ (mW z qG qT G ++ (pW z qT u ++ (nW z qN N ++ (lW z qL L)))))))) M (m_X1_whoFirst l z qG qP qT G T P _ h) (cwV 1 hts (gdV cd_X1_whoFirst ml_X6_145 im_X1_whoFirst se_X1_whoFirst in_X1) rfl rfl rfl hdV_X1_whoFirst ⟨(Nat.le_of_ble_eq_true rfl), (Nat.le_of_ble_eq_true rfl)⟩) cut_13 prm_13 0 rfl rfl rfl hw rfl hl.1 rfl (Nat.le_of_ble_eq_true rfl) dX6_first_36 (fun r_4 u_ H locs h hw => ?_)
    obtain ⟨T_3, rfl⟩ : ∃ z9 : RT, z9 = u_ := ⟨_, rfl⟩
    have hw : Hw s z A (fW z qX qP qK qN qL qG F ++ (pW z qP P ++ (pW z qK K ++ (mW z qG qT G ++ (pW z qT T_3 ++ (nW z qN N ++ (lW z qL L))))))) H locs := hw
    try dsimp only at h
    exact rt_i M (F, G, T_3) hw h dX6_first_39
  replace h := iF c_2 h
  by_cases c_5 : x1 = (1 : Int32)
  · replace h := iT c_5 h
    refine lv_tableIn (tgt := 40) hx hb dX6_first_1 (by rw [c_5]; decide) (by rw [c_5]; decide) (by rw [c_5]; rfl) (by decide) ?_
    refine lv_aload_n hx hb dX6_first_40 rfl (lv_at hl 0 rfl) ?_
    refine gt_f (v := .ref (qG 0)) M inlX6 hw 0 rfl rfl 5 (by decide) fl_X6_40 rfl rfl dX6_first_41 ?_
    refine lv_aload_n hx hb dX6_first_44 rfl (lv_at hl 0 rfl) ?_
    refine gt_f (v := .ref (qP 0)) M inlX6 hw 0 rfl rfl 0 (by decide) fl_X6_10 rfl rfl dX6_first_45 ?_
    refine fr_Vi (wN := fun u : RT => (fW z qX qP qK qN qL qG F ++ (pW z qP P ++ (pW z qK K ++ (mW z qG qT G ++ (pW z qT u ++ (nW z qN N ++ (lW z qL L)))))))) M (m_X1_whenFirst l z qG qP qT G T P _ h) (cwV 1 hts (gdV cd_X1_whenFirst ml_X6_148 im_X1_whenFirst se_X1_whenFirst in_X1) rfl rfl rfl hdV_X1_whenFirst ⟨(Nat.le_of_ble_eq_true rfl), (Nat.le_of_ble_eq_true rfl)⟩) cut_13 prm_13 0 rfl rfl rfl hw rfl hl.1 rfl (Nat.le_of_ble_eq_true rfl) dX6_first_48 (fun r_7 u_ H locs h hw => ?_)
    obtain ⟨T_6, rfl⟩ : ∃ z9 : RT, z9 = u_ := ⟨_, rfl⟩
    have hw : Hw s z A (fW z qX qP qK qN qL qG F ++ (pW z qP P ++ (pW z qK K ++ (mW z qG qT G ++ (pW z qT T_6 ++ (nW z qN N ++ (lW z qL L))))))) H locs := hw
    try dsimp only at h
    exact rt_i M (F, G, T_6) hw h dX6_first_51
  replace h := iF c_5 h
  by_cases c_8 : x1 = (2 : Int32)
  · replace h := iT c_8 h
    refine lv_tableIn (tgt := 52) hx hb dX6_first_1 (by rw [c_8]; decide) (by rw [c_8]; decide) (by rw [c_8]; rfl) (by decide) ?_
    refine lv_aload_n hx hb dX6_first_52 rfl (lv_at hl 0 rfl) ?_
    refine gt_f (v := .ref (qG 0)) M inlX6 hw 0 rfl rfl 5 (by decide) fl_X6_40 rfl rfl dX6_first_53 ?_
    refine lv_aload_n hx hb dX6_first_56 rfl (lv_at hl 0 rfl) ?_
    refine gt_f (v := .ref (qP 0)) M inlX6 hw 0 rfl rfl 0 (by decide) fl_X6_10 rfl rfl dX6_first_57 ?_
    refine fr_Vi (wN := fun u : RT × RT => (fW z qX qP qK qN qL qG F ++ (pW z qP P ++ (pW z qK K ++ (mW z qG qT u.1 ++ (pW z qT u.2 ++ (nW z qN N ++ (lW z qL L)))))))) M (m_X1_whenRest l z qG qP qT G T P _ h) (cwV 1 hts (gdV cd_X1_whenRest ml_X6_151 im_X1_whenRest se_X1_whenRest in_X1) rfl rfl rfl hdV_X1_whenRest ⟨(Nat.le_of_ble_eq_true rfl), (Nat.le_of_ble_eq_true rfl)⟩) cut_21 prm_21 0 rfl rfl rfl hw rfl hl.1 rfl (Nat.le_of_ble_eq_true rfl) dX6_first_60 (fun r_11 u_ H locs h hw => ?_)
    obtain ⟨G_9, T_10⟩ := u_
    have hw : Hw s z A (fW z qX qP qK qN qL qG F ++ (pW z qP P ++ (pW z qK K ++ (mW z qG qT G_9 ++ (pW z qT T_10 ++ (nW z qN N ++ (lW z qL L))))))) H locs := hw
    try dsimp only at h
    exact rt_i M (F, G_9, T_10) hw h dX6_first_63
  replace h := iF c_8 h
  refine lv_tableOut (tgt := 64) hx hb dX6_first_1 (by have q0 := lv_neT (a := 0) c_2 (by decide); have q1 := lv_neT (a := 1) c_5 (by decide); have q2 := lv_neT (a := 2) c_8 (by decide); omega) (by decide) ?_
  refine lv_aload_n hx hb dX6_first_64 rfl (lv_at hl 0 rfl) ?_
  refine lv_bipush (v := -2) hx hb dX6_first_65 (by decide) ?_
  refine fr_Vi (wN := fun u : RT => (fW z qX qP qK qN qL qG u ++ (pW z qP P ++ (pW z qK K ++ (mW z qG qT G ++ (pW z qT T ++ (nW z qN N ++ (lW z qL L)))))))) M (m_X6_refuse l z qX qL qN qG qP qK F (-2 : Int32) _ h) (cwV 1 hts (gdV cd_X6_refuse ml_X6_56 im_X6_refuse se_X6_refuse in_X6) rfl rfl rfl hdV_X6_refuse ⟨(Nat.le_of_ble_eq_true rfl), (Nat.le_of_ble_eq_true rfl)⟩) cut_12 prm_12 0 rfl rfl rfl hw rfl hl.1 rfl (Nat.le_of_ble_eq_true rfl) dX6_first_67 (fun r_13 u_ H locs h hw => ?_)
  obtain ⟨F_12, rfl⟩ : ∃ z9 : RT, z9 = u_ := ⟨_, rfl⟩
  have hw : Hw s z A (fW z qX qP qK qN qL qG F_12 ++ (pW z qP P ++ (pW z qK K ++ (mW z qG qT G ++ (pW z qT T ++ (nW z qN N ++ (lW z qL L))))))) H locs := hw
  try dsimp only at h
  exact rt_i M (F_12, G, T) hw h dX6_first_70
abbrev rmX6_changes : Room := { frames := 4, cells := 0, slots := 0, locals := 84 }
set_option maxHeartbeats 4000000 in
set_option maxRecDepth 100000 in
theorem m_X6_changes (l : Launch) (z : KT) (qX : Nat → Nat) (qL : Nat → Nat) (qN : Nat → Nat) (qG : Nat → Nat) (qP : Nat → Nat) (qK : Nat → Nat) (qT : Nat → Nat) (F : RT) (P : RT) (K : RT) (G : RT) (T : RT) (N : RT) (L : RT) (x1 : Int32) (Q : Int32 → RT → RT → Prop) (h : wX6_changes F P K G T N L x1 Q) : CI l yX6_changes cX6_changes 2 .int rmX6_changes z [.ref (qX 0), .int x1] (fW z qX qP qK qN qL qG F ++ (pW z qP P ++ (pW z qK K ++ (mW z qG qT G ++ (pW z qT T ++ (nW z qN N ++ (lW z qL L))))))) (fun u : RT × RT => (fW z qX qP qK qN qL qG u.1 ++ (pW z qP P ++ (pW z qK K ++ (mW z qG qT G ++ (pW z qT u.2 ++ (nW z qN N ++ (lW z qL L)))))))) (fun (r : Int32) (u : RT × RT) => Q r u.1 u.2) := by
  refine CI.of rfl (Nat.le_of_ble_eq_true rfl) ?_
  intro p e s m below meth c A ls M hw hl
  have M : Mc p s m _ meth c cX6_changes 2 (some .int) RX6 z A := M
  obtain ⟨hx, hb, -, -, hown, hts, -, -, -, hN, hsr, -⟩ := id M
  have hl : lv_has ls 2 [(0, .ref (qX 0)), (1, .int x1)] := hl
  unfold wX6_changes at h
  generalize s.heap = H at hw ⊢
  generalize ([] : List Loc) = locs at hw ⊢
  refine lv_aload_n hx hb dX6_changes_0 rfl (lv_at hl 0 rfl) ?_
  refine gt_f (v := .ref (qP 0)) M inlX6 hw 0 rfl rfl 0 (by decide) fl_X6_10 rfl rfl dX6_changes_1 ?_
  refine lv_iload_n hx hb dX6_changes_4 rfl (lv_at hl 1 rfl) ?_
  refine fr_Vi (wN := fun _ : Unit => (fW z qX qP qK qN qL qG F ++ (pW z qP P ++ (pW z qK K ++ (mW z qG qT G ++ (pW z qT T ++ (nW z qN N ++ (lW z qL L)))))))) M (m_X3_hasRope l z qP P x1 _ h) (cwV 1 hts (gdV cd_X3_hasRope ml_X6_97 im_X3_hasRope se_X3_hasRope in_X3) rfl rfl rfl hdV_X3_hasRope ⟨(Nat.le_of_ble_eq_true rfl), (Nat.le_of_ble_eq_true rfl)⟩) cut_16 prm_16 0 rfl rfl rfl hw rfl hl.1 rfl (Nat.le_of_ble_eq_true rfl) dX6_changes_5 (fun r_1 u_ H locs h hw => ?_)
  have hw : Hw s z A (fW z qX qP qK qN qL qG F ++ (pW z qP P ++ (pW z qK K ++ (mW z qG qT G ++ (pW z qT T ++ (nW z qN N ++ (lW z qL L))))))) H locs := hw
  try dsimp only at h
  refine lv_if_ne (tgt := 17) hx hb dX6_changes_8 (by decide) (fun c_2 => ?_) (fun c_2 => ?_)
  · replace h := iF c_2 h
    refine lv_aload_n hx hb dX6_changes_17 rfl (lv_at hl 0 rfl) ?_
    refine gt_f (v := .ref (qG 0)) M inlX6 hw 0 rfl rfl 5 (by decide) fl_X6_40 rfl rfl dX6_changes_18 ?_
    refine lv_aload_n hx hb dX6_changes_21 rfl (lv_at hl 0 rfl) ?_
    refine gt_f (v := .ref (qP 0)) M inlX6 hw 0 rfl rfl 0 (by decide) fl_X6_10 rfl rfl dX6_changes_22 ?_
    refine lv_iload_n hx hb dX6_changes_25 rfl (lv_at hl 1 rfl) ?_
    refine fr_Vi (wN := fun u : RT => (fW z qX qP qK qN qL qG F ++ (pW z qP P ++ (pW z qK K ++ (mW z qG qT G ++ (pW z qT u ++ (nW z qN N ++ (lW z qL L)))))))) M (m_X1_whenOtherwise l z qG qP qT G T P x1 _ h) (cwV 2 hts (gdV cd_X1_whenOtherwise ml_X6_154 im_X1_whenOtherwise se_X1_whenOtherwise in_X1) rfl rfl rfl hdV_X1_whenOtherwise ⟨(Nat.le_of_ble_eq_true rfl), (Nat.le_of_ble_eq_true rfl)⟩) cut_13 prm_13 0 rfl rfl rfl hw rfl hl.1 rfl (Nat.le_of_ble_eq_true rfl) dX6_changes_26 (fun r_4 u_ H locs h hw => ?_)
    obtain ⟨T_3, rfl⟩ : ∃ z9 : RT, z9 = u_ := ⟨_, rfl⟩
    have hw : Hw s z A (fW z qX qP qK qN qL qG F ++ (pW z qP P ++ (pW z qK K ++ (mW z qG qT G ++ (pW z qT T_3 ++ (nW z qN N ++ (lW z qL L))))))) H locs := hw
    try dsimp only at h
    exact rt_i M (F, T_3) hw h dX6_changes_29
  · replace h := iT c_2 h
    refine lv_aload_n hx hb dX6_changes_11 rfl (lv_at hl 0 rfl) ?_
    refine lv_iconst (v := -1) hx hb dX6_changes_12 (by decide) ?_
    refine fr_Vi (wN := fun u : RT => (fW z qX qP qK qN qL qG u ++ (pW z qP P ++ (pW z qK K ++ (mW z qG qT G ++ (pW z qT T ++ (nW z qN N ++ (lW z qL L)))))))) M (m_X6_refuse l z qX qL qN qG qP qK F (-1 : Int32) _ h) (cwV 1 hts (gdV cd_X6_refuse ml_X6_56 im_X6_refuse se_X6_refuse in_X6) rfl rfl rfl hdV_X6_refuse ⟨(Nat.le_of_ble_eq_true rfl), (Nat.le_of_ble_eq_true rfl)⟩) cut_12 prm_12 0 rfl rfl rfl hw rfl hl.1 rfl (Nat.le_of_ble_eq_true rfl) dX6_changes_13 (fun r_6 u_ H locs h hw => ?_)
    obtain ⟨F_5, rfl⟩ : ∃ z9 : RT, z9 = u_ := ⟨_, rfl⟩
    have hw : Hw s z A (fW z qX qP qK qN qL qG F_5 ++ (pW z qP P ++ (pW z qK K ++ (mW z qG qT G ++ (pW z qT T ++ (nW z qN N ++ (lW z qL L))))))) H locs := hw
    try dsimp only at h
    exact rt_i M (F_5, T) hw h dX6_changes_16
abbrev rmX6_aimFault : Room := { frames := 1, cells := 0, slots := 0, locals := 21 }
set_option maxHeartbeats 4000000 in
set_option maxRecDepth 100000 in
theorem m_X6_aimFault (l : Launch) (z : KT) (qX : Nat → Nat) (qL : Nat → Nat) (qN : Nat → Nat) (qG : Nat → Nat) (qP : Nat → Nat) (qK : Nat → Nat) (F : RT) (P : RT) (x1 : Int32) (x2 : Int32) (x3 : Int32) (Q : Int32 → Prop) (h : wX6_aimFault F P x1 x2 x3 Q) : CI l yX6_aimFault cX6_aimFault 4 .int rmX6_aimFault z [.ref (qX 0), .int x1, .int x2, .int x3] (fW z qX qP qK qN qL qG F ++ (pW z qP P)) (fun _ : Unit => (fW z qX qP qK qN qL qG F ++ (pW z qP P))) (fun (r : Int32) (_ : Unit) => Q r) := by
  refine CI.of rfl (Nat.le_of_ble_eq_true rfl) ?_
  intro p e s m below meth c A ls M hw hl
  have M : Mc p s m _ meth c cX6_aimFault 4 (some .int) RX6 z A := M
  obtain ⟨hx, hb, -, -, hown, hts, -, -, -, hN, hsr, -⟩ := id M
  have hl : lv_has ls 4 [(0, .ref (qX 0)), (1, .int x1), (2, .int x2), (3, .int x3)] := hl
  unfold wX6_aimFault at h
  generalize s.heap = H at hw ⊢
  generalize ([] : List Loc) = locs at hw ⊢
  refine lv_aload_n hx hb dX6_aimFault_0 rfl (lv_at hl 0 rfl) ?_
  refine gt_f (v := .ref (qP 0)) M inlX6 hw 0 rfl rfl 0 (by decide) fl_X6_10 rfl rfl dX6_aimFault_1 ?_
  refine lv_iload_n hx hb dX6_aimFault_4 rfl (lv_at hl 1 rfl) ?_
  refine fr_Vi (wN := fun _ : Unit => (fW z qX qP qK qN qL qG F ++ (pW z qP P))) M (m_X3_hasThing l z qP P x1 _ h) (cwV 1 hts (gdV cd_X3_hasThing ml_X6_75 im_X3_hasThing se_X3_hasThing in_X3) rfl rfl rfl hdV_X3_hasThing ⟨(Nat.le_of_ble_eq_true rfl), (Nat.le_of_ble_eq_true rfl)⟩) cut_18 prm_18 0 rfl rfl rfl hw rfl hl.1 rfl (Nat.le_of_ble_eq_true rfl) dX6_aimFault_5 (fun r_1 u_ H locs h hw => ?_)
  have hw : Hw s z A (fW z qX qP qK qN qL qG F ++ (pW z qP P)) H locs := hw
  try dsimp only at h
  refine lv_if_ne (tgt := 13) hx hb dX6_aimFault_8 (by decide) (fun c_2 => ?_) (fun c_2 => ?_)
  · replace h := iF c_2 h
    refine lv_iload_n hx hb dX6_aimFault_13 rfl (lv_at hl 2 rfl) ?_
    refine lv_if_lt (tgt := 21) hx hb dX6_aimFault_14 (by decide) (fun c_3 => ?_) (fun c_3 => ?_)
    · replace h := iT c_3 h
      refine lv_bipush (v := -4) hx hb dX6_aimFault_21 (by decide) ?_
      exact rt_i M () hw h dX6_aimFault_23
    · replace h := iF c_3 h
      refine lv_iload_n hx hb dX6_aimFault_17 rfl (lv_at hl 3 rfl) ?_
      refine lv_if_ge (tgt := 24) hx hb dX6_aimFault_18 (by decide) (fun c_4 => ?_) (fun c_4 => ?_)
      · replace h := iT c_4 h
        refine lv_iload_n hx hb dX6_aimFault_24 rfl (lv_at hl 2 rfl) ?_
        refine lv_bipush (v := 20) hx hb dX6_aimFault_25 (by decide) ?_
        refine lv_icmp_gt (tgt := 36) hx hb dX6_aimFault_27 (by decide) (fun c_5 => ?_) (fun c_5 => ?_)
        · replace h := iT c_5 h
          refine lv_bipush (v := -6) hx hb dX6_aimFault_36 (by decide) ?_
          refine lv_goto (tgt := 42) hx hb dX6_aimFault_38 (by decide) ?_
          exact rt_i M () hw h dX6_aimFault_42
        · replace h := iF c_5 h
          refine lv_iload_n hx hb dX6_aimFault_30 rfl (lv_at hl 3 rfl) ?_
          refine lv_bipush (v := 30) hx hb dX6_aimFault_31 (by decide) ?_
          refine lv_icmp_le (tgt := 41) hx hb dX6_aimFault_33 (by decide) (fun c_6 => ?_) (fun c_6 => ?_)
          · replace h := iT c_6 h
            refine lv_iconst (v := 0) hx hb dX6_aimFault_41 (by decide) ?_
            exact rt_i M () hw h dX6_aimFault_42
          · replace h := iF c_6 h
            refine lv_bipush (v := -6) hx hb dX6_aimFault_36 (by decide) ?_
            refine lv_goto (tgt := 42) hx hb dX6_aimFault_38 (by decide) ?_
            exact rt_i M () hw h dX6_aimFault_42
      · replace h := iF c_4 h
        refine lv_bipush (v := -4) hx hb dX6_aimFault_21 (by decide) ?_
        exact rt_i M () hw h dX6_aimFault_23
  · replace h := iT c_2 h
    refine lv_iconst (v := -1) hx hb dX6_aimFault_11 (by decide) ?_
    exact rt_i M () hw h dX6_aimFault_12
abbrev rmX6_throwsDown : Room := { frames := 5, cells := 0, slots := 0, locals := 120 }
set_option maxHeartbeats 4000000 in
set_option maxRecDepth 100000 in
theorem m_X6_throwsDown (l : Launch) (z : KT) (qX : Nat → Nat) (qL : Nat → Nat) (qN : Nat → Nat) (qG : Nat → Nat) (qP : Nat → Nat) (qK : Nat → Nat) (qT : Nat → Nat) (F : RT) (P : RT) (K : RT) (G : RT) (T : RT) (N : RT) (L : RT) (x1 : Int32) (x2 : Int32) (x3 : Int32) (Q : Int32 → RT → RT → Prop) (h : wX6_throwsDown F P K G T N L x1 x2 x3 Q) : CI l yX6_throwsDown cX6_throwsDown 5 .int rmX6_throwsDown z [.ref (qX 0), .int x1, .int x2, .int x3] (fW z qX qP qK qN qL qG F ++ (pW z qP P ++ (pW z qK K ++ (mW z qG qT G ++ (pW z qT T ++ (nW z qN N ++ (lW z qL L))))))) (fun u : RT × RT => (fW z qX qP qK qN qL qG u.1 ++ (pW z qP P ++ (pW z qK K ++ (mW z qG qT G ++ (pW z qT u.2 ++ (nW z qN N ++ (lW z qL L)))))))) (fun (r : Int32) (u : RT × RT) => Q r u.1 u.2) := by
  refine CI.of rfl (Nat.le_of_ble_eq_true rfl) ?_
  intro p e s m below meth c A ls M hw hl
  have M : Mc p s m _ meth c cX6_throwsDown 5 (some .int) RX6 z A := M
  obtain ⟨hx, hb, -, -, hown, hts, -, -, -, hN, hsr, -⟩ := id M
  have hl : lv_has ls 5 [(0, .ref (qX 0)), (1, .int x1), (2, .int x2), (3, .int x3)] := hl
  unfold wX6_throwsDown at h
  generalize s.heap = H at hw ⊢
  generalize ([] : List Loc) = locs at hw ⊢
  refine lv_aload_n hx hb dX6_throwsDown_0 rfl (lv_at hl 0 rfl) ?_
  refine lv_iload_n hx hb dX6_throwsDown_1 rfl (lv_at hl 1 rfl) ?_
  refine lv_iload_n hx hb dX6_throwsDown_2 rfl (lv_at hl 2 rfl) ?_
  refine lv_iload_n hx hb dX6_throwsDown_3 rfl (lv_at hl 3 rfl) ?_
  refine fr_Vi (wN := fun _ : Unit => (fW z qX qP qK qN qL qG F ++ (pW z qP P ++ (pW z qK K ++ (mW z qG qT G ++ (pW z qT T ++ (nW z qN N ++ (lW z qL L)))))))) M (m_X6_aimFault l z qX qL qN qG qP qK F P x1 x2 x3 _ h) (cwV 3 hts (gdV cd_X6_aimFault ml_X6_158 im_X6_aimFault se_X6_aimFault in_X6) rfl rfl rfl hdV_X6_aimFault ⟨(Nat.le_of_ble_eq_true rfl), (Nat.le_of_ble_eq_true rfl)⟩) cut_19 prm_19 0 rfl rfl rfl hw rfl hl.1 rfl (Nat.le_of_ble_eq_true rfl) dX6_throwsDown_4 (fun r_1 u_ H locs h hw => ?_)
  have hw : Hw s z A (fW z qX qP qK qN qL qG F ++ (pW z qP P ++ (pW z qK K ++ (mW z qG qT G ++ (pW z qT T ++ (nW z qN N ++ (lW z qL L))))))) H locs := hw
  try dsimp only at h
  refine lv_istore (lv' := [(4, .int r_1), (0, .ref (qX 0)), (1, .int x1), (2, .int x2), (3, .int x3)]) hx hb dX6_throwsDown_7 hl (by decide) rfl (fun ls hl => ?_)
  refine lv_iload hx hb dX6_throwsDown_9 (lv_at hl 0 rfl) ?_
  refine lv_if_eq (tgt := 21) hx hb dX6_throwsDown_11 (by decide) (fun c_2 => ?_) (fun c_2 => ?_)
  · replace h := iT c_2 h
    refine lv_aload_n hx hb dX6_throwsDown_21 rfl (lv_at hl 1 rfl) ?_
    refine gt_f (v := .ref (qG 0)) M inlX6 hw 0 rfl rfl 5 (by decide) fl_X6_40 rfl rfl dX6_throwsDown_22 ?_
    refine lv_aload_n hx hb dX6_throwsDown_25 rfl (lv_at hl 1 rfl) ?_
    refine gt_f (v := .ref (qP 0)) M inlX6 hw 0 rfl rfl 0 (by decide) fl_X6_10 rfl rfl dX6_throwsDown_26 ?_
    refine lv_iload_n hx hb dX6_throwsDown_29 rfl (lv_at hl 2 rfl) ?_
    refine lv_iload_n hx hb dX6_throwsDown_30 rfl (lv_at hl 3 rfl) ?_
    refine lv_iload_n hx hb dX6_throwsDown_31 rfl (lv_at hl 4 rfl) ?_
    refine fr_Vi (wN := fun u : RT => (fW z qX qP qK qN qL qG F ++ (pW z qP P ++ (pW z qK K ++ (mW z qG qT G ++ (pW z qT u ++ (nW z qN N ++ (lW z qL L)))))))) M (m_X1_fewestLess l z qG qP qT G T P x1 x2 x3 _ h) (cwV 4 hts (gdV cd_X1_fewestLess ml_X6_161 im_X1_fewestLess se_X1_fewestLess in_X1) rfl rfl rfl hdV_X1_fewestLess ⟨(Nat.le_of_ble_eq_true rfl), (Nat.le_of_ble_eq_true rfl)⟩) cut_13 prm_13 0 rfl rfl rfl hw rfl hl.1 rfl (Nat.le_of_ble_eq_true rfl) dX6_throwsDown_32 (fun r_4 u_ H locs h hw => ?_)
    obtain ⟨T_3, rfl⟩ : ∃ z9 : RT, z9 = u_ := ⟨_, rfl⟩
    have hw : Hw s z A (fW z qX qP qK qN qL qG F ++ (pW z qP P ++ (pW z qK K ++ (mW z qG qT G ++ (pW z qT T_3 ++ (nW z qN N ++ (lW z qL L))))))) H locs := hw
    try dsimp only at h
    exact rt_i M (F, T_3) hw h dX6_throwsDown_35
  · replace h := iF c_2 h
    refine lv_aload_n hx hb dX6_throwsDown_14 rfl (lv_at hl 1 rfl) ?_
    refine lv_iload hx hb dX6_throwsDown_15 (lv_at hl 0 rfl) ?_
    refine fr_Vi (wN := fun u : RT => (fW z qX qP qK qN qL qG u ++ (pW z qP P ++ (pW z qK K ++ (mW z qG qT G ++ (pW z qT T ++ (nW z qN N ++ (lW z qL L)))))))) M (m_X6_refuse l z qX qL qN qG qP qK F r_1 _ h) (cwV 1 hts (gdV cd_X6_refuse ml_X6_56 im_X6_refuse se_X6_refuse in_X6) rfl rfl rfl hdV_X6_refuse ⟨(Nat.le_of_ble_eq_true rfl), (Nat.le_of_ble_eq_true rfl)⟩) cut_12 prm_12 0 rfl rfl rfl hw rfl hl.1 rfl (Nat.le_of_ble_eq_true rfl) dX6_throwsDown_17 (fun r_6 u_ H locs h hw => ?_)
    obtain ⟨F_5, rfl⟩ : ∃ z9 : RT, z9 = u_ := ⟨_, rfl⟩
    have hw : Hw s z A (fW z qX qP qK qN qL qG F_5 ++ (pW z qP P ++ (pW z qK K ++ (mW z qG qT G ++ (pW z qT T ++ (nW z qN N ++ (lW z qL L))))))) H locs := hw
    try dsimp only at h
    exact rt_i M (F_5, T) hw h dX6_throwsDown_20
abbrev rmX6_takesUp : Room := { frames := 5, cells := 0, slots := 0, locals := 120 }
set_option maxHeartbeats 4000000 in
set_option maxRecDepth 100000 in
theorem m_X6_takesUp (l : Launch) (z : KT) (qX : Nat → Nat) (qL : Nat → Nat) (qN : Nat → Nat) (qG : Nat → Nat) (qP : Nat → Nat) (qK : Nat → Nat) (qT : Nat → Nat) (F : RT) (P : RT) (K : RT) (G : RT) (T : RT) (N : RT) (L : RT) (x1 : Int32) (x2 : Int32) (x3 : Int32) (Q : Int32 → RT → RT → Prop) (h : wX6_takesUp F P K G T N L x1 x2 x3 Q) : CI l yX6_takesUp cX6_takesUp 5 .int rmX6_takesUp z [.ref (qX 0), .int x1, .int x2, .int x3] (fW z qX qP qK qN qL qG F ++ (pW z qP P ++ (pW z qK K ++ (mW z qG qT G ++ (pW z qT T ++ (nW z qN N ++ (lW z qL L))))))) (fun u : RT × RT => (fW z qX qP qK qN qL qG u.1 ++ (pW z qP P ++ (pW z qK K ++ (mW z qG qT G ++ (pW z qT u.2 ++ (nW z qN N ++ (lW z qL L)))))))) (fun (r : Int32) (u : RT × RT) => Q r u.1 u.2) := by
  refine CI.of rfl (Nat.le_of_ble_eq_true rfl) ?_
  intro p e s m below meth c A ls M hw hl
  have M : Mc p s m _ meth c cX6_takesUp 5 (some .int) RX6 z A := M
  obtain ⟨hx, hb, -, -, hown, hts, -, -, -, hN, hsr, -⟩ := id M
  have hl : lv_has ls 5 [(0, .ref (qX 0)), (1, .int x1), (2, .int x2), (3, .int x3)] := hl
  unfold wX6_takesUp at h
  generalize s.heap = H at hw ⊢
  generalize ([] : List Loc) = locs at hw ⊢
  refine lv_aload_n hx hb dX6_takesUp_0 rfl (lv_at hl 0 rfl) ?_
  refine lv_iload_n hx hb dX6_takesUp_1 rfl (lv_at hl 1 rfl) ?_
  refine lv_iload_n hx hb dX6_takesUp_2 rfl (lv_at hl 2 rfl) ?_
  refine lv_iload_n hx hb dX6_takesUp_3 rfl (lv_at hl 3 rfl) ?_
  refine fr_Vi (wN := fun _ : Unit => (fW z qX qP qK qN qL qG F ++ (pW z qP P ++ (pW z qK K ++ (mW z qG qT G ++ (pW z qT T ++ (nW z qN N ++ (lW z qL L)))))))) M (m_X6_aimFault l z qX qL qN qG qP qK F P x1 x2 x3 _ h) (cwV 3 hts (gdV cd_X6_aimFault ml_X6_158 im_X6_aimFault se_X6_aimFault in_X6) rfl rfl rfl hdV_X6_aimFault ⟨(Nat.le_of_ble_eq_true rfl), (Nat.le_of_ble_eq_true rfl)⟩) cut_19 prm_19 0 rfl rfl rfl hw rfl hl.1 rfl (Nat.le_of_ble_eq_true rfl) dX6_takesUp_4 (fun r_1 u_ H locs h hw => ?_)
  have hw : Hw s z A (fW z qX qP qK qN qL qG F ++ (pW z qP P ++ (pW z qK K ++ (mW z qG qT G ++ (pW z qT T ++ (nW z qN N ++ (lW z qL L))))))) H locs := hw
  try dsimp only at h
  refine lv_istore (lv' := [(4, .int r_1), (0, .ref (qX 0)), (1, .int x1), (2, .int x2), (3, .int x3)]) hx hb dX6_takesUp_7 hl (by decide) rfl (fun ls hl => ?_)
  refine lv_iload hx hb dX6_takesUp_9 (lv_at hl 0 rfl) ?_
  refine lv_if_eq (tgt := 21) hx hb dX6_takesUp_11 (by decide) (fun c_2 => ?_) (fun c_2 => ?_)
  · replace h := iT c_2 h
    refine lv_aload_n hx hb dX6_takesUp_21 rfl (lv_at hl 1 rfl) ?_
    refine gt_f (v := .ref (qG 0)) M inlX6 hw 0 rfl rfl 5 (by decide) fl_X6_40 rfl rfl dX6_takesUp_22 ?_
    refine lv_aload_n hx hb dX6_takesUp_25 rfl (lv_at hl 1 rfl) ?_
    refine gt_f (v := .ref (qP 0)) M inlX6 hw 0 rfl rfl 0 (by decide) fl_X6_10 rfl rfl dX6_takesUp_26 ?_
    refine lv_iload_n hx hb dX6_takesUp_29 rfl (lv_at hl 2 rfl) ?_
    refine lv_iload_n hx hb dX6_takesUp_30 rfl (lv_at hl 3 rfl) ?_
    refine lv_iload_n hx hb dX6_takesUp_31 rfl (lv_at hl 4 rfl) ?_
    refine fr_Vi (wN := fun u : RT => (fW z qX qP qK qN qL qG F ++ (pW z qP P ++ (pW z qK K ++ (mW z qG qT G ++ (pW z qT u ++ (nW z qN N ++ (lW z qL L)))))))) M (m_X1_fewestMore l z qG qP qT G T P x1 x2 x3 _ h) (cwV 4 hts (gdV cd_X1_fewestMore ml_X6_165 im_X1_fewestMore se_X1_fewestMore in_X1) rfl rfl rfl hdV_X1_fewestMore ⟨(Nat.le_of_ble_eq_true rfl), (Nat.le_of_ble_eq_true rfl)⟩) cut_13 prm_13 0 rfl rfl rfl hw rfl hl.1 rfl (Nat.le_of_ble_eq_true rfl) dX6_takesUp_32 (fun r_4 u_ H locs h hw => ?_)
    obtain ⟨T_3, rfl⟩ : ∃ z9 : RT, z9 = u_ := ⟨_, rfl⟩
    have hw : Hw s z A (fW z qX qP qK qN qL qG F ++ (pW z qP P ++ (pW z qK K ++ (mW z qG qT G ++ (pW z qT T_3 ++ (nW z qN N ++ (lW z qL L))))))) H locs := hw
    try dsimp only at h
    exact rt_i M (F, T_3) hw h dX6_takesUp_35
  · replace h := iF c_2 h
    refine lv_aload_n hx hb dX6_takesUp_14 rfl (lv_at hl 1 rfl) ?_
    refine lv_iload hx hb dX6_takesUp_15 (lv_at hl 0 rfl) ?_
    refine fr_Vi (wN := fun u : RT => (fW z qX qP qK qN qL qG u ++ (pW z qP P ++ (pW z qK K ++ (mW z qG qT G ++ (pW z qT T ++ (nW z qN N ++ (lW z qL L)))))))) M (m_X6_refuse l z qX qL qN qG qP qK F r_1 _ h) (cwV 1 hts (gdV cd_X6_refuse ml_X6_56 im_X6_refuse se_X6_refuse in_X6) rfl rfl rfl hdV_X6_refuse ⟨(Nat.le_of_ble_eq_true rfl), (Nat.le_of_ble_eq_true rfl)⟩) cut_12 prm_12 0 rfl rfl rfl hw rfl hl.1 rfl (Nat.le_of_ble_eq_true rfl) dX6_takesUp_17 (fun r_6 u_ H locs h hw => ?_)
    obtain ⟨F_5, rfl⟩ : ∃ z9 : RT, z9 = u_ := ⟨_, rfl⟩
    have hw : Hw s z A (fW z qX qP qK qN qL qG F_5 ++ (pW z qP P ++ (pW z qK K ++ (mW z qG qT G ++ (pW z qT T ++ (nW z qN N ++ (lW z qL L))))))) H locs := hw
    try dsimp only at h
    exact rt_i M (F_5, T) hw h dX6_takesUp_20
abbrev rmX6_bestTie : Room := { frames := 5, cells := 0, slots := 0, locals := 119 }
set_option maxHeartbeats 4000000 in
set_option maxRecDepth 100000 in
theorem m_X6_bestTie (l : Launch) (z : KT) (qX : Nat → Nat) (qL : Nat → Nat) (qN : Nat → Nat) (qG : Nat → Nat) (qP : Nat → Nat) (qK : Nat → Nat) (qT : Nat → Nat) (F : RT) (P : RT) (K : RT) (G : RT) (T : RT) (N : RT) (L : RT) (x1 : Int32) (x2 : Int32) (Q : Int32 → RT → RT → Prop) (h : wX6_bestTie F P K G T N L x1 x2 Q) : CI l yX6_bestTie cX6_bestTie 4 .int rmX6_bestTie z [.ref (qX 0), .int x1, .int x2] (fW z qX qP qK qN qL qG F ++ (pW z qP P ++ (pW z qK K ++ (mW z qG qT G ++ (pW z qT T ++ (nW z qN N ++ (lW z qL L))))))) (fun u : RT × RT => (fW z qX qP qK qN qL qG u.1 ++ (pW z qP P ++ (pW z qK K ++ (mW z qG qT G ++ (pW z qT u.2 ++ (nW z qN N ++ (lW z qL L)))))))) (fun (r : Int32) (u : RT × RT) => Q r u.1 u.2) := by
  refine CI.of rfl (Nat.le_of_ble_eq_true rfl) ?_
  intro p e s m below meth c A ls M hw hl
  have M : Mc p s m _ meth c cX6_bestTie 4 (some .int) RX6 z A := M
  obtain ⟨hx, hb, -, -, hown, hts, -, -, -, hN, hsr, -⟩ := id M
  have hl : lv_has ls 4 [(0, .ref (qX 0)), (1, .int x1), (2, .int x2)] := hl
  unfold wX6_bestTie at h
  generalize s.heap = H at hw ⊢
  generalize ([] : List Loc) = locs at hw ⊢
  refine lv_aload_n hx hb dX6_bestTie_0 rfl (lv_at hl 0 rfl) ?_
  refine lv_iload_n hx hb dX6_bestTie_1 rfl (lv_at hl 1 rfl) ?_
  refine lv_iload_n hx hb dX6_bestTie_2 rfl (lv_at hl 2 rfl) ?_
  refine lv_bipush (v := 30) hx hb dX6_bestTie_3 (by decide) ?_
  refine fr_Vi (wN := fun _ : Unit => (fW z qX qP qK qN qL qG F ++ (pW z qP P ++ (pW z qK K ++ (mW z qG qT G ++ (pW z qT T ++ (nW z qN N ++ (lW z qL L)))))))) M (m_X6_thingFault l z qX qL qN qG qP qK F P x1 x2 (30 : Int32) _ h) (cwV 3 hts (gdV cd_X6_thingFault ml_X6_123 im_X6_thingFault se_X6_thingFault in_X6) rfl rfl rfl hdV_X6_thingFault ⟨(Nat.le_of_ble_eq_true rfl), (Nat.le_of_ble_eq_true rfl)⟩) cut_19 prm_19 0 rfl rfl rfl hw rfl hl.1 rfl (Nat.le_of_ble_eq_true rfl) dX6_bestTie_5 (fun r_1 u_ H locs h hw => ?_)
  have hw : Hw s z A (fW z qX qP qK qN qL qG F ++ (pW z qP P ++ (pW z qK K ++ (mW z qG qT G ++ (pW z qT T ++ (nW z qN N ++ (lW z qL L))))))) H locs := hw
  try dsimp only at h
  refine lv_istore_n (lv' := [(3, .int r_1), (0, .ref (qX 0)), (1, .int x1), (2, .int x2)]) hx hb dX6_bestTie_8 rfl hl (by decide) rfl (fun ls hl => ?_)
  refine lv_iload_n hx hb dX6_bestTie_9 rfl (lv_at hl 0 rfl) ?_
  refine lv_if_eq (tgt := 19) hx hb dX6_bestTie_10 (by decide) (fun c_2 => ?_) (fun c_2 => ?_)
  · replace h := iT c_2 h
    refine lv_aload_n hx hb dX6_bestTie_19 rfl (lv_at hl 1 rfl) ?_
    refine gt_f (v := .ref (qG 0)) M inlX6 hw 0 rfl rfl 5 (by decide) fl_X6_40 rfl rfl dX6_bestTie_20 ?_
    refine lv_aload_n hx hb dX6_bestTie_23 rfl (lv_at hl 1 rfl) ?_
    refine gt_f (v := .ref (qP 0)) M inlX6 hw 0 rfl rfl 0 (by decide) fl_X6_10 rfl rfl dX6_bestTie_24 ?_
    refine lv_iload_n hx hb dX6_bestTie_27 rfl (lv_at hl 2 rfl) ?_
    refine lv_iload_n hx hb dX6_bestTie_28 rfl (lv_at hl 3 rfl) ?_
    refine fr_Vi (wN := fun u : RT => (fW z qX qP qK qN qL qG F ++ (pW z qP P ++ (pW z qK K ++ (mW z qG qT G ++ (pW z qT u ++ (nW z qN N ++ (lW z qL L)))))))) M (m_X1_highestByTie l z qG qP qT G T P x1 x2 _ h) (cwV 3 hts (gdV cd_X1_highestByTie ml_X6_168 im_X1_highestByTie se_X1_highestByTie in_X1) rfl rfl rfl hdV_X1_highestByTie ⟨(Nat.le_of_ble_eq_true rfl), (Nat.le_of_ble_eq_true rfl)⟩) cut_13 prm_13 0 rfl rfl rfl hw rfl hl.1 rfl (Nat.le_of_ble_eq_true rfl) dX6_bestTie_29 (fun r_4 u_ H locs h hw => ?_)
    obtain ⟨T_3, rfl⟩ : ∃ z9 : RT, z9 = u_ := ⟨_, rfl⟩
    have hw : Hw s z A (fW z qX qP qK qN qL qG F ++ (pW z qP P ++ (pW z qK K ++ (mW z qG qT G ++ (pW z qT T_3 ++ (nW z qN N ++ (lW z qL L))))))) H locs := hw
    try dsimp only at h
    exact rt_i M (F, T_3) hw h dX6_bestTie_32
  · replace h := iF c_2 h
    refine lv_aload_n hx hb dX6_bestTie_13 rfl (lv_at hl 1 rfl) ?_
    refine lv_iload_n hx hb dX6_bestTie_14 rfl (lv_at hl 0 rfl) ?_
    refine fr_Vi (wN := fun u : RT => (fW z qX qP qK qN qL qG u ++ (pW z qP P ++ (pW z qK K ++ (mW z qG qT G ++ (pW z qT T ++ (nW z qN N ++ (lW z qL L)))))))) M (m_X6_refuse l z qX qL qN qG qP qK F r_1 _ h) (cwV 1 hts (gdV cd_X6_refuse ml_X6_56 im_X6_refuse se_X6_refuse in_X6) rfl rfl rfl hdV_X6_refuse ⟨(Nat.le_of_ble_eq_true rfl), (Nat.le_of_ble_eq_true rfl)⟩) cut_12 prm_12 0 rfl rfl rfl hw rfl hl.1 rfl (Nat.le_of_ble_eq_true rfl) dX6_bestTie_15 (fun r_6 u_ H locs h hw => ?_)
    obtain ⟨F_5, rfl⟩ : ∃ z9 : RT, z9 = u_ := ⟨_, rfl⟩
    have hw : Hw s z A (fW z qX qP qK qN qL qG F_5 ++ (pW z qP P ++ (pW z qK K ++ (mW z qG qT G ++ (pW z qT T ++ (nW z qN N ++ (lW z qL L))))))) H locs := hw
    try dsimp only at h
    exact rt_i M (F_5, T) hw h dX6_bestTie_18
abbrev rmX6_bestCut : Room := { frames := 5, cells := 0, slots := 0, locals := 119 }
set_option maxHeartbeats 4000000 in
set_option maxRecDepth 100000 in
theorem m_X6_bestCut (l : Launch) (z : KT) (qX : Nat → Nat) (qL : Nat → Nat) (qN : Nat → Nat) (qG : Nat → Nat) (qP : Nat → Nat) (qK : Nat → Nat) (qT : Nat → Nat) (F : RT) (P : RT) (K : RT) (G : RT) (T : RT) (N : RT) (L : RT) (x1 : Int32) (x2 : Int32) (Q : Int32 → RT → RT → Prop) (h : wX6_bestCut F P K G T N L x1 x2 Q) : CI l yX6_bestCut cX6_bestCut 4 .int rmX6_bestCut z [.ref (qX 0), .int x1, .int x2] (fW z qX qP qK qN qL qG F ++ (pW z qP P ++ (pW z qK K ++ (mW z qG qT G ++ (pW z qT T ++ (nW z qN N ++ (lW z qL L))))))) (fun u : RT × RT => (fW z qX qP qK qN qL qG u.1 ++ (pW z qP P ++ (pW z qK K ++ (mW z qG qT G ++ (pW z qT u.2 ++ (nW z qN N ++ (lW z qL L)))))))) (fun (r : Int32) (u : RT × RT) => Q r u.1 u.2) := by
  refine CI.of rfl (Nat.le_of_ble_eq_true rfl) ?_
  intro p e s m below meth c A ls M hw hl
  have M : Mc p s m _ meth c cX6_bestCut 4 (some .int) RX6 z A := M
  obtain ⟨hx, hb, -, -, hown, hts, -, -, -, hN, hsr, -⟩ := id M
  have hl : lv_has ls 4 [(0, .ref (qX 0)), (1, .int x1), (2, .int x2)] := hl
  unfold wX6_bestCut at h
  generalize s.heap = H at hw ⊢
  generalize ([] : List Loc) = locs at hw ⊢
  refine lv_aload_n hx hb dX6_bestCut_0 rfl (lv_at hl 0 rfl) ?_
  refine lv_iload_n hx hb dX6_bestCut_1 rfl (lv_at hl 1 rfl) ?_
  refine lv_iload_n hx hb dX6_bestCut_2 rfl (lv_at hl 2 rfl) ?_
  refine lv_bipush (v := 30) hx hb dX6_bestCut_3 (by decide) ?_
  refine fr_Vi (wN := fun _ : Unit => (fW z qX qP qK qN qL qG F ++ (pW z qP P ++ (pW z qK K ++ (mW z qG qT G ++ (pW z qT T ++ (nW z qN N ++ (lW z qL L)))))))) M (m_X6_thingFault l z qX qL qN qG qP qK F P x1 x2 (30 : Int32) _ h) (cwV 3 hts (gdV cd_X6_thingFault ml_X6_123 im_X6_thingFault se_X6_thingFault in_X6) rfl rfl rfl hdV_X6_thingFault ⟨(Nat.le_of_ble_eq_true rfl), (Nat.le_of_ble_eq_true rfl)⟩) cut_19 prm_19 0 rfl rfl rfl hw rfl hl.1 rfl (Nat.le_of_ble_eq_true rfl) dX6_bestCut_5 (fun r_1 u_ H locs h hw => ?_)
  have hw : Hw s z A (fW z qX qP qK qN qL qG F ++ (pW z qP P ++ (pW z qK K ++ (mW z qG qT G ++ (pW z qT T ++ (nW z qN N ++ (lW z qL L))))))) H locs := hw
  try dsimp only at h
  refine lv_istore_n (lv' := [(3, .int r_1), (0, .ref (qX 0)), (1, .int x1), (2, .int x2)]) hx hb dX6_bestCut_8 rfl hl (by decide) rfl (fun ls hl => ?_)
  refine lv_iload_n hx hb dX6_bestCut_9 rfl (lv_at hl 0 rfl) ?_
  refine lv_if_eq (tgt := 19) hx hb dX6_bestCut_10 (by decide) (fun c_2 => ?_) (fun c_2 => ?_)
  · replace h := iT c_2 h
    refine lv_aload_n hx hb dX6_bestCut_19 rfl (lv_at hl 1 rfl) ?_
    refine gt_f (v := .ref (qG 0)) M inlX6 hw 0 rfl rfl 5 (by decide) fl_X6_40 rfl rfl dX6_bestCut_20 ?_
    refine lv_aload_n hx hb dX6_bestCut_23 rfl (lv_at hl 1 rfl) ?_
    refine gt_f (v := .ref (qP 0)) M inlX6 hw 0 rfl rfl 0 (by decide) fl_X6_10 rfl rfl dX6_bestCut_24 ?_
    refine lv_iload_n hx hb dX6_bestCut_27 rfl (lv_at hl 2 rfl) ?_
    refine lv_iload_n hx hb dX6_bestCut_28 rfl (lv_at hl 3 rfl) ?_
    refine fr_Vi (wN := fun u : RT => (fW z qX qP qK qN qL qG F ++ (pW z qP P ++ (pW z qK K ++ (mW z qG qT G ++ (pW z qT u ++ (nW z qN N ++ (lW z qL L)))))))) M (m_X1_highestByCut l z qG qP qT G T P x1 x2 _ h) (cwV 3 hts (gdV cd_X1_highestByCut ml_X6_171 im_X1_highestByCut se_X1_highestByCut in_X1) rfl rfl rfl hdV_X1_highestByCut ⟨(Nat.le_of_ble_eq_true rfl), (Nat.le_of_ble_eq_true rfl)⟩) cut_13 prm_13 0 rfl rfl rfl hw rfl hl.1 rfl (Nat.le_of_ble_eq_true rfl) dX6_bestCut_29 (fun r_4 u_ H locs h hw => ?_)
    obtain ⟨T_3, rfl⟩ : ∃ z9 : RT, z9 = u_ := ⟨_, rfl⟩
    have hw : Hw s z A (fW z qX qP qK qN qL qG F ++ (pW z qP P ++ (pW z qK K ++ (mW z qG qT G ++ (pW z qT T_3 ++ (nW z qN N ++ (lW z qL L))))))) H locs := hw
    try dsimp only at h
    exact rt_i M (F, T_3) hw h dX6_bestCut_32
  · replace h := iF c_2 h
    refine lv_aload_n hx hb dX6_bestCut_13 rfl (lv_at hl 1 rfl) ?_
    refine lv_iload_n hx hb dX6_bestCut_14 rfl (lv_at hl 0 rfl) ?_
    refine fr_Vi (wN := fun u : RT => (fW z qX qP qK qN qL qG u ++ (pW z qP P ++ (pW z qK K ++ (mW z qG qT G ++ (pW z qT T ++ (nW z qN N ++ (lW z qL L)))))))) M (m_X6_refuse l z qX qL qN qG qP qK F r_1 _ h) (cwV 1 hts (gdV cd_X6_refuse ml_X6_56 im_X6_refuse se_X6_refuse in_X6) rfl rfl rfl hdV_X6_refuse ⟨(Nat.le_of_ble_eq_true rfl), (Nat.le_of_ble_eq_true rfl)⟩) cut_12 prm_12 0 rfl rfl rfl hw rfl hl.1 rfl (Nat.le_of_ble_eq_true rfl) dX6_bestCut_15 (fun r_6 u_ H locs h hw => ?_)
    obtain ⟨F_5, rfl⟩ : ∃ z9 : RT, z9 = u_ := ⟨_, rfl⟩
    have hw : Hw s z A (fW z qX qP qK qN qL qG F_5 ++ (pW z qP P ++ (pW z qK K ++ (mW z qG qT G ++ (pW z qT T ++ (nW z qN N ++ (lW z qL L))))))) H locs := hw
    try dsimp only at h
    exact rt_i M (F_5, T) hw h dX6_bestCut_18
abbrev rmX6_bestStone : Room := { frames := 5, cells := 0, slots := 0, locals := 118 }
set_option maxHeartbeats 4000000 in
set_option maxRecDepth 100000 in
theorem m_X6_bestStone (l : Launch) (z : KT) (qX : Nat → Nat) (qL : Nat → Nat) (qN : Nat → Nat) (qG : Nat → Nat) (qP : Nat → Nat) (qK : Nat → Nat) (qT : Nat → Nat) (F : RT) (P : RT) (K : RT) (G : RT) (T : RT) (N : RT) (L : RT) (x1 : Int32) (Q : Int32 → RT → RT → Prop) (h : wX6_bestStone F P K G T N L x1 Q) : CI l yX6_bestStone cX6_bestStone 3 .int rmX6_bestStone z [.ref (qX 0), .int x1] (fW z qX qP qK qN qL qG F ++ (pW z qP P ++ (pW z qK K ++ (mW z qG qT G ++ (pW z qT T ++ (nW z qN N ++ (lW z qL L))))))) (fun u : RT × RT => (fW z qX qP qK qN qL qG u.1 ++ (pW z qP P ++ (pW z qK K ++ (mW z qG qT G ++ (pW z qT u.2 ++ (nW z qN N ++ (lW z qL L)))))))) (fun (r : Int32) (u : RT × RT) => Q r u.1 u.2) := by
  refine CI.of rfl (Nat.le_of_ble_eq_true rfl) ?_
  intro p e s m below meth c A ls M hw hl
  have M : Mc p s m _ meth c cX6_bestStone 3 (some .int) RX6 z A := M
  obtain ⟨hx, hb, -, -, hown, hts, -, -, -, hN, hsr, -⟩ := id M
  have hl : lv_has ls 3 [(0, .ref (qX 0)), (1, .int x1)] := hl
  unfold wX6_bestStone at h
  generalize s.heap = H at hw ⊢
  generalize ([] : List Loc) = locs at hw ⊢
  refine lv_iload_n hx hb dX6_bestStone_0 rfl (lv_at hl 1 rfl) ?_
  refine lv_iconst (v := 0) hx hb dX6_bestStone_1 (by decide) ?_
  refine lv_bipush (v := 30) hx hb dX6_bestStone_2 (by decide) ?_
  refine fr_Si (wN := fun _ : Unit => (fW z qX qP qK qN qL qG F ++ (pW z qP P ++ (pW z qK K ++ (mW z qG qT G ++ (pW z qT T ++ (nW z qN N ++ (lW z qL L)))))))) M (m_X6_rangeFault l z x1 (0 : Int32) (30 : Int32) _ h) (va_cwS 3 hts (gdS cd_X6_rangeFault ml_X6_48 st_X6_rangeFault in_X6) rfl rfl rfl hdS_X6_rangeFault ⟨(Nat.le_of_ble_eq_true rfl), (Nat.le_of_ble_eq_true rfl)⟩) (Cut.none _) (Prm.none _) hw rfl hl.1 rfl (Nat.le_of_ble_eq_true rfl) dX6_bestStone_4 (fun r_1 u_ H locs h hw => ?_)
  have hw : Hw s z A (fW z qX qP qK qN qL qG F ++ (pW z qP P ++ (pW z qK K ++ (mW z qG qT G ++ (pW z qT T ++ (nW z qN N ++ (lW z qL L))))))) H locs := hw
  try dsimp only at h
  refine lv_istore_n (lv' := [(2, .int r_1), (0, .ref (qX 0)), (1, .int x1)]) hx hb dX6_bestStone_7 rfl hl (by decide) rfl (fun ls hl => ?_)
  refine lv_iload_n hx hb dX6_bestStone_8 rfl (lv_at hl 0 rfl) ?_
  refine lv_if_eq (tgt := 18) hx hb dX6_bestStone_9 (by decide) (fun c_2 => ?_) (fun c_2 => ?_)
  · replace h := iT c_2 h
    refine lv_aload_n hx hb dX6_bestStone_18 rfl (lv_at hl 1 rfl) ?_
    refine gt_f (v := .ref (qG 0)) M inlX6 hw 0 rfl rfl 5 (by decide) fl_X6_40 rfl rfl dX6_bestStone_19 ?_
    refine lv_aload_n hx hb dX6_bestStone_22 rfl (lv_at hl 1 rfl) ?_
    refine gt_f (v := .ref (qP 0)) M inlX6 hw 0 rfl rfl 0 (by decide) fl_X6_10 rfl rfl dX6_bestStone_23 ?_
    refine lv_iload_n hx hb dX6_bestStone_26 rfl (lv_at hl 2 rfl) ?_
    refine fr_Vi (wN := fun u : RT => (fW z qX qP qK qN qL qG F ++ (pW z qP P ++ (pW z qK K ++ (mW z qG qT G ++ (pW z qT u ++ (nW z qN N ++ (lW z qL L)))))))) M (m_X1_highestByStone l z qG qP qT G T P x1 _ h) (cwV 2 hts (gdV cd_X1_highestByStone ml_X6_174 im_X1_highestByStone se_X1_highestByStone in_X1) rfl rfl rfl hdV_X1_highestByStone ⟨(Nat.le_of_ble_eq_true rfl), (Nat.le_of_ble_eq_true rfl)⟩) cut_13 prm_13 0 rfl rfl rfl hw rfl hl.1 rfl (Nat.le_of_ble_eq_true rfl) dX6_bestStone_27 (fun r_4 u_ H locs h hw => ?_)
    obtain ⟨T_3, rfl⟩ : ∃ z9 : RT, z9 = u_ := ⟨_, rfl⟩
    have hw : Hw s z A (fW z qX qP qK qN qL qG F ++ (pW z qP P ++ (pW z qK K ++ (mW z qG qT G ++ (pW z qT T_3 ++ (nW z qN N ++ (lW z qL L))))))) H locs := hw
    try dsimp only at h
    exact rt_i M (F, T_3) hw h dX6_bestStone_30
  · replace h := iF c_2 h
    refine lv_aload_n hx hb dX6_bestStone_12 rfl (lv_at hl 1 rfl) ?_
    refine lv_iload_n hx hb dX6_bestStone_13 rfl (lv_at hl 0 rfl) ?_
    refine fr_Vi (wN := fun u : RT => (fW z qX qP qK qN qL qG u ++ (pW z qP P ++ (pW z qK K ++ (mW z qG qT G ++ (pW z qT T ++ (nW z qN N ++ (lW z qL L)))))))) M (m_X6_refuse l z qX qL qN qG qP qK F r_1 _ h) (cwV 1 hts (gdV cd_X6_refuse ml_X6_56 im_X6_refuse se_X6_refuse in_X6) rfl rfl rfl hdV_X6_refuse ⟨(Nat.le_of_ble_eq_true rfl), (Nat.le_of_ble_eq_true rfl)⟩) cut_12 prm_12 0 rfl rfl rfl hw rfl hl.1 rfl (Nat.le_of_ble_eq_true rfl) dX6_bestStone_14 (fun r_6 u_ H locs h hw => ?_)
    obtain ⟨F_5, rfl⟩ : ∃ z9 : RT, z9 = u_ := ⟨_, rfl⟩
    have hw : Hw s z A (fW z qX qP qK qN qL qG F_5 ++ (pW z qP P ++ (pW z qK K ++ (mW z qG qT G ++ (pW z qT T ++ (nW z qN N ++ (lW z qL L))))))) H locs := hw
    try dsimp only at h
    exact rt_i M (F_5, T) hw h dX6_bestStone_17
abbrev rmX6_rows : Room := { frames := 3, cells := 0, slots := 0, locals := 73 }
set_option maxHeartbeats 4000000 in
set_option maxRecDepth 100000 in
theorem m_X6_rows (l : Launch) (z : KT) (qX : Nat → Nat) (qL : Nat → Nat) (qN : Nat → Nat) (qG : Nat → Nat) (qP : Nat → Nat) (qK : Nat → Nat) (qT : Nat → Nat) (F : RT) (P : RT) (K : RT) (G : RT) (T : RT) (N : RT) (L : RT) (x1 : Int32) (Q : Int32 → RT → Prop) (h : wX6_rows F P K G T N L x1 Q) : CI l yX6_rows cX6_rows 2 .int rmX6_rows z [.ref (qX 0), .int x1] (fW z qX qP qK qN qL qG F ++ (pW z qP P ++ (pW z qK K ++ (mW z qG qT G ++ (pW z qT T ++ (nW z qN N ++ (lW z qL L))))))) (fun u : RT => (fW z qX qP qK qN qL qG u ++ (pW z qP P ++ (pW z qK K ++ (mW z qG qT G ++ (pW z qT T ++ (nW z qN N ++ (lW z qL L)))))))) (fun (r : Int32) (u : RT) => Q r u) := by
  refine CI.of rfl (Nat.le_of_ble_eq_true rfl) ?_
  intro p e s m below meth c A ls M hw hl
  have M : Mc p s m _ meth c cX6_rows 2 (some .int) RX6 z A := M
  obtain ⟨hx, hb, -, -, hown, hts, -, -, -, hN, hsr, -⟩ := id M
  have hl : lv_has ls 2 [(0, .ref (qX 0)), (1, .int x1)] := hl
  unfold wX6_rows at h
  generalize s.heap = H at hw ⊢
  generalize ([] : List Loc) = locs at hw ⊢
  refine lv_iload_n hx hb dX6_rows_0 rfl (lv_at hl 1 rfl) ?_
  refine lv_if_ge (tgt := 11) hx hb dX6_rows_1 (by decide) (fun c_1 => ?_) (fun c_1 => ?_)
  · replace h := iT c_1 h
    refine lv_aload_n hx hb dX6_rows_11 rfl (lv_at hl 0 rfl) ?_
    refine gt_f (v := .ref (qP 0)) M inlX6 hw 0 rfl rfl 0 (by decide) fl_X6_10 rfl rfl dX6_rows_12 ?_
    refine lv_iload_n hx hb dX6_rows_15 rfl (lv_at hl 1 rfl) ?_
    refine fr_Si (wN := fun _ : Unit => (fW z qX qP qK qN qL qG F ++ (pW z qP P ++ (pW z qK K ++ (mW z qG qT G ++ (pW z qT T ++ (nW z qN N ++ (lW z qL L)))))))) M (m_X4_ranked l z qP P x1 _ h) (va_cwS 2 hts (gdS cd_X4_ranked ml_X6_177 st_X4_ranked in_X4) rfl rfl rfl hdS_X4_ranked ⟨(Nat.le_of_ble_eq_true rfl), (Nat.le_of_ble_eq_true rfl)⟩) cut_16 prm_16 hw rfl hl.1 rfl (Nat.le_of_ble_eq_true rfl) dX6_rows_16 (fun r_2 u_ H locs h hw => ?_)
    have hw : Hw s z A (fW z qX qP qK qN qL qG F ++ (pW z qP P ++ (pW z qK K ++ (mW z qG qT G ++ (pW z qT T ++ (nW z qN N ++ (lW z qL L))))))) H locs := hw
    try dsimp only at h
    exact rt_i M F hw h dX6_rows_19
  · replace h := iF c_1 h
    refine lv_aload_n hx hb dX6_rows_4 rfl (lv_at hl 0 rfl) ?_
    refine lv_bipush (v := -4) hx hb dX6_rows_5 (by decide) ?_
    refine fr_Vi (wN := fun u : RT => (fW z qX qP qK qN qL qG u ++ (pW z qP P ++ (pW z qK K ++ (mW z qG qT G ++ (pW z qT T ++ (nW z qN N ++ (lW z qL L)))))))) M (m_X6_refuse l z qX qL qN qG qP qK F (-4 : Int32) _ h) (cwV 1 hts (gdV cd_X6_refuse ml_X6_56 im_X6_refuse se_X6_refuse in_X6) rfl rfl rfl hdV_X6_refuse ⟨(Nat.le_of_ble_eq_true rfl), (Nat.le_of_ble_eq_true rfl)⟩) cut_12 prm_12 0 rfl rfl rfl hw rfl hl.1 rfl (Nat.le_of_ble_eq_true rfl) dX6_rows_7 (fun r_4 u_ H locs h hw => ?_)
    obtain ⟨F_3, rfl⟩ : ∃ z9 : RT, z9 = u_ := ⟨_, rfl⟩
    have hw : Hw s z A (fW z qX qP qK qN qL qG F_3 ++ (pW z qP P ++ (pW z qK K ++ (mW z qG qT G ++ (pW z qT T ++ (nW z qN N ++ (lW z qL L))))))) H locs := hw
    try dsimp only at h
    exact rt_i M F_3 hw h dX6_rows_10
abbrev rmX6_between : Room := { frames := 2, cells := 0, slots := 0, locals := 53 }
set_option maxHeartbeats 4000000 in
set_option maxRecDepth 100000 in
theorem m_X6_between (l : Launch) (z : KT) (qX : Nat → Nat) (qL : Nat → Nat) (qN : Nat → Nat) (qG : Nat → Nat) (qP : Nat → Nat) (qK : Nat → Nat) (qT : Nat → Nat) (F : RT) (P : RT) (K : RT) (G : RT) (T : RT) (N : RT) (L : RT) (x1 : Int32) (x2 : Int32) (Q : Int32 → RT → Prop) (h : wX6_between F P K G T N L x1 x2 Q) : CI l yX6_between cX6_between 3 .int rmX6_between z [.ref (qX 0), .int x1, .int x2] (fW z qX qP qK qN qL qG F ++ (pW z qP P ++ (pW z qK K ++ (mW z qG qT G ++ (pW z qT T ++ (nW z qN N ++ (lW z qL L))))))) (fun u : RT => (fW z qX qP qK qN qL qG u ++ (pW z qP P ++ (pW z qK K ++ (mW z qG qT G ++ (pW z qT T ++ (nW z qN N ++ (lW z qL L)))))))) (fun (r : Int32) (u : RT) => Q r u) := by
  refine CI.of rfl (Nat.le_of_ble_eq_true rfl) ?_
  intro p e s m below meth c A ls M hw hl
  have M : Mc p s m _ meth c cX6_between 3 (some .int) RX6 z A := M
  obtain ⟨hx, hb, -, -, hown, hts, -, -, -, hN, hsr, -⟩ := id M
  have hl : lv_has ls 3 [(0, .ref (qX 0)), (1, .int x1), (2, .int x2)] := hl
  unfold wX6_between at h
  generalize s.heap = H at hw ⊢
  generalize ([] : List Loc) = locs at hw ⊢
  refine lv_aload_n hx hb dX6_between_0 rfl (lv_at hl 0 rfl) ?_
  refine gt_f (v := .ref (qP 0)) M inlX6 hw 0 rfl rfl 0 (by decide) fl_X6_10 rfl rfl dX6_between_1 ?_
  refine lv_iload_n hx hb dX6_between_4 rfl (lv_at hl 1 rfl) ?_
  refine lv_iload_n hx hb dX6_between_5 rfl (lv_at hl 2 rfl) ?_
  refine fr_Vi (wN := fun _ : Unit => (fW z qX qP qK qN qL qG F ++ (pW z qP P ++ (pW z qK K ++ (mW z qG qT G ++ (pW z qT T ++ (nW z qN N ++ (lW z qL L)))))))) M (m_X3_hasPair l z qP P x1 x2 _ h) (cwV 2 hts (gdV cd_X3_hasPair ml_X6_109 im_X3_hasPair se_X3_hasPair in_X3) rfl rfl rfl hdV_X3_hasPair ⟨(Nat.le_of_ble_eq_true rfl), (Nat.le_of_ble_eq_true rfl)⟩) cut_16 prm_16 0 rfl rfl rfl hw rfl hl.1 rfl (Nat.le_of_ble_eq_true rfl) dX6_between_6 (fun r_1 u_ H locs h hw => ?_)
  have hw : Hw s z A (fW z qX qP qK qN qL qG F ++ (pW z qP P ++ (pW z qK K ++ (mW z qG qT G ++ (pW z qT T ++ (nW z qN N ++ (lW z qL L))))))) H locs := hw
  try dsimp only at h
  refine lv_if_ne (tgt := 18) hx hb dX6_between_9 (by decide) (fun c_2 => ?_) (fun c_2 => ?_)
  · replace h := iF c_2 h
    refine lv_aload_n hx hb dX6_between_18 rfl (lv_at hl 0 rfl) ?_
    refine gt_f (v := .ref (qP 0)) M inlX6 hw 0 rfl rfl 0 (by decide) fl_X6_10 rfl rfl dX6_between_19 ?_
    refine lv_iload_n hx hb dX6_between_22 rfl (lv_at hl 1 rfl) ?_
    refine lv_iload_n hx hb dX6_between_23 rfl (lv_at hl 2 rfl) ?_
    refine fr_Si (wN := fun _ : Unit => (fW z qX qP qK qN qL qG F ++ (pW z qP P ++ (pW z qK K ++ (mW z qG qT G ++ (pW z qT T ++ (nW z qN N ++ (lW z qL L)))))))) M (m_X4_countInside l z qP P x1 x2 _ h) (va_cwS 3 hts (gdS cd_X4_countInside ml_X6_182 st_X4_countInside in_X4) rfl rfl rfl hdS_X4_countInside ⟨(Nat.le_of_ble_eq_true rfl), (Nat.le_of_ble_eq_true rfl)⟩) cut_16 prm_16 hw rfl hl.1 rfl (Nat.le_of_ble_eq_true rfl) dX6_between_24 (fun r_3 u_ H locs h hw => ?_)
    have hw : Hw s z A (fW z qX qP qK qN qL qG F ++ (pW z qP P ++ (pW z qK K ++ (mW z qG qT G ++ (pW z qT T ++ (nW z qN N ++ (lW z qL L))))))) H locs := hw
    try dsimp only at h
    exact rt_i M F hw h dX6_between_27
  · replace h := iT c_2 h
    refine lv_aload_n hx hb dX6_between_12 rfl (lv_at hl 0 rfl) ?_
    refine lv_iconst (v := -1) hx hb dX6_between_13 (by decide) ?_
    refine fr_Vi (wN := fun u : RT => (fW z qX qP qK qN qL qG u ++ (pW z qP P ++ (pW z qK K ++ (mW z qG qT G ++ (pW z qT T ++ (nW z qN N ++ (lW z qL L)))))))) M (m_X6_refuse l z qX qL qN qG qP qK F (-1 : Int32) _ h) (cwV 1 hts (gdV cd_X6_refuse ml_X6_56 im_X6_refuse se_X6_refuse in_X6) rfl rfl rfl hdV_X6_refuse ⟨(Nat.le_of_ble_eq_true rfl), (Nat.le_of_ble_eq_true rfl)⟩) cut_12 prm_12 0 rfl rfl rfl hw rfl hl.1 rfl (Nat.le_of_ble_eq_true rfl) dX6_between_14 (fun r_5 u_ H locs h hw => ?_)
    obtain ⟨F_4, rfl⟩ : ∃ z9 : RT, z9 = u_ := ⟨_, rfl⟩
    have hw : Hw s z A (fW z qX qP qK qN qL qG F_4 ++ (pW z qP P ++ (pW z qK K ++ (mW z qG qT G ++ (pW z qT T ++ (nW z qN N ++ (lW z qL L))))))) H locs := hw
    try dsimp only at h
    exact rt_i M F_4 hw h dX6_between_17
abbrev rmX6_balance : Room := { frames := 3, cells := 0, slots := 0, locals := 75 }
set_option maxHeartbeats 4000000 in
set_option maxRecDepth 100000 in
theorem m_X6_balance (l : Launch) (z : KT) (qX : Nat → Nat) (qL : Nat → Nat) (qN : Nat → Nat) (qG : Nat → Nat) (qP : Nat → Nat) (qK : Nat → Nat) (qT : Nat → Nat) (F : RT) (P : RT) (K : RT) (G : RT) (T : RT) (N : RT) (L : RT) (x1 : Int32) (Q : Int32 → RT → Prop) (h : wX6_balance F P K G T N L x1 Q) : CI l yX6_balance cX6_balance 2 .int rmX6_balance z [.ref (qX 0), .int x1] (fW z qX qP qK qN qL qG F ++ (pW z qP P ++ (pW z qK K ++ (mW z qG qT G ++ (pW z qT T ++ (nW z qN N ++ (lW z qL L))))))) (fun u : RT => (fW z qX qP qK qN qL qG u ++ (pW z qP P ++ (pW z qK K ++ (mW z qG qT G ++ (pW z qT T ++ (nW z qN N ++ (lW z qL L)))))))) (fun (r : Int32) (u : RT) => Q r u) := by
  refine CI.of rfl (Nat.le_of_ble_eq_true rfl) ?_
  intro p e s m below meth c A ls M hw hl
  have M : Mc p s m _ meth c cX6_balance 2 (some .int) RX6 z A := M
  obtain ⟨hx, hb, -, -, hown, hts, -, -, -, hN, hsr, -⟩ := id M
  have hl : lv_has ls 2 [(0, .ref (qX 0)), (1, .int x1)] := hl
  unfold wX6_balance at h
  generalize s.heap = H at hw ⊢
  generalize ([] : List Loc) = locs at hw ⊢
  refine lv_aload_n hx hb dX6_balance_0 rfl (lv_at hl 0 rfl) ?_
  refine gt_f (v := .ref (qP 0)) M inlX6 hw 0 rfl rfl 0 (by decide) fl_X6_10 rfl rfl dX6_balance_1 ?_
  refine lv_iload_n hx hb dX6_balance_4 rfl (lv_at hl 1 rfl) ?_
  refine fr_Vi (wN := fun _ : Unit => (fW z qX qP qK qN qL qG F ++ (pW z qP P ++ (pW z qK K ++ (mW z qG qT G ++ (pW z qT T ++ (nW z qN N ++ (lW z qL L)))))))) M (m_X3_hasThing l z qP P x1 _ h) (cwV 1 hts (gdV cd_X3_hasThing ml_X6_75 im_X3_hasThing se_X3_hasThing in_X3) rfl rfl rfl hdV_X3_hasThing ⟨(Nat.le_of_ble_eq_true rfl), (Nat.le_of_ble_eq_true rfl)⟩) cut_16 prm_16 0 rfl rfl rfl hw rfl hl.1 rfl (Nat.le_of_ble_eq_true rfl) dX6_balance_5 (fun r_1 u_ H locs h hw => ?_)
  have hw : Hw s z A (fW z qX qP qK qN qL qG F ++ (pW z qP P ++ (pW z qK K ++ (mW z qG qT G ++ (pW z qT T ++ (nW z qN N ++ (lW z qL L))))))) H locs := hw
  try dsimp only at h
  refine lv_if_ne (tgt := 17) hx hb dX6_balance_8 (by decide) (fun c_2 => ?_) (fun c_2 => ?_)
  · replace h := iF c_2 h
    refine lv_aload_n hx hb dX6_balance_17 rfl (lv_at hl 0 rfl) ?_
    refine gt_f (v := .ref (qP 0)) M inlX6 hw 0 rfl rfl 0 (by decide) fl_X6_10 rfl rfl dX6_balance_18 ?_
    refine lv_iload_n hx hb dX6_balance_21 rfl (lv_at hl 1 rfl) ?_
    refine fr_Si (wN := fun _ : Unit => (fW z qX qP qK qN qL qG F ++ (pW z qP P ++ (pW z qK K ++ (mW z qG qT G ++ (pW z qT T ++ (nW z qN N ++ (lW z qL L)))))))) M (m_X4_counterweight l z qP P x1 _ h) (va_cwS 2 hts (gdS cd_X4_counterweight ml_X6_185 st_X4_counterweight in_X4) rfl rfl rfl hdS_X4_counterweight ⟨(Nat.le_of_ble_eq_true rfl), (Nat.le_of_ble_eq_true rfl)⟩) cut_16 prm_16 hw rfl hl.1 rfl (Nat.le_of_ble_eq_true rfl) dX6_balance_22 (fun r_3 u_ H locs h hw => ?_)
    have hw : Hw s z A (fW z qX qP qK qN qL qG F ++ (pW z qP P ++ (pW z qK K ++ (mW z qG qT G ++ (pW z qT T ++ (nW z qN N ++ (lW z qL L))))))) H locs := hw
    try dsimp only at h
    exact rt_i M F hw h dX6_balance_25
  · replace h := iT c_2 h
    refine lv_aload_n hx hb dX6_balance_11 rfl (lv_at hl 0 rfl) ?_
    refine lv_iconst (v := -1) hx hb dX6_balance_12 (by decide) ?_
    refine fr_Vi (wN := fun u : RT => (fW z qX qP qK qN qL qG u ++ (pW z qP P ++ (pW z qK K ++ (mW z qG qT G ++ (pW z qT T ++ (nW z qN N ++ (lW z qL L)))))))) M (m_X6_refuse l z qX qL qN qG qP qK F (-1 : Int32) _ h) (cwV 1 hts (gdV cd_X6_refuse ml_X6_56 im_X6_refuse se_X6_refuse in_X6) rfl rfl rfl hdV_X6_refuse ⟨(Nat.le_of_ble_eq_true rfl), (Nat.le_of_ble_eq_true rfl)⟩) cut_12 prm_12 0 rfl rfl rfl hw rfl hl.1 rfl (Nat.le_of_ble_eq_true rfl) dX6_balance_13 (fun r_5 u_ H locs h hw => ?_)
    obtain ⟨F_4, rfl⟩ : ∃ z9 : RT, z9 = u_ := ⟨_, rfl⟩
    have hw : Hw s z A (fW z qX qP qK qN qL qG F_4 ++ (pW z qP P ++ (pW z qK K ++ (mW z qG qT G ++ (pW z qT T ++ (nW z qN N ++ (lW z qL L))))))) H locs := hw
    try dsimp only at h
    exact rt_i M F_4 hw h dX6_balance_16
abbrev rmX6_nearest : Room := { frames := 2, cells := 0, slots := 0, locals := 52 }
set_option maxHeartbeats 4000000 in
set_option maxRecDepth 100000 in
theorem m_X6_nearest (l : Launch) (z : KT) (qX : Nat → Nat) (qL : Nat → Nat) (qN : Nat → Nat) (qG : Nat → Nat) (qP : Nat → Nat) (qK : Nat → Nat) (qT : Nat → Nat) (F : RT) (P : RT) (K : RT) (G : RT) (T : RT) (N : RT) (L : RT) (x1 : Int32) (Q : Int32 → RT → Prop) (h : wX6_nearest F P K G T N L x1 Q) : CI l yX6_nearest cX6_nearest 2 .int rmX6_nearest z [.ref (qX 0), .int x1] (fW z qX qP qK qN qL qG F ++ (pW z qP P ++ (pW z qK K ++ (mW z qG qT G ++ (pW z qT T ++ (nW z qN N ++ (lW z qL L))))))) (fun u : RT => (fW z qX qP qK qN qL qG u ++ (pW z qP P ++ (pW z qK K ++ (mW z qG qT G ++ (pW z qT T ++ (nW z qN N ++ (lW z qL L)))))))) (fun (r : Int32) (u : RT) => Q r u) := by
  refine CI.of rfl (Nat.le_of_ble_eq_true rfl) ?_
  intro p e s m below meth c A ls M hw hl
  have M : Mc p s m _ meth c cX6_nearest 2 (some .int) RX6 z A := M
  obtain ⟨hx, hb, -, -, hown, hts, -, -, -, hN, hsr, -⟩ := id M
  have hl : lv_has ls 2 [(0, .ref (qX 0)), (1, .int x1)] := hl
  unfold wX6_nearest at h
  generalize s.heap = H at hw ⊢
  generalize ([] : List Loc) = locs at hw ⊢
  refine lv_aload_n hx hb dX6_nearest_0 rfl (lv_at hl 0 rfl) ?_
  refine gt_f (v := .ref (qP 0)) M inlX6 hw 0 rfl rfl 0 (by decide) fl_X6_10 rfl rfl dX6_nearest_1 ?_
  refine lv_iload_n hx hb dX6_nearest_4 rfl (lv_at hl 1 rfl) ?_
  refine fr_Vi (wN := fun _ : Unit => (fW z qX qP qK qN qL qG F ++ (pW z qP P ++ (pW z qK K ++ (mW z qG qT G ++ (pW z qT T ++ (nW z qN N ++ (lW z qL L)))))))) M (m_X3_hasThing l z qP P x1 _ h) (cwV 1 hts (gdV cd_X3_hasThing ml_X6_75 im_X3_hasThing se_X3_hasThing in_X3) rfl rfl rfl hdV_X3_hasThing ⟨(Nat.le_of_ble_eq_true rfl), (Nat.le_of_ble_eq_true rfl)⟩) cut_16 prm_16 0 rfl rfl rfl hw rfl hl.1 rfl (Nat.le_of_ble_eq_true rfl) dX6_nearest_5 (fun r_1 u_ H locs h hw => ?_)
  have hw : Hw s z A (fW z qX qP qK qN qL qG F ++ (pW z qP P ++ (pW z qK K ++ (mW z qG qT G ++ (pW z qT T ++ (nW z qN N ++ (lW z qL L))))))) H locs := hw
  try dsimp only at h
  refine lv_if_ne (tgt := 17) hx hb dX6_nearest_8 (by decide) (fun c_2 => ?_) (fun c_2 => ?_)
  · replace h := iF c_2 h
    refine lv_aload_n hx hb dX6_nearest_17 rfl (lv_at hl 0 rfl) ?_
    refine gt_f (v := .ref (qP 0)) M inlX6 hw 0 rfl rfl 0 (by decide) fl_X6_10 rfl rfl dX6_nearest_18 ?_
    refine lv_iload_n hx hb dX6_nearest_21 rfl (lv_at hl 1 rfl) ?_
    refine fr_Si (wN := fun _ : Unit => (fW z qX qP qK qN qL qG F ++ (pW z qP P ++ (pW z qK K ++ (mW z qG qT G ++ (pW z qT T ++ (nW z qN N ++ (lW z qL L)))))))) M (m_X4_mostAlike l z qP P x1 _ h) (va_cwS 2 hts (gdS cd_X4_mostAlike ml_X6_188 st_X4_mostAlike in_X4) rfl rfl rfl hdS_X4_mostAlike ⟨(Nat.le_of_ble_eq_true rfl), (Nat.le_of_ble_eq_true rfl)⟩) cut_16 prm_16 hw rfl hl.1 rfl (Nat.le_of_ble_eq_true rfl) dX6_nearest_22 (fun r_3 u_ H locs h hw => ?_)
    have hw : Hw s z A (fW z qX qP qK qN qL qG F ++ (pW z qP P ++ (pW z qK K ++ (mW z qG qT G ++ (pW z qT T ++ (nW z qN N ++ (lW z qL L))))))) H locs := hw
    try dsimp only at h
    exact rt_i M F hw h dX6_nearest_25
  · replace h := iT c_2 h
    refine lv_aload_n hx hb dX6_nearest_11 rfl (lv_at hl 0 rfl) ?_
    refine lv_iconst (v := -1) hx hb dX6_nearest_12 (by decide) ?_
    refine fr_Vi (wN := fun u : RT => (fW z qX qP qK qN qL qG u ++ (pW z qP P ++ (pW z qK K ++ (mW z qG qT G ++ (pW z qT T ++ (nW z qN N ++ (lW z qL L)))))))) M (m_X6_refuse l z qX qL qN qG qP qK F (-1 : Int32) _ h) (cwV 1 hts (gdV cd_X6_refuse ml_X6_56 im_X6_refuse se_X6_refuse in_X6) rfl rfl rfl hdV_X6_refuse ⟨(Nat.le_of_ble_eq_true rfl), (Nat.le_of_ble_eq_true rfl)⟩) cut_12 prm_12 0 rfl rfl rfl hw rfl hl.1 rfl (Nat.le_of_ble_eq_true rfl) dX6_nearest_13 (fun r_5 u_ H locs h hw => ?_)
    obtain ⟨F_4, rfl⟩ : ∃ z9 : RT, z9 = u_ := ⟨_, rfl⟩
    have hw : Hw s z A (fW z qX qP qK qN qL qG F_4 ++ (pW z qP P ++ (pW z qK K ++ (mW z qG qT G ++ (pW z qT T ++ (nW z qN N ++ (lW z qL L))))))) H locs := hw
    try dsimp only at h
    exact rt_i M F_4 hw h dX6_nearest_16
abbrev rmX6_sides : Room := { frames := 4, cells := 0, slots := 0, locals := 94 }
set_option maxHeartbeats 4000000 in
set_option maxRecDepth 100000 in
theorem kX6_sides_16 {p : Program} {l : Launch} {e : Env} {s : State} {m : MethodId} {args : Array Value} {below : List Frame} {meth : Method} {c : Code} {z : KT} {A : Nat → Prop} {qX : Nat → Nat} {qL : Nat → Nat} {qN : Nat → Nat} {qG : Nat → Nat} {qP : Nat → Nat} {qK : Nat → Nat} {qT : Nat → Nat} {P : RT} {K : RT} {G : RT} {T : RT} {N : RT} {L : RT} {Q : Int32 → RT → Prop} (M : Mc p s m args meth c cX6_sides 3 (some .int) RX6 z A) : ∀ (F : RT) (x1 : Int32) (H : Heap) (locs : List Loc) (ls : Array Slot), Hw s z A (fW z qX qP qK qN qL qG F ++ (pW z qP P ++ (pW z qK K ++ (mW z qG qT G ++ (pW z qT T ++ (nW z qN N ++ (lW z qL L))))))) H locs → lv_has ls 3 [(0, .ref (qX 0)), (1, .int x1)] → bX6_sides_16 P K G T N L Q F x1 → W p l e rmX6_sides s m args below meth c H locs 0 0 (MQ below (va_Qi (fun (r : Int32) (u : RT) => Q r u) (fun u t => cAt z A ((fun u : RT => (fW z qX qP qK qN qL qG u ++ (pW z qP P ++ (pW z qK K ++ (mW z qG qT G ++ (pW z qT T ++ (nW z qN N ++ (lW z qL L)))))))) u) t) A) args s 0 0 A) (F0 m 16 ls []) := by
  obtain ⟨hx, hb, -, -, hown, hts, -, -, -, hN, hsr, -⟩ := id M
  intro F x1 H locs ls hw hl h
  unfold bX6_sides_16 at h
  refine lv_aload_n hx hb dX6_sides_16 rfl (lv_at hl 0 rfl) ?_
  refine gt_f (v := .ref (qP 0)) M inlX6 hw 0 rfl rfl 0 (by decide) fl_X6_10 rfl rfl dX6_sides_17 ?_
  refine fr_Si (wN := fun _ : Unit => (fW z qX qP qK qN qL qG F ++ (pW z qP P ++ (pW z qK K ++ (mW z qG qT G ++ (pW z qT T ++ (nW z qN N ++ (lW z qL L)))))))) M (m_X4_firstSide l z qP P _ h) (va_cwS 1 hts (gdS cd_X4_firstSide ml_X6_191 st_X4_firstSide in_X4) rfl rfl rfl hdS_X4_firstSide ⟨(Nat.le_of_ble_eq_true rfl), (Nat.le_of_ble_eq_true rfl)⟩) cut_16 prm_16 hw rfl hl.1 rfl (Nat.le_of_ble_eq_true rfl) dX6_sides_20 (fun r_1 u_ H locs h hw => ?_)
  have hw : Hw s z A (fW z qX qP qK qN qL qG F ++ (pW z qP P ++ (pW z qK K ++ (mW z qG qT G ++ (pW z qT T ++ (nW z qN N ++ (lW z qL L))))))) H locs := hw
  try dsimp only at h
  refine lv_istore_n (lv' := [(2, .int r_1), (0, .ref (qX 0)), (1, .int x1)]) hx hb dX6_sides_23 rfl hl (by decide) rfl (fun ls hl => ?_)
  refine lv_iload_n hx hb dX6_sides_24 rfl (lv_at hl 2 rfl) ?_
  refine lv_if_eq (tgt := 34) hx hb dX6_sides_25 (by decide) (fun c_2 => ?_) (fun c_2 => ?_)
  · replace h := iT c_2 h
    refine lv_iload_n hx hb dX6_sides_34 rfl (lv_at hl 0 rfl) ?_
    refine lv_goto (tgt := 46) hx hb dX6_sides_35 (by decide) ?_
    exact rt_i M F hw h dX6_sides_46
  · replace h := iF c_2 h
    refine lv_iload_n hx hb dX6_sides_28 rfl (lv_at hl 0 rfl) ?_
    refine lv_bipush (v := -9) hx hb dX6_sides_29 (by decide) ?_
    refine lv_icmp_ne (tgt := 38) hx hb dX6_sides_31 (by decide) (fun c_3 => ?_) (fun c_3 => ?_)
    · replace h := iF c_3 h
      refine lv_aload_n hx hb dX6_sides_38 rfl (lv_at hl 1 rfl) ?_
      refine gt_f (v := .ref (qP 0)) M inlX6 hw 0 rfl rfl 0 (by decide) fl_X6_10 rfl rfl dX6_sides_39 ?_
      refine lv_iload_n hx hb dX6_sides_42 rfl (lv_at hl 0 rfl) ?_
      refine fr_Si (wN := fun _ : Unit => (fW z qX qP qK qN qL qG F ++ (pW z qP P ++ (pW z qK K ++ (mW z qG qT G ++ (pW z qT T ++ (nW z qN N ++ (lW z qL L)))))))) M (m_X4_apart l z qP P r_1 _ h) (va_cwS 2 hts (gdS cd_X4_apart ml_X6_194 st_X4_apart in_X4) rfl rfl rfl hdS_X4_apart ⟨(Nat.le_of_ble_eq_true rfl), (Nat.le_of_ble_eq_true rfl)⟩) cut_16 prm_16 hw rfl hl.1 rfl (Nat.le_of_ble_eq_true rfl) dX6_sides_43 (fun r_4 u_ H locs h hw => ?_)
      have hw : Hw s z A (fW z qX qP qK qN qL qG F ++ (pW z qP P ++ (pW z qK K ++ (mW z qG qT G ++ (pW z qT T ++ (nW z qN N ++ (lW z qL L))))))) H locs := hw
      try dsimp only at h
      exact rt_i M F hw h dX6_sides_46
    · replace h := iT c_3 h
      refine lv_iload_n hx hb dX6_sides_34 rfl (lv_at hl 0 rfl) ?_
      refine lv_goto (tgt := 46) hx hb dX6_sides_35 (by decide) ?_
      exact rt_i M F hw h dX6_sides_46
set_option maxHeartbeats 4000000 in
set_option maxRecDepth 100000 in
theorem m_X6_sides (l : Launch) (z : KT) (qX : Nat → Nat) (qL : Nat → Nat) (qN : Nat → Nat) (qG : Nat → Nat) (qP : Nat → Nat) (qK : Nat → Nat) (qT : Nat → Nat) (F : RT) (P : RT) (K : RT) (G : RT) (T : RT) (N : RT) (L : RT) (x1 : Int32) (Q : Int32 → RT → Prop) (h : wX6_sides F P K G T N L x1 Q) : CI l yX6_sides cX6_sides 3 .int rmX6_sides z [.ref (qX 0), .int x1] (fW z qX qP qK qN qL qG F ++ (pW z qP P ++ (pW z qK K ++ (mW z qG qT G ++ (pW z qT T ++ (nW z qN N ++ (lW z qL L))))))) (fun u : RT => (fW z qX qP qK qN qL qG u ++ (pW z qP P ++ (pW z qK K ++ (mW z qG qT G ++ (pW z qT T ++ (nW z qN N ++ (lW z qL L)))))))) (fun (r : Int32) (u : RT) => Q r u) := by
  refine CI.of rfl (Nat.le_of_ble_eq_true rfl) ?_
  intro p e s m below meth c A ls M hw hl
  have M : Mc p s m _ meth c cX6_sides 3 (some .int) RX6 z A := M
  obtain ⟨hx, hb, -, -, hown, hts, -, -, -, hN, hsr, -⟩ := id M
  have hl : lv_has ls 3 [(0, .ref (qX 0)), (1, .int x1)] := hl
  unfold wX6_sides at h
  generalize s.heap = H at hw ⊢
  generalize ([] : List Loc) = locs at hw ⊢
  refine lv_iload_n hx hb dX6_sides_0 rfl (lv_at hl 1 rfl) ?_
  refine lv_if_eq (tgt := 16) hx hb dX6_sides_1 (by decide) (fun c_1 => ?_) (fun c_1 => ?_)
  · replace h := iT c_1 h
    exact kX6_sides_16 M F x1 H locs ls hw (lv_sub hl [0, 1] rfl) h
  · replace h := iF c_1 h
    refine lv_iload_n hx hb dX6_sides_4 rfl (lv_at hl 1 rfl) ?_
    refine lv_iconst (v := 1) hx hb dX6_sides_5 (by decide) ?_
    refine lv_icmp_eq (tgt := 16) hx hb dX6_sides_6 (by decide) (fun c_2 => ?_) (fun c_2 => ?_)
    · replace h := iT c_2 h
      exact kX6_sides_16 M F x1 H locs ls hw (lv_sub hl [0, 1] rfl) h
    · replace h := iF c_2 h
      refine lv_aload_n hx hb dX6_sides_9 rfl (lv_at hl 0 rfl) ?_
      refine lv_bipush (v := -2) hx hb dX6_sides_10 (by decide) ?_
      refine fr_Vi (wN := fun u : RT => (fW z qX qP qK qN qL qG u ++ (pW z qP P ++ (pW z qK K ++ (mW z qG qT G ++ (pW z qT T ++ (nW z qN N ++ (lW z qL L)))))))) M (m_X6_refuse l z qX qL qN qG qP qK F (-2 : Int32) _ h) (cwV 1 hts (gdV cd_X6_refuse ml_X6_56 im_X6_refuse se_X6_refuse in_X6) rfl rfl rfl hdV_X6_refuse ⟨(Nat.le_of_ble_eq_true rfl), (Nat.le_of_ble_eq_true rfl)⟩) cut_12 prm_12 0 rfl rfl rfl hw rfl hl.1 rfl (Nat.le_of_ble_eq_true rfl) dX6_sides_12 (fun r_4 u_ H locs h hw => ?_)
      obtain ⟨F_3, rfl⟩ : ∃ z9 : RT, z9 = u_ := ⟨_, rfl⟩
      have hw : Hw s z A (fW z qX qP qK qN qL qG F_3 ++ (pW z qP P ++ (pW z qK K ++ (mW z qG qT G ++ (pW z qT T ++ (nW z qN N ++ (lW z qL L))))))) H locs := hw
      try dsimp only at h
      exact rt_i M F_3 hw h dX6_sides_15
abbrev rmX6_chain : Room := { frames := 1, cells := 0, slots := 0, locals := 25 }
set_option maxHeartbeats 4000000 in
set_option maxRecDepth 100000 in
theorem m_X6_chain (l : Launch) (z : KT) (qX : Nat → Nat) (qL : Nat → Nat) (qN : Nat → Nat) (qG : Nat → Nat) (qP : Nat → Nat) (qK : Nat → Nat) (qT : Nat → Nat) (F : RT) (P : RT) (K : RT) (G : RT) (T : RT) (N : RT) (L : RT) (x1 : Int32) (Q : Int32 → RT → Prop) (h : wX6_chain F P K G T N L x1 Q) : CI l yX6_chain cX6_chain 2 .int rmX6_chain z [.ref (qX 0), .int x1] (fW z qX qP qK qN qL qG F ++ (pW z qP P ++ (pW z qK K ++ (mW z qG qT G ++ (pW z qT T ++ (nW z qN N ++ (lW z qL L))))))) (fun u : RT => (fW z qX qP qK qN qL qG u ++ (pW z qP P ++ (pW z qK K ++ (mW z qG qT G ++ (pW z qT T ++ (nW z qN N ++ (lW z qL L)))))))) (fun (r : Int32) (u : RT) => Q r u) := by
  refine CI.of rfl (Nat.le_of_ble_eq_true rfl) ?_
  intro p e s m below meth c A ls M hw hl
  have M : Mc p s m _ meth c cX6_chain 2 (some .int) RX6 z A := M
  obtain ⟨hx, hb, -, -, hown, hts, -, -, -, hN, hsr, -⟩ := id M
  have hl : lv_has ls 2 [(0, .ref (qX 0)), (1, .int x1)] := hl
  unfold wX6_chain at h
  generalize s.heap = H at hw ⊢
  generalize ([] : List Loc) = locs at hw ⊢
  refine lv_aload_n hx hb dX6_chain_0 rfl (lv_at hl 0 rfl) ?_
  refine gt_f (v := .ref (qP 0)) M inlX6 hw 0 rfl rfl 0 (by decide) fl_X6_10 rfl rfl dX6_chain_1 ?_
  refine lv_iload_n hx hb dX6_chain_4 rfl (lv_at hl 1 rfl) ?_
  refine fr_Vi (wN := fun _ : Unit => (fW z qX qP qK qN qL qG F ++ (pW z qP P ++ (pW z qK K ++ (mW z qG qT G ++ (pW z qT T ++ (nW z qN N ++ (lW z qL L)))))))) M (m_X3_hasThing l z qP P x1 _ h) (cwV 1 hts (gdV cd_X3_hasThing ml_X6_75 im_X3_hasThing se_X3_hasThing in_X3) rfl rfl rfl hdV_X3_hasThing ⟨(Nat.le_of_ble_eq_true rfl), (Nat.le_of_ble_eq_true rfl)⟩) cut_16 prm_16 0 rfl rfl rfl hw rfl hl.1 rfl (Nat.le_of_ble_eq_true rfl) dX6_chain_5 (fun r_1 u_ H locs h hw => ?_)
  have hw : Hw s z A (fW z qX qP qK qN qL qG F ++ (pW z qP P ++ (pW z qK K ++ (mW z qG qT G ++ (pW z qT T ++ (nW z qN N ++ (lW z qL L))))))) H locs := hw
  try dsimp only at h
  refine lv_if_ne (tgt := 17) hx hb dX6_chain_8 (by decide) (fun c_2 => ?_) (fun c_2 => ?_)
  · replace h := iF c_2 h
    refine lv_aload_n hx hb dX6_chain_17 rfl (lv_at hl 0 rfl) ?_
    refine gt_f (v := .ref (qP 0)) M inlX6 hw 0 rfl rfl 0 (by decide) fl_X6_10 rfl rfl dX6_chain_18 ?_
    refine lv_iload_n hx hb dX6_chain_21 rfl (lv_at hl 1 rfl) ?_
    refine fr_Si (wN := fun _ : Unit => (fW z qX qP qK qN qL qG F ++ (pW z qP P ++ (pW z qK K ++ (mW z qG qT G ++ (pW z qT T ++ (nW z qN N ++ (lW z qL L)))))))) M (m_X2_hangingWith l z qP P x1 _ h) (va_cwS 2 hts (gdS cd_X2_hangingWith ml_X6_197 st_X2_hangingWith in_X2) rfl rfl rfl hdS_X2_hangingWith ⟨(Nat.le_of_ble_eq_true rfl), (Nat.le_of_ble_eq_true rfl)⟩) cut_16 prm_16 hw rfl hl.1 rfl (Nat.le_of_ble_eq_true rfl) dX6_chain_22 (fun r_3 u_ H locs h hw => ?_)
    have hw : Hw s z A (fW z qX qP qK qN qL qG F ++ (pW z qP P ++ (pW z qK K ++ (mW z qG qT G ++ (pW z qT T ++ (nW z qN N ++ (lW z qL L))))))) H locs := hw
    try dsimp only at h
    exact rt_i M F hw h dX6_chain_25
  · replace h := iT c_2 h
    refine lv_aload_n hx hb dX6_chain_11 rfl (lv_at hl 0 rfl) ?_
    refine lv_iconst (v := -1) hx hb dX6_chain_12 (by decide) ?_
    refine fr_Vi (wN := fun u : RT => (fW z qX qP qK qN qL qG u ++ (pW z qP P ++ (pW z qK K ++ (mW z qG qT G ++ (pW z qT T ++ (nW z qN N ++ (lW z qL L)))))))) M (m_X6_refuse l z qX qL qN qG qP qK F (-1 : Int32) _ h) (cwV 1 hts (gdV cd_X6_refuse ml_X6_56 im_X6_refuse se_X6_refuse in_X6) rfl rfl rfl hdV_X6_refuse ⟨(Nat.le_of_ble_eq_true rfl), (Nat.le_of_ble_eq_true rfl)⟩) cut_12 prm_12 0 rfl rfl rfl hw rfl hl.1 rfl (Nat.le_of_ble_eq_true rfl) dX6_chain_13 (fun r_5 u_ H locs h hw => ?_)
    obtain ⟨F_4, rfl⟩ : ∃ z9 : RT, z9 = u_ := ⟨_, rfl⟩
    have hw : Hw s z A (fW z qX qP qK qN qL qG F_4 ++ (pW z qP P ++ (pW z qK K ++ (mW z qG qT G ++ (pW z qT T ++ (nW z qN N ++ (lW z qL L))))))) H locs := hw
    try dsimp only at h
    exact rt_i M F_4 hw h dX6_chain_16
abbrev rmX6_chains : Room := { frames := 3, cells := 0, slots := 0, locals := 67 }
set_option maxHeartbeats 4000000 in
set_option maxRecDepth 100000 in
theorem m_X6_chains (l : Launch) (z : KT) (qX : Nat → Nat) (qL : Nat → Nat) (qN : Nat → Nat) (qG : Nat → Nat) (qP : Nat → Nat) (qK : Nat → Nat) (qT : Nat → Nat) (F : RT) (P : RT) (K : RT) (G : RT) (T : RT) (N : RT) (L : RT) (x1 : Int32) (Q : Int32 → RT → Prop) (h : wX6_chains F P K G T N L x1 Q) : CI l yX6_chains cX6_chains 2 .int rmX6_chains z [.ref (qX 0), .int x1] (fW z qX qP qK qN qL qG F ++ (pW z qP P ++ (pW z qK K ++ (mW z qG qT G ++ (pW z qT T ++ (nW z qN N ++ (lW z qL L))))))) (fun u : RT => (fW z qX qP qK qN qL qG u ++ (pW z qP P ++ (pW z qK K ++ (mW z qG qT G ++ (pW z qT T ++ (nW z qN N ++ (lW z qL L)))))))) (fun (r : Int32) (u : RT) => Q r u) := by
  refine CI.of rfl (Nat.le_of_ble_eq_true rfl) ?_
  intro p e s m below meth c A ls M hw hl
  have M : Mc p s m _ meth c cX6_chains 2 (some .int) RX6 z A := M
  obtain ⟨hx, hb, -, -, hown, hts, -, -, -, hN, hsr, -⟩ := id M
  have hl : lv_has ls 2 [(0, .ref (qX 0)), (1, .int x1)] := hl
  unfold wX6_chains at h
  generalize s.heap = H at hw ⊢
  generalize ([] : List Loc) = locs at hw ⊢
  refine lv_iload_n hx hb dX6_chains_0 rfl (lv_at hl 1 rfl) ?_
  by_cases c_2 : x1 = (0 : Int32)
  · replace h := iT c_2 h
    refine lv_tableIn (tgt := 28) hx hb dX6_chains_1 (by rw [c_2]; decide) (by rw [c_2]; decide) (by rw [c_2]; rfl) (by decide) ?_
    refine lv_aload_n hx hb dX6_chains_28 rfl (lv_at hl 0 rfl) ?_
    refine gt_f (v := .ref (qP 0)) M inlX6 hw 0 rfl rfl 0 (by decide) fl_X6_10 rfl rfl dX6_chains_29 ?_
    refine fr_Si (wN := fun _ : Unit => (fW z qX qP qK qN qL qG F ++ (pW z qP P ++ (pW z qK K ++ (mW z qG qT G ++ (pW z qT T ++ (nW z qN N ++ (lW z qL L)))))))) M (m_X2_pieces l z qP P _ h) (va_cwS 1 hts (gdS cd_X2_pieces ml_X6_202 st_X2_pieces in_X2) rfl rfl rfl hdS_X2_pieces ⟨(Nat.le_of_ble_eq_true rfl), (Nat.le_of_ble_eq_true rfl)⟩) cut_16 prm_16 hw rfl hl.1 rfl (Nat.le_of_ble_eq_true rfl) dX6_chains_32 (fun r_3 u_ H locs h hw => ?_)
    have hw : Hw s z A (fW z qX qP qK qN qL qG F ++ (pW z qP P ++ (pW z qK K ++ (mW z qG qT G ++ (pW z qT T ++ (nW z qN N ++ (lW z qL L))))))) H locs := hw
    try dsimp only at h
    exact rt_i M F hw h dX6_chains_35
  replace h := iF c_2 h
  by_cases c_4 : x1 = (1 : Int32)
  · replace h := iT c_4 h
    refine lv_tableIn (tgt := 36) hx hb dX6_chains_1 (by rw [c_4]; decide) (by rw [c_4]; decide) (by rw [c_4]; rfl) (by decide) ?_
    refine lv_aload_n hx hb dX6_chains_36 rfl (lv_at hl 0 rfl) ?_
    refine gt_f (v := .ref (qP 0)) M inlX6 hw 0 rfl rfl 0 (by decide) fl_X6_10 rfl rfl dX6_chains_37 ?_
    refine fr_Si (wN := fun _ : Unit => (fW z qX qP qK qN qL qG F ++ (pW z qP P ++ (pW z qK K ++ (mW z qG qT G ++ (pW z qT T ++ (nW z qN N ++ (lW z qL L)))))))) M (m_X2_greatestPiece l z qP P _ h) (va_cwS 1 hts (gdS cd_X2_greatestPiece ml_X6_205 st_X2_greatestPiece in_X2) rfl rfl rfl hdS_X2_greatestPiece ⟨(Nat.le_of_ble_eq_true rfl), (Nat.le_of_ble_eq_true rfl)⟩) cut_16 prm_16 hw rfl hl.1 rfl (Nat.le_of_ble_eq_true rfl) dX6_chains_40 (fun r_5 u_ H locs h hw => ?_)
    have hw : Hw s z A (fW z qX qP qK qN qL qG F ++ (pW z qP P ++ (pW z qK K ++ (mW z qG qT G ++ (pW z qT T ++ (nW z qN N ++ (lW z qL L))))))) H locs := hw
    try dsimp only at h
    exact rt_i M F hw h dX6_chains_43
  replace h := iF c_4 h
  by_cases c_6 : x1 = (2 : Int32)
  · replace h := iT c_6 h
    refine lv_tableIn (tgt := 44) hx hb dX6_chains_1 (by rw [c_6]; decide) (by rw [c_6]; decide) (by rw [c_6]; rfl) (by decide) ?_
    refine lv_aload_n hx hb dX6_chains_44 rfl (lv_at hl 0 rfl) ?_
    refine gt_f (v := .ref (qP 0)) M inlX6 hw 0 rfl rfl 0 (by decide) fl_X6_10 rfl rfl dX6_chains_45 ?_
    refine fr_Si (wN := fun _ : Unit => (fW z qX qP qK qN qL qG F ++ (pW z qP P ++ (pW z qK K ++ (mW z qG qT G ++ (pW z qT T ++ (nW z qN N ++ (lW z qL L)))))))) M (m_X2_hasRing l z qP P _ h) (va_cwS 1 hts (gdS cd_X2_hasRing ml_X6_208 st_X2_hasRing in_X2) rfl rfl rfl hdS_X2_hasRing ⟨(Nat.le_of_ble_eq_true rfl), (Nat.le_of_ble_eq_true rfl)⟩) cut_16 prm_16 hw rfl hl.1 rfl (Nat.le_of_ble_eq_true rfl) dX6_chains_48 (fun r_7 u_ H locs h hw => ?_)
    have hw : Hw s z A (fW z qX qP qK qN qL qG F ++ (pW z qP P ++ (pW z qK K ++ (mW z qG qT G ++ (pW z qT T ++ (nW z qN N ++ (lW z qL L))))))) H locs := hw
    try dsimp only at h
    refine lv_if_eq (tgt := 58) hx hb dX6_chains_51 (by decide) (fun c_8 => ?_) (fun c_8 => ?_)
    · replace h := iT c_8 h
      refine lv_iconst (v := 0) hx hb dX6_chains_58 (by decide) ?_
      exact rt_i M F hw h dX6_chains_59
    · replace h := iF c_8 h
      refine lv_iconst (v := 1) hx hb dX6_chains_54 (by decide) ?_
      refine lv_goto (tgt := 59) hx hb dX6_chains_55 (by decide) ?_
      exact rt_i M F hw h dX6_chains_59
  replace h := iF c_6 h
  refine lv_tableOut (tgt := 60) hx hb dX6_chains_1 (by have q0 := lv_neT (a := 0) c_2 (by decide); have q1 := lv_neT (a := 1) c_4 (by decide); have q2 := lv_neT (a := 2) c_6 (by decide); omega) (by decide) ?_
  refine lv_aload_n hx hb dX6_chains_60 rfl (lv_at hl 0 rfl) ?_
  refine lv_bipush (v := -2) hx hb dX6_chains_61 (by decide) ?_
  refine fr_Vi (wN := fun u : RT => (fW z qX qP qK qN qL qG u ++ (pW z qP P ++ (pW z qK K ++ (mW z qG qT G ++ (pW z qT T ++ (nW z qN N ++ (lW z qL L)))))))) M (m_X6_refuse l z qX qL qN qG qP qK F (-2 : Int32) _ h) (cwV 1 hts (gdV cd_X6_refuse ml_X6_56 im_X6_refuse se_X6_refuse in_X6) rfl rfl rfl hdV_X6_refuse ⟨(Nat.le_of_ble_eq_true rfl), (Nat.le_of_ble_eq_true rfl)⟩) cut_12 prm_12 0 rfl rfl rfl hw rfl hl.1 rfl (Nat.le_of_ble_eq_true rfl) dX6_chains_63 (fun r_10 u_ H locs h hw => ?_)
  obtain ⟨F_9, rfl⟩ : ∃ z9 : RT, z9 = u_ := ⟨_, rfl⟩
  have hw : Hw s z A (fW z qX qP qK qN qL qG F_9 ++ (pW z qP P ++ (pW z qK K ++ (mW z qG qT G ++ (pW z qT T ++ (nW z qN N ++ (lW z qL L))))))) H locs := hw
  try dsimp only at h
  exact rt_i M F_9 hw h dX6_chains_66
abbrev rmX6_hauled : Room := { frames := 3, cells := 0, slots := 0, locals := 73 }
set_option maxHeartbeats 4000000 in
set_option maxRecDepth 100000 in
theorem m_X6_hauled (l : Launch) (z : KT) (qX : Nat → Nat) (qL : Nat → Nat) (qN : Nat → Nat) (qG : Nat → Nat) (qP : Nat → Nat) (qK : Nat → Nat) (qT : Nat → Nat) (F : RT) (P : RT) (K : RT) (G : RT) (T : RT) (N : RT) (L : RT) (x1 : Int32) (x2 : Int32) (Q : Int32 → RT → Prop) (h : wX6_hauled F P K G T N L x1 x2 Q) : CI l yX6_hauled cX6_hauled 3 .int rmX6_hauled z [.ref (qX 0), .int x1, .int x2] (fW z qX qP qK qN qL qG F ++ (pW z qP P ++ (pW z qK K ++ (mW z qG qT G ++ (pW z qT T ++ (nW z qN N ++ (lW z qL L))))))) (fun u : RT => (fW z qX qP qK qN qL qG u ++ (pW z qP P ++ (pW z qK K ++ (mW z qG qT G ++ (pW z qT T ++ (nW z qN N ++ (lW z qL L)))))))) (fun (r : Int32) (u : RT) => Q r u) := by
  refine CI.of rfl (Nat.le_of_ble_eq_true rfl) ?_
  intro p e s m below meth c A ls M hw hl
  have M : Mc p s m _ meth c cX6_hauled 3 (some .int) RX6 z A := M
  obtain ⟨hx, hb, -, -, hown, hts, -, -, -, hN, hsr, -⟩ := id M
  have hl : lv_has ls 3 [(0, .ref (qX 0)), (1, .int x1), (2, .int x2)] := hl
  unfold wX6_hauled at h
  generalize s.heap = H at hw ⊢
  generalize ([] : List Loc) = locs at hw ⊢
  refine lv_aload_n hx hb dX6_hauled_0 rfl (lv_at hl 0 rfl) ?_
  refine gt_f (v := .ref (qP 0)) M inlX6 hw 0 rfl rfl 0 (by decide) fl_X6_10 rfl rfl dX6_hauled_1 ?_
  refine lv_iload_n hx hb dX6_hauled_4 rfl (lv_at hl 1 rfl) ?_
  refine lv_iload_n hx hb dX6_hauled_5 rfl (lv_at hl 2 rfl) ?_
  refine fr_Vi (wN := fun _ : Unit => (fW z qX qP qK qN qL qG F ++ (pW z qP P ++ (pW z qK K ++ (mW z qG qT G ++ (pW z qT T ++ (nW z qN N ++ (lW z qL L)))))))) M (m_X3_hasPair l z qP P x1 x2 _ h) (cwV 2 hts (gdV cd_X3_hasPair ml_X6_109 im_X3_hasPair se_X3_hasPair in_X3) rfl rfl rfl hdV_X3_hasPair ⟨(Nat.le_of_ble_eq_true rfl), (Nat.le_of_ble_eq_true rfl)⟩) cut_16 prm_16 0 rfl rfl rfl hw rfl hl.1 rfl (Nat.le_of_ble_eq_true rfl) dX6_hauled_6 (fun r_1 u_ H locs h hw => ?_)
  have hw : Hw s z A (fW z qX qP qK qN qL qG F ++ (pW z qP P ++ (pW z qK K ++ (mW z qG qT G ++ (pW z qT T ++ (nW z qN N ++ (lW z qL L))))))) H locs := hw
  try dsimp only at h
  refine lv_if_ne (tgt := 18) hx hb dX6_hauled_9 (by decide) (fun c_2 => ?_) (fun c_2 => ?_)
  · replace h := iF c_2 h
    refine lv_aload_n hx hb dX6_hauled_18 rfl (lv_at hl 0 rfl) ?_
    refine gt_f (v := .ref (qP 0)) M inlX6 hw 0 rfl rfl 0 (by decide) fl_X6_10 rfl rfl dX6_hauled_19 ?_
    refine lv_iload_n hx hb dX6_hauled_22 rfl (lv_at hl 1 rfl) ?_
    refine fr_Si (wN := fun _ : Unit => (fW z qX qP qK qN qL qG F ++ (pW z qP P ++ (pW z qK K ++ (mW z qG qT G ++ (pW z qT T ++ (nW z qN N ++ (lW z qL L)))))))) M (m_X2_heavierThan l z qP P x1 _ h) (va_cwS 2 hts (gdS cd_X2_heavierThan ml_X6_212 st_X2_heavierThan in_X2) rfl rfl rfl hdS_X2_heavierThan ⟨(Nat.le_of_ble_eq_true rfl), (Nat.le_of_ble_eq_true rfl)⟩) cut_16 prm_16 hw rfl hl.1 rfl (Nat.le_of_ble_eq_true rfl) dX6_hauled_23 (fun r_3 u_ H locs h hw => ?_)
    have hw : Hw s z A (fW z qX qP qK qN qL qG F ++ (pW z qP P ++ (pW z qK K ++ (mW z qG qT G ++ (pW z qT T ++ (nW z qN N ++ (lW z qL L))))))) H locs := hw
    try dsimp only at h
    refine lv_iload_n hx hb dX6_hauled_26 rfl (lv_at hl 2 rfl) ?_
    refine fr_Si (wN := fun _ : Unit => (fW z qX qP qK qN qL qG F ++ (pW z qP P ++ (pW z qK K ++ (mW z qG qT G ++ (pW z qT T ++ (nW z qN N ++ (lW z qL L)))))))) M (m_X6_hasBit l z r_3 x2 _ h) (va_cwS 2 hts (gdS cd_X6_hasBit ml_X6_215 st_X6_hasBit in_X6) rfl rfl rfl hdS_X6_hasBit ⟨(Nat.le_of_ble_eq_true rfl), (Nat.le_of_ble_eq_true rfl)⟩) (Cut.none _) (Prm.none _) hw rfl hl.1 rfl (Nat.le_of_ble_eq_true rfl) dX6_hauled_27 (fun r_4 u_ H locs h hw => ?_)
    have hw : Hw s z A (fW z qX qP qK qN qL qG F ++ (pW z qP P ++ (pW z qK K ++ (mW z qG qT G ++ (pW z qT T ++ (nW z qN N ++ (lW z qL L))))))) H locs := hw
    try dsimp only at h
    refine lv_if_eq (tgt := 37) hx hb dX6_hauled_30 (by decide) (fun c_5 => ?_) (fun c_5 => ?_)
    · replace h := iT c_5 h
      refine lv_iconst (v := 0) hx hb dX6_hauled_37 (by decide) ?_
      exact rt_i M F hw h dX6_hauled_38
    · replace h := iF c_5 h
      refine lv_iconst (v := 1) hx hb dX6_hauled_33 (by decide) ?_
      refine lv_goto (tgt := 38) hx hb dX6_hauled_34 (by decide) ?_
      exact rt_i M F hw h dX6_hauled_38
  · replace h := iT c_2 h
    refine lv_aload_n hx hb dX6_hauled_12 rfl (lv_at hl 0 rfl) ?_
    refine lv_iconst (v := -1) hx hb dX6_hauled_13 (by decide) ?_
    refine fr_Vi (wN := fun u : RT => (fW z qX qP qK qN qL qG u ++ (pW z qP P ++ (pW z qK K ++ (mW z qG qT G ++ (pW z qT T ++ (nW z qN N ++ (lW z qL L)))))))) M (m_X6_refuse l z qX qL qN qG qP qK F (-1 : Int32) _ h) (cwV 1 hts (gdV cd_X6_refuse ml_X6_56 im_X6_refuse se_X6_refuse in_X6) rfl rfl rfl hdV_X6_refuse ⟨(Nat.le_of_ble_eq_true rfl), (Nat.le_of_ble_eq_true rfl)⟩) cut_12 prm_12 0 rfl rfl rfl hw rfl hl.1 rfl (Nat.le_of_ble_eq_true rfl) dX6_hauled_14 (fun r_7 u_ H locs h hw => ?_)
    obtain ⟨F_6, rfl⟩ : ∃ z9 : RT, z9 = u_ := ⟨_, rfl⟩
    have hw : Hw s z A (fW z qX qP qK qN qL qG F_6 ++ (pW z qP P ++ (pW z qK K ++ (mW z qG qT G ++ (pW z qT T ++ (nW z qN N ++ (lW z qL L))))))) H locs := hw
    try dsimp only at h
    exact rt_i M F_6 hw h dX6_hauled_17
abbrev rmX6_top : Room := { frames := 4, cells := 0, slots := 0, locals := 98 }
set_option maxHeartbeats 4000000 in
set_option maxRecDepth 100000 in
theorem m_X6_top (l : Launch) (z : KT) (qX : Nat → Nat) (qL : Nat → Nat) (qN : Nat → Nat) (qG : Nat → Nat) (qP : Nat → Nat) (qK : Nat → Nat) (qT : Nat → Nat) (F : RT) (P : RT) (K : RT) (G : RT) (T : RT) (N : RT) (L : RT) (x1 : Int32) (Q : Int32 → RT → Prop) (h : wX6_top F P K G T N L x1 Q) : CI l yX6_top cX6_top 2 .int rmX6_top z [.ref (qX 0), .int x1] (fW z qX qP qK qN qL qG F ++ (pW z qP P ++ (pW z qK K ++ (mW z qG qT G ++ (pW z qT T ++ (nW z qN N ++ (lW z qL L))))))) (fun u : RT => (fW z qX qP qK qN qL qG u ++ (pW z qP P ++ (pW z qK K ++ (mW z qG qT G ++ (pW z qT T ++ (nW z qN N ++ (lW z qL L)))))))) (fun (r : Int32) (u : RT) => Q r u) := by
  refine CI.of rfl (Nat.le_of_ble_eq_true rfl) ?_
  intro p e s m below meth c A ls M hw hl
  have M : Mc p s m _ meth c cX6_top 2 (some .int) RX6 z A := M
  obtain ⟨hx, hb, -, -, hown, hts, -, -, -, hN, hsr, -⟩ := id M
  have hl : lv_has ls 2 [(0, .ref (qX 0)), (1, .int x1)] := hl
  unfold wX6_top at h
  generalize s.heap = H at hw ⊢
  generalize ([] : List Loc) = locs at hw ⊢
  refine lv_aload_n hx hb dX6_top_0 rfl (lv_at hl 0 rfl) ?_
  refine gt_f (v := .ref (qP 0)) M inlX6 hw 0 rfl rfl 0 (by decide) fl_X6_10 rfl rfl dX6_top_1 ?_
  refine lv_iload_n hx hb dX6_top_4 rfl (lv_at hl 1 rfl) ?_
  refine fr_Vi (wN := fun _ : Unit => (fW z qX qP qK qN qL qG F ++ (pW z qP P ++ (pW z qK K ++ (mW z qG qT G ++ (pW z qT T ++ (nW z qN N ++ (lW z qL L)))))))) M (m_X3_hasThing l z qP P x1 _ h) (cwV 1 hts (gdV cd_X3_hasThing ml_X6_75 im_X3_hasThing se_X3_hasThing in_X3) rfl rfl rfl hdV_X3_hasThing ⟨(Nat.le_of_ble_eq_true rfl), (Nat.le_of_ble_eq_true rfl)⟩) cut_16 prm_16 0 rfl rfl rfl hw rfl hl.1 rfl (Nat.le_of_ble_eq_true rfl) dX6_top_5 (fun r_1 u_ H locs h hw => ?_)
  have hw : Hw s z A (fW z qX qP qK qN qL qG F ++ (pW z qP P ++ (pW z qK K ++ (mW z qG qT G ++ (pW z qT T ++ (nW z qN N ++ (lW z qL L))))))) H locs := hw
  try dsimp only at h
  refine lv_if_ne (tgt := 17) hx hb dX6_top_8 (by decide) (fun c_2 => ?_) (fun c_2 => ?_)
  · replace h := iF c_2 h
    refine lv_aload_n hx hb dX6_top_17 rfl (lv_at hl 0 rfl) ?_
    refine gt_f (v := .ref (qP 0)) M inlX6 hw 0 rfl rfl 0 (by decide) fl_X6_10 rfl rfl dX6_top_18 ?_
    refine lv_iload_n hx hb dX6_top_21 rfl (lv_at hl 1 rfl) ?_
    refine fr_Si (wN := fun _ : Unit => (fW z qX qP qK qN qL qG F ++ (pW z qP P ++ (pW z qK K ++ (mW z qG qT G ++ (pW z qT T ++ (nW z qN N ++ (lW z qL L)))))))) M (m_X2_heaviestAbove l z qP P x1 _ h) (va_cwS 2 hts (gdS cd_X2_heaviestAbove ml_X6_218 st_X2_heaviestAbove in_X2) rfl rfl rfl hdS_X2_heaviestAbove ⟨(Nat.le_of_ble_eq_true rfl), (Nat.le_of_ble_eq_true rfl)⟩) cut_16 prm_16 hw rfl hl.1 rfl (Nat.le_of_ble_eq_true rfl) dX6_top_22 (fun r_3 u_ H locs h hw => ?_)
    have hw : Hw s z A (fW z qX qP qK qN qL qG F ++ (pW z qP P ++ (pW z qK K ++ (mW z qG qT G ++ (pW z qT T ++ (nW z qN N ++ (lW z qL L))))))) H locs := hw
    try dsimp only at h
    exact rt_i M F hw h dX6_top_25
  · replace h := iT c_2 h
    refine lv_aload_n hx hb dX6_top_11 rfl (lv_at hl 0 rfl) ?_
    refine lv_iconst (v := -1) hx hb dX6_top_12 (by decide) ?_
    refine fr_Vi (wN := fun u : RT => (fW z qX qP qK qN qL qG u ++ (pW z qP P ++ (pW z qK K ++ (mW z qG qT G ++ (pW z qT T ++ (nW z qN N ++ (lW z qL L)))))))) M (m_X6_refuse l z qX qL qN qG qP qK F (-1 : Int32) _ h) (cwV 1 hts (gdV cd_X6_refuse ml_X6_56 im_X6_refuse se_X6_refuse in_X6) rfl rfl rfl hdV_X6_refuse ⟨(Nat.le_of_ble_eq_true rfl), (Nat.le_of_ble_eq_true rfl)⟩) cut_12 prm_12 0 rfl rfl rfl hw rfl hl.1 rfl (Nat.le_of_ble_eq_true rfl) dX6_top_13 (fun r_5 u_ H locs h hw => ?_)
    obtain ⟨F_4, rfl⟩ : ∃ z9 : RT, z9 = u_ := ⟨_, rfl⟩
    have hw : Hw s z A (fW z qX qP qK qN qL qG F_4 ++ (pW z qP P ++ (pW z qK K ++ (mW z qG qT G ++ (pW z qT T ++ (nW z qN N ++ (lW z qL L))))))) H locs := hw
    try dsimp only at h
    exact rt_i M F_4 hw h dX6_top_16
abbrev rmX6_odd : Room := { frames := 3, cells := 0, slots := 0, locals := 70 }
set_option maxHeartbeats 4000000 in
set_option maxRecDepth 100000 in
theorem m_X6_odd (l : Launch) (z : KT) (qX : Nat → Nat) (qL : Nat → Nat) (qN : Nat → Nat) (qG : Nat → Nat) (qP : Nat → Nat) (qK : Nat → Nat) (qT : Nat → Nat) (F : RT) (P : RT) (K : RT) (G : RT) (T : RT) (N : RT) (L : RT) (Q : Int32 → Prop) (h : wX6_odd F P K G T N L Q) : CI l yX6_odd cX6_odd 1 .int rmX6_odd z [.ref (qX 0)] (fW z qX qP qK qN qL qG F ++ (pW z qP P ++ (pW z qK K ++ (mW z qG qT G ++ (pW z qT T ++ (nW z qN N ++ (lW z qL L))))))) (fun _ : Unit => (fW z qX qP qK qN qL qG F ++ (pW z qP P ++ (pW z qK K ++ (mW z qG qT G ++ (pW z qT T ++ (nW z qN N ++ (lW z qL L)))))))) (fun (r : Int32) (_ : Unit) => Q r) := by
  refine CI.of rfl (Nat.le_of_ble_eq_true rfl) ?_
  intro p e s m below meth c A ls M hw hl
  have M : Mc p s m _ meth c cX6_odd 1 (some .int) RX6 z A := M
  obtain ⟨hx, hb, -, -, hown, hts, -, -, -, hN, hsr, -⟩ := id M
  have hl : lv_has ls 1 [(0, .ref (qX 0))] := hl
  unfold wX6_odd at h
  generalize s.heap = H at hw ⊢
  generalize ([] : List Loc) = locs at hw ⊢
  refine lv_aload_n hx hb dX6_odd_0 rfl (lv_at hl 0 rfl) ?_
  refine gt_f (v := .ref (qP 0)) M inlX6 hw 0 rfl rfl 0 (by decide) fl_X6_10 rfl rfl dX6_odd_1 ?_
  refine fr_Vi (wN := fun _ : Unit => (fW z qX qP qK qN qL qG F ++ (pW z qP P ++ (pW z qK K ++ (mW z qG qT G ++ (pW z qT T ++ (nW z qN N ++ (lW z qL L)))))))) M (m_X3_looseRopes l z qP P _ h) (cwV 0 hts (gdV cd_X3_looseRopes ml_X6_221 im_X3_looseRopes se_X3_looseRopes in_X3) rfl rfl rfl hdV_X3_looseRopes ⟨(Nat.le_of_ble_eq_true rfl), (Nat.le_of_ble_eq_true rfl)⟩) cut_16 prm_16 0 rfl rfl rfl hw rfl hl.1 rfl (Nat.le_of_ble_eq_true rfl) dX6_odd_4 (fun r_1 u_ H locs h hw => ?_)
  have hw : Hw s z A (fW z qX qP qK qN qL qG F ++ (pW z qP P ++ (pW z qK K ++ (mW z qG qT G ++ (pW z qT T ++ (nW z qN N ++ (lW z qL L))))))) H locs := hw
  try dsimp only at h
  exact rt_i M () hw h dX6_odd_7
abbrev rmX6_meet : Room := { frames := 4, cells := 0, slots := 0, locals := 84 }
set_option maxHeartbeats 4000000 in
set_option maxRecDepth 100000 in
theorem m_X6_meet (l : Launch) (z : KT) (qX : Nat → Nat) (qL : Nat → Nat) (qN : Nat → Nat) (qG : Nat → Nat) (qP : Nat → Nat) (qK : Nat → Nat) (qT : Nat → Nat) (F : RT) (P : RT) (K : RT) (G : RT) (T : RT) (N : RT) (L : RT) (x1 : Int32) (x2 : Int32) (Q : Int32 → RT → RT → Prop) (h : wX6_meet F P K G T N L x1 x2 Q) : CI l yX6_meet cX6_meet 3 .int rmX6_meet z [.ref (qX 0), .int x1, .int x2] (fW z qX qP qK qN qL qG F ++ (pW z qP P ++ (pW z qK K ++ (mW z qG qT G ++ (pW z qT T ++ (nW z qN N ++ (lW z qL L))))))) (fun u : RT × RT => (fW z qX qP qK qN qL qG u.1 ++ (pW z qP P ++ (pW z qK K ++ (mW z qG qT G ++ (pW z qT u.2 ++ (nW z qN N ++ (lW z qL L)))))))) (fun (r : Int32) (u : RT × RT) => Q r u.1 u.2) := by
  refine CI.of rfl (Nat.le_of_ble_eq_true rfl) ?_
  intro p e s m below meth c A ls M hw hl
  have M : Mc p s m _ meth c cX6_meet 3 (some .int) RX6 z A := M
  obtain ⟨hx, hb, -, -, hown, hts, -, -, -, hN, hsr, -⟩ := id M
  have hl : lv_has ls 3 [(0, .ref (qX 0)), (1, .int x1), (2, .int x2)] := hl
  unfold wX6_meet at h
  generalize s.heap = H at hw ⊢
  generalize ([] : List Loc) = locs at hw ⊢
  refine lv_aload_n hx hb dX6_meet_0 rfl (lv_at hl 0 rfl) ?_
  refine gt_f (v := .ref (qP 0)) M inlX6 hw 0 rfl rfl 0 (by decide) fl_X6_10 rfl rfl dX6_meet_1 ?_
  refine lv_iload_n hx hb dX6_meet_4 rfl (lv_at hl 1 rfl) ?_
  refine lv_iload_n hx hb dX6_meet_5 rfl (lv_at hl 2 rfl) ?_
  refine fr_Vi (wN := fun _ : Unit => (fW z qX qP qK qN qL qG F ++ (pW z qP P ++ (pW z qK K ++ (mW z qG qT G ++ (pW z qT T ++ (nW z qN N ++ (lW z qL L)))))))) M (m_X3_hasPair l z qP P x1 x2 _ h) (cwV 2 hts (gdV cd_X3_hasPair ml_X6_109 im_X3_hasPair se_X3_hasPair in_X3) rfl rfl rfl hdV_X3_hasPair ⟨(Nat.le_of_ble_eq_true rfl), (Nat.le_of_ble_eq_true rfl)⟩) cut_16 prm_16 0 rfl rfl rfl hw rfl hl.1 rfl (Nat.le_of_ble_eq_true rfl) dX6_meet_6 (fun r_1 u_ H locs h hw => ?_)
  have hw : Hw s z A (fW z qX qP qK qN qL qG F ++ (pW z qP P ++ (pW z qK K ++ (mW z qG qT G ++ (pW z qT T ++ (nW z qN N ++ (lW z qL L))))))) H locs := hw
  try dsimp only at h
  refine lv_if_ne (tgt := 18) hx hb dX6_meet_9 (by decide) (fun c_2 => ?_) (fun c_2 => ?_)
  · replace h := iF c_2 h
    refine lv_aload_n hx hb dX6_meet_18 rfl (lv_at hl 0 rfl) ?_
    refine gt_f (v := .ref (qG 0)) M inlX6 hw 0 rfl rfl 5 (by decide) fl_X6_40 rfl rfl dX6_meet_19 ?_
    refine lv_aload_n hx hb dX6_meet_22 rfl (lv_at hl 0 rfl) ?_
    refine gt_f (v := .ref (qP 0)) M inlX6 hw 0 rfl rfl 0 (by decide) fl_X6_10 rfl rfl dX6_meet_23 ?_
    refine lv_iload_n hx hb dX6_meet_26 rfl (lv_at hl 1 rfl) ?_
    refine lv_iload_n hx hb dX6_meet_27 rfl (lv_at hl 2 rfl) ?_
    refine fr_Vi (wN := fun u : RT => (fW z qX qP qK qN qL qG F ++ (pW z qP P ++ (pW z qK K ++ (mW z qG qT G ++ (pW z qT u ++ (nW z qN N ++ (lW z qL L)))))))) M (m_X1_whenLevel l z qG qP qT G T P x1 x2 _ h) (cwV 3 hts (gdV cd_X1_whenLevel ml_X6_224 im_X1_whenLevel se_X1_whenLevel in_X1) rfl rfl rfl hdV_X1_whenLevel ⟨(Nat.le_of_ble_eq_true rfl), (Nat.le_of_ble_eq_true rfl)⟩) cut_13 prm_13 0 rfl rfl rfl hw rfl hl.1 rfl (Nat.le_of_ble_eq_true rfl) dX6_meet_28 (fun r_4 u_ H locs h hw => ?_)
    obtain ⟨T_3, rfl⟩ : ∃ z9 : RT, z9 = u_ := ⟨_, rfl⟩
    have hw : Hw s z A (fW z qX qP qK qN qL qG F ++ (pW z qP P ++ (pW z qK K ++ (mW z qG qT G ++ (pW z qT T_3 ++ (nW z qN N ++ (lW z qL L))))))) H locs := hw
    try dsimp only at h
    exact rt_i M (F, T_3) hw h dX6_meet_31
  · replace h := iT c_2 h
    refine lv_aload_n hx hb dX6_meet_12 rfl (lv_at hl 0 rfl) ?_
    refine lv_iconst (v := -1) hx hb dX6_meet_13 (by decide) ?_
    refine fr_Vi (wN := fun u : RT => (fW z qX qP qK qN qL qG u ++ (pW z qP P ++ (pW z qK K ++ (mW z qG qT G ++ (pW z qT T ++ (nW z qN N ++ (lW z qL L)))))))) M (m_X6_refuse l z qX qL qN qG qP qK F (-1 : Int32) _ h) (cwV 1 hts (gdV cd_X6_refuse ml_X6_56 im_X6_refuse se_X6_refuse in_X6) rfl rfl rfl hdV_X6_refuse ⟨(Nat.le_of_ble_eq_true rfl), (Nat.le_of_ble_eq_true rfl)⟩) cut_12 prm_12 0 rfl rfl rfl hw rfl hl.1 rfl (Nat.le_of_ble_eq_true rfl) dX6_meet_14 (fun r_6 u_ H locs h hw => ?_)
    obtain ⟨F_5, rfl⟩ : ∃ z9 : RT, z9 = u_ := ⟨_, rfl⟩
    have hw : Hw s z A (fW z qX qP qK qN qL qG F_5 ++ (pW z qP P ++ (pW z qK K ++ (mW z qG qT G ++ (pW z qT T ++ (nW z qN N ++ (lW z qL L))))))) H locs := hw
    try dsimp only at h
    exact rt_i M (F_5, T) hw h dX6_meet_17
abbrev rmX6_two : Room := { frames := 5, cells := 0, slots := 0, locals := 121 }
set_option maxHeartbeats 4000000 in
set_option maxRecDepth 100000 in
theorem m_X6_two (l : Launch) (z : KT) (qX : Nat → Nat) (qL : Nat → Nat) (qN : Nat → Nat) (qG : Nat → Nat) (qP : Nat → Nat) (qK : Nat → Nat) (qT : Nat → Nat) (F : RT) (P : RT) (K : RT) (G : RT) (T : RT) (N : RT) (L : RT) (x1 : Int32) (x2 : Int32) (x3 : Int32) (Q : Int32 → RT → RT → RT → Prop) (h : wX6_two F P K G T N L x1 x2 x3 Q) : CI l yX6_two cX6_two 5 .int rmX6_two z [.ref (qX 0), .int x1, .int x2, .int x3] (fW z qX qP qK qN qL qG F ++ (pW z qP P ++ (pW z qK K ++ (mW z qG qT G ++ (pW z qT T ++ (nW z qN N ++ (lW z qL L))))))) (fun u : RT × RT × RT => (fW z qX qP qK qN qL qG u.1 ++ (pW z qP P ++ (pW z qK K ++ (mW z qG qT u.2.1 ++ (pW z qT u.2.2 ++ (nW z qN N ++ (lW z qL L)))))))) (fun (r : Int32) (u : RT × RT × RT) => Q r u.1 u.2.1 u.2.2) := by
  refine CI.of rfl (Nat.le_of_ble_eq_true rfl) ?_
  intro p e s m below meth c A ls M hw hl
  have M : Mc p s m _ meth c cX6_two 5 (some .int) RX6 z A := M
  obtain ⟨hx, hb, -, -, hown, hts, -, -, -, hN, hsr, -⟩ := id M
  have hl : lv_has ls 5 [(0, .ref (qX 0)), (1, .int x1), (2, .int x2), (3, .int x3)] := hl
  unfold wX6_two at h
  generalize s.heap = H at hw ⊢
  generalize ([] : List Loc) = locs at hw ⊢
  refine lv_aload_n hx hb dX6_two_0 rfl (lv_at hl 0 rfl) ?_
  refine gt_f (v := .ref (qP 0)) M inlX6 hw 0 rfl rfl 0 (by decide) fl_X6_10 rfl rfl dX6_two_1 ?_
  refine lv_iload_n hx hb dX6_two_4 rfl (lv_at hl 1 rfl) ?_
  refine lv_iload_n hx hb dX6_two_5 rfl (lv_at hl 2 rfl) ?_
  refine fr_Vi (wN := fun _ : Unit => (fW z qX qP qK qN qL qG F ++ (pW z qP P ++ (pW z qK K ++ (mW z qG qT G ++ (pW z qT T ++ (nW z qN N ++ (lW z qL L)))))))) M (m_X3_hasPair l z qP P x1 x2 _ h) (cwV 2 hts (gdV cd_X3_hasPair ml_X6_109 im_X3_hasPair se_X3_hasPair in_X3) rfl rfl rfl hdV_X3_hasPair ⟨(Nat.le_of_ble_eq_true rfl), (Nat.le_of_ble_eq_true rfl)⟩) cut_16 prm_16 0 rfl rfl rfl hw rfl hl.1 rfl (Nat.le_of_ble_eq_true rfl) dX6_two_6 (fun r_1 u_ H locs h hw => ?_)
  have hw : Hw s z A (fW z qX qP qK qN qL qG F ++ (pW z qP P ++ (pW z qK K ++ (mW z qG qT G ++ (pW z qT T ++ (nW z qN N ++ (lW z qL L))))))) H locs := hw
  try dsimp only at h
  refine lv_if_ne (tgt := 18) hx hb dX6_two_9 (by decide) (fun c_2 => ?_) (fun c_2 => ?_)
  · replace h := iF c_2 h
    refine lv_iload_n hx hb dX6_two_18 rfl (lv_at hl 3 rfl) ?_
    refine lv_iconst (v := 0) hx hb dX6_two_19 (by decide) ?_
    refine lv_bipush (v := 30) hx hb dX6_two_20 (by decide) ?_
    refine fr_Si (wN := fun _ : Unit => (fW z qX qP qK qN qL qG F ++ (pW z qP P ++ (pW z qK K ++ (mW z qG qT G ++ (pW z qT T ++ (nW z qN N ++ (lW z qL L)))))))) M (m_X6_rangeFault l z x3 (0 : Int32) (30 : Int32) _ h) (va_cwS 3 hts (gdS cd_X6_rangeFault ml_X6_48 st_X6_rangeFault in_X6) rfl rfl rfl hdS_X6_rangeFault ⟨(Nat.le_of_ble_eq_true rfl), (Nat.le_of_ble_eq_true rfl)⟩) (Cut.none _) (Prm.none _) hw rfl hl.1 rfl (Nat.le_of_ble_eq_true rfl) dX6_two_22 (fun r_3 u_ H locs h hw => ?_)
    have hw : Hw s z A (fW z qX qP qK qN qL qG F ++ (pW z qP P ++ (pW z qK K ++ (mW z qG qT G ++ (pW z qT T ++ (nW z qN N ++ (lW z qL L))))))) H locs := hw
    try dsimp only at h
    refine lv_istore (lv' := [(4, .int r_3), (0, .ref (qX 0)), (1, .int x1), (2, .int x2), (3, .int x3)]) hx hb dX6_two_25 hl (by decide) rfl (fun ls hl => ?_)
    refine lv_iload hx hb dX6_two_27 (lv_at hl 0 rfl) ?_
    refine lv_if_eq (tgt := 39) hx hb dX6_two_29 (by decide) (fun c_4 => ?_) (fun c_4 => ?_)
    · replace h := iT c_4 h
      refine lv_aload_n hx hb dX6_two_39 rfl (lv_at hl 1 rfl) ?_
      refine gt_f (v := .ref (qG 0)) M inlX6 hw 0 rfl rfl 5 (by decide) fl_X6_40 rfl rfl dX6_two_40 ?_
      refine lv_aload_n hx hb dX6_two_43 rfl (lv_at hl 1 rfl) ?_
      refine gt_f (v := .ref (qP 0)) M inlX6 hw 0 rfl rfl 0 (by decide) fl_X6_10 rfl rfl dX6_two_44 ?_
      refine lv_iload_n hx hb dX6_two_47 rfl (lv_at hl 2 rfl) ?_
      refine lv_iload_n hx hb dX6_two_48 rfl (lv_at hl 3 rfl) ?_
      refine lv_iload_n hx hb dX6_two_49 rfl (lv_at hl 4 rfl) ?_
      refine fr_Vi (wN := fun u : RT × RT => (fW z qX qP qK qN qL qG F ++ (pW z qP P ++ (pW z qK K ++ (mW z qG qT u.1 ++ (pW z qT u.2 ++ (nW z qN N ++ (lW z qL L)))))))) M (m_X1_steadyPair l z qG qP qT G T P x1 x2 x3 _ h) (cwV 4 hts (gdV cd_X1_steadyPair ml_X6_227 im_X1_steadyPair se_X1_steadyPair in_X1) rfl rfl rfl hdV_X1_steadyPair ⟨(Nat.le_of_ble_eq_true rfl), (Nat.le_of_ble_eq_true rfl)⟩) cut_21 prm_21 0 rfl rfl rfl hw rfl hl.1 rfl (Nat.le_of_ble_eq_true rfl) dX6_two_50 (fun r_7 u_ H locs h hw => ?_)
      obtain ⟨G_5, T_6⟩ := u_
      have hw : Hw s z A (fW z qX qP qK qN qL qG F ++ (pW z qP P ++ (pW z qK K ++ (mW z qG qT G_5 ++ (pW z qT T_6 ++ (nW z qN N ++ (lW z qL L))))))) H locs := hw
      try dsimp only at h
      exact rt_i M (F, G_5, T_6) hw h dX6_two_53
    · replace h := iF c_4 h
      refine lv_aload_n hx hb dX6_two_32 rfl (lv_at hl 1 rfl) ?_
      refine lv_iload hx hb dX6_two_33 (lv_at hl 0 rfl) ?_
      refine fr_Vi (wN := fun u : RT => (fW z qX qP qK qN qL qG u ++ (pW z qP P ++ (pW z qK K ++ (mW z qG qT G ++ (pW z qT T ++ (nW z qN N ++ (lW z qL L)))))))) M (m_X6_refuse l z qX qL qN qG qP qK F r_3 _ h) (cwV 1 hts (gdV cd_X6_refuse ml_X6_56 im_X6_refuse se_X6_refuse in_X6) rfl rfl rfl hdV_X6_refuse ⟨(Nat.le_of_ble_eq_true rfl), (Nat.le_of_ble_eq_true rfl)⟩) cut_12 prm_12 0 rfl rfl rfl hw rfl hl.1 rfl (Nat.le_of_ble_eq_true rfl) dX6_two_35 (fun r_9 u_ H locs h hw => ?_)
      obtain ⟨F_8, rfl⟩ : ∃ z9 : RT, z9 = u_ := ⟨_, rfl⟩
      have hw : Hw s z A (fW z qX qP qK qN qL qG F_8 ++ (pW z qP P ++ (pW z qK K ++ (mW z qG qT G ++ (pW z qT T ++ (nW z qN N ++ (lW z qL L))))))) H locs := hw
      try dsimp only at h
      exact rt_i M (F_8, G, T) hw h dX6_two_38
  · replace h := iT c_2 h
    refine lv_aload_n hx hb dX6_two_12 rfl (lv_at hl 0 rfl) ?_
    refine lv_iconst (v := -1) hx hb dX6_two_13 (by decide) ?_
    refine fr_Vi (wN := fun u : RT => (fW z qX qP qK qN qL qG u ++ (pW z qP P ++ (pW z qK K ++ (mW z qG qT G ++ (pW z qT T ++ (nW z qN N ++ (lW z qL L)))))))) M (m_X6_refuse l z qX qL qN qG qP qK F (-1 : Int32) _ h) (cwV 1 hts (gdV cd_X6_refuse ml_X6_56 im_X6_refuse se_X6_refuse in_X6) rfl rfl rfl hdV_X6_refuse ⟨(Nat.le_of_ble_eq_true rfl), (Nat.le_of_ble_eq_true rfl)⟩) cut_12 prm_12 0 rfl rfl rfl hw rfl hl.1 rfl (Nat.le_of_ble_eq_true rfl) dX6_two_14 (fun r_11 u_ H locs h hw => ?_)
    obtain ⟨F_10, rfl⟩ : ∃ z9 : RT, z9 = u_ := ⟨_, rfl⟩
    have hw : Hw s z A (fW z qX qP qK qN qL qG F_10 ++ (pW z qP P ++ (pW z qK K ++ (mW z qG qT G ++ (pW z qT T ++ (nW z qN N ++ (lW z qL L))))))) H locs := hw
    try dsimp only at h
    exact rt_i M (F_10, G, T) hw h dX6_two_17
abbrev rmX6_wetFault : Room := { frames := 1, cells := 0, slots := 0, locals := 21 }
set_option maxHeartbeats 4000000 in
set_option maxRecDepth 100000 in
theorem m_X6_wetFault (l : Launch) (z : KT) (qX : Nat → Nat) (qL : Nat → Nat) (qN : Nat → Nat) (qG : Nat → Nat) (qP : Nat → Nat) (qK : Nat → Nat) (F : RT) (P : RT) (x1 : Int32) (x2 : Int32) (x3 : Int32) (x4 : Int32) (x5 : Int32) (Q : Int32 → Prop) (h : wX6_wetFault F P x1 x2 x3 x4 x5 Q) : CI l yX6_wetFault cX6_wetFault 6 .int rmX6_wetFault z [.ref (qX 0), .int x1, .int x2, .int x3, .int x4, .int x5] (fW z qX qP qK qN qL qG F ++ (pW z qP P)) (fun _ : Unit => (fW z qX qP qK qN qL qG F ++ (pW z qP P))) (fun (r : Int32) (_ : Unit) => Q r) := by
  refine CI.of rfl (Nat.le_of_ble_eq_true rfl) ?_
  intro p e s m below meth c A ls M hw hl
  have M : Mc p s m _ meth c cX6_wetFault 6 (some .int) RX6 z A := M
  obtain ⟨hx, hb, -, -, hown, hts, -, -, -, hN, hsr, -⟩ := id M
  have hl : lv_has ls 6 [(0, .ref (qX 0)), (1, .int x1), (2, .int x2), (3, .int x3), (4, .int x4), (5, .int x5)] := hl
  unfold wX6_wetFault at h
  generalize s.heap = H at hw ⊢
  generalize ([] : List Loc) = locs at hw ⊢
  refine lv_aload_n hx hb dX6_wetFault_0 rfl (lv_at hl 0 rfl) ?_
  refine gt_f (v := .ref (qP 0)) M inlX6 hw 0 rfl rfl 0 (by decide) fl_X6_10 rfl rfl dX6_wetFault_1 ?_
  refine lv_iload_n hx hb dX6_wetFault_4 rfl (lv_at hl 1 rfl) ?_
  refine fr_Vi (wN := fun _ : Unit => (fW z qX qP qK qN qL qG F ++ (pW z qP P))) M (m_X3_hasRope l z qP P x1 _ h) (cwV 1 hts (gdV cd_X3_hasRope ml_X6_97 im_X3_hasRope se_X3_hasRope in_X3) rfl rfl rfl hdV_X3_hasRope ⟨(Nat.le_of_ble_eq_true rfl), (Nat.le_of_ble_eq_true rfl)⟩) cut_18 prm_18 0 rfl rfl rfl hw rfl hl.1 rfl (Nat.le_of_ble_eq_true rfl) dX6_wetFault_5 (fun r_1 u_ H locs h hw => ?_)
  have hw : Hw s z A (fW z qX qP qK qN qL qG F ++ (pW z qP P)) H locs := hw
  try dsimp only at h
  refine lv_if_eq (tgt := 22) hx hb dX6_wetFault_8 (by decide) (fun c_2 => ?_) (fun c_2 => ?_)
  · replace h := iT c_2 h
    refine lv_iconst (v := -1) hx hb dX6_wetFault_22 (by decide) ?_
    exact rt_i M () hw h dX6_wetFault_23
  · replace h := iF c_2 h
    refine lv_aload_n hx hb dX6_wetFault_11 rfl (lv_at hl 0 rfl) ?_
    refine gt_f (v := .ref (qP 0)) M inlX6 hw 0 rfl rfl 0 (by decide) fl_X6_10 rfl rfl dX6_wetFault_12 ?_
    refine lv_iload_n hx hb dX6_wetFault_15 rfl (lv_at hl 2 rfl) ?_
    refine fr_Vi (wN := fun _ : Unit => (fW z qX qP qK qN qL qG F ++ (pW z qP P))) M (m_X3_hasThing l z qP P x2 _ h) (cwV 1 hts (gdV cd_X3_hasThing ml_X6_75 im_X3_hasThing se_X3_hasThing in_X3) rfl rfl rfl hdV_X3_hasThing ⟨(Nat.le_of_ble_eq_true rfl), (Nat.le_of_ble_eq_true rfl)⟩) cut_18 prm_18 0 rfl rfl rfl hw rfl hl.1 rfl (Nat.le_of_ble_eq_true rfl) dX6_wetFault_16 (fun r_3 u_ H locs h hw => ?_)
    have hw : Hw s z A (fW z qX qP qK qN qL qG F ++ (pW z qP P)) H locs := hw
    try dsimp only at h
    refine lv_if_ne (tgt := 24) hx hb dX6_wetFault_19 (by decide) (fun c_4 => ?_) (fun c_4 => ?_)
    · replace h := iF c_4 h
      refine lv_iload_n hx hb dX6_wetFault_24 rfl (lv_at hl 3 rfl) ?_
      refine lv_if_lt (tgt := 39) hx hb dX6_wetFault_25 (by decide) (fun c_5 => ?_) (fun c_5 => ?_)
      · replace h := iT c_5 h
        refine lv_bipush (v := -4) hx hb dX6_wetFault_39 (by decide) ?_
        exact rt_i M () hw h dX6_wetFault_41
      · replace h := iF c_5 h
        refine lv_iload hx hb dX6_wetFault_28 (lv_at hl 5 rfl) ?_
        refine lv_if_lt (tgt := 39) hx hb dX6_wetFault_30 (by decide) (fun c_6 => ?_) (fun c_6 => ?_)
        · replace h := iT c_6 h
          refine lv_bipush (v := -4) hx hb dX6_wetFault_39 (by decide) ?_
          exact rt_i M () hw h dX6_wetFault_41
        · replace h := iF c_6 h
          refine lv_iload hx hb dX6_wetFault_33 (lv_at hl 4 rfl) ?_
          refine lv_iconst (v := 2) hx hb dX6_wetFault_35 (by decide) ?_
          refine lv_icmp_ge (tgt := 42) hx hb dX6_wetFault_36 (by decide) (fun c_7 => ?_) (fun c_7 => ?_)
          · replace h := iT c_7 h
            refine lv_iload_n hx hb dX6_wetFault_42 rfl (lv_at hl 3 rfl) ?_
            refine lv_bipush (v := 7) hx hb dX6_wetFault_43 (by decide) ?_
            refine lv_icmp_gt (tgt := 62) hx hb dX6_wetFault_45 (by decide) (fun c_8 => ?_) (fun c_8 => ?_)
            · replace h := iT c_8 h
              refine lv_bipush (v := -6) hx hb dX6_wetFault_62 (by decide) ?_
              refine lv_goto (tgt := 68) hx hb dX6_wetFault_64 (by decide) ?_
              exact rt_i M () hw h dX6_wetFault_68
            · replace h := iF c_8 h
              refine lv_iload hx hb dX6_wetFault_48 (lv_at hl 4 rfl) ?_
              refine lv_bipush (v := 20) hx hb dX6_wetFault_50 (by decide) ?_
              refine lv_icmp_gt (tgt := 62) hx hb dX6_wetFault_52 (by decide) (fun c_9 => ?_) (fun c_9 => ?_)
              · replace h := iT c_9 h
                refine lv_bipush (v := -6) hx hb dX6_wetFault_62 (by decide) ?_
                refine lv_goto (tgt := 68) hx hb dX6_wetFault_64 (by decide) ?_
                exact rt_i M () hw h dX6_wetFault_68
              · replace h := iF c_9 h
                refine lv_iload hx hb dX6_wetFault_55 (lv_at hl 5 rfl) ?_
                refine lv_bipush (v := 20) hx hb dX6_wetFault_57 (by decide) ?_
                refine lv_icmp_le (tgt := 67) hx hb dX6_wetFault_59 (by decide) (fun c_10 => ?_) (fun c_10 => ?_)
                · replace h := iT c_10 h
                  refine lv_iconst (v := 0) hx hb dX6_wetFault_67 (by decide) ?_
                  exact rt_i M () hw h dX6_wetFault_68
                · replace h := iF c_10 h
                  refine lv_bipush (v := -6) hx hb dX6_wetFault_62 (by decide) ?_
                  refine lv_goto (tgt := 68) hx hb dX6_wetFault_64 (by decide) ?_
                  exact rt_i M () hw h dX6_wetFault_68
          · replace h := iF c_7 h
            refine lv_bipush (v := -4) hx hb dX6_wetFault_39 (by decide) ?_
            exact rt_i M () hw h dX6_wetFault_41
    · replace h := iT c_4 h
      refine lv_iconst (v := -1) hx hb dX6_wetFault_22 (by decide) ?_
      exact rt_i M () hw h dX6_wetFault_23
abbrev rmX6_refuseLong : Room := { frames := 1, cells := 0, slots := 0, locals := 21 }
set_option maxHeartbeats 4000000 in
set_option maxRecDepth 100000 in
theorem m_X6_refuseLong (l : Launch) (z : KT) (qX : Nat → Nat) (qL : Nat → Nat) (qN : Nat → Nat) (qG : Nat → Nat) (qP : Nat → Nat) (qK : Nat → Nat) (F : RT) (x1 : Int32) (Q : Int64 → RT → Prop) (h : wX6_refuseLong F x1 Q) : CL l yX6_refuseLong cX6_refuseLong 2 .long rmX6_refuseLong z [.ref (qX 0), .int x1] (fW z qX qP qK qN qL qG F) (fun u : RT => (fW z qX qP qK qN qL qG u)) (fun (r : Int64) (u : RT) => Q r u) := by
  refine CL.of rfl (Nat.le_of_ble_eq_true rfl) ?_
  intro p e s m below meth c A ls M hw hl
  have M : Mc p s m _ meth c cX6_refuseLong 2 (some .long) RX6 z A := M
  obtain ⟨hx, hb, -, -, hown, hts, -, -, -, hN, hsr, -⟩ := id M
  have hl : lv_has ls 2 [(0, .ref (qX 0)), (1, .int x1)] := hl
  unfold wX6_refuseLong at h
  generalize s.heap = H at hw ⊢
  generalize ([] : List Loc) = locs at hw ⊢
  refine lv_ldc2 hx hb hown (hts _ cl_X6_280) dX6_refuseLong_0 ?_
  refine lv_aload_n hx hb dX6_refuseLong_3 rfl (lv_at hl 0 rfl) ?_
  refine lv_iload_n hx hb dX6_refuseLong_4 rfl (lv_at hl 1 rfl) ?_
  refine fr_Vi (wN := fun u : RT => (fW z qX qP qK qN qL qG u)) M (m_X6_refuse l z qX qL qN qG qP qK F x1 _ h) (cwV 1 hts (gdV cd_X6_refuse ml_X6_56 im_X6_refuse se_X6_refuse in_X6) rfl rfl rfl hdV_X6_refuse ⟨(Nat.le_of_ble_eq_true rfl), (Nat.le_of_ble_eq_true rfl)⟩) (Cut.self _) (Prm.self _ 2 (fun _ => rfl)) 0 rfl rfl rfl hw rfl hl.1 rfl (Nat.le_of_ble_eq_true rfl) dX6_refuseLong_5 (fun r_2 u_ H locs h hw => ?_)
  obtain ⟨F_1, rfl⟩ : ∃ z9 : RT, z9 = u_ := ⟨_, rfl⟩
  have hw : Hw s z A (fW z qX qP qK qN qL qG F_1) H locs := hw
  try dsimp only at h
  refine lv_i2l hx hb dX6_refuseLong_8 rfl ?_
  refine lv_lsub hx hb dX6_refuseLong_9 ?_
  exact rt_l M F_1 hw h dX6_refuseLong_10
abbrev rmX6_wet : Room := { frames := 4, cells := 0, slots := 0, locals := 90 }
set_option maxHeartbeats 4000000 in
set_option maxRecDepth 100000 in
theorem kX6_wet_33 {p : Program} {l : Launch} {e : Env} {s : State} {m : MethodId} {args : Array Value} {below : List Frame} {meth : Method} {c : Code} {z : KT} {A : Nat → Prop} {qX : Nat → Nat} {qL : Nat → Nat} {qN : Nat → Nat} {qG : Nat → Nat} {qP : Nat → Nat} {qK : Nat → Nat} {qT : Nat → Nat} {P : RT} {K : RT} {G : RT} {N : RT} {L : RT} {Q : Int64 → RT → RT → Prop} (M : Mc p s m args meth c cX6_wet 10 (some .long) RX6 z A) : ∀ (F : RT) (T : RT) (x1 : Int32) (x2 : Int32) (x3 : Int32) (x4 : Int32) (x5 : Int32) (x6 : Int32) (x7 : Int32) (H : Heap) (locs : List Loc) (ls : Array Slot), Hw s z A (fW z qX qP qK qN qL qG F ++ (pW z qP P ++ (pW z qK K ++ (mW z qG qT G ++ (pW z qT T ++ (nW z qN N ++ (lW z qL L))))))) H locs → lv_has ls 10 [(0, .ref (qX 0)), (1, .int x1), (2, .int x2), (3, .int x3), (4, .int x4), (5, .int x5), (6, .int x6), (7, .int x7)] → bX6_wet_33 P K G N L Q F T x1 x2 x3 x4 x5 x6 x7 → W p l e rmX6_wet s m args below meth c H locs 0 0 (MQ below (va_Ql (fun (r : Int64) (u : RT × RT) => Q r u.1 u.2) (fun u t => cAt z A ((fun u : RT × RT => (fW z qX qP qK qN qL qG u.1 ++ (pW z qP P ++ (pW z qK K ++ (mW z qG qT G ++ (pW z qT u.2 ++ (nW z qN N ++ (lW z qL L)))))))) u) t) A) args s 0 0 A) (F0 m 33 ls []) := by
  obtain ⟨hx, hb, -, -, hown, hts, -, -, -, hN, hsr, -⟩ := id M
  intro F T x1 x2 x3 x4 x5 x6 x7 H locs ls hw hl h
  unfold bX6_wet_33 at h
  refine lv_iload hx hb dX6_wet_33 (lv_at hl 7 rfl) ?_
  refine lv_if_eq (tgt := 45) hx hb dX6_wet_35 (by decide) (fun c_1 => ?_) (fun c_1 => ?_)
  · replace h := iT c_1 h
    refine lv_aload_n hx hb dX6_wet_45 rfl (lv_at hl 0 rfl) ?_
    refine gt_f (v := .ref (qG 0)) M inlX6 hw 0 rfl rfl 5 (by decide) fl_X6_40 rfl rfl dX6_wet_46 ?_
    refine lv_aload_n hx hb dX6_wet_49 rfl (lv_at hl 0 rfl) ?_
    refine gt_f (v := .ref (qP 0)) M inlX6 hw 0 rfl rfl 0 (by decide) fl_X6_10 rfl rfl dX6_wet_50 ?_
    refine lv_iload_n hx hb dX6_wet_53 rfl (lv_at hl 1 rfl) ?_
    refine lv_iload_n hx hb dX6_wet_54 rfl (lv_at hl 2 rfl) ?_
    refine lv_iload_n hx hb dX6_wet_55 rfl (lv_at hl 3 rfl) ?_
    refine lv_iload hx hb dX6_wet_56 (lv_at hl 4 rfl) ?_
    refine lv_iload hx hb dX6_wet_58 (lv_at hl 5 rfl) ?_
    refine fr_Vl (wN := fun u : RT => (fW z qX qP qK qN qL qG F ++ (pW z qP P ++ (pW z qK K ++ (mW z qG qT G ++ (pW z qT u ++ (nW z qN N ++ (lW z qL L)))))))) M (m_X1_wetCases l z qG qP qT G T P x1 x2 x3 x4 x5 _ h) (cwV 6 hts (gdV cd_X1_wetCases ml_X6_238 im_X1_wetCases se_X1_wetCases in_X1) rfl rfl rfl hdV_X1_wetCases ⟨(Nat.le_of_ble_eq_true rfl), (Nat.le_of_ble_eq_true rfl)⟩) cut_13 prm_13 0 rfl rfl rfl hw rfl hl.1 rfl (Nat.le_of_ble_eq_true rfl) dX6_wet_60 (fun r_3 u_ H locs h hw => ?_)
    obtain ⟨T_2, rfl⟩ : ∃ z9 : RT, z9 = u_ := ⟨_, rfl⟩
    have hw : Hw s z A (fW z qX qP qK qN qL qG F ++ (pW z qP P ++ (pW z qK K ++ (mW z qG qT G ++ (pW z qT T_2 ++ (nW z qN N ++ (lW z qL L))))))) H locs := hw
    try dsimp only at h
    refine lv_lstore (lv' := [(8, .long r_3), (0, .ref (qX 0)), (1, .int x1), (2, .int x2), (3, .int x3), (4, .int x4), (5, .int x5), (6, .int x6), (7, .int x7)]) hx hb dX6_wet_63 hl (by decide) rfl (fun ls hl => ?_)
    refine lv_lload hx hb dX6_wet_65 (lv_at hl 0 rfl) ?_
    refine lv_iload hx hb dX6_wet_67 (lv_at hl 5 rfl) ?_
    refine lv_i2l hx hb dX6_wet_69 rfl ?_
    refine lv_iload_n hx hb dX6_wet_70 rfl (lv_at hl 4 rfl) ?_
    refine fr_Sl (wN := fun _ : Unit => (fW z qX qP qK qN qL qG F ++ (pW z qP P ++ (pW z qK K ++ (mW z qG qT G ++ (pW z qT T_2 ++ (nW z qN N ++ (lW z qL L)))))))) M (m_X6_power l z ((x4).toInt64) x3 _ h) (va_cwS 2 hts (gdS cd_X6_power ml_X6_242 st_X6_power in_X6) rfl rfl rfl hdS_X6_power ⟨(Nat.le_of_ble_eq_true rfl), (Nat.le_of_ble_eq_true rfl)⟩) (Cut.none _) (Prm.none _) hw rfl hl.1 rfl (Nat.le_of_ble_eq_true rfl) dX6_wet_71 (fun r_4 u_ H locs h hw => ?_)
    have hw : Hw s z A (fW z qX qP qK qN qL qG F ++ (pW z qP P ++ (pW z qK K ++ (mW z qG qT G ++ (pW z qT T_2 ++ (nW z qN N ++ (lW z qL L))))))) H locs := hw
    try dsimp only at h
    refine lv_iload hx hb dX6_wet_74 (lv_at hl 7 rfl) ?_
    refine fr_Sl (wN := fun _ : Unit => (fW z qX qP qK qN qL qG F ++ (pW z qP P ++ (pW z qK K ++ (mW z qG qT G ++ (pW z qT T_2 ++ (nW z qN N ++ (lW z qL L)))))))) M (m_X6_inLeastTerms l z r_3 r_4 x6 _ h) (va_cwS 3 hts (gdS cd_X6_inLeastTerms ml_X6_246 st_X6_inLeastTerms in_X6) rfl rfl rfl hdS_X6_inLeastTerms ⟨(Nat.le_of_ble_eq_true rfl), (Nat.le_of_ble_eq_true rfl)⟩) (Cut.none _) (Prm.none _) hw rfl hl.1 rfl (Nat.le_of_ble_eq_true rfl) dX6_wet_76 (fun r_5 u_ H locs h hw => ?_)
    have hw : Hw s z A (fW z qX qP qK qN qL qG F ++ (pW z qP P ++ (pW z qK K ++ (mW z qG qT G ++ (pW z qT T_2 ++ (nW z qN N ++ (lW z qL L))))))) H locs := hw
    try dsimp only at h
    exact rt_l M (F, T_2) hw h dX6_wet_79
  · replace h := iF c_1 h
    refine lv_aload_n hx hb dX6_wet_38 rfl (lv_at hl 0 rfl) ?_
    refine lv_iload hx hb dX6_wet_39 (lv_at hl 7 rfl) ?_
    refine fr_Vl (wN := fun u : RT => (fW z qX qP qK qN qL qG u ++ (pW z qP P ++ (pW z qK K ++ (mW z qG qT G ++ (pW z qT T ++ (nW z qN N ++ (lW z qL L)))))))) M (m_X6_refuseLong l z qX qL qN qG qP qK F x7 _ h) (cwV 1 hts (gdV cd_X6_refuseLong ml_X6_234 im_X6_refuseLong se_X6_refuseLong in_X6) rfl rfl rfl hdV_X6_refuseLong ⟨(Nat.le_of_ble_eq_true rfl), (Nat.le_of_ble_eq_true rfl)⟩) cut_12 prm_12 0 rfl rfl rfl hw rfl hl.1 rfl (Nat.le_of_ble_eq_true rfl) dX6_wet_41 (fun r_7 u_ H locs h hw => ?_)
    obtain ⟨F_6, rfl⟩ : ∃ z9 : RT, z9 = u_ := ⟨_, rfl⟩
    have hw : Hw s z A (fW z qX qP qK qN qL qG F_6 ++ (pW z qP P ++ (pW z qK K ++ (mW z qG qT G ++ (pW z qT T ++ (nW z qN N ++ (lW z qL L))))))) H locs := hw
    try dsimp only at h
    exact rt_l M (F_6, T) hw h dX6_wet_44
set_option maxHeartbeats 4000000 in
set_option maxRecDepth 100000 in
theorem m_X6_wet (l : Launch) (z : KT) (qX : Nat → Nat) (qL : Nat → Nat) (qN : Nat → Nat) (qG : Nat → Nat) (qP : Nat → Nat) (qK : Nat → Nat) (qT : Nat → Nat) (F : RT) (P : RT) (K : RT) (G : RT) (T : RT) (N : RT) (L : RT) (x1 : Int32) (x2 : Int32) (x3 : Int32) (x4 : Int32) (x5 : Int32) (x6 : Int32) (Q : Int64 → RT → RT → Prop) (h : wX6_wet F P K G T N L x1 x2 x3 x4 x5 x6 Q) : CL l yX6_wet cX6_wet 10 .long rmX6_wet z [.ref (qX 0), .int x1, .int x2, .int x3, .int x4, .int x5, .int x6] (fW z qX qP qK qN qL qG F ++ (pW z qP P ++ (pW z qK K ++ (mW z qG qT G ++ (pW z qT T ++ (nW z qN N ++ (lW z qL L))))))) (fun u : RT × RT => (fW z qX qP qK qN qL qG u.1 ++ (pW z qP P ++ (pW z qK K ++ (mW z qG qT G ++ (pW z qT u.2 ++ (nW z qN N ++ (lW z qL L)))))))) (fun (r : Int64) (u : RT × RT) => Q r u.1 u.2) := by
  refine CL.of rfl (Nat.le_of_ble_eq_true rfl) ?_
  intro p e s m below meth c A ls M hw hl
  have M : Mc p s m _ meth c cX6_wet 10 (some .long) RX6 z A := M
  obtain ⟨hx, hb, -, -, hown, hts, -, -, -, hN, hsr, -⟩ := id M
  have hl : lv_has ls 10 [(0, .ref (qX 0)), (1, .int x1), (2, .int x2), (3, .int x3), (4, .int x4), (5, .int x5), (6, .int x6)] := hl
  unfold wX6_wet at h
  generalize s.heap = H at hw ⊢
  generalize ([] : List Loc) = locs at hw ⊢
  refine lv_aload_n hx hb dX6_wet_0 rfl (lv_at hl 0 rfl) ?_
  refine lv_iload_n hx hb dX6_wet_1 rfl (lv_at hl 1 rfl) ?_
  refine lv_iload_n hx hb dX6_wet_2 rfl (lv_at hl 2 rfl) ?_
  refine lv_iload_n hx hb dX6_wet_3 rfl (lv_at hl 3 rfl) ?_
  refine lv_iload hx hb dX6_wet_4 (lv_at hl 4 rfl) ?_
  refine lv_iload hx hb dX6_wet_6 (lv_at hl 5 rfl) ?_
  refine fr_Vi (wN := fun _ : Unit => (fW z qX qP qK qN qL qG F ++ (pW z qP P ++ (pW z qK K ++ (mW z qG qT G ++ (pW z qT T ++ (nW z qN N ++ (lW z qL L)))))))) M (m_X6_wetFault l z qX qL qN qG qP qK F P x1 x2 x3 x4 x5 _ h) (cwV 5 hts (gdV cd_X6_wetFault ml_X6_230 im_X6_wetFault se_X6_wetFault in_X6) rfl rfl rfl hdV_X6_wetFault ⟨(Nat.le_of_ble_eq_true rfl), (Nat.le_of_ble_eq_true rfl)⟩) cut_19 prm_19 0 rfl rfl rfl hw rfl hl.1 rfl (Nat.le_of_ble_eq_true rfl) dX6_wet_8 (fun r_1 u_ H locs h hw => ?_)
  have hw : Hw s z A (fW z qX qP qK qN qL qG F ++ (pW z qP P ++ (pW z qK K ++ (mW z qG qT G ++ (pW z qT T ++ (nW z qN N ++ (lW z qL L))))))) H locs := hw
  try dsimp only at h
  refine lv_istore (lv' := [(7, .int r_1), (0, .ref (qX 0)), (1, .int x1), (2, .int x2), (3, .int x3), (4, .int x4), (5, .int x5), (6, .int x6)]) hx hb dX6_wet_11 hl (by decide) rfl (fun ls hl => ?_)
  refine lv_iload hx hb dX6_wet_13 (lv_at hl 0 rfl) ?_
  refine lv_if_ne (tgt := 33) hx hb dX6_wet_15 (by decide) (fun c_2 => ?_) (fun c_2 => ?_)
  · replace h := iF c_2 h
    exact kX6_wet_33 M F T x1 x2 x3 x4 x5 x6 r_1 H locs ls hw (lv_sub hl [1, 2, 3, 4, 5, 6, 7, 0] rfl) h
  · replace h := iT c_2 h
    refine lv_iload hx hb dX6_wet_18 (lv_at hl 7 rfl) ?_
    refine lv_if_eq (tgt := 33) hx hb dX6_wet_20 (by decide) (fun c_3 => ?_) (fun c_3 => ?_)
    · replace h := iT c_3 h
      exact kX6_wet_33 M F T x1 x2 x3 x4 x5 x6 r_1 H locs ls hw (lv_sub hl [1, 2, 3, 4, 5, 6, 7, 0] rfl) h
    · replace h := iF c_3 h
      refine lv_iload hx hb dX6_wet_23 (lv_at hl 7 rfl) ?_
      refine lv_iconst (v := 1) hx hb dX6_wet_25 (by decide) ?_
      refine lv_icmp_eq (tgt := 33) hx hb dX6_wet_26 (by decide) (fun c_4 => ?_) (fun c_4 => ?_)
      · replace h := iT c_4 h
        exact kX6_wet_33 M F T x1 x2 x3 x4 x5 x6 r_1 H locs ls hw (lv_sub hl [1, 2, 3, 4, 5, 6, 7, 0] rfl) h
      · replace h := iF c_4 h
        refine lv_bipush (v := -2) hx hb dX6_wet_29 (by decide) ?_
        refine lv_istore (lv' := [(7, .int (-2 : Int32)), (0, .ref (qX 0)), (1, .int x1), (2, .int x2), (3, .int x3), (4, .int x4), (5, .int x5), (6, .int x6)]) hx hb dX6_wet_31 hl (by decide) rfl (fun ls hl => ?_)
        exact kX6_wet_33 M F T x1 x2 x3 x4 x5 x6 (-2 : Int32) H locs ls hw (lv_sub hl [1, 2, 3, 4, 5, 6, 7, 0] rfl) h
abbrev rmX6_mean : Room := { frames := 2, cells := 0, slots := 0, locals := 42 }
set_option maxHeartbeats 4000000 in
set_option maxRecDepth 100000 in
theorem kX6_mean_16 {p : Program} {l : Launch} {e : Env} {s : State} {m : MethodId} {args : Array Value} {below : List Frame} {meth : Method} {c : Code} {z : KT} {A : Nat → Prop} {qX : Nat → Nat} {qL : Nat → Nat} {qN : Nat → Nat} {qG : Nat → Nat} {qP : Nat → Nat} {qK : Nat → Nat} {qT : Nat → Nat} {P : RT} {K : RT} {G : RT} {T : RT} {N : RT} {L : RT} {Q : Int64 → RT → Prop} (M : Mc p s m args meth c cX6_mean 2 (some .long) RX6 z A) : ∀ (F : RT) (x1 : Int32) (H : Heap) (locs : List Loc) (ls : Array Slot), Hw s z A (fW z qX qP qK qN qL qG F ++ (pW z qP P ++ (pW z qK K ++ (mW z qG qT G ++ (pW z qT T ++ (nW z qN N ++ (lW z qL L))))))) H locs → lv_has ls 2 [(0, .ref (qX 0)), (1, .int x1)] → bX6_mean_16 P K G T N L Q F x1 → W p l e rmX6_mean s m args below meth c H locs 0 0 (MQ below (va_Ql (fun (r : Int64) (u : RT) => Q r u) (fun u t => cAt z A ((fun u : RT => (fW z qX qP qK qN qL qG u ++ (pW z qP P ++ (pW z qK K ++ (mW z qG qT G ++ (pW z qT T ++ (nW z qN N ++ (lW z qL L)))))))) u) t) A) args s 0 0 A) (F0 m 16 ls []) := by
  obtain ⟨hx, hb, -, -, hown, hts, -, -, -, hN, hsr, -⟩ := id M
  intro F x1 H locs ls hw hl h
  unfold bX6_mean_16 at h
  refine lv_aload_n hx hb dX6_mean_16 rfl (lv_at hl 0 rfl) ?_
  refine gt_f (v := .ref (qP 0)) M inlX6 hw 0 rfl rfl 0 (by decide) fl_X6_10 rfl rfl dX6_mean_17 ?_
  refine fr_Vi (wN := fun _ : Unit => (fW z qX qP qK qN qL qG F ++ (pW z qP P ++ (pW z qK K ++ (mW z qG qT G ++ (pW z qT T ++ (nW z qN N ++ (lW z qL L)))))))) M (m_X3_allHeights l z qP P _ h) (cwV 0 hts (gdV cd_X3_allHeights ml_X6_133 im_X3_allHeights se_X3_allHeights in_X3) rfl rfl rfl hdV_X3_allHeights ⟨(Nat.le_of_ble_eq_true rfl), (Nat.le_of_ble_eq_true rfl)⟩) cut_16 prm_16 0 rfl rfl rfl hw rfl hl.1 rfl (Nat.le_of_ble_eq_true rfl) dX6_mean_20 (fun r_1 u_ H locs h hw => ?_)
  have hw : Hw s z A (fW z qX qP qK qN qL qG F ++ (pW z qP P ++ (pW z qK K ++ (mW z qG qT G ++ (pW z qT T ++ (nW z qN N ++ (lW z qL L))))))) H locs := hw
  try dsimp only at h
  refine lv_i2l hx hb dX6_mean_23 rfl ?_
  refine lv_iconst (v := 1) hx hb dX6_mean_24 (by decide) ?_
  refine lv_aload_n hx hb dX6_mean_25 rfl (lv_at hl 0 rfl) ?_
  refine gt_f (v := .ref (qP 0)) M inlX6 hw 0 rfl rfl 0 (by decide) fl_X6_10 rfl rfl dX6_mean_26 ?_
  refine gt_f (v := .int (P 30 7)) M inlX3 hw 2 rfl rfl 7 (by decide) fl_X6_250 rfl rfl dX6_mean_29 ?_
  refine mx_i M ml_X6_253 hl.1 (Nat.le_of_ble_eq_true rfl) (Nat.le_of_ble_eq_true rfl) dX6_mean_32 ?_
  refine lv_i2l hx hb dX6_mean_35 rfl ?_
  refine lv_iload_n hx hb dX6_mean_36 rfl (lv_at hl 1 rfl) ?_
  refine fr_Sl (wN := fun _ : Unit => (fW z qX qP qK qN qL qG F ++ (pW z qP P ++ (pW z qK K ++ (mW z qG qT G ++ (pW z qT T ++ (nW z qN N ++ (lW z qL L)))))))) M (m_X6_inLeastTerms l z ((r_1).toInt64) (((if (1 : Int32) < (P 30 7) then (P 30 7) else (1 : Int32))).toInt64) x1 _ h) (va_cwS 3 hts (gdS cd_X6_inLeastTerms ml_X6_246 st_X6_inLeastTerms in_X6) rfl rfl rfl hdS_X6_inLeastTerms ⟨(Nat.le_of_ble_eq_true rfl), (Nat.le_of_ble_eq_true rfl)⟩) (Cut.none _) (Prm.none _) hw rfl hl.1 rfl (Nat.le_of_ble_eq_true rfl) dX6_mean_37 (fun r_2 u_ H locs h hw => ?_)
  have hw : Hw s z A (fW z qX qP qK qN qL qG F ++ (pW z qP P ++ (pW z qK K ++ (mW z qG qT G ++ (pW z qT T ++ (nW z qN N ++ (lW z qL L))))))) H locs := hw
  try dsimp only at h
  exact rt_l M F hw h dX6_mean_40
set_option maxHeartbeats 4000000 in
set_option maxRecDepth 100000 in
theorem m_X6_mean (l : Launch) (z : KT) (qX : Nat → Nat) (qL : Nat → Nat) (qN : Nat → Nat) (qG : Nat → Nat) (qP : Nat → Nat) (qK : Nat → Nat) (qT : Nat → Nat) (F : RT) (P : RT) (K : RT) (G : RT) (T : RT) (N : RT) (L : RT) (x1 : Int32) (Q : Int64 → RT → Prop) (h : wX6_mean F P K G T N L x1 Q) : CL l yX6_mean cX6_mean 2 .long rmX6_mean z [.ref (qX 0), .int x1] (fW z qX qP qK qN qL qG F ++ (pW z qP P ++ (pW z qK K ++ (mW z qG qT G ++ (pW z qT T ++ (nW z qN N ++ (lW z qL L))))))) (fun u : RT => (fW z qX qP qK qN qL qG u ++ (pW z qP P ++ (pW z qK K ++ (mW z qG qT G ++ (pW z qT T ++ (nW z qN N ++ (lW z qL L)))))))) (fun (r : Int64) (u : RT) => Q r u) := by
  refine CL.of rfl (Nat.le_of_ble_eq_true rfl) ?_
  intro p e s m below meth c A ls M hw hl
  have M : Mc p s m _ meth c cX6_mean 2 (some .long) RX6 z A := M
  obtain ⟨hx, hb, -, -, hown, hts, -, -, -, hN, hsr, -⟩ := id M
  have hl : lv_has ls 2 [(0, .ref (qX 0)), (1, .int x1)] := hl
  unfold wX6_mean at h
  generalize s.heap = H at hw ⊢
  generalize ([] : List Loc) = locs at hw ⊢
  refine lv_iload_n hx hb dX6_mean_0 rfl (lv_at hl 1 rfl) ?_
  refine lv_if_eq (tgt := 16) hx hb dX6_mean_1 (by decide) (fun c_1 => ?_) (fun c_1 => ?_)
  · replace h := iT c_1 h
    exact kX6_mean_16 M F x1 H locs ls hw (lv_sub hl [0, 1] rfl) h
  · replace h := iF c_1 h
    refine lv_iload_n hx hb dX6_mean_4 rfl (lv_at hl 1 rfl) ?_
    refine lv_iconst (v := 1) hx hb dX6_mean_5 (by decide) ?_
    refine lv_icmp_eq (tgt := 16) hx hb dX6_mean_6 (by decide) (fun c_2 => ?_) (fun c_2 => ?_)
    · replace h := iT c_2 h
      exact kX6_mean_16 M F x1 H locs ls hw (lv_sub hl [0, 1] rfl) h
    · replace h := iF c_2 h
      refine lv_aload_n hx hb dX6_mean_9 rfl (lv_at hl 0 rfl) ?_
      refine lv_bipush (v := -2) hx hb dX6_mean_10 (by decide) ?_
      refine fr_Vl (wN := fun u : RT => (fW z qX qP qK qN qL qG u ++ (pW z qP P ++ (pW z qK K ++ (mW z qG qT G ++ (pW z qT T ++ (nW z qN N ++ (lW z qL L)))))))) M (m_X6_refuseLong l z qX qL qN qG qP qK F (-2 : Int32) _ h) (cwV 1 hts (gdV cd_X6_refuseLong ml_X6_234 im_X6_refuseLong se_X6_refuseLong in_X6) rfl rfl rfl hdV_X6_refuseLong ⟨(Nat.le_of_ble_eq_true rfl), (Nat.le_of_ble_eq_true rfl)⟩) cut_12 prm_12 0 rfl rfl rfl hw rfl hl.1 rfl (Nat.le_of_ble_eq_true rfl) dX6_mean_12 (fun r_4 u_ H locs h hw => ?_)
      obtain ⟨F_3, rfl⟩ : ∃ z9 : RT, z9 = u_ := ⟨_, rfl⟩
      have hw : Hw s z A (fW z qX qP qK qN qL qG F_3 ++ (pW z qP P ++ (pW z qK K ++ (mW z qG qT G ++ (pW z qT T ++ (nW z qN N ++ (lW z qL L))))))) H locs := hw
      try dsimp only at h
      exact rt_l M F_3 hw h dX6_mean_15
abbrev rmX6_lots : Room := { frames := 4, cells := 0, slots := 0, locals := 99 }
set_option maxHeartbeats 4000000 in
set_option maxRecDepth 100000 in
theorem kX6_lots_58 {p : Program} {l : Launch} {e : Env} {s : State} {m : MethodId} {args : Array Value} {below : List Frame} {meth : Method} {c : Code} {z : KT} {A : Nat → Prop} {qX : Nat → Nat} {qL : Nat → Nat} {qN : Nat → Nat} {qG : Nat → Nat} {qP : Nat → Nat} {qK : Nat → Nat} {qT : Nat → Nat} {P : RT} {K : RT} {G : RT} {N : RT} {L : RT} {Q : Int32 → RT → RT → Prop} (M : Mc p s m args meth c cX6_lots 5 (some .int) RX6 z A) : ∀ (F : RT) (T : RT) (t2 : Int32) (t3 : Int32) (t4 : Int32) (H : Heap) (locs : List Loc) (ls : Array Slot), Hw s z A (fW z qX qP qK qN qL qG F ++ (pW z qP P ++ (pW z qK K ++ (mW z qG qT G ++ (pW z qT T ++ (nW z qN N ++ (lW z qL L))))))) H locs → lv_has ls 5 [] → bX6_lots_58 P K G N L Q F T t2 t3 t4 → W p l e rmX6_lots s m args below meth c H locs 0 0 (MQ below (va_Qi (fun (r : Int32) (u : RT × RT) => Q r u.1 u.2) (fun u t => cAt z A ((fun u : RT × RT => (fW z qX qP qK qN qL qG u.1 ++ (pW z qP P ++ (pW z qK K ++ (mW z qG qT G ++ (pW z qT u.2 ++ (nW z qN N ++ (lW z qL L)))))))) u) t) A) args s 0 0 A) (F0 m 58 ls [.int t4, .int t3, .int t2, .ref (qP 0), .ref (qG 0)]) := by
  obtain ⟨hx, hb, -, -, hown, hts, -, -, -, hN, hsr, -⟩ := id M
  intro F T t2 t3 t4 H locs ls hw hl h
  unfold bX6_lots_58 at h
  refine fr_Vi (wN := fun u : RT => (fW z qX qP qK qN qL qG F ++ (pW z qP P ++ (pW z qK K ++ (mW z qG qT G ++ (pW z qT u ++ (nW z qN N ++ (lW z qL L)))))))) M (m_X1_byLot l z qG qP qT G T P t2 t3 t4 _ h) (cwV 4 hts (gdV cd_X1_byLot ml_X6_258 im_X1_byLot se_X1_byLot in_X1) rfl rfl rfl hdV_X1_byLot ⟨(Nat.le_of_ble_eq_true rfl), (Nat.le_of_ble_eq_true rfl)⟩) cut_13 prm_13 0 rfl rfl rfl hw rfl hl.1 rfl (Nat.le_of_ble_eq_true rfl) dX6_lots_58 (fun r_2 u_ H locs h hw => ?_)
  obtain ⟨T_1, rfl⟩ : ∃ z9 : RT, z9 = u_ := ⟨_, rfl⟩
  have hw : Hw s z A (fW z qX qP qK qN qL qG F ++ (pW z qP P ++ (pW z qK K ++ (mW z qG qT G ++ (pW z qT T_1 ++ (nW z qN N ++ (lW z qL L))))))) H locs := hw
  try dsimp only at h
  exact rt_i M (F, T_1) hw h dX6_lots_61
set_option maxHeartbeats 4000000 in
set_option maxRecDepth 100000 in
theorem kX6_lots_27 {p : Program} {l : Launch} {e : Env} {s : State} {m : MethodId} {args : Array Value} {below : List Frame} {meth : Method} {c : Code} {z : KT} {A : Nat → Prop} {qX : Nat → Nat} {qL : Nat → Nat} {qN : Nat → Nat} {qG : Nat → Nat} {qP : Nat → Nat} {qK : Nat → Nat} {qT : Nat → Nat} {P : RT} {K : RT} {G : RT} {N : RT} {L : RT} {Q : Int32 → RT → RT → Prop} (M : Mc p s m args meth c cX6_lots 5 (some .int) RX6 z A) : ∀ (F : RT) (T : RT) (x1 : Int32) (x2 : Int32) (x3 : Int32) (x4 : Int32) (H : Heap) (locs : List Loc) (ls : Array Slot), Hw s z A (fW z qX qP qK qN qL qG F ++ (pW z qP P ++ (pW z qK K ++ (mW z qG qT G ++ (pW z qT T ++ (nW z qN N ++ (lW z qL L))))))) H locs → lv_has ls 5 [(0, .ref (qX 0)), (1, .int x1), (2, .int x2), (3, .int x3), (4, .int x4)] → bX6_lots_27 P K G N L Q F T x1 x2 x3 x4 → W p l e rmX6_lots s m args below meth c H locs 0 0 (MQ below (va_Qi (fun (r : Int32) (u : RT × RT) => Q r u.1 u.2) (fun u t => cAt z A ((fun u : RT × RT => (fW z qX qP qK qN qL qG u.1 ++ (pW z qP P ++ (pW z qK K ++ (mW z qG qT G ++ (pW z qT u.2 ++ (nW z qN N ++ (lW z qL L)))))))) u) t) A) args s 0 0 A) (F0 m 27 ls []) := by
  obtain ⟨hx, hb, -, -, hown, hts, -, -, -, hN, hsr, -⟩ := id M
  intro F T x1 x2 x3 x4 H locs ls hw hl h
  unfold bX6_lots_27 at h
  refine lv_iload hx hb dX6_lots_27 (lv_at hl 4 rfl) ?_
  refine lv_if_eq (tgt := 39) hx hb dX6_lots_29 (by decide) (fun c_1 => ?_) (fun c_1 => ?_)
  · replace h := iT c_1 h
    refine lv_aload_n hx hb dX6_lots_39 rfl (lv_at hl 0 rfl) ?_
    refine gt_f (v := .ref (qG 0)) M inlX6 hw 0 rfl rfl 5 (by decide) fl_X6_40 rfl rfl dX6_lots_40 ?_
    refine lv_aload_n hx hb dX6_lots_43 rfl (lv_at hl 0 rfl) ?_
    refine gt_f (v := .ref (qP 0)) M inlX6 hw 0 rfl rfl 0 (by decide) fl_X6_10 rfl rfl dX6_lots_44 ?_
    refine lv_iload_n hx hb dX6_lots_47 rfl (lv_at hl 1 rfl) ?_
    refine lv_iload_n hx hb dX6_lots_48 rfl (lv_at hl 2 rfl) ?_
    refine lv_iload_n hx hb dX6_lots_49 rfl (lv_at hl 3 rfl) ?_
    refine lv_if_ne (tgt := 57) hx hb dX6_lots_50 (by decide) (fun c_2 => ?_) (fun c_2 => ?_)
    · replace h := iF c_2 h
      refine lv_iconst (v := 0) hx hb dX6_lots_57 (by decide) ?_
      exact kX6_lots_58 M F T x1 x2 (0 : Int32) H locs ls hw (lv_sub hl [] rfl) h
    · replace h := iT c_2 h
      refine lv_iconst (v := 1) hx hb dX6_lots_53 (by decide) ?_
      refine lv_goto (tgt := 58) hx hb dX6_lots_54 (by decide) ?_
      exact kX6_lots_58 M F T x1 x2 (1 : Int32) H locs ls hw (lv_sub hl [] rfl) h
  · replace h := iF c_1 h
    refine lv_aload_n hx hb dX6_lots_32 rfl (lv_at hl 0 rfl) ?_
    refine lv_iload hx hb dX6_lots_33 (lv_at hl 4 rfl) ?_
    refine fr_Vi (wN := fun u : RT => (fW z qX qP qK qN qL qG u ++ (pW z qP P ++ (pW z qK K ++ (mW z qG qT G ++ (pW z qT T ++ (nW z qN N ++ (lW z qL L)))))))) M (m_X6_refuse l z qX qL qN qG qP qK F x4 _ h) (cwV 1 hts (gdV cd_X6_refuse ml_X6_56 im_X6_refuse se_X6_refuse in_X6) rfl rfl rfl hdV_X6_refuse ⟨(Nat.le_of_ble_eq_true rfl), (Nat.le_of_ble_eq_true rfl)⟩) cut_12 prm_12 0 rfl rfl rfl hw rfl hl.1 rfl (Nat.le_of_ble_eq_true rfl) dX6_lots_35 (fun r_4 u_ H locs h hw => ?_)
    obtain ⟨F_3, rfl⟩ : ∃ z9 : RT, z9 = u_ := ⟨_, rfl⟩
    have hw : Hw s z A (fW z qX qP qK qN qL qG F_3 ++ (pW z qP P ++ (pW z qK K ++ (mW z qG qT G ++ (pW z qT T ++ (nW z qN N ++ (lW z qL L))))))) H locs := hw
    try dsimp only at h
    exact rt_i M (F_3, T) hw h dX6_lots_38
set_option maxHeartbeats 4000000 in
set_option maxRecDepth 100000 in
theorem m_X6_lots (l : Launch) (z : KT) (qX : Nat → Nat) (qL : Nat → Nat) (qN : Nat → Nat) (qG : Nat → Nat) (qP : Nat → Nat) (qK : Nat → Nat) (qT : Nat → Nat) (F : RT) (P : RT) (K : RT) (G : RT) (T : RT) (N : RT) (L : RT) (x1 : Int32) (x2 : Int32) (x3 : Int32) (Q : Int32 → RT → RT → Prop) (h : wX6_lots F P K G T N L x1 x2 x3 Q) : CI l yX6_lots cX6_lots 5 .int rmX6_lots z [.ref (qX 0), .int x1, .int x2, .int x3] (fW z qX qP qK qN qL qG F ++ (pW z qP P ++ (pW z qK K ++ (mW z qG qT G ++ (pW z qT T ++ (nW z qN N ++ (lW z qL L))))))) (fun u : RT × RT => (fW z qX qP qK qN qL qG u.1 ++ (pW z qP P ++ (pW z qK K ++ (mW z qG qT G ++ (pW z qT u.2 ++ (nW z qN N ++ (lW z qL L)))))))) (fun (r : Int32) (u : RT × RT) => Q r u.1 u.2) := by
  refine CI.of rfl (Nat.le_of_ble_eq_true rfl) ?_
  intro p e s m below meth c A ls M hw hl
  have M : Mc p s m _ meth c cX6_lots 5 (some .int) RX6 z A := M
  obtain ⟨hx, hb, -, -, hown, hts, -, -, -, hN, hsr, -⟩ := id M
  have hl : lv_has ls 5 [(0, .ref (qX 0)), (1, .int x1), (2, .int x2), (3, .int x3)] := hl
  unfold wX6_lots at h
  generalize s.heap = H at hw ⊢
  generalize ([] : List Loc) = locs at hw ⊢
  refine lv_iload_n hx hb dX6_lots_0 rfl (lv_at hl 1 rfl) ?_
  refine lv_iconst (v := 1) hx hb dX6_lots_1 (by decide) ?_
  refine lv_bipush (v := 20) hx hb dX6_lots_2 (by decide) ?_
  refine fr_Si (wN := fun _ : Unit => (fW z qX qP qK qN qL qG F ++ (pW z qP P ++ (pW z qK K ++ (mW z qG qT G ++ (pW z qT T ++ (nW z qN N ++ (lW z qL L)))))))) M (m_X6_rangeFault l z x1 (1 : Int32) (20 : Int32) _ h) (va_cwS 3 hts (gdS cd_X6_rangeFault ml_X6_48 st_X6_rangeFault in_X6) rfl rfl rfl hdS_X6_rangeFault ⟨(Nat.le_of_ble_eq_true rfl), (Nat.le_of_ble_eq_true rfl)⟩) (Cut.none _) (Prm.none _) hw rfl hl.1 rfl (Nat.le_of_ble_eq_true rfl) dX6_lots_4 (fun r_1 u_ H locs h hw => ?_)
  have hw : Hw s z A (fW z qX qP qK qN qL qG F ++ (pW z qP P ++ (pW z qK K ++ (mW z qG qT G ++ (pW z qT T ++ (nW z qN N ++ (lW z qL L))))))) H locs := hw
  try dsimp only at h
  refine lv_istore (lv' := [(4, .int r_1), (0, .ref (qX 0)), (1, .int x1), (2, .int x2), (3, .int x3)]) hx hb dX6_lots_7 hl (by decide) rfl (fun ls hl => ?_)
  refine lv_iload hx hb dX6_lots_9 (lv_at hl 0 rfl) ?_
  refine lv_if_ne (tgt := 27) hx hb dX6_lots_11 (by decide) (fun c_2 => ?_) (fun c_2 => ?_)
  · replace h := iF c_2 h
    exact kX6_lots_27 M F T x1 x2 x3 r_1 H locs ls hw (lv_sub hl [1, 2, 3, 4, 0] rfl) h
  · replace h := iT c_2 h
    refine lv_iload_n hx hb dX6_lots_14 rfl (lv_at hl 4 rfl) ?_
    refine lv_if_eq (tgt := 27) hx hb dX6_lots_15 (by decide) (fun c_3 => ?_) (fun c_3 => ?_)
    · replace h := iT c_3 h
      exact kX6_lots_27 M F T x1 x2 x3 r_1 H locs ls hw (lv_sub hl [1, 2, 3, 4, 0] rfl) h
    · replace h := iF c_3 h
      refine lv_iload_n hx hb dX6_lots_18 rfl (lv_at hl 4 rfl) ?_
      refine lv_iconst (v := 1) hx hb dX6_lots_19 (by decide) ?_
      refine lv_icmp_eq (tgt := 27) hx hb dX6_lots_20 (by decide) (fun c_4 => ?_) (fun c_4 => ?_)
      · replace h := iT c_4 h
        exact kX6_lots_27 M F T x1 x2 x3 r_1 H locs ls hw (lv_sub hl [1, 2, 3, 4, 0] rfl) h
      · replace h := iF c_4 h
        refine lv_bipush (v := -2) hx hb dX6_lots_23 (by decide) ?_
        refine lv_istore (lv' := [(4, .int (-2 : Int32)), (0, .ref (qX 0)), (1, .int x1), (2, .int x2), (3, .int x3)]) hx hb dX6_lots_25 hl (by decide) rfl (fun ls hl => ?_)
        exact kX6_lots_27 M F T x1 x2 x3 (-2 : Int32) H locs ls hw (lv_sub hl [1, 2, 3, 4, 0] rfl) h
abbrev rmX6_whatIs : Room := { frames := 4, cells := 0, slots := 0, locals := 97 }
set_option maxHeartbeats 4000000 in
set_option maxRecDepth 100000 in
theorem m_X6_whatIs (l : Launch) (z : KT) (qX : Nat → Nat) (qL : Nat → Nat) (qN : Nat → Nat) (qG : Nat → Nat) (qP : Nat → Nat) (qK : Nat → Nat) (qT : Nat → Nat) (F : RT) (P : RT) (K : RT) (G : RT) (T : RT) (N : RT) (L : RT) (x1 : Int32) (x2 : Int32) (Q : Int32 → RT → RT → Prop) (h : wX6_whatIs F P K G T N L x1 x2 Q) : CI l yX6_whatIs cX6_whatIs 3 .int rmX6_whatIs z [.ref (qX 0), .int x1, .int x2] (fW z qX qP qK qN qL qG F ++ (pW z qP P ++ (pW z qK K ++ (mW z qG qT G ++ (pW z qT T ++ (nW z qN N ++ (lW z qL L))))))) (fun u : RT × RT => (fW z qX qP qK qN qL qG u.1 ++ (pW z qP P ++ (pW z qK K ++ (mW z qG qT G ++ (pW z qT u.2 ++ (nW z qN N ++ (lW z qL L)))))))) (fun (r : Int32) (u : RT × RT) => Q r u.1 u.2) := by
  refine CI.of rfl (Nat.le_of_ble_eq_true rfl) ?_
  intro p e s m below meth c A ls M hw hl
  have M : Mc p s m _ meth c cX6_whatIs 3 (some .int) RX6 z A := M
  obtain ⟨hx, hb, -, -, hown, hts, -, -, -, hN, hsr, -⟩ := id M
  have hl : lv_has ls 3 [(0, .ref (qX 0)), (1, .int x1), (2, .int x2)] := hl
  unfold wX6_whatIs at h
  generalize s.heap = H at hw ⊢
  generalize ([] : List Loc) = locs at hw ⊢
  refine lv_aload_n hx hb dX6_whatIs_0 rfl (lv_at hl 0 rfl) ?_
  refine gt_f (v := .ref (qP 0)) M inlX6 hw 0 rfl rfl 0 (by decide) fl_X6_10 rfl rfl dX6_whatIs_1 ?_
  refine lv_iload_n hx hb dX6_whatIs_4 rfl (lv_at hl 1 rfl) ?_
  refine fr_Vi (wN := fun _ : Unit => (fW z qX qP qK qN qL qG F ++ (pW z qP P ++ (pW z qK K ++ (mW z qG qT G ++ (pW z qT T ++ (nW z qN N ++ (lW z qL L)))))))) M (m_X3_hasThing l z qP P x1 _ h) (cwV 1 hts (gdV cd_X3_hasThing ml_X6_75 im_X3_hasThing se_X3_hasThing in_X3) rfl rfl rfl hdV_X3_hasThing ⟨(Nat.le_of_ble_eq_true rfl), (Nat.le_of_ble_eq_true rfl)⟩) cut_16 prm_16 0 rfl rfl rfl hw rfl hl.1 rfl (Nat.le_of_ble_eq_true rfl) dX6_whatIs_5 (fun r_1 u_ H locs h hw => ?_)
  have hw : Hw s z A (fW z qX qP qK qN qL qG F ++ (pW z qP P ++ (pW z qK K ++ (mW z qG qT G ++ (pW z qT T ++ (nW z qN N ++ (lW z qL L))))))) H locs := hw
  try dsimp only at h
  refine lv_if_ne (tgt := 17) hx hb dX6_whatIs_8 (by decide) (fun c_2 => ?_) (fun c_2 => ?_)
  · replace h := iF c_2 h
    refine lv_iload_n hx hb dX6_whatIs_17 rfl (lv_at hl 2 rfl) ?_
    by_cases c_4 : x2 = (0 : Int32)
    · replace h := iT c_4 h
      refine lv_lookup (off := 26) (tgt := 44) hx hb dX6_whatIs_18 (by decide) (by first | (rw [c_4]; done) | (rw [c_4]; rfl)) (by decide) ?_
      refine lv_aload_n hx hb dX6_whatIs_44 rfl (lv_at hl 0 rfl) ?_
      refine gt_f (v := .ref (qG 0)) M inlX6 hw 0 rfl rfl 5 (by decide) fl_X6_40 rfl rfl dX6_whatIs_45 ?_
      refine lv_aload_n hx hb dX6_whatIs_48 rfl (lv_at hl 0 rfl) ?_
      refine gt_f (v := .ref (qP 0)) M inlX6 hw 0 rfl rfl 0 (by decide) fl_X6_10 rfl rfl dX6_whatIs_49 ?_
      refine lv_iload_n hx hb dX6_whatIs_52 rfl (lv_at hl 1 rfl) ?_
      refine lv_aload_n hx hb dX6_whatIs_53 rfl (lv_at hl 0 rfl) ?_
      refine gt_f (v := .ref (qN 0)) M inlX6 hw 0 rfl rfl 3 (by decide) fl_X6_26 rfl rfl dX6_whatIs_54 ?_
      refine fr_Vi (wN := fun u : RT => (fW z qX qP qK qN qL qG F ++ (pW z qP P ++ (pW z qK K ++ (mW z qG qT G ++ (pW z qT u ++ (nW z qN N ++ (lW z qL L)))))))) M (m_X1_kindsAsTold l z qN qG qP qT G T P N x1 _ h) (cwV 3 hts (gdV cd_X1_kindsAsTold ml_X6_262 im_X1_kindsAsTold se_X1_kindsAsTold in_X1) rfl rfl rfl hdV_X1_kindsAsTold ⟨(Nat.le_of_ble_eq_true rfl), (Nat.le_of_ble_eq_true rfl)⟩) cut_22 prm_22 0 rfl rfl rfl hw rfl hl.1 rfl (Nat.le_of_ble_eq_true rfl) dX6_whatIs_57 (fun r_6 u_ H locs h hw => ?_)
      obtain ⟨T_5, rfl⟩ : ∃ z9 : RT, z9 = u_ := ⟨_, rfl⟩
      have hw : Hw s z A (fW z qX qP qK qN qL qG F ++ (pW z qP P ++ (pW z qK K ++ (mW z qG qT G ++ (pW z qT T_5 ++ (nW z qN N ++ (lW z qL L))))))) H locs := hw
      try dsimp only at h
      exact rt_i M (F, T_5) hw h dX6_whatIs_60
    replace h := iF c_4 h
    by_cases c_7 : x2 = (1 : Int32)
    · replace h := iT c_7 h
      refine lv_lookup (off := 43) (tgt := 61) hx hb dX6_whatIs_18 (by decide) (by first | (rw [c_7]; done) | (rw [c_7]; rfl)) (by decide) ?_
      refine lv_aload_n hx hb dX6_whatIs_61 rfl (lv_at hl 0 rfl) ?_
      refine gt_f (v := .ref (qG 0)) M inlX6 hw 0 rfl rfl 5 (by decide) fl_X6_40 rfl rfl dX6_whatIs_62 ?_
      refine lv_aload_n hx hb dX6_whatIs_65 rfl (lv_at hl 0 rfl) ?_
      refine gt_f (v := .ref (qP 0)) M inlX6 hw 0 rfl rfl 0 (by decide) fl_X6_10 rfl rfl dX6_whatIs_66 ?_
      refine lv_iload_n hx hb dX6_whatIs_69 rfl (lv_at hl 1 rfl) ?_
      refine lv_aload_n hx hb dX6_whatIs_70 rfl (lv_at hl 0 rfl) ?_
      refine gt_f (v := .ref (qN 0)) M inlX6 hw 0 rfl rfl 3 (by decide) fl_X6_26 rfl rfl dX6_whatIs_71 ?_
      refine fr_Vi (wN := fun u : RT => (fW z qX qP qK qN qL qG F ++ (pW z qP P ++ (pW z qK K ++ (mW z qG qT G ++ (pW z qT u ++ (nW z qN N ++ (lW z qL L)))))))) M (m_X1_weightsAsTold l z qN qG qP qT G T P N x1 _ h) (cwV 3 hts (gdV cd_X1_weightsAsTold ml_X6_266 im_X1_weightsAsTold se_X1_weightsAsTold in_X1) rfl rfl rfl hdV_X1_weightsAsTold ⟨(Nat.le_of_ble_eq_true rfl), (Nat.le_of_ble_eq_true rfl)⟩) cut_22 prm_22 0 rfl rfl rfl hw rfl hl.1 rfl (Nat.le_of_ble_eq_true rfl) dX6_whatIs_74 (fun r_9 u_ H locs h hw => ?_)
      obtain ⟨T_8, rfl⟩ : ∃ z9 : RT, z9 = u_ := ⟨_, rfl⟩
      have hw : Hw s z A (fW z qX qP qK qN qL qG F ++ (pW z qP P ++ (pW z qK K ++ (mW z qG qT G ++ (pW z qT T_8 ++ (nW z qN N ++ (lW z qL L))))))) H locs := hw
      try dsimp only at h
      exact rt_i M (F, T_8) hw h dX6_whatIs_77
    replace h := iF c_7 h
    refine lv_lookup (off := 60) (tgt := 78) hx hb dX6_whatIs_18 (by decide) ((lv_osw c_4 (by decide)).trans <| (lv_osw c_7 (by decide)).trans <| rfl) (by decide) ?_
    refine lv_aload_n hx hb dX6_whatIs_78 rfl (lv_at hl 0 rfl) ?_
    refine lv_bipush (v := -2) hx hb dX6_whatIs_79 (by decide) ?_
    refine fr_Vi (wN := fun u : RT => (fW z qX qP qK qN qL qG u ++ (pW z qP P ++ (pW z qK K ++ (mW z qG qT G ++ (pW z qT T ++ (nW z qN N ++ (lW z qL L)))))))) M (m_X6_refuse l z qX qL qN qG qP qK F (-2 : Int32) _ h) (cwV 1 hts (gdV cd_X6_refuse ml_X6_56 im_X6_refuse se_X6_refuse in_X6) rfl rfl rfl hdV_X6_refuse ⟨(Nat.le_of_ble_eq_true rfl), (Nat.le_of_ble_eq_true rfl)⟩) cut_12 prm_12 0 rfl rfl rfl hw rfl hl.1 rfl (Nat.le_of_ble_eq_true rfl) dX6_whatIs_81 (fun r_11 u_ H locs h hw => ?_)
    obtain ⟨F_10, rfl⟩ : ∃ z9 : RT, z9 = u_ := ⟨_, rfl⟩
    have hw : Hw s z A (fW z qX qP qK qN qL qG F_10 ++ (pW z qP P ++ (pW z qK K ++ (mW z qG qT G ++ (pW z qT T ++ (nW z qN N ++ (lW z qL L))))))) H locs := hw
    try dsimp only at h
    exact rt_i M (F_10, T) hw h dX6_whatIs_84
  · replace h := iT c_2 h
    refine lv_aload_n hx hb dX6_whatIs_11 rfl (lv_at hl 0 rfl) ?_
    refine lv_iconst (v := -1) hx hb dX6_whatIs_12 (by decide) ?_
    refine fr_Vi (wN := fun u : RT => (fW z qX qP qK qN qL qG u ++ (pW z qP P ++ (pW z qK K ++ (mW z qG qT G ++ (pW z qT T ++ (nW z qN N ++ (lW z qL L)))))))) M (m_X6_refuse l z qX qL qN qG qP qK F (-1 : Int32) _ h) (cwV 1 hts (gdV cd_X6_refuse ml_X6_56 im_X6_refuse se_X6_refuse in_X6) rfl rfl rfl hdV_X6_refuse ⟨(Nat.le_of_ble_eq_true rfl), (Nat.le_of_ble_eq_true rfl)⟩) cut_12 prm_12 0 rfl rfl rfl hw rfl hl.1 rfl (Nat.le_of_ble_eq_true rfl) dX6_whatIs_13 (fun r_13 u_ H locs h hw => ?_)
    obtain ⟨F_12, rfl⟩ : ∃ z9 : RT, z9 = u_ := ⟨_, rfl⟩
    have hw : Hw s z A (fW z qX qP qK qN qL qG F_12 ++ (pW z qP P ++ (pW z qK K ++ (mW z qG qT G ++ (pW z qT T ++ (nW z qN N ++ (lW z qL L))))))) H locs := hw
    try dsimp only at h
    exact rt_i M (F_12, T) hw h dX6_whatIs_16
abbrev rmX6_row : Room := { frames := 1, cells := 0, slots := 0, locals := 22 }
set_option maxHeartbeats 4000000 in
set_option maxRecDepth 100000 in
theorem kX6_row_27 {p : Program} {l : Launch} {e : Env} {s : State} {m : MethodId} {args : Array Value} {below : List Frame} {meth : Method} {c : Code} {z : KT} {A : Nat → Prop} {qX : Nat → Nat} {qL : Nat → Nat} {qN : Nat → Nat} {qG : Nat → Nat} {qP : Nat → Nat} {qK : Nat → Nat} {qT : Nat → Nat} {P : RT} {K : RT} {G : RT} {T : RT} {L : RT} {Q : Int32 → RT → RT → Prop} (M : Mc p s m args meth c cX6_row 3 (some .int) RX6 z A) : ∀ (F : RT) (N : RT) (x1 : Int32) (x2 : Int32) (H : Heap) (locs : List Loc) (ls : Array Slot), Hw s z A (fW z qX qP qK qN qL qG F ++ (pW z qP P ++ (pW z qK K ++ (mW z qG qT G ++ (pW z qT T ++ (nW z qN N ++ (lW z qL L))))))) H locs → lv_has ls 3 [(0, .ref (qX 0)), (1, .int x1), (2, .int x2)] → bX6_row_27 P K G T L Q F N x1 x2 → W p l e rmX6_row s m args below meth c H locs 0 0 (MQ below (va_Qi (fun (r : Int32) (u : RT × RT) => Q r u.1 u.2) (fun u t => cAt z A ((fun u : RT × RT => (fW z qX qP qK qN qL qG u.1 ++ (pW z qP P ++ (pW z qK K ++ (mW z qG qT G ++ (pW z qT T ++ (nW z qN u.2 ++ (lW z qL L)))))))) u) t) A) args s 0 0 A) (F0 m 27 ls []) := by
  obtain ⟨hx, hb, -, -, hown, hts, -, -, -, hN, hsr, -⟩ := id M
  intro F N x1 x2 H locs ls hw hl h
  unfold bX6_row_27 at h
  refine lv_iload_n hx hb dX6_row_27 rfl (lv_at hl 2 rfl) ?_
  refine lv_if_eq (tgt := 37) hx hb dX6_row_28 (by decide) (fun c_1 => ?_) (fun c_1 => ?_)
  · replace h := iT c_1 h
    refine lv_aload_n hx hb dX6_row_37 rfl (lv_at hl 0 rfl) ?_
    refine gt_f (v := .ref (qN 0)) M inlX6 hw 0 rfl rfl 3 (by decide) fl_X6_26 rfl rfl dX6_row_38 ?_
    refine lv_iload_n hx hb dX6_row_41 rfl (lv_at hl 1 rfl) ?_
    refine fr_Vi (wN := fun u : RT => (fW z qX qP qK qN qL qG F ++ (pW z qP P ++ (pW z qK K ++ (mW z qG qT G ++ (pW z qT T ++ (nW z qN u ++ (lW z qL L)))))))) M (m_X5_add l z qN N x1 _ h) (cwV 1 hts (gdV cd_X5_add ml_X6_270 im_X5_add se_X5_add in_X5) rfl rfl rfl hdV_X5_add ⟨(Nat.le_of_ble_eq_true rfl), (Nat.le_of_ble_eq_true rfl)⟩) cut_23 prm_23 0 rfl rfl rfl hw rfl hl.1 rfl (Nat.le_of_ble_eq_true rfl) dX6_row_42 (fun r_3 u_ H locs h hw => ?_)
    obtain ⟨N_2, rfl⟩ : ∃ z9 : RT, z9 = u_ := ⟨_, rfl⟩
    have hw : Hw s z A (fW z qX qP qK qN qL qG F ++ (pW z qP P ++ (pW z qK K ++ (mW z qG qT G ++ (pW z qT T ++ (nW z qN N_2 ++ (lW z qL L))))))) H locs := hw
    try dsimp only at h
    exact rt_i M (F, N_2) hw h dX6_row_45
  · replace h := iF c_1 h
    refine lv_aload_n hx hb dX6_row_31 rfl (lv_at hl 0 rfl) ?_
    refine lv_iload_n hx hb dX6_row_32 rfl (lv_at hl 2 rfl) ?_
    refine fr_Vi (wN := fun u : RT => (fW z qX qP qK qN qL qG u ++ (pW z qP P ++ (pW z qK K ++ (mW z qG qT G ++ (pW z qT T ++ (nW z qN N ++ (lW z qL L)))))))) M (m_X6_refuse l z qX qL qN qG qP qK F x2 _ h) (cwV 1 hts (gdV cd_X6_refuse ml_X6_56 im_X6_refuse se_X6_refuse in_X6) rfl rfl rfl hdV_X6_refuse ⟨(Nat.le_of_ble_eq_true rfl), (Nat.le_of_ble_eq_true rfl)⟩) cut_12 prm_12 0 rfl rfl rfl hw rfl hl.1 rfl (Nat.le_of_ble_eq_true rfl) dX6_row_33 (fun r_5 u_ H locs h hw => ?_)
    obtain ⟨F_4, rfl⟩ : ∃ z9 : RT, z9 = u_ := ⟨_, rfl⟩
    have hw : Hw s z A (fW z qX qP qK qN qL qG F_4 ++ (pW z qP P ++ (pW z qK K ++ (mW z qG qT G ++ (pW z qT T ++ (nW z qN N ++ (lW z qL L))))))) H locs := hw
    try dsimp only at h
    exact rt_i M (F_4, N) hw h dX6_row_36
set_option maxHeartbeats 4000000 in
set_option maxRecDepth 100000 in
theorem m_X6_row (l : Launch) (z : KT) (qX : Nat → Nat) (qL : Nat → Nat) (qN : Nat → Nat) (qG : Nat → Nat) (qP : Nat → Nat) (qK : Nat → Nat) (qT : Nat → Nat) (F : RT) (P : RT) (K : RT) (G : RT) (T : RT) (N : RT) (L : RT) (x1 : Int32) (Q : Int32 → RT → RT → Prop) (h : wX6_row F P K G T N L x1 Q) : CI l yX6_row cX6_row 3 .int rmX6_row z [.ref (qX 0), .int x1] (fW z qX qP qK qN qL qG F ++ (pW z qP P ++ (pW z qK K ++ (mW z qG qT G ++ (pW z qT T ++ (nW z qN N ++ (lW z qL L))))))) (fun u : RT × RT => (fW z qX qP qK qN qL qG u.1 ++ (pW z qP P ++ (pW z qK K ++ (mW z qG qT G ++ (pW z qT T ++ (nW z qN u.2 ++ (lW z qL L)))))))) (fun (r : Int32) (u : RT × RT) => Q r u.1 u.2) := by
  refine CI.of rfl (Nat.le_of_ble_eq_true rfl) ?_
  intro p e s m below meth c A ls M hw hl
  have M : Mc p s m _ meth c cX6_row 3 (some .int) RX6 z A := M
  obtain ⟨hx, hb, -, -, hown, hts, -, -, -, hN, hsr, -⟩ := id M
  have hl : lv_has ls 3 [(0, .ref (qX 0)), (1, .int x1)] := hl
  unfold wX6_row at h
  generalize s.heap = H at hw ⊢
  generalize ([] : List Loc) = locs at hw ⊢
  refine lv_iload_n hx hb dX6_row_0 rfl (lv_at hl 1 rfl) ?_
  refine lv_iconst (v := 0) hx hb dX6_row_1 (by decide) ?_
  refine lv_bipush (v := 99) hx hb dX6_row_2 (by decide) ?_
  refine fr_Si (wN := fun _ : Unit => (fW z qX qP qK qN qL qG F ++ (pW z qP P ++ (pW z qK K ++ (mW z qG qT G ++ (pW z qT T ++ (nW z qN N ++ (lW z qL L)))))))) M (m_X6_rangeFault l z x1 (0 : Int32) (99 : Int32) _ h) (va_cwS 3 hts (gdS cd_X6_rangeFault ml_X6_48 st_X6_rangeFault in_X6) rfl rfl rfl hdS_X6_rangeFault ⟨(Nat.le_of_ble_eq_true rfl), (Nat.le_of_ble_eq_true rfl)⟩) (Cut.none _) (Prm.none _) hw rfl hl.1 rfl (Nat.le_of_ble_eq_true rfl) dX6_row_4 (fun r_1 u_ H locs h hw => ?_)
  have hw : Hw s z A (fW z qX qP qK qN qL qG F ++ (pW z qP P ++ (pW z qK K ++ (mW z qG qT G ++ (pW z qT T ++ (nW z qN N ++ (lW z qL L))))))) H locs := hw
  try dsimp only at h
  refine lv_istore_n (lv' := [(2, .int r_1), (0, .ref (qX 0)), (1, .int x1)]) hx hb dX6_row_7 rfl hl (by decide) rfl (fun ls hl => ?_)
  refine lv_iload_n hx hb dX6_row_8 rfl (lv_at hl 0 rfl) ?_
  refine lv_if_ne (tgt := 27) hx hb dX6_row_9 (by decide) (fun c_2 => ?_) (fun c_2 => ?_)
  · replace h := iF c_2 h
    exact kX6_row_27 M F N x1 r_1 H locs ls hw (lv_sub hl [1, 2, 0] rfl) h
  · replace h := iT c_2 h
    refine lv_aload_n hx hb dX6_row_12 rfl (lv_at hl 1 rfl) ?_
    refine gt_f (v := .ref (qN 0)) M inlX6 hw 0 rfl rfl 3 (by decide) fl_X6_26 rfl rfl dX6_row_13 ?_
    refine gt_f (v := .int (N 30 1)) M inlX5 hw 29 rfl rfl 1 (by decide) fl_X6_269 rfl rfl dX6_row_16 ?_
    refine lv_bipush (v := 16) hx hb dX6_row_19 (by decide) ?_
    refine lv_icmp_lt (tgt := 27) hx hb dX6_row_21 (by decide) (fun c_3 => ?_) (fun c_3 => ?_)
    · replace h := iT c_3 h
      exact kX6_row_27 M F N x1 r_1 H locs ls hw (lv_sub hl [1, 2, 0] rfl) h
    · replace h := iF c_3 h
      refine lv_bipush (v := -6) hx hb dX6_row_24 (by decide) ?_
      refine lv_istore_n (lv' := [(2, .int (-6 : Int32)), (0, .ref (qX 0)), (1, .int x1)]) hx hb dX6_row_26 rfl hl (by decide) rfl (fun ls hl => ?_)
      exact kX6_row_27 M F N x1 (-6 : Int32) H locs ls hw (lv_sub hl [1, 2, 0] rfl) h
abbrev rmX6_judge : Room := { frames := 4, cells := 0, slots := 0, locals := 87 }
set_option maxHeartbeats 4000000 in
set_option maxRecDepth 100000 in
theorem m_X6_judge (l : Launch) (z : KT) (qX : Nat → Nat) (qL : Nat → Nat) (qN : Nat → Nat) (qG : Nat → Nat) (qP : Nat → Nat) (qK : Nat → Nat) (qT : Nat → Nat) (F : RT) (P : RT) (K : RT) (G : RT) (T : RT) (N : RT) (L : RT) (Q : Int32 → RT → Prop) (h : wX6_judge F P K G T N L Q) : CI l yX6_judge cX6_judge 2 .int rmX6_judge z [.ref (qX 0)] (fW z qX qP qK qN qL qG F ++ (pW z qP P ++ (pW z qK K ++ (mW z qG qT G ++ (pW z qT T ++ (nW z qN N ++ (lW z qL L))))))) (fun u : RT => (fW z qX qP qK qN qL qG F ++ (pW z qP P ++ (pW z qK K ++ (mW z qG qT G ++ (pW z qT T ++ (nW z qN u ++ (lW z qL L)))))))) (fun (r : Int32) (u : RT) => Q r u) := by
  refine CI.of rfl (Nat.le_of_ble_eq_true rfl) ?_
  intro p e s m below meth c A ls M hw hl
  have M : Mc p s m _ meth c cX6_judge 2 (some .int) RX6 z A := M
  obtain ⟨hx, hb, -, -, hown, hts, -, -, -, hN, hsr, -⟩ := id M
  have hl : lv_has ls 2 [(0, .ref (qX 0))] := hl
  unfold wX6_judge at h
  generalize s.heap = H at hw ⊢
  generalize ([] : List Loc) = locs at hw ⊢
  refine lv_aload_n hx hb dX6_judge_0 rfl (lv_at hl 0 rfl) ?_
  refine gt_f (v := .ref (qN 0)) M inlX6 hw 0 rfl rfl 3 (by decide) fl_X6_26 rfl rfl dX6_judge_1 ?_
  refine lv_aload_n hx hb dX6_judge_4 rfl (lv_at hl 0 rfl) ?_
  refine gt_f (v := .ref (qP 0)) M inlX6 hw 0 rfl rfl 0 (by decide) fl_X6_10 rfl rfl dX6_judge_5 ?_
  refine fr_Vi (wN := fun _ : Unit => (fW z qX qP qK qN qL qG F ++ (pW z qP P ++ (pW z qK K ++ (mW z qG qT G ++ (pW z qT T ++ (nW z qN N ++ (lW z qL L)))))))) M (m_X5_firstWrong l z qN qP N P _ h) (cwV 1 hts (gdV cd_X5_firstWrong ml_X6_271 im_X5_firstWrong se_X5_firstWrong in_X5) rfl rfl rfl hdV_X5_firstWrong ⟨(Nat.le_of_ble_eq_true rfl), (Nat.le_of_ble_eq_true rfl)⟩) cut_24 prm_24 0 rfl rfl rfl hw rfl hl.1 rfl (Nat.le_of_ble_eq_true rfl) dX6_judge_8 (fun r_1 u_ H locs h hw => ?_)
  have hw : Hw s z A (fW z qX qP qK qN qL qG F ++ (pW z qP P ++ (pW z qK K ++ (mW z qG qT G ++ (pW z qT T ++ (nW z qN N ++ (lW z qL L))))))) H locs := hw
  try dsimp only at h
  refine lv_istore_n (lv' := [(1, .int r_1), (0, .ref (qX 0))]) hx hb dX6_judge_11 rfl hl (by decide) rfl (fun ls hl => ?_)
  refine lv_aload_n hx hb dX6_judge_12 rfl (lv_at hl 1 rfl) ?_
  refine gt_f (v := .ref (qN 0)) M inlX6 hw 0 rfl rfl 3 (by decide) fl_X6_26 rfl rfl dX6_judge_13 ?_
  refine lv_iconst (v := 0) hx hb dX6_judge_16 (by decide) ?_
  refine st_f (P := N) (r := 30) (j := 1) (wN := fun N_2 => (fW z qX qP qK qN qL qG F ++ (pW z qP P ++ (pW z qK K ++ (mW z qG qT G ++ (pW z qT T ++ (nW z qN N_2 ++ (lW z qL L)))))))) M inlX5 tyX5_ok nmX5 hw 29 rfl rfl 1 (by decide) fl_X6_269 rfl rfl rfl rfl rfl (Nat.le_of_ble_eq_true rfl) rfl dX6_judge_17 (fun N_2 H locs eN_2 hw => ?_)
  replace h := h N_2 eN_2
  refine lv_iload_n hx hb dX6_judge_20 rfl (lv_at hl 0 rfl) ?_
  exact rt_i M N_2 hw h dX6_judge_21
abbrev rmX6_clear : Room := { frames := 0, cells := 0, slots := 0, locals := 0 }
set_option maxHeartbeats 4000000 in
set_option maxRecDepth 100000 in
theorem m_X6_clear (l : Launch) (z : KT) (qX : Nat → Nat) (qL : Nat → Nat) (qN : Nat → Nat) (qG : Nat → Nat) (qP : Nat → Nat) (qK : Nat → Nat) (qT : Nat → Nat) (F : RT) (P : RT) (K : RT) (G : RT) (T : RT) (N : RT) (L : RT) (Q : Int32 → RT → Prop) (h : wX6_clear F P K G T N L Q) : CI l yX6_clear cX6_clear 2 .int rmX6_clear z [.ref (qX 0)] (fW z qX qP qK qN qL qG F ++ (pW z qP P ++ (pW z qK K ++ (mW z qG qT G ++ (pW z qT T ++ (nW z qN N ++ (lW z qL L))))))) (fun u : RT => (fW z qX qP qK qN qL qG F ++ (pW z qP P ++ (pW z qK K ++ (mW z qG qT G ++ (pW z qT T ++ (nW z qN u ++ (lW z qL L)))))))) (fun (r : Int32) (u : RT) => Q r u) := by
  refine CI.of rfl (Nat.le_of_ble_eq_true rfl) ?_
  intro p e s m below meth c A ls M hw hl
  have M : Mc p s m _ meth c cX6_clear 2 (some .int) RX6 z A := M
  obtain ⟨hx, hb, -, -, hown, hts, -, -, -, hN, hsr, -⟩ := id M
  have hl : lv_has ls 2 [(0, .ref (qX 0))] := hl
  unfold wX6_clear at h
  generalize s.heap = H at hw ⊢
  generalize ([] : List Loc) = locs at hw ⊢
  refine lv_aload_n hx hb dX6_clear_0 rfl (lv_at hl 0 rfl) ?_
  refine gt_f (v := .ref (qN 0)) M inlX6 hw 0 rfl rfl 3 (by decide) fl_X6_26 rfl rfl dX6_clear_1 ?_
  refine gt_f (v := .int (N 30 1)) M inlX5 hw 29 rfl rfl 1 (by decide) fl_X6_269 rfl rfl dX6_clear_4 ?_
  refine lv_topi (fun x1_1 ex1_1 => ?_)
  replace h := h x1_1 ex1_1
  refine lv_istore_n (lv' := [(1, .int x1_1), (0, .ref (qX 0))]) hx hb dX6_clear_7 rfl hl (by decide) rfl (fun ls hl => ?_)
  refine lv_aload_n hx hb dX6_clear_8 rfl (lv_at hl 1 rfl) ?_
  refine gt_f (v := .ref (qN 0)) M inlX6 hw 0 rfl rfl 3 (by decide) fl_X6_26 rfl rfl dX6_clear_9 ?_
  refine lv_iconst (v := 0) hx hb dX6_clear_12 (by decide) ?_
  refine st_f (P := N) (r := 30) (j := 1) (wN := fun N_2 => (fW z qX qP qK qN qL qG F ++ (pW z qP P ++ (pW z qK K ++ (mW z qG qT G ++ (pW z qT T ++ (nW z qN N_2 ++ (lW z qL L)))))))) M inlX5 tyX5_ok nmX5 hw 29 rfl rfl 1 (by decide) fl_X6_269 rfl rfl rfl rfl rfl (Nat.le_of_ble_eq_true rfl) rfl dX6_clear_13 (fun N_2 H locs eN_2 hw => ?_)
  replace h := h N_2 eN_2
  refine lv_iload_n hx hb dX6_clear_16 rfl (lv_at hl 0 rfl) ?_
  exact rt_i M N_2 hw h dX6_clear_17
abbrev rmX6_image : Room := { frames := 2, cells := 0, slots := 0, locals := 39 }
set_option maxHeartbeats 4000000 in
set_option maxRecDepth 100000 in
theorem m_X6_image (l : Launch) (z : KT) (qX : Nat → Nat) (qL : Nat → Nat) (qN : Nat → Nat) (qG : Nat → Nat) (qP : Nat → Nat) (qK : Nat → Nat) (qT : Nat → Nat) (F : RT) (P : RT) (K : RT) (G : RT) (T : RT) (N : RT) (L : RT) (Q : Int32 → RT → RT → Prop) (h : wX6_image F P K G T N L Q) : CI l yX6_image cX6_image 1 .int rmX6_image z [.ref (qX 0)] (fW z qX qP qK qN qL qG F ++ (pW z qP P ++ (pW z qK K ++ (mW z qG qT G ++ (pW z qT T ++ (nW z qN N ++ (lW z qL L))))))) (fun u : RT × RT => (fW z qX qP qK qN qL qG u.1 ++ (pW z qP P ++ (pW z qK u.2 ++ (mW z qG qT G ++ (pW z qT T ++ (nW z qN N ++ (lW z qL L)))))))) (fun (r : Int32) (u : RT × RT) => Q r u.1 u.2) := by
  refine CI.of rfl (Nat.le_of_ble_eq_true rfl) ?_
  intro p e s m below meth c A ls M hw hl
  have M : Mc p s m _ meth c cX6_image 1 (some .int) RX6 z A := M
  obtain ⟨hx, hb, -, -, hown, hts, -, -, -, hN, hsr, -⟩ := id M
  have hl : lv_has ls 1 [(0, .ref (qX 0))] := hl
  unfold wX6_image at h
  generalize s.heap = H at hw ⊢
  generalize ([] : List Loc) = locs at hw ⊢
  refine lv_aload_n hx hb dX6_image_0 rfl (lv_at hl 0 rfl) ?_
  refine gt_f (v := .ref (qK 0)) M inlX6 hw 0 rfl rfl 1 (by decide) fl_X6_16 rfl rfl dX6_image_1 ?_
  refine lv_aload_n hx hb dX6_image_4 rfl (lv_at hl 0 rfl) ?_
  refine gt_f (v := .ref (qP 0)) M inlX6 hw 0 rfl rfl 0 (by decide) fl_X6_10 rfl rfl dX6_image_5 ?_
  refine fr_Vv (wN := fun u : RT => (fW z qX qP qK qN qL qG F ++ (pW z qP P ++ (pW z qK u ++ (mW z qG qT G ++ (pW z qT T ++ (nW z qN N ++ (lW z qL L)))))))) M (m_X3_copyFrom l z qK qP K P _ h) (cwV 1 hts (gdV cd_X3_copyFrom ml_X6_71 im_X3_copyFrom se_X3_copyFrom in_X3) rfl rfl rfl hdV_X3_copyFrom ⟨(Nat.le_of_ble_eq_true rfl), (Nat.le_of_ble_eq_true rfl)⟩) cut_25 prm_25 0 rfl rfl rfl hw rfl hl.1 rfl (Nat.le_of_ble_eq_true rfl) dX6_image_8 (fun u_ H locs h hw => ?_)
  obtain ⟨K_1, rfl⟩ : ∃ z9 : RT, z9 = u_ := ⟨_, rfl⟩
  have hw : Hw s z A (fW z qX qP qK qN qL qG F ++ (pW z qP P ++ (pW z qK K_1 ++ (mW z qG qT G ++ (pW z qT T ++ (nW z qN N ++ (lW z qL L))))))) H locs := hw
  try dsimp only at h
  refine lv_aload_n hx hb dX6_image_11 rfl (lv_at hl 0 rfl) ?_
  refine lv_iconst (v := 1) hx hb dX6_image_12 (by decide) ?_
  refine st_f (ty := .boolean) (P := F) (r := 30) (j := 2) (wN := fun F_2 => (fW z qX qP qK qN qL qG F_2 ++ (pW z qP P ++ (pW z qK K_1 ++ (mW z qG qT G ++ (pW z qT T ++ (nW z qN N ++ (lW z qL L)))))))) M inlX6 tyX6_ok nmX6 hw 0 rfl rfl 2 (by decide) fl_X6_19 rfl rfl rfl (bz_narrow bz1) (bz_fits bz1) (Nat.le_of_ble_eq_true rfl) rfl dX6_image_13 (fun F_2 H locs eF_2 hw => ?_)
  replace h := h F_2 eF_2
  refine lv_aload_n hx hb dX6_image_16 rfl (lv_at hl 0 rfl) ?_
  refine gt_f (v := .ref (qP 0)) M inlX6 hw 0 rfl rfl 0 (by decide) fl_X6_10 rfl rfl dX6_image_17 ?_
  refine gt_f (v := .int (P 30 9)) M inlX3 hw 2 rfl rfl 9 (by decide) fl_X6_126 rfl rfl dX6_image_20 ?_
  exact rt_i M (F_2, K_1) hw h dX6_image_23
abbrev rmX6_on : Room := { frames := 2, cells := 0, slots := 0, locals := 39 }
set_option maxHeartbeats 4000000 in
set_option maxRecDepth 100000 in
theorem m_X6_on (l : Launch) (z : KT) (qX : Nat → Nat) (qL : Nat → Nat) (qN : Nat → Nat) (qG : Nat → Nat) (qP : Nat → Nat) (qK : Nat → Nat) (qT : Nat → Nat) (F : RT) (P : RT) (K : RT) (G : RT) (T : RT) (N : RT) (L : RT) (Q : Int32 → RT → RT → Prop) (h : wX6_on F P K G T N L Q) : CI l yX6_on cX6_on 1 .int rmX6_on z [.ref (qX 0)] (fW z qX qP qK qN qL qG F ++ (pW z qP P ++ (pW z qK K ++ (mW z qG qT G ++ (pW z qT T ++ (nW z qN N ++ (lW z qL L))))))) (fun u : RT × RT => (fW z qX qP qK qN qL qG u.1 ++ (pW z qP u.2 ++ (pW z qK K ++ (mW z qG qT G ++ (pW z qT T ++ (nW z qN N ++ (lW z qL L)))))))) (fun (r : Int32) (u : RT × RT) => Q r u.1 u.2) := by
  refine CI.of rfl (Nat.le_of_ble_eq_true rfl) ?_
  intro p e s m below meth c A ls M hw hl
  have M : Mc p s m _ meth c cX6_on 1 (some .int) RX6 z A := M
  obtain ⟨hx, hb, -, -, hown, hts, -, -, -, hN, hsr, -⟩ := id M
  have hl : lv_has ls 1 [(0, .ref (qX 0))] := hl
  unfold wX6_on at h
  generalize s.heap = H at hw ⊢
  generalize ([] : List Loc) = locs at hw ⊢
  refine lv_aload_n hx hb dX6_on_0 rfl (lv_at hl 0 rfl) ?_
  refine gt_f (v := .int (F 30 2)) M inlX6 hw 0 rfl rfl 2 (by decide) fl_X6_19 rfl rfl dX6_on_1 ?_
  refine lv_if_ne (tgt := 14) hx hb dX6_on_4 (by decide) (fun c_1 => ?_) (fun c_1 => ?_)
  · replace h := iF c_1 h
    refine lv_aload_n hx hb dX6_on_14 rfl (lv_at hl 0 rfl) ?_
    refine gt_f (v := .ref (qP 0)) M inlX6 hw 0 rfl rfl 0 (by decide) fl_X6_10 rfl rfl dX6_on_15 ?_
    refine lv_aload_n hx hb dX6_on_18 rfl (lv_at hl 0 rfl) ?_
    refine gt_f (v := .ref (qK 0)) M inlX6 hw 0 rfl rfl 1 (by decide) fl_X6_16 rfl rfl dX6_on_19 ?_
    refine fr_Vv (wN := fun u : RT => (fW z qX qP qK qN qL qG F ++ (pW z qP u ++ (pW z qK K ++ (mW z qG qT G ++ (pW z qT T ++ (nW z qN N ++ (lW z qL L)))))))) M (m_X3_copyFrom l z qP qK P K _ h) (cwV 1 hts (gdV cd_X3_copyFrom ml_X6_71 im_X3_copyFrom se_X3_copyFrom in_X3) rfl rfl rfl hdV_X3_copyFrom ⟨(Nat.le_of_ble_eq_true rfl), (Nat.le_of_ble_eq_true rfl)⟩) cut_26 prm_26 0 rfl rfl rfl hw rfl hl.1 rfl (Nat.le_of_ble_eq_true rfl) dX6_on_22 (fun u_ H locs h hw => ?_)
    obtain ⟨P_2, rfl⟩ : ∃ z9 : RT, z9 = u_ := ⟨_, rfl⟩
    have hw : Hw s z A (fW z qX qP qK qN qL qG F ++ (pW z qP P_2 ++ (pW z qK K ++ (mW z qG qT G ++ (pW z qT T ++ (nW z qN N ++ (lW z qL L))))))) H locs := hw
    try dsimp only at h
    refine lv_aload_n hx hb dX6_on_25 rfl (lv_at hl 0 rfl) ?_
    refine gt_f (v := .ref (qP 0)) M inlX6 hw 0 rfl rfl 0 (by decide) fl_X6_10 rfl rfl dX6_on_26 ?_
    refine gt_f (v := .int (P_2 30 9)) M inlX3 hw 2 rfl rfl 9 (by decide) fl_X6_126 rfl rfl dX6_on_29 ?_
    exact rt_i M (F, P_2) hw h dX6_on_32
  · replace h := iT c_1 h
    refine lv_aload_n hx hb dX6_on_7 rfl (lv_at hl 0 rfl) ?_
    refine lv_bipush (v := -3) hx hb dX6_on_8 (by decide) ?_
    refine fr_Vi (wN := fun u : RT => (fW z qX qP qK qN qL qG u ++ (pW z qP P ++ (pW z qK K ++ (mW z qG qT G ++ (pW z qT T ++ (nW z qN N ++ (lW z qL L)))))))) M (m_X6_refuse l z qX qL qN qG qP qK F (-3 : Int32) _ h) (cwV 1 hts (gdV cd_X6_refuse ml_X6_56 im_X6_refuse se_X6_refuse in_X6) rfl rfl rfl hdV_X6_refuse ⟨(Nat.le_of_ble_eq_true rfl), (Nat.le_of_ble_eq_true rfl)⟩) cut_12 prm_12 0 rfl rfl rfl hw rfl hl.1 rfl (Nat.le_of_ble_eq_true rfl) dX6_on_10 (fun r_4 u_ H locs h hw => ?_)
    obtain ⟨F_3, rfl⟩ : ∃ z9 : RT, z9 = u_ := ⟨_, rfl⟩
    have hw : Hw s z A (fW z qX qP qK qN qL qG F_3 ++ (pW z qP P ++ (pW z qK K ++ (mW z qG qT G ++ (pW z qT T ++ (nW z qN N ++ (lW z qL L))))))) H locs := hw
    try dsimp only at h
    exact rt_i M (F_3, P) hw h dX6_on_13
abbrev rmX6_count : Room := { frames := 2, cells := 0, slots := 0, locals := 48 }
set_option maxHeartbeats 4000000 in
set_option maxRecDepth 100000 in
theorem m_X6_count (l : Launch) (z : KT) (qX : Nat → Nat) (qL : Nat → Nat) (qN : Nat → Nat) (qG : Nat → Nat) (qP : Nat → Nat) (qK : Nat → Nat) (qT : Nat → Nat) (F : RT) (P : RT) (K : RT) (G : RT) (T : RT) (N : RT) (L : RT) (x1 : Int32) (Q : Int32 → Prop) (h : wX6_count F P K G T N L x1 Q) : CI l yX6_count cX6_count 2 .int rmX6_count z [.ref (qX 0), .int x1] (fW z qX qP qK qN qL qG F ++ (pW z qP P ++ (pW z qK K ++ (mW z qG qT G ++ (pW z qT T ++ (nW z qN N ++ (lW z qL L))))))) (fun _ : Unit => (fW z qX qP qK qN qL qG F ++ (pW z qP P ++ (pW z qK K ++ (mW z qG qT G ++ (pW z qT T ++ (nW z qN N ++ (lW z qL L)))))))) (fun (r : Int32) (_ : Unit) => Q r) := by
  refine CI.of rfl (Nat.le_of_ble_eq_true rfl) ?_
  intro p e s m below meth c A ls M hw hl
  have M : Mc p s m _ meth c cX6_count 2 (some .int) RX6 z A := M
  obtain ⟨hx, hb, -, -, hown, hts, -, -, -, hN, hsr, -⟩ := id M
  have hl : lv_has ls 2 [(0, .ref (qX 0)), (1, .int x1)] := hl
  unfold wX6_count at h
  generalize s.heap = H at hw ⊢
  generalize ([] : List Loc) = locs at hw ⊢
  refine lv_iload_n hx hb dX6_count_0 rfl (lv_at hl 1 rfl) ?_
  by_cases c_2 : x1 = (0 : Int32)
  · replace h := iT c_2 h
    refine lv_tableIn (tgt := 48) hx hb dX6_count_1 (by rw [c_2]; decide) (by rw [c_2]; decide) (by rw [c_2]; rfl) (by decide) ?_
    refine lv_aload_n hx hb dX6_count_48 rfl (lv_at hl 0 rfl) ?_
    refine gt_f (v := .ref (qP 0)) M inlX6 hw 0 rfl rfl 0 (by decide) fl_X6_10 rfl rfl dX6_count_49 ?_
    refine gt_f (v := .int (P 30 7)) M inlX3 hw 2 rfl rfl 7 (by decide) fl_X6_250 rfl rfl dX6_count_52 ?_
    exact rt_i M () hw h dX6_count_55
  replace h := iF c_2 h
  by_cases c_3 : x1 = (1 : Int32)
  · replace h := iT c_3 h
    refine lv_tableIn (tgt := 56) hx hb dX6_count_1 (by rw [c_3]; decide) (by rw [c_3]; decide) (by rw [c_3]; rfl) (by decide) ?_
    refine lv_aload_n hx hb dX6_count_56 rfl (lv_at hl 0 rfl) ?_
    refine gt_f (v := .ref (qP 0)) M inlX6 hw 0 rfl rfl 0 (by decide) fl_X6_10 rfl rfl dX6_count_57 ?_
    refine gt_f (v := .int (P 30 8)) M inlX3 hw 2 rfl rfl 8 (by decide) fl_X6_113 rfl rfl dX6_count_60 ?_
    exact rt_i M () hw h dX6_count_63
  replace h := iF c_3 h
  by_cases c_4 : x1 = (2 : Int32)
  · replace h := iT c_4 h
    refine lv_tableIn (tgt := 64) hx hb dX6_count_1 (by rw [c_4]; decide) (by rw [c_4]; decide) (by rw [c_4]; rfl) (by decide) ?_
    refine lv_aload_n hx hb dX6_count_64 rfl (lv_at hl 0 rfl) ?_
    refine gt_f (v := .ref (qP 0)) M inlX6 hw 0 rfl rfl 0 (by decide) fl_X6_10 rfl rfl dX6_count_65 ?_
    refine gt_f (v := .int (P 30 9)) M inlX3 hw 2 rfl rfl 9 (by decide) fl_X6_126 rfl rfl dX6_count_68 ?_
    exact rt_i M () hw h dX6_count_71
  replace h := iF c_4 h
  by_cases c_5 : x1 = (3 : Int32)
  · replace h := iT c_5 h
    refine lv_tableIn (tgt := 72) hx hb dX6_count_1 (by rw [c_5]; decide) (by rw [c_5]; decide) (by rw [c_5]; rfl) (by decide) ?_
    refine lv_aload_n hx hb dX6_count_72 rfl (lv_at hl 0 rfl) ?_
    refine gt_f (v := .ref (qP 0)) M inlX6 hw 0 rfl rfl 0 (by decide) fl_X6_10 rfl rfl dX6_count_73 ?_
    refine fr_Vi (wN := fun _ : Unit => (fW z qX qP qK qN qL qG F ++ (pW z qP P ++ (pW z qK K ++ (mW z qG qT G ++ (pW z qT T ++ (nW z qN N ++ (lW z qL L)))))))) M (m_X3_allHeights l z qP P _ h) (cwV 0 hts (gdV cd_X3_allHeights ml_X6_133 im_X3_allHeights se_X3_allHeights in_X3) rfl rfl rfl hdV_X3_allHeights ⟨(Nat.le_of_ble_eq_true rfl), (Nat.le_of_ble_eq_true rfl)⟩) cut_16 prm_16 0 rfl rfl rfl hw rfl hl.1 rfl (Nat.le_of_ble_eq_true rfl) dX6_count_76 (fun r_6 u_ H locs h hw => ?_)
    have hw : Hw s z A (fW z qX qP qK qN qL qG F ++ (pW z qP P ++ (pW z qK K ++ (mW z qG qT G ++ (pW z qT T ++ (nW z qN N ++ (lW z qL L))))))) H locs := hw
    try dsimp only at h
    exact rt_i M () hw h dX6_count_79
  replace h := iF c_5 h
  by_cases c_7 : x1 = (4 : Int32)
  · replace h := iT c_7 h
    refine lv_tableIn (tgt := 80) hx hb dX6_count_1 (by rw [c_7]; decide) (by rw [c_7]; decide) (by rw [c_7]; rfl) (by decide) ?_
    refine lv_aload_n hx hb dX6_count_80 rfl (lv_at hl 0 rfl) ?_
    refine gt_f (v := .ref (qP 0)) M inlX6 hw 0 rfl rfl 0 (by decide) fl_X6_10 rfl rfl dX6_count_81 ?_
    refine fr_Vi (wN := fun _ : Unit => (fW z qX qP qK qN qL qG F ++ (pW z qP P ++ (pW z qK K ++ (mW z qG qT G ++ (pW z qT T ++ (nW z qN N ++ (lW z qL L)))))))) M (m_X3_allStones l z qP P _ h) (cwV 0 hts (gdV cd_X3_allStones ml_X6_274 im_X3_allStones se_X3_allStones in_X3) rfl rfl rfl hdV_X3_allStones ⟨(Nat.le_of_ble_eq_true rfl), (Nat.le_of_ble_eq_true rfl)⟩) cut_16 prm_16 0 rfl rfl rfl hw rfl hl.1 rfl (Nat.le_of_ble_eq_true rfl) dX6_count_84 (fun r_8 u_ H locs h hw => ?_)
    have hw : Hw s z A (fW z qX qP qK qN qL qG F ++ (pW z qP P ++ (pW z qK K ++ (mW z qG qT G ++ (pW z qT T ++ (nW z qN N ++ (lW z qL L))))))) H locs := hw
    try dsimp only at h
    exact rt_i M () hw h dX6_count_87
  replace h := iF c_7 h
  by_cases c_9 : x1 = (5 : Int32)
  · replace h := iT c_9 h
    refine lv_tableIn (tgt := 88) hx hb dX6_count_1 (by rw [c_9]; decide) (by rw [c_9]; decide) (by rw [c_9]; rfl) (by decide) ?_
    refine lv_aload_n hx hb dX6_count_88 rfl (lv_at hl 0 rfl) ?_
    refine gt_f (v := .ref (qP 0)) M inlX6 hw 0 rfl rfl 0 (by decide) fl_X6_10 rfl rfl dX6_count_89 ?_
    refine fr_Vi (wN := fun _ : Unit => (fW z qX qP qK qN qL qG F ++ (pW z qP P ++ (pW z qK K ++ (mW z qG qT G ++ (pW z qT T ++ (nW z qN N ++ (lW z qL L)))))))) M (m_X3_allHeft l z qP P _ h) (cwV 0 hts (gdV cd_X3_allHeft ml_X6_277 im_X3_allHeft se_X3_allHeft in_X3) rfl rfl rfl hdV_X3_allHeft ⟨(Nat.le_of_ble_eq_true rfl), (Nat.le_of_ble_eq_true rfl)⟩) cut_16 prm_16 0 rfl rfl rfl hw rfl hl.1 rfl (Nat.le_of_ble_eq_true rfl) dX6_count_92 (fun r_10 u_ H locs h hw => ?_)
    have hw : Hw s z A (fW z qX qP qK qN qL qG F ++ (pW z qP P ++ (pW z qK K ++ (mW z qG qT G ++ (pW z qT T ++ (nW z qN N ++ (lW z qL L))))))) H locs := hw
    try dsimp only at h
    exact rt_i M () hw h dX6_count_95
  replace h := iF c_9 h
  by_cases c_11 : x1 = (6 : Int32)
  · replace h := iT c_11 h
    refine lv_tableIn (tgt := 96) hx hb dX6_count_1 (by rw [c_11]; decide) (by rw [c_11]; decide) (by rw [c_11]; rfl) (by decide) ?_
    refine lv_aload_n hx hb dX6_count_96 rfl (lv_at hl 0 rfl) ?_
    refine gt_f (v := .ref (qN 0)) M inlX6 hw 0 rfl rfl 3 (by decide) fl_X6_26 rfl rfl dX6_count_97 ?_
    refine gt_f (v := .int (N 30 1)) M inlX5 hw 29 rfl rfl 1 (by decide) fl_X6_269 rfl rfl dX6_count_100 ?_
    exact rt_i M () hw h dX6_count_103
  replace h := iF c_11 h
  by_cases c_12 : x1 = (7 : Int32)
  · replace h := iT c_12 h
    refine lv_tableIn (tgt := 104) hx hb dX6_count_1 (by rw [c_12]; decide) (by rw [c_12]; decide) (by rw [c_12]; rfl) (by decide) ?_
    refine lv_aload_n hx hb dX6_count_104 rfl (lv_at hl 0 rfl) ?_
    refine gt_f (v := .ref (qL 0)) M inlX6 hw 0 rfl rfl 4 (by decide) fl_X6_33 rfl rfl dX6_count_105 ?_
    refine gt_f (v := .int (L 30 1)) M inlX0 hw 31 rfl rfl 1 (by decide) fl_X6_52 rfl rfl dX6_count_108 ?_
    exact rt_i M () hw h dX6_count_111
  replace h := iF c_12 h
  refine lv_tableOut (tgt := 112) hx hb dX6_count_1 (by have q0 := lv_neT (a := 0) c_2 (by decide); have q1 := lv_neT (a := 1) c_3 (by decide); have q2 := lv_neT (a := 2) c_4 (by decide); have q3 := lv_neT (a := 3) c_5 (by decide); have q4 := lv_neT (a := 4) c_7 (by decide); have q5 := lv_neT (a := 5) c_9 (by decide); have q6 := lv_neT (a := 6) c_11 (by decide); have q7 := lv_neT (a := 7) c_12 (by decide); omega) (by decide) ?_
  refine lv_iload_n hx hb dX6_count_112 rfl (lv_at hl 1 rfl) ?_
  refine lv_bipush (v := 10) hx hb dX6_count_113 (by decide) ?_
  refine lv_icmp_le (tgt := 136) hx hb dX6_count_115 (by decide) (fun c_13 => ?_) (fun c_13 => ?_)
  · replace h := iT c_13 h
    refine lv_bipush (v := -9) hx hb dX6_count_136 (by decide) ?_
    exact rt_i M () hw h dX6_count_138
  · replace h := iF c_13 h
    refine lv_iload_n hx hb dX6_count_118 rfl (lv_at hl 1 rfl) ?_
    refine lv_bipush (v := 16) hx hb dX6_count_119 (by decide) ?_
    refine lv_icmp_gt (tgt := 136) hx hb dX6_count_121 (by decide) (fun c_14 => ?_) (fun c_14 => ?_)
    · replace h := iT c_14 h
      refine lv_bipush (v := -9) hx hb dX6_count_136 (by decide) ?_
      exact rt_i M () hw h dX6_count_138
    · replace h := iF c_14 h
      refine lv_aload_n hx hb dX6_count_124 rfl (lv_at hl 0 rfl) ?_
      refine gt_f (v := .ref (qX 7)) M inlX6 hw 0 rfl rfl 6 (by decide) fl_X6_44 rfl rfl dX6_count_125 ?_
      refine lv_iload_n hx hb dX6_count_128 rfl (lv_at hl 1 rfl) ?_
      refine lv_bipush (v := 10) hx hb dX6_count_129 (by decide) ?_
      refine lv_isub hx hb dX6_count_131 ?_
      obtain ⟨a_15, h⟩ := h
      refine ld_i M hw 1 rfl a_15 dX6_count_132 ?_
      refine lv_goto (tgt := 138) hx hb dX6_count_133 (by decide) ?_
      exact rt_i M () hw h dX6_count_138
