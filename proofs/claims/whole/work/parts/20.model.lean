/-! ===== the reference (laid by wip/whole/gen.py) ===== -/
theorem hdV_X7_no : yX7_no.cls = RX7 ∧ yX7_no.cls ≠ "java/lang/invoke/MethodHandle" ∧ yX7_no.cls ≠ "java/lang/invoke/VarHandle" ∧ (parseMethodDescriptor yX7_no.desc).map (fun d => d.parameters.length) = some 1 := by decide +kernel
theorem hdV_X7_lowest : yX7_lowest.cls = RX7 ∧ yX7_lowest.cls ≠ "java/lang/invoke/MethodHandle" ∧ yX7_lowest.cls ≠ "java/lang/invoke/VarHandle" ∧ (parseMethodDescriptor yX7_lowest.desc).map (fun d => d.parameters.length) = some 1 := by decide +kernel
theorem hdS_X7_isIn : yX7_isIn.cls ≠ "java/lang/invoke/MethodHandle" ∧ yX7_isIn.cls ≠ "java/lang/invoke/VarHandle" ∧ (parseMethodDescriptor yX7_isIn.desc).map (fun d => d.parameters.length) = some 3 := by decide +kernel
theorem hdS_X7_bound : yX7_bound.cls ≠ "java/lang/invoke/MethodHandle" ∧ yX7_bound.cls ≠ "java/lang/invoke/VarHandle" ∧ (parseMethodDescriptor yX7_bound.desc).map (fun d => d.parameters.length) = some 3 := by decide +kernel
theorem hdS_X7_held : yX7_held.cls ≠ "java/lang/invoke/MethodHandle" ∧ yX7_held.cls ≠ "java/lang/invoke/VarHandle" ∧ (parseMethodDescriptor yX7_held.desc).map (fun d => d.parameters.length) = some 3 := by decide +kernel
theorem hdS_X7_has : yX7_has.cls ≠ "java/lang/invoke/MethodHandle" ∧ yX7_has.cls ≠ "java/lang/invoke/VarHandle" ∧ (parseMethodDescriptor yX7_has.desc).map (fun d => d.parameters.length) = some 2 := by decide +kernel
theorem hdS_X7_bits : yX7_bits.cls ≠ "java/lang/invoke/MethodHandle" ∧ yX7_bits.cls ≠ "java/lang/invoke/VarHandle" ∧ (parseMethodDescriptor yX7_bits.desc).map (fun d => d.parameters.length) = some 1 := by decide +kernel
theorem hdS_X7_far : yX7_far.cls ≠ "java/lang/invoke/MethodHandle" ∧ yX7_far.cls ≠ "java/lang/invoke/VarHandle" ∧ (parseMethodDescriptor yX7_far.desc).map (fun d => d.parameters.length) = some 2 := by decide +kernel
theorem hdV_X7_isThing : yX7_isThing.cls = RX7 ∧ yX7_isThing.cls ≠ "java/lang/invoke/MethodHandle" ∧ yX7_isThing.cls ≠ "java/lang/invoke/VarHandle" ∧ (parseMethodDescriptor yX7_isThing.desc).map (fun d => d.parameters.length) = some 1 := by decide +kernel
theorem hdV_X7_isRope : yX7_isRope.cls = RX7 ∧ yX7_isRope.cls ≠ "java/lang/invoke/MethodHandle" ∧ yX7_isRope.cls ≠ "java/lang/invoke/VarHandle" ∧ (parseMethodDescriptor yX7_isRope.desc).map (fun d => d.parameters.length) = some 1 := by decide +kernel
theorem hdV_X7_areTwo : yX7_areTwo.cls = RX7 ∧ yX7_areTwo.cls ≠ "java/lang/invoke/MethodHandle" ∧ yX7_areTwo.cls ≠ "java/lang/invoke/VarHandle" ∧ (parseMethodDescriptor yX7_areTwo.desc).map (fun d => d.parameters.length) = some 2 := by decide +kernel
theorem hdV_X7_letter : yX7_letter.cls = RX7 ∧ yX7_letter.cls ≠ "java/lang/invoke/MethodHandle" ∧ yX7_letter.cls ≠ "java/lang/invoke/VarHandle" ∧ (parseMethodDescriptor yX7_letter.desc).map (fun d => d.parameters.length) = some 1 := by decide +kernel
theorem hdV_X7_next : yX7_next.cls = RX7 ∧ yX7_next.cls ≠ "java/lang/invoke/MethodHandle" ∧ yX7_next.cls ≠ "java/lang/invoke/VarHandle" ∧ (parseMethodDescriptor yX7_next.desc).map (fun d => d.parameters.length) = some 0 := by decide +kernel
theorem hdV_X7_readsDigits : yX7_readsDigits.cls = RX7 ∧ yX7_readsDigits.cls ≠ "java/lang/invoke/MethodHandle" ∧ yX7_readsDigits.cls ≠ "java/lang/invoke/VarHandle" ∧ (parseMethodDescriptor yX7_readsDigits.desc).map (fun d => d.parameters.length) = some 2 := by decide +kernel
theorem hdS_X7_kindOf : yX7_kindOf.cls ≠ "java/lang/invoke/MethodHandle" ∧ yX7_kindOf.cls ≠ "java/lang/invoke/VarHandle" ∧ (parseMethodDescriptor yX7_kindOf.desc).map (fun d => d.parameters.length) = some 1 := by decide +kernel
theorem hdV_X7_readsThing : yX7_readsThing.cls = RX7 ∧ yX7_readsThing.cls ≠ "java/lang/invoke/MethodHandle" ∧ yX7_readsThing.cls ≠ "java/lang/invoke/VarHandle" ∧ (parseMethodDescriptor yX7_readsThing.desc).map (fun d => d.parameters.length) = some 1 := by decide +kernel
theorem hdV_X7_readsAll : yX7_readsAll.cls = RX7 ∧ yX7_readsAll.cls ≠ "java/lang/invoke/MethodHandle" ∧ yX7_readsAll.cls ≠ "java/lang/invoke/VarHandle" ∧ (parseMethodDescriptor yX7_readsAll.desc).map (fun d => d.parameters.length) = some 2 := by decide +kernel
theorem hdV_X7_statement : yX7_statement.cls = RX7 ∧ yX7_statement.cls ≠ "java/lang/invoke/MethodHandle" ∧ yX7_statement.cls ≠ "java/lang/invoke/VarHandle" ∧ (parseMethodDescriptor yX7_statement.desc).map (fun d => d.parameters.length) = some 0 := by decide +kernel
theorem hdV_X7_comesThing : yX7_comesThing.cls = RX7 ∧ yX7_comesThing.cls ≠ "java/lang/invoke/MethodHandle" ∧ yX7_comesThing.cls ≠ "java/lang/invoke/VarHandle" ∧ (parseMethodDescriptor yX7_comesThing.desc).map (fun d => d.parameters.length) = some 1 := by decide +kernel
theorem hdV_X7_adds : yX7_adds.cls = RX7 ∧ yX7_adds.cls ≠ "java/lang/invoke/MethodHandle" ∧ yX7_adds.cls ≠ "java/lang/invoke/VarHandle" ∧ (parseMethodDescriptor yX7_adds.desc).map (fun d => d.parameters.length) = some 2 := by decide +kernel
theorem hdV_X7_comesRope : yX7_comesRope.cls = RX7 ∧ yX7_comesRope.cls ≠ "java/lang/invoke/MethodHandle" ∧ yX7_comesRope.cls ≠ "java/lang/invoke/VarHandle" ∧ (parseMethodDescriptor yX7_comesRope.desc).map (fun d => d.parameters.length) = some 2 := by decide +kernel
theorem hdV_X7_heftAt : yX7_heftAt.cls = RX7 ∧ yX7_heftAt.cls ≠ "java/lang/invoke/MethodHandle" ∧ yX7_heftAt.cls ≠ "java/lang/invoke/VarHandle" ∧ (parseMethodDescriptor yX7_heftAt.desc).map (fun d => d.parameters.length) = some 2 := by decide +kernel
theorem hdV_X7_heft : yX7_heft.cls = RX7 ∧ yX7_heft.cls ≠ "java/lang/invoke/MethodHandle" ∧ yX7_heft.cls ≠ "java/lang/invoke/VarHandle" ∧ (parseMethodDescriptor yX7_heft.desc).map (fun d => d.parameters.length) = some 1 := by decide +kernel
theorem hdV_X7_holdsTo : yX7_holdsTo.cls = RX7 ∧ yX7_holdsTo.cls ≠ "java/lang/invoke/MethodHandle" ∧ yX7_holdsTo.cls ≠ "java/lang/invoke/VarHandle" ∧ (parseMethodDescriptor yX7_holdsTo.desc).map (fun d => d.parameters.length) = some 1 := by decide +kernel
theorem hdV_X7_pulls : yX7_pulls.cls = RX7 ∧ yX7_pulls.cls ≠ "java/lang/invoke/MethodHandle" ∧ yX7_pulls.cls ≠ "java/lang/invoke/VarHandle" ∧ (parseMethodDescriptor yX7_pulls.desc).map (fun d => d.parameters.length) = some 1 := by decide +kernel
theorem hdV_X7_goesHour : yX7_goesHour.cls = RX7 ∧ yX7_goesHour.cls ≠ "java/lang/invoke/MethodHandle" ∧ yX7_goesHour.cls ≠ "java/lang/invoke/VarHandle" ∧ (parseMethodDescriptor yX7_goesHour.desc).map (fun d => d.parameters.length) = some 0 := by decide +kernel
theorem hdV_X7_goes : yX7_goes.cls = RX7 ∧ yX7_goes.cls ≠ "java/lang/invoke/MethodHandle" ∧ yX7_goes.cls ≠ "java/lang/invoke/VarHandle" ∧ (parseMethodDescriptor yX7_goes.desc).map (fun d => d.parameters.length) = some 1 := by decide +kernel
theorem hdV_X7_comesHours : yX7_comesHours.cls = RX7 ∧ yX7_comesHours.cls ≠ "java/lang/invoke/MethodHandle" ∧ yX7_comesHours.cls ≠ "java/lang/invoke/VarHandle" ∧ (parseMethodDescriptor yX7_comesHours.desc).map (fun d => d.parameters.length) = some 1 := by decide +kernel
theorem hdV_X7_comesOne : yX7_comesOne.cls = RX7 ∧ yX7_comesOne.cls ≠ "java/lang/invoke/MethodHandle" ∧ yX7_comesOne.cls ≠ "java/lang/invoke/VarHandle" ∧ (parseMethodDescriptor yX7_comesOne.desc).map (fun d => d.parameters.length) = some 3 := by decide +kernel
theorem hdV_X7_drops : yX7_drops.cls = RX7 ∧ yX7_drops.cls ≠ "java/lang/invoke/MethodHandle" ∧ yX7_drops.cls ≠ "java/lang/invoke/VarHandle" ∧ (parseMethodDescriptor yX7_drops.desc).map (fun d => d.parameters.length) = some 1 := by decide +kernel
theorem hdV_X7_comes : yX7_comes.cls = RX7 ∧ yX7_comes.cls ≠ "java/lang/invoke/MethodHandle" ∧ yX7_comes.cls ≠ "java/lang/invoke/VarHandle" ∧ (parseMethodDescriptor yX7_comes.desc).map (fun d => d.parameters.length) = some 1 := by decide +kernel
theorem hdV_X7_passes : yX7_passes.cls = RX7 ∧ yX7_passes.cls ≠ "java/lang/invoke/MethodHandle" ∧ yX7_passes.cls ≠ "java/lang/invoke/VarHandle" ∧ (parseMethodDescriptor yX7_passes.desc).map (fun d => d.parameters.length) = some 1 := by decide +kernel
theorem hdV_X7_passOne : yX7_passOne.cls = RX7 ∧ yX7_passOne.cls ≠ "java/lang/invoke/MethodHandle" ∧ yX7_passOne.cls ≠ "java/lang/invoke/VarHandle" ∧ (parseMethodDescriptor yX7_passOne.desc).map (fun d => d.parameters.length) = some 1 := by decide +kernel
theorem hdV_X7_passesAll : yX7_passesAll.cls = RX7 ∧ yX7_passesAll.cls ≠ "java/lang/invoke/MethodHandle" ∧ yX7_passesAll.cls ≠ "java/lang/invoke/VarHandle" ∧ (parseMethodDescriptor yX7_passesAll.desc).map (fun d => d.parameters.length) = some 2 := by decide +kernel
theorem hdV_X7_port : yX7_port.cls = RX7 ∧ yX7_port.cls ≠ "java/lang/invoke/MethodHandle" ∧ yX7_port.cls ≠ "java/lang/invoke/VarHandle" ∧ (parseMethodDescriptor yX7_port.desc).map (fun d => d.parameters.length) = some 0 := by decide +kernel
theorem hdV_X7_thinks : yX7_thinks.cls = RX7 ∧ yX7_thinks.cls ≠ "java/lang/invoke/MethodHandle" ∧ yX7_thinks.cls ≠ "java/lang/invoke/VarHandle" ∧ (parseMethodDescriptor yX7_thinks.desc).map (fun d => d.parameters.length) = some 0 := by decide +kernel
theorem hdV_X7_forgets : yX7_forgets.cls = RX7 ∧ yX7_forgets.cls ≠ "java/lang/invoke/MethodHandle" ∧ yX7_forgets.cls ≠ "java/lang/invoke/VarHandle" ∧ (parseMethodDescriptor yX7_forgets.desc).map (fun d => d.parameters.length) = some 0 := by decide +kernel
theorem hdV_X7_changesOn : yX7_changesOn.cls = RX7 ∧ yX7_changesOn.cls ≠ "java/lang/invoke/MethodHandle" ∧ yX7_changesOn.cls ≠ "java/lang/invoke/VarHandle" ∧ (parseMethodDescriptor yX7_changesOn.desc).map (fun d => d.parameters.length) = some 0 := by decide +kernel
theorem hdV_X7_changesBack : yX7_changesBack.cls = RX7 ∧ yX7_changesBack.cls ≠ "java/lang/invoke/MethodHandle" ∧ yX7_changesBack.cls ≠ "java/lang/invoke/VarHandle" ∧ (parseMethodDescriptor yX7_changesBack.desc).map (fun d => d.parameters.length) = some 0 := by decide +kernel
theorem hdV_X7_image : yX7_image.cls = RX7 ∧ yX7_image.cls ≠ "java/lang/invoke/MethodHandle" ∧ yX7_image.cls ≠ "java/lang/invoke/VarHandle" ∧ (parseMethodDescriptor yX7_image.desc).map (fun d => d.parameters.length) = some 0 := by decide +kernel
theorem hdV_X7_on : yX7_on.cls = RX7 ∧ yX7_on.cls ≠ "java/lang/invoke/MethodHandle" ∧ yX7_on.cls ≠ "java/lang/invoke/VarHandle" ∧ (parseMethodDescriptor yX7_on.desc).map (fun d => d.parameters.length) = some 0 := by decide +kernel
theorem hdV_X7_allHigh : yX7_allHigh.cls = RX7 ∧ yX7_allHigh.cls ≠ "java/lang/invoke/MethodHandle" ∧ yX7_allHigh.cls ≠ "java/lang/invoke/VarHandle" ∧ (parseMethodDescriptor yX7_allHigh.desc).map (fun d => d.parameters.length) = some 0 := by decide +kernel
theorem hdV_X7_thing : yX7_thing.cls = RX7 ∧ yX7_thing.cls ≠ "java/lang/invoke/MethodHandle" ∧ yX7_thing.cls ≠ "java/lang/invoke/VarHandle" ∧ (parseMethodDescriptor yX7_thing.desc).map (fun d => d.parameters.length) = some 2 := by decide +kernel
theorem hdV_X7_rope : yX7_rope.cls = RX7 ∧ yX7_rope.cls ≠ "java/lang/invoke/MethodHandle" ∧ yX7_rope.cls ≠ "java/lang/invoke/VarHandle" ∧ (parseMethodDescriptor yX7_rope.desc).map (fun d => d.parameters.length) = some 2 := by decide +kernel
theorem hdV_X7_ties : yX7_ties.cls = RX7 ∧ yX7_ties.cls ≠ "java/lang/invoke/MethodHandle" ∧ yX7_ties.cls ≠ "java/lang/invoke/VarHandle" ∧ (parseMethodDescriptor yX7_ties.desc).map (fun d => d.parameters.length) = some 2 := by decide +kernel
theorem hdV_X7_cuts : yX7_cuts.cls = RX7 ∧ yX7_cuts.cls ≠ "java/lang/invoke/MethodHandle" ∧ yX7_cuts.cls ≠ "java/lang/invoke/VarHandle" ∧ (parseMethodDescriptor yX7_cuts.desc).map (fun d => d.parameters.length) = some 1 := by decide +kernel
theorem hdV_X7_becomes : yX7_becomes.cls = RX7 ∧ yX7_becomes.cls ≠ "java/lang/invoke/MethodHandle" ∧ yX7_becomes.cls ≠ "java/lang/invoke/VarHandle" ∧ (parseMethodDescriptor yX7_becomes.desc).map (fun d => d.parameters.length) = some 4 := by decide +kernel
theorem hdV_X7_stones : yX7_stones.cls = RX7 ∧ yX7_stones.cls ≠ "java/lang/invoke/MethodHandle" ∧ yX7_stones.cls ≠ "java/lang/invoke/VarHandle" ∧ (parseMethodDescriptor yX7_stones.desc).map (fun d => d.parameters.length) = some 2 := by decide +kernel
theorem hdV_X7_weighs : yX7_weighs.cls = RX7 ∧ yX7_weighs.cls ≠ "java/lang/invoke/MethodHandle" ∧ yX7_weighs.cls ≠ "java/lang/invoke/VarHandle" ∧ (parseMethodDescriptor yX7_weighs.desc).map (fun d => d.parameters.length) = some 2 := by decide +kernel
theorem hdV_X7_lifts : yX7_lifts.cls = RX7 ∧ yX7_lifts.cls ≠ "java/lang/invoke/MethodHandle" ∧ yX7_lifts.cls ≠ "java/lang/invoke/VarHandle" ∧ (parseMethodDescriptor yX7_lifts.desc).map (fun d => d.parameters.length) = some 2 := by decide +kernel
theorem hdV_X7_turn : yX7_turn.cls = RX7 ∧ yX7_turn.cls ≠ "java/lang/invoke/MethodHandle" ∧ yX7_turn.cls ≠ "java/lang/invoke/VarHandle" ∧ (parseMethodDescriptor yX7_turn.desc).map (fun d => d.parameters.length) = some 3 := by decide +kernel
theorem hdV_X7_hours : yX7_hours.cls = RX7 ∧ yX7_hours.cls ≠ "java/lang/invoke/MethodHandle" ∧ yX7_hours.cls ≠ "java/lang/invoke/VarHandle" ∧ (parseMethodDescriptor yX7_hours.desc).map (fun d => d.parameters.length) = some 1 := by decide +kernel
theorem hdS_X7_notHours : yX7_notHours.cls ≠ "java/lang/invoke/MethodHandle" ∧ yX7_notHours.cls ≠ "java/lang/invoke/VarHandle" ∧ (parseMethodDescriptor yX7_notHours.desc).map (fun d => d.parameters.length) = some 1 := by decide +kernel
theorem hdV_X7_thingThen : yX7_thingThen.cls = RX7 ∧ yX7_thingThen.cls ≠ "java/lang/invoke/MethodHandle" ∧ yX7_thingThen.cls ≠ "java/lang/invoke/VarHandle" ∧ (parseMethodDescriptor yX7_thingThen.desc).map (fun d => d.parameters.length) = some 3 := by decide +kernel
theorem hdV_X7_ropeThen : yX7_ropeThen.cls = RX7 ∧ yX7_ropeThen.cls ≠ "java/lang/invoke/MethodHandle" ∧ yX7_ropeThen.cls ≠ "java/lang/invoke/VarHandle" ∧ (parseMethodDescriptor yX7_ropeThen.desc).map (fun d => d.parameters.length) = some 2 := by decide +kernel
theorem hdV_X7_upAt : yX7_upAt.cls = RX7 ∧ yX7_upAt.cls ≠ "java/lang/invoke/MethodHandle" ∧ yX7_upAt.cls ≠ "java/lang/invoke/VarHandle" ∧ (parseMethodDescriptor yX7_upAt.desc).map (fun d => d.parameters.length) = some 2 := by decide +kernel
theorem hdV_X7_up : yX7_up.cls = RX7 ∧ yX7_up.cls ≠ "java/lang/invoke/MethodHandle" ∧ yX7_up.cls ≠ "java/lang/invoke/VarHandle" ∧ (parseMethodDescriptor yX7_up.desc).map (fun d => d.parameters.length) = some 2 := by decide +kernel
theorem hdV_X7_isAtRest : yX7_isAtRest.cls = RX7 ∧ yX7_isAtRest.cls ≠ "java/lang/invoke/MethodHandle" ∧ yX7_isAtRest.cls ≠ "java/lang/invoke/VarHandle" ∧ (parseMethodDescriptor yX7_isAtRest.desc).map (fun d => d.parameters.length) = some 0 := by decide +kernel
theorem hdV_X7_restsAt : yX7_restsAt.cls = RX7 ∧ yX7_restsAt.cls ≠ "java/lang/invoke/MethodHandle" ∧ yX7_restsAt.cls ≠ "java/lang/invoke/VarHandle" ∧ (parseMethodDescriptor yX7_restsAt.desc).map (fun d => d.parameters.length) = some 0 := by decide +kernel
theorem hdV_X7_first : yX7_first.cls = RX7 ∧ yX7_first.cls ≠ "java/lang/invoke/MethodHandle" ∧ yX7_first.cls ≠ "java/lang/invoke/VarHandle" ∧ (parseMethodDescriptor yX7_first.desc).map (fun d => d.parameters.length) = some 1 := by decide +kernel
theorem hdV_X7_changes : yX7_changes.cls = RX7 ∧ yX7_changes.cls ≠ "java/lang/invoke/MethodHandle" ∧ yX7_changes.cls ≠ "java/lang/invoke/VarHandle" ∧ (parseMethodDescriptor yX7_changes.desc).map (fun d => d.parameters.length) = some 1 := by decide +kernel
theorem hdV_X7_highIn : yX7_highIn.cls = RX7 ∧ yX7_highIn.cls ≠ "java/lang/invoke/MethodHandle" ∧ yX7_highIn.cls ≠ "java/lang/invoke/VarHandle" ∧ (parseMethodDescriptor yX7_highIn.desc).map (fun d => d.parameters.length) = some 2 := by decide +kernel
theorem hdV_X7_highWith : yX7_highWith.cls = RX7 ∧ yX7_highWith.cls ≠ "java/lang/invoke/MethodHandle" ∧ yX7_highWith.cls ≠ "java/lang/invoke/VarHandle" ∧ (parseMethodDescriptor yX7_highWith.desc).map (fun d => d.parameters.length) = some 3 := by decide +kernel
theorem hdV_X7_notGoal : yX7_notGoal.cls = RX7 ∧ yX7_notGoal.cls ≠ "java/lang/invoke/MethodHandle" ∧ yX7_notGoal.cls ≠ "java/lang/invoke/VarHandle" ∧ (parseMethodDescriptor yX7_notGoal.desc).map (fun d => d.parameters.length) = some 3 := by decide +kernel
theorem hdV_X7_throwsDown : yX7_throwsDown.cls = RX7 ∧ yX7_throwsDown.cls ≠ "java/lang/invoke/MethodHandle" ∧ yX7_throwsDown.cls ≠ "java/lang/invoke/VarHandle" ∧ (parseMethodDescriptor yX7_throwsDown.desc).map (fun d => d.parameters.length) = some 3 := by decide +kernel
theorem hdV_X7_takesUp : yX7_takesUp.cls = RX7 ∧ yX7_takesUp.cls ≠ "java/lang/invoke/MethodHandle" ∧ yX7_takesUp.cls ≠ "java/lang/invoke/VarHandle" ∧ (parseMethodDescriptor yX7_takesUp.desc).map (fun d => d.parameters.length) = some 3 := by decide +kernel
theorem hdV_X7_highTied : yX7_highTied.cls = RX7 ∧ yX7_highTied.cls ≠ "java/lang/invoke/MethodHandle" ∧ yX7_highTied.cls ≠ "java/lang/invoke/VarHandle" ∧ (parseMethodDescriptor yX7_highTied.desc).map (fun d => d.parameters.length) = some 3 := by decide +kernel
theorem hdV_X7_bestTie : yX7_bestTie.cls = RX7 ∧ yX7_bestTie.cls ≠ "java/lang/invoke/MethodHandle" ∧ yX7_bestTie.cls ≠ "java/lang/invoke/VarHandle" ∧ (parseMethodDescriptor yX7_bestTie.desc).map (fun d => d.parameters.length) = some 2 := by decide +kernel
theorem hdV_X7_highCut : yX7_highCut.cls = RX7 ∧ yX7_highCut.cls ≠ "java/lang/invoke/MethodHandle" ∧ yX7_highCut.cls ≠ "java/lang/invoke/VarHandle" ∧ (parseMethodDescriptor yX7_highCut.desc).map (fun d => d.parameters.length) = some 3 := by decide +kernel
theorem hdV_X7_bestCut : yX7_bestCut.cls = RX7 ∧ yX7_bestCut.cls ≠ "java/lang/invoke/MethodHandle" ∧ yX7_bestCut.cls ≠ "java/lang/invoke/VarHandle" ∧ (parseMethodDescriptor yX7_bestCut.desc).map (fun d => d.parameters.length) = some 2 := by decide +kernel
theorem hdV_X7_allIn : yX7_allIn.cls = RX7 ∧ yX7_allIn.cls ≠ "java/lang/invoke/MethodHandle" ∧ yX7_allIn.cls ≠ "java/lang/invoke/VarHandle" ∧ (parseMethodDescriptor yX7_allIn.desc).map (fun d => d.parameters.length) = some 1 := by decide +kernel
theorem hdV_X7_bestStone : yX7_bestStone.cls = RX7 ∧ yX7_bestStone.cls ≠ "java/lang/invoke/MethodHandle" ∧ yX7_bestStone.cls ≠ "java/lang/invoke/VarHandle" ∧ (parseMethodDescriptor yX7_bestStone.desc).map (fun d => d.parameters.length) = some 1 := by decide +kernel
theorem hdV_X7_aheadOf : yX7_aheadOf.cls = RX7 ∧ yX7_aheadOf.cls ≠ "java/lang/invoke/MethodHandle" ∧ yX7_aheadOf.cls ≠ "java/lang/invoke/VarHandle" ∧ (parseMethodDescriptor yX7_aheadOf.desc).map (fun d => d.parameters.length) = some 1 := by decide +kernel
theorem hdV_X7_rows : yX7_rows.cls = RX7 ∧ yX7_rows.cls ≠ "java/lang/invoke/MethodHandle" ∧ yX7_rows.cls ≠ "java/lang/invoke/VarHandle" ∧ (parseMethodDescriptor yX7_rows.desc).map (fun d => d.parameters.length) = some 1 := by decide +kernel
theorem hdV_X7_between : yX7_between.cls = RX7 ∧ yX7_between.cls ≠ "java/lang/invoke/MethodHandle" ∧ yX7_between.cls ≠ "java/lang/invoke/VarHandle" ∧ (parseMethodDescriptor yX7_between.desc).map (fun d => d.parameters.length) = some 2 := by decide +kernel
theorem hdV_X7_heftsOf : yX7_heftsOf.cls = RX7 ∧ yX7_heftsOf.cls ≠ "java/lang/invoke/MethodHandle" ∧ yX7_heftsOf.cls ≠ "java/lang/invoke/VarHandle" ∧ (parseMethodDescriptor yX7_heftsOf.desc).map (fun d => d.parameters.length) = some 1 := by decide +kernel
theorem hdV_X7_balance : yX7_balance.cls = RX7 ∧ yX7_balance.cls ≠ "java/lang/invoke/MethodHandle" ∧ yX7_balance.cls ≠ "java/lang/invoke/VarHandle" ∧ (parseMethodDescriptor yX7_balance.desc).map (fun d => d.parameters.length) = some 1 := by decide +kernel
theorem hdV_X7_nearest : yX7_nearest.cls = RX7 ∧ yX7_nearest.cls ≠ "java/lang/invoke/MethodHandle" ∧ yX7_nearest.cls ≠ "java/lang/invoke/VarHandle" ∧ (parseMethodDescriptor yX7_nearest.desc).map (fun d => d.parameters.length) = some 1 := by decide +kernel
theorem hdV_X7_chainOf : yX7_chainOf.cls = RX7 ∧ yX7_chainOf.cls ≠ "java/lang/invoke/MethodHandle" ∧ yX7_chainOf.cls ≠ "java/lang/invoke/VarHandle" ∧ (parseMethodDescriptor yX7_chainOf.desc).map (fun d => d.parameters.length) = some 1 := by decide +kernel
theorem hdV_X7_chain : yX7_chain.cls = RX7 ∧ yX7_chain.cls ≠ "java/lang/invoke/MethodHandle" ∧ yX7_chain.cls ≠ "java/lang/invoke/VarHandle" ∧ (parseMethodDescriptor yX7_chain.desc).map (fun d => d.parameters.length) = some 1 := by decide +kernel
theorem hdV_X7_chains : yX7_chains.cls = RX7 ∧ yX7_chains.cls ≠ "java/lang/invoke/MethodHandle" ∧ yX7_chains.cls ≠ "java/lang/invoke/VarHandle" ∧ (parseMethodDescriptor yX7_chains.desc).map (fun d => d.parameters.length) = some 1 := by decide +kernel
theorem hdV_X7_sides : yX7_sides.cls = RX7 ∧ yX7_sides.cls ≠ "java/lang/invoke/MethodHandle" ∧ yX7_sides.cls ≠ "java/lang/invoke/VarHandle" ∧ (parseMethodDescriptor yX7_sides.desc).map (fun d => d.parameters.length) = some 1 := by decide +kernel
theorem hdV_X7_hauledFrom : yX7_hauledFrom.cls = RX7 ∧ yX7_hauledFrom.cls ≠ "java/lang/invoke/MethodHandle" ∧ yX7_hauledFrom.cls ≠ "java/lang/invoke/VarHandle" ∧ (parseMethodDescriptor yX7_hauledFrom.desc).map (fun d => d.parameters.length) = some 1 := by decide +kernel
theorem hdV_X7_hauled : yX7_hauled.cls = RX7 ∧ yX7_hauled.cls ≠ "java/lang/invoke/MethodHandle" ∧ yX7_hauled.cls ≠ "java/lang/invoke/VarHandle" ∧ (parseMethodDescriptor yX7_hauled.desc).map (fun d => d.parameters.length) = some 2 := by decide +kernel
theorem hdV_X7_top : yX7_top.cls = RX7 ∧ yX7_top.cls ≠ "java/lang/invoke/MethodHandle" ∧ yX7_top.cls ≠ "java/lang/invoke/VarHandle" ∧ (parseMethodDescriptor yX7_top.desc).map (fun d => d.parameters.length) = some 1 := by decide +kernel
theorem hdV_X7_odd : yX7_odd.cls = RX7 ∧ yX7_odd.cls ≠ "java/lang/invoke/MethodHandle" ∧ yX7_odd.cls ≠ "java/lang/invoke/VarHandle" ∧ (parseMethodDescriptor yX7_odd.desc).map (fun d => d.parameters.length) = some 0 := by decide +kernel
theorem hdV_X7_meet : yX7_meet.cls = RX7 ∧ yX7_meet.cls ≠ "java/lang/invoke/MethodHandle" ∧ yX7_meet.cls ≠ "java/lang/invoke/VarHandle" ∧ (parseMethodDescriptor yX7_meet.desc).map (fun d => d.parameters.length) = some 2 := by decide +kernel
theorem hdV_X7_findHigher : yX7_findHigher.cls = RX7 ∧ yX7_findHigher.cls ≠ "java/lang/invoke/MethodHandle" ∧ yX7_findHigher.cls ≠ "java/lang/invoke/VarHandle" ∧ (parseMethodDescriptor yX7_findHigher.desc).map (fun d => d.parameters.length) = some 3 := by decide +kernel
theorem hdV_X7_two : yX7_two.cls = RX7 ∧ yX7_two.cls ≠ "java/lang/invoke/MethodHandle" ∧ yX7_two.cls ≠ "java/lang/invoke/VarHandle" ∧ (parseMethodDescriptor yX7_two.desc).map (fun d => d.parameters.length) = some 3 := by decide +kernel
theorem hdS_X7_divisor : yX7_divisor.cls ≠ "java/lang/invoke/MethodHandle" ∧ yX7_divisor.cls ≠ "java/lang/invoke/VarHandle" ∧ (parseMethodDescriptor yX7_divisor.desc).map (fun d => d.parameters.length) = some 2 := by decide +kernel
theorem hdS_X7_partOf : yX7_partOf.cls ≠ "java/lang/invoke/MethodHandle" ∧ yX7_partOf.cls ≠ "java/lang/invoke/VarHandle" ∧ (parseMethodDescriptor yX7_partOf.desc).map (fun d => d.parameters.length) = some 3 := by decide +kernel
theorem hdV_X7_wet : yX7_wet.cls = RX7 ∧ yX7_wet.cls ≠ "java/lang/invoke/MethodHandle" ∧ yX7_wet.cls ≠ "java/lang/invoke/VarHandle" ∧ (parseMethodDescriptor yX7_wet.desc).map (fun d => d.parameters.length) = some 6 := by decide +kernel
theorem hdV_X7_mean : yX7_mean.cls = RX7 ∧ yX7_mean.cls ≠ "java/lang/invoke/MethodHandle" ∧ yX7_mean.cls ≠ "java/lang/invoke/VarHandle" ∧ (parseMethodDescriptor yX7_mean.desc).map (fun d => d.parameters.length) = some 1 := by decide +kernel
theorem hdV_X7_isSo : yX7_isSo.cls = RX7 ∧ yX7_isSo.cls ≠ "java/lang/invoke/MethodHandle" ∧ yX7_isSo.cls ≠ "java/lang/invoke/VarHandle" ∧ (parseMethodDescriptor yX7_isSo.desc).map (fun d => d.parameters.length) = some 1 := by decide +kernel
theorem hdV_X7_kindsOf : yX7_kindsOf.cls = RX7 ∧ yX7_kindsOf.cls ≠ "java/lang/invoke/MethodHandle" ∧ yX7_kindsOf.cls ≠ "java/lang/invoke/VarHandle" ∧ (parseMethodDescriptor yX7_kindsOf.desc).map (fun d => d.parameters.length) = some 1 := by decide +kernel
theorem hdV_X7_weightsOf : yX7_weightsOf.cls = RX7 ∧ yX7_weightsOf.cls ≠ "java/lang/invoke/MethodHandle" ∧ yX7_weightsOf.cls ≠ "java/lang/invoke/VarHandle" ∧ (parseMethodDescriptor yX7_weightsOf.desc).map (fun d => d.parameters.length) = some 1 := by decide +kernel
theorem hdV_X7_whatIs : yX7_whatIs.cls = RX7 ∧ yX7_whatIs.cls ≠ "java/lang/invoke/MethodHandle" ∧ yX7_whatIs.cls ≠ "java/lang/invoke/VarHandle" ∧ (parseMethodDescriptor yX7_whatIs.desc).map (fun d => d.parameters.length) = some 2 := by decide +kernel
theorem hdV_X7_row : yX7_row.cls = RX7 ∧ yX7_row.cls ≠ "java/lang/invoke/MethodHandle" ∧ yX7_row.cls ≠ "java/lang/invoke/VarHandle" ∧ (parseMethodDescriptor yX7_row.desc).map (fun d => d.parameters.length) = some 1 := by decide +kernel
theorem hdV_X7_judge : yX7_judge.cls = RX7 ∧ yX7_judge.cls ≠ "java/lang/invoke/MethodHandle" ∧ yX7_judge.cls ≠ "java/lang/invoke/VarHandle" ∧ (parseMethodDescriptor yX7_judge.desc).map (fun d => d.parameters.length) = some 0 := by decide +kernel
theorem hdV_X7_clear : yX7_clear.cls = RX7 ∧ yX7_clear.cls ≠ "java/lang/invoke/MethodHandle" ∧ yX7_clear.cls ≠ "java/lang/invoke/VarHandle" ∧ (parseMethodDescriptor yX7_clear.desc).map (fun d => d.parameters.length) = some 0 := by decide +kernel
theorem hdV_X7_lots : yX7_lots.cls = RX7 ∧ yX7_lots.cls ≠ "java/lang/invoke/MethodHandle" ∧ yX7_lots.cls ≠ "java/lang/invoke/VarHandle" ∧ (parseMethodDescriptor yX7_lots.desc).map (fun d => d.parameters.length) = some 3 := by decide +kernel
theorem hdV_X7_count : yX7_count.cls = RX7 ∧ yX7_count.cls ≠ "java/lang/invoke/MethodHandle" ∧ yX7_count.cls ≠ "java/lang/invoke/VarHandle" ∧ (parseMethodDescriptor yX7_count.desc).map (fun d => d.parameters.length) = some 1 := by decide +kernel
def wX7_no (S : RT) (x1 : Int32) (Q : Int32 → RT → Prop) : Prop := (vp_in (-x1) 7 ∧ (∀ S_2 : RT, S_2 = set2 S 0 ((-x1)).toNatClampNeg ((S 0 ((-x1)).toNatClampNeg) + (1 : Int32)) → (Q x1 S_2)))
def wX7_lowest (S : RT) (x1 : Int32) (Q : Int64 → RT → Prop) : Prop := (vp_in (-x1) 7 ∧ (∀ S_2 : RT, S_2 = set2 S 0 ((-x1)).toNatClampNeg ((S 0 ((-x1)).toNatClampNeg) + (1 : Int32)) → (Q ((4000000000000000000 : Int64) - ((x1).toInt64)) S_2)))
def wX7_isIn (x0 : Int32) (x1 : Int32) (x2 : Int32) (Q : Int32 → Prop) : Prop := (if x0 < x1 then (Q (0 : Int32)) else (if x2 < x0 then (Q (0 : Int32)) else (Q (1 : Int32))))
def wX7_bound (x0 : Int32) (x1 : Int32) (x2 : Int32) (Q : Int32 → Prop) : Prop := (if x1 ≤ x0 then (if x0 ≤ x2 then (Q (0 : Int32)) else (Q (-6 : Int32))) else (Q (-4 : Int32)))
def wX7_held (x0 : Int32) (x1 : Int32) (x2 : Int32) (Q : Int32 → Prop) : Prop := (if x1 ≤ x0 then (if x0 ≤ x2 then (Q x0) else (Q x2)) else (Q x1))
def wX7_has (x0 : Int32) (x1 : Int32) (Q : Int32 → Prop) : Prop := (if ((x0 >>> (x1 &&& 31)) &&& (1 : Int32)) = (1 : Int32) then (Q (1 : Int32)) else (Q (0 : Int32)))
def bX7_bits_4 (Q : Int32 → Prop) : Nat → Int32 → Int32 → Int32 → Prop
  | 0, _, _, _ => False
  | n + 1, x0, x1, x2 => (if (31 : Int32) ≤ x2 then (Q x1) else (∀ x1_2 : Int32, x1_2 = (x1 + ((x0 >>> (x2 &&& 31)) &&& (1 : Int32))) → (∀ x2_3 : Int32, x2_3 = (x2 + (1 : Int32)) → (bX7_bits_4 Q n x0 x1_2 x2_3))))
def wX7_bits (x0 : Int32) (Q : Int32 → Prop) : Prop := (∃ j : Nat, bX7_bits_4 Q j x0 (0 : Int32) (0 : Int32))
def wX7_far (x0 : Int32) (x1 : Int32) (Q : Int32 → Prop) : Prop := (if x0 ≤ x1 then (Q (x1 - x0)) else (Q (x0 - x1)))
def wX7_isThing (S : RT) (x1 : Int32) (Q : Int32 → Prop) : Prop := (if x1 < (0 : Int32) then (Q (0 : Int32)) else (if (S 30 8) ≤ x1 then (Q (0 : Int32)) else (Q (1 : Int32))))
def wX7_isRope (S : RT) (x1 : Int32) (Q : Int32 → Prop) : Prop := (if x1 < (0 : Int32) then (Q (0 : Int32)) else (if (S 30 9) ≤ x1 then (Q (0 : Int32)) else (Q (1 : Int32))))
def wX7_areTwo (S : RT) (x1 : Int32) (x2 : Int32) (Q : Int32 → Prop) : Prop := (wX7_isThing S x1 (fun (r_1 : Int32) => (if r_1 = (0 : Int32) then (Q (0 : Int32)) else (wX7_isThing S x2 (fun (r_3 : Int32) => (if r_3 = (0 : Int32) then (Q (0 : Int32)) else (if x1 = x2 then (Q (0 : Int32)) else (Q (1 : Int32)))))))))
def bX7_letter_25 (Q : Int32 → RT → Prop) (S : RT) (x1 : Int32) (x2 : Int32) : Prop := (if x2 = (0 : Int32) then (vp_in (S 30 16) 96 ∧ (∀ S_3 : RT, S_3 = set2 S 12 ((S 30 16)).toNatClampNeg x1 → (∀ S_4 : RT, S_4 = set2 S_3 30 16 ((S_3 30 16) + (1 : Int32)) → (Q (S_4 30 16) S_4)))) else (wX7_no S x2 (fun (r_6 : Int32) (S_5 : RT) => (Q r_6 S_5))))
def wX7_letter (S : RT) (x1 : Int32) (Q : Int32 → RT → Prop) : Prop := (wX7_bound  x1 (0 : Int32) (255 : Int32) (fun (r_1 : Int32) => (if r_1 = (0 : Int32) then (if (S 30 16) = (96 : Int32) then (bX7_letter_25 Q S x1 (-6 : Int32)) else (bX7_letter_25 Q S x1 r_1)) else (bX7_letter_25 Q S x1 r_1))))
def wX7_next (S : RT) (Q : Int32 → Prop) : Prop := (if (S 30 16) ≤ (S 30 17) then (Q (-1 : Int32)) else (vp_in (S 30 17) 96 ∧ (Q (S 12 ((S 30 17)).toNatClampNeg))))
def bX7_readsDigits_5 (Q : Int32 → RT → Prop) : Nat → RT → Int32 → Int32 → Int32 → Int32 → Prop
  | 0, _, _, _, _, _ => False
  | n + 1, S, x1, x2, x3, x4 => (if x2 ≤ x4 then (vp_in x1 144 ∧ (∀ S_3 : RT, S_3 = set2 S 15 (x1).toNatClampNeg x3 → (Q (1 : Int32) S_3))) else (wX7_next S  (fun (r_4 : Int32) => (wX7_isIn  r_4 (48 : Int32) (57 : Int32) (fun (r_5 : Int32) => (if r_5 = (0 : Int32) then (Q (0 : Int32) S) else (wX7_next S  (fun (r_7 : Int32) => (∀ x3_8 : Int32, x3_8 = ((((10 : Int32) * x3) + r_7) - (48 : Int32)) → (∀ S_9 : RT, S_9 = set2 S 30 17 ((S 30 17) + (1 : Int32)) → (∀ x4_10 : Int32, x4_10 = (x4 + (1 : Int32)) → (bX7_readsDigits_5 Q n S_9 x1 x2 x3_8 x4_10))))))))))))
def wX7_readsDigits (S : RT) (x1 : Int32) (x2 : Int32) (Q : Int32 → RT → Prop) : Prop := (∃ j : Nat, bX7_readsDigits_5 Q j S x1 x2 (0 : Int32) (0 : Int32))
def wX7_kindOf (x0 : Int32) (Q : Int32 → Prop) : Prop := (if x0 = (116 : Int32) then (Q (0 : Int32)) else (if x0 = (112 : Int32) then (Q (1 : Int32)) else (if x0 = (98 : Int32) then (Q (2 : Int32)) else (if x0 = (115 : Int32) then (Q (3 : Int32)) else (if x0 = (102 : Int32) then (Q (4 : Int32)) else (if x0 = (105 : Int32) then (Q (5 : Int32)) else (Q (-1 : Int32))))))))
def wX7_readsThing (S : RT) (x1 : Int32) (Q : Int32 → RT → Prop) : Prop := (wX7_next S  (fun (r_1 : Int32) => (wX7_kindOf  r_1 (fun (r_2 : Int32) => (vp_in x1 144 ∧ (∀ S_4 : RT, S_4 = set2 S 15 (x1).toNatClampNeg r_2 → (if (0 : Int32) ≤ (S_4 15 (x1).toNatClampNeg) then (∀ S_6 : RT, S_6 = set2 S_4 30 17 ((S_4 30 17) + (1 : Int32)) → (wX7_readsDigits S_6 (x1 + (1 : Int32)) (1 : Int32) (fun (r_8 : Int32) (S_7 : RT) => (if r_8 = (0 : Int32) then (Q (0 : Int32) S_7) else (wX7_readsDigits S_7 (x1 + (2 : Int32)) (2 : Int32) (fun (r_11 : Int32) (S_10 : RT) => (if r_11 = (0 : Int32) then (Q (0 : Int32) S_10) else (Q (1 : Int32) S_10)))))))) else (Q (0 : Int32) S_4))))))))
def wX7_readsAll (S : RT) (x1 : Int32) (x2 : Int32) (Q : Int32 → RT → Prop) : Prop := (if x1 = (99 : Int32) then (wX7_readsDigits S x2 (1 : Int32) (fun (r_4 : Int32) (S_3 : RT) => (bz r_4 ∧ (Q r_4 S_3)))) else (if x1 = (104 : Int32) then (wX7_readsDigits S x2 (2 : Int32) (fun (r_8 : Int32) (S_7 : RT) => (bz r_8 ∧ (Q r_8 S_7)))) else (if x1 = (116 : Int32) then (wX7_readsThing S x2 (fun (r_12 : Int32) (S_11 : RT) => (bz r_12 ∧ (Q r_12 S_11)))) else (if x1 = (117 : Int32) then (wX7_readsDigits S x2 (1 : Int32) (fun (r_16 : Int32) (S_15 : RT) => (if r_16 = (0 : Int32) then (Q (0 : Int32) S_15) else (wX7_readsDigits S_15 (x2 + (1 : Int32)) (2 : Int32) (fun (r_19 : Int32) (S_18 : RT) => (if r_19 = (0 : Int32) then (Q (0 : Int32) S_18) else (Q (1 : Int32) S_18))))))) else (wX7_readsDigits S x2 (1 : Int32) (fun (r_22 : Int32) (S_21 : RT) => (if r_22 = (0 : Int32) then (Q (0 : Int32) S_21) else (wX7_readsDigits S_21 (x2 + (1 : Int32)) (1 : Int32) (fun (r_25 : Int32) (S_24 : RT) => (if r_25 = (0 : Int32) then (Q (0 : Int32) S_24) else (Q (1 : Int32) S_24)))))))))))
def bX7_statement_43 (Q : Int32 → RT → Prop) (S : RT) (x1 : Int32) : Prop := (vp_in (S 30 18) 48 ∧ (∀ S_2 : RT, S_2 = set2 S 13 ((S 30 18)).toNatClampNeg x1 → (vp_in (S_2 30 18) 48 ∧ (∀ S_4 : RT, S_4 = set2 S_2 14 ((S_2 30 18)).toNatClampNeg (S_2 30 17) → (∀ S_5 : RT, S_5 = set2 S_4 30 17 ((S_4 30 17) + (1 : Int32)) → (wX7_readsAll S_5 x1 ((3 : Int32) * (S_5 30 18)) (fun (r_7 : Int32) (S_6 : RT) => (if r_7 = (0 : Int32) then (Q (0 : Int32) S_6) else (wX7_next S_6  (fun (r_9 : Int32) => (if r_9 = (59 : Int32) then (∀ S_11 : RT, S_11 = set2 S_6 30 17 ((S_6 30 17) + (1 : Int32)) → (Q (1 : Int32) S_11)) else (Q (0 : Int32) S_6))))))))))))
def wX7_statement (S : RT) (Q : Int32 → RT → Prop) : Prop := (wX7_next S  (fun (r_1 : Int32) => (if r_1 = (116 : Int32) then (bX7_statement_43 Q S r_1) else (if r_1 = (114 : Int32) then (bX7_statement_43 Q S r_1) else (if r_1 = (99 : Int32) then (bX7_statement_43 Q S r_1) else (if r_1 = (115 : Int32) then (bX7_statement_43 Q S r_1) else (if r_1 = (117 : Int32) then (bX7_statement_43 Q S r_1) else (if r_1 = (104 : Int32) then (bX7_statement_43 Q S r_1) else (Q (0 : Int32) S)))))))))
def wX7_comesThing (S : RT) (x1 : Int32) (Q : Int32 → RT → Prop) : Prop := (if (S 30 8) = (8 : Int32) then (Q (0 : Int32) S) else (vp_in (x1 + (2 : Int32)) 144 ∧ (if (S 15 ((x1 + (2 : Int32))).toNatClampNeg) ≤ (60 : Int32) then (vp_in x1 144 ∧ (vp_in (S 30 8) 8 ∧ (∀ S_6 : RT, S_6 = set2 S 1 ((S 30 8)).toNatClampNeg (S 15 (x1).toNatClampNeg) → (vp_in (x1 + (1 : Int32)) 144 ∧ (vp_in (S_6 30 8) 8 ∧ (∀ S_9 : RT, S_9 = set2 S_6 2 ((S_6 30 8)).toNatClampNeg (S_6 15 ((x1 + (1 : Int32))).toNatClampNeg) → (vp_in (S_9 30 8) 8 ∧ (∀ S_11 : RT, S_11 = set2 S_9 3 ((S_9 30 8)).toNatClampNeg (S_9 15 ((x1 + (2 : Int32))).toNatClampNeg) → (vp_in (S_11 30 8) 8 ∧ (∀ S_13 : RT, S_13 = set2 S_11 4 ((S_11 30 8)).toNatClampNeg (0 : Int32) → (vp_in (S_13 30 8) 8 ∧ (∀ S_15 : RT, S_15 = set2 S_13 5 ((S_13 30 8)).toNatClampNeg (0 : Int32) → (∀ S_16 : RT, S_16 = set2 S_15 30 8 ((S_15 30 8) + (1 : Int32)) → (Q (1 : Int32) S_16)))))))))))))) else (Q (0 : Int32) S))))
def wX7_adds (S : RT) (x1 : Int32) (x2 : Int32) (Q : RT → Prop) : Prop := (vp_in (S 30 9) 6 ∧ (∀ S_2 : RT, S_2 = set2 S 6 ((S 30 9)).toNatClampNeg x1 → (vp_in (S_2 30 9) 6 ∧ (∀ S_4 : RT, S_4 = set2 S_2 7 ((S_2 30 9)).toNatClampNeg x2 → (∀ S_5 : RT, S_5 = set2 S_4 30 9 ((S_4 30 9) + (1 : Int32)) → (Q S_5))))))
def wX7_comesRope (S : RT) (x1 : Int32) (x2 : Int32) (Q : Int32 → RT → Prop) : Prop := (wX7_areTwo S x1 x2 (fun (r_1 : Int32) => (if r_1 = (0 : Int32) then (Q (0 : Int32) S) else (if (S 30 9) = (6 : Int32) then (Q (0 : Int32) S) else (wX7_adds S x1 x2 (fun (S_4 : RT) => (Q (1 : Int32) S_4)))))))
def bX7_heftAt_67 (S : RT) (Q : Int32 → Prop) (x1 : Int32) (x2 : Int32) (x3 : Int32) (x4 : Int32) (t0 : Int32) : Prop := (vp_in x1 8 ∧ (∀ s_2 : Int32, s_2 = (S 1 (x1).toNatClampNeg) → (if s_2 = (1 : Int32) then (Q x4) else (if s_2 = (2 : Int32) then (Q t0) else (if s_2 = (3 : Int32) then (if (x2 - x2 / (2 : Int32) * (2 : Int32)) = (1 : Int32) then (Q (t0 + (5 : Int32))) else (Q (t0 + (0 : Int32)))) else (if s_2 = (4 : Int32) then (Q (x3 / (2 : Int32))) else (if s_2 = (5 : Int32) then (Q ((x3 + (20 : Int32)) + (S 2 (x1).toNatClampNeg))) else (Q x3))))))))
def bX7_heftAt_65 (S : RT) (Q : Int32 → Prop) (x1 : Int32) (x2 : Int32) (x3 : Int32) (x4 : Int32) : Prop := (bX7_heftAt_67 S Q x1 x2 x3 x4 x4)
def bX7_heftAt_41 (S : RT) (Q : Int32 → Prop) (x1 : Int32) (x2 : Int32) (x3 : Int32) (t0 : Int32) (t1 : Int32) : Prop := (∀ x4_1 : Int32, x4_1 = (t0 + t1) → (if (6 : Int32) ≤ (x2 - x2 / (24 : Int32) * (24 : Int32)) then (bX7_heftAt_65 S Q x1 x2 x3 x4_1) else (if x4_1 ≤ (0 : Int32) then (bX7_heftAt_65 S Q x1 x2 x3 x4_1) else (bX7_heftAt_67 S Q x1 x2 x3 x4_1 (x4_1 - (1 : Int32))))))
def wX7_heftAt (S : RT) (x1 : Int32) (x2 : Int32) (Q : Int32 → Prop) : Prop := (vp_in x1 8 ∧ (∀ x3_2 : Int32, x3_2 = ((S 3 (x1).toNatClampNeg) + ((2 : Int32) * (S 4 (x1).toNatClampNeg))) → (wX7_isIn  (x2 - x2 / (24 : Int32) * (24 : Int32)) (12 : Int32) (17 : Int32) (fun (r_3 : Int32) => (if r_3 = (0 : Int32) then (bX7_heftAt_41 S Q x1 x2 x3_2 x3_2 (0 : Int32)) else (bX7_heftAt_41 S Q x1 x2 x3_2 x3_2 (S 2 (x1).toNatClampNeg)))))))
def wX7_heft (S : RT) (x1 : Int32) (Q : Int32 → Prop) : Prop := (wX7_heftAt S x1 (S 30 10) (fun (r_1 : Int32) => (Q r_1)))
def wX7_holdsTo (S : RT) (x1 : Int32) (Q : Int32 → Prop) : Prop := (vp_in x1 6 ∧ (wX7_heft S (S 6 (x1).toNatClampNeg) (fun (r_2 : Int32) => (wX7_heft S (S 7 (x1).toNatClampNeg) (fun (r_3 : Int32) => (∀ x2_4 : Int32, x2_4 = (r_2 - r_3) → (if x2_4 ≤ (0 : Int32) then (if (0 : Int32) ≤ x2_4 then (Q (-9 : Int32)) else (Q (S 7 (x1).toNatClampNeg))) else (Q (S 6 (x1).toNatClampNeg)))))))))
def bX7_pulls_64 (Q : RT → Prop) (S : RT) (x2 : Int32) (x3 : Int32) : Prop := (vp_in x2 8 ∧ (wX7_held  ((S 5 (x2).toNatClampNeg) - (1 : Int32)) (0 : Int32) (20 : Int32) (fun (r_2 : Int32) => (∀ S_3 : RT, S_3 = set2 S 5 (x2).toNatClampNeg r_2 → (vp_in x3 8 ∧ (wX7_held  ((S_3 5 (x3).toNatClampNeg) + (1 : Int32)) (0 : Int32) (20 : Int32) (fun (r_5 : Int32) => (∀ S_6 : RT, S_6 = set2 S_3 5 (x3).toNatClampNeg r_5 → (Q S_6)))))))))
def bX7_pulls_43 (Q : RT → Prop) (S : RT) (x2 : Int32) (x3 : Int32) : Prop := (vp_in x2 8 ∧ (if (S 5 (x2).toNatClampNeg) = (0 : Int32) then (vp_in x3 8 ∧ (if (S 5 (x3).toNatClampNeg) = (20 : Int32) then (Q S) else (bX7_pulls_64 Q S x2 x3))) else (bX7_pulls_64 Q S x2 x3)))
def wX7_pulls (S : RT) (x1 : Int32) (Q : RT → Prop) : Prop := (wX7_holdsTo S x1 (fun (r_1 : Int32) => (if (0 : Int32) ≤ r_1 then (vp_in x1 6 ∧ (∀ x3_4 : Int32, x3_4 = (((S 6 (x1).toNatClampNeg) + (S 7 (x1).toNatClampNeg)) - r_1) → (if x1 = (S 30 11) then (bX7_pulls_43 Q S x3_4 r_1) else (bX7_pulls_43 Q S r_1 x3_4)))) else (Q S))))
def bX7_goesHour_12 (Q : RT → Prop) : Nat → RT → Int32 → Prop
  | 0, _, _ => False
  | n + 1, S, x1 => (if (S 30 9) ≤ x1 then (Q S) else (wX7_pulls S x1 (fun (S_2 : RT) => (∀ x1_3 : Int32, x1_3 = (x1 + (1 : Int32)) → (bX7_goesHour_12 Q n S_2 x1_3)))))
def wX7_goesHour (S : RT) (Q : RT → Prop) : Prop := (∀ S_1 : RT, S_1 = set2 S 30 10 ((S 30 10) + (1 : Int32)) → (∃ j : Nat, bX7_goesHour_12 Q j S_1 (0 : Int32)))
def bX7_goes_2 (Q : RT → Prop) : Nat → RT → Int32 → Int32 → Prop
  | 0, _, _, _ => False
  | n + 1, S, x1, x2 => (if x1 ≤ x2 then (Q S) else (wX7_goesHour S  (fun (S_2 : RT) => (∀ x2_3 : Int32, x2_3 = (x2 + (1 : Int32)) → (bX7_goes_2 Q n S_2 x1 x2_3)))))
def wX7_goes (S : RT) (x1 : Int32) (Q : RT → Prop) : Prop := (∃ j : Nat, bX7_goes_2 Q j S x1 (0 : Int32))
def wX7_comesHours (S : RT) (x1 : Int32) (Q : Int32 → RT → Prop) : Prop := (wX7_isIn  x1 (1 : Int32) (60 : Int32) (fun (r_1 : Int32) => (if r_1 = (0 : Int32) then (Q (0 : Int32) S) else (if ((S 30 10) + x1) ≤ (999 : Int32) then (wX7_goes S x1 (fun (S_4 : RT) => (Q (1 : Int32) S_4))) else (Q (0 : Int32) S)))))
def bX7_comesOne_22 (Q : Int32 → RT → Prop) (S : RT) (x1 : Int32) (x2 : Int32) (x3 : Int32) : Prop := (if x1 = (117 : Int32) then (vp_in x2 8 ∧ (∀ S_5 : RT, S_5 = set2 S 5 (x2).toNatClampNeg x3 → (Q (1 : Int32) S_5))) else (vp_in x2 8 ∧ (∀ S_3 : RT, S_3 = set2 S 4 (x2).toNatClampNeg x3 → (Q (1 : Int32) S_3))))
def wX7_comesOne (S : RT) (x1 : Int32) (x2 : Int32) (x3 : Int32) (Q : Int32 → RT → Prop) : Prop := (wX7_isThing S x2 (fun (r_1 : Int32) => (if r_1 = (0 : Int32) then (Q (0 : Int32) S) else (if x1 = (117 : Int32) then (if x3 ≤ (20 : Int32) then (bX7_comesOne_22 Q S x1 x2 x3) else (Q (0 : Int32) S)) else (bX7_comesOne_22 Q S x1 x2 x3)))))
def bX7_drops_12 (Q : RT → Prop) : Nat → RT → Int32 → Prop
  | 0, _, _ => False
  | n + 1, S, x2 => (if (S 30 9) ≤ x2 then (Q S) else (vp_in (x2 + (1 : Int32)) 6 ∧ (vp_in x2 6 ∧ (∀ S_4 : RT, S_4 = set2 S 6 (x2).toNatClampNeg (S 6 ((x2 + (1 : Int32))).toNatClampNeg) → (∀ S_5 : RT, S_5 = set2 S_4 7 (x2).toNatClampNeg (S_4 7 ((x2 + (1 : Int32))).toNatClampNeg) → (∀ x2_6 : Int32, x2_6 = (x2 + (1 : Int32)) → (bX7_drops_12 Q n S_5 x2_6)))))))
def wX7_drops (S : RT) (x1 : Int32) (Q : RT → Prop) : Prop := (∀ S_1 : RT, S_1 = set2 S 30 9 ((S 30 9) - (1 : Int32)) → (∃ j : Nat, bX7_drops_12 Q j S_1 x1))
def wX7_comes (S : RT) (x1 : Int32) (Q : Int32 → RT → Prop) : Prop := (∀ x2_1 : Int32, x2_1 = ((3 : Int32) * x1) → (vp_in x1 48 ∧ (∀ s_3 : Int32, s_3 = (S 13 (x1).toNatClampNeg) → (if s_3 = (99 : Int32) then (vp_in x2_1 144 ∧ (wX7_isRope S (S 15 (x2_1).toNatClampNeg) (fun (r_6 : Int32) => (if r_6 = (0 : Int32) then (Q (0 : Int32) S) else (wX7_drops S (S 15 (x2_1).toNatClampNeg) (fun (S_8 : RT) => (Q (1 : Int32) S_8))))))) else (if s_3 = (104 : Int32) then (vp_in x2_1 144 ∧ (wX7_comesHours S (S 15 (x2_1).toNatClampNeg) (fun (r_12 : Int32) (S_11 : RT) => (bz r_12 ∧ (Q r_12 S_11))))) else (if s_3 = (114 : Int32) then (vp_in x2_1 144 ∧ (vp_in (x2_1 + (1 : Int32)) 144 ∧ (wX7_comesRope S (S 15 (x2_1).toNatClampNeg) (S 15 ((x2_1 + (1 : Int32))).toNatClampNeg) (fun (r_18 : Int32) (S_17 : RT) => (bz r_18 ∧ (Q r_18 S_17)))))) else (if s_3 = (116 : Int32) then (wX7_comesThing S x2_1 (fun (r_22 : Int32) (S_21 : RT) => (bz r_22 ∧ (Q r_22 S_21)))) else (vp_in x2_1 144 ∧ (vp_in (x2_1 + (1 : Int32)) 144 ∧ (wX7_comesOne S (S 13 (x1).toNatClampNeg) (S 15 (x2_1).toNatClampNeg) (S 15 ((x2_1 + (1 : Int32))).toNatClampNeg) (fun (r_27 : Int32) (S_26 : RT) => (bz r_27 ∧ (Q r_27 S_26)))))))))))))
def bX7_passes_1_42 (K2 : RT → Int32 → Prop) (Q : RT → Prop) (S : RT) (x2 : Int32) : Prop := (∀ S_1 : RT, S_1 = set2 S 30 22 ((S 30 22) + (1 : Int32)) → (∀ x2_2 : Int32, x2_2 = (x2 + (1 : Int32)) → (K2 S_1 x2_2)))
def bX7_passes_1_2 (Q : RT → Prop) : Nat → RT → Int32 → Prop
  | 0, _, _ => False
  | n + 1, S, x2 => (if (8 : Int32) ≤ x2 then (Q S) else (if (S 30 21) = (0 : Int32) then (vp_in (S 30 22) 165 ∧ (vp_in x2 8 ∧ (∀ S_5 : RT, S_5 = set2 S 1 (x2).toNatClampNeg (S 19 ((S 30 22)).toNatClampNeg) → (bX7_passes_1_42 (fun (S_ : RT) (x2_ : Int32) => bX7_passes_1_2 Q n S_ x2_) Q S_5 x2)))) else (vp_in x2 8 ∧ (vp_in (S 30 22) 165 ∧ (∀ S_8 : RT, S_8 = set2 S 19 ((S 30 22)).toNatClampNeg (S 1 (x2).toNatClampNeg) → (bX7_passes_1_42 (fun (S_ : RT) (x2_ : Int32) => bX7_passes_1_2 Q n S_ x2_) Q S_8 x2))))))
def wX7_passes_1 (S : RT) (Q : RT → Prop) : Prop := (∃ j : Nat, bX7_passes_1_2 Q j S (0 : Int32))
def bX7_passes_2_42 (K2 : RT → Int32 → Prop) (Q : RT → Prop) (S : RT) (x2 : Int32) : Prop := (∀ S_1 : RT, S_1 = set2 S 30 22 ((S 30 22) + (1 : Int32)) → (∀ x2_2 : Int32, x2_2 = (x2 + (1 : Int32)) → (K2 S_1 x2_2)))
def bX7_passes_2_2 (Q : RT → Prop) : Nat → RT → Int32 → Prop
  | 0, _, _ => False
  | n + 1, S, x2 => (if (8 : Int32) ≤ x2 then (Q S) else (if (S 30 21) = (0 : Int32) then (vp_in (S 30 22) 165 ∧ (vp_in x2 8 ∧ (∀ S_5 : RT, S_5 = set2 S 2 (x2).toNatClampNeg (S 19 ((S 30 22)).toNatClampNeg) → (bX7_passes_2_42 (fun (S_ : RT) (x2_ : Int32) => bX7_passes_2_2 Q n S_ x2_) Q S_5 x2)))) else (vp_in x2 8 ∧ (vp_in (S 30 22) 165 ∧ (∀ S_8 : RT, S_8 = set2 S 19 ((S 30 22)).toNatClampNeg (S 2 (x2).toNatClampNeg) → (bX7_passes_2_42 (fun (S_ : RT) (x2_ : Int32) => bX7_passes_2_2 Q n S_ x2_) Q S_8 x2))))))
def wX7_passes_2 (S : RT) (Q : RT → Prop) : Prop := (∃ j : Nat, bX7_passes_2_2 Q j S (0 : Int32))
def bX7_passes_3_42 (K2 : RT → Int32 → Prop) (Q : RT → Prop) (S : RT) (x2 : Int32) : Prop := (∀ S_1 : RT, S_1 = set2 S 30 22 ((S 30 22) + (1 : Int32)) → (∀ x2_2 : Int32, x2_2 = (x2 + (1 : Int32)) → (K2 S_1 x2_2)))
def bX7_passes_3_2 (Q : RT → Prop) : Nat → RT → Int32 → Prop
  | 0, _, _ => False
  | n + 1, S, x2 => (if (8 : Int32) ≤ x2 then (Q S) else (if (S 30 21) = (0 : Int32) then (vp_in (S 30 22) 165 ∧ (vp_in x2 8 ∧ (∀ S_5 : RT, S_5 = set2 S 3 (x2).toNatClampNeg (S 19 ((S 30 22)).toNatClampNeg) → (bX7_passes_3_42 (fun (S_ : RT) (x2_ : Int32) => bX7_passes_3_2 Q n S_ x2_) Q S_5 x2)))) else (vp_in x2 8 ∧ (vp_in (S 30 22) 165 ∧ (∀ S_8 : RT, S_8 = set2 S 19 ((S 30 22)).toNatClampNeg (S 3 (x2).toNatClampNeg) → (bX7_passes_3_42 (fun (S_ : RT) (x2_ : Int32) => bX7_passes_3_2 Q n S_ x2_) Q S_8 x2))))))
def wX7_passes_3 (S : RT) (Q : RT → Prop) : Prop := (∃ j : Nat, bX7_passes_3_2 Q j S (0 : Int32))
def bX7_passes_4_42 (K2 : RT → Int32 → Prop) (Q : RT → Prop) (S : RT) (x2 : Int32) : Prop := (∀ S_1 : RT, S_1 = set2 S 30 22 ((S 30 22) + (1 : Int32)) → (∀ x2_2 : Int32, x2_2 = (x2 + (1 : Int32)) → (K2 S_1 x2_2)))
def bX7_passes_4_2 (Q : RT → Prop) : Nat → RT → Int32 → Prop
  | 0, _, _ => False
  | n + 1, S, x2 => (if (8 : Int32) ≤ x2 then (Q S) else (if (S 30 21) = (0 : Int32) then (vp_in (S 30 22) 165 ∧ (vp_in x2 8 ∧ (∀ S_5 : RT, S_5 = set2 S 4 (x2).toNatClampNeg (S 19 ((S 30 22)).toNatClampNeg) → (bX7_passes_4_42 (fun (S_ : RT) (x2_ : Int32) => bX7_passes_4_2 Q n S_ x2_) Q S_5 x2)))) else (vp_in x2 8 ∧ (vp_in (S 30 22) 165 ∧ (∀ S_8 : RT, S_8 = set2 S 19 ((S 30 22)).toNatClampNeg (S 4 (x2).toNatClampNeg) → (bX7_passes_4_42 (fun (S_ : RT) (x2_ : Int32) => bX7_passes_4_2 Q n S_ x2_) Q S_8 x2))))))
def wX7_passes_4 (S : RT) (Q : RT → Prop) : Prop := (∃ j : Nat, bX7_passes_4_2 Q j S (0 : Int32))
def bX7_passes_5_42 (K2 : RT → Int32 → Prop) (Q : RT → Prop) (S : RT) (x2 : Int32) : Prop := (∀ S_1 : RT, S_1 = set2 S 30 22 ((S 30 22) + (1 : Int32)) → (∀ x2_2 : Int32, x2_2 = (x2 + (1 : Int32)) → (K2 S_1 x2_2)))
def bX7_passes_5_2 (Q : RT → Prop) : Nat → RT → Int32 → Prop
  | 0, _, _ => False
  | n + 1, S, x2 => (if (8 : Int32) ≤ x2 then (Q S) else (if (S 30 21) = (0 : Int32) then (vp_in (S 30 22) 165 ∧ (vp_in x2 8 ∧ (∀ S_5 : RT, S_5 = set2 S 5 (x2).toNatClampNeg (S 19 ((S 30 22)).toNatClampNeg) → (bX7_passes_5_42 (fun (S_ : RT) (x2_ : Int32) => bX7_passes_5_2 Q n S_ x2_) Q S_5 x2)))) else (vp_in x2 8 ∧ (vp_in (S 30 22) 165 ∧ (∀ S_8 : RT, S_8 = set2 S 19 ((S 30 22)).toNatClampNeg (S 5 (x2).toNatClampNeg) → (bX7_passes_5_42 (fun (S_ : RT) (x2_ : Int32) => bX7_passes_5_2 Q n S_ x2_) Q S_8 x2))))))
def wX7_passes_5 (S : RT) (Q : RT → Prop) : Prop := (∃ j : Nat, bX7_passes_5_2 Q j S (0 : Int32))
def bX7_passes_6_42 (K2 : RT → Int32 → Prop) (Q : RT → Prop) (S : RT) (x2 : Int32) : Prop := (∀ S_1 : RT, S_1 = set2 S 30 22 ((S 30 22) + (1 : Int32)) → (∀ x2_2 : Int32, x2_2 = (x2 + (1 : Int32)) → (K2 S_1 x2_2)))
def bX7_passes_6_2 (Q : RT → Prop) : Nat → RT → Int32 → Prop
  | 0, _, _ => False
  | n + 1, S, x2 => (if (6 : Int32) ≤ x2 then (Q S) else (if (S 30 21) = (0 : Int32) then (vp_in (S 30 22) 165 ∧ (vp_in x2 6 ∧ (∀ S_5 : RT, S_5 = set2 S 6 (x2).toNatClampNeg (S 19 ((S 30 22)).toNatClampNeg) → (bX7_passes_6_42 (fun (S_ : RT) (x2_ : Int32) => bX7_passes_6_2 Q n S_ x2_) Q S_5 x2)))) else (vp_in x2 6 ∧ (vp_in (S 30 22) 165 ∧ (∀ S_8 : RT, S_8 = set2 S 19 ((S 30 22)).toNatClampNeg (S 6 (x2).toNatClampNeg) → (bX7_passes_6_42 (fun (S_ : RT) (x2_ : Int32) => bX7_passes_6_2 Q n S_ x2_) Q S_8 x2))))))
def wX7_passes_6 (S : RT) (Q : RT → Prop) : Prop := (∃ j : Nat, bX7_passes_6_2 Q j S (0 : Int32))
def bX7_passes_7_42 (K2 : RT → Int32 → Prop) (Q : RT → Prop) (S : RT) (x2 : Int32) : Prop := (∀ S_1 : RT, S_1 = set2 S 30 22 ((S 30 22) + (1 : Int32)) → (∀ x2_2 : Int32, x2_2 = (x2 + (1 : Int32)) → (K2 S_1 x2_2)))
def bX7_passes_7_2 (Q : RT → Prop) : Nat → RT → Int32 → Prop
  | 0, _, _ => False
  | n + 1, S, x2 => (if (6 : Int32) ≤ x2 then (Q S) else (if (S 30 21) = (0 : Int32) then (vp_in (S 30 22) 165 ∧ (vp_in x2 6 ∧ (∀ S_5 : RT, S_5 = set2 S 7 (x2).toNatClampNeg (S 19 ((S 30 22)).toNatClampNeg) → (bX7_passes_7_42 (fun (S_ : RT) (x2_ : Int32) => bX7_passes_7_2 Q n S_ x2_) Q S_5 x2)))) else (vp_in x2 6 ∧ (vp_in (S 30 22) 165 ∧ (∀ S_8 : RT, S_8 = set2 S 19 ((S 30 22)).toNatClampNeg (S 7 (x2).toNatClampNeg) → (bX7_passes_7_42 (fun (S_ : RT) (x2_ : Int32) => bX7_passes_7_2 Q n S_ x2_) Q S_8 x2))))))
def wX7_passes_7 (S : RT) (Q : RT → Prop) : Prop := (∃ j : Nat, bX7_passes_7_2 Q j S (0 : Int32))
def bX7_passOne_38 (Q : Int32 → RT → Prop) (S : RT) (x2 : Int32) : Prop := (∀ S_1 : RT, S_1 = set2 S 30 22 ((S 30 22) + (1 : Int32)) → (Q x2 S_1))
def bX7_passOne_20 (Q : Int32 → RT → Prop) (S : RT) (x1 : Int32) (t0 : Int32) : Prop := (if (S 30 21) = (0 : Int32) then (bX7_passOne_38 Q S t0) else (vp_in (S 30 22) 165 ∧ (∀ S_3 : RT, S_3 = set2 S 19 ((S 30 22)).toNatClampNeg x1 → (bX7_passOne_38 Q S_3 t0))))
def wX7_passOne (S : RT) (x1 : Int32) (Q : Int32 → RT → Prop) : Prop := (if (S 30 21) = (0 : Int32) then (vp_in (S 30 22) 165 ∧ (bX7_passOne_20 Q S x1 (S 19 ((S 30 22)).toNatClampNeg))) else (bX7_passOne_20 Q S x1 x1))
def wX7_passesAll (S : RT) (x1 : Int32) (x2 : Int32) (Q : RT → Prop) : Prop := (∀ S_1 : RT, S_1 = set2 S 30 22 ((55 : Int32) * x1) → (bz x2 ∧ (∀ S_3 : RT, S_3 = set2 S_1 30 21 x2 → (wX7_passes_1 S_3  (fun (S_4 : RT) => (wX7_passes_2 S_4  (fun (S_5 : RT) => (wX7_passes_3 S_5  (fun (S_6 : RT) => (wX7_passes_4 S_6  (fun (S_7 : RT) => (wX7_passes_5 S_7  (fun (S_8 : RT) => (wX7_passes_6 S_8  (fun (S_9 : RT) => (wX7_passes_7 S_9  (fun (S_10 : RT) => (wX7_passOne S_10 (S_10 30 8) (fun (r_12 : Int32) (S_11 : RT) => (∀ S_13 : RT, S_13 = set2 S_11 30 8 r_12 → (wX7_passOne S_13 (S_13 30 9) (fun (r_15 : Int32) (S_14 : RT) => (∀ S_16 : RT, S_16 = set2 S_14 30 9 r_15 → (wX7_passOne S_16 (S_16 30 10) (fun (r_18 : Int32) (S_17 : RT) => (∀ S_19 : RT, S_19 = set2 S_17 30 10 r_18 → (Q S_19)))))))))))))))))))))))))))
def bX7_port_53 (K12 : RT → Int32 → Prop) (Q : Int32 → RT → Prop) (S : RT) (x1 : Int32) (t1 : Int32) (t2 : Int32) : Prop := (∀ S_1 : RT, S_1 = set2 S 30 18 (t1 + t2) → (K12 S_1 x1))
def bX7_port_34 (K12 : RT → Int32 → Prop) (Q : Int32 → RT → Prop) (S : RT) : Prop := (wX7_statement S  (fun (r_2 : Int32) (S_1 : RT) => (if r_2 = (0 : Int32) then (bX7_port_53 K12 Q S_1 r_2 (S_1 30 18) (0 : Int32)) else (bX7_port_53 K12 Q S_1 r_2 (S_1 30 18) (1 : Int32)))))
def bX7_port_86 (Q : Int32 → RT → Prop) : Nat → RT → Int32 → Prop
  | 0, _, _ => False
  | n + 1, S, x2 => (if (S 30 18) ≤ x2 then (Q (S 30 18) S) else (wX7_comes S x2 (fun (r_3 : Int32) (S_2 : RT) => (if r_3 = (0 : Int32) then (wX7_passesAll S_2 (1 : Int32) (0 : Int32) (fun (S_5 : RT) => (vp_in x2 48 ∧ (Q ((-2000 : Int32) - (S_5 14 (x2).toNatClampNeg)) S_5)))) else (∀ x2_7 : Int32, x2_7 = (x2 + (1 : Int32)) → (bX7_port_86 Q n S_2 x2_7))))))
def bX7_port_60 (Q : Int32 → RT → Prop) (S : RT) (x1 : Int32) : Prop := (∀ S_1 : RT, S_1 = set2 S 30 16 (0 : Int32) → (if x1 = (0 : Int32) then (Q ((-1000 : Int32) - (S_1 30 17)) S_1) else (wX7_passesAll S_1 (1 : Int32) (1 : Int32) (fun (S_3 : RT) => (∃ j : Nat, bX7_port_86 Q j S_3 (0 : Int32))))))
def bX7_port_12 (Q : Int32 → RT → Prop) : Nat → RT → Int32 → Prop
  | 0, _, _ => False
  | n + 1, S, x1 => (if x1 = (0 : Int32) then (bX7_port_60 Q S x1) else (if (S 30 17) < (S 30 16) then (bX7_port_34 (fun (S_ : RT) (x1_ : Int32) => bX7_port_12 Q n S_ x1_) Q S) else (if (S 30 18) = (0 : Int32) then (bX7_port_34 (fun (S_ : RT) (x1_ : Int32) => bX7_port_12 Q n S_ x1_) Q S) else (bX7_port_60 Q S x1))))
def wX7_port (S : RT) (Q : Int32 → RT → Prop) : Prop := (∀ S_1 : RT, S_1 = set2 S 30 17 (0 : Int32) → (∀ S_2 : RT, S_2 = set2 S_1 30 18 (0 : Int32) → (∃ j : Nat, bX7_port_12 Q j S_2 (1 : Int32))))
def wX7_thinks (S : RT) (Q : RT → Prop) : Prop := (wX7_passesAll S (2 : Int32) (1 : Int32) (fun (S_1 : RT) => (Q S_1)))
def wX7_forgets (S : RT) (Q : RT → Prop) : Prop := (wX7_passesAll S (2 : Int32) (0 : Int32) (fun (S_1 : RT) => (Q S_1)))
def wX7_changesOn (S : RT) (Q : RT → Prop) : Prop := (wX7_passesAll S (1 : Int32) (1 : Int32) (fun (S_1 : RT) => (Q S_1)))
def wX7_changesBack (S : RT) (Q : RT → Prop) : Prop := (wX7_passesAll S (1 : Int32) (0 : Int32) (fun (S_1 : RT) => (Q S_1)))
def wX7_image (S : RT) (Q : Int32 → RT → Prop) : Prop := (∀ S_1 : RT, S_1 = set2 S 30 20 (1 : Int32) → (wX7_passesAll S_1 (0 : Int32) (1 : Int32) (fun (S_2 : RT) => (Q (S_2 30 10) S_2))))
def wX7_on (S : RT) (Q : Int32 → RT → Prop) : Prop := (if (S 30 20) = (0 : Int32) then (wX7_no S (-3 : Int32) (fun (r_4 : Int32) (S_3 : RT) => (Q r_4 S_3))) else (wX7_passesAll S (0 : Int32) (0 : Int32) (fun (S_2 : RT) => (Q (S_2 30 10) S_2))))
def bX7_allHigh_4 (S : RT) (Q : Int32 → Prop) : Nat → Int32 → Int32 → Prop
  | 0, _, _ => False
  | n + 1, x1, x2 => (if (S 30 8) ≤ x2 then (Q x1) else (vp_in x2 8 ∧ (∀ x1_3 : Int32, x1_3 = (x1 + (S 5 (x2).toNatClampNeg)) → (∀ x2_4 : Int32, x2_4 = (x2 + (1 : Int32)) → (bX7_allHigh_4 S Q n x1_3 x2_4)))))
def wX7_allHigh (S : RT) (Q : Int32 → Prop) : Prop := (∃ j : Nat, bX7_allHigh_4 S Q j (0 : Int32) (0 : Int32))
def wX7_thing (S : RT) (x1 : Int32) (x2 : Int32) (Q : Int32 → RT → Prop) : Prop := (wX7_isThing S x1 (fun (r_1 : Int32) => (if r_1 = (0 : Int32) then (wX7_no S (-1 : Int32) (fun (r_19 : Int32) (S_18 : RT) => (Q r_19 S_18))) else (if x2 = (0 : Int32) then (vp_in x1 8 ∧ (Q (S 1 (x1).toNatClampNeg) S)) else (if x2 = (1 : Int32) then (vp_in x1 8 ∧ (Q (S 2 (x1).toNatClampNeg) S)) else (if x2 = (2 : Int32) then (vp_in x1 8 ∧ (Q (S 3 (x1).toNatClampNeg) S)) else (if x2 = (3 : Int32) then (vp_in x1 8 ∧ (Q (S 4 (x1).toNatClampNeg) S)) else (if x2 = (4 : Int32) then (vp_in x1 8 ∧ (Q (S 5 (x1).toNatClampNeg) S)) else (if x2 = (5 : Int32) then (wX7_heft S x1 (fun (r_15 : Int32) => (Q r_15 S))) else (wX7_no S (-2 : Int32) (fun (r_17 : Int32) (S_16 : RT) => (Q r_17 S_16))))))))))))
def wX7_rope (S : RT) (x1 : Int32) (x2 : Int32) (Q : Int32 → RT → Prop) : Prop := (wX7_isRope S x1 (fun (r_1 : Int32) => (if r_1 = (0 : Int32) then (wX7_no S (-1 : Int32) (fun (r_12 : Int32) (S_11 : RT) => (Q r_12 S_11))) else (if x2 = (0 : Int32) then (vp_in x1 6 ∧ (Q (S 6 (x1).toNatClampNeg) S)) else (if x2 = (1 : Int32) then (vp_in x1 6 ∧ (Q (S 7 (x1).toNatClampNeg) S)) else (if x2 = (2 : Int32) then (wX7_holdsTo S x1 (fun (r_8 : Int32) => (Q r_8 S))) else (wX7_no S (-2 : Int32) (fun (r_7 : Int32) (S_6 : RT) => (Q r_7 S_6)))))))))
def bX7_ties_28 (Q : Int32 → RT → Prop) (S : RT) (x1 : Int32) (x2 : Int32) (t0 : Int32) : Prop := (if t0 = (0 : Int32) then (wX7_adds S x1 x2 (fun (S_2 : RT) => (Q ((S_2 30 9) - (1 : Int32)) S_2))) else (wX7_no S t0 (fun (r_4 : Int32) (S_3 : RT) => (Q r_4 S_3))))
def wX7_ties (S : RT) (x1 : Int32) (x2 : Int32) (Q : Int32 → RT → Prop) : Prop := (wX7_areTwo S x1 x2 (fun (r_1 : Int32) => (if r_1 = (0 : Int32) then (bX7_ties_28 Q S x1 x2 (-1 : Int32)) else (if (S 30 9) = (6 : Int32) then (bX7_ties_28 Q S x1 x2 (-6 : Int32)) else (bX7_ties_28 Q S x1 x2 (0 : Int32))))))
def wX7_cuts (S : RT) (x1 : Int32) (Q : Int32 → RT → Prop) : Prop := (wX7_isRope S x1 (fun (r_1 : Int32) => (if r_1 = (0 : Int32) then (wX7_no S (-1 : Int32) (fun (r_5 : Int32) (S_4 : RT) => (Q r_5 S_4))) else (wX7_drops S x1 (fun (S_3 : RT) => (Q (S_3 30 9) S_3))))))
def bX7_becomes_3_19 (Q : Int32 → RT → Prop) (S : RT) (x2 : Int32) (x3 : Int32) (t0 : Int32) : Prop := (if t0 = (0 : Int32) then (vp_in x2 8 ∧ (∀ x6_3 : Int32, x6_3 = (S 3 (x2).toNatClampNeg) → (∀ S_4 : RT, S_4 = set2 S 3 (x2).toNatClampNeg x3 → (Q x6_3 S_4)))) else (wX7_no S t0 (fun (r_6 : Int32) (S_5 : RT) => (Q r_6 S_5))))
def wX7_becomes_3 (S : RT) (x2 : Int32) (x3 : Int32) (x4 : Int32) (Q : Int32 → RT → Prop) : Prop := (wX7_isThing S x2 (fun (r_1 : Int32) => (if r_1 = (0 : Int32) then (bX7_becomes_3_19 Q S x2 x3 (-1 : Int32)) else (wX7_bound  x3 (0 : Int32) x4 (fun (r_3 : Int32) => (bX7_becomes_3_19 Q S x2 x3 r_3))))))
def bX7_becomes_4_19 (Q : Int32 → RT → Prop) (S : RT) (x2 : Int32) (x3 : Int32) (t0 : Int32) : Prop := (if t0 = (0 : Int32) then (vp_in x2 8 ∧ (∀ x6_3 : Int32, x6_3 = (S 4 (x2).toNatClampNeg) → (∀ S_4 : RT, S_4 = set2 S 4 (x2).toNatClampNeg x3 → (Q x6_3 S_4)))) else (wX7_no S t0 (fun (r_6 : Int32) (S_5 : RT) => (Q r_6 S_5))))
def wX7_becomes_4 (S : RT) (x2 : Int32) (x3 : Int32) (x4 : Int32) (Q : Int32 → RT → Prop) : Prop := (wX7_isThing S x2 (fun (r_1 : Int32) => (if r_1 = (0 : Int32) then (bX7_becomes_4_19 Q S x2 x3 (-1 : Int32)) else (wX7_bound  x3 (0 : Int32) x4 (fun (r_3 : Int32) => (bX7_becomes_4_19 Q S x2 x3 r_3))))))
def bX7_becomes_5_19 (Q : Int32 → RT → Prop) (S : RT) (x2 : Int32) (x3 : Int32) (t0 : Int32) : Prop := (if t0 = (0 : Int32) then (vp_in x2 8 ∧ (∀ x6_3 : Int32, x6_3 = (S 5 (x2).toNatClampNeg) → (∀ S_4 : RT, S_4 = set2 S 5 (x2).toNatClampNeg x3 → (Q x6_3 S_4)))) else (wX7_no S t0 (fun (r_6 : Int32) (S_5 : RT) => (Q r_6 S_5))))
def wX7_becomes_5 (S : RT) (x2 : Int32) (x3 : Int32) (x4 : Int32) (Q : Int32 → RT → Prop) : Prop := (wX7_isThing S x2 (fun (r_1 : Int32) => (if r_1 = (0 : Int32) then (bX7_becomes_5_19 Q S x2 x3 (-1 : Int32)) else (wX7_bound  x3 (0 : Int32) x4 (fun (r_3 : Int32) => (bX7_becomes_5_19 Q S x2 x3 r_3))))))
def wX7_stones (S : RT) (x1 : Int32) (x2 : Int32) (Q : Int32 → RT → Prop) : Prop := (wX7_becomes_4 S x1 x2 (9 : Int32) (fun (r_2 : Int32) (S_1 : RT) => (Q r_2 S_1)))
def wX7_weighs (S : RT) (x1 : Int32) (x2 : Int32) (Q : Int32 → RT → Prop) : Prop := (wX7_becomes_3 S x1 x2 (60 : Int32) (fun (r_2 : Int32) (S_1 : RT) => (Q r_2 S_1)))
def wX7_lifts (S : RT) (x1 : Int32) (x2 : Int32) (Q : Int32 → RT → Prop) : Prop := (wX7_becomes_5 S x1 x2 (20 : Int32) (fun (r_2 : Int32) (S_1 : RT) => (Q r_2 S_1)))
def bX7_turn_33 (Q : Int32 → RT → Prop) (S : RT) (x1 : Int32) (x2 : Int32) (x3 : Int32) (t0 : Int32) : Prop := (if t0 = (0 : Int32) then (vp_in x1 8 ∧ (∀ x5_3 : Int32, x5_3 = (((10 : Int32) * (S 1 (x1).toNatClampNeg)) + (S 2 (x1).toNatClampNeg)) → (∀ S_4 : RT, S_4 = set2 S 1 (x1).toNatClampNeg x2 → (∀ S_5 : RT, S_5 = set2 S_4 2 (x1).toNatClampNeg x3 → (Q x5_3 S_5))))) else (wX7_no S t0 (fun (r_7 : Int32) (S_6 : RT) => (Q r_7 S_6))))
def wX7_turn (S : RT) (x1 : Int32) (x2 : Int32) (x3 : Int32) (Q : Int32 → RT → Prop) : Prop := (wX7_isThing S x1 (fun (r_1 : Int32) => (if r_1 = (0 : Int32) then (bX7_turn_33 Q S x1 x2 x3 (-1 : Int32)) else (wX7_isIn  x2 (0 : Int32) (5 : Int32) (fun (r_3 : Int32) => (if r_3 = (0 : Int32) then (bX7_turn_33 Q S x1 x2 x3 (-2 : Int32)) else (wX7_bound  x3 (0 : Int32) (9 : Int32) (fun (r_5 : Int32) => (bX7_turn_33 Q S x1 x2 x3 r_5)))))))))
def bX7_hours_27 (Q : Int32 → RT → Prop) (S : RT) (x1 : Int32) (x2 : Int32) : Prop := (if x2 = (0 : Int32) then (wX7_goes S x1 (fun (S_2 : RT) => (wX7_allHigh S_2  (fun (r_3 : Int32) => (Q r_3 S_2))))) else (wX7_no S x2 (fun (r_5 : Int32) (S_4 : RT) => (Q r_5 S_4))))
def wX7_hours (S : RT) (x1 : Int32) (Q : Int32 → RT → Prop) : Prop := (wX7_bound  x1 (1 : Int32) (60 : Int32) (fun (r_1 : Int32) => (if r_1 = (0 : Int32) then (if ((S 30 10) + x1) ≤ (999 : Int32) then (bX7_hours_27 Q S x1 r_1) else (bX7_hours_27 Q S x1 (-6 : Int32))) else (bX7_hours_27 Q S x1 r_1))))
def wX7_notHours (x0 : Int32) (Q : Int32 → Prop) : Prop := (wX7_bound  x0 (0 : Int32) (99 : Int32) (fun (r_1 : Int32) => (Q r_1)))
def bX7_thingThen_75 (Q : Int32 → RT → Prop) (S : RT) (t0 : Int32) : Prop := (wX7_forgets S  (fun (S_1 : RT) => (Q t0 S_1)))
def bX7_thingThen_36 (Q : Int32 → RT → Prop) (S : RT) (x1 : Int32) (x2 : Int32) (x3 : Int32) (x4 : Int32) : Prop := (if x4 = (0 : Int32) then (wX7_thinks S  (fun (S_2 : RT) => (wX7_goes S_2 x2 (fun (S_3 : RT) => (if x3 = (0 : Int32) then (vp_in x1 8 ∧ (bX7_thingThen_75 Q S_3 (S_3 5 (x1).toNatClampNeg))) else (wX7_heft S_3 x1 (fun (r_5 : Int32) => (bX7_thingThen_75 Q S_3 r_5)))))))) else (wX7_no S x4 (fun (r_8 : Int32) (S_7 : RT) => (Q r_8 S_7))))
def bX7_thingThen_16 (Q : Int32 → RT → Prop) (S : RT) (x1 : Int32) (x2 : Int32) (x3 : Int32) (t0 : Int32) : Prop := (if t0 = (0 : Int32) then (wX7_isIn  x3 (0 : Int32) (1 : Int32) (fun (r_2 : Int32) => (if r_2 = (0 : Int32) then (bX7_thingThen_36 Q S x1 x2 x3 (-2 : Int32)) else (bX7_thingThen_36 Q S x1 x2 x3 t0)))) else (bX7_thingThen_36 Q S x1 x2 x3 t0))
def wX7_thingThen (S : RT) (x1 : Int32) (x2 : Int32) (x3 : Int32) (Q : Int32 → RT → Prop) : Prop := (wX7_isThing S x1 (fun (r_1 : Int32) => (if r_1 = (0 : Int32) then (bX7_thingThen_16 Q S x1 x2 x3 (-1 : Int32)) else (wX7_notHours  x2 (fun (r_3 : Int32) => (bX7_thingThen_16 Q S x1 x2 x3 r_3))))))
def bX7_ropeThen_16 (Q : Int32 → RT → Prop) (S : RT) (x1 : Int32) (x2 : Int32) (t0 : Int32) : Prop := (if t0 = (0 : Int32) then (wX7_thinks S  (fun (S_2 : RT) => (wX7_goes S_2 x2 (fun (S_3 : RT) => (wX7_holdsTo S_3 x1 (fun (r_4 : Int32) => (wX7_forgets S_3  (fun (S_5 : RT) => (Q r_4 S_5))))))))) else (wX7_no S t0 (fun (r_7 : Int32) (S_6 : RT) => (Q r_7 S_6))))
def wX7_ropeThen (S : RT) (x1 : Int32) (x2 : Int32) (Q : Int32 → RT → Prop) : Prop := (wX7_isRope S x1 (fun (r_1 : Int32) => (if r_1 = (0 : Int32) then (bX7_ropeThen_16 Q S x1 x2 (-1 : Int32)) else (wX7_notHours  x2 (fun (r_3 : Int32) => (bX7_ropeThen_16 Q S x1 x2 r_3))))))
def bX7_upAt_38 (K10 : RT → Int32 → Int32 → Int32 → Int32 → Prop) (Q : Int32 → RT → Prop) (S : RT) (x1 : Int32) (x2 : Int32) (x4 : Int32) (t0 : Int32) : Prop := (wX7_goesHour S  (fun (S_1 : RT) => (∀ x4_2 : Int32, x4_2 = (x4 + (1 : Int32)) → (K10 S_1 x1 x2 t0 x4_2))))
def bX7_upAt_49 (Q : Int32 → RT → Prop) (S : RT) (x3 : Int32) : Prop := (wX7_forgets S  (fun (S_1 : RT) => (Q x3 S_1)))
def bX7_upAt_10 (Q : Int32 → RT → Prop) : Nat → RT → Int32 → Int32 → Int32 → Int32 → Prop
  | 0, _, _, _, _, _ => False
  | n + 1, S, x1, x2, x3, x4 => (if (99 : Int32) < x4 then (bX7_upAt_49 Q S x3) else (if (0 : Int32) ≤ x3 then (bX7_upAt_49 Q S x3) else (vp_in x1 8 ∧ (if (S 5 (x1).toNatClampNeg) < x2 then (bX7_upAt_38 (fun (S_ : RT) (x1_ : Int32) (x2_ : Int32) (x3_ : Int32) (x4_ : Int32) => bX7_upAt_10 Q n S_ x1_ x2_ x3_ x4_) Q S x1 x2 x4 (-9 : Int32)) else (bX7_upAt_38 (fun (S_ : RT) (x1_ : Int32) (x2_ : Int32) (x3_ : Int32) (x4_ : Int32) => bX7_upAt_10 Q n S_ x1_ x2_ x3_ x4_) Q S x1 x2 x4 x4)))))
def wX7_upAt (S : RT) (x1 : Int32) (x2 : Int32) (Q : Int32 → RT → Prop) : Prop := (wX7_thinks S  (fun (S_1 : RT) => (∃ j : Nat, bX7_upAt_10 Q j S_1 x1 x2 (-9 : Int32) (0 : Int32))))
def bX7_up_19 (Q : Int32 → RT → Prop) (S : RT) (x1 : Int32) (x2 : Int32) (t0 : Int32) : Prop := (if t0 = (0 : Int32) then (wX7_upAt S x1 x2 (fun (r_3 : Int32) (S_2 : RT) => (Q r_3 S_2))) else (wX7_no S t0 (fun (r_5 : Int32) (S_4 : RT) => (Q r_5 S_4))))
def wX7_up (S : RT) (x1 : Int32) (x2 : Int32) (Q : Int32 → RT → Prop) : Prop := (wX7_isThing S x1 (fun (r_1 : Int32) => (if r_1 = (0 : Int32) then (bX7_up_19 Q S x1 x2 (-1 : Int32)) else (wX7_bound  x2 (0 : Int32) (20 : Int32) (fun (r_3 : Int32) => (bX7_up_19 Q S x1 x2 r_3))))))
def bX7_isAtRest_34 (Q : Int32 → RT → Prop) : Nat → RT → Int32 → Prop
  | 0, _, _ => False
  | n + 1, S, x1 => (if (S 30 8) ≤ x1 then (Q (1 : Int32) S) else (vp_in x1 8 ∧ (if (S 23 (x1).toNatClampNeg) = (S 5 (x1).toNatClampNeg) then (∀ x1_4 : Int32, x1_4 = (x1 + (1 : Int32)) → (bX7_isAtRest_34 Q n S x1_4)) else (Q (0 : Int32) S))))
def bX7_isAtRest_2 (Q : Int32 → RT → Prop) : Nat → RT → Int32 → Prop
  | 0, _, _ => False
  | n + 1, S, x1 => (if (S 30 8) ≤ x1 then (wX7_goesHour S  (fun (S_2 : RT) => (∃ j : Nat, bX7_isAtRest_34 Q j S_2 (0 : Int32)))) else (vp_in x1 8 ∧ (∀ S_4 : RT, S_4 = set2 S 23 (x1).toNatClampNeg (S 5 (x1).toNatClampNeg) → (∀ x1_5 : Int32, x1_5 = (x1 + (1 : Int32)) → (bX7_isAtRest_2 Q n S_4 x1_5)))))
def wX7_isAtRest (S : RT) (Q : Int32 → RT → Prop) : Prop := (∃ j : Nat, bX7_isAtRest_2 Q j S (0 : Int32))
def bX7_restsAt_32 (K9 : RT → Int32 → Int32 → Prop) (Q : Int32 → RT → Prop) (S : RT) (x2 : Int32) (t0 : Int32) : Prop := (∀ x2_1 : Int32, x2_1 = (x2 + (1 : Int32)) → (K9 S t0 x2_1))
def bX7_restsAt_39 (Q : Int32 → RT → Prop) (S : RT) (x1 : Int32) : Prop := (wX7_forgets S  (fun (S_1 : RT) => (Q x1 S_1)))
def bX7_restsAt_9 (Q : Int32 → RT → Prop) : Nat → RT → Int32 → Int32 → Prop
  | 0, _, _, _ => False
  | n + 1, S, x1, x2 => (if (99 : Int32) < x2 then (bX7_restsAt_39 Q S x1) else (if (0 : Int32) ≤ x1 then (bX7_restsAt_39 Q S x1) else (wX7_isAtRest S  (fun (r_4 : Int32) (S_3 : RT) => (if r_4 = (0 : Int32) then (bX7_restsAt_32 (fun (S_ : RT) (x1_ : Int32) (x2_ : Int32) => bX7_restsAt_9 Q n S_ x1_ x2_) Q S_3 x2 (-9 : Int32)) else (bX7_restsAt_32 (fun (S_ : RT) (x1_ : Int32) (x2_ : Int32) => bX7_restsAt_9 Q n S_ x1_ x2_) Q S_3 x2 x2))))))
def wX7_restsAt (S : RT) (Q : Int32 → RT → Prop) : Prop := (wX7_thinks S  (fun (S_1 : RT) => (∃ j : Nat, bX7_restsAt_9 Q j S_1 (-9 : Int32) (0 : Int32))))
def bX7_first_78 (K35 : RT → Int32 → Int32 → Int32 → Int32 → Prop) (Q : Int32 → RT → Prop) (S : RT) (x1 : Int32) (x2 : Int32) (x3 : Int32) (x4 : Int32) : Prop := (∀ x4_1 : Int32, x4_1 = (x4 + (1 : Int32)) → (K35 S x1 x2 x3 x4_1))
def bX7_first_72 (K35 : RT → Int32 → Int32 → Int32 → Int32 → Prop) (Q : Int32 → RT → Prop) (S : RT) (x1 : Int32) (x4 : Int32) (x5 : Int32) : Prop := (bX7_first_78 K35 Q S x1 x4 x5 x4)
def bX7_first_35 (Q : Int32 → RT → Prop) : Nat → RT → Int32 → Int32 → Int32 → Int32 → Prop
  | 0, _, _, _, _, _ => False
  | n + 1, S, x1, x2, x3, x4 => (if (S 30 8) ≤ x4 then (if x1 = (0 : Int32) then (Q x2 S) else (Q x3 S)) else (wX7_upAt S x4 (20 : Int32) (fun (r_4 : Int32) (S_3 : RT) => (if r_4 < (0 : Int32) then (bX7_first_78 (fun (S_ : RT) (x1_ : Int32) (x2_ : Int32) (x3_ : Int32) (x4_ : Int32) => bX7_first_35 Q n S_ x1_ x2_ x3_ x4_) Q S_3 x1 x2 x3 x4) else (if x2 < (0 : Int32) then (bX7_first_72 (fun (S_ : RT) (x1_ : Int32) (x2_ : Int32) (x3_ : Int32) (x4_ : Int32) => bX7_first_35 Q n S_ x1_ x2_ x3_ x4_) Q S_3 x1 x4 r_4) else (if r_4 < x3 then (bX7_first_72 (fun (S_ : RT) (x1_ : Int32) (x2_ : Int32) (x3_ : Int32) (x4_ : Int32) => bX7_first_35 Q n S_ x1_ x2_ x3_ x4_) Q S_3 x1 x4 r_4) else (bX7_first_78 (fun (S_ : RT) (x1_ : Int32) (x2_ : Int32) (x3_ : Int32) (x4_ : Int32) => bX7_first_35 Q n S_ x1_ x2_ x3_ x4_) Q S_3 x1 x2 x3 x4)))))))
def wX7_first (S : RT) (x1 : Int32) (Q : Int32 → RT → Prop) : Prop := (wX7_isIn  x1 (0 : Int32) (2 : Int32) (fun (r_1 : Int32) => (if r_1 = (0 : Int32) then (wX7_no S (-2 : Int32) (fun (r_7 : Int32) (S_6 : RT) => (Q r_7 S_6))) else (if x1 = (2 : Int32) then (wX7_restsAt S  (fun (r_5 : Int32) (S_4 : RT) => (Q r_5 S_4))) else (∃ j : Nat, bX7_first_35 Q j S x1 (-9 : Int32) (-9 : Int32) (0 : Int32))))))
def bX7_changes_61 (K30 : RT → Int32 → Int32 → Int32 → Int32 → Prop) (Q : Int32 → RT → Prop) (S : RT) (x1 : Int32) (x2 : Int32) (x4 : Int32) (t0 : Int32) : Prop := (∀ x4_1 : Int32, x4_1 = (x4 + (1 : Int32)) → (K30 S x1 x2 t0 x4_1))
def bX7_changes_68 (Q : Int32 → RT → Prop) (S : RT) (x3 : Int32) : Prop := (wX7_forgets S  (fun (S_1 : RT) => (Q x3 S_1)))
def bX7_changes_30 (Q : Int32 → RT → Prop) : Nat → RT → Int32 → Int32 → Int32 → Int32 → Prop
  | 0, _, _, _, _, _ => False
  | n + 1, S, x1, x2, x3, x4 => (if (99 : Int32) < x4 then (bX7_changes_68 Q S x3) else (if (0 : Int32) ≤ x3 then (bX7_changes_68 Q S x3) else (wX7_goesHour S  (fun (S_3 : RT) => (wX7_holdsTo S_3 x1 (fun (r_4 : Int32) => (if r_4 = x2 then (bX7_changes_61 (fun (S_ : RT) (x1_ : Int32) (x2_ : Int32) (x3_ : Int32) (x4_ : Int32) => bX7_changes_30 Q n S_ x1_ x2_ x3_ x4_) Q S_3 x1 x2 x4 (-9 : Int32)) else (bX7_changes_61 (fun (S_ : RT) (x1_ : Int32) (x2_ : Int32) (x3_ : Int32) (x4_ : Int32) => bX7_changes_30 Q n S_ x1_ x2_ x3_ x4_) Q S_3 x1 x2 x4 x4))))))))
def wX7_changes (S : RT) (x1 : Int32) (Q : Int32 → RT → Prop) : Prop := (wX7_isRope S x1 (fun (r_1 : Int32) => (if r_1 = (0 : Int32) then (wX7_no S (-1 : Int32) (fun (r_6 : Int32) (S_5 : RT) => (Q r_6 S_5))) else (wX7_holdsTo S x1 (fun (r_3 : Int32) => (wX7_thinks S  (fun (S_4 : RT) => (∃ j : Nat, bX7_changes_30 Q j S_4 x1 r_3 (-9 : Int32) (1 : Int32)))))))))
def wX7_highIn (S : RT) (x1 : Int32) (x2 : Int32) (Q : Int32 → RT → Prop) : Prop := (wX7_thinks S  (fun (S_1 : RT) => (wX7_goes S_1 x2 (fun (S_2 : RT) => (vp_in x1 8 ∧ (∀ x3_4 : Int32, x3_4 = (S_2 5 (x1).toNatClampNeg) → (wX7_forgets S_2  (fun (S_5 : RT) => (Q x3_4 S_5)))))))))
def wX7_highWith (S : RT) (x1 : Int32) (x2 : Int32) (x3 : Int32) (Q : Int32 → RT → Prop) : Prop := (vp_in x1 8 ∧ (∀ x4_2 : Int32, x4_2 = (S 4 (x1).toNatClampNeg) → (∀ S_3 : RT, S_3 = set2 S 4 (x1).toNatClampNeg x2 → (wX7_highIn S_3 x1 x3 (fun (r_5 : Int32) (S_4 : RT) => (∀ S_6 : RT, S_6 = set2 S_4 4 (x1).toNatClampNeg x4_2 → (Q r_5 S_6)))))))
def wX7_notGoal (S : RT) (x1 : Int32) (x2 : Int32) (x3 : Int32) (Q : Int32 → Prop) : Prop := (wX7_isThing S x1 (fun (r_1 : Int32) => (if r_1 = (0 : Int32) then (Q (-1 : Int32)) else (if x2 < (0 : Int32) then (Q (-4 : Int32)) else (if (0 : Int32) ≤ x3 then (if (20 : Int32) < x2 then (Q (-6 : Int32)) else (if x3 ≤ (30 : Int32) then (Q (0 : Int32)) else (Q (-6 : Int32)))) else (Q (-4 : Int32)))))))
def bX7_throwsDown_24 (Q : Int32 → RT → Prop) : Nat → RT → Int32 → Int32 → Int32 → Int32 → Prop
  | 0, _, _, _, _, _ => False
  | n + 1, S, x1, x2, x3, x5 => (vp_in x1 8 ∧ (if (S 4 (x1).toNatClampNeg) < x5 then (Q (-9 : Int32) S) else (wX7_highWith S x1 ((S 4 (x1).toNatClampNeg) - x5) x3 (fun (r_4 : Int32) (S_3 : RT) => (if r_4 < x2 then (∀ x5_6 : Int32, x5_6 = (x5 + (1 : Int32)) → (bX7_throwsDown_24 Q n S_3 x1 x2 x3 x5_6)) else (Q x5 S_3))))))
def wX7_throwsDown (S : RT) (x1 : Int32) (x2 : Int32) (x3 : Int32) (Q : Int32 → RT → Prop) : Prop := (wX7_notGoal S x1 x2 x3 (fun (r_1 : Int32) => (if r_1 = (0 : Int32) then (∃ j : Nat, bX7_throwsDown_24 Q j S x1 x2 x3 (0 : Int32)) else (wX7_no S r_1 (fun (r_4 : Int32) (S_3 : RT) => (Q r_4 S_3))))))
def bX7_takesUp_24 (Q : Int32 → RT → Prop) : Nat → RT → Int32 → Int32 → Int32 → Int32 → Prop
  | 0, _, _, _, _, _ => False
  | n + 1, S, x1, x2, x3, x5 => (vp_in x1 8 ∧ (if ((9 : Int32) - (S 4 (x1).toNatClampNeg)) < x5 then (Q (-9 : Int32) S) else (wX7_highWith S x1 ((S 4 (x1).toNatClampNeg) + x5) x3 (fun (r_4 : Int32) (S_3 : RT) => (if x2 < r_4 then (∀ x5_6 : Int32, x5_6 = (x5 + (1 : Int32)) → (bX7_takesUp_24 Q n S_3 x1 x2 x3 x5_6)) else (Q x5 S_3))))))
def wX7_takesUp (S : RT) (x1 : Int32) (x2 : Int32) (x3 : Int32) (Q : Int32 → RT → Prop) : Prop := (wX7_notGoal S x1 x2 x3 (fun (r_1 : Int32) => (if r_1 = (0 : Int32) then (∃ j : Nat, bX7_takesUp_24 Q j S x1 x2 x3 (0 : Int32)) else (wX7_no S r_1 (fun (r_4 : Int32) (S_3 : RT) => (Q r_4 S_3))))))
def wX7_highTied (S : RT) (x1 : Int32) (x2 : Int32) (x3 : Int32) (Q : Int32 → RT → Prop) : Prop := (wX7_adds S x1 x2 (fun (S_1 : RT) => (wX7_highIn S_1 x1 x3 (fun (r_3 : Int32) (S_2 : RT) => (∀ S_4 : RT, S_4 = set2 S_2 30 9 ((S_2 30 9) - (1 : Int32)) → (Q r_3 S_4))))))
def bX7_bestTie_102 (K45 : RT → Int32 → Int32 → Int32 → Int32 → Int32 → Prop) (Q : Int32 → RT → Prop) (S : RT) (x1 : Int32) (x2 : Int32) (x4 : Int32) (x5 : Int32) (x6 : Int32) : Prop := (∀ x6_1 : Int32, x6_1 = (x6 + (1 : Int32)) → (K45 S x1 x2 x4 x5 x6_1))
def bX7_bestTie_82 (K45 : RT → Int32 → Int32 → Int32 → Int32 → Int32 → Prop) (Q : Int32 → RT → Prop) (S : RT) (x1 : Int32) (x2 : Int32) (x4 : Int32) (x5 : Int32) (x6 : Int32) (t0 : Int32) : Prop := (if x5 < t0 then (bX7_bestTie_102 K45 Q S x1 x2 x6 t0 x6) else (bX7_bestTie_102 K45 Q S x1 x2 x4 x5 x6))
def bX7_bestTie_45 (Q : Int32 → RT → Prop) : Nat → RT → Int32 → Int32 → Int32 → Int32 → Int32 → Prop
  | 0, _, _, _, _, _, _ => False
  | n + 1, S, x1, x2, x4, x5, x6 => (if (S 30 8) ≤ x6 then (Q x4 S) else (if (6 : Int32) ≤ (S 30 9) then (Q x4 S) else (if x6 = x1 then (bX7_bestTie_82 (fun (S_ : RT) (x1_ : Int32) (x2_ : Int32) (x4_ : Int32) (x5_ : Int32) (x6_ : Int32) => bX7_bestTie_45 Q n S_ x1_ x2_ x4_ x5_ x6_) Q S x1 x2 x4 x5 x6 (-9 : Int32)) else (wX7_highTied S x1 x6 x2 (fun (r_5 : Int32) (S_4 : RT) => (bX7_bestTie_82 (fun (S_ : RT) (x1_ : Int32) (x2_ : Int32) (x4_ : Int32) (x5_ : Int32) (x6_ : Int32) => bX7_bestTie_45 Q n S_ x1_ x2_ x4_ x5_ x6_) Q S_4 x1 x2 x4 x5 x6 r_5))))))
def bX7_bestTie_19 (Q : Int32 → RT → Prop) (S : RT) (x1 : Int32) (x2 : Int32) (t0 : Int32) : Prop := (if t0 = (0 : Int32) then (wX7_highIn S x1 x2 (fun (r_3 : Int32) (S_2 : RT) => (∃ j : Nat, bX7_bestTie_45 Q j S_2 x1 x2 (-9 : Int32) r_3 (0 : Int32)))) else (wX7_no S t0 (fun (r_5 : Int32) (S_4 : RT) => (Q r_5 S_4))))
def wX7_bestTie (S : RT) (x1 : Int32) (x2 : Int32) (Q : Int32 → RT → Prop) : Prop := (wX7_isThing S x1 (fun (r_1 : Int32) => (if r_1 = (0 : Int32) then (bX7_bestTie_19 Q S x1 x2 (-1 : Int32)) else (wX7_bound  x2 (0 : Int32) (30 : Int32) (fun (r_3 : Int32) => (bX7_bestTie_19 Q S x1 x2 r_3))))))
def wX7_highCut (S : RT) (x1 : Int32) (x2 : Int32) (x3 : Int32) (Q : Int32 → RT → Prop) : Prop := (wX7_changesOn S  (fun (S_1 : RT) => (wX7_drops S_1 x2 (fun (S_2 : RT) => (wX7_highIn S_2 x1 x3 (fun (r_4 : Int32) (S_3 : RT) => (wX7_changesBack S_3  (fun (S_5 : RT) => (Q r_4 S_5)))))))))
def bX7_bestCut_82 (K45 : RT → Int32 → Int32 → Int32 → Int32 → Int32 → Prop) (Q : Int32 → RT → Prop) (S : RT) (x1 : Int32) (x2 : Int32) (x4 : Int32) (x5 : Int32) (x6 : Int32) : Prop := (∀ x6_1 : Int32, x6_1 = (x6 + (1 : Int32)) → (K45 S x1 x2 x4 x5 x6_1))
def bX7_bestCut_45 (Q : Int32 → RT → Prop) : Nat → RT → Int32 → Int32 → Int32 → Int32 → Int32 → Prop
  | 0, _, _, _, _, _, _ => False
  | n + 1, S, x1, x2, x4, x5, x6 => (if (S 30 9) ≤ x6 then (Q x4 S) else (wX7_highCut S x1 x6 x2 (fun (r_3 : Int32) (S_2 : RT) => (if x5 < r_3 then (bX7_bestCut_82 (fun (S_ : RT) (x1_ : Int32) (x2_ : Int32) (x4_ : Int32) (x5_ : Int32) (x6_ : Int32) => bX7_bestCut_45 Q n S_ x1_ x2_ x4_ x5_ x6_) Q S_2 x1 x2 x6 r_3 x6) else (bX7_bestCut_82 (fun (S_ : RT) (x1_ : Int32) (x2_ : Int32) (x4_ : Int32) (x5_ : Int32) (x6_ : Int32) => bX7_bestCut_45 Q n S_ x1_ x2_ x4_ x5_ x6_) Q S_2 x1 x2 x4 x5 x6)))))
def bX7_bestCut_19 (Q : Int32 → RT → Prop) (S : RT) (x1 : Int32) (x2 : Int32) (t0 : Int32) : Prop := (if t0 = (0 : Int32) then (wX7_highIn S x1 x2 (fun (r_3 : Int32) (S_2 : RT) => (∃ j : Nat, bX7_bestCut_45 Q j S_2 x1 x2 (-9 : Int32) r_3 (0 : Int32)))) else (wX7_no S t0 (fun (r_5 : Int32) (S_4 : RT) => (Q r_5 S_4))))
def wX7_bestCut (S : RT) (x1 : Int32) (x2 : Int32) (Q : Int32 → RT → Prop) : Prop := (wX7_isThing S x1 (fun (r_1 : Int32) => (if r_1 = (0 : Int32) then (bX7_bestCut_19 Q S x1 x2 (-1 : Int32)) else (wX7_bound  x2 (0 : Int32) (30 : Int32) (fun (r_3 : Int32) => (bX7_bestCut_19 Q S x1 x2 r_3))))))
def wX7_allIn (S : RT) (x1 : Int32) (Q : Int32 → RT → Prop) : Prop := (wX7_thinks S  (fun (S_1 : RT) => (wX7_goes S_1 x1 (fun (S_2 : RT) => (wX7_allHigh S_2  (fun (r_3 : Int32) => (wX7_forgets S_2  (fun (S_4 : RT) => (Q r_3 S_4)))))))))
def bX7_bestStone_101 (K31 : RT → Int32 → Int32 → Int32 → Int32 → Prop) (Q : Int32 → RT → Prop) (S : RT) (x1 : Int32) (x3 : Int32) (x4 : Int32) (x5 : Int32) : Prop := (∀ x5_1 : Int32, x5_1 = (x5 + (1 : Int32)) → (K31 S x1 x3 x4 x5_1))
def bX7_bestStone_31 (Q : Int32 → RT → Prop) : Nat → RT → Int32 → Int32 → Int32 → Int32 → Prop
  | 0, _, _, _, _, _ => False
  | n + 1, S, x1, x3, x4, x5 => (if (S 30 8) ≤ x5 then (Q x3 S) else (vp_in x5 8 ∧ (if (S 4 (x5).toNatClampNeg) = (9 : Int32) then (bX7_bestStone_101 (fun (S_ : RT) (x1_ : Int32) (x3_ : Int32) (x4_ : Int32) (x5_ : Int32) => bX7_bestStone_31 Q n S_ x1_ x3_ x4_ x5_) Q S x1 x3 x4 x5) else (∀ S_4 : RT, S_4 = set2 S 4 (x5).toNatClampNeg ((S 4 (x5).toNatClampNeg) + (1 : Int32)) → (wX7_allIn S_4 x1 (fun (r_6 : Int32) (S_5 : RT) => (∀ S_7 : RT, S_7 = set2 S_5 4 (x5).toNatClampNeg ((S_5 4 (x5).toNatClampNeg) - (1 : Int32)) → (if x4 < r_6 then (bX7_bestStone_101 (fun (S_ : RT) (x1_ : Int32) (x3_ : Int32) (x4_ : Int32) (x5_ : Int32) => bX7_bestStone_31 Q n S_ x1_ x3_ x4_ x5_) Q S_7 x1 x5 r_6 x5) else (bX7_bestStone_101 (fun (S_ : RT) (x1_ : Int32) (x3_ : Int32) (x4_ : Int32) (x5_ : Int32) => bX7_bestStone_31 Q n S_ x1_ x3_ x4_ x5_) Q S_7 x1 x3 x4 x5)))))))))
def wX7_bestStone (S : RT) (x1 : Int32) (Q : Int32 → RT → Prop) : Prop := (wX7_bound  x1 (0 : Int32) (30 : Int32) (fun (r_1 : Int32) => (if r_1 = (0 : Int32) then (wX7_allIn S x1 (fun (r_4 : Int32) (S_3 : RT) => (∃ j : Nat, bX7_bestStone_31 Q j S_3 x1 (-9 : Int32) r_4 (0 : Int32)))) else (wX7_no S r_1 (fun (r_6 : Int32) (S_5 : RT) => (Q r_6 S_5))))))
def bX7_aheadOf_49 (K4 : Int32 → Int32 → Int32 → Prop) (S : RT) (Q : Int32 → Prop) (x1 : Int32) (x3 : Int32) (t0 : Int32) (t1 : Int32) : Prop := (∀ x2_1 : Int32, x2_1 = (t0 + t1) → (∀ x3_2 : Int32, x3_2 = (x3 + (1 : Int32)) → (K4 x1 x2_1 x3_2)))
def bX7_aheadOf_44 (K4 : Int32 → Int32 → Int32 → Prop) (S : RT) (Q : Int32 → Prop) (x1 : Int32) (x3 : Int32) (t0 : Int32) : Prop := (bX7_aheadOf_49 K4 S Q x1 x3 t0 (1 : Int32))
def bX7_aheadOf_48 (K4 : Int32 → Int32 → Int32 → Prop) (S : RT) (Q : Int32 → Prop) (x1 : Int32) (x3 : Int32) (t0 : Int32) : Prop := (bX7_aheadOf_49 K4 S Q x1 x3 t0 (0 : Int32))
def bX7_aheadOf_4 (S : RT) (Q : Int32 → Prop) : Nat → Int32 → Int32 → Int32 → Prop
  | 0, _, _, _ => False
  | n + 1, x1, x2, x3 => (if (S 30 8) ≤ x3 then (Q x2) else (wX7_heft S x3 (fun (r_2 : Int32) => (wX7_heft S x1 (fun (r_3 : Int32) => (if r_3 < r_2 then (bX7_aheadOf_44 (fun (x1_ : Int32) (x2_ : Int32) (x3_ : Int32) => bX7_aheadOf_4 S Q n x1_ x2_ x3_) S Q x1 x3 x2) else (wX7_heft S x3 (fun (r_5 : Int32) => (wX7_heft S x1 (fun (r_6 : Int32) => (if r_5 = r_6 then (if x1 ≤ x3 then (bX7_aheadOf_48 (fun (x1_ : Int32) (x2_ : Int32) (x3_ : Int32) => bX7_aheadOf_4 S Q n x1_ x2_ x3_) S Q x1 x3 x2) else (bX7_aheadOf_44 (fun (x1_ : Int32) (x2_ : Int32) (x3_ : Int32) => bX7_aheadOf_4 S Q n x1_ x2_ x3_) S Q x1 x3 x2)) else (bX7_aheadOf_48 (fun (x1_ : Int32) (x2_ : Int32) (x3_ : Int32) => bX7_aheadOf_4 S Q n x1_ x2_ x3_) S Q x1 x3 x2))))))))))))
def wX7_aheadOf (S : RT) (x1 : Int32) (Q : Int32 → Prop) : Prop := (∃ j : Nat, bX7_aheadOf_4 S Q j x1 (0 : Int32) (0 : Int32))
def bX7_rows_13 (Q : Int32 → RT → Prop) : Nat → RT → Int32 → Int32 → Prop
  | 0, _, _, _ => False
  | n + 1, S, x1, x2 => (if (S 30 8) ≤ x2 then (Q (-9 : Int32) S) else (wX7_aheadOf S x2 (fun (r_2 : Int32) => (if r_2 = x1 then (Q x2 S) else (∀ x2_4 : Int32, x2_4 = (x2 + (1 : Int32)) → (bX7_rows_13 Q n S x1 x2_4))))))
def wX7_rows (S : RT) (x1 : Int32) (Q : Int32 → RT → Prop) : Prop := (if (0 : Int32) ≤ x1 then (∃ j : Nat, bX7_rows_13 Q j S x1 (0 : Int32)) else (wX7_no S (-4 : Int32) (fun (r_3 : Int32) (S_2 : RT) => (Q r_3 S_2))))
def bX7_between_92 (K34 : RT → Int32 → Int32 → Int32 → Int32 → Prop) (Q : Int32 → RT → Prop) (S : RT) (x3 : Int32) (x4 : Int32) (x6 : Int32) (t0 : Int32) (t1 : Int32) : Prop := (∀ x5_1 : Int32, x5_1 = (t0 + t1) → (∀ x6_2 : Int32, x6_2 = (x6 + (1 : Int32)) → (K34 S x3 x4 x5_1 x6_2)))
def bX7_between_87 (K34 : RT → Int32 → Int32 → Int32 → Int32 → Prop) (Q : Int32 → RT → Prop) (S : RT) (x3 : Int32) (x4 : Int32) (x6 : Int32) (t0 : Int32) : Prop := (bX7_between_92 K34 Q S x3 x4 x6 t0 (1 : Int32))
def bX7_between_91 (K34 : RT → Int32 → Int32 → Int32 → Int32 → Prop) (Q : Int32 → RT → Prop) (S : RT) (x3 : Int32) (x4 : Int32) (x6 : Int32) (t0 : Int32) : Prop := (bX7_between_92 K34 Q S x3 x4 x6 t0 (0 : Int32))
def bX7_between_66 (K34 : RT → Int32 → Int32 → Int32 → Int32 → Prop) (Q : Int32 → RT → Prop) (S : RT) (x3 : Int32) (x4 : Int32) (x6 : Int32) (t0 : Int32) : Prop := (wX7_heft S x6 (fun (r_1 : Int32) => (if r_1 ≤ x4 then (bX7_between_91 K34 Q S x3 x4 x6 t0) else (wX7_heft S x6 (fun (r_3 : Int32) => (if x3 ≤ r_3 then (bX7_between_91 K34 Q S x3 x4 x6 t0) else (bX7_between_87 K34 Q S x3 x4 x6 t0)))))))
def bX7_between_34 (Q : Int32 → RT → Prop) : Nat → RT → Int32 → Int32 → Int32 → Int32 → Prop
  | 0, _, _, _, _, _ => False
  | n + 1, S, x3, x4, x5, x6 => (if (S 30 8) ≤ x6 then (Q x5 S) else (wX7_heft S x6 (fun (r_2 : Int32) => (if r_2 ≤ x3 then (bX7_between_66 (fun (S_ : RT) (x3_ : Int32) (x4_ : Int32) (x5_ : Int32) (x6_ : Int32) => bX7_between_34 Q n S_ x3_ x4_ x5_ x6_) Q S x3 x4 x6 x5) else (wX7_heft S x6 (fun (r_4 : Int32) => (if r_4 < x4 then (bX7_between_87 (fun (S_ : RT) (x3_ : Int32) (x4_ : Int32) (x5_ : Int32) (x6_ : Int32) => bX7_between_34 Q n S_ x3_ x4_ x5_ x6_) Q S x3 x4 x6 x5) else (bX7_between_66 (fun (S_ : RT) (x3_ : Int32) (x4_ : Int32) (x5_ : Int32) (x6_ : Int32) => bX7_between_34 Q n S_ x3_ x4_ x5_ x6_) Q S x3 x4 x6 x5))))))))
def wX7_between (S : RT) (x1 : Int32) (x2 : Int32) (Q : Int32 → RT → Prop) : Prop := (wX7_areTwo S x1 x2 (fun (r_1 : Int32) => (if r_1 = (0 : Int32) then (wX7_no S (-1 : Int32) (fun (r_6 : Int32) (S_5 : RT) => (Q r_6 S_5))) else (wX7_heft S x1 (fun (r_3 : Int32) => (wX7_heft S x2 (fun (r_4 : Int32) => (∃ j : Nat, bX7_between_34 Q j S r_3 r_4 (0 : Int32) (0 : Int32)))))))))
def bX7_heftsOf_30 (K4 : Int32 → Int32 → Int32 → Prop) (S : RT) (Q : Int32 → Prop) (x1 : Int32) (x3 : Int32) (t0 : Int32) (t1 : Int32) : Prop := (∀ x2_1 : Int32, x2_1 = (t0 + t1) → (∀ x3_2 : Int32, x3_2 = (x3 + (1 : Int32)) → (K4 x1 x2_1 x3_2)))
def bX7_heftsOf_4 (S : RT) (Q : Int32 → Prop) : Nat → Int32 → Int32 → Int32 → Prop
  | 0, _, _, _ => False
  | n + 1, x1, x2, x3 => (if (S 30 8) ≤ x3 then (Q x2) else (wX7_has  x1 x3 (fun (r_2 : Int32) => (if r_2 = (0 : Int32) then (bX7_heftsOf_30 (fun (x1_ : Int32) (x2_ : Int32) (x3_ : Int32) => bX7_heftsOf_4 S Q n x1_ x2_ x3_) S Q x1 x3 x2 (0 : Int32)) else (wX7_heft S x3 (fun (r_4 : Int32) => (bX7_heftsOf_30 (fun (x1_ : Int32) (x2_ : Int32) (x3_ : Int32) => bX7_heftsOf_4 S Q n x1_ x2_ x3_) S Q x1 x3 x2 r_4)))))))
def wX7_heftsOf (S : RT) (x1 : Int32) (Q : Int32 → Prop) : Prop := (∃ j : Nat, bX7_heftsOf_4 S Q j x1 (0 : Int32) (0 : Int32))
def bX7_balance_70 (K19 : RT → Int32 → Int32 → Int32 → Prop) (Q : Int32 → RT → Prop) (S : RT) (x1 : Int32) (x2 : Int32) (x3 : Int32) : Prop := (∀ x3_1 : Int32, x3_1 = (x3 + (1 : Int32)) → (K19 S x1 x2 x3_1))
def bX7_balance_55 (K19 : RT → Int32 → Int32 → Int32 → Prop) (Q : Int32 → RT → Prop) (S : RT) (x1 : Int32) (x2 : Int32) (x3 : Int32) : Prop := (wX7_heftsOf S x3 (fun (r_1 : Int32) => (wX7_heft S x1 (fun (r_2 : Int32) => (if r_1 = r_2 then (bX7_balance_70 K19 Q S x1 x3 x3) else (bX7_balance_70 K19 Q S x1 x2 x3))))))
def bX7_balance_19 (Q : Int32 → RT → Prop) : Nat → RT → Int32 → Int32 → Int32 → Prop
  | 0, _, _, _, _ => False
  | n + 1, S, x1, x2, x3 => (if ((1 : Int32) <<< ((S 30 8) &&& 31)) ≤ x3 then (Q x2 S) else (wX7_has  x3 x1 (fun (r_2 : Int32) => (if r_2 = (0 : Int32) then (if x2 < (0 : Int32) then (bX7_balance_55 (fun (S_ : RT) (x1_ : Int32) (x2_ : Int32) (x3_ : Int32) => bX7_balance_19 Q n S_ x1_ x2_ x3_) Q S x1 x2 x3) else (wX7_bits  x3 (fun (r_5 : Int32) => (wX7_bits  x2 (fun (r_6 : Int32) => (if r_5 < r_6 then (bX7_balance_55 (fun (S_ : RT) (x1_ : Int32) (x2_ : Int32) (x3_ : Int32) => bX7_balance_19 Q n S_ x1_ x2_ x3_) Q S x1 x2 x3) else (bX7_balance_70 (fun (S_ : RT) (x1_ : Int32) (x2_ : Int32) (x3_ : Int32) => bX7_balance_19 Q n S_ x1_ x2_ x3_) Q S x1 x2 x3))))))) else (bX7_balance_70 (fun (S_ : RT) (x1_ : Int32) (x2_ : Int32) (x3_ : Int32) => bX7_balance_19 Q n S_ x1_ x2_ x3_) Q S x1 x2 x3)))))
def wX7_balance (S : RT) (x1 : Int32) (Q : Int32 → RT → Prop) : Prop := (wX7_isThing S x1 (fun (r_1 : Int32) => (if r_1 = (0 : Int32) then (wX7_no S (-1 : Int32) (fun (r_4 : Int32) (S_3 : RT) => (Q r_4 S_3))) else (∃ j : Nat, bX7_balance_19 Q j S x1 (-9 : Int32) (0 : Int32)))))
def bX7_nearest_67 (K19 : RT → Int32 → Int32 → Int32 → Prop) (Q : Int32 → RT → Prop) (S : RT) (x1 : Int32) (x2 : Int32) (x3 : Int32) : Prop := (∀ x3_1 : Int32, x3_1 = (x3 + (1 : Int32)) → (K19 S x1 x2 x3_1))
def bX7_nearest_65 (K19 : RT → Int32 → Int32 → Int32 → Prop) (Q : Int32 → RT → Prop) (S : RT) (x1 : Int32) (x3 : Int32) : Prop := (bX7_nearest_67 K19 Q S x1 x3 x3)
def bX7_nearest_19 (Q : Int32 → RT → Prop) : Nat → RT → Int32 → Int32 → Int32 → Prop
  | 0, _, _, _, _ => False
  | n + 1, S, x1, x2, x3 => (if (S 30 8) ≤ x3 then (Q x2 S) else (if x3 = x1 then (bX7_nearest_67 (fun (S_ : RT) (x1_ : Int32) (x2_ : Int32) (x3_ : Int32) => bX7_nearest_19 Q n S_ x1_ x2_ x3_) Q S x1 x2 x3) else (if x2 < (0 : Int32) then (bX7_nearest_65 (fun (S_ : RT) (x1_ : Int32) (x2_ : Int32) (x3_ : Int32) => bX7_nearest_19 Q n S_ x1_ x2_ x3_) Q S x1 x3) else (wX7_heft S x3 (fun (r_4 : Int32) => (wX7_heft S x1 (fun (r_5 : Int32) => (wX7_far  r_4 r_5 (fun (r_6 : Int32) => (wX7_heft S x2 (fun (r_7 : Int32) => (wX7_heft S x1 (fun (r_8 : Int32) => (wX7_far  r_7 r_8 (fun (r_9 : Int32) => (if r_9 ≤ r_6 then (bX7_nearest_67 (fun (S_ : RT) (x1_ : Int32) (x2_ : Int32) (x3_ : Int32) => bX7_nearest_19 Q n S_ x1_ x2_ x3_) Q S x1 x2 x3) else (bX7_nearest_65 (fun (S_ : RT) (x1_ : Int32) (x2_ : Int32) (x3_ : Int32) => bX7_nearest_19 Q n S_ x1_ x2_ x3_) Q S x1 x3)))))))))))))))))
def wX7_nearest (S : RT) (x1 : Int32) (Q : Int32 → RT → Prop) : Prop := (wX7_isThing S x1 (fun (r_1 : Int32) => (if r_1 = (0 : Int32) then (wX7_no S (-1 : Int32) (fun (r_4 : Int32) (S_3 : RT) => (Q r_4 S_3))) else (∃ j : Nat, bX7_nearest_19 Q j S x1 (-9 : Int32) (0 : Int32)))))
def bX7_chainOf_74 (K6 : Int32 → Int32 → Prop) (K15 : Int32 → Int32 → Int32 → Prop) (S : RT) (Q : Int32 → Prop) (x2 : Int32) (x3 : Int32) (x4 : Int32) : Prop := (∀ x4_1 : Int32, x4_1 = (x4 + (1 : Int32)) → (K15 x2 x3 x4_1))
def bX7_chainOf_52 (K6 : Int32 → Int32 → Prop) (K15 : Int32 → Int32 → Int32 → Prop) (S : RT) (Q : Int32 → Prop) (x2 : Int32) (x3 : Int32) (x4 : Int32) : Prop := (vp_in x4 6 ∧ (∀ x2_2 : Int32, x2_2 = (x2 ||| (((1 : Int32) <<< ((S 6 (x4).toNatClampNeg) &&& 31)) ||| ((1 : Int32) <<< ((S 7 (x4).toNatClampNeg) &&& 31)))) → (bX7_chainOf_74 K6 K15 S Q x2_2 x3 x4)))
def bX7_chainOf_15 (K6 : Int32 → Int32 → Prop) (S : RT) (Q : Int32 → Prop) : Nat → Int32 → Int32 → Int32 → Prop
  | 0, _, _, _ => False
  | n + 1, x2, x3, x4 => (if (S 30 9) ≤ x4 then (∀ x3_2 : Int32, x3_2 = (x3 + (1 : Int32)) → (K6 x2 x3_2)) else (vp_in x4 6 ∧ (wX7_has  x2 (S 6 (x4).toNatClampNeg) (fun (r_4 : Int32) => (if r_4 = (0 : Int32) then (wX7_has  x2 (S 7 (x4).toNatClampNeg) (fun (r_6 : Int32) => (if r_6 = (0 : Int32) then (bX7_chainOf_74 K6 (fun (x2_ : Int32) (x3_ : Int32) (x4_ : Int32) => bX7_chainOf_15 K6 S Q n x2_ x3_ x4_) S Q x2 x3 x4) else (bX7_chainOf_52 K6 (fun (x2_ : Int32) (x3_ : Int32) (x4_ : Int32) => bX7_chainOf_15 K6 S Q n x2_ x3_ x4_) S Q x2 x3 x4)))) else (bX7_chainOf_52 K6 (fun (x2_ : Int32) (x3_ : Int32) (x4_ : Int32) => bX7_chainOf_15 K6 S Q n x2_ x3_ x4_) S Q x2 x3 x4))))))
def bX7_chainOf_6 (S : RT) (Q : Int32 → Prop) : Nat → Int32 → Int32 → Prop
  | 0, _, _ => False
  | n + 1, x2, x3 => (if (8 : Int32) ≤ x3 then (Q x2) else (∃ j : Nat, bX7_chainOf_15 (fun (x2_ : Int32) (x3_ : Int32) => bX7_chainOf_6 S Q n x2_ x3_) S Q j x2 x3 (0 : Int32)))
def wX7_chainOf (S : RT) (x1 : Int32) (Q : Int32 → Prop) : Prop := (∀ x2_1 : Int32, x2_1 = ((1 : Int32) <<< (x1 &&& 31)) → (∃ j : Nat, bX7_chainOf_6 S Q j x2_1 (0 : Int32)))
def wX7_chain (S : RT) (x1 : Int32) (Q : Int32 → RT → Prop) : Prop := (wX7_isThing S x1 (fun (r_1 : Int32) => (if r_1 = (0 : Int32) then (wX7_no S (-1 : Int32) (fun (r_4 : Int32) (S_3 : RT) => (Q r_4 S_3))) else (wX7_chainOf S x1 (fun (r_5 : Int32) => (Q r_5 S))))))
def bX7_chains_78 (K23 : RT → Int32 → Int32 → Int32 → Int32 → Prop) (Q : Int32 → RT → Prop) (S : RT) (x1 : Int32) (x2 : Int32) (x4 : Int32) (t0 : Int32) : Prop := (∀ x4_1 : Int32, x4_1 = (x4 + (1 : Int32)) → (K23 S x1 x2 t0 x4_1))
def bX7_chains_58 (K23 : RT → Int32 → Int32 → Int32 → Int32 → Prop) (Q : Int32 → RT → Prop) (S : RT) (x1 : Int32) (x3 : Int32) (x4 : Int32) (x5 : Int32) (t0 : Int32) (t1 : Int32) : Prop := (∀ x2_1 : Int32, x2_1 = (t0 + t1) → (wX7_bits  x5 (fun (r_2 : Int32) => (if r_2 ≤ x3 then (bX7_chains_78 K23 Q S x1 x2_1 x4 x3) else (wX7_bits  x5 (fun (r_4 : Int32) => (bX7_chains_78 K23 Q S x1 x2_1 x4 r_4)))))))
def bX7_chains_23 (Q : Int32 → RT → Prop) : Nat → RT → Int32 → Int32 → Int32 → Int32 → Prop
  | 0, _, _, _, _, _ => False
  | n + 1, S, x1, x2, x3, x4 => (if (S 30 8) ≤ x4 then (if x1 = (0 : Int32) then (Q x2 S) else (if x1 = (1 : Int32) then (Q x3 S) else (if (S 30 9) ≤ ((S 30 8) - x2) then (Q (0 : Int32) S) else (Q (1 : Int32) S)))) else (wX7_chainOf S x4 (fun (r_5 : Int32) => (if (r_5 &&& (((1 : Int32) <<< (x4 &&& 31)) - (1 : Int32))) = (0 : Int32) then (bX7_chains_58 (fun (S_ : RT) (x1_ : Int32) (x2_ : Int32) (x3_ : Int32) (x4_ : Int32) => bX7_chains_23 Q n S_ x1_ x2_ x3_ x4_) Q S x1 x3 x4 r_5 x2 (1 : Int32)) else (bX7_chains_58 (fun (S_ : RT) (x1_ : Int32) (x2_ : Int32) (x3_ : Int32) (x4_ : Int32) => bX7_chains_23 Q n S_ x1_ x2_ x3_ x4_) Q S x1 x3 x4 r_5 x2 (0 : Int32))))))
def wX7_chains (S : RT) (x1 : Int32) (Q : Int32 → RT → Prop) : Prop := (wX7_isIn  x1 (0 : Int32) (2 : Int32) (fun (r_1 : Int32) => (if r_1 = (0 : Int32) then (wX7_no S (-2 : Int32) (fun (r_4 : Int32) (S_3 : RT) => (Q r_4 S_3))) else (∃ j : Nat, bX7_chains_23 Q j S x1 (0 : Int32) (0 : Int32) (0 : Int32)))))
def bX7_sides_94 (K48 : RT → Int32 → Int32 → Int32 → Int32 → Int32 → Prop) (Q : Int32 → RT → Prop) (S : RT) (x1 : Int32) (x2 : Int32) (x3 : Int32) (x4 : Int32) (x5 : Int32) : Prop := (∀ x5_1 : Int32, x5_1 = (x5 + (2 : Int32)) → (K48 S x1 x2 x3 x4 x5_1))
def bX7_sides_87 (K48 : RT → Int32 → Int32 → Int32 → Int32 → Int32 → Prop) (Q : Int32 → RT → Prop) (S : RT) (x1 : Int32) (x2 : Int32) (x5 : Int32) (x6 : Int32) : Prop := (bX7_sides_94 K48 Q S x1 x2 x5 x6 x5)
def bX7_sides_48 (Q : Int32 → RT → Prop) : Nat → RT → Int32 → Int32 → Int32 → Int32 → Int32 → Prop
  | 0, _, _, _, _, _, _ => False
  | n + 1, S, x1, x2, x3, x4, x5 => (if ((1 : Int32) <<< ((S 30 8) &&& 31)) ≤ x5 then (if x1 = (0 : Int32) then (Q x3 S) else (Q x4 S)) else (wX7_heftsOf S x5 (fun (r_3 : Int32) => (wX7_far  ((2 : Int32) * r_3) x2 (fun (r_4 : Int32) => (if x3 < (0 : Int32) then (bX7_sides_87 (fun (S_ : RT) (x1_ : Int32) (x2_ : Int32) (x3_ : Int32) (x4_ : Int32) (x5_ : Int32) => bX7_sides_48 Q n S_ x1_ x2_ x3_ x4_ x5_) Q S x1 x2 x5 r_4) else (if r_4 < x4 then (bX7_sides_87 (fun (S_ : RT) (x1_ : Int32) (x2_ : Int32) (x3_ : Int32) (x4_ : Int32) (x5_ : Int32) => bX7_sides_48 Q n S_ x1_ x2_ x3_ x4_ x5_) Q S x1 x2 x5 r_4) else (bX7_sides_94 (fun (S_ : RT) (x1_ : Int32) (x2_ : Int32) (x3_ : Int32) (x4_ : Int32) (x5_ : Int32) => bX7_sides_48 Q n S_ x1_ x2_ x3_ x4_ x5_) Q S x1 x2 x3 x4 x5))))))))
def wX7_sides (S : RT) (x1 : Int32) (Q : Int32 → RT → Prop) : Prop := (wX7_isIn  x1 (0 : Int32) (1 : Int32) (fun (r_1 : Int32) => (if r_1 = (0 : Int32) then (wX7_no S (-2 : Int32) (fun (r_6 : Int32) (S_5 : RT) => (Q r_6 S_5))) else (if (S 30 8) = (0 : Int32) then (Q (-9 : Int32) S) else (wX7_heftsOf S (((1 : Int32) <<< ((S 30 8) &&& 31)) - (1 : Int32)) (fun (r_4 : Int32) => (∃ j : Nat, bX7_sides_48 Q j S x1 r_4 (-9 : Int32) (0 : Int32) (1 : Int32))))))))
def bX7_hauledFrom_77 (K4 : Int32 → Int32 → Int32 → Prop) (K13 : Int32 → Int32 → Int32 → Int32 → Prop) (S : RT) (Q : Int32 → Prop) (x1 : Int32) (x2 : Int32) (x3 : Int32) (x4 : Int32) : Prop := (∀ x4_1 : Int32, x4_1 = (x4 + (1 : Int32)) → (K13 x1 x2 x3 x4_1))
def bX7_hauledFrom_70 (K4 : Int32 → Int32 → Int32 → Prop) (K13 : Int32 → Int32 → Int32 → Int32 → Prop) (S : RT) (Q : Int32 → Prop) (x1 : Int32) (x2 : Int32) (x3 : Int32) (x4 : Int32) (x5 : Int32) : Prop := (∀ x2_1 : Int32, x2_1 = (x2 ||| ((1 : Int32) <<< (x5 &&& 31))) → (bX7_hauledFrom_77 K4 K13 S Q x1 x2_1 x3 x4))
def bX7_hauledFrom_13 (K4 : Int32 → Int32 → Int32 → Prop) (S : RT) (Q : Int32 → Prop) : Nat → Int32 → Int32 → Int32 → Int32 → Prop
  | 0, _, _, _, _ => False
  | n + 1, x1, x2, x3, x4 => (if (S 30 9) ≤ x4 then (∀ x3_2 : Int32, x3_2 = (x3 + (1 : Int32)) → (K4 x1 x2 x3_2)) else (wX7_holdsTo S x4 (fun (r_3 : Int32) => (vp_in x4 6 ∧ (∀ x6_5 : Int32, x6_5 = (((S 6 (x4).toNatClampNeg) + (S 7 (x4).toNatClampNeg)) - r_3) → (if r_3 < (0 : Int32) then (bX7_hauledFrom_77 K4 (fun (x1_ : Int32) (x2_ : Int32) (x3_ : Int32) (x4_ : Int32) => bX7_hauledFrom_13 K4 S Q n x1_ x2_ x3_ x4_) S Q x1 x2 x3 x4) else (if x6_5 = x1 then (bX7_hauledFrom_70 K4 (fun (x1_ : Int32) (x2_ : Int32) (x3_ : Int32) (x4_ : Int32) => bX7_hauledFrom_13 K4 S Q n x1_ x2_ x3_ x4_) S Q x1 x2 x3 x4 r_3) else (wX7_has  x2 x6_5 (fun (r_8 : Int32) => (if r_8 = (0 : Int32) then (bX7_hauledFrom_77 K4 (fun (x1_ : Int32) (x2_ : Int32) (x3_ : Int32) (x4_ : Int32) => bX7_hauledFrom_13 K4 S Q n x1_ x2_ x3_ x4_) S Q x1 x2 x3 x4) else (bX7_hauledFrom_70 K4 (fun (x1_ : Int32) (x2_ : Int32) (x3_ : Int32) (x4_ : Int32) => bX7_hauledFrom_13 K4 S Q n x1_ x2_ x3_ x4_) S Q x1 x2 x3 x4 r_3)))))))))))
def bX7_hauledFrom_4 (S : RT) (Q : Int32 → Prop) : Nat → Int32 → Int32 → Int32 → Prop
  | 0, _, _, _ => False
  | n + 1, x1, x2, x3 => (if (8 : Int32) ≤ x3 then (Q x2) else (∃ j : Nat, bX7_hauledFrom_13 (fun (x1_ : Int32) (x2_ : Int32) (x3_ : Int32) => bX7_hauledFrom_4 S Q n x1_ x2_ x3_) S Q j x1 x2 x3 (0 : Int32)))
def wX7_hauledFrom (S : RT) (x1 : Int32) (Q : Int32 → Prop) : Prop := (∃ j : Nat, bX7_hauledFrom_4 S Q j x1 (0 : Int32) (0 : Int32))
def wX7_hauled (S : RT) (x1 : Int32) (x2 : Int32) (Q : Int32 → RT → Prop) : Prop := (wX7_areTwo S x1 x2 (fun (r_1 : Int32) => (if r_1 = (0 : Int32) then (wX7_no S (-1 : Int32) (fun (r_4 : Int32) (S_3 : RT) => (Q r_4 S_3))) else (wX7_hauledFrom S x1 (fun (r_5 : Int32) => (Q ((r_5 >>> (x2 &&& 31)) &&& (1 : Int32)) S))))))
def bX7_top_60 (K26 : RT → Int32 → Int32 → Int32 → Prop) (Q : Int32 → RT → Prop) (S : RT) (x2 : Int32) (x4 : Int32) (t0 : Int32) : Prop := (∀ x4_1 : Int32, x4_1 = (x4 + (-1 : Int32)) → (K26 S x2 t0 x4_1))
def bX7_top_59 (K26 : RT → Int32 → Int32 → Int32 → Prop) (Q : Int32 → RT → Prop) (S : RT) (x2 : Int32) (x3 : Int32) (x4 : Int32) : Prop := (bX7_top_60 K26 Q S x2 x4 x3)
def bX7_top_26 (Q : Int32 → RT → Prop) : Nat → RT → Int32 → Int32 → Int32 → Prop
  | 0, _, _, _, _ => False
  | n + 1, S, x2, x3, x4 => (if x4 < (0 : Int32) then (Q x3 S) else (wX7_has  x2 x4 (fun (r_2 : Int32) => (if r_2 = (0 : Int32) then (bX7_top_59 (fun (S_ : RT) (x2_ : Int32) (x3_ : Int32) (x4_ : Int32) => bX7_top_26 Q n S_ x2_ x3_ x4_) Q S x2 x3 x4) else (wX7_heft S x4 (fun (r_4 : Int32) => (wX7_heft S x3 (fun (r_5 : Int32) => (if r_4 < r_5 then (bX7_top_59 (fun (S_ : RT) (x2_ : Int32) (x3_ : Int32) (x4_ : Int32) => bX7_top_26 Q n S_ x2_ x3_ x4_) Q S x2 x3 x4) else (bX7_top_60 (fun (S_ : RT) (x2_ : Int32) (x3_ : Int32) (x4_ : Int32) => bX7_top_26 Q n S_ x2_ x3_ x4_) Q S x2 x4 x4))))))))))
def wX7_top (S : RT) (x1 : Int32) (Q : Int32 → RT → Prop) : Prop := (wX7_isThing S x1 (fun (r_1 : Int32) => (if r_1 = (0 : Int32) then (wX7_no S (-1 : Int32) (fun (r_5 : Int32) (S_4 : RT) => (Q r_5 S_4))) else (wX7_hauledFrom S x1 (fun (r_3 : Int32) => (∃ j : Nat, bX7_top_26 Q j S r_3 x1 (7 : Int32)))))))
def bX7_odd_28 (K4 : Int32 → Int32 → Prop) (S : RT) (Q : Int32 → Prop) (x2 : Int32) (t0 : Int32) (t1 : Int32) : Prop := (∀ x1_1 : Int32, x1_1 = (t0 ||| t1) → (∀ x2_2 : Int32, x2_2 = (x2 + (1 : Int32)) → (K4 x1_1 x2_2)))
def bX7_odd_4 (S : RT) (Q : Int32 → Prop) : Nat → Int32 → Int32 → Prop
  | 0, _, _ => False
  | n + 1, x1, x2 => (if (S 30 9) ≤ x2 then (Q x1) else (wX7_holdsTo S x2 (fun (r_2 : Int32) => (if (0 : Int32) ≤ r_2 then (bX7_odd_28 (fun (x1_ : Int32) (x2_ : Int32) => bX7_odd_4 S Q n x1_ x2_) S Q x2 x1 (0 : Int32)) else (bX7_odd_28 (fun (x1_ : Int32) (x2_ : Int32) => bX7_odd_4 S Q n x1_ x2_) S Q x2 x1 ((1 : Int32) <<< (x2 &&& 31)))))))
def wX7_odd (S : RT) (Q : Int32 → Prop) : Prop := (∃ j : Nat, bX7_odd_4 S Q j (0 : Int32) (0 : Int32))
def bX7_meet_58 (K25 : RT → Int32 → Int32 → Int32 → Int32 → Prop) (Q : Int32 → RT → Prop) (S : RT) (x1 : Int32) (x2 : Int32) (x4 : Int32) (t0 : Int32) : Prop := (wX7_goesHour S  (fun (S_1 : RT) => (∀ x4_2 : Int32, x4_2 = (x4 + (1 : Int32)) → (K25 S_1 x1 x2 t0 x4_2))))
def bX7_meet_69 (Q : Int32 → RT → Prop) (S : RT) (x3 : Int32) : Prop := (wX7_forgets S  (fun (S_1 : RT) => (Q x3 S_1)))
def bX7_meet_25 (Q : Int32 → RT → Prop) : Nat → RT → Int32 → Int32 → Int32 → Int32 → Prop
  | 0, _, _, _, _, _ => False
  | n + 1, S, x1, x2, x3, x4 => (if (99 : Int32) < x4 then (bX7_meet_69 Q S x3) else (if (0 : Int32) ≤ x3 then (bX7_meet_69 Q S x3) else (vp_in x1 8 ∧ (vp_in x2 8 ∧ (if (S 5 (x1).toNatClampNeg) = (S 5 (x2).toNatClampNeg) then (bX7_meet_58 (fun (S_ : RT) (x1_ : Int32) (x2_ : Int32) (x3_ : Int32) (x4_ : Int32) => bX7_meet_25 Q n S_ x1_ x2_ x3_ x4_) Q S x1 x2 x4 x4) else (bX7_meet_58 (fun (S_ : RT) (x1_ : Int32) (x2_ : Int32) (x3_ : Int32) (x4_ : Int32) => bX7_meet_25 Q n S_ x1_ x2_ x3_ x4_) Q S x1 x2 x4 (-9 : Int32)))))))
def wX7_meet (S : RT) (x1 : Int32) (x2 : Int32) (Q : Int32 → RT → Prop) : Prop := (wX7_areTwo S x1 x2 (fun (r_1 : Int32) => (if r_1 = (0 : Int32) then (wX7_no S (-1 : Int32) (fun (r_5 : Int32) (S_4 : RT) => (Q r_5 S_4))) else (wX7_thinks S  (fun (S_3 : RT) => (∃ j : Nat, bX7_meet_25 Q j S_3 x1 x2 (-9 : Int32) (0 : Int32)))))))
def bX7_findHigher_3 (Q : RT → Prop) : Nat → RT → Int32 → Int32 → Int32 → Int32 → Prop
  | 0, _, _, _, _, _ => False
  | n + 1, S, x1, x2, x3, x4 => (if (4 : Int32) ≤ x4 then (Q S) else (wX7_thinks S  (fun (S_2 : RT) => (vp_in x1 8 ∧ (wX7_held  ((S_2 4 (x1).toNatClampNeg) + ((2 : Int32) * (x4 / (2 : Int32)))) (0 : Int32) (9 : Int32) (fun (r_4 : Int32) => (∀ S_5 : RT, S_5 = set2 S_2 4 (x1).toNatClampNeg r_4 → (vp_in x2 8 ∧ (wX7_held  ((S_5 4 (x2).toNatClampNeg) + ((2 : Int32) * (x4 - x4 / (2 : Int32) * (2 : Int32)))) (0 : Int32) (9 : Int32) (fun (r_7 : Int32) => (∀ S_8 : RT, S_8 = set2 S_5 4 (x2).toNatClampNeg r_7 → (wX7_goes S_8 x3 (fun (S_9 : RT) => (vp_in x4 4 ∧ (∀ S_11 : RT, S_11 = set2 S_9 24 (x4).toNatClampNeg ((S_9 5 (x1).toNatClampNeg) - (S_9 5 (x2).toNatClampNeg)) → (wX7_forgets S_11  (fun (S_12 : RT) => (∀ x4_13 : Int32, x4_13 = (x4 + (1 : Int32)) → (bX7_findHigher_3 Q n S_12 x1 x2 x3 x4_13)))))))))))))))))))
def wX7_findHigher (S : RT) (x1 : Int32) (x2 : Int32) (x3 : Int32) (Q : RT → Prop) : Prop := (∃ j : Nat, bX7_findHigher_3 Q j S x1 x2 x3 (0 : Int32))
def bX7_two_101 (K44 : RT → Int32 → Prop) (Q : Int32 → RT → Prop) (S : RT) (x5 : Int32) : Prop := (∀ x5_1 : Int32, x5_1 = (x5 + (1 : Int32)) → (K44 S x5_1))
def bX7_two_44 (Q : Int32 → RT → Prop) : Nat → RT → Int32 → Prop
  | 0, _, _ => False
  | n + 1, S, x5 => (if (4 : Int32) ≤ x5 then (Q (-9 : Int32) S) else (vp_in (x5 ^^^ (2 : Int32)) 4 ∧ (vp_in x5 4 ∧ (if (S 24 (x5).toNatClampNeg) < (S 24 ((x5 ^^^ (2 : Int32))).toNatClampNeg) then (bX7_two_101 (fun (S_ : RT) (x5_ : Int32) => bX7_two_44 Q n S_ x5_) Q S x5) else (vp_in (x5 ^^^ (1 : Int32)) 4 ∧ (if (S 24 ((x5 ^^^ (1 : Int32))).toNatClampNeg) < (S 24 (x5).toNatClampNeg) then (bX7_two_101 (fun (S_ : RT) (x5_ : Int32) => bX7_two_44 Q n S_ x5_) Q S x5) else (Q (((10 : Int32) * (x5 / (2 : Int32))) + (x5 - x5 / (2 : Int32) * (2 : Int32))) S)))))))
def bX7_two_20 (Q : Int32 → RT → Prop) (S : RT) (x1 : Int32) (x2 : Int32) (x3 : Int32) (t0 : Int32) : Prop := (if t0 = (0 : Int32) then (wX7_findHigher S x1 x2 x3 (fun (S_2 : RT) => (∃ j : Nat, bX7_two_44 Q j S_2 (0 : Int32)))) else (wX7_no S t0 (fun (r_4 : Int32) (S_3 : RT) => (Q r_4 S_3))))
def wX7_two (S : RT) (x1 : Int32) (x2 : Int32) (x3 : Int32) (Q : Int32 → RT → Prop) : Prop := (wX7_areTwo S x1 x2 (fun (r_1 : Int32) => (if r_1 = (0 : Int32) then (bX7_two_20 Q S x1 x2 x3 (-1 : Int32)) else (wX7_bound  x3 (0 : Int32) (30 : Int32) (fun (r_3 : Int32) => (bX7_two_20 Q S x1 x2 x3 r_3))))))
def bX7_divisor_6 (Q : Int64 → Prop) : Nat → Int64 → Int64 → Prop
  | 0, _, _ => False
  | n + 1, y4, y6 => (if (lg_cmp y6 (0 : Int64)) = (0 : Int32) then (Q y4) else (¬ y6 = 0 ∧ (∀ y8_3 : Int64, y8_3 = (y4 - y4 / y6 * y6) → (bX7_divisor_6 Q n y6 y8_3))))
def wX7_divisor (y0 : Int64) (y2 : Int64) (Q : Int64 → Prop) : Prop := (∃ j : Nat, bX7_divisor_6 Q j y0 y2)
def bX7_partOf_10 (Q : Int64 → Prop) (y0 : Int64) (y2 : Int64) (u0 : Int64) : Prop := (wX7_divisor  y0 y2 (fun (r_1 : Int64) => (¬ r_1 = 0 ∧ (Q (u0 / r_1)))))
def wX7_partOf (y0 : Int64) (y2 : Int64) (x4 : Int32) (Q : Int64 → Prop) : Prop := (if x4 = (0 : Int32) then (bX7_partOf_10 Q y0 y2 y0) else (bX7_partOf_10 Q y0 y2 y2))
def bX7_wet_192 (K127 : RT → Int32 → Int32 → Int32 → Int32 → Int32 → Int32 → Int64 → Int64 → Int32 → Prop) (K145 : RT → Int32 → Int32 → Int32 → Int32 → Int32 → Int32 → Int64 → Int64 → Int32 → Int64 → Int32 → Prop) (Q : Int64 → RT → Prop) (S : RT) (x1 : Int32) (x2 : Int32) (x3 : Int32) (x4 : Int32) (x5 : Int32) (x6 : Int32) (y8 : Int64) (y10 : Int64) (x12 : Int32) (y13 : Int64) (x15 : Int32) (t1 : Int32) : Prop := (∀ S_1 : RT, S_1 = set2 S 30 11 t1 → (wX7_goesHour S_1  (fun (S_2 : RT) => (∀ x15_3 : Int32, x15_3 = (x15 + (1 : Int32)) → (K145 S_2 x1 x2 x3 x4 x5 x6 y8 y10 x12 y13 x15_3)))))
def bX7_wet_172 (K127 : RT → Int32 → Int32 → Int32 → Int32 → Int32 → Int32 → Int64 → Int64 → Int32 → Prop) (K145 : RT → Int32 → Int32 → Int32 → Int32 → Int32 → Int32 → Int64 → Int64 → Int32 → Int64 → Int32 → Prop) (Q : Int64 → RT → Prop) (S : RT) (x1 : Int32) (x2 : Int32) (x3 : Int32) (x4 : Int32) (x5 : Int32) (x6 : Int32) (y8 : Int64) (y10 : Int64) (x12 : Int32) (x15 : Int32) (u0 : Int64) (u1 : Int64) : Prop := (∀ y13_1 : Int64, y13_1 = (u0 * u1) → (wX7_has  x12 x15 (fun (r_2 : Int32) => (if r_2 = (0 : Int32) then (bX7_wet_192 K127 K145 Q S x1 x2 x3 x4 x5 x6 y8 y10 x12 y13_1 x15 (-9 : Int32)) else (bX7_wet_192 K127 K145 Q S x1 x2 x3 x4 x5 x6 y8 y10 x12 y13_1 x15 x1)))))
def bX7_wet_230 (K127 : RT → Int32 → Int32 → Int32 → Int32 → Int32 → Int32 → Int64 → Int64 → Int32 → Prop) (Q : Int64 → RT → Prop) (S : RT) (x1 : Int32) (x2 : Int32) (x3 : Int32) (x4 : Int32) (x5 : Int32) (x6 : Int32) (y10 : Int64) (x12 : Int32) (u0 : Int64) (u1 : Int64) : Prop := (∀ y8_1 : Int64, y8_1 = (u0 + u1) → (wX7_forgets S  (fun (S_2 : RT) => (∀ x12_3 : Int32, x12_3 = (x12 + (1 : Int32)) → (K127 S_2 x1 x2 x3 x4 x5 x6 y8_1 y10 x12_3)))))
def bX7_wet_145 (K127 : RT → Int32 → Int32 → Int32 → Int32 → Int32 → Int32 → Int64 → Int64 → Int32 → Prop) (Q : Int64 → RT → Prop) : Nat → RT → Int32 → Int32 → Int32 → Int32 → Int32 → Int32 → Int64 → Int64 → Int32 → Int64 → Int32 → Prop
  | 0, _, _, _, _, _, _, _, _, _, _, _, _ => False
  | n + 1, S, x1, x2, x3, x4, x5, x6, y8, y10, x12, y13, x15 => (if x3 ≤ x15 then (∀ S_2 : RT, S_2 = set2 S 30 11 (-9 : Int32) → (vp_in x2 8 ∧ (if (S_2 5 (x2).toNatClampNeg) < x5 then (bX7_wet_230 K127 Q S_2 x1 x2 x3 x4 x5 x6 y10 x12 y8 (0 : Int64)) else (bX7_wet_230 K127 Q S_2 x1 x2 x3 x4 x5 x6 y10 x12 y8 y13)))) else (wX7_has  x12 x15 (fun (r_5 : Int32) => (if r_5 = (0 : Int32) then (bX7_wet_172 K127 (fun (S_ : RT) (x1_ : Int32) (x2_ : Int32) (x3_ : Int32) (x4_ : Int32) (x5_ : Int32) (x6_ : Int32) (y8_ : Int64) (y10_ : Int64) (x12_ : Int32) (y13_ : Int64) (x15_ : Int32) => bX7_wet_145 K127 Q n S_ x1_ x2_ x3_ x4_ x5_ x6_ y8_ y10_ x12_ y13_ x15_) Q S x1 x2 x3 x4 x5 x6 y8 y10 x12 x15 y13 (((x4 - (1 : Int32))).toInt64)) else (bX7_wet_172 K127 (fun (S_ : RT) (x1_ : Int32) (x2_ : Int32) (x3_ : Int32) (x4_ : Int32) (x5_ : Int32) (x6_ : Int32) (y8_ : Int64) (y10_ : Int64) (x12_ : Int32) (y13_ : Int64) (x15_ : Int32) => bX7_wet_145 K127 Q n S_ x1_ x2_ x3_ x4_ x5_ x6_ y8_ y10_ x12_ y13_ x15_) Q S x1 x2 x3 x4 x5 x6 y8 y10 x12 x15 y13 (1 : Int64))))))
def bX7_wet_127 (Q : Int64 → RT → Prop) : Nat → RT → Int32 → Int32 → Int32 → Int32 → Int32 → Int32 → Int64 → Int64 → Int32 → Prop
  | 0, _, _, _, _, _, _, _, _, _, _ => False
  | n + 1, S, x1, x2, x3, x4, x5, x6, y8, y10, x12 => (if ((1 : Int32) <<< (x3 &&& 31)) ≤ x12 then (wX7_partOf  y8 y10 x6 (fun (r_2 : Int64) => (Q r_2 S))) else (wX7_thinks S  (fun (S_3 : RT) => (∃ j : Nat, bX7_wet_145 (fun (S_ : RT) (x1_ : Int32) (x2_ : Int32) (x3_ : Int32) (x4_ : Int32) (x5_ : Int32) (x6_ : Int32) (y8_ : Int64) (y10_ : Int64) (x12_ : Int32) => bX7_wet_127 Q n S_ x1_ x2_ x3_ x4_ x5_ x6_ y8_ y10_ x12_) Q j S_3 x1 x2 x3 x4 x5 x6 y8 y10 x12 (1 : Int64) (0 : Int32)))))
def bX7_wet_104 (Q : Int64 → RT → Prop) : Nat → RT → Int32 → Int32 → Int32 → Int32 → Int32 → Int32 → Int64 → Int64 → Int32 → Prop
  | 0, _, _, _, _, _, _, _, _, _, _ => False
  | n + 1, S, x1, x2, x3, x4, x5, x6, y8, y10, x12 => (if x3 ≤ x12 then (∃ j : Nat, bX7_wet_127 Q j S x1 x2 x3 x4 x5 x6 y8 y10 (0 : Int32)) else (∀ y10_2 : Int64, y10_2 = (y10 * ((x4).toInt64)) → (∀ x12_3 : Int32, x12_3 = (x12 + (1 : Int32)) → (bX7_wet_104 Q n S x1 x2 x3 x4 x5 x6 y8 y10_2 x12_3))))
def bX7_wet_81 (Q : Int64 → RT → Prop) (S : RT) (x1 : Int32) (x2 : Int32) (x3 : Int32) (x4 : Int32) (x5 : Int32) (x6 : Int32) (t0 : Int32) : Prop := (if t0 = (0 : Int32) then (∃ j : Nat, bX7_wet_104 Q j S x1 x2 x3 x4 x5 x6 (0 : Int64) (1 : Int64) (0 : Int32)) else (wX7_lowest S t0 (fun (r_3 : Int64) (S_2 : RT) => (Q r_3 S_2))))
def bX7_wet_16 (Q : Int64 → RT → Prop) (S : RT) (x1 : Int32) (x2 : Int32) (x3 : Int32) (x4 : Int32) (x5 : Int32) (x6 : Int32) : Prop := (bX7_wet_81 Q S x1 x2 x3 x4 x5 x6 (-1 : Int32))
def bX7_wet_35 (Q : Int64 → RT → Prop) (S : RT) (x1 : Int32) (x2 : Int32) (x3 : Int32) (x4 : Int32) (x5 : Int32) (x6 : Int32) : Prop := (bX7_wet_81 Q S x1 x2 x3 x4 x5 x6 (-4 : Int32))
def bX7_wet_60 (Q : Int64 → RT → Prop) (S : RT) (x1 : Int32) (x2 : Int32) (x3 : Int32) (x4 : Int32) (x5 : Int32) (x6 : Int32) : Prop := (bX7_wet_81 Q S x1 x2 x3 x4 x5 x6 (-6 : Int32))
def wX7_wet (S : RT) (x1 : Int32) (x2 : Int32) (x3 : Int32) (x4 : Int32) (x5 : Int32) (x6 : Int32) (Q : Int64 → RT → Prop) : Prop := (wX7_isRope S x1 (fun (r_1 : Int32) => (if r_1 = (0 : Int32) then (bX7_wet_16 Q S x1 x2 x3 x4 x5 x6) else (wX7_isThing S x2 (fun (r_3 : Int32) => (if r_3 = (0 : Int32) then (bX7_wet_16 Q S x1 x2 x3 x4 x5 x6) else (if x3 < (0 : Int32) then (bX7_wet_35 Q S x1 x2 x3 x4 x5 x6) else (if x5 < (0 : Int32) then (bX7_wet_35 Q S x1 x2 x3 x4 x5 x6) else (if (2 : Int32) ≤ x4 then (if (7 : Int32) < x3 then (bX7_wet_60 Q S x1 x2 x3 x4 x5 x6) else (if (20 : Int32) < x4 then (bX7_wet_60 Q S x1 x2 x3 x4 x5 x6) else (if x5 ≤ (20 : Int32) then (wX7_isIn  x6 (0 : Int32) (1 : Int32) (fun (r_11 : Int32) => (if r_11 = (0 : Int32) then (bX7_wet_81 Q S x1 x2 x3 x4 x5 x6 (-2 : Int32)) else (bX7_wet_81 Q S x1 x2 x3 x4 x5 x6 (0 : Int32))))) else (bX7_wet_60 Q S x1 x2 x3 x4 x5 x6)))) else (bX7_wet_35 Q S x1 x2 x3 x4 x5 x6))))))))))
def wX7_mean (S : RT) (x1 : Int32) (Q : Int64 → RT → Prop) : Prop := (wX7_isIn  x1 (0 : Int32) (1 : Int32) (fun (r_1 : Int32) => (if r_1 = (0 : Int32) then (wX7_lowest S (-2 : Int32) (fun (r_7 : Int64) (S_6 : RT) => (Q r_7 S_6))) else (if (S 30 8) = (0 : Int32) then (Q ((x1).toInt64) S) else (wX7_allHigh S  (fun (r_4 : Int32) => (wX7_partOf  ((r_4).toInt64) (((S 30 8)).toInt64) x1 (fun (r_5 : Int64) => (Q r_5 S)))))))))
def bX7_isSo_40 (K8 : RT → Int32 → Int32 → Int32 → Prop) (Q : Int32 → RT → Prop) (S : RT) (x1 : Int32) (x3 : Int32) (t0 : Int32) : Prop := (wX7_goesHour S  (fun (S_1 : RT) => (∀ x3_2 : Int32, x3_2 = (x3 + (1 : Int32)) → (K8 S_1 x1 t0 x3_2))))
def bX7_isSo_51 (Q : Int32 → RT → Prop) (S : RT) (x2 : Int32) : Prop := (wX7_forgets S  (fun (S_1 : RT) => (bz x2 ∧ (Q x2 S_1))))
def bX7_isSo_8 (Q : Int32 → RT → Prop) : Nat → RT → Int32 → Int32 → Int32 → Prop
  | 0, _, _, _, _ => False
  | n + 1, S, x1, x2, x3 => (if (S 30 26) ≤ x3 then (bX7_isSo_51 Q S x2) else (if x2 = (0 : Int32) then (bX7_isSo_51 Q S x2) else (vp_in x1 8 ∧ (vp_in x3 16 ∧ (if (S 5 (x1).toNatClampNeg) = (S 25 (x3).toNatClampNeg) then (bX7_isSo_40 (fun (S_ : RT) (x1_ : Int32) (x2_ : Int32) (x3_ : Int32) => bX7_isSo_8 Q n S_ x1_ x2_ x3_) Q S x1 x3 (1 : Int32)) else (bX7_isSo_40 (fun (S_ : RT) (x1_ : Int32) (x2_ : Int32) (x3_ : Int32) => bX7_isSo_8 Q n S_ x1_ x2_ x3_) Q S x1 x3 (0 : Int32)))))))
def wX7_isSo (S : RT) (x1 : Int32) (Q : Int32 → RT → Prop) : Prop := (wX7_thinks S  (fun (S_1 : RT) => (∃ j : Nat, bX7_isSo_8 Q j S_1 x1 (1 : Int32) (0 : Int32))))
def bX7_kindsOf_44 (K12 : RT → Int32 → Int32 → Int32 → Int32 → Prop) (Q : Int32 → RT → Prop) (S : RT) (x1 : Int32) (x2 : Int32) (x4 : Int32) (t0 : Int32) (t1 : Int32) : Prop := (∀ x3_1 : Int32, x3_1 = (t0 ||| t1) → (∀ x4_2 : Int32, x4_2 = (x4 + (1 : Int32)) → (K12 S x1 x2 x3_1 x4_2)))
def bX7_kindsOf_12 (Q : Int32 → RT → Prop) : Nat → RT → Int32 → Int32 → Int32 → Int32 → Prop
  | 0, _, _, _, _, _ => False
  | n + 1, S, x1, x2, x3, x4 => (if (6 : Int32) ≤ x4 then (vp_in x1 8 ∧ (∀ S_3 : RT, S_3 = set2 S 1 (x1).toNatClampNeg x2 → (Q x3 S_3))) else (vp_in x1 8 ∧ (∀ S_5 : RT, S_5 = set2 S 1 (x1).toNatClampNeg x4 → (wX7_isSo S_5 x1 (fun (r_7 : Int32) (S_6 : RT) => (if r_7 = (0 : Int32) then (bX7_kindsOf_44 (fun (S_ : RT) (x1_ : Int32) (x2_ : Int32) (x3_ : Int32) (x4_ : Int32) => bX7_kindsOf_12 Q n S_ x1_ x2_ x3_ x4_) Q S_6 x1 x2 x4 x3 (0 : Int32)) else (bX7_kindsOf_44 (fun (S_ : RT) (x1_ : Int32) (x2_ : Int32) (x3_ : Int32) (x4_ : Int32) => bX7_kindsOf_12 Q n S_ x1_ x2_ x3_ x4_) Q S_6 x1 x2 x4 x3 ((1 : Int32) <<< (x4 &&& 31)))))))))
def wX7_kindsOf (S : RT) (x1 : Int32) (Q : Int32 → RT → Prop) : Prop := (vp_in x1 8 ∧ (∀ x2_2 : Int32, x2_2 = (S 1 (x1).toNatClampNeg) → (∃ j : Nat, bX7_kindsOf_12 Q j S x1 x2_2 (0 : Int32) (0 : Int32))))
def bX7_weightsOf_41 (K12 : RT → Int32 → Int32 → Int32 → Int32 → Prop) (Q : Int32 → RT → Prop) (S : RT) (x1 : Int32) (x2 : Int32) (x4 : Int32) (t0 : Int32) (t1 : Int32) : Prop := (∀ x3_1 : Int32, x3_1 = (t0 + t1) → (∀ x4_2 : Int32, x4_2 = (x4 + (1 : Int32)) → (K12 S x1 x2 x3_1 x4_2)))
def bX7_weightsOf_12 (Q : Int32 → RT → Prop) : Nat → RT → Int32 → Int32 → Int32 → Int32 → Prop
  | 0, _, _, _, _, _ => False
  | n + 1, S, x1, x2, x3, x4 => (if (60 : Int32) < x4 then (vp_in x1 8 ∧ (∀ S_3 : RT, S_3 = set2 S 3 (x1).toNatClampNeg x2 → (Q x3 S_3))) else (vp_in x1 8 ∧ (∀ S_5 : RT, S_5 = set2 S 3 (x1).toNatClampNeg x4 → (wX7_isSo S_5 x1 (fun (r_7 : Int32) (S_6 : RT) => (if r_7 = (0 : Int32) then (bX7_weightsOf_41 (fun (S_ : RT) (x1_ : Int32) (x2_ : Int32) (x3_ : Int32) (x4_ : Int32) => bX7_weightsOf_12 Q n S_ x1_ x2_ x3_ x4_) Q S_6 x1 x2 x4 x3 (0 : Int32)) else (bX7_weightsOf_41 (fun (S_ : RT) (x1_ : Int32) (x2_ : Int32) (x3_ : Int32) (x4_ : Int32) => bX7_weightsOf_12 Q n S_ x1_ x2_ x3_ x4_) Q S_6 x1 x2 x4 x3 (1 : Int32))))))))
def wX7_weightsOf (S : RT) (x1 : Int32) (Q : Int32 → RT → Prop) : Prop := (vp_in x1 8 ∧ (∀ x2_2 : Int32, x2_2 = (S 3 (x1).toNatClampNeg) → (∃ j : Nat, bX7_weightsOf_12 Q j S x1 x2_2 (0 : Int32) (0 : Int32))))
def bX7_whatIs_27 (Q : Int32 → RT → Prop) (S : RT) (x1 : Int32) (x2 : Int32) (t0 : Int32) : Prop := (if t0 = (0 : Int32) then (if x2 = (0 : Int32) then (wX7_kindsOf S x1 (fun (r_6 : Int32) (S_5 : RT) => (Q r_6 S_5))) else (wX7_weightsOf S x1 (fun (r_4 : Int32) (S_3 : RT) => (Q r_4 S_3)))) else (wX7_no S t0 (fun (r_8 : Int32) (S_7 : RT) => (Q r_8 S_7))))
def wX7_whatIs (S : RT) (x1 : Int32) (x2 : Int32) (Q : Int32 → RT → Prop) : Prop := (wX7_isThing S x1 (fun (r_1 : Int32) => (if r_1 = (0 : Int32) then (bX7_whatIs_27 Q S x1 x2 (-1 : Int32)) else (wX7_isIn  x2 (0 : Int32) (1 : Int32) (fun (r_3 : Int32) => (if r_3 = (0 : Int32) then (bX7_whatIs_27 Q S x1 x2 (-2 : Int32)) else (bX7_whatIs_27 Q S x1 x2 (0 : Int32))))))))
def bX7_row_24 (Q : Int32 → RT → Prop) (S : RT) (x1 : Int32) (x2 : Int32) : Prop := (if x2 = (0 : Int32) then (vp_in (S 30 26) 16 ∧ (∀ S_3 : RT, S_3 = set2 S 25 ((S 30 26)).toNatClampNeg x1 → (∀ S_4 : RT, S_4 = set2 S_3 30 26 ((S_3 30 26) + (1 : Int32)) → (Q (S_4 30 26) S_4)))) else (wX7_no S x2 (fun (r_6 : Int32) (S_5 : RT) => (Q r_6 S_5))))
def wX7_row (S : RT) (x1 : Int32) (Q : Int32 → RT → Prop) : Prop := (wX7_bound  x1 (0 : Int32) (99 : Int32) (fun (r_1 : Int32) => (if r_1 = (0 : Int32) then (if (S 30 26) = (16 : Int32) then (bX7_row_24 Q S x1 (-6 : Int32)) else (bX7_row_24 Q S x1 r_1)) else (bX7_row_24 Q S x1 r_1))))
def bX7_judge_12 (Q : Int32 → RT → Prop) : Nat → RT → Int32 → Int32 → Prop
  | 0, _, _, _ => False
  | n + 1, S, x1, x2 => (if x1 ≤ x2 then (Q (-9 : Int32) S) else (if (x2 + (1 : Int32)) = x1 then (Q x2 S) else (vp_in x2 16 ∧ (wX7_isThing S (S 25 (x2).toNatClampNeg) (fun (r_4 : Int32) => (if r_4 = (0 : Int32) then (Q x2 S) else (vp_in (x2 + (1 : Int32)) 16 ∧ (wX7_areTwo S (S 25 (x2).toNatClampNeg) (S 25 ((x2 + (1 : Int32))).toNatClampNeg) (fun (r_7 : Int32) => (if r_7 = (0 : Int32) then (Q (x2 + (1 : Int32)) S) else (wX7_heft S (S 25 (x2).toNatClampNeg) (fun (r_9 : Int32) => (wX7_heft S (S 25 ((x2 + (1 : Int32))).toNatClampNeg) (fun (r_10 : Int32) => (if r_9 < r_10 then (∀ x2_12 : Int32, x2_12 = (x2 + (2 : Int32)) → (bX7_judge_12 Q n S x1 x2_12)) else (Q (x2 + (1 : Int32)) S))))))))))))))))
def wX7_judge (S : RT) (Q : Int32 → RT → Prop) : Prop := (∀ x1_1 : Int32, x1_1 = (S 30 26) → (∀ S_2 : RT, S_2 = set2 S 30 26 (0 : Int32) → (∃ j : Nat, bX7_judge_12 Q j S_2 x1_1 (0 : Int32))))
def wX7_clear (S : RT) (Q : Int32 → RT → Prop) : Prop := (∀ x1_1 : Int32, x1_1 = (S 30 26) → (∀ S_2 : RT, S_2 = set2 S 30 26 (0 : Int32) → (Q x1_1 S_2)))
def bX7_lots_134 (K48 : RT → Int32 → Int32 → Int32 → Int32 → Int32 → Prop) (Q : Int32 → RT → Prop) (S : RT) (x1 : Int32) (x3 : Int32) (x5 : Int32) (x7 : Int32) (t0 : Int32) (t1 : Int32) : Prop := (∀ x6_1 : Int32, x6_1 = (t0 + t1) → (wX7_forgets S  (fun (S_2 : RT) => (∀ x7_3 : Int32, x7_3 = (x7 + (1 : Int32)) → (K48 S_2 x1 x3 x5 x6_1 x7_3)))))
def bX7_lots_61 (K48 : RT → Int32 → Int32 → Int32 → Int32 → Int32 → Prop) (Q : Int32 → RT → Prop) : Nat → RT → Int32 → Int32 → Int32 → Int32 → Int32 → Int32 → Prop
  | 0, _, _, _, _, _, _, _ => False
  | n + 1, S, x1, x3, x5, x6, x7, x8 => (if (S 30 8) ≤ x8 then (wX7_goes S (10 : Int32) (fun (S_2 : RT) => (if x3 = (0 : Int32) then (wX7_allHigh S_2  (fun (r_6 : Int32) => (bX7_lots_134 K48 Q S_2 x1 x3 x5 x7 x6 r_6))) else (wX7_odd S_2  (fun (r_4 : Int32) => (wX7_bits  r_4 (fun (r_5 : Int32) => (bX7_lots_134 K48 Q S_2 x1 x3 x5 x7 x6 r_5)))))))) else (∀ x5_7 : Int32, x5_7 = ((x5 * (1664525 : Int32)) + (1013904223 : Int32)) → (vp_in x8 8 ∧ (∀ S_9 : RT, S_9 = set2 S 4 (x8).toNatClampNeg (((x5_7 &&& (2147483647 : Int32)) / (256 : Int32)) - ((x5_7 &&& (2147483647 : Int32)) / (256 : Int32)) / (10 : Int32) * (10 : Int32)) → (∀ x8_10 : Int32, x8_10 = (x8 + (1 : Int32)) → (bX7_lots_61 K48 Q n S_9 x1 x3 x5_7 x6 x7 x8_10))))))
def bX7_lots_48 (Q : Int32 → RT → Prop) : Nat → RT → Int32 → Int32 → Int32 → Int32 → Int32 → Prop
  | 0, _, _, _, _, _, _ => False
  | n + 1, S, x1, x3, x5, x6, x7 => (if x1 ≤ x7 then (Q x6 S) else (wX7_thinks S  (fun (S_2 : RT) => (∃ j : Nat, bX7_lots_61 (fun (S_ : RT) (x1_ : Int32) (x3_ : Int32) (x5_ : Int32) (x6_ : Int32) (x7_ : Int32) => bX7_lots_48 Q n S_ x1_ x3_ x5_ x6_ x7_) Q j S_2 x1 x3 x5 x6 x7 (0 : Int32)))))
def bX7_lots_27 (Q : Int32 → RT → Prop) (S : RT) (x1 : Int32) (x2 : Int32) (x3 : Int32) (x4 : Int32) : Prop := (if x4 = (0 : Int32) then (∃ j : Nat, bX7_lots_48 Q j S x1 x3 x2 (0 : Int32) (0 : Int32)) else (wX7_no S x4 (fun (r_3 : Int32) (S_2 : RT) => (Q r_3 S_2))))
def wX7_lots (S : RT) (x1 : Int32) (x2 : Int32) (x3 : Int32) (Q : Int32 → RT → Prop) : Prop := (wX7_bound  x1 (1 : Int32) (20 : Int32) (fun (r_1 : Int32) => (if r_1 = (0 : Int32) then (wX7_isIn  x3 (0 : Int32) (1 : Int32) (fun (r_3 : Int32) => (if r_3 = (0 : Int32) then (bX7_lots_27 Q S x1 x2 x3 (-2 : Int32)) else (bX7_lots_27 Q S x1 x2 x3 r_1)))) else (bX7_lots_27 Q S x1 x2 x3 r_1))))
def bX7_count_94 (S : RT) (Q : Int32 → Prop) : Nat → Int32 → Int32 → Prop
  | 0, _, _ => False
  | n + 1, x2, x3 => (if (S 30 8) ≤ x3 then (Q x2) else (vp_in x3 8 ∧ (∀ x2_3 : Int32, x2_3 = (x2 + (S 4 (x3).toNatClampNeg)) → (∀ x3_4 : Int32, x3_4 = (x3 + (1 : Int32)) → (bX7_count_94 S Q n x2_3 x3_4)))))
def wX7_count (S : RT) (x1 : Int32) (Q : Int32 → Prop) : Prop := (wX7_isIn  x1 (11 : Int32) (16 : Int32) (fun (r_1 : Int32) => (if r_1 = (0 : Int32) then (if x1 = (0 : Int32) then (Q (S 30 8)) else (if x1 = (1 : Int32) then (Q (S 30 9)) else (if x1 = (2 : Int32) then (Q (S 30 10)) else (if x1 = (3 : Int32) then (wX7_allHigh S  (fun (r_8 : Int32) => (Q r_8))) else (if x1 = (4 : Int32) then (∃ j : Nat, bX7_count_94 S Q j (0 : Int32) (0 : Int32)) else (if x1 = (5 : Int32) then (wX7_heftsOf S (((1 : Int32) <<< ((S 30 8) &&& 31)) - (1 : Int32)) (fun (r_11 : Int32) => (Q r_11))) else (if x1 = (6 : Int32) then (Q (S 30 26)) else (if x1 = (7 : Int32) then (Q (S 30 16)) else (Q (-9 : Int32)))))))))) else (vp_in (x1 - (10 : Int32)) 7 ∧ (Q (S 0 ((x1 - (10 : Int32))).toNatClampNeg))))))
abbrev rmX7_no : Room := { frames := 0, cells := 0, slots := 0, locals := 0 }
set_option maxHeartbeats 4000000 in
set_option maxRecDepth 100000 in
theorem m_X7_no (l : Launch) (z : KT) (qS : Nat → Nat) (S : RT) (x1 : Int32) (Q : Int32 → RT → Prop) (h : wX7_no S x1 Q) : CI l yX7_no cX7_no 2 .int rmX7_no z [.ref (qS 0), .int x1] (sW z qS S) (fun u : RT => (sW z qS u)) (fun (r : Int32) (u : RT) => Q r u) := by
  refine CI.of rfl (Nat.le_of_ble_eq_true rfl) ?_
  intro p e s m below meth c A ls M hw hl
  have M : Mc p s m _ meth c cX7_no 2 (some .int) RX7 z A := M
  obtain ⟨hx, hb, -, -, hown, hts, -, -, -, hN, hsr, -⟩ := id M
  have hl : lv_has ls 2 [(0, .ref (qS 0)), (1, .int x1)] := hl
  unfold wX7_no at h
  generalize s.heap = H at hw ⊢
  generalize ([] : List Loc) = locs at hw ⊢
  refine lv_aload_n hx hb dX7_no_0 rfl (lv_at hl 0 rfl) ?_
  refine gt_f (v := .ref (qS 1)) M inlX7 hw 0 rfl rfl 0 (by decide) fl_X7_7 rfl rfl dX7_no_1 ?_
  refine lv_iload_n hx hb dX7_no_4 rfl (lv_at hl 1 rfl) ?_
  refine lv_ineg hx hb dX7_no_5 ?_
  refine lv_dup2_11 hx hb dX7_no_6 rfl rfl ?_
  obtain ⟨a_1, h⟩ := h
  refine ld_i M hw 1 rfl a_1 dX7_no_7 ?_
  refine lv_iconst (v := 1) hx hb dX7_no_8 (by decide) ?_
  refine lv_iadd hx hb dX7_no_9 ?_
  refine st_i (P := S) (r := 0) (wN := fun S_2 => (sW z qS S_2)) M hw 1 rfl rfl a_1 dX7_no_10 (fun S_2 H locs eS_2 hw => ?_)
  replace h := h S_2 eS_2
  refine lv_iload_n hx hb dX7_no_11 rfl (lv_at hl 1 rfl) ?_
  exact rt_i M S_2 hw h dX7_no_12
abbrev rmX7_lowest : Room := { frames := 0, cells := 0, slots := 0, locals := 0 }
set_option maxHeartbeats 4000000 in
set_option maxRecDepth 100000 in
theorem m_X7_lowest (l : Launch) (z : KT) (qS : Nat → Nat) (S : RT) (x1 : Int32) (Q : Int64 → RT → Prop) (h : wX7_lowest S x1 Q) : CL l yX7_lowest cX7_lowest 2 .long rmX7_lowest z [.ref (qS 0), .int x1] (sW z qS S) (fun u : RT => (sW z qS u)) (fun (r : Int64) (u : RT) => Q r u) := by
  refine CL.of rfl (Nat.le_of_ble_eq_true rfl) ?_
  intro p e s m below meth c A ls M hw hl
  have M : Mc p s m _ meth c cX7_lowest 2 (some .long) RX7 z A := M
  obtain ⟨hx, hb, -, -, hown, hts, -, -, -, hN, hsr, -⟩ := id M
  have hl : lv_has ls 2 [(0, .ref (qS 0)), (1, .int x1)] := hl
  unfold wX7_lowest at h
  generalize s.heap = H at hw ⊢
  generalize ([] : List Loc) = locs at hw ⊢
  refine lv_aload_n hx hb dX7_lowest_0 rfl (lv_at hl 0 rfl) ?_
  refine gt_f (v := .ref (qS 1)) M inlX7 hw 0 rfl rfl 0 (by decide) fl_X7_7 rfl rfl dX7_lowest_1 ?_
  refine lv_iload_n hx hb dX7_lowest_4 rfl (lv_at hl 1 rfl) ?_
  refine lv_ineg hx hb dX7_lowest_5 ?_
  refine lv_dup2_11 hx hb dX7_lowest_6 rfl rfl ?_
  obtain ⟨a_1, h⟩ := h
  refine ld_i M hw 1 rfl a_1 dX7_lowest_7 ?_
  refine lv_iconst (v := 1) hx hb dX7_lowest_8 (by decide) ?_
  refine lv_iadd hx hb dX7_lowest_9 ?_
  refine st_i (P := S) (r := 0) (wN := fun S_2 => (sW z qS S_2)) M hw 1 rfl rfl a_1 dX7_lowest_10 (fun S_2 H locs eS_2 hw => ?_)
  replace h := h S_2 eS_2
  refine lv_ldc2 hx hb hown (hts _ cl_X7_65) dX7_lowest_11 ?_
  refine lv_iload_n hx hb dX7_lowest_14 rfl (lv_at hl 1 rfl) ?_
  refine lv_i2l hx hb dX7_lowest_15 rfl ?_
  refine lv_lsub hx hb dX7_lowest_16 ?_
  exact rt_l M S_2 hw h dX7_lowest_17
abbrev rmX7_isIn : Room := { frames := 0, cells := 0, slots := 0, locals := 0 }
set_option maxHeartbeats 4000000 in
set_option maxRecDepth 100000 in
theorem m_X7_isIn (l : Launch) (z : KT) (x0 : Int32) (x1 : Int32) (x2 : Int32) (Q : Int32 → Prop) (h : wX7_isIn x0 x1 x2 Q) : CI l yX7_isIn cX7_isIn 3 .boolean rmX7_isIn z [.int x0, .int x1, .int x2] ([] : va_W) (fun _ : Unit => ([] : va_W)) (fun (r : Int32) (_ : Unit) => Q r) := by
  refine CI.of rfl (Nat.le_of_ble_eq_true rfl) ?_
  intro p e s m below meth c A ls M hw hl
  have M : Mc p s m _ meth c cX7_isIn 3 (some .boolean) RX7 z A := M
  obtain ⟨hx, hb, -, -, hown, hts, -, -, -, hN, hsr, -⟩ := id M
  have hl : lv_has ls 3 [(0, .int x0), (1, .int x1), (2, .int x2)] := hl
  unfold wX7_isIn at h
  generalize s.heap = H at hw ⊢
  generalize ([] : List Loc) = locs at hw ⊢
  refine lv_iload_n hx hb dX7_isIn_0 rfl (lv_at hl 0 rfl) ?_
  refine lv_iload_n hx hb dX7_isIn_1 rfl (lv_at hl 1 rfl) ?_
  refine lv_icmp_lt (tgt := 14) hx hb dX7_isIn_2 (by decide) (fun c_1 => ?_) (fun c_1 => ?_)
  · replace h := iT c_1 h
    refine lv_iconst (v := 0) hx hb dX7_isIn_14 (by decide) ?_
    exact rt_z M () hw bz0 h dX7_isIn_15
  · replace h := iF c_1 h
    refine lv_iload_n hx hb dX7_isIn_5 rfl (lv_at hl 0 rfl) ?_
    refine lv_iload_n hx hb dX7_isIn_6 rfl (lv_at hl 2 rfl) ?_
    refine lv_icmp_gt (tgt := 14) hx hb dX7_isIn_7 (by decide) (fun c_2 => ?_) (fun c_2 => ?_)
    · replace h := iT c_2 h
      refine lv_iconst (v := 0) hx hb dX7_isIn_14 (by decide) ?_
      exact rt_z M () hw bz0 h dX7_isIn_15
    · replace h := iF c_2 h
      refine lv_iconst (v := 1) hx hb dX7_isIn_10 (by decide) ?_
      refine lv_goto (tgt := 15) hx hb dX7_isIn_11 (by decide) ?_
      exact rt_z M () hw bz1 h dX7_isIn_15
abbrev rmX7_bound : Room := { frames := 0, cells := 0, slots := 0, locals := 0 }
set_option maxHeartbeats 4000000 in
set_option maxRecDepth 100000 in
theorem m_X7_bound (l : Launch) (z : KT) (x0 : Int32) (x1 : Int32) (x2 : Int32) (Q : Int32 → Prop) (h : wX7_bound x0 x1 x2 Q) : CI l yX7_bound cX7_bound 3 .int rmX7_bound z [.int x0, .int x1, .int x2] ([] : va_W) (fun _ : Unit => ([] : va_W)) (fun (r : Int32) (_ : Unit) => Q r) := by
  refine CI.of rfl (Nat.le_of_ble_eq_true rfl) ?_
  intro p e s m below meth c A ls M hw hl
  have M : Mc p s m _ meth c cX7_bound 3 (some .int) RX7 z A := M
  obtain ⟨hx, hb, -, -, hown, hts, -, -, -, hN, hsr, -⟩ := id M
  have hl : lv_has ls 3 [(0, .int x0), (1, .int x1), (2, .int x2)] := hl
  unfold wX7_bound at h
  generalize s.heap = H at hw ⊢
  generalize ([] : List Loc) = locs at hw ⊢
  refine lv_iload_n hx hb dX7_bound_0 rfl (lv_at hl 0 rfl) ?_
  refine lv_iload_n hx hb dX7_bound_1 rfl (lv_at hl 1 rfl) ?_
  refine lv_icmp_ge (tgt := 10) hx hb dX7_bound_2 (by decide) (fun c_1 => ?_) (fun c_1 => ?_)
  · replace h := iT c_1 h
    refine lv_iload_n hx hb dX7_bound_10 rfl (lv_at hl 0 rfl) ?_
    refine lv_iload_n hx hb dX7_bound_11 rfl (lv_at hl 2 rfl) ?_
    refine lv_icmp_le (tgt := 20) hx hb dX7_bound_12 (by decide) (fun c_2 => ?_) (fun c_2 => ?_)
    · replace h := iT c_2 h
      refine lv_iconst (v := 0) hx hb dX7_bound_20 (by decide) ?_
      exact rt_i M () hw h dX7_bound_21
    · replace h := iF c_2 h
      refine lv_bipush (v := -6) hx hb dX7_bound_15 (by decide) ?_
      refine lv_goto (tgt := 21) hx hb dX7_bound_17 (by decide) ?_
      exact rt_i M () hw h dX7_bound_21
  · replace h := iF c_1 h
    refine lv_bipush (v := -4) hx hb dX7_bound_5 (by decide) ?_
    refine lv_goto (tgt := 21) hx hb dX7_bound_7 (by decide) ?_
    exact rt_i M () hw h dX7_bound_21
abbrev rmX7_held : Room := { frames := 0, cells := 0, slots := 0, locals := 0 }
set_option maxHeartbeats 4000000 in
set_option maxRecDepth 100000 in
theorem m_X7_held (l : Launch) (z : KT) (x0 : Int32) (x1 : Int32) (x2 : Int32) (Q : Int32 → Prop) (h : wX7_held x0 x1 x2 Q) : CI l yX7_held cX7_held 3 .int rmX7_held z [.int x0, .int x1, .int x2] ([] : va_W) (fun _ : Unit => ([] : va_W)) (fun (r : Int32) (_ : Unit) => Q r) := by
  refine CI.of rfl (Nat.le_of_ble_eq_true rfl) ?_
  intro p e s m below meth c A ls M hw hl
  have M : Mc p s m _ meth c cX7_held 3 (some .int) RX7 z A := M
  obtain ⟨hx, hb, -, -, hown, hts, -, -, -, hN, hsr, -⟩ := id M
  have hl : lv_has ls 3 [(0, .int x0), (1, .int x1), (2, .int x2)] := hl
  unfold wX7_held at h
  generalize s.heap = H at hw ⊢
  generalize ([] : List Loc) = locs at hw ⊢
  refine lv_iload_n hx hb dX7_held_0 rfl (lv_at hl 0 rfl) ?_
  refine lv_iload_n hx hb dX7_held_1 rfl (lv_at hl 1 rfl) ?_
  refine lv_icmp_ge (tgt := 9) hx hb dX7_held_2 (by decide) (fun c_1 => ?_) (fun c_1 => ?_)
  · replace h := iT c_1 h
    refine lv_iload_n hx hb dX7_held_9 rfl (lv_at hl 0 rfl) ?_
    refine lv_iload_n hx hb dX7_held_10 rfl (lv_at hl 2 rfl) ?_
    refine lv_icmp_le (tgt := 18) hx hb dX7_held_11 (by decide) (fun c_2 => ?_) (fun c_2 => ?_)
    · replace h := iT c_2 h
      refine lv_iload_n hx hb dX7_held_18 rfl (lv_at hl 0 rfl) ?_
      exact rt_i M () hw h dX7_held_19
    · replace h := iF c_2 h
      refine lv_iload_n hx hb dX7_held_14 rfl (lv_at hl 2 rfl) ?_
      refine lv_goto (tgt := 19) hx hb dX7_held_15 (by decide) ?_
      exact rt_i M () hw h dX7_held_19
  · replace h := iF c_1 h
    refine lv_iload_n hx hb dX7_held_5 rfl (lv_at hl 1 rfl) ?_
    refine lv_goto (tgt := 19) hx hb dX7_held_6 (by decide) ?_
    exact rt_i M () hw h dX7_held_19
abbrev rmX7_has : Room := { frames := 0, cells := 0, slots := 0, locals := 0 }
set_option maxHeartbeats 4000000 in
set_option maxRecDepth 100000 in
theorem m_X7_has (l : Launch) (z : KT) (x0 : Int32) (x1 : Int32) (Q : Int32 → Prop) (h : wX7_has x0 x1 Q) : CI l yX7_has cX7_has 2 .boolean rmX7_has z [.int x0, .int x1] ([] : va_W) (fun _ : Unit => ([] : va_W)) (fun (r : Int32) (_ : Unit) => Q r) := by
  refine CI.of rfl (Nat.le_of_ble_eq_true rfl) ?_
  intro p e s m below meth c A ls M hw hl
  have M : Mc p s m _ meth c cX7_has 2 (some .boolean) RX7 z A := M
  obtain ⟨hx, hb, -, -, hown, hts, -, -, -, hN, hsr, -⟩ := id M
  have hl : lv_has ls 2 [(0, .int x0), (1, .int x1)] := hl
  unfold wX7_has at h
  generalize s.heap = H at hw ⊢
  generalize ([] : List Loc) = locs at hw ⊢
  refine lv_iload_n hx hb dX7_has_0 rfl (lv_at hl 0 rfl) ?_
  refine lv_iload_n hx hb dX7_has_1 rfl (lv_at hl 1 rfl) ?_
  refine lv_ishr hx hb dX7_has_2 ?_
  refine lv_iconst (v := 1) hx hb dX7_has_3 (by decide) ?_
  refine lv_iand hx hb dX7_has_4 ?_
  refine lv_iconst (v := 1) hx hb dX7_has_5 (by decide) ?_
  refine lv_icmp_ne (tgt := 13) hx hb dX7_has_6 (by decide) (fun c_1 => ?_) (fun c_1 => ?_)
  · replace h := iF c_1 h
    refine lv_iconst (v := 0) hx hb dX7_has_13 (by decide) ?_
    exact rt_z M () hw bz0 h dX7_has_14
  · replace h := iT c_1 h
    refine lv_iconst (v := 1) hx hb dX7_has_9 (by decide) ?_
    refine lv_goto (tgt := 14) hx hb dX7_has_10 (by decide) ?_
    exact rt_z M () hw bz1 h dX7_has_14
abbrev rmX7_bits : Room := { frames := 0, cells := 0, slots := 0, locals := 0 }
set_option maxHeartbeats 4000000 in
set_option maxRecDepth 100000 in
theorem kX7_bits_4 {p : Program} {l : Launch} {e : Env} {s : State} {m : MethodId} {args : Array Value} {below : List Frame} {meth : Method} {c : Code} {z : KT} {A : Nat → Prop} {Q : Int32 → Prop} (M : Mc p s m args meth c cX7_bits 3 (some .int) RX7 z A) : ∀ (n : Nat) (x0 : Int32) (x1 : Int32) (x2 : Int32) (H : Heap) (locs : List Loc) (ls : Array Slot), Hw s z A ([] : va_W) H locs → lv_has ls 3 [(0, .int x0), (1, .int x1), (2, .int x2)] → bX7_bits_4 Q n x0 x1 x2 → W p l e rmX7_bits s m args below meth c H locs 0 0 (MQ below (va_Qi (fun (r : Int32) (_ : Unit) => Q r) (fun u t => cAt z A ((fun _ : Unit => ([] : va_W)) u) t) A) args s 0 0 A) (F0 m 4 ls []) := by
  obtain ⟨hx, hb, -, -, hown, hts, -, -, -, hN, hsr, -⟩ := id M
  intro n
  induction n with
  | zero => intro x0 x1 x2 H locs ls hw hl h; exact False.elim h
  | succ n ih =>
    intro x0 x1 x2 H locs ls hw hl h
    rw [bX7_bits_4] at h
    refine lv_iload_n hx hb dX7_bits_4 rfl (lv_at hl 2 rfl) ?_
    refine lv_bipush (v := 31) hx hb dX7_bits_5 (by decide) ?_
    refine lv_icmp_ge (tgt := 24) hx hb dX7_bits_7 (by decide) (fun c_1 => ?_) (fun c_1 => ?_)
    · replace h := iT c_1 h
      refine lv_iload_n hx hb dX7_bits_24 rfl (lv_at hl 1 rfl) ?_
      exact rt_i M () hw h dX7_bits_25
    · replace h := iF c_1 h
      refine lv_iload_n hx hb dX7_bits_10 rfl (lv_at hl 1 rfl) ?_
      refine lv_iload_n hx hb dX7_bits_11 rfl (lv_at hl 0 rfl) ?_
      refine lv_iload_n hx hb dX7_bits_12 rfl (lv_at hl 2 rfl) ?_
      refine lv_ishr hx hb dX7_bits_13 ?_
      refine lv_iconst (v := 1) hx hb dX7_bits_14 (by decide) ?_
      refine lv_iand hx hb dX7_bits_15 ?_
      refine lv_iadd hx hb dX7_bits_16 ?_
      refine lv_topi (fun x1_2 ex1_2 => ?_)
      replace h := h x1_2 ex1_2
      refine lv_istore_n (lv' := [(1, .int x1_2), (0, .int x0), (2, .int x2)]) hx hb dX7_bits_17 rfl hl (by decide) rfl (fun ls hl => ?_)
      obtain ⟨x2_3, ex2_3⟩ : ∃ y : Int32, y = (x2 + (1 : Int32)) := ⟨_, rfl⟩
      replace h := h x2_3 ex2_3
      refine lv_iinc (v := x2_3) (lv' := [(2, .int x2_3), (1, .int x1_2), (0, .int x0)]) hx hb dX7_bits_18 hl (k := 2) rfl (by rw [ex2_3]; rfl) (by decide) rfl (fun ls hl => ?_)
      refine lv_goto (tgt := 4) hx hb dX7_bits_21 (by decide) ?_
      exact ih x0 x1_2 x2_3 H locs ls hw (lv_sub hl [2, 1, 0] rfl) h
set_option maxHeartbeats 4000000 in
set_option maxRecDepth 100000 in
theorem m_X7_bits (l : Launch) (z : KT) (x0 : Int32) (Q : Int32 → Prop) (h : wX7_bits x0 Q) : CI l yX7_bits cX7_bits 3 .int rmX7_bits z [.int x0] ([] : va_W) (fun _ : Unit => ([] : va_W)) (fun (r : Int32) (_ : Unit) => Q r) := by
  refine CI.of rfl (Nat.le_of_ble_eq_true rfl) ?_
  intro p e s m below meth c A ls M hw hl
  have M : Mc p s m _ meth c cX7_bits 3 (some .int) RX7 z A := M
  obtain ⟨hx, hb, -, -, hown, hts, -, -, -, hN, hsr, -⟩ := id M
  have hl : lv_has ls 3 [(0, .int x0)] := hl
  unfold wX7_bits at h
  generalize s.heap = H at hw ⊢
  generalize ([] : List Loc) = locs at hw ⊢
  refine lv_iconst (v := 0) hx hb dX7_bits_0 (by decide) ?_
  refine lv_istore_n (lv' := [(1, .int (0 : Int32)), (0, .int x0)]) hx hb dX7_bits_1 rfl hl (by decide) rfl (fun ls hl => ?_)
  refine lv_iconst (v := 0) hx hb dX7_bits_2 (by decide) ?_
  refine lv_istore_n (lv' := [(2, .int (0 : Int32)), (1, .int (0 : Int32)), (0, .int x0)]) hx hb dX7_bits_3 rfl hl (by decide) rfl (fun ls hl => ?_)
  obtain ⟨n0, h⟩ := h; exact kX7_bits_4 M n0 x0 (0 : Int32) (0 : Int32) H locs ls hw (lv_sub hl [2, 1, 0] rfl) h
abbrev rmX7_far : Room := { frames := 0, cells := 0, slots := 0, locals := 0 }
set_option maxHeartbeats 4000000 in
set_option maxRecDepth 100000 in
theorem m_X7_far (l : Launch) (z : KT) (x0 : Int32) (x1 : Int32) (Q : Int32 → Prop) (h : wX7_far x0 x1 Q) : CI l yX7_far cX7_far 2 .int rmX7_far z [.int x0, .int x1] ([] : va_W) (fun _ : Unit => ([] : va_W)) (fun (r : Int32) (_ : Unit) => Q r) := by
  refine CI.of rfl (Nat.le_of_ble_eq_true rfl) ?_
  intro p e s m below meth c A ls M hw hl
  have M : Mc p s m _ meth c cX7_far 2 (some .int) RX7 z A := M
  obtain ⟨hx, hb, -, -, hown, hts, -, -, -, hN, hsr, -⟩ := id M
  have hl : lv_has ls 2 [(0, .int x0), (1, .int x1)] := hl
  unfold wX7_far at h
  generalize s.heap = H at hw ⊢
  generalize ([] : List Loc) = locs at hw ⊢
  refine lv_iload_n hx hb dX7_far_0 rfl (lv_at hl 0 rfl) ?_
  refine lv_iload_n hx hb dX7_far_1 rfl (lv_at hl 1 rfl) ?_
  refine lv_icmp_le (tgt := 11) hx hb dX7_far_2 (by decide) (fun c_1 => ?_) (fun c_1 => ?_)
  · replace h := iT c_1 h
    refine lv_iload_n hx hb dX7_far_11 rfl (lv_at hl 1 rfl) ?_
    refine lv_iload_n hx hb dX7_far_12 rfl (lv_at hl 0 rfl) ?_
    refine lv_isub hx hb dX7_far_13 ?_
    exact rt_i M () hw h dX7_far_14
  · replace h := iF c_1 h
    refine lv_iload_n hx hb dX7_far_5 rfl (lv_at hl 0 rfl) ?_
    refine lv_iload_n hx hb dX7_far_6 rfl (lv_at hl 1 rfl) ?_
    refine lv_isub hx hb dX7_far_7 ?_
    refine lv_goto (tgt := 14) hx hb dX7_far_8 (by decide) ?_
    exact rt_i M () hw h dX7_far_14
abbrev rmX7_isThing : Room := { frames := 0, cells := 0, slots := 0, locals := 0 }
set_option maxHeartbeats 4000000 in
set_option maxRecDepth 100000 in
theorem m_X7_isThing (l : Launch) (z : KT) (qS : Nat → Nat) (S : RT) (x1 : Int32) (Q : Int32 → Prop) (h : wX7_isThing S x1 Q) : CI l yX7_isThing cX7_isThing 2 .boolean rmX7_isThing z [.ref (qS 0), .int x1] (sW z qS S) (fun _ : Unit => (sW z qS S)) (fun (r : Int32) (_ : Unit) => Q r) := by
  refine CI.of rfl (Nat.le_of_ble_eq_true rfl) ?_
  intro p e s m below meth c A ls M hw hl
  have M : Mc p s m _ meth c cX7_isThing 2 (some .boolean) RX7 z A := M
  obtain ⟨hx, hb, -, -, hown, hts, -, -, -, hN, hsr, -⟩ := id M
  have hl : lv_has ls 2 [(0, .ref (qS 0)), (1, .int x1)] := hl
  unfold wX7_isThing at h
  generalize s.heap = H at hw ⊢
  generalize ([] : List Loc) = locs at hw ⊢
  refine lv_iload_n hx hb dX7_isThing_0 rfl (lv_at hl 1 rfl) ?_
  refine lv_if_lt (tgt := 16) hx hb dX7_isThing_1 (by decide) (fun c_1 => ?_) (fun c_1 => ?_)
  · replace h := iT c_1 h
    refine lv_iconst (v := 0) hx hb dX7_isThing_16 (by decide) ?_
    exact rt_z M () hw bz0 h dX7_isThing_17
  · replace h := iF c_1 h
    refine lv_iload_n hx hb dX7_isThing_4 rfl (lv_at hl 1 rfl) ?_
    refine lv_aload_n hx hb dX7_isThing_5 rfl (lv_at hl 0 rfl) ?_
    refine gt_f (v := .int (S 30 8)) M inlX7 hw 0 rfl rfl 8 (by decide) fl_X7_62 rfl rfl dX7_isThing_6 ?_
    refine lv_icmp_ge (tgt := 16) hx hb dX7_isThing_9 (by decide) (fun c_2 => ?_) (fun c_2 => ?_)
    · replace h := iT c_2 h
      refine lv_iconst (v := 0) hx hb dX7_isThing_16 (by decide) ?_
      exact rt_z M () hw bz0 h dX7_isThing_17
    · replace h := iF c_2 h
      refine lv_iconst (v := 1) hx hb dX7_isThing_12 (by decide) ?_
      refine lv_goto (tgt := 17) hx hb dX7_isThing_13 (by decide) ?_
      exact rt_z M () hw bz1 h dX7_isThing_17
abbrev rmX7_isRope : Room := { frames := 0, cells := 0, slots := 0, locals := 0 }
set_option maxHeartbeats 4000000 in
set_option maxRecDepth 100000 in
theorem m_X7_isRope (l : Launch) (z : KT) (qS : Nat → Nat) (S : RT) (x1 : Int32) (Q : Int32 → Prop) (h : wX7_isRope S x1 Q) : CI l yX7_isRope cX7_isRope 2 .boolean rmX7_isRope z [.ref (qS 0), .int x1] (sW z qS S) (fun _ : Unit => (sW z qS S)) (fun (r : Int32) (_ : Unit) => Q r) := by
  refine CI.of rfl (Nat.le_of_ble_eq_true rfl) ?_
  intro p e s m below meth c A ls M hw hl
  have M : Mc p s m _ meth c cX7_isRope 2 (some .boolean) RX7 z A := M
  obtain ⟨hx, hb, -, -, hown, hts, -, -, -, hN, hsr, -⟩ := id M
  have hl : lv_has ls 2 [(0, .ref (qS 0)), (1, .int x1)] := hl
  unfold wX7_isRope at h
  generalize s.heap = H at hw ⊢
  generalize ([] : List Loc) = locs at hw ⊢
  refine lv_iload_n hx hb dX7_isRope_0 rfl (lv_at hl 1 rfl) ?_
  refine lv_if_lt (tgt := 16) hx hb dX7_isRope_1 (by decide) (fun c_1 => ?_) (fun c_1 => ?_)
  · replace h := iT c_1 h
    refine lv_iconst (v := 0) hx hb dX7_isRope_16 (by decide) ?_
    exact rt_z M () hw bz0 h dX7_isRope_17
  · replace h := iF c_1 h
    refine lv_iload_n hx hb dX7_isRope_4 rfl (lv_at hl 1 rfl) ?_
    refine lv_aload_n hx hb dX7_isRope_5 rfl (lv_at hl 0 rfl) ?_
    refine gt_f (v := .int (S 30 9)) M inlX7 hw 0 rfl rfl 9 (by decide) fl_X7_67 rfl rfl dX7_isRope_6 ?_
    refine lv_icmp_ge (tgt := 16) hx hb dX7_isRope_9 (by decide) (fun c_2 => ?_) (fun c_2 => ?_)
    · replace h := iT c_2 h
      refine lv_iconst (v := 0) hx hb dX7_isRope_16 (by decide) ?_
      exact rt_z M () hw bz0 h dX7_isRope_17
    · replace h := iF c_2 h
      refine lv_iconst (v := 1) hx hb dX7_isRope_12 (by decide) ?_
      refine lv_goto (tgt := 17) hx hb dX7_isRope_13 (by decide) ?_
      exact rt_z M () hw bz1 h dX7_isRope_17
abbrev rmX7_areTwo : Room := { frames := 1, cells := 0, slots := 0, locals := 21 }
set_option maxHeartbeats 4000000 in
set_option maxRecDepth 100000 in
theorem m_X7_areTwo (l : Launch) (z : KT) (qS : Nat → Nat) (S : RT) (x1 : Int32) (x2 : Int32) (Q : Int32 → Prop) (h : wX7_areTwo S x1 x2 Q) : CI l yX7_areTwo cX7_areTwo 3 .boolean rmX7_areTwo z [.ref (qS 0), .int x1, .int x2] (sW z qS S) (fun _ : Unit => (sW z qS S)) (fun (r : Int32) (_ : Unit) => Q r) := by
  refine CI.of rfl (Nat.le_of_ble_eq_true rfl) ?_
  intro p e s m below meth c A ls M hw hl
  have M : Mc p s m _ meth c cX7_areTwo 3 (some .boolean) RX7 z A := M
  obtain ⟨hx, hb, -, -, hown, hts, -, -, -, hN, hsr, -⟩ := id M
  have hl : lv_has ls 3 [(0, .ref (qS 0)), (1, .int x1), (2, .int x2)] := hl
  unfold wX7_areTwo at h
  generalize s.heap = H at hw ⊢
  generalize ([] : List Loc) = locs at hw ⊢
  refine lv_aload_n hx hb dX7_areTwo_0 rfl (lv_at hl 0 rfl) ?_
  refine lv_iload_n hx hb dX7_areTwo_1 rfl (lv_at hl 1 rfl) ?_
  refine fr_Vi (wN := fun _ : Unit => (sW z qS S)) M (m_X7_isThing l z qS S x1 _ h) (cwV 1 hts (gdV cd_X7_isThing ml_X7_70 im_X7_isThing se_X7_isThing in_X7) rfl rfl rfl hdV_X7_isThing ⟨(Nat.le_of_ble_eq_true rfl), (Nat.le_of_ble_eq_true rfl)⟩) (Cut.self _) (Prm.self _ 17 (fun _ => rfl)) 0 rfl rfl rfl hw rfl hl.1 rfl (Nat.le_of_ble_eq_true rfl) dX7_areTwo_2 (fun r_1 u_ H locs h hw => ?_)
  have hw : Hw s z A (sW z qS S) H locs := hw
  try dsimp only at h
  refine lv_if_eq (tgt := 25) hx hb dX7_areTwo_5 (by decide) (fun c_2 => ?_) (fun c_2 => ?_)
  · replace h := iT c_2 h
    refine lv_iconst (v := 0) hx hb dX7_areTwo_25 (by decide) ?_
    exact rt_z M () hw bz0 h dX7_areTwo_26
  · replace h := iF c_2 h
    refine lv_aload_n hx hb dX7_areTwo_8 rfl (lv_at hl 0 rfl) ?_
    refine lv_iload_n hx hb dX7_areTwo_9 rfl (lv_at hl 2 rfl) ?_
    refine fr_Vi (wN := fun _ : Unit => (sW z qS S)) M (m_X7_isThing l z qS S x2 _ h) (cwV 1 hts (gdV cd_X7_isThing ml_X7_70 im_X7_isThing se_X7_isThing in_X7) rfl rfl rfl hdV_X7_isThing ⟨(Nat.le_of_ble_eq_true rfl), (Nat.le_of_ble_eq_true rfl)⟩) (Cut.self _) (Prm.self _ 17 (fun _ => rfl)) 0 rfl rfl rfl hw rfl hl.1 rfl (Nat.le_of_ble_eq_true rfl) dX7_areTwo_10 (fun r_3 u_ H locs h hw => ?_)
    have hw : Hw s z A (sW z qS S) H locs := hw
    try dsimp only at h
    refine lv_if_eq (tgt := 25) hx hb dX7_areTwo_13 (by decide) (fun c_4 => ?_) (fun c_4 => ?_)
    · replace h := iT c_4 h
      refine lv_iconst (v := 0) hx hb dX7_areTwo_25 (by decide) ?_
      exact rt_z M () hw bz0 h dX7_areTwo_26
    · replace h := iF c_4 h
      refine lv_iload_n hx hb dX7_areTwo_16 rfl (lv_at hl 1 rfl) ?_
      refine lv_iload_n hx hb dX7_areTwo_17 rfl (lv_at hl 2 rfl) ?_
      refine lv_icmp_eq (tgt := 25) hx hb dX7_areTwo_18 (by decide) (fun c_5 => ?_) (fun c_5 => ?_)
      · replace h := iT c_5 h
        refine lv_iconst (v := 0) hx hb dX7_areTwo_25 (by decide) ?_
        exact rt_z M () hw bz0 h dX7_areTwo_26
      · replace h := iF c_5 h
        refine lv_iconst (v := 1) hx hb dX7_areTwo_21 (by decide) ?_
        refine lv_goto (tgt := 26) hx hb dX7_areTwo_22 (by decide) ?_
        exact rt_z M () hw bz1 h dX7_areTwo_26
abbrev rmX7_letter : Room := { frames := 1, cells := 0, slots := 0, locals := 22 }
set_option maxHeartbeats 4000000 in
set_option maxRecDepth 100000 in
theorem kX7_letter_25 {p : Program} {l : Launch} {e : Env} {s : State} {m : MethodId} {args : Array Value} {below : List Frame} {meth : Method} {c : Code} {z : KT} {A : Nat → Prop} {qS : Nat → Nat} {Q : Int32 → RT → Prop} (M : Mc p s m args meth c cX7_letter 3 (some .int) RX7 z A) : ∀ (S : RT) (x1 : Int32) (x2 : Int32) (H : Heap) (locs : List Loc) (ls : Array Slot), Hw s z A (sW z qS S) H locs → lv_has ls 3 [(0, .ref (qS 0)), (1, .int x1), (2, .int x2)] → bX7_letter_25 Q S x1 x2 → W p l e rmX7_letter s m args below meth c H locs 0 0 (MQ below (va_Qi (fun (r : Int32) (u : RT) => Q r u) (fun u t => cAt z A ((fun u : RT => (sW z qS u)) u) t) A) args s 0 0 A) (F0 m 25 ls []) := by
  obtain ⟨hx, hb, -, -, hown, hts, -, -, -, hN, hsr, -⟩ := id M
  intro S x1 x2 H locs ls hw hl h
  unfold bX7_letter_25 at h
  refine lv_iload_n hx hb dX7_letter_25 rfl (lv_at hl 2 rfl) ?_
  refine lv_if_eq (tgt := 35) hx hb dX7_letter_26 (by decide) (fun c_1 => ?_) (fun c_1 => ?_)
  · replace h := iT c_1 h
    refine lv_aload_n hx hb dX7_letter_35 rfl (lv_at hl 0 rfl) ?_
    refine gt_f (v := .ref (qS 13)) M inlX7 hw 0 rfl rfl 12 (by decide) fl_X7_38 rfl rfl dX7_letter_36 ?_
    refine lv_aload_n hx hb dX7_letter_39 rfl (lv_at hl 0 rfl) ?_
    refine gt_f (v := .int (S 30 16)) M inlX7 hw 0 rfl rfl 16 (by decide) fl_X7_78 rfl rfl dX7_letter_40 ?_
    refine lv_iload_n hx hb dX7_letter_43 rfl (lv_at hl 1 rfl) ?_
    obtain ⟨a_2, h⟩ := h
    refine st_i (P := S) (r := 12) (wN := fun S_3 => (sW z qS S_3)) M hw 9 rfl rfl a_2 dX7_letter_44 (fun S_3 H locs eS_3 hw => ?_)
    replace h := h S_3 eS_3
    refine lv_aload_n hx hb dX7_letter_45 rfl (lv_at hl 0 rfl) ?_
    refine lv_dup hx hb dX7_letter_46 rfl ?_
    refine gt_f (v := .int (S_3 30 16)) M inlX7 hw 0 rfl rfl 16 (by decide) fl_X7_78 rfl rfl dX7_letter_47 ?_
    refine lv_iconst (v := 1) hx hb dX7_letter_50 (by decide) ?_
    refine lv_iadd hx hb dX7_letter_51 ?_
    refine st_f (P := S_3) (r := 30) (j := 16) (wN := fun S_4 => (sW z qS S_4)) M inlX7 tyX7_ok nmX7 hw 0 rfl rfl 16 (by decide) fl_X7_78 rfl rfl rfl rfl rfl (Nat.le_of_ble_eq_true rfl) rfl dX7_letter_52 (fun S_4 H locs eS_4 hw => ?_)
    replace h := h S_4 eS_4
    refine lv_aload_n hx hb dX7_letter_55 rfl (lv_at hl 0 rfl) ?_
    refine gt_f (v := .int (S_4 30 16)) M inlX7 hw 0 rfl rfl 16 (by decide) fl_X7_78 rfl rfl dX7_letter_56 ?_
    exact rt_i M S_4 hw h dX7_letter_59
  · replace h := iF c_1 h
    refine lv_aload_n hx hb dX7_letter_29 rfl (lv_at hl 0 rfl) ?_
    refine lv_iload_n hx hb dX7_letter_30 rfl (lv_at hl 2 rfl) ?_
    refine fr_Vi (wN := fun u : RT => (sW z qS u)) M (m_X7_no l z qS S x2 _ h) (cwV 1 hts (gdV cd_X7_no ml_X7_81 im_X7_no se_X7_no in_X7) rfl rfl rfl hdV_X7_no ⟨(Nat.le_of_ble_eq_true rfl), (Nat.le_of_ble_eq_true rfl)⟩) (Cut.self _) (Prm.self _ 17 (fun _ => rfl)) 0 rfl rfl rfl hw rfl hl.1 rfl (Nat.le_of_ble_eq_true rfl) dX7_letter_31 (fun r_6 u_ H locs h hw => ?_)
    obtain ⟨S_5, rfl⟩ : ∃ z9 : RT, z9 = u_ := ⟨_, rfl⟩
    have hw : Hw s z A (sW z qS S_5) H locs := hw
    try dsimp only at h
    exact rt_i M S_5 hw h dX7_letter_34
set_option maxHeartbeats 4000000 in
set_option maxRecDepth 100000 in
theorem m_X7_letter (l : Launch) (z : KT) (qS : Nat → Nat) (S : RT) (x1 : Int32) (Q : Int32 → RT → Prop) (h : wX7_letter S x1 Q) : CI l yX7_letter cX7_letter 3 .int rmX7_letter z [.ref (qS 0), .int x1] (sW z qS S) (fun u : RT => (sW z qS u)) (fun (r : Int32) (u : RT) => Q r u) := by
  refine CI.of rfl (Nat.le_of_ble_eq_true rfl) ?_
  intro p e s m below meth c A ls M hw hl
  have M : Mc p s m _ meth c cX7_letter 3 (some .int) RX7 z A := M
  obtain ⟨hx, hb, -, -, hown, hts, -, -, -, hN, hsr, -⟩ := id M
  have hl : lv_has ls 3 [(0, .ref (qS 0)), (1, .int x1)] := hl
  unfold wX7_letter at h
  generalize s.heap = H at hw ⊢
  generalize ([] : List Loc) = locs at hw ⊢
  refine lv_iload_n hx hb dX7_letter_0 rfl (lv_at hl 1 rfl) ?_
  refine lv_iconst (v := 0) hx hb dX7_letter_1 (by decide) ?_
  refine lv_sipush (v := 255) hx hb dX7_letter_2 (by decide) ?_
  refine fr_Si (wN := fun _ : Unit => (sW z qS S)) M (m_X7_bound l z x1 (0 : Int32) (255 : Int32) _ h) (va_cwS 3 hts (gdS cd_X7_bound ml_X7_74 st_X7_bound in_X7) rfl rfl rfl hdS_X7_bound ⟨(Nat.le_of_ble_eq_true rfl), (Nat.le_of_ble_eq_true rfl)⟩) (Cut.none _) (Prm.none _) hw rfl hl.1 rfl (Nat.le_of_ble_eq_true rfl) dX7_letter_5 (fun r_1 u_ H locs h hw => ?_)
  have hw : Hw s z A (sW z qS S) H locs := hw
  try dsimp only at h
  refine lv_istore_n (lv' := [(2, .int r_1), (0, .ref (qS 0)), (1, .int x1)]) hx hb dX7_letter_8 rfl hl (by decide) rfl (fun ls hl => ?_)
  refine lv_iload_n hx hb dX7_letter_9 rfl (lv_at hl 0 rfl) ?_
  refine lv_if_ne (tgt := 25) hx hb dX7_letter_10 (by decide) (fun c_2 => ?_) (fun c_2 => ?_)
  · replace h := iF c_2 h
    exact kX7_letter_25 M S x1 r_1 H locs ls hw (lv_sub hl [1, 2, 0] rfl) h
  · replace h := iT c_2 h
    refine lv_aload_n hx hb dX7_letter_13 rfl (lv_at hl 1 rfl) ?_
    refine gt_f (v := .int (S 30 16)) M inlX7 hw 0 rfl rfl 16 (by decide) fl_X7_78 rfl rfl dX7_letter_14 ?_
    refine lv_bipush (v := 96) hx hb dX7_letter_17 (by decide) ?_
    refine lv_icmp_ne (tgt := 25) hx hb dX7_letter_19 (by decide) (fun c_3 => ?_) (fun c_3 => ?_)
    · replace h := iF c_3 h
      exact kX7_letter_25 M S x1 r_1 H locs ls hw (lv_sub hl [1, 2, 0] rfl) h
    · replace h := iT c_3 h
      refine lv_bipush (v := -6) hx hb dX7_letter_22 (by decide) ?_
      refine lv_istore_n (lv' := [(2, .int (-6 : Int32)), (0, .ref (qS 0)), (1, .int x1)]) hx hb dX7_letter_24 rfl hl (by decide) rfl (fun ls hl => ?_)
      exact kX7_letter_25 M S x1 (-6 : Int32) H locs ls hw (lv_sub hl [1, 2, 0] rfl) h
abbrev rmX7_next : Room := { frames := 0, cells := 0, slots := 0, locals := 0 }
set_option maxHeartbeats 4000000 in
set_option maxRecDepth 100000 in
theorem m_X7_next (l : Launch) (z : KT) (qS : Nat → Nat) (S : RT) (Q : Int32 → Prop) (h : wX7_next S Q) : CI l yX7_next cX7_next 1 .int rmX7_next z [.ref (qS 0)] (sW z qS S) (fun _ : Unit => (sW z qS S)) (fun (r : Int32) (_ : Unit) => Q r) := by
  refine CI.of rfl (Nat.le_of_ble_eq_true rfl) ?_
  intro p e s m below meth c A ls M hw hl
  have M : Mc p s m _ meth c cX7_next 1 (some .int) RX7 z A := M
  obtain ⟨hx, hb, -, -, hown, hts, -, -, -, hN, hsr, -⟩ := id M
  have hl : lv_has ls 1 [(0, .ref (qS 0))] := hl
  unfold wX7_next at h
  generalize s.heap = H at hw ⊢
  generalize ([] : List Loc) = locs at hw ⊢
  refine lv_aload_n hx hb dX7_next_0 rfl (lv_at hl 0 rfl) ?_
  refine gt_f (v := .int (S 30 17)) M inlX7 hw 0 rfl rfl 17 (by decide) fl_X7_85 rfl rfl dX7_next_1 ?_
  refine lv_aload_n hx hb dX7_next_4 rfl (lv_at hl 0 rfl) ?_
  refine gt_f (v := .int (S 30 16)) M inlX7 hw 0 rfl rfl 16 (by decide) fl_X7_78 rfl rfl dX7_next_5 ?_
  refine lv_icmp_ge (tgt := 23) hx hb dX7_next_8 (by decide) (fun c_1 => ?_) (fun c_1 => ?_)
  · replace h := iT c_1 h
    refine lv_iconst (v := -1) hx hb dX7_next_23 (by decide) ?_
    exact rt_i M () hw h dX7_next_24
  · replace h := iF c_1 h
    refine lv_aload_n hx hb dX7_next_11 rfl (lv_at hl 0 rfl) ?_
    refine gt_f (v := .ref (qS 13)) M inlX7 hw 0 rfl rfl 12 (by decide) fl_X7_38 rfl rfl dX7_next_12 ?_
    refine lv_aload_n hx hb dX7_next_15 rfl (lv_at hl 0 rfl) ?_
    refine gt_f (v := .int (S 30 17)) M inlX7 hw 0 rfl rfl 17 (by decide) fl_X7_85 rfl rfl dX7_next_16 ?_
    obtain ⟨a_2, h⟩ := h
    refine ld_i M hw 9 rfl a_2 dX7_next_19 ?_
    refine lv_goto (tgt := 24) hx hb dX7_next_20 (by decide) ?_
    exact rt_i M () hw h dX7_next_24
abbrev rmX7_readsDigits : Room := { frames := 1, cells := 0, slots := 0, locals := 22 }
set_option maxHeartbeats 4000000 in
set_option maxRecDepth 100000 in
theorem kX7_readsDigits_5 {p : Program} {l : Launch} {e : Env} {s : State} {m : MethodId} {args : Array Value} {below : List Frame} {meth : Method} {c : Code} {z : KT} {A : Nat → Prop} {qS : Nat → Nat} {Q : Int32 → RT → Prop} (M : Mc p s m args meth c cX7_readsDigits 5 (some .boolean) RX7 z A) : ∀ (n : Nat) (S : RT) (x1 : Int32) (x2 : Int32) (x3 : Int32) (x4 : Int32) (H : Heap) (locs : List Loc) (ls : Array Slot), Hw s z A (sW z qS S) H locs → lv_has ls 5 [(0, .ref (qS 0)), (1, .int x1), (2, .int x2), (3, .int x3), (4, .int x4)] → bX7_readsDigits_5 Q n S x1 x2 x3 x4 → W p l e rmX7_readsDigits s m args below meth c H locs 0 0 (MQ below (va_Qi (fun (r : Int32) (u : RT) => Q r u) (fun u t => cAt z A ((fun u : RT => (sW z qS u)) u) t) A) args s 0 0 A) (F0 m 5 ls []) := by
  obtain ⟨hx, hb, -, -, hown, hts, -, -, -, hN, hsr, -⟩ := id M
  intro n
  induction n with
  | zero => intro S x1 x2 x3 x4 H locs ls hw hl h; exact False.elim h
  | succ n ih =>
    intro S x1 x2 x3 x4 H locs ls hw hl h
    rw [bX7_readsDigits_5] at h
    refine lv_iload hx hb dX7_readsDigits_5 (lv_at hl 4 rfl) ?_
    refine lv_iload_n hx hb dX7_readsDigits_7 rfl (lv_at hl 2 rfl) ?_
    refine lv_icmp_ge (tgt := 56) hx hb dX7_readsDigits_8 (by decide) (fun c_1 => ?_) (fun c_1 => ?_)
    · replace h := iT c_1 h
      refine lv_aload_n hx hb dX7_readsDigits_56 rfl (lv_at hl 0 rfl) ?_
      refine gt_f (v := .ref (qS 16)) M inlX7 hw 0 rfl rfl 15 (by decide) fl_X7_47 rfl rfl dX7_readsDigits_57 ?_
      refine lv_iload_n hx hb dX7_readsDigits_60 rfl (lv_at hl 1 rfl) ?_
      refine lv_iload_n hx hb dX7_readsDigits_61 rfl (lv_at hl 3 rfl) ?_
      obtain ⟨a_2, h⟩ := h
      refine st_i (P := S) (r := 15) (wN := fun S_3 => (sW z qS S_3)) M hw 12 rfl rfl a_2 dX7_readsDigits_62 (fun S_3 H locs eS_3 hw => ?_)
      replace h := h S_3 eS_3
      refine lv_iconst (v := 1) hx hb dX7_readsDigits_63 (by decide) ?_
      exact rt_z M S_3 hw bz1 h dX7_readsDigits_64
    · replace h := iF c_1 h
      refine lv_aload_n hx hb dX7_readsDigits_11 rfl (lv_at hl 0 rfl) ?_
      refine fr_Vi (wN := fun _ : Unit => (sW z qS S)) M (m_X7_next l z qS S _ h) (cwV 0 hts (gdV cd_X7_next ml_X7_88 im_X7_next se_X7_next in_X7) rfl rfl rfl hdV_X7_next ⟨(Nat.le_of_ble_eq_true rfl), (Nat.le_of_ble_eq_true rfl)⟩) (Cut.self _) (Prm.self _ 17 (fun _ => rfl)) 0 rfl rfl rfl hw rfl hl.1 rfl (Nat.le_of_ble_eq_true rfl) dX7_readsDigits_12 (fun r_4 u_ H locs h hw => ?_)
      have hw : Hw s z A (sW z qS S) H locs := hw
      try dsimp only at h
      refine lv_bipush (v := 48) hx hb dX7_readsDigits_15 (by decide) ?_
      refine lv_bipush (v := 57) hx hb dX7_readsDigits_17 (by decide) ?_
      refine fr_Si (wN := fun _ : Unit => (sW z qS S)) M (m_X7_isIn l z r_4 (48 : Int32) (57 : Int32) _ h) (va_cwS 3 hts (gdS cd_X7_isIn ml_X7_92 st_X7_isIn in_X7) rfl rfl rfl hdS_X7_isIn ⟨(Nat.le_of_ble_eq_true rfl), (Nat.le_of_ble_eq_true rfl)⟩) (Cut.none _) (Prm.none _) hw rfl hl.1 rfl (Nat.le_of_ble_eq_true rfl) dX7_readsDigits_19 (fun r_5 u_ H locs h hw => ?_)
      have hw : Hw s z A (sW z qS S) H locs := hw
      try dsimp only at h
      refine lv_if_ne (tgt := 27) hx hb dX7_readsDigits_22 (by decide) (fun c_6 => ?_) (fun c_6 => ?_)
      · replace h := iF c_6 h
        refine lv_bipush (v := 10) hx hb dX7_readsDigits_27 (by decide) ?_
        refine lv_iload_n hx hb dX7_readsDigits_29 rfl (lv_at hl 3 rfl) ?_
        refine lv_imul hx hb dX7_readsDigits_30 ?_
        refine lv_aload_n hx hb dX7_readsDigits_31 rfl (lv_at hl 0 rfl) ?_
        refine fr_Vi (wN := fun _ : Unit => (sW z qS S)) M (m_X7_next l z qS S _ h) (cwV 0 hts (gdV cd_X7_next ml_X7_88 im_X7_next se_X7_next in_X7) rfl rfl rfl hdV_X7_next ⟨(Nat.le_of_ble_eq_true rfl), (Nat.le_of_ble_eq_true rfl)⟩) (Cut.self _) (Prm.self _ 17 (fun _ => rfl)) 0 rfl rfl rfl hw rfl hl.1 rfl (Nat.le_of_ble_eq_true rfl) dX7_readsDigits_32 (fun r_7 u_ H locs h hw => ?_)
        have hw : Hw s z A (sW z qS S) H locs := hw
        try dsimp only at h
        refine lv_iadd hx hb dX7_readsDigits_35 ?_
        refine lv_bipush (v := 48) hx hb dX7_readsDigits_36 (by decide) ?_
        refine lv_isub hx hb dX7_readsDigits_38 ?_
        refine lv_topi (fun x3_8 ex3_8 => ?_)
        replace h := h x3_8 ex3_8
        refine lv_istore_n (lv' := [(3, .int x3_8), (0, .ref (qS 0)), (1, .int x1), (2, .int x2), (4, .int x4)]) hx hb dX7_readsDigits_39 rfl hl (by decide) rfl (fun ls hl => ?_)
        refine lv_aload_n hx hb dX7_readsDigits_40 rfl (lv_at hl 1 rfl) ?_
        refine lv_dup hx hb dX7_readsDigits_41 rfl ?_
        refine gt_f (v := .int (S 30 17)) M inlX7 hw 0 rfl rfl 17 (by decide) fl_X7_85 rfl rfl dX7_readsDigits_42 ?_
        refine lv_iconst (v := 1) hx hb dX7_readsDigits_45 (by decide) ?_
        refine lv_iadd hx hb dX7_readsDigits_46 ?_
        refine st_f (P := S) (r := 30) (j := 17) (wN := fun S_9 => (sW z qS S_9)) M inlX7 tyX7_ok nmX7 hw 0 rfl rfl 17 (by decide) fl_X7_85 rfl rfl rfl rfl rfl (Nat.le_of_ble_eq_true rfl) rfl dX7_readsDigits_47 (fun S_9 H locs eS_9 hw => ?_)
        replace h := h S_9 eS_9
        obtain ⟨x4_10, ex4_10⟩ : ∃ y : Int32, y = (x4 + (1 : Int32)) := ⟨_, rfl⟩
        replace h := h x4_10 ex4_10
        refine lv_iinc (v := x4_10) (lv' := [(4, .int x4_10), (3, .int x3_8), (0, .ref (qS 0)), (1, .int x1), (2, .int x2)]) hx hb dX7_readsDigits_50 hl (k := 4) rfl (by rw [ex4_10]; rfl) (by decide) rfl (fun ls hl => ?_)
        refine lv_goto (tgt := 5) hx hb dX7_readsDigits_53 (by decide) ?_
        exact ih S_9 x1 x2 x3_8 x4_10 H locs ls hw (lv_sub hl [2, 3, 4, 1, 0] rfl) h
      · replace h := iT c_6 h
        refine lv_iconst (v := 0) hx hb dX7_readsDigits_25 (by decide) ?_
        exact rt_z M S hw bz0 h dX7_readsDigits_26
set_option maxHeartbeats 4000000 in
set_option maxRecDepth 100000 in
theorem m_X7_readsDigits (l : Launch) (z : KT) (qS : Nat → Nat) (S : RT) (x1 : Int32) (x2 : Int32) (Q : Int32 → RT → Prop) (h : wX7_readsDigits S x1 x2 Q) : CI l yX7_readsDigits cX7_readsDigits 5 .boolean rmX7_readsDigits z [.ref (qS 0), .int x1, .int x2] (sW z qS S) (fun u : RT => (sW z qS u)) (fun (r : Int32) (u : RT) => Q r u) := by
  refine CI.of rfl (Nat.le_of_ble_eq_true rfl) ?_
  intro p e s m below meth c A ls M hw hl
  have M : Mc p s m _ meth c cX7_readsDigits 5 (some .boolean) RX7 z A := M
  obtain ⟨hx, hb, -, -, hown, hts, -, -, -, hN, hsr, -⟩ := id M
  have hl : lv_has ls 5 [(0, .ref (qS 0)), (1, .int x1), (2, .int x2)] := hl
  unfold wX7_readsDigits at h
  generalize s.heap = H at hw ⊢
  generalize ([] : List Loc) = locs at hw ⊢
  refine lv_iconst (v := 0) hx hb dX7_readsDigits_0 (by decide) ?_
  refine lv_istore_n (lv' := [(3, .int (0 : Int32)), (0, .ref (qS 0)), (1, .int x1), (2, .int x2)]) hx hb dX7_readsDigits_1 rfl hl (by decide) rfl (fun ls hl => ?_)
  refine lv_iconst (v := 0) hx hb dX7_readsDigits_2 (by decide) ?_
  refine lv_istore (lv' := [(4, .int (0 : Int32)), (3, .int (0 : Int32)), (0, .ref (qS 0)), (1, .int x1), (2, .int x2)]) hx hb dX7_readsDigits_3 hl (by decide) rfl (fun ls hl => ?_)
  obtain ⟨n0, h⟩ := h; exact kX7_readsDigits_5 M n0 S x1 x2 (0 : Int32) (0 : Int32) H locs ls hw (lv_sub hl [2, 3, 4, 1, 0] rfl) h
abbrev rmX7_kindOf : Room := { frames := 0, cells := 0, slots := 0, locals := 0 }
set_option maxHeartbeats 4000000 in
set_option maxRecDepth 100000 in
theorem m_X7_kindOf (l : Launch) (z : KT) (x0 : Int32) (Q : Int32 → Prop) (h : wX7_kindOf x0 Q) : CI l yX7_kindOf cX7_kindOf 1 .int rmX7_kindOf z [.int x0] ([] : va_W) (fun _ : Unit => ([] : va_W)) (fun (r : Int32) (_ : Unit) => Q r) := by
  refine CI.of rfl (Nat.le_of_ble_eq_true rfl) ?_
  intro p e s m below meth c A ls M hw hl
  have M : Mc p s m _ meth c cX7_kindOf 1 (some .int) RX7 z A := M
  obtain ⟨hx, hb, -, -, hown, hts, -, -, -, hN, hsr, -⟩ := id M
  have hl : lv_has ls 1 [(0, .int x0)] := hl
  unfold wX7_kindOf at h
  generalize s.heap = H at hw ⊢
  generalize ([] : List Loc) = locs at hw ⊢
  refine lv_iload_n hx hb dX7_kindOf_0 rfl (lv_at hl 0 rfl) ?_
  refine lv_bipush (v := 116) hx hb dX7_kindOf_1 (by decide) ?_
  refine lv_icmp_ne (tgt := 10) hx hb dX7_kindOf_3 (by decide) (fun c_1 => ?_) (fun c_1 => ?_)
  · replace h := iF c_1 h
    refine lv_iload_n hx hb dX7_kindOf_10 rfl (lv_at hl 0 rfl) ?_
    refine lv_bipush (v := 112) hx hb dX7_kindOf_11 (by decide) ?_
    refine lv_icmp_ne (tgt := 20) hx hb dX7_kindOf_13 (by decide) (fun c_2 => ?_) (fun c_2 => ?_)
    · replace h := iF c_2 h
      refine lv_iload_n hx hb dX7_kindOf_20 rfl (lv_at hl 0 rfl) ?_
      refine lv_bipush (v := 98) hx hb dX7_kindOf_21 (by decide) ?_
      refine lv_icmp_ne (tgt := 30) hx hb dX7_kindOf_23 (by decide) (fun c_3 => ?_) (fun c_3 => ?_)
      · replace h := iF c_3 h
        refine lv_iload_n hx hb dX7_kindOf_30 rfl (lv_at hl 0 rfl) ?_
        refine lv_bipush (v := 115) hx hb dX7_kindOf_31 (by decide) ?_
        refine lv_icmp_ne (tgt := 40) hx hb dX7_kindOf_33 (by decide) (fun c_4 => ?_) (fun c_4 => ?_)
        · replace h := iF c_4 h
          refine lv_iload_n hx hb dX7_kindOf_40 rfl (lv_at hl 0 rfl) ?_
          refine lv_bipush (v := 102) hx hb dX7_kindOf_41 (by decide) ?_
          refine lv_icmp_ne (tgt := 50) hx hb dX7_kindOf_43 (by decide) (fun c_5 => ?_) (fun c_5 => ?_)
          · replace h := iF c_5 h
            refine lv_iload_n hx hb dX7_kindOf_50 rfl (lv_at hl 0 rfl) ?_
            refine lv_bipush (v := 105) hx hb dX7_kindOf_51 (by decide) ?_
            refine lv_icmp_ne (tgt := 60) hx hb dX7_kindOf_53 (by decide) (fun c_6 => ?_) (fun c_6 => ?_)
            · replace h := iF c_6 h
              refine lv_iconst (v := -1) hx hb dX7_kindOf_60 (by decide) ?_
              exact rt_i M () hw h dX7_kindOf_61
            · replace h := iT c_6 h
              refine lv_iconst (v := 5) hx hb dX7_kindOf_56 (by decide) ?_
              refine lv_goto (tgt := 61) hx hb dX7_kindOf_57 (by decide) ?_
              exact rt_i M () hw h dX7_kindOf_61
          · replace h := iT c_5 h
            refine lv_iconst (v := 4) hx hb dX7_kindOf_46 (by decide) ?_
            refine lv_goto (tgt := 61) hx hb dX7_kindOf_47 (by decide) ?_
            exact rt_i M () hw h dX7_kindOf_61
        · replace h := iT c_4 h
          refine lv_iconst (v := 3) hx hb dX7_kindOf_36 (by decide) ?_
          refine lv_goto (tgt := 61) hx hb dX7_kindOf_37 (by decide) ?_
          exact rt_i M () hw h dX7_kindOf_61
      · replace h := iT c_3 h
        refine lv_iconst (v := 2) hx hb dX7_kindOf_26 (by decide) ?_
        refine lv_goto (tgt := 61) hx hb dX7_kindOf_27 (by decide) ?_
        exact rt_i M () hw h dX7_kindOf_61
    · replace h := iT c_2 h
      refine lv_iconst (v := 1) hx hb dX7_kindOf_16 (by decide) ?_
      refine lv_goto (tgt := 61) hx hb dX7_kindOf_17 (by decide) ?_
      exact rt_i M () hw h dX7_kindOf_61
  · replace h := iT c_1 h
    refine lv_iconst (v := 0) hx hb dX7_kindOf_6 (by decide) ?_
    refine lv_goto (tgt := 61) hx hb dX7_kindOf_7 (by decide) ?_
    exact rt_i M () hw h dX7_kindOf_61
abbrev rmX7_readsThing : Room := { frames := 2, cells := 0, slots := 0, locals := 46 }
set_option maxHeartbeats 4000000 in
set_option maxRecDepth 100000 in
theorem m_X7_readsThing (l : Launch) (z : KT) (qS : Nat → Nat) (S : RT) (x1 : Int32) (Q : Int32 → RT → Prop) (h : wX7_readsThing S x1 Q) : CI l yX7_readsThing cX7_readsThing 2 .boolean rmX7_readsThing z [.ref (qS 0), .int x1] (sW z qS S) (fun u : RT => (sW z qS u)) (fun (r : Int32) (u : RT) => Q r u) := by
  refine CI.of rfl (Nat.le_of_ble_eq_true rfl) ?_
  intro p e s m below meth c A ls M hw hl
  have M : Mc p s m _ meth c cX7_readsThing 2 (some .boolean) RX7 z A := M
  obtain ⟨hx, hb, -, -, hown, hts, -, -, -, hN, hsr, -⟩ := id M
  have hl : lv_has ls 2 [(0, .ref (qS 0)), (1, .int x1)] := hl
  unfold wX7_readsThing at h
  generalize s.heap = H at hw ⊢
  generalize ([] : List Loc) = locs at hw ⊢
  refine lv_aload_n hx hb dX7_readsThing_0 rfl (lv_at hl 0 rfl) ?_
  refine gt_f (v := .ref (qS 16)) M inlX7 hw 0 rfl rfl 15 (by decide) fl_X7_47 rfl rfl dX7_readsThing_1 ?_
  refine lv_iload_n hx hb dX7_readsThing_4 rfl (lv_at hl 1 rfl) ?_
  refine lv_aload_n hx hb dX7_readsThing_5 rfl (lv_at hl 0 rfl) ?_
  refine fr_Vi (wN := fun _ : Unit => (sW z qS S)) M (m_X7_next l z qS S _ h) (cwV 0 hts (gdV cd_X7_next ml_X7_88 im_X7_next se_X7_next in_X7) rfl rfl rfl hdV_X7_next ⟨(Nat.le_of_ble_eq_true rfl), (Nat.le_of_ble_eq_true rfl)⟩) (Cut.self _) (Prm.self _ 17 (fun _ => rfl)) 0 rfl rfl rfl hw rfl hl.1 rfl (Nat.le_of_ble_eq_true rfl) dX7_readsThing_6 (fun r_1 u_ H locs h hw => ?_)
  have hw : Hw s z A (sW z qS S) H locs := hw
  try dsimp only at h
  refine fr_Si (wN := fun _ : Unit => (sW z qS S)) M (m_X7_kindOf l z r_1 _ h) (va_cwS 1 hts (gdS cd_X7_kindOf ml_X7_96 st_X7_kindOf in_X7) rfl rfl rfl hdS_X7_kindOf ⟨(Nat.le_of_ble_eq_true rfl), (Nat.le_of_ble_eq_true rfl)⟩) (Cut.none _) (Prm.none _) hw rfl hl.1 rfl (Nat.le_of_ble_eq_true rfl) dX7_readsThing_9 (fun r_2 u_ H locs h hw => ?_)
  have hw : Hw s z A (sW z qS S) H locs := hw
  try dsimp only at h
  obtain ⟨a_3, h⟩ := h
  refine st_i (P := S) (r := 15) (wN := fun S_4 => (sW z qS S_4)) M hw 12 rfl rfl a_3 dX7_readsThing_12 (fun S_4 H locs eS_4 hw => ?_)
  replace h := h S_4 eS_4
  refine lv_aload_n hx hb dX7_readsThing_13 rfl (lv_at hl 0 rfl) ?_
  refine gt_f (v := .ref (qS 16)) M inlX7 hw 0 rfl rfl 15 (by decide) fl_X7_47 rfl rfl dX7_readsThing_14 ?_
  refine lv_iload_n hx hb dX7_readsThing_17 rfl (lv_at hl 1 rfl) ?_
  refine ld_i M hw 12 rfl a_3 dX7_readsThing_18 ?_
  refine lv_if_ge (tgt := 24) hx hb dX7_readsThing_19 (by decide) (fun c_5 => ?_) (fun c_5 => ?_)
  · replace h := iT c_5 h
    refine lv_aload_n hx hb dX7_readsThing_24 rfl (lv_at hl 0 rfl) ?_
    refine lv_dup hx hb dX7_readsThing_25 rfl ?_
    refine gt_f (v := .int (S_4 30 17)) M inlX7 hw 0 rfl rfl 17 (by decide) fl_X7_85 rfl rfl dX7_readsThing_26 ?_
    refine lv_iconst (v := 1) hx hb dX7_readsThing_29 (by decide) ?_
    refine lv_iadd hx hb dX7_readsThing_30 ?_
    refine st_f (P := S_4) (r := 30) (j := 17) (wN := fun S_6 => (sW z qS S_6)) M inlX7 tyX7_ok nmX7 hw 0 rfl rfl 17 (by decide) fl_X7_85 rfl rfl rfl rfl rfl (Nat.le_of_ble_eq_true rfl) rfl dX7_readsThing_31 (fun S_6 H locs eS_6 hw => ?_)
    replace h := h S_6 eS_6
    refine lv_aload_n hx hb dX7_readsThing_34 rfl (lv_at hl 0 rfl) ?_
    refine lv_iload_n hx hb dX7_readsThing_35 rfl (lv_at hl 1 rfl) ?_
    refine lv_iconst (v := 1) hx hb dX7_readsThing_36 (by decide) ?_
    refine lv_iadd hx hb dX7_readsThing_37 ?_
    refine lv_iconst (v := 1) hx hb dX7_readsThing_38 (by decide) ?_
    refine fr_Vi (wN := fun u : RT => (sW z qS u)) M (m_X7_readsDigits l z qS S_6 (x1 + (1 : Int32)) (1 : Int32) _ h) (cwV 2 hts (gdV cd_X7_readsDigits ml_X7_99 im_X7_readsDigits se_X7_readsDigits in_X7) rfl rfl rfl hdV_X7_readsDigits ⟨(Nat.le_of_ble_eq_true rfl), (Nat.le_of_ble_eq_true rfl)⟩) (Cut.self _) (Prm.self _ 17 (fun _ => rfl)) 0 rfl rfl rfl hw rfl hl.1 rfl (Nat.le_of_ble_eq_true rfl) dX7_readsThing_39 (fun r_8 u_ H locs h hw => ?_)
    obtain ⟨S_7, rfl⟩ : ∃ z9 : RT, z9 = u_ := ⟨_, rfl⟩
    have hw : Hw s z A (sW z qS S_7) H locs := hw
    try dsimp only at h
    refine lv_if_eq (tgt := 60) hx hb dX7_readsThing_42 (by decide) (fun c_9 => ?_) (fun c_9 => ?_)
    · replace h := iT c_9 h
      refine lv_iconst (v := 0) hx hb dX7_readsThing_60 (by decide) ?_
      exact rt_z M S_7 hw bz0 h dX7_readsThing_61
    · replace h := iF c_9 h
      refine lv_aload_n hx hb dX7_readsThing_45 rfl (lv_at hl 0 rfl) ?_
      refine lv_iload_n hx hb dX7_readsThing_46 rfl (lv_at hl 1 rfl) ?_
      refine lv_iconst (v := 2) hx hb dX7_readsThing_47 (by decide) ?_
      refine lv_iadd hx hb dX7_readsThing_48 ?_
      refine lv_iconst (v := 2) hx hb dX7_readsThing_49 (by decide) ?_
      refine fr_Vi (wN := fun u : RT => (sW z qS u)) M (m_X7_readsDigits l z qS S_7 (x1 + (2 : Int32)) (2 : Int32) _ h) (cwV 2 hts (gdV cd_X7_readsDigits ml_X7_99 im_X7_readsDigits se_X7_readsDigits in_X7) rfl rfl rfl hdV_X7_readsDigits ⟨(Nat.le_of_ble_eq_true rfl), (Nat.le_of_ble_eq_true rfl)⟩) (Cut.self _) (Prm.self _ 17 (fun _ => rfl)) 0 rfl rfl rfl hw rfl hl.1 rfl (Nat.le_of_ble_eq_true rfl) dX7_readsThing_50 (fun r_11 u_ H locs h hw => ?_)
      obtain ⟨S_10, rfl⟩ : ∃ z9 : RT, z9 = u_ := ⟨_, rfl⟩
      have hw : Hw s z A (sW z qS S_10) H locs := hw
      try dsimp only at h
      refine lv_if_eq (tgt := 60) hx hb dX7_readsThing_53 (by decide) (fun c_12 => ?_) (fun c_12 => ?_)
      · replace h := iT c_12 h
        refine lv_iconst (v := 0) hx hb dX7_readsThing_60 (by decide) ?_
        exact rt_z M S_10 hw bz0 h dX7_readsThing_61
      · replace h := iF c_12 h
        refine lv_iconst (v := 1) hx hb dX7_readsThing_56 (by decide) ?_
        refine lv_goto (tgt := 61) hx hb dX7_readsThing_57 (by decide) ?_
        exact rt_z M S_10 hw bz1 h dX7_readsThing_61
  · replace h := iF c_5 h
    refine lv_iconst (v := 0) hx hb dX7_readsThing_22 (by decide) ?_
    exact rt_z M S_4 hw bz0 h dX7_readsThing_23
abbrev rmX7_readsAll : Room := { frames := 3, cells := 0, slots := 0, locals := 67 }
set_option maxHeartbeats 4000000 in
set_option maxRecDepth 100000 in
theorem m_X7_readsAll (l : Launch) (z : KT) (qS : Nat → Nat) (S : RT) (x1 : Int32) (x2 : Int32) (Q : Int32 → RT → Prop) (h : wX7_readsAll S x1 x2 Q) : CI l yX7_readsAll cX7_readsAll 3 .boolean rmX7_readsAll z [.ref (qS 0), .int x1, .int x2] (sW z qS S) (fun u : RT => (sW z qS u)) (fun (r : Int32) (u : RT) => Q r u) := by
  refine CI.of rfl (Nat.le_of_ble_eq_true rfl) ?_
  intro p e s m below meth c A ls M hw hl
  have M : Mc p s m _ meth c cX7_readsAll 3 (some .boolean) RX7 z A := M
  obtain ⟨hx, hb, -, -, hown, hts, -, -, -, hN, hsr, -⟩ := id M
  have hl : lv_has ls 3 [(0, .ref (qS 0)), (1, .int x1), (2, .int x2)] := hl
  unfold wX7_readsAll at h
  generalize s.heap = H at hw ⊢
  generalize ([] : List Loc) = locs at hw ⊢
  refine lv_iload_n hx hb dX7_readsAll_0 rfl (lv_at hl 1 rfl) ?_
  by_cases c_2 : x1 = (99 : Int32)
  · replace h := iT c_2 h
    refine lv_lookup (off := 75) (tgt := 76) hx hb dX7_readsAll_1 (by decide) (by first | (rw [c_2]; done) | (rw [c_2]; rfl)) (by decide) ?_
    refine lv_aload_n hx hb dX7_readsAll_76 rfl (lv_at hl 0 rfl) ?_
    refine lv_iload_n hx hb dX7_readsAll_77 rfl (lv_at hl 2 rfl) ?_
    refine lv_iconst (v := 1) hx hb dX7_readsAll_78 (by decide) ?_
    refine fr_Vi (wN := fun u : RT => (sW z qS u)) M (m_X7_readsDigits l z qS S x2 (1 : Int32) _ h) (cwV 2 hts (gdV cd_X7_readsDigits ml_X7_99 im_X7_readsDigits se_X7_readsDigits in_X7) rfl rfl rfl hdV_X7_readsDigits ⟨(Nat.le_of_ble_eq_true rfl), (Nat.le_of_ble_eq_true rfl)⟩) (Cut.self _) (Prm.self _ 17 (fun _ => rfl)) 0 rfl rfl rfl hw rfl hl.1 rfl (Nat.le_of_ble_eq_true rfl) dX7_readsAll_79 (fun r_4 u_ H locs h hw => ?_)
    obtain ⟨S_3, rfl⟩ : ∃ z9 : RT, z9 = u_ := ⟨_, rfl⟩
    have hw : Hw s z A (sW z qS S_3) H locs := hw
    try dsimp only at h
    obtain ⟨a_5, h⟩ := h
    exact rt_z M S_3 hw a_5 h dX7_readsAll_82
  replace h := iF c_2 h
  by_cases c_6 : x1 = (104 : Int32)
  · replace h := iT c_6 h
    refine lv_lookup (off := 82) (tgt := 83) hx hb dX7_readsAll_1 (by decide) (by first | (rw [c_6]; done) | (rw [c_6]; rfl)) (by decide) ?_
    refine lv_aload_n hx hb dX7_readsAll_83 rfl (lv_at hl 0 rfl) ?_
    refine lv_iload_n hx hb dX7_readsAll_84 rfl (lv_at hl 2 rfl) ?_
    refine lv_iconst (v := 2) hx hb dX7_readsAll_85 (by decide) ?_
    refine fr_Vi (wN := fun u : RT => (sW z qS u)) M (m_X7_readsDigits l z qS S x2 (2 : Int32) _ h) (cwV 2 hts (gdV cd_X7_readsDigits ml_X7_99 im_X7_readsDigits se_X7_readsDigits in_X7) rfl rfl rfl hdV_X7_readsDigits ⟨(Nat.le_of_ble_eq_true rfl), (Nat.le_of_ble_eq_true rfl)⟩) (Cut.self _) (Prm.self _ 17 (fun _ => rfl)) 0 rfl rfl rfl hw rfl hl.1 rfl (Nat.le_of_ble_eq_true rfl) dX7_readsAll_86 (fun r_8 u_ H locs h hw => ?_)
    obtain ⟨S_7, rfl⟩ : ∃ z9 : RT, z9 = u_ := ⟨_, rfl⟩
    have hw : Hw s z A (sW z qS S_7) H locs := hw
    try dsimp only at h
    obtain ⟨a_9, h⟩ := h
    exact rt_z M S_7 hw a_9 h dX7_readsAll_89
  replace h := iF c_6 h
  by_cases c_10 : x1 = (116 : Int32)
  · replace h := iT c_10 h
    refine lv_lookup (off := 43) (tgt := 44) hx hb dX7_readsAll_1 (by decide) (by first | (rw [c_10]; done) | (rw [c_10]; rfl)) (by decide) ?_
    refine lv_aload_n hx hb dX7_readsAll_44 rfl (lv_at hl 0 rfl) ?_
    refine lv_iload_n hx hb dX7_readsAll_45 rfl (lv_at hl 2 rfl) ?_
    refine fr_Vi (wN := fun u : RT => (sW z qS u)) M (m_X7_readsThing l z qS S x2 _ h) (cwV 1 hts (gdV cd_X7_readsThing ml_X7_103 im_X7_readsThing se_X7_readsThing in_X7) rfl rfl rfl hdV_X7_readsThing ⟨(Nat.le_of_ble_eq_true rfl), (Nat.le_of_ble_eq_true rfl)⟩) (Cut.self _) (Prm.self _ 17 (fun _ => rfl)) 0 rfl rfl rfl hw rfl hl.1 rfl (Nat.le_of_ble_eq_true rfl) dX7_readsAll_46 (fun r_12 u_ H locs h hw => ?_)
    obtain ⟨S_11, rfl⟩ : ∃ z9 : RT, z9 = u_ := ⟨_, rfl⟩
    have hw : Hw s z A (sW z qS S_11) H locs := hw
    try dsimp only at h
    obtain ⟨a_13, h⟩ := h
    exact rt_z M S_11 hw a_13 h dX7_readsAll_49
  replace h := iF c_10 h
  by_cases c_14 : x1 = (117 : Int32)
  · replace h := iT c_14 h
    refine lv_lookup (off := 49) (tgt := 50) hx hb dX7_readsAll_1 (by decide) (by first | (rw [c_14]; done) | (rw [c_14]; rfl)) (by decide) ?_
    refine lv_aload_n hx hb dX7_readsAll_50 rfl (lv_at hl 0 rfl) ?_
    refine lv_iload_n hx hb dX7_readsAll_51 rfl (lv_at hl 2 rfl) ?_
    refine lv_iconst (v := 1) hx hb dX7_readsAll_52 (by decide) ?_
    refine fr_Vi (wN := fun u : RT => (sW z qS u)) M (m_X7_readsDigits l z qS S x2 (1 : Int32) _ h) (cwV 2 hts (gdV cd_X7_readsDigits ml_X7_99 im_X7_readsDigits se_X7_readsDigits in_X7) rfl rfl rfl hdV_X7_readsDigits ⟨(Nat.le_of_ble_eq_true rfl), (Nat.le_of_ble_eq_true rfl)⟩) (Cut.self _) (Prm.self _ 17 (fun _ => rfl)) 0 rfl rfl rfl hw rfl hl.1 rfl (Nat.le_of_ble_eq_true rfl) dX7_readsAll_53 (fun r_16 u_ H locs h hw => ?_)
    obtain ⟨S_15, rfl⟩ : ∃ z9 : RT, z9 = u_ := ⟨_, rfl⟩
    have hw : Hw s z A (sW z qS S_15) H locs := hw
    try dsimp only at h
    refine lv_if_eq (tgt := 74) hx hb dX7_readsAll_56 (by decide) (fun c_17 => ?_) (fun c_17 => ?_)
    · replace h := iT c_17 h
      refine lv_iconst (v := 0) hx hb dX7_readsAll_74 (by decide) ?_
      exact rt_z M S_15 hw bz0 h dX7_readsAll_75
    · replace h := iF c_17 h
      refine lv_aload_n hx hb dX7_readsAll_59 rfl (lv_at hl 0 rfl) ?_
      refine lv_iload_n hx hb dX7_readsAll_60 rfl (lv_at hl 2 rfl) ?_
      refine lv_iconst (v := 1) hx hb dX7_readsAll_61 (by decide) ?_
      refine lv_iadd hx hb dX7_readsAll_62 ?_
      refine lv_iconst (v := 2) hx hb dX7_readsAll_63 (by decide) ?_
      refine fr_Vi (wN := fun u : RT => (sW z qS u)) M (m_X7_readsDigits l z qS S_15 (x2 + (1 : Int32)) (2 : Int32) _ h) (cwV 2 hts (gdV cd_X7_readsDigits ml_X7_99 im_X7_readsDigits se_X7_readsDigits in_X7) rfl rfl rfl hdV_X7_readsDigits ⟨(Nat.le_of_ble_eq_true rfl), (Nat.le_of_ble_eq_true rfl)⟩) (Cut.self _) (Prm.self _ 17 (fun _ => rfl)) 0 rfl rfl rfl hw rfl hl.1 rfl (Nat.le_of_ble_eq_true rfl) dX7_readsAll_64 (fun r_19 u_ H locs h hw => ?_)
      obtain ⟨S_18, rfl⟩ : ∃ z9 : RT, z9 = u_ := ⟨_, rfl⟩
      have hw : Hw s z A (sW z qS S_18) H locs := hw
      try dsimp only at h
      refine lv_if_eq (tgt := 74) hx hb dX7_readsAll_67 (by decide) (fun c_20 => ?_) (fun c_20 => ?_)
      · replace h := iT c_20 h
        refine lv_iconst (v := 0) hx hb dX7_readsAll_74 (by decide) ?_
        exact rt_z M S_18 hw bz0 h dX7_readsAll_75
      · replace h := iF c_20 h
        refine lv_iconst (v := 1) hx hb dX7_readsAll_70 (by decide) ?_
        refine lv_goto (tgt := 75) hx hb dX7_readsAll_71 (by decide) ?_
        exact rt_z M S_18 hw bz1 h dX7_readsAll_75
  replace h := iF c_14 h
  refine lv_lookup (off := 89) (tgt := 90) hx hb dX7_readsAll_1 (by decide) ((lv_osw c_2 (by decide)).trans <| (lv_osw c_6 (by decide)).trans <| (lv_osw c_10 (by decide)).trans <| (lv_osw c_14 (by decide)).trans <| rfl) (by decide) ?_
  refine lv_aload_n hx hb dX7_readsAll_90 rfl (lv_at hl 0 rfl) ?_
  refine lv_iload_n hx hb dX7_readsAll_91 rfl (lv_at hl 2 rfl) ?_
  refine lv_iconst (v := 1) hx hb dX7_readsAll_92 (by decide) ?_
  refine fr_Vi (wN := fun u : RT => (sW z qS u)) M (m_X7_readsDigits l z qS S x2 (1 : Int32) _ h) (cwV 2 hts (gdV cd_X7_readsDigits ml_X7_99 im_X7_readsDigits se_X7_readsDigits in_X7) rfl rfl rfl hdV_X7_readsDigits ⟨(Nat.le_of_ble_eq_true rfl), (Nat.le_of_ble_eq_true rfl)⟩) (Cut.self _) (Prm.self _ 17 (fun _ => rfl)) 0 rfl rfl rfl hw rfl hl.1 rfl (Nat.le_of_ble_eq_true rfl) dX7_readsAll_93 (fun r_22 u_ H locs h hw => ?_)
  obtain ⟨S_21, rfl⟩ : ∃ z9 : RT, z9 = u_ := ⟨_, rfl⟩
  have hw : Hw s z A (sW z qS S_21) H locs := hw
  try dsimp only at h
  refine lv_if_eq (tgt := 114) hx hb dX7_readsAll_96 (by decide) (fun c_23 => ?_) (fun c_23 => ?_)
  · replace h := iT c_23 h
    refine lv_iconst (v := 0) hx hb dX7_readsAll_114 (by decide) ?_
    exact rt_z M S_21 hw bz0 h dX7_readsAll_115
  · replace h := iF c_23 h
    refine lv_aload_n hx hb dX7_readsAll_99 rfl (lv_at hl 0 rfl) ?_
    refine lv_iload_n hx hb dX7_readsAll_100 rfl (lv_at hl 2 rfl) ?_
    refine lv_iconst (v := 1) hx hb dX7_readsAll_101 (by decide) ?_
    refine lv_iadd hx hb dX7_readsAll_102 ?_
    refine lv_iconst (v := 1) hx hb dX7_readsAll_103 (by decide) ?_
    refine fr_Vi (wN := fun u : RT => (sW z qS u)) M (m_X7_readsDigits l z qS S_21 (x2 + (1 : Int32)) (1 : Int32) _ h) (cwV 2 hts (gdV cd_X7_readsDigits ml_X7_99 im_X7_readsDigits se_X7_readsDigits in_X7) rfl rfl rfl hdV_X7_readsDigits ⟨(Nat.le_of_ble_eq_true rfl), (Nat.le_of_ble_eq_true rfl)⟩) (Cut.self _) (Prm.self _ 17 (fun _ => rfl)) 0 rfl rfl rfl hw rfl hl.1 rfl (Nat.le_of_ble_eq_true rfl) dX7_readsAll_104 (fun r_25 u_ H locs h hw => ?_)
    obtain ⟨S_24, rfl⟩ : ∃ z9 : RT, z9 = u_ := ⟨_, rfl⟩
    have hw : Hw s z A (sW z qS S_24) H locs := hw
    try dsimp only at h
    refine lv_if_eq (tgt := 114) hx hb dX7_readsAll_107 (by decide) (fun c_26 => ?_) (fun c_26 => ?_)
    · replace h := iT c_26 h
      refine lv_iconst (v := 0) hx hb dX7_readsAll_114 (by decide) ?_
      exact rt_z M S_24 hw bz0 h dX7_readsAll_115
    · replace h := iF c_26 h
      refine lv_iconst (v := 1) hx hb dX7_readsAll_110 (by decide) ?_
      refine lv_goto (tgt := 115) hx hb dX7_readsAll_111 (by decide) ?_
      exact rt_z M S_24 hw bz1 h dX7_readsAll_115
abbrev rmX7_statement : Room := { frames := 4, cells := 0, slots := 0, locals := 89 }
set_option maxHeartbeats 4000000 in
set_option maxRecDepth 100000 in
theorem kX7_statement_43 {p : Program} {l : Launch} {e : Env} {s : State} {m : MethodId} {args : Array Value} {below : List Frame} {meth : Method} {c : Code} {z : KT} {A : Nat → Prop} {qS : Nat → Nat} {Q : Int32 → RT → Prop} (M : Mc p s m args meth c cX7_statement 2 (some .boolean) RX7 z A) : ∀ (S : RT) (x1 : Int32) (H : Heap) (locs : List Loc) (ls : Array Slot), Hw s z A (sW z qS S) H locs → lv_has ls 2 [(0, .ref (qS 0)), (1, .int x1)] → bX7_statement_43 Q S x1 → W p l e rmX7_statement s m args below meth c H locs 0 0 (MQ below (va_Qi (fun (r : Int32) (u : RT) => Q r u) (fun u t => cAt z A ((fun u : RT => (sW z qS u)) u) t) A) args s 0 0 A) (F0 m 43 ls []) := by
  obtain ⟨hx, hb, -, -, hown, hts, -, -, -, hN, hsr, -⟩ := id M
  intro S x1 H locs ls hw hl h
  unfold bX7_statement_43 at h
  refine lv_aload_n hx hb dX7_statement_43 rfl (lv_at hl 0 rfl) ?_
  refine gt_f (v := .ref (qS 14)) M inlX7 hw 0 rfl rfl 13 (by decide) fl_X7_41 rfl rfl dX7_statement_44 ?_
  refine lv_aload_n hx hb dX7_statement_47 rfl (lv_at hl 0 rfl) ?_
  refine gt_f (v := .int (S 30 18)) M inlX7 hw 0 rfl rfl 18 (by decide) fl_X7_106 rfl rfl dX7_statement_48 ?_
  refine lv_iload_n hx hb dX7_statement_51 rfl (lv_at hl 1 rfl) ?_
  obtain ⟨a_1, h⟩ := h
  refine st_i (P := S) (r := 13) (wN := fun S_2 => (sW z qS S_2)) M hw 10 rfl rfl a_1 dX7_statement_52 (fun S_2 H locs eS_2 hw => ?_)
  replace h := h S_2 eS_2
  refine lv_aload_n hx hb dX7_statement_53 rfl (lv_at hl 0 rfl) ?_
  refine gt_f (v := .ref (qS 15)) M inlX7 hw 0 rfl rfl 14 (by decide) fl_X7_44 rfl rfl dX7_statement_54 ?_
  refine lv_aload_n hx hb dX7_statement_57 rfl (lv_at hl 0 rfl) ?_
  refine gt_f (v := .int (S_2 30 18)) M inlX7 hw 0 rfl rfl 18 (by decide) fl_X7_106 rfl rfl dX7_statement_58 ?_
  refine lv_aload_n hx hb dX7_statement_61 rfl (lv_at hl 0 rfl) ?_
  refine gt_f (v := .int (S_2 30 17)) M inlX7 hw 0 rfl rfl 17 (by decide) fl_X7_85 rfl rfl dX7_statement_62 ?_
  obtain ⟨a_3, h⟩ := h
  refine st_i (P := S_2) (r := 14) (wN := fun S_4 => (sW z qS S_4)) M hw 11 rfl rfl a_3 dX7_statement_65 (fun S_4 H locs eS_4 hw => ?_)
  replace h := h S_4 eS_4
  refine lv_aload_n hx hb dX7_statement_66 rfl (lv_at hl 0 rfl) ?_
  refine lv_dup hx hb dX7_statement_67 rfl ?_
  refine gt_f (v := .int (S_4 30 17)) M inlX7 hw 0 rfl rfl 17 (by decide) fl_X7_85 rfl rfl dX7_statement_68 ?_
  refine lv_iconst (v := 1) hx hb dX7_statement_71 (by decide) ?_
  refine lv_iadd hx hb dX7_statement_72 ?_
  refine st_f (P := S_4) (r := 30) (j := 17) (wN := fun S_5 => (sW z qS S_5)) M inlX7 tyX7_ok nmX7 hw 0 rfl rfl 17 (by decide) fl_X7_85 rfl rfl rfl rfl rfl (Nat.le_of_ble_eq_true rfl) rfl dX7_statement_73 (fun S_5 H locs eS_5 hw => ?_)
  replace h := h S_5 eS_5
  refine lv_aload_n hx hb dX7_statement_76 rfl (lv_at hl 0 rfl) ?_
  refine lv_iload_n hx hb dX7_statement_77 rfl (lv_at hl 1 rfl) ?_
  refine lv_iconst (v := 3) hx hb dX7_statement_78 (by decide) ?_
  refine lv_aload_n hx hb dX7_statement_79 rfl (lv_at hl 0 rfl) ?_
  refine gt_f (v := .int (S_5 30 18)) M inlX7 hw 0 rfl rfl 18 (by decide) fl_X7_106 rfl rfl dX7_statement_80 ?_
  refine lv_imul hx hb dX7_statement_83 ?_
  refine fr_Vi (wN := fun u : RT => (sW z qS u)) M (m_X7_readsAll l z qS S_5 x1 ((3 : Int32) * (S_5 30 18)) _ h) (cwV 2 hts (gdV cd_X7_readsAll ml_X7_109 im_X7_readsAll se_X7_readsAll in_X7) rfl rfl rfl hdV_X7_readsAll ⟨(Nat.le_of_ble_eq_true rfl), (Nat.le_of_ble_eq_true rfl)⟩) (Cut.self _) (Prm.self _ 17 (fun _ => rfl)) 0 rfl rfl rfl hw rfl hl.1 rfl (Nat.le_of_ble_eq_true rfl) dX7_statement_84 (fun r_7 u_ H locs h hw => ?_)
  obtain ⟨S_6, rfl⟩ : ∃ z9 : RT, z9 = u_ := ⟨_, rfl⟩
  have hw : Hw s z A (sW z qS S_6) H locs := hw
  try dsimp only at h
  refine lv_if_eq (tgt := 99) hx hb dX7_statement_87 (by decide) (fun c_8 => ?_) (fun c_8 => ?_)
  · replace h := iT c_8 h
    refine lv_iconst (v := 0) hx hb dX7_statement_99 (by decide) ?_
    exact rt_z M S_6 hw bz0 h dX7_statement_100
  · replace h := iF c_8 h
    refine lv_aload_n hx hb dX7_statement_90 rfl (lv_at hl 0 rfl) ?_
    refine fr_Vi (wN := fun _ : Unit => (sW z qS S_6)) M (m_X7_next l z qS S_6 _ h) (cwV 0 hts (gdV cd_X7_next ml_X7_88 im_X7_next se_X7_next in_X7) rfl rfl rfl hdV_X7_next ⟨(Nat.le_of_ble_eq_true rfl), (Nat.le_of_ble_eq_true rfl)⟩) (Cut.self _) (Prm.self _ 17 (fun _ => rfl)) 0 rfl rfl rfl hw rfl hl.1 rfl (Nat.le_of_ble_eq_true rfl) dX7_statement_91 (fun r_9 u_ H locs h hw => ?_)
    have hw : Hw s z A (sW z qS S_6) H locs := hw
    try dsimp only at h
    refine lv_bipush (v := 59) hx hb dX7_statement_94 (by decide) ?_
    refine lv_icmp_eq (tgt := 101) hx hb dX7_statement_96 (by decide) (fun c_10 => ?_) (fun c_10 => ?_)
    · replace h := iT c_10 h
      refine lv_aload_n hx hb dX7_statement_101 rfl (lv_at hl 0 rfl) ?_
      refine lv_dup hx hb dX7_statement_102 rfl ?_
      refine gt_f (v := .int (S_6 30 17)) M inlX7 hw 0 rfl rfl 17 (by decide) fl_X7_85 rfl rfl dX7_statement_103 ?_
      refine lv_iconst (v := 1) hx hb dX7_statement_106 (by decide) ?_
      refine lv_iadd hx hb dX7_statement_107 ?_
      refine st_f (P := S_6) (r := 30) (j := 17) (wN := fun S_11 => (sW z qS S_11)) M inlX7 tyX7_ok nmX7 hw 0 rfl rfl 17 (by decide) fl_X7_85 rfl rfl rfl rfl rfl (Nat.le_of_ble_eq_true rfl) rfl dX7_statement_108 (fun S_11 H locs eS_11 hw => ?_)
      replace h := h S_11 eS_11
      refine lv_iconst (v := 1) hx hb dX7_statement_111 (by decide) ?_
      exact rt_z M S_11 hw bz1 h dX7_statement_112
    · replace h := iF c_10 h
      refine lv_iconst (v := 0) hx hb dX7_statement_99 (by decide) ?_
      exact rt_z M S_6 hw bz0 h dX7_statement_100
set_option maxHeartbeats 4000000 in
set_option maxRecDepth 100000 in
theorem m_X7_statement (l : Launch) (z : KT) (qS : Nat → Nat) (S : RT) (Q : Int32 → RT → Prop) (h : wX7_statement S Q) : CI l yX7_statement cX7_statement 2 .boolean rmX7_statement z [.ref (qS 0)] (sW z qS S) (fun u : RT => (sW z qS u)) (fun (r : Int32) (u : RT) => Q r u) := by
  refine CI.of rfl (Nat.le_of_ble_eq_true rfl) ?_
  intro p e s m below meth c A ls M hw hl
  have M : Mc p s m _ meth c cX7_statement 2 (some .boolean) RX7 z A := M
  obtain ⟨hx, hb, -, -, hown, hts, -, -, -, hN, hsr, -⟩ := id M
  have hl : lv_has ls 2 [(0, .ref (qS 0))] := hl
  unfold wX7_statement at h
  generalize s.heap = H at hw ⊢
  generalize ([] : List Loc) = locs at hw ⊢
  refine lv_aload_n hx hb dX7_statement_0 rfl (lv_at hl 0 rfl) ?_
  refine fr_Vi (wN := fun _ : Unit => (sW z qS S)) M (m_X7_next l z qS S _ h) (cwV 0 hts (gdV cd_X7_next ml_X7_88 im_X7_next se_X7_next in_X7) rfl rfl rfl hdV_X7_next ⟨(Nat.le_of_ble_eq_true rfl), (Nat.le_of_ble_eq_true rfl)⟩) (Cut.self _) (Prm.self _ 17 (fun _ => rfl)) 0 rfl rfl rfl hw rfl hl.1 rfl (Nat.le_of_ble_eq_true rfl) dX7_statement_1 (fun r_1 u_ H locs h hw => ?_)
  have hw : Hw s z A (sW z qS S) H locs := hw
  try dsimp only at h
  refine lv_istore_n (lv' := [(1, .int r_1), (0, .ref (qS 0))]) hx hb dX7_statement_4 rfl hl (by decide) rfl (fun ls hl => ?_)
  refine lv_iload_n hx hb dX7_statement_5 rfl (lv_at hl 0 rfl) ?_
  refine lv_bipush (v := 116) hx hb dX7_statement_6 (by decide) ?_
  refine lv_icmp_eq (tgt := 43) hx hb dX7_statement_8 (by decide) (fun c_2 => ?_) (fun c_2 => ?_)
  · replace h := iT c_2 h
    exact kX7_statement_43 M S r_1 H locs ls hw (lv_sub hl [1, 0] rfl) h
  · replace h := iF c_2 h
    refine lv_iload_n hx hb dX7_statement_11 rfl (lv_at hl 0 rfl) ?_
    refine lv_bipush (v := 114) hx hb dX7_statement_12 (by decide) ?_
    refine lv_icmp_eq (tgt := 43) hx hb dX7_statement_14 (by decide) (fun c_3 => ?_) (fun c_3 => ?_)
    · replace h := iT c_3 h
      exact kX7_statement_43 M S r_1 H locs ls hw (lv_sub hl [1, 0] rfl) h
    · replace h := iF c_3 h
      refine lv_iload_n hx hb dX7_statement_17 rfl (lv_at hl 0 rfl) ?_
      refine lv_bipush (v := 99) hx hb dX7_statement_18 (by decide) ?_
      refine lv_icmp_eq (tgt := 43) hx hb dX7_statement_20 (by decide) (fun c_4 => ?_) (fun c_4 => ?_)
      · replace h := iT c_4 h
        exact kX7_statement_43 M S r_1 H locs ls hw (lv_sub hl [1, 0] rfl) h
      · replace h := iF c_4 h
        refine lv_iload_n hx hb dX7_statement_23 rfl (lv_at hl 0 rfl) ?_
        refine lv_bipush (v := 115) hx hb dX7_statement_24 (by decide) ?_
        refine lv_icmp_eq (tgt := 43) hx hb dX7_statement_26 (by decide) (fun c_5 => ?_) (fun c_5 => ?_)
        · replace h := iT c_5 h
          exact kX7_statement_43 M S r_1 H locs ls hw (lv_sub hl [1, 0] rfl) h
        · replace h := iF c_5 h
          refine lv_iload_n hx hb dX7_statement_29 rfl (lv_at hl 0 rfl) ?_
          refine lv_bipush (v := 117) hx hb dX7_statement_30 (by decide) ?_
          refine lv_icmp_eq (tgt := 43) hx hb dX7_statement_32 (by decide) (fun c_6 => ?_) (fun c_6 => ?_)
          · replace h := iT c_6 h
            exact kX7_statement_43 M S r_1 H locs ls hw (lv_sub hl [1, 0] rfl) h
          · replace h := iF c_6 h
            refine lv_iload_n hx hb dX7_statement_35 rfl (lv_at hl 0 rfl) ?_
            refine lv_bipush (v := 104) hx hb dX7_statement_36 (by decide) ?_
            refine lv_icmp_eq (tgt := 43) hx hb dX7_statement_38 (by decide) (fun c_7 => ?_) (fun c_7 => ?_)
            · replace h := iT c_7 h
              exact kX7_statement_43 M S r_1 H locs ls hw (lv_sub hl [1, 0] rfl) h
            · replace h := iF c_7 h
              refine lv_iconst (v := 0) hx hb dX7_statement_41 (by decide) ?_
              exact rt_z M S hw bz0 h dX7_statement_42
abbrev rmX7_comesThing : Room := { frames := 0, cells := 0, slots := 0, locals := 0 }
set_option maxHeartbeats 4000000 in
set_option maxRecDepth 100000 in
theorem m_X7_comesThing (l : Launch) (z : KT) (qS : Nat → Nat) (S : RT) (x1 : Int32) (Q : Int32 → RT → Prop) (h : wX7_comesThing S x1 Q) : CI l yX7_comesThing cX7_comesThing 2 .boolean rmX7_comesThing z [.ref (qS 0), .int x1] (sW z qS S) (fun u : RT => (sW z qS u)) (fun (r : Int32) (u : RT) => Q r u) := by
  refine CI.of rfl (Nat.le_of_ble_eq_true rfl) ?_
  intro p e s m below meth c A ls M hw hl
  have M : Mc p s m _ meth c cX7_comesThing 2 (some .boolean) RX7 z A := M
  obtain ⟨hx, hb, -, -, hown, hts, -, -, -, hN, hsr, -⟩ := id M
  have hl : lv_has ls 2 [(0, .ref (qS 0)), (1, .int x1)] := hl
  unfold wX7_comesThing at h
  generalize s.heap = H at hw ⊢
  generalize ([] : List Loc) = locs at hw ⊢
  refine lv_aload_n hx hb dX7_comesThing_0 rfl (lv_at hl 0 rfl) ?_
  refine gt_f (v := .int (S 30 8)) M inlX7 hw 0 rfl rfl 8 (by decide) fl_X7_62 rfl rfl dX7_comesThing_1 ?_
  refine lv_bipush (v := 8) hx hb dX7_comesThing_4 (by decide) ?_
  refine lv_icmp_eq (tgt := 22) hx hb dX7_comesThing_6 (by decide) (fun c_1 => ?_) (fun c_1 => ?_)
  · replace h := iT c_1 h
    refine lv_iconst (v := 0) hx hb dX7_comesThing_22 (by decide) ?_
    exact rt_z M S hw bz0 h dX7_comesThing_23
  · replace h := iF c_1 h
    refine lv_aload_n hx hb dX7_comesThing_9 rfl (lv_at hl 0 rfl) ?_
    refine gt_f (v := .ref (qS 16)) M inlX7 hw 0 rfl rfl 15 (by decide) fl_X7_47 rfl rfl dX7_comesThing_10 ?_
    refine lv_iload_n hx hb dX7_comesThing_13 rfl (lv_at hl 1 rfl) ?_
    refine lv_iconst (v := 2) hx hb dX7_comesThing_14 (by decide) ?_
    refine lv_iadd hx hb dX7_comesThing_15 ?_
    obtain ⟨a_2, h⟩ := h
    refine ld_i M hw 12 rfl a_2 dX7_comesThing_16 ?_
    refine lv_bipush (v := 60) hx hb dX7_comesThing_17 (by decide) ?_
    refine lv_icmp_le (tgt := 24) hx hb dX7_comesThing_19 (by decide) (fun c_3 => ?_) (fun c_3 => ?_)
    · replace h := iT c_3 h
      refine lv_aload_n hx hb dX7_comesThing_24 rfl (lv_at hl 0 rfl) ?_
      refine gt_f (v := .ref (qS 2)) M inlX7 hw 0 rfl rfl 1 (by decide) fl_X7_13 rfl rfl dX7_comesThing_25 ?_
      refine lv_aload_n hx hb dX7_comesThing_28 rfl (lv_at hl 0 rfl) ?_
      refine gt_f (v := .int (S 30 8)) M inlX7 hw 0 rfl rfl 8 (by decide) fl_X7_62 rfl rfl dX7_comesThing_29 ?_
      refine lv_aload_n hx hb dX7_comesThing_32 rfl (lv_at hl 0 rfl) ?_
      refine gt_f (v := .ref (qS 16)) M inlX7 hw 0 rfl rfl 15 (by decide) fl_X7_47 rfl rfl dX7_comesThing_33 ?_
      refine lv_iload_n hx hb dX7_comesThing_36 rfl (lv_at hl 1 rfl) ?_
      obtain ⟨a_4, h⟩ := h
      refine ld_i M hw 12 rfl a_4 dX7_comesThing_37 ?_
      obtain ⟨a_5, h⟩ := h
      refine st_i (P := S) (r := 1) (wN := fun S_6 => (sW z qS S_6)) M hw 2 rfl rfl a_5 dX7_comesThing_38 (fun S_6 H locs eS_6 hw => ?_)
      replace h := h S_6 eS_6
      refine lv_aload_n hx hb dX7_comesThing_39 rfl (lv_at hl 0 rfl) ?_
      refine gt_f (v := .ref (qS 3)) M inlX7 hw 0 rfl rfl 2 (by decide) fl_X7_16 rfl rfl dX7_comesThing_40 ?_
      refine lv_aload_n hx hb dX7_comesThing_43 rfl (lv_at hl 0 rfl) ?_
      refine gt_f (v := .int (S_6 30 8)) M inlX7 hw 0 rfl rfl 8 (by decide) fl_X7_62 rfl rfl dX7_comesThing_44 ?_
      refine lv_aload_n hx hb dX7_comesThing_47 rfl (lv_at hl 0 rfl) ?_
      refine gt_f (v := .ref (qS 16)) M inlX7 hw 0 rfl rfl 15 (by decide) fl_X7_47 rfl rfl dX7_comesThing_48 ?_
      refine lv_iload_n hx hb dX7_comesThing_51 rfl (lv_at hl 1 rfl) ?_
      refine lv_iconst (v := 1) hx hb dX7_comesThing_52 (by decide) ?_
      refine lv_iadd hx hb dX7_comesThing_53 ?_
      obtain ⟨a_7, h⟩ := h
      refine ld_i M hw 12 rfl a_7 dX7_comesThing_54 ?_
      obtain ⟨a_8, h⟩ := h
      refine st_i (P := S_6) (r := 2) (wN := fun S_9 => (sW z qS S_9)) M hw 3 rfl rfl a_8 dX7_comesThing_55 (fun S_9 H locs eS_9 hw => ?_)
      replace h := h S_9 eS_9
      refine lv_aload_n hx hb dX7_comesThing_56 rfl (lv_at hl 0 rfl) ?_
      refine gt_f (v := .ref (qS 4)) M inlX7 hw 0 rfl rfl 3 (by decide) fl_X7_19 rfl rfl dX7_comesThing_57 ?_
      refine lv_aload_n hx hb dX7_comesThing_60 rfl (lv_at hl 0 rfl) ?_
      refine gt_f (v := .int (S_9 30 8)) M inlX7 hw 0 rfl rfl 8 (by decide) fl_X7_62 rfl rfl dX7_comesThing_61 ?_
      refine lv_aload_n hx hb dX7_comesThing_64 rfl (lv_at hl 0 rfl) ?_
      refine gt_f (v := .ref (qS 16)) M inlX7 hw 0 rfl rfl 15 (by decide) fl_X7_47 rfl rfl dX7_comesThing_65 ?_
      refine lv_iload_n hx hb dX7_comesThing_68 rfl (lv_at hl 1 rfl) ?_
      refine lv_iconst (v := 2) hx hb dX7_comesThing_69 (by decide) ?_
      refine lv_iadd hx hb dX7_comesThing_70 ?_
      refine ld_i M hw 12 rfl a_2 dX7_comesThing_71 ?_
      obtain ⟨a_10, h⟩ := h
      refine st_i (P := S_9) (r := 3) (wN := fun S_11 => (sW z qS S_11)) M hw 4 rfl rfl a_10 dX7_comesThing_72 (fun S_11 H locs eS_11 hw => ?_)
      replace h := h S_11 eS_11
      refine lv_aload_n hx hb dX7_comesThing_73 rfl (lv_at hl 0 rfl) ?_
      refine gt_f (v := .ref (qS 5)) M inlX7 hw 0 rfl rfl 4 (by decide) fl_X7_22 rfl rfl dX7_comesThing_74 ?_
      refine lv_aload_n hx hb dX7_comesThing_77 rfl (lv_at hl 0 rfl) ?_
      refine gt_f (v := .int (S_11 30 8)) M inlX7 hw 0 rfl rfl 8 (by decide) fl_X7_62 rfl rfl dX7_comesThing_78 ?_
      refine lv_iconst (v := 0) hx hb dX7_comesThing_81 (by decide) ?_
      obtain ⟨a_12, h⟩ := h
      refine st_i (P := S_11) (r := 4) (wN := fun S_13 => (sW z qS S_13)) M hw 5 rfl rfl a_12 dX7_comesThing_82 (fun S_13 H locs eS_13 hw => ?_)
      replace h := h S_13 eS_13
      refine lv_aload_n hx hb dX7_comesThing_83 rfl (lv_at hl 0 rfl) ?_
      refine gt_f (v := .ref (qS 6)) M inlX7 hw 0 rfl rfl 5 (by decide) fl_X7_25 rfl rfl dX7_comesThing_84 ?_
      refine lv_aload_n hx hb dX7_comesThing_87 rfl (lv_at hl 0 rfl) ?_
      refine gt_f (v := .int (S_13 30 8)) M inlX7 hw 0 rfl rfl 8 (by decide) fl_X7_62 rfl rfl dX7_comesThing_88 ?_
      refine lv_iconst (v := 0) hx hb dX7_comesThing_91 (by decide) ?_
      obtain ⟨a_14, h⟩ := h
      refine st_i (P := S_13) (r := 5) (wN := fun S_15 => (sW z qS S_15)) M hw 6 rfl rfl a_14 dX7_comesThing_92 (fun S_15 H locs eS_15 hw => ?_)
      replace h := h S_15 eS_15
      refine lv_aload_n hx hb dX7_comesThing_93 rfl (lv_at hl 0 rfl) ?_
      refine lv_dup hx hb dX7_comesThing_94 rfl ?_
      refine gt_f (v := .int (S_15 30 8)) M inlX7 hw 0 rfl rfl 8 (by decide) fl_X7_62 rfl rfl dX7_comesThing_95 ?_
      refine lv_iconst (v := 1) hx hb dX7_comesThing_98 (by decide) ?_
      refine lv_iadd hx hb dX7_comesThing_99 ?_
      refine st_f (P := S_15) (r := 30) (j := 8) (wN := fun S_16 => (sW z qS S_16)) M inlX7 tyX7_ok nmX7 hw 0 rfl rfl 8 (by decide) fl_X7_62 rfl rfl rfl rfl rfl (Nat.le_of_ble_eq_true rfl) rfl dX7_comesThing_100 (fun S_16 H locs eS_16 hw => ?_)
      replace h := h S_16 eS_16
      refine lv_iconst (v := 1) hx hb dX7_comesThing_103 (by decide) ?_
      exact rt_z M S_16 hw bz1 h dX7_comesThing_104
    · replace h := iF c_3 h
      refine lv_iconst (v := 0) hx hb dX7_comesThing_22 (by decide) ?_
      exact rt_z M S hw bz0 h dX7_comesThing_23
abbrev rmX7_adds : Room := { frames := 0, cells := 0, slots := 0, locals := 0 }
set_option maxHeartbeats 4000000 in
set_option maxRecDepth 100000 in
theorem m_X7_adds (l : Launch) (z : KT) (qS : Nat → Nat) (S : RT) (x1 : Int32) (x2 : Int32) (Q : RT → Prop) (h : wX7_adds S x1 x2 Q) : CV l yX7_adds cX7_adds 3 rmX7_adds z [.ref (qS 0), .int x1, .int x2] (sW z qS S) (fun u : RT => (sW z qS u)) (fun u : RT => Q u) := by
  refine CV.of rfl (Nat.le_of_ble_eq_true rfl) ?_
  intro p e s m below meth c A ls M hw hl
  have M : Mc p s m _ meth c cX7_adds 3 none RX7 z A := M
  obtain ⟨hx, hb, -, -, hown, hts, -, -, -, hN, hsr, -⟩ := id M
  have hl : lv_has ls 3 [(0, .ref (qS 0)), (1, .int x1), (2, .int x2)] := hl
  unfold wX7_adds at h
  generalize s.heap = H at hw ⊢
  generalize ([] : List Loc) = locs at hw ⊢
  refine lv_aload_n hx hb dX7_adds_0 rfl (lv_at hl 0 rfl) ?_
  refine gt_f (v := .ref (qS 7)) M inlX7 hw 0 rfl rfl 6 (by decide) fl_X7_28 rfl rfl dX7_adds_1 ?_
  refine lv_aload_n hx hb dX7_adds_4 rfl (lv_at hl 0 rfl) ?_
  refine gt_f (v := .int (S 30 9)) M inlX7 hw 0 rfl rfl 9 (by decide) fl_X7_67 rfl rfl dX7_adds_5 ?_
  refine lv_iload_n hx hb dX7_adds_8 rfl (lv_at hl 1 rfl) ?_
  obtain ⟨a_1, h⟩ := h
  refine st_i (P := S) (r := 6) (wN := fun S_2 => (sW z qS S_2)) M hw 7 rfl rfl a_1 dX7_adds_9 (fun S_2 H locs eS_2 hw => ?_)
  replace h := h S_2 eS_2
  refine lv_aload_n hx hb dX7_adds_10 rfl (lv_at hl 0 rfl) ?_
  refine gt_f (v := .ref (qS 8)) M inlX7 hw 0 rfl rfl 7 (by decide) fl_X7_31 rfl rfl dX7_adds_11 ?_
  refine lv_aload_n hx hb dX7_adds_14 rfl (lv_at hl 0 rfl) ?_
  refine gt_f (v := .int (S_2 30 9)) M inlX7 hw 0 rfl rfl 9 (by decide) fl_X7_67 rfl rfl dX7_adds_15 ?_
  refine lv_iload_n hx hb dX7_adds_18 rfl (lv_at hl 2 rfl) ?_
  obtain ⟨a_3, h⟩ := h
  refine st_i (P := S_2) (r := 7) (wN := fun S_4 => (sW z qS S_4)) M hw 8 rfl rfl a_3 dX7_adds_19 (fun S_4 H locs eS_4 hw => ?_)
  replace h := h S_4 eS_4
  refine lv_aload_n hx hb dX7_adds_20 rfl (lv_at hl 0 rfl) ?_
  refine lv_dup hx hb dX7_adds_21 rfl ?_
  refine gt_f (v := .int (S_4 30 9)) M inlX7 hw 0 rfl rfl 9 (by decide) fl_X7_67 rfl rfl dX7_adds_22 ?_
  refine lv_iconst (v := 1) hx hb dX7_adds_25 (by decide) ?_
  refine lv_iadd hx hb dX7_adds_26 ?_
  refine st_f (P := S_4) (r := 30) (j := 9) (wN := fun S_5 => (sW z qS S_5)) M inlX7 tyX7_ok nmX7 hw 0 rfl rfl 9 (by decide) fl_X7_67 rfl rfl rfl rfl rfl (Nat.le_of_ble_eq_true rfl) rfl dX7_adds_27 (fun S_5 H locs eS_5 hw => ?_)
  replace h := h S_5 eS_5
  exact rt_v M S_5 hw h dX7_adds_30
abbrev rmX7_comesRope : Room := { frames := 2, cells := 0, slots := 0, locals := 43 }
set_option maxHeartbeats 4000000 in
set_option maxRecDepth 100000 in
theorem m_X7_comesRope (l : Launch) (z : KT) (qS : Nat → Nat) (S : RT) (x1 : Int32) (x2 : Int32) (Q : Int32 → RT → Prop) (h : wX7_comesRope S x1 x2 Q) : CI l yX7_comesRope cX7_comesRope 3 .boolean rmX7_comesRope z [.ref (qS 0), .int x1, .int x2] (sW z qS S) (fun u : RT => (sW z qS u)) (fun (r : Int32) (u : RT) => Q r u) := by
  refine CI.of rfl (Nat.le_of_ble_eq_true rfl) ?_
  intro p e s m below meth c A ls M hw hl
  have M : Mc p s m _ meth c cX7_comesRope 3 (some .boolean) RX7 z A := M
  obtain ⟨hx, hb, -, -, hown, hts, -, -, -, hN, hsr, -⟩ := id M
  have hl : lv_has ls 3 [(0, .ref (qS 0)), (1, .int x1), (2, .int x2)] := hl
  unfold wX7_comesRope at h
  generalize s.heap = H at hw ⊢
  generalize ([] : List Loc) = locs at hw ⊢
  refine lv_aload_n hx hb dX7_comesRope_0 rfl (lv_at hl 0 rfl) ?_
  refine lv_iload_n hx hb dX7_comesRope_1 rfl (lv_at hl 1 rfl) ?_
  refine lv_iload_n hx hb dX7_comesRope_2 rfl (lv_at hl 2 rfl) ?_
  refine fr_Vi (wN := fun _ : Unit => (sW z qS S)) M (m_X7_areTwo l z qS S x1 x2 _ h) (cwV 2 hts (gdV cd_X7_areTwo ml_X7_112 im_X7_areTwo se_X7_areTwo in_X7) rfl rfl rfl hdV_X7_areTwo ⟨(Nat.le_of_ble_eq_true rfl), (Nat.le_of_ble_eq_true rfl)⟩) (Cut.self _) (Prm.self _ 17 (fun _ => rfl)) 0 rfl rfl rfl hw rfl hl.1 rfl (Nat.le_of_ble_eq_true rfl) dX7_comesRope_3 (fun r_1 u_ H locs h hw => ?_)
  have hw : Hw s z A (sW z qS S) H locs := hw
  try dsimp only at h
  refine lv_if_eq (tgt := 18) hx hb dX7_comesRope_6 (by decide) (fun c_2 => ?_) (fun c_2 => ?_)
  · replace h := iT c_2 h
    refine lv_iconst (v := 0) hx hb dX7_comesRope_18 (by decide) ?_
    exact rt_z M S hw bz0 h dX7_comesRope_19
  · replace h := iF c_2 h
    refine lv_aload_n hx hb dX7_comesRope_9 rfl (lv_at hl 0 rfl) ?_
    refine gt_f (v := .int (S 30 9)) M inlX7 hw 0 rfl rfl 9 (by decide) fl_X7_67 rfl rfl dX7_comesRope_10 ?_
    refine lv_bipush (v := 6) hx hb dX7_comesRope_13 (by decide) ?_
    refine lv_icmp_ne (tgt := 20) hx hb dX7_comesRope_15 (by decide) (fun c_3 => ?_) (fun c_3 => ?_)
    · replace h := iF c_3 h
      refine lv_aload_n hx hb dX7_comesRope_20 rfl (lv_at hl 0 rfl) ?_
      refine lv_iload_n hx hb dX7_comesRope_21 rfl (lv_at hl 1 rfl) ?_
      refine lv_iload_n hx hb dX7_comesRope_22 rfl (lv_at hl 2 rfl) ?_
      refine fr_Vv (wN := fun u : RT => (sW z qS u)) M (m_X7_adds l z qS S x1 x2 _ h) (cwV 2 hts (gdV cd_X7_adds ml_X7_115 im_X7_adds se_X7_adds in_X7) rfl rfl rfl hdV_X7_adds ⟨(Nat.le_of_ble_eq_true rfl), (Nat.le_of_ble_eq_true rfl)⟩) (Cut.self _) (Prm.self _ 17 (fun _ => rfl)) 0 rfl rfl rfl hw rfl hl.1 rfl (Nat.le_of_ble_eq_true rfl) dX7_comesRope_23 (fun u_ H locs h hw => ?_)
      obtain ⟨S_4, rfl⟩ : ∃ z9 : RT, z9 = u_ := ⟨_, rfl⟩
      have hw : Hw s z A (sW z qS S_4) H locs := hw
      try dsimp only at h
      refine lv_iconst (v := 1) hx hb dX7_comesRope_26 (by decide) ?_
      exact rt_z M S_4 hw bz1 h dX7_comesRope_27
    · replace h := iT c_3 h
      refine lv_iconst (v := 0) hx hb dX7_comesRope_18 (by decide) ?_
      exact rt_z M S hw bz0 h dX7_comesRope_19
abbrev rmX7_heftAt : Room := { frames := 1, cells := 0, slots := 0, locals := 22 }
set_option maxHeartbeats 4000000 in
set_option maxRecDepth 100000 in
theorem kX7_heftAt_67 {p : Program} {l : Launch} {e : Env} {s : State} {m : MethodId} {args : Array Value} {below : List Frame} {meth : Method} {c : Code} {z : KT} {A : Nat → Prop} {qS : Nat → Nat} {S : RT} {Q : Int32 → Prop} (M : Mc p s m args meth c cX7_heftAt 6 (some .int) RX7 z A) : ∀ (x1 : Int32) (x2 : Int32) (x3 : Int32) (x4 : Int32) (t0 : Int32) (H : Heap) (locs : List Loc) (ls : Array Slot), Hw s z A (sW z qS S) H locs → lv_has ls 6 [(0, .ref (qS 0)), (1, .int x1), (2, .int x2), (3, .int x3), (4, .int x4)] → bX7_heftAt_67 S Q x1 x2 x3 x4 t0 → W p l e rmX7_heftAt s m args below meth c H locs 0 0 (MQ below (va_Qi (fun (r : Int32) (_ : Unit) => Q r) (fun u t => cAt z A ((fun _ : Unit => (sW z qS S)) u) t) A) args s 0 0 A) (F0 m 67 ls [.int t0]) := by
  obtain ⟨hx, hb, -, -, hown, hts, -, -, -, hN, hsr, -⟩ := id M
  intro x1 x2 x3 x4 t0 H locs ls hw hl h
  unfold bX7_heftAt_67 at h
  refine lv_istore (lv' := [(5, .int t0), (0, .ref (qS 0)), (1, .int x1), (2, .int x2), (3, .int x3), (4, .int x4)]) hx hb dX7_heftAt_67 hl (by decide) rfl (fun ls hl => ?_)
  refine lv_aload_n hx hb dX7_heftAt_69 rfl (lv_at hl 1 rfl) ?_
  refine gt_f (v := .ref (qS 2)) M inlX7 hw 0 rfl rfl 1 (by decide) fl_X7_13 rfl rfl dX7_heftAt_70 ?_
  refine lv_iload_n hx hb dX7_heftAt_73 rfl (lv_at hl 2 rfl) ?_
  obtain ⟨a_1, h⟩ := h
  refine ld_i M hw 2 rfl a_1 dX7_heftAt_74 ?_
  refine lv_topi (fun s_2 es_2 => ?_)
  replace h := h s_2 es_2
  by_cases c_3 : s_2 = (1 : Int32)
  · replace h := iT c_3 h
    refine lv_tableIn (tgt := 108) hx hb dX7_heftAt_75 (by rw [c_3]; decide) (by rw [c_3]; decide) (by rw [c_3]; rfl) (by decide) ?_
    refine lv_iload hx hb dX7_heftAt_108 (lv_at hl 5 rfl) ?_
    exact rt_i M () hw h dX7_heftAt_110
  replace h := iF c_3 h
  by_cases c_4 : s_2 = (2 : Int32)
  · replace h := iT c_4 h
    refine lv_tableIn (tgt := 111) hx hb dX7_heftAt_75 (by rw [c_4]; decide) (by rw [c_4]; decide) (by rw [c_4]; rfl) (by decide) ?_
    refine lv_iload hx hb dX7_heftAt_111 (lv_at hl 0 rfl) ?_
    exact rt_i M () hw h dX7_heftAt_113
  replace h := iF c_4 h
  by_cases c_5 : s_2 = (3 : Int32)
  · replace h := iT c_5 h
    refine lv_tableIn (tgt := 114) hx hb dX7_heftAt_75 (by rw [c_5]; decide) (by rw [c_5]; decide) (by rw [c_5]; rfl) (by decide) ?_
    refine lv_iload hx hb dX7_heftAt_114 (lv_at hl 0 rfl) ?_
    refine lv_iload_n hx hb dX7_heftAt_116 rfl (lv_at hl 3 rfl) ?_
    refine lv_iconst (v := 2) hx hb dX7_heftAt_117 (by decide) ?_
    refine lv_irem hx hb dX7_heftAt_118 (by decide) ?_
    refine lv_iconst (v := 1) hx hb dX7_heftAt_119 (by decide) ?_
    refine lv_icmp_ne (tgt := 127) hx hb dX7_heftAt_120 (by decide) (fun c_6 => ?_) (fun c_6 => ?_)
    · replace h := iF c_6 h
      refine lv_iconst (v := 0) hx hb dX7_heftAt_127 (by decide) ?_
      refine lv_iadd hx hb dX7_heftAt_128 ?_
      exact rt_i M () hw h dX7_heftAt_129
    · replace h := iT c_6 h
      refine lv_iconst (v := 5) hx hb dX7_heftAt_123 (by decide) ?_
      refine lv_goto (tgt := 128) hx hb dX7_heftAt_124 (by decide) ?_
      refine lv_iadd hx hb dX7_heftAt_128 ?_
      exact rt_i M () hw h dX7_heftAt_129
  replace h := iF c_5 h
  by_cases c_7 : s_2 = (4 : Int32)
  · replace h := iT c_7 h
    refine lv_tableIn (tgt := 130) hx hb dX7_heftAt_75 (by rw [c_7]; decide) (by rw [c_7]; decide) (by rw [c_7]; rfl) (by decide) ?_
    refine lv_iload_n hx hb dX7_heftAt_130 rfl (lv_at hl 4 rfl) ?_
    refine lv_iconst (v := 2) hx hb dX7_heftAt_131 (by decide) ?_
    refine lv_idiv hx hb dX7_heftAt_132 (by decide) ?_
    exact rt_i M () hw h dX7_heftAt_133
  replace h := iF c_7 h
  by_cases c_8 : s_2 = (5 : Int32)
  · replace h := iT c_8 h
    refine lv_tableIn (tgt := 134) hx hb dX7_heftAt_75 (by rw [c_8]; decide) (by rw [c_8]; decide) (by rw [c_8]; rfl) (by decide) ?_
    refine lv_iload_n hx hb dX7_heftAt_134 rfl (lv_at hl 4 rfl) ?_
    refine lv_bipush (v := 20) hx hb dX7_heftAt_135 (by decide) ?_
    refine lv_iadd hx hb dX7_heftAt_137 ?_
    refine lv_aload_n hx hb dX7_heftAt_138 rfl (lv_at hl 1 rfl) ?_
    refine gt_f (v := .ref (qS 3)) M inlX7 hw 0 rfl rfl 2 (by decide) fl_X7_16 rfl rfl dX7_heftAt_139 ?_
    refine lv_iload_n hx hb dX7_heftAt_142 rfl (lv_at hl 2 rfl) ?_
    refine ld_i M hw 3 rfl a_1 dX7_heftAt_143 ?_
    refine lv_iadd hx hb dX7_heftAt_144 ?_
    exact rt_i M () hw h dX7_heftAt_145
  replace h := iF c_8 h
  refine lv_tableOut (tgt := 146) hx hb dX7_heftAt_75 (by have q0 := lv_neT (a := 1) c_3 (by decide); have q1 := lv_neT (a := 2) c_4 (by decide); have q2 := lv_neT (a := 3) c_5 (by decide); have q3 := lv_neT (a := 4) c_7 (by decide); have q4 := lv_neT (a := 5) c_8 (by decide); omega) (by decide) ?_
  refine lv_iload_n hx hb dX7_heftAt_146 rfl (lv_at hl 4 rfl) ?_
  exact rt_i M () hw h dX7_heftAt_147
set_option maxHeartbeats 4000000 in
set_option maxRecDepth 100000 in
theorem kX7_heftAt_65 {p : Program} {l : Launch} {e : Env} {s : State} {m : MethodId} {args : Array Value} {below : List Frame} {meth : Method} {c : Code} {z : KT} {A : Nat → Prop} {qS : Nat → Nat} {S : RT} {Q : Int32 → Prop} (M : Mc p s m args meth c cX7_heftAt 6 (some .int) RX7 z A) : ∀ (x1 : Int32) (x2 : Int32) (x3 : Int32) (x4 : Int32) (H : Heap) (locs : List Loc) (ls : Array Slot), Hw s z A (sW z qS S) H locs → lv_has ls 6 [(0, .ref (qS 0)), (1, .int x1), (2, .int x2), (3, .int x3), (4, .int x4)] → bX7_heftAt_65 S Q x1 x2 x3 x4 → W p l e rmX7_heftAt s m args below meth c H locs 0 0 (MQ below (va_Qi (fun (r : Int32) (_ : Unit) => Q r) (fun u t => cAt z A ((fun _ : Unit => (sW z qS S)) u) t) A) args s 0 0 A) (F0 m 65 ls []) := by
  obtain ⟨hx, hb, -, -, hown, hts, -, -, -, hN, hsr, -⟩ := id M
  intro x1 x2 x3 x4 H locs ls hw hl h
  unfold bX7_heftAt_65 at h
  refine lv_iload hx hb dX7_heftAt_65 (lv_at hl 4 rfl) ?_
  exact kX7_heftAt_67 M x1 x2 x3 x4 x4 H locs ls hw (lv_sub hl [0, 1, 2, 3, 4] rfl) h
set_option maxHeartbeats 4000000 in
set_option maxRecDepth 100000 in
theorem kX7_heftAt_41 {p : Program} {l : Launch} {e : Env} {s : State} {m : MethodId} {args : Array Value} {below : List Frame} {meth : Method} {c : Code} {z : KT} {A : Nat → Prop} {qS : Nat → Nat} {S : RT} {Q : Int32 → Prop} (M : Mc p s m args meth c cX7_heftAt 6 (some .int) RX7 z A) : ∀ (x1 : Int32) (x2 : Int32) (x3 : Int32) (t0 : Int32) (t1 : Int32) (H : Heap) (locs : List Loc) (ls : Array Slot), Hw s z A (sW z qS S) H locs → lv_has ls 6 [(0, .ref (qS 0)), (1, .int x1), (2, .int x2), (3, .int x3)] → bX7_heftAt_41 S Q x1 x2 x3 t0 t1 → W p l e rmX7_heftAt s m args below meth c H locs 0 0 (MQ below (va_Qi (fun (r : Int32) (_ : Unit) => Q r) (fun u t => cAt z A ((fun _ : Unit => (sW z qS S)) u) t) A) args s 0 0 A) (F0 m 41 ls [.int t1, .int t0]) := by
  obtain ⟨hx, hb, -, -, hown, hts, -, -, -, hN, hsr, -⟩ := id M
  intro x1 x2 x3 t0 t1 H locs ls hw hl h
  unfold bX7_heftAt_41 at h
  refine lv_iadd hx hb dX7_heftAt_41 ?_
  refine lv_topi (fun x4_1 ex4_1 => ?_)
  replace h := h x4_1 ex4_1
  refine lv_istore (lv' := [(4, .int x4_1), (0, .ref (qS 0)), (1, .int x1), (2, .int x2), (3, .int x3)]) hx hb dX7_heftAt_42 hl (by decide) rfl (fun ls hl => ?_)
  refine lv_iload_n hx hb dX7_heftAt_44 rfl (lv_at hl 3 rfl) ?_
  refine lv_bipush (v := 24) hx hb dX7_heftAt_45 (by decide) ?_
  refine lv_irem hx hb dX7_heftAt_47 (by decide) ?_
  refine lv_bipush (v := 6) hx hb dX7_heftAt_48 (by decide) ?_
  refine lv_icmp_ge (tgt := 65) hx hb dX7_heftAt_50 (by decide) (fun c_2 => ?_) (fun c_2 => ?_)
  · replace h := iT c_2 h
    exact kX7_heftAt_65 M x1 x2 x3 x4_1 H locs ls hw (lv_sub hl [1, 2, 3, 4, 0] rfl) h
  · replace h := iF c_2 h
    refine lv_iload hx hb dX7_heftAt_53 (lv_at hl 0 rfl) ?_
    refine lv_if_le (tgt := 65) hx hb dX7_heftAt_55 (by decide) (fun c_3 => ?_) (fun c_3 => ?_)
    · replace h := iT c_3 h
      exact kX7_heftAt_65 M x1 x2 x3 x4_1 H locs ls hw (lv_sub hl [1, 2, 3, 4, 0] rfl) h
    · replace h := iF c_3 h
      refine lv_iload hx hb dX7_heftAt_58 (lv_at hl 0 rfl) ?_
      refine lv_iconst (v := 1) hx hb dX7_heftAt_60 (by decide) ?_
      refine lv_isub hx hb dX7_heftAt_61 ?_
      refine lv_goto (tgt := 67) hx hb dX7_heftAt_62 (by decide) ?_
      exact kX7_heftAt_67 M x1 x2 x3 x4_1 (x4_1 - (1 : Int32)) H locs ls hw (lv_sub hl [1, 2, 3, 4, 0] rfl) h
set_option maxHeartbeats 4000000 in
set_option maxRecDepth 100000 in
theorem m_X7_heftAt (l : Launch) (z : KT) (qS : Nat → Nat) (S : RT) (x1 : Int32) (x2 : Int32) (Q : Int32 → Prop) (h : wX7_heftAt S x1 x2 Q) : CI l yX7_heftAt cX7_heftAt 6 .int rmX7_heftAt z [.ref (qS 0), .int x1, .int x2] (sW z qS S) (fun _ : Unit => (sW z qS S)) (fun (r : Int32) (_ : Unit) => Q r) := by
  refine CI.of rfl (Nat.le_of_ble_eq_true rfl) ?_
  intro p e s m below meth c A ls M hw hl
  have M : Mc p s m _ meth c cX7_heftAt 6 (some .int) RX7 z A := M
  obtain ⟨hx, hb, -, -, hown, hts, -, -, -, hN, hsr, -⟩ := id M
  have hl : lv_has ls 6 [(0, .ref (qS 0)), (1, .int x1), (2, .int x2)] := hl
  unfold wX7_heftAt at h
  generalize s.heap = H at hw ⊢
  generalize ([] : List Loc) = locs at hw ⊢
  refine lv_aload_n hx hb dX7_heftAt_0 rfl (lv_at hl 0 rfl) ?_
  refine gt_f (v := .ref (qS 4)) M inlX7 hw 0 rfl rfl 3 (by decide) fl_X7_19 rfl rfl dX7_heftAt_1 ?_
  refine lv_iload_n hx hb dX7_heftAt_4 rfl (lv_at hl 1 rfl) ?_
  obtain ⟨a_1, h⟩ := h
  refine ld_i M hw 4 rfl a_1 dX7_heftAt_5 ?_
  refine lv_iconst (v := 2) hx hb dX7_heftAt_6 (by decide) ?_
  refine lv_aload_n hx hb dX7_heftAt_7 rfl (lv_at hl 0 rfl) ?_
  refine gt_f (v := .ref (qS 5)) M inlX7 hw 0 rfl rfl 4 (by decide) fl_X7_22 rfl rfl dX7_heftAt_8 ?_
  refine lv_iload_n hx hb dX7_heftAt_11 rfl (lv_at hl 1 rfl) ?_
  refine ld_i M hw 5 rfl a_1 dX7_heftAt_12 ?_
  refine lv_imul hx hb dX7_heftAt_13 ?_
  refine lv_iadd hx hb dX7_heftAt_14 ?_
  refine lv_topi (fun x3_2 ex3_2 => ?_)
  replace h := h x3_2 ex3_2
  refine lv_istore_n (lv' := [(3, .int x3_2), (0, .ref (qS 0)), (1, .int x1), (2, .int x2)]) hx hb dX7_heftAt_15 rfl hl (by decide) rfl (fun ls hl => ?_)
  refine lv_iload_n hx hb dX7_heftAt_16 rfl (lv_at hl 0 rfl) ?_
  refine lv_iload_n hx hb dX7_heftAt_17 rfl (lv_at hl 3 rfl) ?_
  refine lv_bipush (v := 24) hx hb dX7_heftAt_18 (by decide) ?_
  refine lv_irem hx hb dX7_heftAt_20 (by decide) ?_
  refine lv_bipush (v := 12) hx hb dX7_heftAt_21 (by decide) ?_
  refine lv_bipush (v := 17) hx hb dX7_heftAt_23 (by decide) ?_
  refine fr_Si (wN := fun _ : Unit => (sW z qS S)) M (m_X7_isIn l z (x2 - x2 / (24 : Int32) * (24 : Int32)) (12 : Int32) (17 : Int32) _ h) (va_cwS 3 hts (gdS cd_X7_isIn ml_X7_92 st_X7_isIn in_X7) rfl rfl rfl hdS_X7_isIn ⟨(Nat.le_of_ble_eq_true rfl), (Nat.le_of_ble_eq_true rfl)⟩) (Cut.none _) (Prm.none _) hw rfl hl.1 rfl (Nat.le_of_ble_eq_true rfl) dX7_heftAt_25 (fun r_3 u_ H locs h hw => ?_)
  have hw : Hw s z A (sW z qS S) H locs := hw
  try dsimp only at h
  refine lv_if_eq (tgt := 40) hx hb dX7_heftAt_28 (by decide) (fun c_4 => ?_) (fun c_4 => ?_)
  · replace h := iT c_4 h
    refine lv_iconst (v := 0) hx hb dX7_heftAt_40 (by decide) ?_
    exact kX7_heftAt_41 M x1 x2 x3_2 x3_2 (0 : Int32) H locs ls hw (lv_sub hl [1, 2, 3, 0] rfl) h
  · replace h := iF c_4 h
    refine lv_aload_n hx hb dX7_heftAt_31 rfl (lv_at hl 1 rfl) ?_
    refine gt_f (v := .ref (qS 3)) M inlX7 hw 0 rfl rfl 2 (by decide) fl_X7_16 rfl rfl dX7_heftAt_32 ?_
    refine lv_iload_n hx hb dX7_heftAt_35 rfl (lv_at hl 2 rfl) ?_
    refine ld_i M hw 3 rfl a_1 dX7_heftAt_36 ?_
    refine lv_goto (tgt := 41) hx hb dX7_heftAt_37 (by decide) ?_
    exact kX7_heftAt_41 M x1 x2 x3_2 x3_2 (S 2 (x1).toNatClampNeg) H locs ls hw (lv_sub hl [1, 2, 3, 0] rfl) h
abbrev rmX7_heft : Room := { frames := 2, cells := 0, slots := 0, locals := 47 }
set_option maxHeartbeats 4000000 in
set_option maxRecDepth 100000 in
theorem m_X7_heft (l : Launch) (z : KT) (qS : Nat → Nat) (S : RT) (x1 : Int32) (Q : Int32 → Prop) (h : wX7_heft S x1 Q) : CI l yX7_heft cX7_heft 2 .int rmX7_heft z [.ref (qS 0), .int x1] (sW z qS S) (fun _ : Unit => (sW z qS S)) (fun (r : Int32) (_ : Unit) => Q r) := by
  refine CI.of rfl (Nat.le_of_ble_eq_true rfl) ?_
  intro p e s m below meth c A ls M hw hl
  have M : Mc p s m _ meth c cX7_heft 2 (some .int) RX7 z A := M
  obtain ⟨hx, hb, -, -, hown, hts, -, -, -, hN, hsr, -⟩ := id M
  have hl : lv_has ls 2 [(0, .ref (qS 0)), (1, .int x1)] := hl
  unfold wX7_heft at h
  generalize s.heap = H at hw ⊢
  generalize ([] : List Loc) = locs at hw ⊢
  refine lv_aload_n hx hb dX7_heft_0 rfl (lv_at hl 0 rfl) ?_
  refine lv_iload_n hx hb dX7_heft_1 rfl (lv_at hl 1 rfl) ?_
  refine lv_aload_n hx hb dX7_heft_2 rfl (lv_at hl 0 rfl) ?_
  refine gt_f (v := .int (S 30 10)) M inlX7 hw 0 rfl rfl 10 (by decide) fl_X7_119 rfl rfl dX7_heft_3 ?_
  refine fr_Vi (wN := fun _ : Unit => (sW z qS S)) M (m_X7_heftAt l z qS S x1 (S 30 10) _ h) (cwV 2 hts (gdV cd_X7_heftAt ml_X7_172 im_X7_heftAt se_X7_heftAt in_X7) rfl rfl rfl hdV_X7_heftAt ⟨(Nat.le_of_ble_eq_true rfl), (Nat.le_of_ble_eq_true rfl)⟩) (Cut.self _) (Prm.self _ 17 (fun _ => rfl)) 0 rfl rfl rfl hw rfl hl.1 rfl (Nat.le_of_ble_eq_true rfl) dX7_heft_6 (fun r_1 u_ H locs h hw => ?_)
  have hw : Hw s z A (sW z qS S) H locs := hw
  try dsimp only at h
  exact rt_i M () hw h dX7_heft_9
abbrev rmX7_holdsTo : Room := { frames := 3, cells := 0, slots := 0, locals := 68 }
set_option maxHeartbeats 4000000 in
set_option maxRecDepth 100000 in
theorem m_X7_holdsTo (l : Launch) (z : KT) (qS : Nat → Nat) (S : RT) (x1 : Int32) (Q : Int32 → Prop) (h : wX7_holdsTo S x1 Q) : CI l yX7_holdsTo cX7_holdsTo 3 .int rmX7_holdsTo z [.ref (qS 0), .int x1] (sW z qS S) (fun _ : Unit => (sW z qS S)) (fun (r : Int32) (_ : Unit) => Q r) := by
  refine CI.of rfl (Nat.le_of_ble_eq_true rfl) ?_
  intro p e s m below meth c A ls M hw hl
  have M : Mc p s m _ meth c cX7_holdsTo 3 (some .int) RX7 z A := M
  obtain ⟨hx, hb, -, -, hown, hts, -, -, -, hN, hsr, -⟩ := id M
  have hl : lv_has ls 3 [(0, .ref (qS 0)), (1, .int x1)] := hl
  unfold wX7_holdsTo at h
  generalize s.heap = H at hw ⊢
  generalize ([] : List Loc) = locs at hw ⊢
  refine lv_aload_n hx hb dX7_holdsTo_0 rfl (lv_at hl 0 rfl) ?_
  refine lv_aload_n hx hb dX7_holdsTo_1 rfl (lv_at hl 0 rfl) ?_
  refine gt_f (v := .ref (qS 7)) M inlX7 hw 0 rfl rfl 6 (by decide) fl_X7_28 rfl rfl dX7_holdsTo_2 ?_
  refine lv_iload_n hx hb dX7_holdsTo_5 rfl (lv_at hl 1 rfl) ?_
  obtain ⟨a_1, h⟩ := h
  refine ld_i M hw 7 rfl a_1 dX7_holdsTo_6 ?_
  refine fr_Vi (wN := fun _ : Unit => (sW z qS S)) M (m_X7_heft l z qS S (S 6 (x1).toNatClampNeg) _ h) (cwV 1 hts (gdV cd_X7_heft ml_X7_176 im_X7_heft se_X7_heft in_X7) rfl rfl rfl hdV_X7_heft ⟨(Nat.le_of_ble_eq_true rfl), (Nat.le_of_ble_eq_true rfl)⟩) (Cut.self _) (Prm.self _ 17 (fun _ => rfl)) 0 rfl rfl rfl hw rfl hl.1 rfl (Nat.le_of_ble_eq_true rfl) dX7_holdsTo_7 (fun r_2 u_ H locs h hw => ?_)
  have hw : Hw s z A (sW z qS S) H locs := hw
  try dsimp only at h
  refine lv_aload_n hx hb dX7_holdsTo_10 rfl (lv_at hl 0 rfl) ?_
  refine lv_aload_n hx hb dX7_holdsTo_11 rfl (lv_at hl 0 rfl) ?_
  refine gt_f (v := .ref (qS 8)) M inlX7 hw 0 rfl rfl 7 (by decide) fl_X7_31 rfl rfl dX7_holdsTo_12 ?_
  refine lv_iload_n hx hb dX7_holdsTo_15 rfl (lv_at hl 1 rfl) ?_
  refine ld_i M hw 8 rfl a_1 dX7_holdsTo_16 ?_
  refine fr_Vi (wN := fun _ : Unit => (sW z qS S)) M (m_X7_heft l z qS S (S 7 (x1).toNatClampNeg) _ h) (cwV 1 hts (gdV cd_X7_heft ml_X7_176 im_X7_heft se_X7_heft in_X7) rfl rfl rfl hdV_X7_heft ⟨(Nat.le_of_ble_eq_true rfl), (Nat.le_of_ble_eq_true rfl)⟩) (Cut.self _) (Prm.self _ 17 (fun _ => rfl)) 0 rfl rfl rfl hw rfl hl.1 rfl (Nat.le_of_ble_eq_true rfl) dX7_holdsTo_17 (fun r_3 u_ H locs h hw => ?_)
  have hw : Hw s z A (sW z qS S) H locs := hw
  try dsimp only at h
  refine lv_isub hx hb dX7_holdsTo_20 ?_
  refine lv_topi (fun x2_4 ex2_4 => ?_)
  replace h := h x2_4 ex2_4
  refine lv_istore_n (lv' := [(2, .int x2_4), (0, .ref (qS 0)), (1, .int x1)]) hx hb dX7_holdsTo_21 rfl hl (by decide) rfl (fun ls hl => ?_)
  refine lv_iload_n hx hb dX7_holdsTo_22 rfl (lv_at hl 0 rfl) ?_
  refine lv_if_le (tgt := 35) hx hb dX7_holdsTo_23 (by decide) (fun c_5 => ?_) (fun c_5 => ?_)
  · replace h := iT c_5 h
    refine lv_iload_n hx hb dX7_holdsTo_35 rfl (lv_at hl 0 rfl) ?_
    refine lv_if_ge (tgt := 48) hx hb dX7_holdsTo_36 (by decide) (fun c_6 => ?_) (fun c_6 => ?_)
    · replace h := iT c_6 h
      refine lv_bipush (v := -9) hx hb dX7_holdsTo_48 (by decide) ?_
      exact rt_i M () hw h dX7_holdsTo_50
    · replace h := iF c_6 h
      refine lv_aload_n hx hb dX7_holdsTo_39 rfl (lv_at hl 1 rfl) ?_
      refine gt_f (v := .ref (qS 8)) M inlX7 hw 0 rfl rfl 7 (by decide) fl_X7_31 rfl rfl dX7_holdsTo_40 ?_
      refine lv_iload_n hx hb dX7_holdsTo_43 rfl (lv_at hl 2 rfl) ?_
      refine ld_i M hw 8 rfl a_1 dX7_holdsTo_44 ?_
      refine lv_goto (tgt := 50) hx hb dX7_holdsTo_45 (by decide) ?_
      exact rt_i M () hw h dX7_holdsTo_50
  · replace h := iF c_5 h
    refine lv_aload_n hx hb dX7_holdsTo_26 rfl (lv_at hl 1 rfl) ?_
    refine gt_f (v := .ref (qS 7)) M inlX7 hw 0 rfl rfl 6 (by decide) fl_X7_28 rfl rfl dX7_holdsTo_27 ?_
    refine lv_iload_n hx hb dX7_holdsTo_30 rfl (lv_at hl 2 rfl) ?_
    refine ld_i M hw 7 rfl a_1 dX7_holdsTo_31 ?_
    refine lv_goto (tgt := 50) hx hb dX7_holdsTo_32 (by decide) ?_
    exact rt_i M () hw h dX7_holdsTo_50
abbrev rmX7_pulls : Room := { frames := 4, cells := 0, slots := 0, locals := 90 }
set_option maxHeartbeats 4000000 in
set_option maxRecDepth 100000 in
theorem kX7_pulls_64 {p : Program} {l : Launch} {e : Env} {s : State} {m : MethodId} {args : Array Value} {below : List Frame} {meth : Method} {c : Code} {z : KT} {A : Nat → Prop} {qS : Nat → Nat} {Q : RT → Prop} (M : Mc p s m args meth c cX7_pulls 5 none RX7 z A) : ∀ (S : RT) (x2 : Int32) (x3 : Int32) (H : Heap) (locs : List Loc) (ls : Array Slot), Hw s z A (sW z qS S) H locs → lv_has ls 5 [(0, .ref (qS 0)), (2, .int x2), (3, .int x3)] → bX7_pulls_64 Q S x2 x3 → W p l e rmX7_pulls s m args below meth c H locs 0 0 (MQ below (va_Qv (fun u : RT => Q u) (fun u t => cAt z A ((fun u : RT => (sW z qS u)) u) t) A) args s 0 0 A) (F0 m 64 ls []) := by
  obtain ⟨hx, hb, -, -, hown, hts, -, -, -, hN, hsr, -⟩ := id M
  intro S x2 x3 H locs ls hw hl h
  unfold bX7_pulls_64 at h
  refine lv_aload_n hx hb dX7_pulls_64 rfl (lv_at hl 0 rfl) ?_
  refine gt_f (v := .ref (qS 6)) M inlX7 hw 0 rfl rfl 5 (by decide) fl_X7_25 rfl rfl dX7_pulls_65 ?_
  refine lv_iload_n hx hb dX7_pulls_68 rfl (lv_at hl 1 rfl) ?_
  refine lv_aload_n hx hb dX7_pulls_69 rfl (lv_at hl 0 rfl) ?_
  refine gt_f (v := .ref (qS 6)) M inlX7 hw 0 rfl rfl 5 (by decide) fl_X7_25 rfl rfl dX7_pulls_70 ?_
  refine lv_iload_n hx hb dX7_pulls_73 rfl (lv_at hl 1 rfl) ?_
  obtain ⟨a_1, h⟩ := h
  refine ld_i M hw 6 rfl a_1 dX7_pulls_74 ?_
  refine lv_iconst (v := 1) hx hb dX7_pulls_75 (by decide) ?_
  refine lv_isub hx hb dX7_pulls_76 ?_
  refine lv_iconst (v := 0) hx hb dX7_pulls_77 (by decide) ?_
  refine lv_bipush (v := 20) hx hb dX7_pulls_78 (by decide) ?_
  refine fr_Si (wN := fun _ : Unit => (sW z qS S)) M (m_X7_held l z ((S 5 (x2).toNatClampNeg) - (1 : Int32)) (0 : Int32) (20 : Int32) _ h) (va_cwS 3 hts (gdS cd_X7_held ml_X7_182 st_X7_held in_X7) rfl rfl rfl hdS_X7_held ⟨(Nat.le_of_ble_eq_true rfl), (Nat.le_of_ble_eq_true rfl)⟩) (Cut.none _) (Prm.none _) hw rfl hl.1 rfl (Nat.le_of_ble_eq_true rfl) dX7_pulls_80 (fun r_2 u_ H locs h hw => ?_)
  have hw : Hw s z A (sW z qS S) H locs := hw
  try dsimp only at h
  refine st_i (P := S) (r := 5) (wN := fun S_3 => (sW z qS S_3)) M hw 6 rfl rfl a_1 dX7_pulls_83 (fun S_3 H locs eS_3 hw => ?_)
  replace h := h S_3 eS_3
  refine lv_aload_n hx hb dX7_pulls_84 rfl (lv_at hl 0 rfl) ?_
  refine gt_f (v := .ref (qS 6)) M inlX7 hw 0 rfl rfl 5 (by decide) fl_X7_25 rfl rfl dX7_pulls_85 ?_
  refine lv_iload_n hx hb dX7_pulls_88 rfl (lv_at hl 2 rfl) ?_
  refine lv_aload_n hx hb dX7_pulls_89 rfl (lv_at hl 0 rfl) ?_
  refine gt_f (v := .ref (qS 6)) M inlX7 hw 0 rfl rfl 5 (by decide) fl_X7_25 rfl rfl dX7_pulls_90 ?_
  refine lv_iload_n hx hb dX7_pulls_93 rfl (lv_at hl 2 rfl) ?_
  obtain ⟨a_4, h⟩ := h
  refine ld_i M hw 6 rfl a_4 dX7_pulls_94 ?_
  refine lv_iconst (v := 1) hx hb dX7_pulls_95 (by decide) ?_
  refine lv_iadd hx hb dX7_pulls_96 ?_
  refine lv_iconst (v := 0) hx hb dX7_pulls_97 (by decide) ?_
  refine lv_bipush (v := 20) hx hb dX7_pulls_98 (by decide) ?_
  refine fr_Si (wN := fun _ : Unit => (sW z qS S_3)) M (m_X7_held l z ((S_3 5 (x3).toNatClampNeg) + (1 : Int32)) (0 : Int32) (20 : Int32) _ h) (va_cwS 3 hts (gdS cd_X7_held ml_X7_182 st_X7_held in_X7) rfl rfl rfl hdS_X7_held ⟨(Nat.le_of_ble_eq_true rfl), (Nat.le_of_ble_eq_true rfl)⟩) (Cut.none _) (Prm.none _) hw rfl hl.1 rfl (Nat.le_of_ble_eq_true rfl) dX7_pulls_100 (fun r_5 u_ H locs h hw => ?_)
  have hw : Hw s z A (sW z qS S_3) H locs := hw
  try dsimp only at h
  refine st_i (P := S_3) (r := 5) (wN := fun S_6 => (sW z qS S_6)) M hw 6 rfl rfl a_4 dX7_pulls_103 (fun S_6 H locs eS_6 hw => ?_)
  replace h := h S_6 eS_6
  exact rt_v M S_6 hw h dX7_pulls_104
set_option maxHeartbeats 4000000 in
set_option maxRecDepth 100000 in
theorem kX7_pulls_43 {p : Program} {l : Launch} {e : Env} {s : State} {m : MethodId} {args : Array Value} {below : List Frame} {meth : Method} {c : Code} {z : KT} {A : Nat → Prop} {qS : Nat → Nat} {Q : RT → Prop} (M : Mc p s m args meth c cX7_pulls 5 none RX7 z A) : ∀ (S : RT) (x2 : Int32) (x3 : Int32) (H : Heap) (locs : List Loc) (ls : Array Slot), Hw s z A (sW z qS S) H locs → lv_has ls 5 [(0, .ref (qS 0)), (2, .int x2), (3, .int x3)] → bX7_pulls_43 Q S x2 x3 → W p l e rmX7_pulls s m args below meth c H locs 0 0 (MQ below (va_Qv (fun u : RT => Q u) (fun u t => cAt z A ((fun u : RT => (sW z qS u)) u) t) A) args s 0 0 A) (F0 m 43 ls []) := by
  obtain ⟨hx, hb, -, -, hown, hts, -, -, -, hN, hsr, -⟩ := id M
  intro S x2 x3 H locs ls hw hl h
  unfold bX7_pulls_43 at h
  refine lv_aload_n hx hb dX7_pulls_43 rfl (lv_at hl 0 rfl) ?_
  refine gt_f (v := .ref (qS 6)) M inlX7 hw 0 rfl rfl 5 (by decide) fl_X7_25 rfl rfl dX7_pulls_44 ?_
  refine lv_iload_n hx hb dX7_pulls_47 rfl (lv_at hl 1 rfl) ?_
  obtain ⟨a_1, h⟩ := h
  refine ld_i M hw 6 rfl a_1 dX7_pulls_48 ?_
  refine lv_if_ne (tgt := 64) hx hb dX7_pulls_49 (by decide) (fun c_2 => ?_) (fun c_2 => ?_)
  · replace h := iF c_2 h
    exact kX7_pulls_64 M S x2 x3 H locs ls hw (lv_sub hl [0, 1, 2] rfl) h
  · replace h := iT c_2 h
    refine lv_aload_n hx hb dX7_pulls_52 rfl (lv_at hl 0 rfl) ?_
    refine gt_f (v := .ref (qS 6)) M inlX7 hw 0 rfl rfl 5 (by decide) fl_X7_25 rfl rfl dX7_pulls_53 ?_
    refine lv_iload_n hx hb dX7_pulls_56 rfl (lv_at hl 2 rfl) ?_
    obtain ⟨a_3, h⟩ := h
    refine ld_i M hw 6 rfl a_3 dX7_pulls_57 ?_
    refine lv_bipush (v := 20) hx hb dX7_pulls_58 (by decide) ?_
    refine lv_icmp_ne (tgt := 64) hx hb dX7_pulls_60 (by decide) (fun c_4 => ?_) (fun c_4 => ?_)
    · replace h := iF c_4 h
      exact kX7_pulls_64 M S x2 x3 H locs ls hw (lv_sub hl [0, 1, 2] rfl) h
    · replace h := iT c_4 h
      exact rt_v M S hw h dX7_pulls_63
set_option maxHeartbeats 4000000 in
set_option maxRecDepth 100000 in
theorem m_X7_pulls (l : Launch) (z : KT) (qS : Nat → Nat) (S : RT) (x1 : Int32) (Q : RT → Prop) (h : wX7_pulls S x1 Q) : CV l yX7_pulls cX7_pulls 5 rmX7_pulls z [.ref (qS 0), .int x1] (sW z qS S) (fun u : RT => (sW z qS u)) (fun u : RT => Q u) := by
  refine CV.of rfl (Nat.le_of_ble_eq_true rfl) ?_
  intro p e s m below meth c A ls M hw hl
  have M : Mc p s m _ meth c cX7_pulls 5 none RX7 z A := M
  obtain ⟨hx, hb, -, -, hown, hts, -, -, -, hN, hsr, -⟩ := id M
  have hl : lv_has ls 5 [(0, .ref (qS 0)), (1, .int x1)] := hl
  unfold wX7_pulls at h
  generalize s.heap = H at hw ⊢
  generalize ([] : List Loc) = locs at hw ⊢
  refine lv_aload_n hx hb dX7_pulls_0 rfl (lv_at hl 0 rfl) ?_
  refine lv_iload_n hx hb dX7_pulls_1 rfl (lv_at hl 1 rfl) ?_
  refine fr_Vi (wN := fun _ : Unit => (sW z qS S)) M (m_X7_holdsTo l z qS S x1 _ h) (cwV 1 hts (gdV cd_X7_holdsTo ml_X7_179 im_X7_holdsTo se_X7_holdsTo in_X7) rfl rfl rfl hdV_X7_holdsTo ⟨(Nat.le_of_ble_eq_true rfl), (Nat.le_of_ble_eq_true rfl)⟩) (Cut.self _) (Prm.self _ 17 (fun _ => rfl)) 0 rfl rfl rfl hw rfl hl.1 rfl (Nat.le_of_ble_eq_true rfl) dX7_pulls_2 (fun r_1 u_ H locs h hw => ?_)
  have hw : Hw s z A (sW z qS S) H locs := hw
  try dsimp only at h
  refine lv_istore_n (lv' := [(2, .int r_1), (0, .ref (qS 0)), (1, .int x1)]) hx hb dX7_pulls_5 rfl hl (by decide) rfl (fun ls hl => ?_)
  refine lv_iload_n hx hb dX7_pulls_6 rfl (lv_at hl 0 rfl) ?_
  refine lv_if_ge (tgt := 11) hx hb dX7_pulls_7 (by decide) (fun c_2 => ?_) (fun c_2 => ?_)
  · replace h := iT c_2 h
    refine lv_aload_n hx hb dX7_pulls_11 rfl (lv_at hl 1 rfl) ?_
    refine gt_f (v := .ref (qS 7)) M inlX7 hw 0 rfl rfl 6 (by decide) fl_X7_28 rfl rfl dX7_pulls_12 ?_
    refine lv_iload_n hx hb dX7_pulls_15 rfl (lv_at hl 2 rfl) ?_
    obtain ⟨a_3, h⟩ := h
    refine ld_i M hw 7 rfl a_3 dX7_pulls_16 ?_
    refine lv_aload_n hx hb dX7_pulls_17 rfl (lv_at hl 1 rfl) ?_
    refine gt_f (v := .ref (qS 8)) M inlX7 hw 0 rfl rfl 7 (by decide) fl_X7_31 rfl rfl dX7_pulls_18 ?_
    refine lv_iload_n hx hb dX7_pulls_21 rfl (lv_at hl 2 rfl) ?_
    refine ld_i M hw 8 rfl a_3 dX7_pulls_22 ?_
    refine lv_iadd hx hb dX7_pulls_23 ?_
    refine lv_iload_n hx hb dX7_pulls_24 rfl (lv_at hl 0 rfl) ?_
    refine lv_isub hx hb dX7_pulls_25 ?_
    refine lv_topi (fun x3_4 ex3_4 => ?_)
    replace h := h x3_4 ex3_4
    refine lv_istore_n (lv' := [(3, .int x3_4), (2, .int r_1), (0, .ref (qS 0)), (1, .int x1)]) hx hb dX7_pulls_26 rfl hl (by decide) rfl (fun ls hl => ?_)
    refine lv_iload_n hx hb dX7_pulls_27 rfl (lv_at hl 3 rfl) ?_
    refine lv_aload_n hx hb dX7_pulls_28 rfl (lv_at hl 2 rfl) ?_
    refine gt_f (v := .int (S 30 11)) M inlX7 hw 0 rfl rfl 11 (by decide) fl_X7_34 rfl rfl dX7_pulls_29 ?_
    refine lv_icmp_ne (tgt := 43) hx hb dX7_pulls_32 (by decide) (fun c_5 => ?_) (fun c_5 => ?_)
    · replace h := iF c_5 h
      exact kX7_pulls_43 M S r_1 x3_4 H locs ls hw (lv_sub hl [2, 1, 0] rfl) h
    · replace h := iT c_5 h
      refine lv_iload_n hx hb dX7_pulls_35 rfl (lv_at hl 1 rfl) ?_
      refine lv_istore (lv' := [(4, .int r_1), (3, .int x3_4), (2, .int r_1), (0, .ref (qS 0)), (1, .int x1)]) hx hb dX7_pulls_36 hl (by decide) rfl (fun ls hl => ?_)
      refine lv_iload_n hx hb dX7_pulls_38 rfl (lv_at hl 1 rfl) ?_
      refine lv_istore_n (lv' := [(2, .int x3_4), (4, .int r_1), (3, .int x3_4), (0, .ref (qS 0)), (1, .int x1)]) hx hb dX7_pulls_39 rfl hl (by decide) rfl (fun ls hl => ?_)
      refine lv_iload hx hb dX7_pulls_40 (lv_at hl 1 rfl) ?_
      refine lv_istore_n (lv' := [(3, .int r_1), (2, .int x3_4), (4, .int r_1), (0, .ref (qS 0)), (1, .int x1)]) hx hb dX7_pulls_42 rfl hl (by decide) rfl (fun ls hl => ?_)
      exact kX7_pulls_43 M S x3_4 r_1 H locs ls hw (lv_sub hl [3, 1, 0] rfl) h
  · replace h := iF c_2 h
    exact rt_v M S hw h dX7_pulls_10
abbrev rmX7_goesHour : Room := { frames := 5, cells := 0, slots := 0, locals := 114 }
set_option maxHeartbeats 4000000 in
set_option maxRecDepth 100000 in
theorem kX7_goesHour_12 {p : Program} {l : Launch} {e : Env} {s : State} {m : MethodId} {args : Array Value} {below : List Frame} {meth : Method} {c : Code} {z : KT} {A : Nat → Prop} {qS : Nat → Nat} {Q : RT → Prop} (M : Mc p s m args meth c cX7_goesHour 2 none RX7 z A) : ∀ (n : Nat) (S : RT) (x1 : Int32) (H : Heap) (locs : List Loc) (ls : Array Slot), Hw s z A (sW z qS S) H locs → lv_has ls 2 [(0, .ref (qS 0)), (1, .int x1)] → bX7_goesHour_12 Q n S x1 → W p l e rmX7_goesHour s m args below meth c H locs 0 0 (MQ below (va_Qv (fun u : RT => Q u) (fun u t => cAt z A ((fun u : RT => (sW z qS u)) u) t) A) args s 0 0 A) (F0 m 12 ls []) := by
  obtain ⟨hx, hb, -, -, hown, hts, -, -, -, hN, hsr, -⟩ := id M
  intro n
  induction n with
  | zero => intro S x1 H locs ls hw hl h; exact False.elim h
  | succ n ih =>
    intro S x1 H locs ls hw hl h
    rw [bX7_goesHour_12] at h
    refine lv_iload_n hx hb dX7_goesHour_12 rfl (lv_at hl 1 rfl) ?_
    refine lv_aload_n hx hb dX7_goesHour_13 rfl (lv_at hl 0 rfl) ?_
    refine gt_f (v := .int (S 30 9)) M inlX7 hw 0 rfl rfl 9 (by decide) fl_X7_67 rfl rfl dX7_goesHour_14 ?_
    refine lv_icmp_ge (tgt := 31) hx hb dX7_goesHour_17 (by decide) (fun c_1 => ?_) (fun c_1 => ?_)
    · replace h := iT c_1 h
      exact rt_v M S hw h dX7_goesHour_31
    · replace h := iF c_1 h
      refine lv_aload_n hx hb dX7_goesHour_20 rfl (lv_at hl 0 rfl) ?_
      refine lv_iload_n hx hb dX7_goesHour_21 rfl (lv_at hl 1 rfl) ?_
      refine fr_Vv (wN := fun u : RT => (sW z qS u)) M (m_X7_pulls l z qS S x1 _ h) (cwV 1 hts (gdV cd_X7_pulls ml_X7_185 im_X7_pulls se_X7_pulls in_X7) rfl rfl rfl hdV_X7_pulls ⟨(Nat.le_of_ble_eq_true rfl), (Nat.le_of_ble_eq_true rfl)⟩) (Cut.self _) (Prm.self _ 17 (fun _ => rfl)) 0 rfl rfl rfl hw rfl hl.1 rfl (Nat.le_of_ble_eq_true rfl) dX7_goesHour_22 (fun u_ H locs h hw => ?_)
      obtain ⟨S_2, rfl⟩ : ∃ z9 : RT, z9 = u_ := ⟨_, rfl⟩
      have hw : Hw s z A (sW z qS S_2) H locs := hw
      try dsimp only at h
      obtain ⟨x1_3, ex1_3⟩ : ∃ y : Int32, y = (x1 + (1 : Int32)) := ⟨_, rfl⟩
      replace h := h x1_3 ex1_3
      refine lv_iinc (v := x1_3) (lv' := [(1, .int x1_3), (0, .ref (qS 0))]) hx hb dX7_goesHour_25 hl (k := 1) rfl (by rw [ex1_3]; rfl) (by decide) rfl (fun ls hl => ?_)
      refine lv_goto (tgt := 12) hx hb dX7_goesHour_28 (by decide) ?_
      exact ih S_2 x1_3 H locs ls hw (lv_sub hl [1, 0] rfl) h
set_option maxHeartbeats 4000000 in
set_option maxRecDepth 100000 in
theorem m_X7_goesHour (l : Launch) (z : KT) (qS : Nat → Nat) (S : RT) (Q : RT → Prop) (h : wX7_goesHour S Q) : CV l yX7_goesHour cX7_goesHour 2 rmX7_goesHour z [.ref (qS 0)] (sW z qS S) (fun u : RT => (sW z qS u)) (fun u : RT => Q u) := by
  refine CV.of rfl (Nat.le_of_ble_eq_true rfl) ?_
  intro p e s m below meth c A ls M hw hl
  have M : Mc p s m _ meth c cX7_goesHour 2 none RX7 z A := M
  obtain ⟨hx, hb, -, -, hown, hts, -, -, -, hN, hsr, -⟩ := id M
  have hl : lv_has ls 2 [(0, .ref (qS 0))] := hl
  unfold wX7_goesHour at h
  generalize s.heap = H at hw ⊢
  generalize ([] : List Loc) = locs at hw ⊢
  refine lv_aload_n hx hb dX7_goesHour_0 rfl (lv_at hl 0 rfl) ?_
  refine lv_dup hx hb dX7_goesHour_1 rfl ?_
  refine gt_f (v := .int (S 30 10)) M inlX7 hw 0 rfl rfl 10 (by decide) fl_X7_119 rfl rfl dX7_goesHour_2 ?_
  refine lv_iconst (v := 1) hx hb dX7_goesHour_5 (by decide) ?_
  refine lv_iadd hx hb dX7_goesHour_6 ?_
  refine st_f (P := S) (r := 30) (j := 10) (wN := fun S_1 => (sW z qS S_1)) M inlX7 tyX7_ok nmX7 hw 0 rfl rfl 10 (by decide) fl_X7_119 rfl rfl rfl rfl rfl (Nat.le_of_ble_eq_true rfl) rfl dX7_goesHour_7 (fun S_1 H locs eS_1 hw => ?_)
  replace h := h S_1 eS_1
  refine lv_iconst (v := 0) hx hb dX7_goesHour_10 (by decide) ?_
  refine lv_istore_n (lv' := [(1, .int (0 : Int32)), (0, .ref (qS 0))]) hx hb dX7_goesHour_11 rfl hl (by decide) rfl (fun ls hl => ?_)
  obtain ⟨n0, h⟩ := h; exact kX7_goesHour_12 M n0 S_1 (0 : Int32) H locs ls hw (lv_sub hl [1, 0] rfl) h
abbrev rmX7_goes : Room := { frames := 6, cells := 0, slots := 0, locals := 135 }
set_option maxHeartbeats 4000000 in
set_option maxRecDepth 100000 in
theorem kX7_goes_2 {p : Program} {l : Launch} {e : Env} {s : State} {m : MethodId} {args : Array Value} {below : List Frame} {meth : Method} {c : Code} {z : KT} {A : Nat → Prop} {qS : Nat → Nat} {Q : RT → Prop} (M : Mc p s m args meth c cX7_goes 3 none RX7 z A) : ∀ (n : Nat) (S : RT) (x1 : Int32) (x2 : Int32) (H : Heap) (locs : List Loc) (ls : Array Slot), Hw s z A (sW z qS S) H locs → lv_has ls 3 [(0, .ref (qS 0)), (1, .int x1), (2, .int x2)] → bX7_goes_2 Q n S x1 x2 → W p l e rmX7_goes s m args below meth c H locs 0 0 (MQ below (va_Qv (fun u : RT => Q u) (fun u t => cAt z A ((fun u : RT => (sW z qS u)) u) t) A) args s 0 0 A) (F0 m 2 ls []) := by
  obtain ⟨hx, hb, -, -, hown, hts, -, -, -, hN, hsr, -⟩ := id M
  intro n
  induction n with
  | zero => intro S x1 x2 H locs ls hw hl h; exact False.elim h
  | succ n ih =>
    intro S x1 x2 H locs ls hw hl h
    rw [bX7_goes_2] at h
    refine lv_iload_n hx hb dX7_goes_2 rfl (lv_at hl 2 rfl) ?_
    refine lv_iload_n hx hb dX7_goes_3 rfl (lv_at hl 1 rfl) ?_
    refine lv_icmp_ge (tgt := 17) hx hb dX7_goes_4 (by decide) (fun c_1 => ?_) (fun c_1 => ?_)
    · replace h := iT c_1 h
      exact rt_v M S hw h dX7_goes_17
    · replace h := iF c_1 h
      refine lv_aload_n hx hb dX7_goes_7 rfl (lv_at hl 0 rfl) ?_
      refine fr_Vv (wN := fun u : RT => (sW z qS u)) M (m_X7_goesHour l z qS S _ h) (cwV 0 hts (gdV cd_X7_goesHour ml_X7_188 im_X7_goesHour se_X7_goesHour in_X7) rfl rfl rfl hdV_X7_goesHour ⟨(Nat.le_of_ble_eq_true rfl), (Nat.le_of_ble_eq_true rfl)⟩) (Cut.self _) (Prm.self _ 17 (fun _ => rfl)) 0 rfl rfl rfl hw rfl hl.1 rfl (Nat.le_of_ble_eq_true rfl) dX7_goes_8 (fun u_ H locs h hw => ?_)
      obtain ⟨S_2, rfl⟩ : ∃ z9 : RT, z9 = u_ := ⟨_, rfl⟩
      have hw : Hw s z A (sW z qS S_2) H locs := hw
      try dsimp only at h
      obtain ⟨x2_3, ex2_3⟩ : ∃ y : Int32, y = (x2 + (1 : Int32)) := ⟨_, rfl⟩
      replace h := h x2_3 ex2_3
      refine lv_iinc (v := x2_3) (lv' := [(2, .int x2_3), (0, .ref (qS 0)), (1, .int x1)]) hx hb dX7_goes_11 hl (k := 2) rfl (by rw [ex2_3]; rfl) (by decide) rfl (fun ls hl => ?_)
      refine lv_goto (tgt := 2) hx hb dX7_goes_14 (by decide) ?_
      exact ih S_2 x1 x2_3 H locs ls hw (lv_sub hl [1, 2, 0] rfl) h
set_option maxHeartbeats 4000000 in
set_option maxRecDepth 100000 in
theorem m_X7_goes (l : Launch) (z : KT) (qS : Nat → Nat) (S : RT) (x1 : Int32) (Q : RT → Prop) (h : wX7_goes S x1 Q) : CV l yX7_goes cX7_goes 3 rmX7_goes z [.ref (qS 0), .int x1] (sW z qS S) (fun u : RT => (sW z qS u)) (fun u : RT => Q u) := by
  refine CV.of rfl (Nat.le_of_ble_eq_true rfl) ?_
  intro p e s m below meth c A ls M hw hl
  have M : Mc p s m _ meth c cX7_goes 3 none RX7 z A := M
  obtain ⟨hx, hb, -, -, hown, hts, -, -, -, hN, hsr, -⟩ := id M
  have hl : lv_has ls 3 [(0, .ref (qS 0)), (1, .int x1)] := hl
  unfold wX7_goes at h
  generalize s.heap = H at hw ⊢
  generalize ([] : List Loc) = locs at hw ⊢
  refine lv_iconst (v := 0) hx hb dX7_goes_0 (by decide) ?_
  refine lv_istore_n (lv' := [(2, .int (0 : Int32)), (0, .ref (qS 0)), (1, .int x1)]) hx hb dX7_goes_1 rfl hl (by decide) rfl (fun ls hl => ?_)
  obtain ⟨n0, h⟩ := h; exact kX7_goes_2 M n0 S x1 (0 : Int32) H locs ls hw (lv_sub hl [1, 2, 0] rfl) h
abbrev rmX7_comesHours : Room := { frames := 7, cells := 0, slots := 0, locals := 157 }
set_option maxHeartbeats 4000000 in
set_option maxRecDepth 100000 in
theorem m_X7_comesHours (l : Launch) (z : KT) (qS : Nat → Nat) (S : RT) (x1 : Int32) (Q : Int32 → RT → Prop) (h : wX7_comesHours S x1 Q) : CI l yX7_comesHours cX7_comesHours 2 .boolean rmX7_comesHours z [.ref (qS 0), .int x1] (sW z qS S) (fun u : RT => (sW z qS u)) (fun (r : Int32) (u : RT) => Q r u) := by
  refine CI.of rfl (Nat.le_of_ble_eq_true rfl) ?_
  intro p e s m below meth c A ls M hw hl
  have M : Mc p s m _ meth c cX7_comesHours 2 (some .boolean) RX7 z A := M
  obtain ⟨hx, hb, -, -, hown, hts, -, -, -, hN, hsr, -⟩ := id M
  have hl : lv_has ls 2 [(0, .ref (qS 0)), (1, .int x1)] := hl
  unfold wX7_comesHours at h
  generalize s.heap = H at hw ⊢
  generalize ([] : List Loc) = locs at hw ⊢
  refine lv_iload_n hx hb dX7_comesHours_0 rfl (lv_at hl 1 rfl) ?_
  refine lv_iconst (v := 1) hx hb dX7_comesHours_1 (by decide) ?_
  refine lv_bipush (v := 60) hx hb dX7_comesHours_2 (by decide) ?_
  refine fr_Si (wN := fun _ : Unit => (sW z qS S)) M (m_X7_isIn l z x1 (1 : Int32) (60 : Int32) _ h) (va_cwS 3 hts (gdS cd_X7_isIn ml_X7_92 st_X7_isIn in_X7) rfl rfl rfl hdS_X7_isIn ⟨(Nat.le_of_ble_eq_true rfl), (Nat.le_of_ble_eq_true rfl)⟩) (Cut.none _) (Prm.none _) hw rfl hl.1 rfl (Nat.le_of_ble_eq_true rfl) dX7_comesHours_4 (fun r_1 u_ H locs h hw => ?_)
  have hw : Hw s z A (sW z qS S) H locs := hw
  try dsimp only at h
  refine lv_if_eq (tgt := 22) hx hb dX7_comesHours_7 (by decide) (fun c_2 => ?_) (fun c_2 => ?_)
  · replace h := iT c_2 h
    refine lv_iconst (v := 0) hx hb dX7_comesHours_22 (by decide) ?_
    exact rt_z M S hw bz0 h dX7_comesHours_23
  · replace h := iF c_2 h
    refine lv_aload_n hx hb dX7_comesHours_10 rfl (lv_at hl 0 rfl) ?_
    refine gt_f (v := .int (S 30 10)) M inlX7 hw 0 rfl rfl 10 (by decide) fl_X7_119 rfl rfl dX7_comesHours_11 ?_
    refine lv_iload_n hx hb dX7_comesHours_14 rfl (lv_at hl 1 rfl) ?_
    refine lv_iadd hx hb dX7_comesHours_15 ?_
    refine lv_sipush (v := 999) hx hb dX7_comesHours_16 (by decide) ?_
    refine lv_icmp_le (tgt := 24) hx hb dX7_comesHours_19 (by decide) (fun c_3 => ?_) (fun c_3 => ?_)
    · replace h := iT c_3 h
      refine lv_aload_n hx hb dX7_comesHours_24 rfl (lv_at hl 0 rfl) ?_
      refine lv_iload_n hx hb dX7_comesHours_25 rfl (lv_at hl 1 rfl) ?_
      refine fr_Vv (wN := fun u : RT => (sW z qS u)) M (m_X7_goes l z qS S x1 _ h) (cwV 1 hts (gdV cd_X7_goes ml_X7_122 im_X7_goes se_X7_goes in_X7) rfl rfl rfl hdV_X7_goes ⟨(Nat.le_of_ble_eq_true rfl), (Nat.le_of_ble_eq_true rfl)⟩) (Cut.self _) (Prm.self _ 17 (fun _ => rfl)) 0 rfl rfl rfl hw rfl hl.1 rfl (Nat.le_of_ble_eq_true rfl) dX7_comesHours_26 (fun u_ H locs h hw => ?_)
      obtain ⟨S_4, rfl⟩ : ∃ z9 : RT, z9 = u_ := ⟨_, rfl⟩
      have hw : Hw s z A (sW z qS S_4) H locs := hw
      try dsimp only at h
      refine lv_iconst (v := 1) hx hb dX7_comesHours_29 (by decide) ?_
      exact rt_z M S_4 hw bz1 h dX7_comesHours_30
    · replace h := iF c_3 h
      refine lv_iconst (v := 0) hx hb dX7_comesHours_22 (by decide) ?_
      exact rt_z M S hw bz0 h dX7_comesHours_23
abbrev rmX7_comesOne : Room := { frames := 1, cells := 0, slots := 0, locals := 21 }
set_option maxHeartbeats 4000000 in
set_option maxRecDepth 100000 in
theorem kX7_comesOne_22 {p : Program} {l : Launch} {e : Env} {s : State} {m : MethodId} {args : Array Value} {below : List Frame} {meth : Method} {c : Code} {z : KT} {A : Nat → Prop} {qS : Nat → Nat} {Q : Int32 → RT → Prop} (M : Mc p s m args meth c cX7_comesOne 4 (some .boolean) RX7 z A) : ∀ (S : RT) (x1 : Int32) (x2 : Int32) (x3 : Int32) (H : Heap) (locs : List Loc) (ls : Array Slot), Hw s z A (sW z qS S) H locs → lv_has ls 4 [(0, .ref (qS 0)), (1, .int x1), (2, .int x2), (3, .int x3)] → bX7_comesOne_22 Q S x1 x2 x3 → W p l e rmX7_comesOne s m args below meth c H locs 0 0 (MQ below (va_Qi (fun (r : Int32) (u : RT) => Q r u) (fun u t => cAt z A ((fun u : RT => (sW z qS u)) u) t) A) args s 0 0 A) (F0 m 22 ls []) := by
  obtain ⟨hx, hb, -, -, hown, hts, -, -, -, hN, hsr, -⟩ := id M
  intro S x1 x2 x3 H locs ls hw hl h
  unfold bX7_comesOne_22 at h
  refine lv_iload_n hx hb dX7_comesOne_22 rfl (lv_at hl 1 rfl) ?_
  refine lv_bipush (v := 117) hx hb dX7_comesOne_23 (by decide) ?_
  refine lv_icmp_ne (tgt := 38) hx hb dX7_comesOne_25 (by decide) (fun c_1 => ?_) (fun c_1 => ?_)
  · replace h := iF c_1 h
    refine lv_aload_n hx hb dX7_comesOne_38 rfl (lv_at hl 0 rfl) ?_
    refine gt_f (v := .ref (qS 5)) M inlX7 hw 0 rfl rfl 4 (by decide) fl_X7_22 rfl rfl dX7_comesOne_39 ?_
    refine lv_iload_n hx hb dX7_comesOne_42 rfl (lv_at hl 2 rfl) ?_
    refine lv_iload_n hx hb dX7_comesOne_43 rfl (lv_at hl 3 rfl) ?_
    obtain ⟨a_2, h⟩ := h
    refine st_i (P := S) (r := 4) (wN := fun S_3 => (sW z qS S_3)) M hw 5 rfl rfl a_2 dX7_comesOne_44 (fun S_3 H locs eS_3 hw => ?_)
    replace h := h S_3 eS_3
    refine lv_iconst (v := 1) hx hb dX7_comesOne_45 (by decide) ?_
    exact rt_z M S_3 hw bz1 h dX7_comesOne_46
  · replace h := iT c_1 h
    refine lv_aload_n hx hb dX7_comesOne_28 rfl (lv_at hl 0 rfl) ?_
    refine gt_f (v := .ref (qS 6)) M inlX7 hw 0 rfl rfl 5 (by decide) fl_X7_25 rfl rfl dX7_comesOne_29 ?_
    refine lv_iload_n hx hb dX7_comesOne_32 rfl (lv_at hl 2 rfl) ?_
    refine lv_iload_n hx hb dX7_comesOne_33 rfl (lv_at hl 3 rfl) ?_
    obtain ⟨a_4, h⟩ := h
    refine st_i (P := S) (r := 5) (wN := fun S_5 => (sW z qS S_5)) M hw 6 rfl rfl a_4 dX7_comesOne_34 (fun S_5 H locs eS_5 hw => ?_)
    replace h := h S_5 eS_5
    refine lv_goto (tgt := 45) hx hb dX7_comesOne_35 (by decide) ?_
    refine lv_iconst (v := 1) hx hb dX7_comesOne_45 (by decide) ?_
    exact rt_z M S_5 hw bz1 h dX7_comesOne_46
set_option maxHeartbeats 4000000 in
set_option maxRecDepth 100000 in
theorem m_X7_comesOne (l : Launch) (z : KT) (qS : Nat → Nat) (S : RT) (x1 : Int32) (x2 : Int32) (x3 : Int32) (Q : Int32 → RT → Prop) (h : wX7_comesOne S x1 x2 x3 Q) : CI l yX7_comesOne cX7_comesOne 4 .boolean rmX7_comesOne z [.ref (qS 0), .int x1, .int x2, .int x3] (sW z qS S) (fun u : RT => (sW z qS u)) (fun (r : Int32) (u : RT) => Q r u) := by
  refine CI.of rfl (Nat.le_of_ble_eq_true rfl) ?_
  intro p e s m below meth c A ls M hw hl
  have M : Mc p s m _ meth c cX7_comesOne 4 (some .boolean) RX7 z A := M
  obtain ⟨hx, hb, -, -, hown, hts, -, -, -, hN, hsr, -⟩ := id M
  have hl : lv_has ls 4 [(0, .ref (qS 0)), (1, .int x1), (2, .int x2), (3, .int x3)] := hl
  unfold wX7_comesOne at h
  generalize s.heap = H at hw ⊢
  generalize ([] : List Loc) = locs at hw ⊢
  refine lv_aload_n hx hb dX7_comesOne_0 rfl (lv_at hl 0 rfl) ?_
  refine lv_iload_n hx hb dX7_comesOne_1 rfl (lv_at hl 2 rfl) ?_
  refine fr_Vi (wN := fun _ : Unit => (sW z qS S)) M (m_X7_isThing l z qS S x2 _ h) (cwV 1 hts (gdV cd_X7_isThing ml_X7_70 im_X7_isThing se_X7_isThing in_X7) rfl rfl rfl hdV_X7_isThing ⟨(Nat.le_of_ble_eq_true rfl), (Nat.le_of_ble_eq_true rfl)⟩) (Cut.self _) (Prm.self _ 17 (fun _ => rfl)) 0 rfl rfl rfl hw rfl hl.1 rfl (Nat.le_of_ble_eq_true rfl) dX7_comesOne_2 (fun r_1 u_ H locs h hw => ?_)
  have hw : Hw s z A (sW z qS S) H locs := hw
  try dsimp only at h
  refine lv_if_eq (tgt := 20) hx hb dX7_comesOne_5 (by decide) (fun c_2 => ?_) (fun c_2 => ?_)
  · replace h := iT c_2 h
    refine lv_iconst (v := 0) hx hb dX7_comesOne_20 (by decide) ?_
    exact rt_z M S hw bz0 h dX7_comesOne_21
  · replace h := iF c_2 h
    refine lv_iload_n hx hb dX7_comesOne_8 rfl (lv_at hl 1 rfl) ?_
    refine lv_bipush (v := 117) hx hb dX7_comesOne_9 (by decide) ?_
    refine lv_icmp_ne (tgt := 22) hx hb dX7_comesOne_11 (by decide) (fun c_3 => ?_) (fun c_3 => ?_)
    · replace h := iF c_3 h
      exact kX7_comesOne_22 M S x1 x2 x3 H locs ls hw (lv_sub hl [0, 1, 2, 3] rfl) h
    · replace h := iT c_3 h
      refine lv_iload_n hx hb dX7_comesOne_14 rfl (lv_at hl 3 rfl) ?_
      refine lv_bipush (v := 20) hx hb dX7_comesOne_15 (by decide) ?_
      refine lv_icmp_le (tgt := 22) hx hb dX7_comesOne_17 (by decide) (fun c_4 => ?_) (fun c_4 => ?_)
      · replace h := iT c_4 h
        exact kX7_comesOne_22 M S x1 x2 x3 H locs ls hw (lv_sub hl [0, 1, 2, 3] rfl) h
      · replace h := iF c_4 h
        refine lv_iconst (v := 0) hx hb dX7_comesOne_20 (by decide) ?_
        exact rt_z M S hw bz0 h dX7_comesOne_21
abbrev rmX7_drops : Room := { frames := 0, cells := 0, slots := 0, locals := 0 }
set_option maxHeartbeats 4000000 in
set_option maxRecDepth 100000 in
theorem kX7_drops_12 {p : Program} {l : Launch} {e : Env} {s : State} {m : MethodId} {args : Array Value} {below : List Frame} {meth : Method} {c : Code} {z : KT} {A : Nat → Prop} {qS : Nat → Nat} {Q : RT → Prop} (M : Mc p s m args meth c cX7_drops 3 none RX7 z A) : ∀ (n : Nat) (S : RT) (x2 : Int32) (H : Heap) (locs : List Loc) (ls : Array Slot), Hw s z A (sW z qS S) H locs → lv_has ls 3 [(0, .ref (qS 0)), (2, .int x2)] → bX7_drops_12 Q n S x2 → W p l e rmX7_drops s m args below meth c H locs 0 0 (MQ below (va_Qv (fun u : RT => Q u) (fun u t => cAt z A ((fun u : RT => (sW z qS u)) u) t) A) args s 0 0 A) (F0 m 12 ls []) := by
  obtain ⟨hx, hb, -, -, hown, hts, -, -, -, hN, hsr, -⟩ := id M
  intro n
  induction n with
  | zero => intro S x2 H locs ls hw hl h; exact False.elim h
  | succ n ih =>
    intro S x2 H locs ls hw hl h
    rw [bX7_drops_12] at h
    refine lv_iload_n hx hb dX7_drops_12 rfl (lv_at hl 1 rfl) ?_
    refine lv_aload_n hx hb dX7_drops_13 rfl (lv_at hl 0 rfl) ?_
    refine gt_f (v := .int (S 30 9)) M inlX7 hw 0 rfl rfl 9 (by decide) fl_X7_67 rfl rfl dX7_drops_14 ?_
    refine lv_icmp_ge (tgt := 54) hx hb dX7_drops_17 (by decide) (fun c_1 => ?_) (fun c_1 => ?_)
    · replace h := iT c_1 h
      exact rt_v M S hw h dX7_drops_54
    · replace h := iF c_1 h
      refine lv_aload_n hx hb dX7_drops_20 rfl (lv_at hl 0 rfl) ?_
      refine gt_f (v := .ref (qS 7)) M inlX7 hw 0 rfl rfl 6 (by decide) fl_X7_28 rfl rfl dX7_drops_21 ?_
      refine lv_iload_n hx hb dX7_drops_24 rfl (lv_at hl 1 rfl) ?_
      refine lv_aload_n hx hb dX7_drops_25 rfl (lv_at hl 0 rfl) ?_
      refine gt_f (v := .ref (qS 7)) M inlX7 hw 0 rfl rfl 6 (by decide) fl_X7_28 rfl rfl dX7_drops_26 ?_
      refine lv_iload_n hx hb dX7_drops_29 rfl (lv_at hl 1 rfl) ?_
      refine lv_iconst (v := 1) hx hb dX7_drops_30 (by decide) ?_
      refine lv_iadd hx hb dX7_drops_31 ?_
      obtain ⟨a_2, h⟩ := h
      refine ld_i M hw 7 rfl a_2 dX7_drops_32 ?_
      obtain ⟨a_3, h⟩ := h
      refine st_i (P := S) (r := 6) (wN := fun S_4 => (sW z qS S_4)) M hw 7 rfl rfl a_3 dX7_drops_33 (fun S_4 H locs eS_4 hw => ?_)
      replace h := h S_4 eS_4
      refine lv_aload_n hx hb dX7_drops_34 rfl (lv_at hl 0 rfl) ?_
      refine gt_f (v := .ref (qS 8)) M inlX7 hw 0 rfl rfl 7 (by decide) fl_X7_31 rfl rfl dX7_drops_35 ?_
      refine lv_iload_n hx hb dX7_drops_38 rfl (lv_at hl 1 rfl) ?_
      refine lv_aload_n hx hb dX7_drops_39 rfl (lv_at hl 0 rfl) ?_
      refine gt_f (v := .ref (qS 8)) M inlX7 hw 0 rfl rfl 7 (by decide) fl_X7_31 rfl rfl dX7_drops_40 ?_
      refine lv_iload_n hx hb dX7_drops_43 rfl (lv_at hl 1 rfl) ?_
      refine lv_iconst (v := 1) hx hb dX7_drops_44 (by decide) ?_
      refine lv_iadd hx hb dX7_drops_45 ?_
      refine ld_i M hw 8 rfl a_2 dX7_drops_46 ?_
      refine st_i (P := S_4) (r := 7) (wN := fun S_5 => (sW z qS S_5)) M hw 8 rfl rfl a_3 dX7_drops_47 (fun S_5 H locs eS_5 hw => ?_)
      replace h := h S_5 eS_5
      obtain ⟨x2_6, ex2_6⟩ : ∃ y : Int32, y = (x2 + (1 : Int32)) := ⟨_, rfl⟩
      replace h := h x2_6 ex2_6
      refine lv_iinc (v := x2_6) (lv' := [(2, .int x2_6), (0, .ref (qS 0))]) hx hb dX7_drops_48 hl (k := 1) rfl (by rw [ex2_6]; rfl) (by decide) rfl (fun ls hl => ?_)
      refine lv_goto (tgt := 12) hx hb dX7_drops_51 (by decide) ?_
      exact ih S_5 x2_6 H locs ls hw (lv_sub hl [1, 0] rfl) h
set_option maxHeartbeats 4000000 in
set_option maxRecDepth 100000 in
theorem m_X7_drops (l : Launch) (z : KT) (qS : Nat → Nat) (S : RT) (x1 : Int32) (Q : RT → Prop) (h : wX7_drops S x1 Q) : CV l yX7_drops cX7_drops 3 rmX7_drops z [.ref (qS 0), .int x1] (sW z qS S) (fun u : RT => (sW z qS u)) (fun u : RT => Q u) := by
  refine CV.of rfl (Nat.le_of_ble_eq_true rfl) ?_
  intro p e s m below meth c A ls M hw hl
  have M : Mc p s m _ meth c cX7_drops 3 none RX7 z A := M
  obtain ⟨hx, hb, -, -, hown, hts, -, -, -, hN, hsr, -⟩ := id M
  have hl : lv_has ls 3 [(0, .ref (qS 0)), (1, .int x1)] := hl
  unfold wX7_drops at h
  generalize s.heap = H at hw ⊢
  generalize ([] : List Loc) = locs at hw ⊢
  refine lv_aload_n hx hb dX7_drops_0 rfl (lv_at hl 0 rfl) ?_
  refine lv_dup hx hb dX7_drops_1 rfl ?_
  refine gt_f (v := .int (S 30 9)) M inlX7 hw 0 rfl rfl 9 (by decide) fl_X7_67 rfl rfl dX7_drops_2 ?_
  refine lv_iconst (v := 1) hx hb dX7_drops_5 (by decide) ?_
  refine lv_isub hx hb dX7_drops_6 ?_
  refine st_f (P := S) (r := 30) (j := 9) (wN := fun S_1 => (sW z qS S_1)) M inlX7 tyX7_ok nmX7 hw 0 rfl rfl 9 (by decide) fl_X7_67 rfl rfl rfl rfl rfl (Nat.le_of_ble_eq_true rfl) rfl dX7_drops_7 (fun S_1 H locs eS_1 hw => ?_)
  replace h := h S_1 eS_1
  refine lv_iload_n hx hb dX7_drops_10 rfl (lv_at hl 1 rfl) ?_
  refine lv_istore_n (lv' := [(2, .int x1), (0, .ref (qS 0)), (1, .int x1)]) hx hb dX7_drops_11 rfl hl (by decide) rfl (fun ls hl => ?_)
  obtain ⟨n0, h⟩ := h; exact kX7_drops_12 M n0 S_1 x1 H locs ls hw (lv_sub hl [1, 0] rfl) h
abbrev rmX7_comes : Room := { frames := 8, cells := 0, slots := 0, locals := 178 }
set_option maxHeartbeats 4000000 in
set_option maxRecDepth 100000 in
theorem m_X7_comes (l : Launch) (z : KT) (qS : Nat → Nat) (S : RT) (x1 : Int32) (Q : Int32 → RT → Prop) (h : wX7_comes S x1 Q) : CI l yX7_comes cX7_comes 3 .boolean rmX7_comes z [.ref (qS 0), .int x1] (sW z qS S) (fun u : RT => (sW z qS u)) (fun (r : Int32) (u : RT) => Q r u) := by
  refine CI.of rfl (Nat.le_of_ble_eq_true rfl) ?_
  intro p e s m below meth c A ls M hw hl
  have M : Mc p s m _ meth c cX7_comes 3 (some .boolean) RX7 z A := M
  obtain ⟨hx, hb, -, -, hown, hts, -, -, -, hN, hsr, -⟩ := id M
  have hl : lv_has ls 3 [(0, .ref (qS 0)), (1, .int x1)] := hl
  unfold wX7_comes at h
  generalize s.heap = H at hw ⊢
  generalize ([] : List Loc) = locs at hw ⊢
  refine lv_iconst (v := 3) hx hb dX7_comes_0 (by decide) ?_
  refine lv_iload_n hx hb dX7_comes_1 rfl (lv_at hl 1 rfl) ?_
  refine lv_imul hx hb dX7_comes_2 ?_
  refine lv_topi (fun x2_1 ex2_1 => ?_)
  replace h := h x2_1 ex2_1
  refine lv_istore_n (lv' := [(2, .int x2_1), (0, .ref (qS 0)), (1, .int x1)]) hx hb dX7_comes_3 rfl hl (by decide) rfl (fun ls hl => ?_)
  refine lv_aload_n hx hb dX7_comes_4 rfl (lv_at hl 1 rfl) ?_
  refine gt_f (v := .ref (qS 14)) M inlX7 hw 0 rfl rfl 13 (by decide) fl_X7_41 rfl rfl dX7_comes_5 ?_
  refine lv_iload_n hx hb dX7_comes_8 rfl (lv_at hl 2 rfl) ?_
  obtain ⟨a_2, h⟩ := h
  refine ld_i M hw 10 rfl a_2 dX7_comes_9 ?_
  refine lv_topi (fun s_3 es_3 => ?_)
  replace h := h s_3 es_3
  by_cases c_4 : s_3 = (99 : Int32)
  · replace h := iT c_4 h
    refine lv_lookup (off := 67) (tgt := 77) hx hb dX7_comes_10 (by decide) (by first | (rw [c_4]; done) | (rw [c_4]; rfl)) (by decide) ?_
    refine lv_aload_n hx hb dX7_comes_77 rfl (lv_at hl 1 rfl) ?_
    refine lv_aload_n hx hb dX7_comes_78 rfl (lv_at hl 1 rfl) ?_
    refine gt_f (v := .ref (qS 16)) M inlX7 hw 0 rfl rfl 15 (by decide) fl_X7_47 rfl rfl dX7_comes_79 ?_
    refine lv_iload_n hx hb dX7_comes_82 rfl (lv_at hl 0 rfl) ?_
    obtain ⟨a_5, h⟩ := h
    refine ld_i M hw 12 rfl a_5 dX7_comes_83 ?_
    refine fr_Vi (wN := fun _ : Unit => (sW z qS S)) M (m_X7_isRope l z qS S (S 15 (x2_1).toNatClampNeg) _ h) (cwV 1 hts (gdV cd_X7_isRope ml_X7_132 im_X7_isRope se_X7_isRope in_X7) rfl rfl rfl hdV_X7_isRope ⟨(Nat.le_of_ble_eq_true rfl), (Nat.le_of_ble_eq_true rfl)⟩) (Cut.self _) (Prm.self _ 17 (fun _ => rfl)) 0 rfl rfl rfl hw rfl hl.1 rfl (Nat.le_of_ble_eq_true rfl) dX7_comes_84 (fun r_6 u_ H locs h hw => ?_)
    have hw : Hw s z A (sW z qS S) H locs := hw
    try dsimp only at h
    refine lv_if_ne (tgt := 92) hx hb dX7_comes_87 (by decide) (fun c_7 => ?_) (fun c_7 => ?_)
    · replace h := iF c_7 h
      refine lv_aload_n hx hb dX7_comes_92 rfl (lv_at hl 1 rfl) ?_
      refine lv_aload_n hx hb dX7_comes_93 rfl (lv_at hl 1 rfl) ?_
      refine gt_f (v := .ref (qS 16)) M inlX7 hw 0 rfl rfl 15 (by decide) fl_X7_47 rfl rfl dX7_comes_94 ?_
      refine lv_iload_n hx hb dX7_comes_97 rfl (lv_at hl 0 rfl) ?_
      refine ld_i M hw 12 rfl a_5 dX7_comes_98 ?_
      refine fr_Vv (wN := fun u : RT => (sW z qS u)) M (m_X7_drops l z qS S (S 15 (x2_1).toNatClampNeg) _ h) (cwV 1 hts (gdV cd_X7_drops ml_X7_135 im_X7_drops se_X7_drops in_X7) rfl rfl rfl hdV_X7_drops ⟨(Nat.le_of_ble_eq_true rfl), (Nat.le_of_ble_eq_true rfl)⟩) (Cut.self _) (Prm.self _ 17 (fun _ => rfl)) 0 rfl rfl rfl hw rfl hl.1 rfl (Nat.le_of_ble_eq_true rfl) dX7_comes_99 (fun u_ H locs h hw => ?_)
      obtain ⟨S_8, rfl⟩ : ∃ z9 : RT, z9 = u_ := ⟨_, rfl⟩
      have hw : Hw s z A (sW z qS S_8) H locs := hw
      try dsimp only at h
      refine lv_iconst (v := 1) hx hb dX7_comes_102 (by decide) ?_
      exact rt_z M S_8 hw bz1 h dX7_comes_103
    · replace h := iT c_7 h
      refine lv_iconst (v := 0) hx hb dX7_comes_90 (by decide) ?_
      exact rt_z M S hw bz0 h dX7_comes_91
  replace h := iF c_4 h
  by_cases c_9 : s_3 = (104 : Int32)
  · replace h := iT c_9 h
    refine lv_lookup (off := 94) (tgt := 104) hx hb dX7_comes_10 (by decide) (by first | (rw [c_9]; done) | (rw [c_9]; rfl)) (by decide) ?_
    refine lv_aload_n hx hb dX7_comes_104 rfl (lv_at hl 1 rfl) ?_
    refine lv_aload_n hx hb dX7_comes_105 rfl (lv_at hl 1 rfl) ?_
    refine gt_f (v := .ref (qS 16)) M inlX7 hw 0 rfl rfl 15 (by decide) fl_X7_47 rfl rfl dX7_comes_106 ?_
    refine lv_iload_n hx hb dX7_comes_109 rfl (lv_at hl 0 rfl) ?_
    obtain ⟨a_10, h⟩ := h
    refine ld_i M hw 12 rfl a_10 dX7_comes_110 ?_
    refine fr_Vi (wN := fun u : RT => (sW z qS u)) M (m_X7_comesHours l z qS S (S 15 (x2_1).toNatClampNeg) _ h) (cwV 1 hts (gdV cd_X7_comesHours ml_X7_138 im_X7_comesHours se_X7_comesHours in_X7) rfl rfl rfl hdV_X7_comesHours ⟨(Nat.le_of_ble_eq_true rfl), (Nat.le_of_ble_eq_true rfl)⟩) (Cut.self _) (Prm.self _ 17 (fun _ => rfl)) 0 rfl rfl rfl hw rfl hl.1 rfl (Nat.le_of_ble_eq_true rfl) dX7_comes_111 (fun r_12 u_ H locs h hw => ?_)
    obtain ⟨S_11, rfl⟩ : ∃ z9 : RT, z9 = u_ := ⟨_, rfl⟩
    have hw : Hw s z A (sW z qS S_11) H locs := hw
    try dsimp only at h
    obtain ⟨a_13, h⟩ := h
    exact rt_z M S_11 hw a_13 h dX7_comes_114
  replace h := iF c_9 h
  by_cases c_14 : s_3 = (114 : Int32)
  · replace h := iT c_14 h
    refine lv_lookup (off := 48) (tgt := 58) hx hb dX7_comes_10 (by decide) (by first | (rw [c_14]; done) | (rw [c_14]; rfl)) (by decide) ?_
    refine lv_aload_n hx hb dX7_comes_58 rfl (lv_at hl 1 rfl) ?_
    refine lv_aload_n hx hb dX7_comes_59 rfl (lv_at hl 1 rfl) ?_
    refine gt_f (v := .ref (qS 16)) M inlX7 hw 0 rfl rfl 15 (by decide) fl_X7_47 rfl rfl dX7_comes_60 ?_
    refine lv_iload_n hx hb dX7_comes_63 rfl (lv_at hl 0 rfl) ?_
    obtain ⟨a_15, h⟩ := h
    refine ld_i M hw 12 rfl a_15 dX7_comes_64 ?_
    refine lv_aload_n hx hb dX7_comes_65 rfl (lv_at hl 1 rfl) ?_
    refine gt_f (v := .ref (qS 16)) M inlX7 hw 0 rfl rfl 15 (by decide) fl_X7_47 rfl rfl dX7_comes_66 ?_
    refine lv_iload_n hx hb dX7_comes_69 rfl (lv_at hl 0 rfl) ?_
    refine lv_iconst (v := 1) hx hb dX7_comes_70 (by decide) ?_
    refine lv_iadd hx hb dX7_comes_71 ?_
    obtain ⟨a_16, h⟩ := h
    refine ld_i M hw 12 rfl a_16 dX7_comes_72 ?_
    refine fr_Vi (wN := fun u : RT => (sW z qS u)) M (m_X7_comesRope l z qS S (S 15 (x2_1).toNatClampNeg) (S 15 ((x2_1 + (1 : Int32))).toNatClampNeg) _ h) (cwV 2 hts (gdV cd_X7_comesRope ml_X7_129 im_X7_comesRope se_X7_comesRope in_X7) rfl rfl rfl hdV_X7_comesRope ⟨(Nat.le_of_ble_eq_true rfl), (Nat.le_of_ble_eq_true rfl)⟩) (Cut.self _) (Prm.self _ 17 (fun _ => rfl)) 0 rfl rfl rfl hw rfl hl.1 rfl (Nat.le_of_ble_eq_true rfl) dX7_comes_73 (fun r_18 u_ H locs h hw => ?_)
    obtain ⟨S_17, rfl⟩ : ∃ z9 : RT, z9 = u_ := ⟨_, rfl⟩
    have hw : Hw s z A (sW z qS S_17) H locs := hw
    try dsimp only at h
    obtain ⟨a_19, h⟩ := h
    exact rt_z M S_17 hw a_19 h dX7_comes_76
  replace h := iF c_14 h
  by_cases c_20 : s_3 = (116 : Int32)
  · replace h := iT c_20 h
    refine lv_lookup (off := 42) (tgt := 52) hx hb dX7_comes_10 (by decide) (by first | (rw [c_20]; done) | (rw [c_20]; rfl)) (by decide) ?_
    refine lv_aload_n hx hb dX7_comes_52 rfl (lv_at hl 1 rfl) ?_
    refine lv_iload_n hx hb dX7_comes_53 rfl (lv_at hl 0 rfl) ?_
    refine fr_Vi (wN := fun u : RT => (sW z qS u)) M (m_X7_comesThing l z qS S x2_1 _ h) (cwV 1 hts (gdV cd_X7_comesThing ml_X7_126 im_X7_comesThing se_X7_comesThing in_X7) rfl rfl rfl hdV_X7_comesThing ⟨(Nat.le_of_ble_eq_true rfl), (Nat.le_of_ble_eq_true rfl)⟩) (Cut.self _) (Prm.self _ 17 (fun _ => rfl)) 0 rfl rfl rfl hw rfl hl.1 rfl (Nat.le_of_ble_eq_true rfl) dX7_comes_54 (fun r_22 u_ H locs h hw => ?_)
    obtain ⟨S_21, rfl⟩ : ∃ z9 : RT, z9 = u_ := ⟨_, rfl⟩
    have hw : Hw s z A (sW z qS S_21) H locs := hw
    try dsimp only at h
    obtain ⟨a_23, h⟩ := h
    exact rt_z M S_21 hw a_23 h dX7_comes_57
  replace h := iF c_20 h
  refine lv_lookup (off := 105) (tgt := 115) hx hb dX7_comes_10 (by decide) ((lv_osw c_4 (by decide)).trans <| (lv_osw c_9 (by decide)).trans <| (lv_osw c_14 (by decide)).trans <| (lv_osw c_20 (by decide)).trans <| rfl) (by decide) ?_
  refine lv_aload_n hx hb dX7_comes_115 rfl (lv_at hl 1 rfl) ?_
  refine lv_aload_n hx hb dX7_comes_116 rfl (lv_at hl 1 rfl) ?_
  refine gt_f (v := .ref (qS 14)) M inlX7 hw 0 rfl rfl 13 (by decide) fl_X7_41 rfl rfl dX7_comes_117 ?_
  refine lv_iload_n hx hb dX7_comes_120 rfl (lv_at hl 2 rfl) ?_
  refine ld_i M hw 10 rfl a_2 dX7_comes_121 ?_
  refine lv_aload_n hx hb dX7_comes_122 rfl (lv_at hl 1 rfl) ?_
  refine gt_f (v := .ref (qS 16)) M inlX7 hw 0 rfl rfl 15 (by decide) fl_X7_47 rfl rfl dX7_comes_123 ?_
  refine lv_iload_n hx hb dX7_comes_126 rfl (lv_at hl 0 rfl) ?_
  obtain ⟨a_24, h⟩ := h
  refine ld_i M hw 12 rfl a_24 dX7_comes_127 ?_
  refine lv_aload_n hx hb dX7_comes_128 rfl (lv_at hl 1 rfl) ?_
  refine gt_f (v := .ref (qS 16)) M inlX7 hw 0 rfl rfl 15 (by decide) fl_X7_47 rfl rfl dX7_comes_129 ?_
  refine lv_iload_n hx hb dX7_comes_132 rfl (lv_at hl 0 rfl) ?_
  refine lv_iconst (v := 1) hx hb dX7_comes_133 (by decide) ?_
  refine lv_iadd hx hb dX7_comes_134 ?_
  obtain ⟨a_25, h⟩ := h
  refine ld_i M hw 12 rfl a_25 dX7_comes_135 ?_
  refine fr_Vi (wN := fun u : RT => (sW z qS u)) M (m_X7_comesOne l z qS S (S 13 (x1).toNatClampNeg) (S 15 (x2_1).toNatClampNeg) (S 15 ((x2_1 + (1 : Int32))).toNatClampNeg) _ h) (cwV 3 hts (gdV cd_X7_comesOne ml_X7_141 im_X7_comesOne se_X7_comesOne in_X7) rfl rfl rfl hdV_X7_comesOne ⟨(Nat.le_of_ble_eq_true rfl), (Nat.le_of_ble_eq_true rfl)⟩) (Cut.self _) (Prm.self _ 17 (fun _ => rfl)) 0 rfl rfl rfl hw rfl hl.1 rfl (Nat.le_of_ble_eq_true rfl) dX7_comes_136 (fun r_27 u_ H locs h hw => ?_)
  obtain ⟨S_26, rfl⟩ : ∃ z9 : RT, z9 = u_ := ⟨_, rfl⟩
  have hw : Hw s z A (sW z qS S_26) H locs := hw
  try dsimp only at h
  obtain ⟨a_28, h⟩ := h
  exact rt_z M S_26 hw a_28 h dX7_comes_139
abbrev rmX7_passes_1 : Room := { frames := 0, cells := 0, slots := 0, locals := 0 }
set_option maxHeartbeats 4000000 in
set_option maxRecDepth 100000 in
theorem kX7_passes_1_42 {p : Program} {l : Launch} {e : Env} {s : State} {m : MethodId} {args : Array Value} {below : List Frame} {meth : Method} {c : Code} {z : KT} {A : Nat → Prop} {qS : Nat → Nat} {K2 : RT → Int32 → Prop} {Q : RT → Prop} (M : Mc p s m args meth c cX7_passes 3 none RX7 z A) (hK2 : ∀ (S : RT) (x2 : Int32) (H : Heap) (locs : List Loc) (ls : Array Slot), Hw s z A (sW z qS S) H locs → lv_has ls 3 [(0, .ref (qS 0)), (1, .ref (qS 2)), (2, .int x2)] → K2 S x2 → W p l e rmX7_passes_1 s m args below meth c H locs 0 0 (MQ below (va_Qv (fun u : RT => Q u) (fun u t => cAt z A ((fun u : RT => (sW z qS u)) u) t) A) args s 0 0 A) (F0 m 2 ls [])) : ∀ (S : RT) (x2 : Int32) (H : Heap) (locs : List Loc) (ls : Array Slot), Hw s z A (sW z qS S) H locs → lv_has ls 3 [(0, .ref (qS 0)), (1, .ref (qS 2)), (2, .int x2)] → bX7_passes_1_42 K2 Q S x2 → W p l e rmX7_passes_1 s m args below meth c H locs 0 0 (MQ below (va_Qv (fun u : RT => Q u) (fun u t => cAt z A ((fun u : RT => (sW z qS u)) u) t) A) args s 0 0 A) (F0 m 42 ls []) := by
  obtain ⟨hx, hb, -, -, hown, hts, -, -, -, hN, hsr, -⟩ := id M
  intro S x2 H locs ls hw hl h
  unfold bX7_passes_1_42 at h
  refine lv_aload_n hx hb dX7_passes_42 rfl (lv_at hl 0 rfl) ?_
  refine lv_dup hx hb dX7_passes_43 rfl ?_
  refine gt_f (v := .int (S 30 22)) M inlX7 hw 0 rfl rfl 22 (by decide) fl_X7_159 rfl rfl dX7_passes_44 ?_
  refine lv_iconst (v := 1) hx hb dX7_passes_47 (by decide) ?_
  refine lv_iadd hx hb dX7_passes_48 ?_
  refine st_f (P := S) (r := 30) (j := 22) (wN := fun S_1 => (sW z qS S_1)) M inlX7 tyX7_ok nmX7 hw 0 rfl rfl 22 (by decide) fl_X7_159 rfl rfl rfl rfl rfl (Nat.le_of_ble_eq_true rfl) rfl dX7_passes_49 (fun S_1 H locs eS_1 hw => ?_)
  replace h := h S_1 eS_1
  obtain ⟨x2_2, ex2_2⟩ : ∃ y : Int32, y = (x2 + (1 : Int32)) := ⟨_, rfl⟩
  replace h := h x2_2 ex2_2
  refine lv_iinc (v := x2_2) (lv' := [(2, .int x2_2), (0, .ref (qS 0)), (1, .ref (qS 2))]) hx hb dX7_passes_52 hl (k := 2) rfl (by rw [ex2_2]; rfl) (by decide) rfl (fun ls hl => ?_)
  refine lv_goto (tgt := 2) hx hb dX7_passes_55 (by decide) ?_
  exact hK2 S_1 x2_2 H locs ls hw (lv_sub hl [1, 2, 0] rfl) h
set_option maxHeartbeats 4000000 in
set_option maxRecDepth 100000 in
theorem kX7_passes_1_2 {p : Program} {l : Launch} {e : Env} {s : State} {m : MethodId} {args : Array Value} {below : List Frame} {meth : Method} {c : Code} {z : KT} {A : Nat → Prop} {qS : Nat → Nat} {Q : RT → Prop} (M : Mc p s m args meth c cX7_passes 3 none RX7 z A) : ∀ (n : Nat) (S : RT) (x2 : Int32) (H : Heap) (locs : List Loc) (ls : Array Slot), Hw s z A (sW z qS S) H locs → lv_has ls 3 [(0, .ref (qS 0)), (1, .ref (qS 2)), (2, .int x2)] → bX7_passes_1_2 Q n S x2 → W p l e rmX7_passes_1 s m args below meth c H locs 0 0 (MQ below (va_Qv (fun u : RT => Q u) (fun u t => cAt z A ((fun u : RT => (sW z qS u)) u) t) A) args s 0 0 A) (F0 m 2 ls []) := by
  obtain ⟨hx, hb, -, -, hown, hts, -, -, -, hN, hsr, -⟩ := id M
  intro n
  induction n with
  | zero => intro S x2 H locs ls hw hl h; exact False.elim h
  | succ n ih =>
    intro S x2 H locs ls hw hl h
    rw [bX7_passes_1_2] at h
    refine lv_iload_n hx hb dX7_passes_2 rfl (lv_at hl 2 rfl) ?_
    refine lv_aload_n hx hb dX7_passes_3 rfl (lv_at hl 1 rfl) ?_
    refine al_i (v := 8) M hw 2 rfl rfl dX7_passes_4 ?_
    refine lv_icmp_ge (tgt := 58) hx hb dX7_passes_5 (by decide) (fun c_1 => ?_) (fun c_1 => ?_)
    · replace h := iT c_1 h
      exact rt_v M S hw h dX7_passes_58
    · replace h := iF c_1 h
      refine lv_aload_n hx hb dX7_passes_8 rfl (lv_at hl 0 rfl) ?_
      refine gt_f (v := .int (S 30 21)) M inlX7 hw 0 rfl rfl 21 (by decide) fl_X7_155 rfl rfl dX7_passes_9 ?_
      refine lv_if_eq (tgt := 30) hx hb dX7_passes_12 (by decide) (fun c_2 => ?_) (fun c_2 => ?_)
      · replace h := iT c_2 h
        refine lv_aload_n hx hb dX7_passes_30 rfl (lv_at hl 1 rfl) ?_
        refine lv_iload_n hx hb dX7_passes_31 rfl (lv_at hl 2 rfl) ?_
        refine lv_aload_n hx hb dX7_passes_32 rfl (lv_at hl 0 rfl) ?_
        refine gt_f (v := .ref (qS 20)) M inlX7 hw 0 rfl rfl 19 (by decide) fl_X7_50 rfl rfl dX7_passes_33 ?_
        refine lv_aload_n hx hb dX7_passes_36 rfl (lv_at hl 0 rfl) ?_
        refine gt_f (v := .int (S 30 22)) M inlX7 hw 0 rfl rfl 22 (by decide) fl_X7_159 rfl rfl dX7_passes_37 ?_
        obtain ⟨a_3, h⟩ := h
        refine ld_i M hw 13 rfl a_3 dX7_passes_40 ?_
        obtain ⟨a_4, h⟩ := h
        refine st_i (P := S) (r := 1) (wN := fun S_5 => (sW z qS S_5)) M hw 2 rfl rfl a_4 dX7_passes_41 (fun S_5 H locs eS_5 hw => ?_)
        replace h := h S_5 eS_5
        exact kX7_passes_1_42 M ih S_5 x2 H locs ls hw (lv_sub hl [0, 1, 2] rfl) h
      · replace h := iF c_2 h
        refine lv_aload_n hx hb dX7_passes_15 rfl (lv_at hl 0 rfl) ?_
        refine gt_f (v := .ref (qS 20)) M inlX7 hw 0 rfl rfl 19 (by decide) fl_X7_50 rfl rfl dX7_passes_16 ?_
        refine lv_aload_n hx hb dX7_passes_19 rfl (lv_at hl 0 rfl) ?_
        refine gt_f (v := .int (S 30 22)) M inlX7 hw 0 rfl rfl 22 (by decide) fl_X7_159 rfl rfl dX7_passes_20 ?_
        refine lv_aload_n hx hb dX7_passes_23 rfl (lv_at hl 1 rfl) ?_
        refine lv_iload_n hx hb dX7_passes_24 rfl (lv_at hl 2 rfl) ?_
        obtain ⟨a_6, h⟩ := h
        refine ld_i M hw 2 rfl a_6 dX7_passes_25 ?_
        obtain ⟨a_7, h⟩ := h
        refine st_i (P := S) (r := 19) (wN := fun S_8 => (sW z qS S_8)) M hw 13 rfl rfl a_7 dX7_passes_26 (fun S_8 H locs eS_8 hw => ?_)
        replace h := h S_8 eS_8
        refine lv_goto (tgt := 42) hx hb dX7_passes_27 (by decide) ?_
        exact kX7_passes_1_42 M ih S_8 x2 H locs ls hw (lv_sub hl [0, 1, 2] rfl) h
set_option maxHeartbeats 4000000 in
set_option maxRecDepth 100000 in
theorem m_X7_passes_1 (l : Launch) (z : KT) (qS : Nat → Nat) (S : RT) (Q : RT → Prop) (h : wX7_passes_1 S Q) : CV l yX7_passes cX7_passes 3 rmX7_passes_1 z [.ref (qS 0), .ref (qS 2)] (sW z qS S) (fun u : RT => (sW z qS u)) (fun u : RT => Q u) := by
  refine CV.of rfl (Nat.le_of_ble_eq_true rfl) ?_
  intro p e s m below meth c A ls M hw hl
  have M : Mc p s m _ meth c cX7_passes 3 none RX7 z A := M
  obtain ⟨hx, hb, -, -, hown, hts, -, -, -, hN, hsr, -⟩ := id M
  have hl : lv_has ls 3 [(0, .ref (qS 0)), (1, .ref (qS 2))] := hl
  unfold wX7_passes_1 at h
  generalize s.heap = H at hw ⊢
  generalize ([] : List Loc) = locs at hw ⊢
  refine lv_iconst (v := 0) hx hb dX7_passes_0 (by decide) ?_
  refine lv_istore_n (lv' := [(2, .int (0 : Int32)), (0, .ref (qS 0)), (1, .ref (qS 2))]) hx hb dX7_passes_1 rfl hl (by decide) rfl (fun ls hl => ?_)
  obtain ⟨n0, h⟩ := h; exact kX7_passes_1_2 M n0 S (0 : Int32) H locs ls hw (lv_sub hl [1, 2, 0] rfl) h
abbrev rmX7_passes_2 : Room := { frames := 0, cells := 0, slots := 0, locals := 0 }
set_option maxHeartbeats 4000000 in
set_option maxRecDepth 100000 in
theorem kX7_passes_2_42 {p : Program} {l : Launch} {e : Env} {s : State} {m : MethodId} {args : Array Value} {below : List Frame} {meth : Method} {c : Code} {z : KT} {A : Nat → Prop} {qS : Nat → Nat} {K2 : RT → Int32 → Prop} {Q : RT → Prop} (M : Mc p s m args meth c cX7_passes 3 none RX7 z A) (hK2 : ∀ (S : RT) (x2 : Int32) (H : Heap) (locs : List Loc) (ls : Array Slot), Hw s z A (sW z qS S) H locs → lv_has ls 3 [(0, .ref (qS 0)), (1, .ref (qS 3)), (2, .int x2)] → K2 S x2 → W p l e rmX7_passes_2 s m args below meth c H locs 0 0 (MQ below (va_Qv (fun u : RT => Q u) (fun u t => cAt z A ((fun u : RT => (sW z qS u)) u) t) A) args s 0 0 A) (F0 m 2 ls [])) : ∀ (S : RT) (x2 : Int32) (H : Heap) (locs : List Loc) (ls : Array Slot), Hw s z A (sW z qS S) H locs → lv_has ls 3 [(0, .ref (qS 0)), (1, .ref (qS 3)), (2, .int x2)] → bX7_passes_2_42 K2 Q S x2 → W p l e rmX7_passes_2 s m args below meth c H locs 0 0 (MQ below (va_Qv (fun u : RT => Q u) (fun u t => cAt z A ((fun u : RT => (sW z qS u)) u) t) A) args s 0 0 A) (F0 m 42 ls []) := by
  obtain ⟨hx, hb, -, -, hown, hts, -, -, -, hN, hsr, -⟩ := id M
  intro S x2 H locs ls hw hl h
  unfold bX7_passes_2_42 at h
  refine lv_aload_n hx hb dX7_passes_42 rfl (lv_at hl 0 rfl) ?_
  refine lv_dup hx hb dX7_passes_43 rfl ?_
  refine gt_f (v := .int (S 30 22)) M inlX7 hw 0 rfl rfl 22 (by decide) fl_X7_159 rfl rfl dX7_passes_44 ?_
  refine lv_iconst (v := 1) hx hb dX7_passes_47 (by decide) ?_
  refine lv_iadd hx hb dX7_passes_48 ?_
  refine st_f (P := S) (r := 30) (j := 22) (wN := fun S_1 => (sW z qS S_1)) M inlX7 tyX7_ok nmX7 hw 0 rfl rfl 22 (by decide) fl_X7_159 rfl rfl rfl rfl rfl (Nat.le_of_ble_eq_true rfl) rfl dX7_passes_49 (fun S_1 H locs eS_1 hw => ?_)
  replace h := h S_1 eS_1
  obtain ⟨x2_2, ex2_2⟩ : ∃ y : Int32, y = (x2 + (1 : Int32)) := ⟨_, rfl⟩
  replace h := h x2_2 ex2_2
  refine lv_iinc (v := x2_2) (lv' := [(2, .int x2_2), (0, .ref (qS 0)), (1, .ref (qS 3))]) hx hb dX7_passes_52 hl (k := 2) rfl (by rw [ex2_2]; rfl) (by decide) rfl (fun ls hl => ?_)
  refine lv_goto (tgt := 2) hx hb dX7_passes_55 (by decide) ?_
  exact hK2 S_1 x2_2 H locs ls hw (lv_sub hl [1, 2, 0] rfl) h
set_option maxHeartbeats 4000000 in
set_option maxRecDepth 100000 in
theorem kX7_passes_2_2 {p : Program} {l : Launch} {e : Env} {s : State} {m : MethodId} {args : Array Value} {below : List Frame} {meth : Method} {c : Code} {z : KT} {A : Nat → Prop} {qS : Nat → Nat} {Q : RT → Prop} (M : Mc p s m args meth c cX7_passes 3 none RX7 z A) : ∀ (n : Nat) (S : RT) (x2 : Int32) (H : Heap) (locs : List Loc) (ls : Array Slot), Hw s z A (sW z qS S) H locs → lv_has ls 3 [(0, .ref (qS 0)), (1, .ref (qS 3)), (2, .int x2)] → bX7_passes_2_2 Q n S x2 → W p l e rmX7_passes_2 s m args below meth c H locs 0 0 (MQ below (va_Qv (fun u : RT => Q u) (fun u t => cAt z A ((fun u : RT => (sW z qS u)) u) t) A) args s 0 0 A) (F0 m 2 ls []) := by
  obtain ⟨hx, hb, -, -, hown, hts, -, -, -, hN, hsr, -⟩ := id M
  intro n
  induction n with
  | zero => intro S x2 H locs ls hw hl h; exact False.elim h
  | succ n ih =>
    intro S x2 H locs ls hw hl h
    rw [bX7_passes_2_2] at h
    refine lv_iload_n hx hb dX7_passes_2 rfl (lv_at hl 2 rfl) ?_
    refine lv_aload_n hx hb dX7_passes_3 rfl (lv_at hl 1 rfl) ?_
    refine al_i (v := 8) M hw 3 rfl rfl dX7_passes_4 ?_
    refine lv_icmp_ge (tgt := 58) hx hb dX7_passes_5 (by decide) (fun c_1 => ?_) (fun c_1 => ?_)
    · replace h := iT c_1 h
      exact rt_v M S hw h dX7_passes_58
    · replace h := iF c_1 h
      refine lv_aload_n hx hb dX7_passes_8 rfl (lv_at hl 0 rfl) ?_
      refine gt_f (v := .int (S 30 21)) M inlX7 hw 0 rfl rfl 21 (by decide) fl_X7_155 rfl rfl dX7_passes_9 ?_
      refine lv_if_eq (tgt := 30) hx hb dX7_passes_12 (by decide) (fun c_2 => ?_) (fun c_2 => ?_)
      · replace h := iT c_2 h
        refine lv_aload_n hx hb dX7_passes_30 rfl (lv_at hl 1 rfl) ?_
        refine lv_iload_n hx hb dX7_passes_31 rfl (lv_at hl 2 rfl) ?_
        refine lv_aload_n hx hb dX7_passes_32 rfl (lv_at hl 0 rfl) ?_
        refine gt_f (v := .ref (qS 20)) M inlX7 hw 0 rfl rfl 19 (by decide) fl_X7_50 rfl rfl dX7_passes_33 ?_
        refine lv_aload_n hx hb dX7_passes_36 rfl (lv_at hl 0 rfl) ?_
        refine gt_f (v := .int (S 30 22)) M inlX7 hw 0 rfl rfl 22 (by decide) fl_X7_159 rfl rfl dX7_passes_37 ?_
        obtain ⟨a_3, h⟩ := h
        refine ld_i M hw 13 rfl a_3 dX7_passes_40 ?_
        obtain ⟨a_4, h⟩ := h
        refine st_i (P := S) (r := 2) (wN := fun S_5 => (sW z qS S_5)) M hw 3 rfl rfl a_4 dX7_passes_41 (fun S_5 H locs eS_5 hw => ?_)
        replace h := h S_5 eS_5
        exact kX7_passes_2_42 M ih S_5 x2 H locs ls hw (lv_sub hl [0, 1, 2] rfl) h
      · replace h := iF c_2 h
        refine lv_aload_n hx hb dX7_passes_15 rfl (lv_at hl 0 rfl) ?_
        refine gt_f (v := .ref (qS 20)) M inlX7 hw 0 rfl rfl 19 (by decide) fl_X7_50 rfl rfl dX7_passes_16 ?_
        refine lv_aload_n hx hb dX7_passes_19 rfl (lv_at hl 0 rfl) ?_
        refine gt_f (v := .int (S 30 22)) M inlX7 hw 0 rfl rfl 22 (by decide) fl_X7_159 rfl rfl dX7_passes_20 ?_
        refine lv_aload_n hx hb dX7_passes_23 rfl (lv_at hl 1 rfl) ?_
        refine lv_iload_n hx hb dX7_passes_24 rfl (lv_at hl 2 rfl) ?_
        obtain ⟨a_6, h⟩ := h
        refine ld_i M hw 3 rfl a_6 dX7_passes_25 ?_
        obtain ⟨a_7, h⟩ := h
        refine st_i (P := S) (r := 19) (wN := fun S_8 => (sW z qS S_8)) M hw 13 rfl rfl a_7 dX7_passes_26 (fun S_8 H locs eS_8 hw => ?_)
        replace h := h S_8 eS_8
        refine lv_goto (tgt := 42) hx hb dX7_passes_27 (by decide) ?_
        exact kX7_passes_2_42 M ih S_8 x2 H locs ls hw (lv_sub hl [0, 1, 2] rfl) h
set_option maxHeartbeats 4000000 in
set_option maxRecDepth 100000 in
theorem m_X7_passes_2 (l : Launch) (z : KT) (qS : Nat → Nat) (S : RT) (Q : RT → Prop) (h : wX7_passes_2 S Q) : CV l yX7_passes cX7_passes 3 rmX7_passes_2 z [.ref (qS 0), .ref (qS 3)] (sW z qS S) (fun u : RT => (sW z qS u)) (fun u : RT => Q u) := by
  refine CV.of rfl (Nat.le_of_ble_eq_true rfl) ?_
  intro p e s m below meth c A ls M hw hl
  have M : Mc p s m _ meth c cX7_passes 3 none RX7 z A := M
  obtain ⟨hx, hb, -, -, hown, hts, -, -, -, hN, hsr, -⟩ := id M
  have hl : lv_has ls 3 [(0, .ref (qS 0)), (1, .ref (qS 3))] := hl
  unfold wX7_passes_2 at h
  generalize s.heap = H at hw ⊢
  generalize ([] : List Loc) = locs at hw ⊢
  refine lv_iconst (v := 0) hx hb dX7_passes_0 (by decide) ?_
  refine lv_istore_n (lv' := [(2, .int (0 : Int32)), (0, .ref (qS 0)), (1, .ref (qS 3))]) hx hb dX7_passes_1 rfl hl (by decide) rfl (fun ls hl => ?_)
  obtain ⟨n0, h⟩ := h; exact kX7_passes_2_2 M n0 S (0 : Int32) H locs ls hw (lv_sub hl [1, 2, 0] rfl) h
abbrev rmX7_passes_3 : Room := { frames := 0, cells := 0, slots := 0, locals := 0 }
set_option maxHeartbeats 4000000 in
set_option maxRecDepth 100000 in
theorem kX7_passes_3_42 {p : Program} {l : Launch} {e : Env} {s : State} {m : MethodId} {args : Array Value} {below : List Frame} {meth : Method} {c : Code} {z : KT} {A : Nat → Prop} {qS : Nat → Nat} {K2 : RT → Int32 → Prop} {Q : RT → Prop} (M : Mc p s m args meth c cX7_passes 3 none RX7 z A) (hK2 : ∀ (S : RT) (x2 : Int32) (H : Heap) (locs : List Loc) (ls : Array Slot), Hw s z A (sW z qS S) H locs → lv_has ls 3 [(0, .ref (qS 0)), (1, .ref (qS 4)), (2, .int x2)] → K2 S x2 → W p l e rmX7_passes_3 s m args below meth c H locs 0 0 (MQ below (va_Qv (fun u : RT => Q u) (fun u t => cAt z A ((fun u : RT => (sW z qS u)) u) t) A) args s 0 0 A) (F0 m 2 ls [])) : ∀ (S : RT) (x2 : Int32) (H : Heap) (locs : List Loc) (ls : Array Slot), Hw s z A (sW z qS S) H locs → lv_has ls 3 [(0, .ref (qS 0)), (1, .ref (qS 4)), (2, .int x2)] → bX7_passes_3_42 K2 Q S x2 → W p l e rmX7_passes_3 s m args below meth c H locs 0 0 (MQ below (va_Qv (fun u : RT => Q u) (fun u t => cAt z A ((fun u : RT => (sW z qS u)) u) t) A) args s 0 0 A) (F0 m 42 ls []) := by
  obtain ⟨hx, hb, -, -, hown, hts, -, -, -, hN, hsr, -⟩ := id M
  intro S x2 H locs ls hw hl h
  unfold bX7_passes_3_42 at h
  refine lv_aload_n hx hb dX7_passes_42 rfl (lv_at hl 0 rfl) ?_
  refine lv_dup hx hb dX7_passes_43 rfl ?_
  refine gt_f (v := .int (S 30 22)) M inlX7 hw 0 rfl rfl 22 (by decide) fl_X7_159 rfl rfl dX7_passes_44 ?_
  refine lv_iconst (v := 1) hx hb dX7_passes_47 (by decide) ?_
  refine lv_iadd hx hb dX7_passes_48 ?_
  refine st_f (P := S) (r := 30) (j := 22) (wN := fun S_1 => (sW z qS S_1)) M inlX7 tyX7_ok nmX7 hw 0 rfl rfl 22 (by decide) fl_X7_159 rfl rfl rfl rfl rfl (Nat.le_of_ble_eq_true rfl) rfl dX7_passes_49 (fun S_1 H locs eS_1 hw => ?_)
  replace h := h S_1 eS_1
  obtain ⟨x2_2, ex2_2⟩ : ∃ y : Int32, y = (x2 + (1 : Int32)) := ⟨_, rfl⟩
  replace h := h x2_2 ex2_2
  refine lv_iinc (v := x2_2) (lv' := [(2, .int x2_2), (0, .ref (qS 0)), (1, .ref (qS 4))]) hx hb dX7_passes_52 hl (k := 2) rfl (by rw [ex2_2]; rfl) (by decide) rfl (fun ls hl => ?_)
  refine lv_goto (tgt := 2) hx hb dX7_passes_55 (by decide) ?_
  exact hK2 S_1 x2_2 H locs ls hw (lv_sub hl [1, 2, 0] rfl) h
set_option maxHeartbeats 4000000 in
set_option maxRecDepth 100000 in
theorem kX7_passes_3_2 {p : Program} {l : Launch} {e : Env} {s : State} {m : MethodId} {args : Array Value} {below : List Frame} {meth : Method} {c : Code} {z : KT} {A : Nat → Prop} {qS : Nat → Nat} {Q : RT → Prop} (M : Mc p s m args meth c cX7_passes 3 none RX7 z A) : ∀ (n : Nat) (S : RT) (x2 : Int32) (H : Heap) (locs : List Loc) (ls : Array Slot), Hw s z A (sW z qS S) H locs → lv_has ls 3 [(0, .ref (qS 0)), (1, .ref (qS 4)), (2, .int x2)] → bX7_passes_3_2 Q n S x2 → W p l e rmX7_passes_3 s m args below meth c H locs 0 0 (MQ below (va_Qv (fun u : RT => Q u) (fun u t => cAt z A ((fun u : RT => (sW z qS u)) u) t) A) args s 0 0 A) (F0 m 2 ls []) := by
  obtain ⟨hx, hb, -, -, hown, hts, -, -, -, hN, hsr, -⟩ := id M
  intro n
  induction n with
  | zero => intro S x2 H locs ls hw hl h; exact False.elim h
  | succ n ih =>
    intro S x2 H locs ls hw hl h
    rw [bX7_passes_3_2] at h
    refine lv_iload_n hx hb dX7_passes_2 rfl (lv_at hl 2 rfl) ?_
    refine lv_aload_n hx hb dX7_passes_3 rfl (lv_at hl 1 rfl) ?_
    refine al_i (v := 8) M hw 4 rfl rfl dX7_passes_4 ?_
    refine lv_icmp_ge (tgt := 58) hx hb dX7_passes_5 (by decide) (fun c_1 => ?_) (fun c_1 => ?_)
    · replace h := iT c_1 h
      exact rt_v M S hw h dX7_passes_58
    · replace h := iF c_1 h
      refine lv_aload_n hx hb dX7_passes_8 rfl (lv_at hl 0 rfl) ?_
      refine gt_f (v := .int (S 30 21)) M inlX7 hw 0 rfl rfl 21 (by decide) fl_X7_155 rfl rfl dX7_passes_9 ?_
      refine lv_if_eq (tgt := 30) hx hb dX7_passes_12 (by decide) (fun c_2 => ?_) (fun c_2 => ?_)
      · replace h := iT c_2 h
        refine lv_aload_n hx hb dX7_passes_30 rfl (lv_at hl 1 rfl) ?_
        refine lv_iload_n hx hb dX7_passes_31 rfl (lv_at hl 2 rfl) ?_
        refine lv_aload_n hx hb dX7_passes_32 rfl (lv_at hl 0 rfl) ?_
        refine gt_f (v := .ref (qS 20)) M inlX7 hw 0 rfl rfl 19 (by decide) fl_X7_50 rfl rfl dX7_passes_33 ?_
        refine lv_aload_n hx hb dX7_passes_36 rfl (lv_at hl 0 rfl) ?_
        refine gt_f (v := .int (S 30 22)) M inlX7 hw 0 rfl rfl 22 (by decide) fl_X7_159 rfl rfl dX7_passes_37 ?_
        obtain ⟨a_3, h⟩ := h
        refine ld_i M hw 13 rfl a_3 dX7_passes_40 ?_
        obtain ⟨a_4, h⟩ := h
        refine st_i (P := S) (r := 3) (wN := fun S_5 => (sW z qS S_5)) M hw 4 rfl rfl a_4 dX7_passes_41 (fun S_5 H locs eS_5 hw => ?_)
        replace h := h S_5 eS_5
        exact kX7_passes_3_42 M ih S_5 x2 H locs ls hw (lv_sub hl [0, 1, 2] rfl) h
      · replace h := iF c_2 h
        refine lv_aload_n hx hb dX7_passes_15 rfl (lv_at hl 0 rfl) ?_
        refine gt_f (v := .ref (qS 20)) M inlX7 hw 0 rfl rfl 19 (by decide) fl_X7_50 rfl rfl dX7_passes_16 ?_
        refine lv_aload_n hx hb dX7_passes_19 rfl (lv_at hl 0 rfl) ?_
        refine gt_f (v := .int (S 30 22)) M inlX7 hw 0 rfl rfl 22 (by decide) fl_X7_159 rfl rfl dX7_passes_20 ?_
        refine lv_aload_n hx hb dX7_passes_23 rfl (lv_at hl 1 rfl) ?_
        refine lv_iload_n hx hb dX7_passes_24 rfl (lv_at hl 2 rfl) ?_
        obtain ⟨a_6, h⟩ := h
        refine ld_i M hw 4 rfl a_6 dX7_passes_25 ?_
        obtain ⟨a_7, h⟩ := h
        refine st_i (P := S) (r := 19) (wN := fun S_8 => (sW z qS S_8)) M hw 13 rfl rfl a_7 dX7_passes_26 (fun S_8 H locs eS_8 hw => ?_)
        replace h := h S_8 eS_8
        refine lv_goto (tgt := 42) hx hb dX7_passes_27 (by decide) ?_
        exact kX7_passes_3_42 M ih S_8 x2 H locs ls hw (lv_sub hl [0, 1, 2] rfl) h
set_option maxHeartbeats 4000000 in
set_option maxRecDepth 100000 in
theorem m_X7_passes_3 (l : Launch) (z : KT) (qS : Nat → Nat) (S : RT) (Q : RT → Prop) (h : wX7_passes_3 S Q) : CV l yX7_passes cX7_passes 3 rmX7_passes_3 z [.ref (qS 0), .ref (qS 4)] (sW z qS S) (fun u : RT => (sW z qS u)) (fun u : RT => Q u) := by
  refine CV.of rfl (Nat.le_of_ble_eq_true rfl) ?_
  intro p e s m below meth c A ls M hw hl
  have M : Mc p s m _ meth c cX7_passes 3 none RX7 z A := M
  obtain ⟨hx, hb, -, -, hown, hts, -, -, -, hN, hsr, -⟩ := id M
  have hl : lv_has ls 3 [(0, .ref (qS 0)), (1, .ref (qS 4))] := hl
  unfold wX7_passes_3 at h
  generalize s.heap = H at hw ⊢
  generalize ([] : List Loc) = locs at hw ⊢
  refine lv_iconst (v := 0) hx hb dX7_passes_0 (by decide) ?_
  refine lv_istore_n (lv' := [(2, .int (0 : Int32)), (0, .ref (qS 0)), (1, .ref (qS 4))]) hx hb dX7_passes_1 rfl hl (by decide) rfl (fun ls hl => ?_)
  obtain ⟨n0, h⟩ := h; exact kX7_passes_3_2 M n0 S (0 : Int32) H locs ls hw (lv_sub hl [1, 2, 0] rfl) h
abbrev rmX7_passes_4 : Room := { frames := 0, cells := 0, slots := 0, locals := 0 }
set_option maxHeartbeats 4000000 in
set_option maxRecDepth 100000 in
theorem kX7_passes_4_42 {p : Program} {l : Launch} {e : Env} {s : State} {m : MethodId} {args : Array Value} {below : List Frame} {meth : Method} {c : Code} {z : KT} {A : Nat → Prop} {qS : Nat → Nat} {K2 : RT → Int32 → Prop} {Q : RT → Prop} (M : Mc p s m args meth c cX7_passes 3 none RX7 z A) (hK2 : ∀ (S : RT) (x2 : Int32) (H : Heap) (locs : List Loc) (ls : Array Slot), Hw s z A (sW z qS S) H locs → lv_has ls 3 [(0, .ref (qS 0)), (1, .ref (qS 5)), (2, .int x2)] → K2 S x2 → W p l e rmX7_passes_4 s m args below meth c H locs 0 0 (MQ below (va_Qv (fun u : RT => Q u) (fun u t => cAt z A ((fun u : RT => (sW z qS u)) u) t) A) args s 0 0 A) (F0 m 2 ls [])) : ∀ (S : RT) (x2 : Int32) (H : Heap) (locs : List Loc) (ls : Array Slot), Hw s z A (sW z qS S) H locs → lv_has ls 3 [(0, .ref (qS 0)), (1, .ref (qS 5)), (2, .int x2)] → bX7_passes_4_42 K2 Q S x2 → W p l e rmX7_passes_4 s m args below meth c H locs 0 0 (MQ below (va_Qv (fun u : RT => Q u) (fun u t => cAt z A ((fun u : RT => (sW z qS u)) u) t) A) args s 0 0 A) (F0 m 42 ls []) := by
  obtain ⟨hx, hb, -, -, hown, hts, -, -, -, hN, hsr, -⟩ := id M
  intro S x2 H locs ls hw hl h
  unfold bX7_passes_4_42 at h
  refine lv_aload_n hx hb dX7_passes_42 rfl (lv_at hl 0 rfl) ?_
  refine lv_dup hx hb dX7_passes_43 rfl ?_
  refine gt_f (v := .int (S 30 22)) M inlX7 hw 0 rfl rfl 22 (by decide) fl_X7_159 rfl rfl dX7_passes_44 ?_
  refine lv_iconst (v := 1) hx hb dX7_passes_47 (by decide) ?_
  refine lv_iadd hx hb dX7_passes_48 ?_
  refine st_f (P := S) (r := 30) (j := 22) (wN := fun S_1 => (sW z qS S_1)) M inlX7 tyX7_ok nmX7 hw 0 rfl rfl 22 (by decide) fl_X7_159 rfl rfl rfl rfl rfl (Nat.le_of_ble_eq_true rfl) rfl dX7_passes_49 (fun S_1 H locs eS_1 hw => ?_)
  replace h := h S_1 eS_1
  obtain ⟨x2_2, ex2_2⟩ : ∃ y : Int32, y = (x2 + (1 : Int32)) := ⟨_, rfl⟩
  replace h := h x2_2 ex2_2
  refine lv_iinc (v := x2_2) (lv' := [(2, .int x2_2), (0, .ref (qS 0)), (1, .ref (qS 5))]) hx hb dX7_passes_52 hl (k := 2) rfl (by rw [ex2_2]; rfl) (by decide) rfl (fun ls hl => ?_)
  refine lv_goto (tgt := 2) hx hb dX7_passes_55 (by decide) ?_
  exact hK2 S_1 x2_2 H locs ls hw (lv_sub hl [1, 2, 0] rfl) h
set_option maxHeartbeats 4000000 in
set_option maxRecDepth 100000 in
theorem kX7_passes_4_2 {p : Program} {l : Launch} {e : Env} {s : State} {m : MethodId} {args : Array Value} {below : List Frame} {meth : Method} {c : Code} {z : KT} {A : Nat → Prop} {qS : Nat → Nat} {Q : RT → Prop} (M : Mc p s m args meth c cX7_passes 3 none RX7 z A) : ∀ (n : Nat) (S : RT) (x2 : Int32) (H : Heap) (locs : List Loc) (ls : Array Slot), Hw s z A (sW z qS S) H locs → lv_has ls 3 [(0, .ref (qS 0)), (1, .ref (qS 5)), (2, .int x2)] → bX7_passes_4_2 Q n S x2 → W p l e rmX7_passes_4 s m args below meth c H locs 0 0 (MQ below (va_Qv (fun u : RT => Q u) (fun u t => cAt z A ((fun u : RT => (sW z qS u)) u) t) A) args s 0 0 A) (F0 m 2 ls []) := by
  obtain ⟨hx, hb, -, -, hown, hts, -, -, -, hN, hsr, -⟩ := id M
  intro n
  induction n with
  | zero => intro S x2 H locs ls hw hl h; exact False.elim h
  | succ n ih =>
    intro S x2 H locs ls hw hl h
    rw [bX7_passes_4_2] at h
    refine lv_iload_n hx hb dX7_passes_2 rfl (lv_at hl 2 rfl) ?_
    refine lv_aload_n hx hb dX7_passes_3 rfl (lv_at hl 1 rfl) ?_
    refine al_i (v := 8) M hw 5 rfl rfl dX7_passes_4 ?_
    refine lv_icmp_ge (tgt := 58) hx hb dX7_passes_5 (by decide) (fun c_1 => ?_) (fun c_1 => ?_)
    · replace h := iT c_1 h
      exact rt_v M S hw h dX7_passes_58
    · replace h := iF c_1 h
      refine lv_aload_n hx hb dX7_passes_8 rfl (lv_at hl 0 rfl) ?_
      refine gt_f (v := .int (S 30 21)) M inlX7 hw 0 rfl rfl 21 (by decide) fl_X7_155 rfl rfl dX7_passes_9 ?_
      refine lv_if_eq (tgt := 30) hx hb dX7_passes_12 (by decide) (fun c_2 => ?_) (fun c_2 => ?_)
      · replace h := iT c_2 h
        refine lv_aload_n hx hb dX7_passes_30 rfl (lv_at hl 1 rfl) ?_
        refine lv_iload_n hx hb dX7_passes_31 rfl (lv_at hl 2 rfl) ?_
        refine lv_aload_n hx hb dX7_passes_32 rfl (lv_at hl 0 rfl) ?_
        refine gt_f (v := .ref (qS 20)) M inlX7 hw 0 rfl rfl 19 (by decide) fl_X7_50 rfl rfl dX7_passes_33 ?_
        refine lv_aload_n hx hb dX7_passes_36 rfl (lv_at hl 0 rfl) ?_
        refine gt_f (v := .int (S 30 22)) M inlX7 hw 0 rfl rfl 22 (by decide) fl_X7_159 rfl rfl dX7_passes_37 ?_
        obtain ⟨a_3, h⟩ := h
        refine ld_i M hw 13 rfl a_3 dX7_passes_40 ?_
        obtain ⟨a_4, h⟩ := h
        refine st_i (P := S) (r := 4) (wN := fun S_5 => (sW z qS S_5)) M hw 5 rfl rfl a_4 dX7_passes_41 (fun S_5 H locs eS_5 hw => ?_)
        replace h := h S_5 eS_5
        exact kX7_passes_4_42 M ih S_5 x2 H locs ls hw (lv_sub hl [0, 1, 2] rfl) h
      · replace h := iF c_2 h
        refine lv_aload_n hx hb dX7_passes_15 rfl (lv_at hl 0 rfl) ?_
        refine gt_f (v := .ref (qS 20)) M inlX7 hw 0 rfl rfl 19 (by decide) fl_X7_50 rfl rfl dX7_passes_16 ?_
        refine lv_aload_n hx hb dX7_passes_19 rfl (lv_at hl 0 rfl) ?_
        refine gt_f (v := .int (S 30 22)) M inlX7 hw 0 rfl rfl 22 (by decide) fl_X7_159 rfl rfl dX7_passes_20 ?_
        refine lv_aload_n hx hb dX7_passes_23 rfl (lv_at hl 1 rfl) ?_
        refine lv_iload_n hx hb dX7_passes_24 rfl (lv_at hl 2 rfl) ?_
        obtain ⟨a_6, h⟩ := h
        refine ld_i M hw 5 rfl a_6 dX7_passes_25 ?_
        obtain ⟨a_7, h⟩ := h
        refine st_i (P := S) (r := 19) (wN := fun S_8 => (sW z qS S_8)) M hw 13 rfl rfl a_7 dX7_passes_26 (fun S_8 H locs eS_8 hw => ?_)
        replace h := h S_8 eS_8
        refine lv_goto (tgt := 42) hx hb dX7_passes_27 (by decide) ?_
        exact kX7_passes_4_42 M ih S_8 x2 H locs ls hw (lv_sub hl [0, 1, 2] rfl) h
set_option maxHeartbeats 4000000 in
set_option maxRecDepth 100000 in
theorem m_X7_passes_4 (l : Launch) (z : KT) (qS : Nat → Nat) (S : RT) (Q : RT → Prop) (h : wX7_passes_4 S Q) : CV l yX7_passes cX7_passes 3 rmX7_passes_4 z [.ref (qS 0), .ref (qS 5)] (sW z qS S) (fun u : RT => (sW z qS u)) (fun u : RT => Q u) := by
  refine CV.of rfl (Nat.le_of_ble_eq_true rfl) ?_
  intro p e s m below meth c A ls M hw hl
  have M : Mc p s m _ meth c cX7_passes 3 none RX7 z A := M
  obtain ⟨hx, hb, -, -, hown, hts, -, -, -, hN, hsr, -⟩ := id M
  have hl : lv_has ls 3 [(0, .ref (qS 0)), (1, .ref (qS 5))] := hl
  unfold wX7_passes_4 at h
  generalize s.heap = H at hw ⊢
  generalize ([] : List Loc) = locs at hw ⊢
  refine lv_iconst (v := 0) hx hb dX7_passes_0 (by decide) ?_
  refine lv_istore_n (lv' := [(2, .int (0 : Int32)), (0, .ref (qS 0)), (1, .ref (qS 5))]) hx hb dX7_passes_1 rfl hl (by decide) rfl (fun ls hl => ?_)
  obtain ⟨n0, h⟩ := h; exact kX7_passes_4_2 M n0 S (0 : Int32) H locs ls hw (lv_sub hl [1, 2, 0] rfl) h
abbrev rmX7_passes_5 : Room := { frames := 0, cells := 0, slots := 0, locals := 0 }
set_option maxHeartbeats 4000000 in
set_option maxRecDepth 100000 in
theorem kX7_passes_5_42 {p : Program} {l : Launch} {e : Env} {s : State} {m : MethodId} {args : Array Value} {below : List Frame} {meth : Method} {c : Code} {z : KT} {A : Nat → Prop} {qS : Nat → Nat} {K2 : RT → Int32 → Prop} {Q : RT → Prop} (M : Mc p s m args meth c cX7_passes 3 none RX7 z A) (hK2 : ∀ (S : RT) (x2 : Int32) (H : Heap) (locs : List Loc) (ls : Array Slot), Hw s z A (sW z qS S) H locs → lv_has ls 3 [(0, .ref (qS 0)), (1, .ref (qS 6)), (2, .int x2)] → K2 S x2 → W p l e rmX7_passes_5 s m args below meth c H locs 0 0 (MQ below (va_Qv (fun u : RT => Q u) (fun u t => cAt z A ((fun u : RT => (sW z qS u)) u) t) A) args s 0 0 A) (F0 m 2 ls [])) : ∀ (S : RT) (x2 : Int32) (H : Heap) (locs : List Loc) (ls : Array Slot), Hw s z A (sW z qS S) H locs → lv_has ls 3 [(0, .ref (qS 0)), (1, .ref (qS 6)), (2, .int x2)] → bX7_passes_5_42 K2 Q S x2 → W p l e rmX7_passes_5 s m args below meth c H locs 0 0 (MQ below (va_Qv (fun u : RT => Q u) (fun u t => cAt z A ((fun u : RT => (sW z qS u)) u) t) A) args s 0 0 A) (F0 m 42 ls []) := by
  obtain ⟨hx, hb, -, -, hown, hts, -, -, -, hN, hsr, -⟩ := id M
  intro S x2 H locs ls hw hl h
  unfold bX7_passes_5_42 at h
  refine lv_aload_n hx hb dX7_passes_42 rfl (lv_at hl 0 rfl) ?_
  refine lv_dup hx hb dX7_passes_43 rfl ?_
  refine gt_f (v := .int (S 30 22)) M inlX7 hw 0 rfl rfl 22 (by decide) fl_X7_159 rfl rfl dX7_passes_44 ?_
  refine lv_iconst (v := 1) hx hb dX7_passes_47 (by decide) ?_
  refine lv_iadd hx hb dX7_passes_48 ?_
  refine st_f (P := S) (r := 30) (j := 22) (wN := fun S_1 => (sW z qS S_1)) M inlX7 tyX7_ok nmX7 hw 0 rfl rfl 22 (by decide) fl_X7_159 rfl rfl rfl rfl rfl (Nat.le_of_ble_eq_true rfl) rfl dX7_passes_49 (fun S_1 H locs eS_1 hw => ?_)
  replace h := h S_1 eS_1
  obtain ⟨x2_2, ex2_2⟩ : ∃ y : Int32, y = (x2 + (1 : Int32)) := ⟨_, rfl⟩
  replace h := h x2_2 ex2_2
  refine lv_iinc (v := x2_2) (lv' := [(2, .int x2_2), (0, .ref (qS 0)), (1, .ref (qS 6))]) hx hb dX7_passes_52 hl (k := 2) rfl (by rw [ex2_2]; rfl) (by decide) rfl (fun ls hl => ?_)
  refine lv_goto (tgt := 2) hx hb dX7_passes_55 (by decide) ?_
  exact hK2 S_1 x2_2 H locs ls hw (lv_sub hl [1, 2, 0] rfl) h
set_option maxHeartbeats 4000000 in
set_option maxRecDepth 100000 in
theorem kX7_passes_5_2 {p : Program} {l : Launch} {e : Env} {s : State} {m : MethodId} {args : Array Value} {below : List Frame} {meth : Method} {c : Code} {z : KT} {A : Nat → Prop} {qS : Nat → Nat} {Q : RT → Prop} (M : Mc p s m args meth c cX7_passes 3 none RX7 z A) : ∀ (n : Nat) (S : RT) (x2 : Int32) (H : Heap) (locs : List Loc) (ls : Array Slot), Hw s z A (sW z qS S) H locs → lv_has ls 3 [(0, .ref (qS 0)), (1, .ref (qS 6)), (2, .int x2)] → bX7_passes_5_2 Q n S x2 → W p l e rmX7_passes_5 s m args below meth c H locs 0 0 (MQ below (va_Qv (fun u : RT => Q u) (fun u t => cAt z A ((fun u : RT => (sW z qS u)) u) t) A) args s 0 0 A) (F0 m 2 ls []) := by
  obtain ⟨hx, hb, -, -, hown, hts, -, -, -, hN, hsr, -⟩ := id M
  intro n
  induction n with
  | zero => intro S x2 H locs ls hw hl h; exact False.elim h
  | succ n ih =>
    intro S x2 H locs ls hw hl h
    rw [bX7_passes_5_2] at h
    refine lv_iload_n hx hb dX7_passes_2 rfl (lv_at hl 2 rfl) ?_
    refine lv_aload_n hx hb dX7_passes_3 rfl (lv_at hl 1 rfl) ?_
    refine al_i (v := 8) M hw 6 rfl rfl dX7_passes_4 ?_
    refine lv_icmp_ge (tgt := 58) hx hb dX7_passes_5 (by decide) (fun c_1 => ?_) (fun c_1 => ?_)
    · replace h := iT c_1 h
      exact rt_v M S hw h dX7_passes_58
    · replace h := iF c_1 h
      refine lv_aload_n hx hb dX7_passes_8 rfl (lv_at hl 0 rfl) ?_
      refine gt_f (v := .int (S 30 21)) M inlX7 hw 0 rfl rfl 21 (by decide) fl_X7_155 rfl rfl dX7_passes_9 ?_
      refine lv_if_eq (tgt := 30) hx hb dX7_passes_12 (by decide) (fun c_2 => ?_) (fun c_2 => ?_)
      · replace h := iT c_2 h
        refine lv_aload_n hx hb dX7_passes_30 rfl (lv_at hl 1 rfl) ?_
        refine lv_iload_n hx hb dX7_passes_31 rfl (lv_at hl 2 rfl) ?_
        refine lv_aload_n hx hb dX7_passes_32 rfl (lv_at hl 0 rfl) ?_
        refine gt_f (v := .ref (qS 20)) M inlX7 hw 0 rfl rfl 19 (by decide) fl_X7_50 rfl rfl dX7_passes_33 ?_
        refine lv_aload_n hx hb dX7_passes_36 rfl (lv_at hl 0 rfl) ?_
        refine gt_f (v := .int (S 30 22)) M inlX7 hw 0 rfl rfl 22 (by decide) fl_X7_159 rfl rfl dX7_passes_37 ?_
        obtain ⟨a_3, h⟩ := h
        refine ld_i M hw 13 rfl a_3 dX7_passes_40 ?_
        obtain ⟨a_4, h⟩ := h
        refine st_i (P := S) (r := 5) (wN := fun S_5 => (sW z qS S_5)) M hw 6 rfl rfl a_4 dX7_passes_41 (fun S_5 H locs eS_5 hw => ?_)
        replace h := h S_5 eS_5
        exact kX7_passes_5_42 M ih S_5 x2 H locs ls hw (lv_sub hl [0, 1, 2] rfl) h
      · replace h := iF c_2 h
        refine lv_aload_n hx hb dX7_passes_15 rfl (lv_at hl 0 rfl) ?_
        refine gt_f (v := .ref (qS 20)) M inlX7 hw 0 rfl rfl 19 (by decide) fl_X7_50 rfl rfl dX7_passes_16 ?_
        refine lv_aload_n hx hb dX7_passes_19 rfl (lv_at hl 0 rfl) ?_
        refine gt_f (v := .int (S 30 22)) M inlX7 hw 0 rfl rfl 22 (by decide) fl_X7_159 rfl rfl dX7_passes_20 ?_
        refine lv_aload_n hx hb dX7_passes_23 rfl (lv_at hl 1 rfl) ?_
        refine lv_iload_n hx hb dX7_passes_24 rfl (lv_at hl 2 rfl) ?_
        obtain ⟨a_6, h⟩ := h
        refine ld_i M hw 6 rfl a_6 dX7_passes_25 ?_
        obtain ⟨a_7, h⟩ := h
        refine st_i (P := S) (r := 19) (wN := fun S_8 => (sW z qS S_8)) M hw 13 rfl rfl a_7 dX7_passes_26 (fun S_8 H locs eS_8 hw => ?_)
        replace h := h S_8 eS_8
        refine lv_goto (tgt := 42) hx hb dX7_passes_27 (by decide) ?_
        exact kX7_passes_5_42 M ih S_8 x2 H locs ls hw (lv_sub hl [0, 1, 2] rfl) h
set_option maxHeartbeats 4000000 in
set_option maxRecDepth 100000 in
theorem m_X7_passes_5 (l : Launch) (z : KT) (qS : Nat → Nat) (S : RT) (Q : RT → Prop) (h : wX7_passes_5 S Q) : CV l yX7_passes cX7_passes 3 rmX7_passes_5 z [.ref (qS 0), .ref (qS 6)] (sW z qS S) (fun u : RT => (sW z qS u)) (fun u : RT => Q u) := by
  refine CV.of rfl (Nat.le_of_ble_eq_true rfl) ?_
  intro p e s m below meth c A ls M hw hl
  have M : Mc p s m _ meth c cX7_passes 3 none RX7 z A := M
  obtain ⟨hx, hb, -, -, hown, hts, -, -, -, hN, hsr, -⟩ := id M
  have hl : lv_has ls 3 [(0, .ref (qS 0)), (1, .ref (qS 6))] := hl
  unfold wX7_passes_5 at h
  generalize s.heap = H at hw ⊢
  generalize ([] : List Loc) = locs at hw ⊢
  refine lv_iconst (v := 0) hx hb dX7_passes_0 (by decide) ?_
  refine lv_istore_n (lv' := [(2, .int (0 : Int32)), (0, .ref (qS 0)), (1, .ref (qS 6))]) hx hb dX7_passes_1 rfl hl (by decide) rfl (fun ls hl => ?_)
  obtain ⟨n0, h⟩ := h; exact kX7_passes_5_2 M n0 S (0 : Int32) H locs ls hw (lv_sub hl [1, 2, 0] rfl) h
abbrev rmX7_passes_6 : Room := { frames := 0, cells := 0, slots := 0, locals := 0 }
set_option maxHeartbeats 4000000 in
set_option maxRecDepth 100000 in
theorem kX7_passes_6_42 {p : Program} {l : Launch} {e : Env} {s : State} {m : MethodId} {args : Array Value} {below : List Frame} {meth : Method} {c : Code} {z : KT} {A : Nat → Prop} {qS : Nat → Nat} {K2 : RT → Int32 → Prop} {Q : RT → Prop} (M : Mc p s m args meth c cX7_passes 3 none RX7 z A) (hK2 : ∀ (S : RT) (x2 : Int32) (H : Heap) (locs : List Loc) (ls : Array Slot), Hw s z A (sW z qS S) H locs → lv_has ls 3 [(0, .ref (qS 0)), (1, .ref (qS 7)), (2, .int x2)] → K2 S x2 → W p l e rmX7_passes_6 s m args below meth c H locs 0 0 (MQ below (va_Qv (fun u : RT => Q u) (fun u t => cAt z A ((fun u : RT => (sW z qS u)) u) t) A) args s 0 0 A) (F0 m 2 ls [])) : ∀ (S : RT) (x2 : Int32) (H : Heap) (locs : List Loc) (ls : Array Slot), Hw s z A (sW z qS S) H locs → lv_has ls 3 [(0, .ref (qS 0)), (1, .ref (qS 7)), (2, .int x2)] → bX7_passes_6_42 K2 Q S x2 → W p l e rmX7_passes_6 s m args below meth c H locs 0 0 (MQ below (va_Qv (fun u : RT => Q u) (fun u t => cAt z A ((fun u : RT => (sW z qS u)) u) t) A) args s 0 0 A) (F0 m 42 ls []) := by
  obtain ⟨hx, hb, -, -, hown, hts, -, -, -, hN, hsr, -⟩ := id M
  intro S x2 H locs ls hw hl h
  unfold bX7_passes_6_42 at h
  refine lv_aload_n hx hb dX7_passes_42 rfl (lv_at hl 0 rfl) ?_
  refine lv_dup hx hb dX7_passes_43 rfl ?_
  refine gt_f (v := .int (S 30 22)) M inlX7 hw 0 rfl rfl 22 (by decide) fl_X7_159 rfl rfl dX7_passes_44 ?_
  refine lv_iconst (v := 1) hx hb dX7_passes_47 (by decide) ?_
  refine lv_iadd hx hb dX7_passes_48 ?_
  refine st_f (P := S) (r := 30) (j := 22) (wN := fun S_1 => (sW z qS S_1)) M inlX7 tyX7_ok nmX7 hw 0 rfl rfl 22 (by decide) fl_X7_159 rfl rfl rfl rfl rfl (Nat.le_of_ble_eq_true rfl) rfl dX7_passes_49 (fun S_1 H locs eS_1 hw => ?_)
  replace h := h S_1 eS_1
  obtain ⟨x2_2, ex2_2⟩ : ∃ y : Int32, y = (x2 + (1 : Int32)) := ⟨_, rfl⟩
  replace h := h x2_2 ex2_2
  refine lv_iinc (v := x2_2) (lv' := [(2, .int x2_2), (0, .ref (qS 0)), (1, .ref (qS 7))]) hx hb dX7_passes_52 hl (k := 2) rfl (by rw [ex2_2]; rfl) (by decide) rfl (fun ls hl => ?_)
  refine lv_goto (tgt := 2) hx hb dX7_passes_55 (by decide) ?_
  exact hK2 S_1 x2_2 H locs ls hw (lv_sub hl [1, 2, 0] rfl) h
set_option maxHeartbeats 4000000 in
set_option maxRecDepth 100000 in
theorem kX7_passes_6_2 {p : Program} {l : Launch} {e : Env} {s : State} {m : MethodId} {args : Array Value} {below : List Frame} {meth : Method} {c : Code} {z : KT} {A : Nat → Prop} {qS : Nat → Nat} {Q : RT → Prop} (M : Mc p s m args meth c cX7_passes 3 none RX7 z A) : ∀ (n : Nat) (S : RT) (x2 : Int32) (H : Heap) (locs : List Loc) (ls : Array Slot), Hw s z A (sW z qS S) H locs → lv_has ls 3 [(0, .ref (qS 0)), (1, .ref (qS 7)), (2, .int x2)] → bX7_passes_6_2 Q n S x2 → W p l e rmX7_passes_6 s m args below meth c H locs 0 0 (MQ below (va_Qv (fun u : RT => Q u) (fun u t => cAt z A ((fun u : RT => (sW z qS u)) u) t) A) args s 0 0 A) (F0 m 2 ls []) := by
  obtain ⟨hx, hb, -, -, hown, hts, -, -, -, hN, hsr, -⟩ := id M
  intro n
  induction n with
  | zero => intro S x2 H locs ls hw hl h; exact False.elim h
  | succ n ih =>
    intro S x2 H locs ls hw hl h
    rw [bX7_passes_6_2] at h
    refine lv_iload_n hx hb dX7_passes_2 rfl (lv_at hl 2 rfl) ?_
    refine lv_aload_n hx hb dX7_passes_3 rfl (lv_at hl 1 rfl) ?_
    refine al_i (v := 6) M hw 7 rfl rfl dX7_passes_4 ?_
    refine lv_icmp_ge (tgt := 58) hx hb dX7_passes_5 (by decide) (fun c_1 => ?_) (fun c_1 => ?_)
    · replace h := iT c_1 h
      exact rt_v M S hw h dX7_passes_58
    · replace h := iF c_1 h
      refine lv_aload_n hx hb dX7_passes_8 rfl (lv_at hl 0 rfl) ?_
      refine gt_f (v := .int (S 30 21)) M inlX7 hw 0 rfl rfl 21 (by decide) fl_X7_155 rfl rfl dX7_passes_9 ?_
      refine lv_if_eq (tgt := 30) hx hb dX7_passes_12 (by decide) (fun c_2 => ?_) (fun c_2 => ?_)
      · replace h := iT c_2 h
        refine lv_aload_n hx hb dX7_passes_30 rfl (lv_at hl 1 rfl) ?_
        refine lv_iload_n hx hb dX7_passes_31 rfl (lv_at hl 2 rfl) ?_
        refine lv_aload_n hx hb dX7_passes_32 rfl (lv_at hl 0 rfl) ?_
        refine gt_f (v := .ref (qS 20)) M inlX7 hw 0 rfl rfl 19 (by decide) fl_X7_50 rfl rfl dX7_passes_33 ?_
        refine lv_aload_n hx hb dX7_passes_36 rfl (lv_at hl 0 rfl) ?_
        refine gt_f (v := .int (S 30 22)) M inlX7 hw 0 rfl rfl 22 (by decide) fl_X7_159 rfl rfl dX7_passes_37 ?_
        obtain ⟨a_3, h⟩ := h
        refine ld_i M hw 13 rfl a_3 dX7_passes_40 ?_
        obtain ⟨a_4, h⟩ := h
        refine st_i (P := S) (r := 6) (wN := fun S_5 => (sW z qS S_5)) M hw 7 rfl rfl a_4 dX7_passes_41 (fun S_5 H locs eS_5 hw => ?_)
        replace h := h S_5 eS_5
        exact kX7_passes_6_42 M ih S_5 x2 H locs ls hw (lv_sub hl [0, 1, 2] rfl) h
      · replace h := iF c_2 h
        refine lv_aload_n hx hb dX7_passes_15 rfl (lv_at hl 0 rfl) ?_
        refine gt_f (v := .ref (qS 20)) M inlX7 hw 0 rfl rfl 19 (by decide) fl_X7_50 rfl rfl dX7_passes_16 ?_
        refine lv_aload_n hx hb dX7_passes_19 rfl (lv_at hl 0 rfl) ?_
        refine gt_f (v := .int (S 30 22)) M inlX7 hw 0 rfl rfl 22 (by decide) fl_X7_159 rfl rfl dX7_passes_20 ?_
        refine lv_aload_n hx hb dX7_passes_23 rfl (lv_at hl 1 rfl) ?_
        refine lv_iload_n hx hb dX7_passes_24 rfl (lv_at hl 2 rfl) ?_
        obtain ⟨a_6, h⟩ := h
        refine ld_i M hw 7 rfl a_6 dX7_passes_25 ?_
        obtain ⟨a_7, h⟩ := h
        refine st_i (P := S) (r := 19) (wN := fun S_8 => (sW z qS S_8)) M hw 13 rfl rfl a_7 dX7_passes_26 (fun S_8 H locs eS_8 hw => ?_)
        replace h := h S_8 eS_8
        refine lv_goto (tgt := 42) hx hb dX7_passes_27 (by decide) ?_
        exact kX7_passes_6_42 M ih S_8 x2 H locs ls hw (lv_sub hl [0, 1, 2] rfl) h
set_option maxHeartbeats 4000000 in
set_option maxRecDepth 100000 in
theorem m_X7_passes_6 (l : Launch) (z : KT) (qS : Nat → Nat) (S : RT) (Q : RT → Prop) (h : wX7_passes_6 S Q) : CV l yX7_passes cX7_passes 3 rmX7_passes_6 z [.ref (qS 0), .ref (qS 7)] (sW z qS S) (fun u : RT => (sW z qS u)) (fun u : RT => Q u) := by
  refine CV.of rfl (Nat.le_of_ble_eq_true rfl) ?_
  intro p e s m below meth c A ls M hw hl
  have M : Mc p s m _ meth c cX7_passes 3 none RX7 z A := M
  obtain ⟨hx, hb, -, -, hown, hts, -, -, -, hN, hsr, -⟩ := id M
  have hl : lv_has ls 3 [(0, .ref (qS 0)), (1, .ref (qS 7))] := hl
  unfold wX7_passes_6 at h
  generalize s.heap = H at hw ⊢
  generalize ([] : List Loc) = locs at hw ⊢
  refine lv_iconst (v := 0) hx hb dX7_passes_0 (by decide) ?_
  refine lv_istore_n (lv' := [(2, .int (0 : Int32)), (0, .ref (qS 0)), (1, .ref (qS 7))]) hx hb dX7_passes_1 rfl hl (by decide) rfl (fun ls hl => ?_)
  obtain ⟨n0, h⟩ := h; exact kX7_passes_6_2 M n0 S (0 : Int32) H locs ls hw (lv_sub hl [1, 2, 0] rfl) h
abbrev rmX7_passes_7 : Room := { frames := 0, cells := 0, slots := 0, locals := 0 }
set_option maxHeartbeats 4000000 in
set_option maxRecDepth 100000 in
theorem kX7_passes_7_42 {p : Program} {l : Launch} {e : Env} {s : State} {m : MethodId} {args : Array Value} {below : List Frame} {meth : Method} {c : Code} {z : KT} {A : Nat → Prop} {qS : Nat → Nat} {K2 : RT → Int32 → Prop} {Q : RT → Prop} (M : Mc p s m args meth c cX7_passes 3 none RX7 z A) (hK2 : ∀ (S : RT) (x2 : Int32) (H : Heap) (locs : List Loc) (ls : Array Slot), Hw s z A (sW z qS S) H locs → lv_has ls 3 [(0, .ref (qS 0)), (1, .ref (qS 8)), (2, .int x2)] → K2 S x2 → W p l e rmX7_passes_7 s m args below meth c H locs 0 0 (MQ below (va_Qv (fun u : RT => Q u) (fun u t => cAt z A ((fun u : RT => (sW z qS u)) u) t) A) args s 0 0 A) (F0 m 2 ls [])) : ∀ (S : RT) (x2 : Int32) (H : Heap) (locs : List Loc) (ls : Array Slot), Hw s z A (sW z qS S) H locs → lv_has ls 3 [(0, .ref (qS 0)), (1, .ref (qS 8)), (2, .int x2)] → bX7_passes_7_42 K2 Q S x2 → W p l e rmX7_passes_7 s m args below meth c H locs 0 0 (MQ below (va_Qv (fun u : RT => Q u) (fun u t => cAt z A ((fun u : RT => (sW z qS u)) u) t) A) args s 0 0 A) (F0 m 42 ls []) := by
  obtain ⟨hx, hb, -, -, hown, hts, -, -, -, hN, hsr, -⟩ := id M
  intro S x2 H locs ls hw hl h
  unfold bX7_passes_7_42 at h
  refine lv_aload_n hx hb dX7_passes_42 rfl (lv_at hl 0 rfl) ?_
  refine lv_dup hx hb dX7_passes_43 rfl ?_
  refine gt_f (v := .int (S 30 22)) M inlX7 hw 0 rfl rfl 22 (by decide) fl_X7_159 rfl rfl dX7_passes_44 ?_
  refine lv_iconst (v := 1) hx hb dX7_passes_47 (by decide) ?_
  refine lv_iadd hx hb dX7_passes_48 ?_
  refine st_f (P := S) (r := 30) (j := 22) (wN := fun S_1 => (sW z qS S_1)) M inlX7 tyX7_ok nmX7 hw 0 rfl rfl 22 (by decide) fl_X7_159 rfl rfl rfl rfl rfl (Nat.le_of_ble_eq_true rfl) rfl dX7_passes_49 (fun S_1 H locs eS_1 hw => ?_)
  replace h := h S_1 eS_1
  obtain ⟨x2_2, ex2_2⟩ : ∃ y : Int32, y = (x2 + (1 : Int32)) := ⟨_, rfl⟩
  replace h := h x2_2 ex2_2
  refine lv_iinc (v := x2_2) (lv' := [(2, .int x2_2), (0, .ref (qS 0)), (1, .ref (qS 8))]) hx hb dX7_passes_52 hl (k := 2) rfl (by rw [ex2_2]; rfl) (by decide) rfl (fun ls hl => ?_)
  refine lv_goto (tgt := 2) hx hb dX7_passes_55 (by decide) ?_
  exact hK2 S_1 x2_2 H locs ls hw (lv_sub hl [1, 2, 0] rfl) h
set_option maxHeartbeats 4000000 in
set_option maxRecDepth 100000 in
theorem kX7_passes_7_2 {p : Program} {l : Launch} {e : Env} {s : State} {m : MethodId} {args : Array Value} {below : List Frame} {meth : Method} {c : Code} {z : KT} {A : Nat → Prop} {qS : Nat → Nat} {Q : RT → Prop} (M : Mc p s m args meth c cX7_passes 3 none RX7 z A) : ∀ (n : Nat) (S : RT) (x2 : Int32) (H : Heap) (locs : List Loc) (ls : Array Slot), Hw s z A (sW z qS S) H locs → lv_has ls 3 [(0, .ref (qS 0)), (1, .ref (qS 8)), (2, .int x2)] → bX7_passes_7_2 Q n S x2 → W p l e rmX7_passes_7 s m args below meth c H locs 0 0 (MQ below (va_Qv (fun u : RT => Q u) (fun u t => cAt z A ((fun u : RT => (sW z qS u)) u) t) A) args s 0 0 A) (F0 m 2 ls []) := by
  obtain ⟨hx, hb, -, -, hown, hts, -, -, -, hN, hsr, -⟩ := id M
  intro n
  induction n with
  | zero => intro S x2 H locs ls hw hl h; exact False.elim h
  | succ n ih =>
    intro S x2 H locs ls hw hl h
    rw [bX7_passes_7_2] at h
    refine lv_iload_n hx hb dX7_passes_2 rfl (lv_at hl 2 rfl) ?_
    refine lv_aload_n hx hb dX7_passes_3 rfl (lv_at hl 1 rfl) ?_
    refine al_i (v := 6) M hw 8 rfl rfl dX7_passes_4 ?_
    refine lv_icmp_ge (tgt := 58) hx hb dX7_passes_5 (by decide) (fun c_1 => ?_) (fun c_1 => ?_)
    · replace h := iT c_1 h
      exact rt_v M S hw h dX7_passes_58
    · replace h := iF c_1 h
      refine lv_aload_n hx hb dX7_passes_8 rfl (lv_at hl 0 rfl) ?_
      refine gt_f (v := .int (S 30 21)) M inlX7 hw 0 rfl rfl 21 (by decide) fl_X7_155 rfl rfl dX7_passes_9 ?_
      refine lv_if_eq (tgt := 30) hx hb dX7_passes_12 (by decide) (fun c_2 => ?_) (fun c_2 => ?_)
      · replace h := iT c_2 h
        refine lv_aload_n hx hb dX7_passes_30 rfl (lv_at hl 1 rfl) ?_
        refine lv_iload_n hx hb dX7_passes_31 rfl (lv_at hl 2 rfl) ?_
        refine lv_aload_n hx hb dX7_passes_32 rfl (lv_at hl 0 rfl) ?_
        refine gt_f (v := .ref (qS 20)) M inlX7 hw 0 rfl rfl 19 (by decide) fl_X7_50 rfl rfl dX7_passes_33 ?_
        refine lv_aload_n hx hb dX7_passes_36 rfl (lv_at hl 0 rfl) ?_
        refine gt_f (v := .int (S 30 22)) M inlX7 hw 0 rfl rfl 22 (by decide) fl_X7_159 rfl rfl dX7_passes_37 ?_
        obtain ⟨a_3, h⟩ := h
        refine ld_i M hw 13 rfl a_3 dX7_passes_40 ?_
        obtain ⟨a_4, h⟩ := h
        refine st_i (P := S) (r := 7) (wN := fun S_5 => (sW z qS S_5)) M hw 8 rfl rfl a_4 dX7_passes_41 (fun S_5 H locs eS_5 hw => ?_)
        replace h := h S_5 eS_5
        exact kX7_passes_7_42 M ih S_5 x2 H locs ls hw (lv_sub hl [0, 1, 2] rfl) h
      · replace h := iF c_2 h
        refine lv_aload_n hx hb dX7_passes_15 rfl (lv_at hl 0 rfl) ?_
        refine gt_f (v := .ref (qS 20)) M inlX7 hw 0 rfl rfl 19 (by decide) fl_X7_50 rfl rfl dX7_passes_16 ?_
        refine lv_aload_n hx hb dX7_passes_19 rfl (lv_at hl 0 rfl) ?_
        refine gt_f (v := .int (S 30 22)) M inlX7 hw 0 rfl rfl 22 (by decide) fl_X7_159 rfl rfl dX7_passes_20 ?_
        refine lv_aload_n hx hb dX7_passes_23 rfl (lv_at hl 1 rfl) ?_
        refine lv_iload_n hx hb dX7_passes_24 rfl (lv_at hl 2 rfl) ?_
        obtain ⟨a_6, h⟩ := h
        refine ld_i M hw 8 rfl a_6 dX7_passes_25 ?_
        obtain ⟨a_7, h⟩ := h
        refine st_i (P := S) (r := 19) (wN := fun S_8 => (sW z qS S_8)) M hw 13 rfl rfl a_7 dX7_passes_26 (fun S_8 H locs eS_8 hw => ?_)
        replace h := h S_8 eS_8
        refine lv_goto (tgt := 42) hx hb dX7_passes_27 (by decide) ?_
        exact kX7_passes_7_42 M ih S_8 x2 H locs ls hw (lv_sub hl [0, 1, 2] rfl) h
set_option maxHeartbeats 4000000 in
set_option maxRecDepth 100000 in
theorem m_X7_passes_7 (l : Launch) (z : KT) (qS : Nat → Nat) (S : RT) (Q : RT → Prop) (h : wX7_passes_7 S Q) : CV l yX7_passes cX7_passes 3 rmX7_passes_7 z [.ref (qS 0), .ref (qS 8)] (sW z qS S) (fun u : RT => (sW z qS u)) (fun u : RT => Q u) := by
  refine CV.of rfl (Nat.le_of_ble_eq_true rfl) ?_
  intro p e s m below meth c A ls M hw hl
  have M : Mc p s m _ meth c cX7_passes 3 none RX7 z A := M
  obtain ⟨hx, hb, -, -, hown, hts, -, -, -, hN, hsr, -⟩ := id M
  have hl : lv_has ls 3 [(0, .ref (qS 0)), (1, .ref (qS 8))] := hl
  unfold wX7_passes_7 at h
  generalize s.heap = H at hw ⊢
  generalize ([] : List Loc) = locs at hw ⊢
  refine lv_iconst (v := 0) hx hb dX7_passes_0 (by decide) ?_
  refine lv_istore_n (lv' := [(2, .int (0 : Int32)), (0, .ref (qS 0)), (1, .ref (qS 8))]) hx hb dX7_passes_1 rfl hl (by decide) rfl (fun ls hl => ?_)
  obtain ⟨n0, h⟩ := h; exact kX7_passes_7_2 M n0 S (0 : Int32) H locs ls hw (lv_sub hl [1, 2, 0] rfl) h
abbrev rmX7_passOne : Room := { frames := 0, cells := 0, slots := 0, locals := 0 }
set_option maxHeartbeats 4000000 in
set_option maxRecDepth 100000 in
theorem kX7_passOne_38 {p : Program} {l : Launch} {e : Env} {s : State} {m : MethodId} {args : Array Value} {below : List Frame} {meth : Method} {c : Code} {z : KT} {A : Nat → Prop} {qS : Nat → Nat} {Q : Int32 → RT → Prop} (M : Mc p s m args meth c cX7_passOne 3 (some .int) RX7 z A) : ∀ (S : RT) (x2 : Int32) (H : Heap) (locs : List Loc) (ls : Array Slot), Hw s z A (sW z qS S) H locs → lv_has ls 3 [(0, .ref (qS 0)), (2, .int x2)] → bX7_passOne_38 Q S x2 → W p l e rmX7_passOne s m args below meth c H locs 0 0 (MQ below (va_Qi (fun (r : Int32) (u : RT) => Q r u) (fun u t => cAt z A ((fun u : RT => (sW z qS u)) u) t) A) args s 0 0 A) (F0 m 38 ls []) := by
  obtain ⟨hx, hb, -, -, hown, hts, -, -, -, hN, hsr, -⟩ := id M
  intro S x2 H locs ls hw hl h
  unfold bX7_passOne_38 at h
  refine lv_aload_n hx hb dX7_passOne_38 rfl (lv_at hl 0 rfl) ?_
  refine lv_dup hx hb dX7_passOne_39 rfl ?_
  refine gt_f (v := .int (S 30 22)) M inlX7 hw 0 rfl rfl 22 (by decide) fl_X7_159 rfl rfl dX7_passOne_40 ?_
  refine lv_iconst (v := 1) hx hb dX7_passOne_43 (by decide) ?_
  refine lv_iadd hx hb dX7_passOne_44 ?_
  refine st_f (P := S) (r := 30) (j := 22) (wN := fun S_1 => (sW z qS S_1)) M inlX7 tyX7_ok nmX7 hw 0 rfl rfl 22 (by decide) fl_X7_159 rfl rfl rfl rfl rfl (Nat.le_of_ble_eq_true rfl) rfl dX7_passOne_45 (fun S_1 H locs eS_1 hw => ?_)
  replace h := h S_1 eS_1
  refine lv_iload_n hx hb dX7_passOne_48 rfl (lv_at hl 1 rfl) ?_
  exact rt_i M S_1 hw h dX7_passOne_49
set_option maxHeartbeats 4000000 in
set_option maxRecDepth 100000 in
theorem kX7_passOne_20 {p : Program} {l : Launch} {e : Env} {s : State} {m : MethodId} {args : Array Value} {below : List Frame} {meth : Method} {c : Code} {z : KT} {A : Nat → Prop} {qS : Nat → Nat} {Q : Int32 → RT → Prop} (M : Mc p s m args meth c cX7_passOne 3 (some .int) RX7 z A) : ∀ (S : RT) (x1 : Int32) (t0 : Int32) (H : Heap) (locs : List Loc) (ls : Array Slot), Hw s z A (sW z qS S) H locs → lv_has ls 3 [(0, .ref (qS 0)), (1, .int x1)] → bX7_passOne_20 Q S x1 t0 → W p l e rmX7_passOne s m args below meth c H locs 0 0 (MQ below (va_Qi (fun (r : Int32) (u : RT) => Q r u) (fun u t => cAt z A ((fun u : RT => (sW z qS u)) u) t) A) args s 0 0 A) (F0 m 20 ls [.int t0]) := by
  obtain ⟨hx, hb, -, -, hown, hts, -, -, -, hN, hsr, -⟩ := id M
  intro S x1 t0 H locs ls hw hl h
  unfold bX7_passOne_20 at h
  refine lv_istore_n (lv' := [(2, .int t0), (0, .ref (qS 0)), (1, .int x1)]) hx hb dX7_passOne_20 rfl hl (by decide) rfl (fun ls hl => ?_)
  refine lv_aload_n hx hb dX7_passOne_21 rfl (lv_at hl 1 rfl) ?_
  refine gt_f (v := .int (S 30 21)) M inlX7 hw 0 rfl rfl 21 (by decide) fl_X7_155 rfl rfl dX7_passOne_22 ?_
  refine lv_if_eq (tgt := 38) hx hb dX7_passOne_25 (by decide) (fun c_1 => ?_) (fun c_1 => ?_)
  · replace h := iT c_1 h
    exact kX7_passOne_38 M S t0 H locs ls hw (lv_sub hl [1, 0] rfl) h
  · replace h := iF c_1 h
    refine lv_aload_n hx hb dX7_passOne_28 rfl (lv_at hl 1 rfl) ?_
    refine gt_f (v := .ref (qS 20)) M inlX7 hw 0 rfl rfl 19 (by decide) fl_X7_50 rfl rfl dX7_passOne_29 ?_
    refine lv_aload_n hx hb dX7_passOne_32 rfl (lv_at hl 1 rfl) ?_
    refine gt_f (v := .int (S 30 22)) M inlX7 hw 0 rfl rfl 22 (by decide) fl_X7_159 rfl rfl dX7_passOne_33 ?_
    refine lv_iload_n hx hb dX7_passOne_36 rfl (lv_at hl 2 rfl) ?_
    obtain ⟨a_2, h⟩ := h
    refine st_i (P := S) (r := 19) (wN := fun S_3 => (sW z qS S_3)) M hw 13 rfl rfl a_2 dX7_passOne_37 (fun S_3 H locs eS_3 hw => ?_)
    replace h := h S_3 eS_3
    exact kX7_passOne_38 M S_3 t0 H locs ls hw (lv_sub hl [1, 0] rfl) h
set_option maxHeartbeats 4000000 in
set_option maxRecDepth 100000 in
theorem m_X7_passOne (l : Launch) (z : KT) (qS : Nat → Nat) (S : RT) (x1 : Int32) (Q : Int32 → RT → Prop) (h : wX7_passOne S x1 Q) : CI l yX7_passOne cX7_passOne 3 .int rmX7_passOne z [.ref (qS 0), .int x1] (sW z qS S) (fun u : RT => (sW z qS u)) (fun (r : Int32) (u : RT) => Q r u) := by
  refine CI.of rfl (Nat.le_of_ble_eq_true rfl) ?_
  intro p e s m below meth c A ls M hw hl
  have M : Mc p s m _ meth c cX7_passOne 3 (some .int) RX7 z A := M
  obtain ⟨hx, hb, -, -, hown, hts, -, -, -, hN, hsr, -⟩ := id M
  have hl : lv_has ls 3 [(0, .ref (qS 0)), (1, .int x1)] := hl
  unfold wX7_passOne at h
  generalize s.heap = H at hw ⊢
  generalize ([] : List Loc) = locs at hw ⊢
  refine lv_aload_n hx hb dX7_passOne_0 rfl (lv_at hl 0 rfl) ?_
  refine gt_f (v := .int (S 30 21)) M inlX7 hw 0 rfl rfl 21 (by decide) fl_X7_155 rfl rfl dX7_passOne_1 ?_
  refine lv_if_eq (tgt := 11) hx hb dX7_passOne_4 (by decide) (fun c_1 => ?_) (fun c_1 => ?_)
  · replace h := iT c_1 h
    refine lv_aload_n hx hb dX7_passOne_11 rfl (lv_at hl 0 rfl) ?_
    refine gt_f (v := .ref (qS 20)) M inlX7 hw 0 rfl rfl 19 (by decide) fl_X7_50 rfl rfl dX7_passOne_12 ?_
    refine lv_aload_n hx hb dX7_passOne_15 rfl (lv_at hl 0 rfl) ?_
    refine gt_f (v := .int (S 30 22)) M inlX7 hw 0 rfl rfl 22 (by decide) fl_X7_159 rfl rfl dX7_passOne_16 ?_
    obtain ⟨a_2, h⟩ := h
    refine ld_i M hw 13 rfl a_2 dX7_passOne_19 ?_
    exact kX7_passOne_20 M S x1 (S 19 ((S 30 22)).toNatClampNeg) H locs ls hw (lv_sub hl [0, 1] rfl) h
  · replace h := iF c_1 h
    refine lv_iload_n hx hb dX7_passOne_7 rfl (lv_at hl 1 rfl) ?_
    refine lv_goto (tgt := 20) hx hb dX7_passOne_8 (by decide) ?_
    exact kX7_passOne_20 M S x1 x1 H locs ls hw (lv_sub hl [0, 1] rfl) h
abbrev rmX7_passesAll : Room := { frames := 1, cells := 0, slots := 0, locals := 22 }
set_option maxHeartbeats 4000000 in
set_option maxRecDepth 100000 in
theorem m_X7_passesAll (l : Launch) (z : KT) (qS : Nat → Nat) (S : RT) (x1 : Int32) (x2 : Int32) (Q : RT → Prop) (h : wX7_passesAll S x1 x2 Q) : CV l yX7_passesAll cX7_passesAll 3 rmX7_passesAll z [.ref (qS 0), .int x1, .int x2] (sW z qS S) (fun u : RT => (sW z qS u)) (fun u : RT => Q u) := by
  refine CV.of rfl (Nat.le_of_ble_eq_true rfl) ?_
  intro p e s m below meth c A ls M hw hl
  have M : Mc p s m _ meth c cX7_passesAll 3 none RX7 z A := M
  obtain ⟨hx, hb, -, -, hown, hts, -, -, -, hN, hsr, -⟩ := id M
  have hl : lv_has ls 3 [(0, .ref (qS 0)), (1, .int x1), (2, .int x2)] := hl
  unfold wX7_passesAll at h
  generalize s.heap = H at hw ⊢
  generalize ([] : List Loc) = locs at hw ⊢
  refine lv_aload_n hx hb dX7_passesAll_0 rfl (lv_at hl 0 rfl) ?_
  refine lv_bipush (v := 55) hx hb dX7_passesAll_1 (by decide) ?_
  refine lv_iload_n hx hb dX7_passesAll_3 rfl (lv_at hl 1 rfl) ?_
  refine lv_imul hx hb dX7_passesAll_4 ?_
  refine st_f (P := S) (r := 30) (j := 22) (wN := fun S_1 => (sW z qS S_1)) M inlX7 tyX7_ok nmX7 hw 0 rfl rfl 22 (by decide) fl_X7_159 rfl rfl rfl rfl rfl (Nat.le_of_ble_eq_true rfl) rfl dX7_passesAll_5 (fun S_1 H locs eS_1 hw => ?_)
  replace h := h S_1 eS_1
  refine lv_aload_n hx hb dX7_passesAll_8 rfl (lv_at hl 0 rfl) ?_
  refine lv_iload_n hx hb dX7_passesAll_9 rfl (lv_at hl 2 rfl) ?_
  obtain ⟨a_2, h⟩ := h
  refine st_f (ty := .boolean) (P := S_1) (r := 30) (j := 21) (wN := fun S_3 => (sW z qS S_3)) M inlX7 tyX7_ok nmX7 hw 0 rfl rfl 21 (by decide) fl_X7_155 rfl rfl rfl (bz_narrow a_2) (bz_fits a_2) (Nat.le_of_ble_eq_true rfl) rfl dX7_passesAll_10 (fun S_3 H locs eS_3 hw => ?_)
  replace h := h S_3 eS_3
  refine lv_aload_n hx hb dX7_passesAll_13 rfl (lv_at hl 0 rfl) ?_
  refine lv_aload_n hx hb dX7_passesAll_14 rfl (lv_at hl 0 rfl) ?_
  refine gt_f (v := .ref (qS 2)) M inlX7 hw 0 rfl rfl 1 (by decide) fl_X7_13 rfl rfl dX7_passesAll_15 ?_
  refine fr_Vv (wN := fun u : RT => (sW z qS u)) M (m_X7_passes_1 l z qS S_3 _ h) (cwV 1 hts (gdV cd_X7_passes ml_X7_162 im_X7_passes se_X7_passes in_X7) rfl rfl rfl hdV_X7_passes ⟨(Nat.le_of_ble_eq_true rfl), (Nat.le_of_ble_eq_true rfl)⟩) (Cut.self _) (Prm.self _ 17 (fun _ => rfl)) 0 rfl rfl rfl hw rfl hl.1 rfl (Nat.le_of_ble_eq_true rfl) dX7_passesAll_18 (fun u_ H locs h hw => ?_)
  obtain ⟨S_4, rfl⟩ : ∃ z9 : RT, z9 = u_ := ⟨_, rfl⟩
  have hw : Hw s z A (sW z qS S_4) H locs := hw
  try dsimp only at h
  refine lv_aload_n hx hb dX7_passesAll_21 rfl (lv_at hl 0 rfl) ?_
  refine lv_aload_n hx hb dX7_passesAll_22 rfl (lv_at hl 0 rfl) ?_
  refine gt_f (v := .ref (qS 3)) M inlX7 hw 0 rfl rfl 2 (by decide) fl_X7_16 rfl rfl dX7_passesAll_23 ?_
  refine fr_Vv (wN := fun u : RT => (sW z qS u)) M (m_X7_passes_2 l z qS S_4 _ h) (cwV 1 hts (gdV cd_X7_passes ml_X7_162 im_X7_passes se_X7_passes in_X7) rfl rfl rfl hdV_X7_passes ⟨(Nat.le_of_ble_eq_true rfl), (Nat.le_of_ble_eq_true rfl)⟩) (Cut.self _) (Prm.self _ 17 (fun _ => rfl)) 0 rfl rfl rfl hw rfl hl.1 rfl (Nat.le_of_ble_eq_true rfl) dX7_passesAll_26 (fun u_ H locs h hw => ?_)
  obtain ⟨S_5, rfl⟩ : ∃ z9 : RT, z9 = u_ := ⟨_, rfl⟩
  have hw : Hw s z A (sW z qS S_5) H locs := hw
  try dsimp only at h
  refine lv_aload_n hx hb dX7_passesAll_29 rfl (lv_at hl 0 rfl) ?_
  refine lv_aload_n hx hb dX7_passesAll_30 rfl (lv_at hl 0 rfl) ?_
  refine gt_f (v := .ref (qS 4)) M inlX7 hw 0 rfl rfl 3 (by decide) fl_X7_19 rfl rfl dX7_passesAll_31 ?_
  refine fr_Vv (wN := fun u : RT => (sW z qS u)) M (m_X7_passes_3 l z qS S_5 _ h) (cwV 1 hts (gdV cd_X7_passes ml_X7_162 im_X7_passes se_X7_passes in_X7) rfl rfl rfl hdV_X7_passes ⟨(Nat.le_of_ble_eq_true rfl), (Nat.le_of_ble_eq_true rfl)⟩) (Cut.self _) (Prm.self _ 17 (fun _ => rfl)) 0 rfl rfl rfl hw rfl hl.1 rfl (Nat.le_of_ble_eq_true rfl) dX7_passesAll_34 (fun u_ H locs h hw => ?_)
  obtain ⟨S_6, rfl⟩ : ∃ z9 : RT, z9 = u_ := ⟨_, rfl⟩
  have hw : Hw s z A (sW z qS S_6) H locs := hw
  try dsimp only at h
  refine lv_aload_n hx hb dX7_passesAll_37 rfl (lv_at hl 0 rfl) ?_
  refine lv_aload_n hx hb dX7_passesAll_38 rfl (lv_at hl 0 rfl) ?_
  refine gt_f (v := .ref (qS 5)) M inlX7 hw 0 rfl rfl 4 (by decide) fl_X7_22 rfl rfl dX7_passesAll_39 ?_
  refine fr_Vv (wN := fun u : RT => (sW z qS u)) M (m_X7_passes_4 l z qS S_6 _ h) (cwV 1 hts (gdV cd_X7_passes ml_X7_162 im_X7_passes se_X7_passes in_X7) rfl rfl rfl hdV_X7_passes ⟨(Nat.le_of_ble_eq_true rfl), (Nat.le_of_ble_eq_true rfl)⟩) (Cut.self _) (Prm.self _ 17 (fun _ => rfl)) 0 rfl rfl rfl hw rfl hl.1 rfl (Nat.le_of_ble_eq_true rfl) dX7_passesAll_42 (fun u_ H locs h hw => ?_)
  obtain ⟨S_7, rfl⟩ : ∃ z9 : RT, z9 = u_ := ⟨_, rfl⟩
  have hw : Hw s z A (sW z qS S_7) H locs := hw
  try dsimp only at h
  refine lv_aload_n hx hb dX7_passesAll_45 rfl (lv_at hl 0 rfl) ?_
  refine lv_aload_n hx hb dX7_passesAll_46 rfl (lv_at hl 0 rfl) ?_
  refine gt_f (v := .ref (qS 6)) M inlX7 hw 0 rfl rfl 5 (by decide) fl_X7_25 rfl rfl dX7_passesAll_47 ?_
  refine fr_Vv (wN := fun u : RT => (sW z qS u)) M (m_X7_passes_5 l z qS S_7 _ h) (cwV 1 hts (gdV cd_X7_passes ml_X7_162 im_X7_passes se_X7_passes in_X7) rfl rfl rfl hdV_X7_passes ⟨(Nat.le_of_ble_eq_true rfl), (Nat.le_of_ble_eq_true rfl)⟩) (Cut.self _) (Prm.self _ 17 (fun _ => rfl)) 0 rfl rfl rfl hw rfl hl.1 rfl (Nat.le_of_ble_eq_true rfl) dX7_passesAll_50 (fun u_ H locs h hw => ?_)
  obtain ⟨S_8, rfl⟩ : ∃ z9 : RT, z9 = u_ := ⟨_, rfl⟩
  have hw : Hw s z A (sW z qS S_8) H locs := hw
  try dsimp only at h
  refine lv_aload_n hx hb dX7_passesAll_53 rfl (lv_at hl 0 rfl) ?_
  refine lv_aload_n hx hb dX7_passesAll_54 rfl (lv_at hl 0 rfl) ?_
  refine gt_f (v := .ref (qS 7)) M inlX7 hw 0 rfl rfl 6 (by decide) fl_X7_28 rfl rfl dX7_passesAll_55 ?_
  refine fr_Vv (wN := fun u : RT => (sW z qS u)) M (m_X7_passes_6 l z qS S_8 _ h) (cwV 1 hts (gdV cd_X7_passes ml_X7_162 im_X7_passes se_X7_passes in_X7) rfl rfl rfl hdV_X7_passes ⟨(Nat.le_of_ble_eq_true rfl), (Nat.le_of_ble_eq_true rfl)⟩) (Cut.self _) (Prm.self _ 17 (fun _ => rfl)) 0 rfl rfl rfl hw rfl hl.1 rfl (Nat.le_of_ble_eq_true rfl) dX7_passesAll_58 (fun u_ H locs h hw => ?_)
  obtain ⟨S_9, rfl⟩ : ∃ z9 : RT, z9 = u_ := ⟨_, rfl⟩
  have hw : Hw s z A (sW z qS S_9) H locs := hw
  try dsimp only at h
  refine lv_aload_n hx hb dX7_passesAll_61 rfl (lv_at hl 0 rfl) ?_
  refine lv_aload_n hx hb dX7_passesAll_62 rfl (lv_at hl 0 rfl) ?_
  refine gt_f (v := .ref (qS 8)) M inlX7 hw 0 rfl rfl 7 (by decide) fl_X7_31 rfl rfl dX7_passesAll_63 ?_
  refine fr_Vv (wN := fun u : RT => (sW z qS u)) M (m_X7_passes_7 l z qS S_9 _ h) (cwV 1 hts (gdV cd_X7_passes ml_X7_162 im_X7_passes se_X7_passes in_X7) rfl rfl rfl hdV_X7_passes ⟨(Nat.le_of_ble_eq_true rfl), (Nat.le_of_ble_eq_true rfl)⟩) (Cut.self _) (Prm.self _ 17 (fun _ => rfl)) 0 rfl rfl rfl hw rfl hl.1 rfl (Nat.le_of_ble_eq_true rfl) dX7_passesAll_66 (fun u_ H locs h hw => ?_)
  obtain ⟨S_10, rfl⟩ : ∃ z9 : RT, z9 = u_ := ⟨_, rfl⟩
  have hw : Hw s z A (sW z qS S_10) H locs := hw
  try dsimp only at h
  refine lv_aload_n hx hb dX7_passesAll_69 rfl (lv_at hl 0 rfl) ?_
  refine lv_aload_n hx hb dX7_passesAll_70 rfl (lv_at hl 0 rfl) ?_
  refine lv_aload_n hx hb dX7_passesAll_71 rfl (lv_at hl 0 rfl) ?_
  refine gt_f (v := .int (S_10 30 8)) M inlX7 hw 0 rfl rfl 8 (by decide) fl_X7_62 rfl rfl dX7_passesAll_72 ?_
  refine fr_Vi (wN := fun u : RT => (sW z qS u)) M (m_X7_passOne l z qS S_10 (S_10 30 8) _ h) (cwV 1 hts (gdV cd_X7_passOne ml_X7_166 im_X7_passOne se_X7_passOne in_X7) rfl rfl rfl hdV_X7_passOne ⟨(Nat.le_of_ble_eq_true rfl), (Nat.le_of_ble_eq_true rfl)⟩) (Cut.self _) (Prm.self _ 17 (fun _ => rfl)) 0 rfl rfl rfl hw rfl hl.1 rfl (Nat.le_of_ble_eq_true rfl) dX7_passesAll_75 (fun r_12 u_ H locs h hw => ?_)
  obtain ⟨S_11, rfl⟩ : ∃ z9 : RT, z9 = u_ := ⟨_, rfl⟩
  have hw : Hw s z A (sW z qS S_11) H locs := hw
  try dsimp only at h
  refine st_f (P := S_11) (r := 30) (j := 8) (wN := fun S_13 => (sW z qS S_13)) M inlX7 tyX7_ok nmX7 hw 0 rfl rfl 8 (by decide) fl_X7_62 rfl rfl rfl rfl rfl (Nat.le_of_ble_eq_true rfl) rfl dX7_passesAll_78 (fun S_13 H locs eS_13 hw => ?_)
  replace h := h S_13 eS_13
  refine lv_aload_n hx hb dX7_passesAll_81 rfl (lv_at hl 0 rfl) ?_
  refine lv_aload_n hx hb dX7_passesAll_82 rfl (lv_at hl 0 rfl) ?_
  refine lv_aload_n hx hb dX7_passesAll_83 rfl (lv_at hl 0 rfl) ?_
  refine gt_f (v := .int (S_13 30 9)) M inlX7 hw 0 rfl rfl 9 (by decide) fl_X7_67 rfl rfl dX7_passesAll_84 ?_
  refine fr_Vi (wN := fun u : RT => (sW z qS u)) M (m_X7_passOne l z qS S_13 (S_13 30 9) _ h) (cwV 1 hts (gdV cd_X7_passOne ml_X7_166 im_X7_passOne se_X7_passOne in_X7) rfl rfl rfl hdV_X7_passOne ⟨(Nat.le_of_ble_eq_true rfl), (Nat.le_of_ble_eq_true rfl)⟩) (Cut.self _) (Prm.self _ 17 (fun _ => rfl)) 0 rfl rfl rfl hw rfl hl.1 rfl (Nat.le_of_ble_eq_true rfl) dX7_passesAll_87 (fun r_15 u_ H locs h hw => ?_)
  obtain ⟨S_14, rfl⟩ : ∃ z9 : RT, z9 = u_ := ⟨_, rfl⟩
  have hw : Hw s z A (sW z qS S_14) H locs := hw
  try dsimp only at h
  refine st_f (P := S_14) (r := 30) (j := 9) (wN := fun S_16 => (sW z qS S_16)) M inlX7 tyX7_ok nmX7 hw 0 rfl rfl 9 (by decide) fl_X7_67 rfl rfl rfl rfl rfl (Nat.le_of_ble_eq_true rfl) rfl dX7_passesAll_90 (fun S_16 H locs eS_16 hw => ?_)
  replace h := h S_16 eS_16
  refine lv_aload_n hx hb dX7_passesAll_93 rfl (lv_at hl 0 rfl) ?_
  refine lv_aload_n hx hb dX7_passesAll_94 rfl (lv_at hl 0 rfl) ?_
  refine lv_aload_n hx hb dX7_passesAll_95 rfl (lv_at hl 0 rfl) ?_
  refine gt_f (v := .int (S_16 30 10)) M inlX7 hw 0 rfl rfl 10 (by decide) fl_X7_119 rfl rfl dX7_passesAll_96 ?_
  refine fr_Vi (wN := fun u : RT => (sW z qS u)) M (m_X7_passOne l z qS S_16 (S_16 30 10) _ h) (cwV 1 hts (gdV cd_X7_passOne ml_X7_166 im_X7_passOne se_X7_passOne in_X7) rfl rfl rfl hdV_X7_passOne ⟨(Nat.le_of_ble_eq_true rfl), (Nat.le_of_ble_eq_true rfl)⟩) (Cut.self _) (Prm.self _ 17 (fun _ => rfl)) 0 rfl rfl rfl hw rfl hl.1 rfl (Nat.le_of_ble_eq_true rfl) dX7_passesAll_99 (fun r_18 u_ H locs h hw => ?_)
  obtain ⟨S_17, rfl⟩ : ∃ z9 : RT, z9 = u_ := ⟨_, rfl⟩
  have hw : Hw s z A (sW z qS S_17) H locs := hw
  try dsimp only at h
  refine st_f (P := S_17) (r := 30) (j := 10) (wN := fun S_19 => (sW z qS S_19)) M inlX7 tyX7_ok nmX7 hw 0 rfl rfl 10 (by decide) fl_X7_119 rfl rfl rfl rfl rfl (Nat.le_of_ble_eq_true rfl) rfl dX7_passesAll_102 (fun S_19 H locs eS_19 hw => ?_)
  replace h := h S_19 eS_19
  exact rt_v M S_19 hw h dX7_passesAll_105
abbrev rmX7_port : Room := { frames := 9, cells := 0, slots := 0, locals := 200 }
set_option maxHeartbeats 4000000 in
set_option maxRecDepth 100000 in
theorem kX7_port_53 {p : Program} {l : Launch} {e : Env} {s : State} {m : MethodId} {args : Array Value} {below : List Frame} {meth : Method} {c : Code} {z : KT} {A : Nat → Prop} {qS : Nat → Nat} {K12 : RT → Int32 → Prop} {Q : Int32 → RT → Prop} (M : Mc p s m args meth c cX7_port 3 (some .int) RX7 z A) (hK12 : ∀ (S : RT) (x1 : Int32) (H : Heap) (locs : List Loc) (ls : Array Slot), Hw s z A (sW z qS S) H locs → lv_has ls 3 [(0, .ref (qS 0)), (1, .int x1)] → K12 S x1 → W p l e rmX7_port s m args below meth c H locs 0 0 (MQ below (va_Qi (fun (r : Int32) (u : RT) => Q r u) (fun u t => cAt z A ((fun u : RT => (sW z qS u)) u) t) A) args s 0 0 A) (F0 m 12 ls [])) : ∀ (S : RT) (x1 : Int32) (t1 : Int32) (t2 : Int32) (H : Heap) (locs : List Loc) (ls : Array Slot), Hw s z A (sW z qS S) H locs → lv_has ls 3 [(0, .ref (qS 0)), (1, .int x1)] → bX7_port_53 K12 Q S x1 t1 t2 → W p l e rmX7_port s m args below meth c H locs 0 0 (MQ below (va_Qi (fun (r : Int32) (u : RT) => Q r u) (fun u t => cAt z A ((fun u : RT => (sW z qS u)) u) t) A) args s 0 0 A) (F0 m 53 ls [.int t2, .int t1, .ref (qS 0)]) := by
  obtain ⟨hx, hb, -, -, hown, hts, -, -, -, hN, hsr, -⟩ := id M
  intro S x1 t1 t2 H locs ls hw hl h
  unfold bX7_port_53 at h
  refine lv_iadd hx hb dX7_port_53 ?_
  refine st_f (P := S) (r := 30) (j := 18) (wN := fun S_1 => (sW z qS S_1)) M inlX7 tyX7_ok nmX7 hw 0 rfl rfl 18 (by decide) fl_X7_106 rfl rfl rfl rfl rfl (Nat.le_of_ble_eq_true rfl) rfl dX7_port_54 (fun S_1 H locs eS_1 hw => ?_)
  replace h := h S_1 eS_1
  refine lv_goto (tgt := 12) hx hb dX7_port_57 (by decide) ?_
  exact hK12 S_1 x1 H locs ls hw (lv_sub hl [0, 1] rfl) h
set_option maxHeartbeats 4000000 in
set_option maxRecDepth 100000 in
theorem kX7_port_34 {p : Program} {l : Launch} {e : Env} {s : State} {m : MethodId} {args : Array Value} {below : List Frame} {meth : Method} {c : Code} {z : KT} {A : Nat → Prop} {qS : Nat → Nat} {K12 : RT → Int32 → Prop} {Q : Int32 → RT → Prop} (M : Mc p s m args meth c cX7_port 3 (some .int) RX7 z A) (hK12 : ∀ (S : RT) (x1 : Int32) (H : Heap) (locs : List Loc) (ls : Array Slot), Hw s z A (sW z qS S) H locs → lv_has ls 3 [(0, .ref (qS 0)), (1, .int x1)] → K12 S x1 → W p l e rmX7_port s m args below meth c H locs 0 0 (MQ below (va_Qi (fun (r : Int32) (u : RT) => Q r u) (fun u t => cAt z A ((fun u : RT => (sW z qS u)) u) t) A) args s 0 0 A) (F0 m 12 ls [])) : ∀ (S : RT) (H : Heap) (locs : List Loc) (ls : Array Slot), Hw s z A (sW z qS S) H locs → lv_has ls 3 [(0, .ref (qS 0))] → bX7_port_34 K12 Q S → W p l e rmX7_port s m args below meth c H locs 0 0 (MQ below (va_Qi (fun (r : Int32) (u : RT) => Q r u) (fun u t => cAt z A ((fun u : RT => (sW z qS u)) u) t) A) args s 0 0 A) (F0 m 34 ls []) := by
  obtain ⟨hx, hb, -, -, hown, hts, -, -, -, hN, hsr, -⟩ := id M
  intro S H locs ls hw hl h
  unfold bX7_port_34 at h
  refine lv_aload_n hx hb dX7_port_34 rfl (lv_at hl 0 rfl) ?_
  refine fr_Vi (wN := fun u : RT => (sW z qS u)) M (m_X7_statement l z qS S _ h) (cwV 0 hts (gdV cd_X7_statement ml_X7_144 im_X7_statement se_X7_statement in_X7) rfl rfl rfl hdV_X7_statement ⟨(Nat.le_of_ble_eq_true rfl), (Nat.le_of_ble_eq_true rfl)⟩) (Cut.self _) (Prm.self _ 17 (fun _ => rfl)) 0 rfl rfl rfl hw rfl hl.1 rfl (Nat.le_of_ble_eq_true rfl) dX7_port_35 (fun r_2 u_ H locs h hw => ?_)
  obtain ⟨S_1, rfl⟩ : ∃ z9 : RT, z9 = u_ := ⟨_, rfl⟩
  have hw : Hw s z A (sW z qS S_1) H locs := hw
  try dsimp only at h
  refine lv_istore_n (lv' := [(1, .int r_2), (0, .ref (qS 0))]) hx hb dX7_port_38 rfl hl (by decide) rfl (fun ls hl => ?_)
  refine lv_aload_n hx hb dX7_port_39 rfl (lv_at hl 1 rfl) ?_
  refine lv_dup hx hb dX7_port_40 rfl ?_
  refine gt_f (v := .int (S_1 30 18)) M inlX7 hw 0 rfl rfl 18 (by decide) fl_X7_106 rfl rfl dX7_port_41 ?_
  refine lv_iload_n hx hb dX7_port_44 rfl (lv_at hl 0 rfl) ?_
  refine lv_if_eq (tgt := 52) hx hb dX7_port_45 (by decide) (fun c_3 => ?_) (fun c_3 => ?_)
  · replace h := iT c_3 h
    refine lv_iconst (v := 0) hx hb dX7_port_52 (by decide) ?_
    exact kX7_port_53 M hK12 S_1 r_2 (S_1 30 18) (0 : Int32) H locs ls hw (lv_sub hl [1, 0] rfl) h
  · replace h := iF c_3 h
    refine lv_iconst (v := 1) hx hb dX7_port_48 (by decide) ?_
    refine lv_goto (tgt := 53) hx hb dX7_port_49 (by decide) ?_
    exact kX7_port_53 M hK12 S_1 r_2 (S_1 30 18) (1 : Int32) H locs ls hw (lv_sub hl [1, 0] rfl) h
set_option maxHeartbeats 4000000 in
set_option maxRecDepth 100000 in
theorem kX7_port_86 {p : Program} {l : Launch} {e : Env} {s : State} {m : MethodId} {args : Array Value} {below : List Frame} {meth : Method} {c : Code} {z : KT} {A : Nat → Prop} {qS : Nat → Nat} {Q : Int32 → RT → Prop} (M : Mc p s m args meth c cX7_port 3 (some .int) RX7 z A) : ∀ (n : Nat) (S : RT) (x2 : Int32) (H : Heap) (locs : List Loc) (ls : Array Slot), Hw s z A (sW z qS S) H locs → lv_has ls 3 [(0, .ref (qS 0)), (2, .int x2)] → bX7_port_86 Q n S x2 → W p l e rmX7_port s m args below meth c H locs 0 0 (MQ below (va_Qi (fun (r : Int32) (u : RT) => Q r u) (fun u t => cAt z A ((fun u : RT => (sW z qS u)) u) t) A) args s 0 0 A) (F0 m 86 ls []) := by
  obtain ⟨hx, hb, -, -, hown, hts, -, -, -, hN, hsr, -⟩ := id M
  intro n
  induction n with
  | zero => intro S x2 H locs ls hw hl h; exact False.elim h
  | succ n ih =>
    intro S x2 H locs ls hw hl h
    rw [bX7_port_86] at h
    refine lv_iload_n hx hb dX7_port_86 rfl (lv_at hl 1 rfl) ?_
    refine lv_aload_n hx hb dX7_port_87 rfl (lv_at hl 0 rfl) ?_
    refine gt_f (v := .int (S 30 18)) M inlX7 hw 0 rfl rfl 18 (by decide) fl_X7_106 rfl rfl dX7_port_88 ?_
    refine lv_icmp_ge (tgt := 128) hx hb dX7_port_91 (by decide) (fun c_1 => ?_) (fun c_1 => ?_)
    · replace h := iT c_1 h
      refine lv_aload_n hx hb dX7_port_128 rfl (lv_at hl 0 rfl) ?_
      refine gt_f (v := .int (S 30 18)) M inlX7 hw 0 rfl rfl 18 (by decide) fl_X7_106 rfl rfl dX7_port_129 ?_
      exact rt_i M S hw h dX7_port_132
    · replace h := iF c_1 h
      refine lv_aload_n hx hb dX7_port_94 rfl (lv_at hl 0 rfl) ?_
      refine lv_iload_n hx hb dX7_port_95 rfl (lv_at hl 1 rfl) ?_
      refine fr_Vi (wN := fun u : RT => (sW z qS u)) M (m_X7_comes l z qS S x2 _ h) (cwV 1 hts (gdV cd_X7_comes ml_X7_152 im_X7_comes se_X7_comes in_X7) rfl rfl rfl hdV_X7_comes ⟨(Nat.le_of_ble_eq_true rfl), (Nat.le_of_ble_eq_true rfl)⟩) (Cut.self _) (Prm.self _ 17 (fun _ => rfl)) 0 rfl rfl rfl hw rfl hl.1 rfl (Nat.le_of_ble_eq_true rfl) dX7_port_96 (fun r_3 u_ H locs h hw => ?_)
      obtain ⟨S_2, rfl⟩ : ∃ z9 : RT, z9 = u_ := ⟨_, rfl⟩
      have hw : Hw s z A (sW z qS S_2) H locs := hw
      try dsimp only at h
      refine lv_if_eq (tgt := 105) hx hb dX7_port_99 (by decide) (fun c_4 => ?_) (fun c_4 => ?_)
      · replace h := iT c_4 h
        refine lv_aload_n hx hb dX7_port_105 rfl (lv_at hl 0 rfl) ?_
        refine lv_iconst (v := 1) hx hb dX7_port_106 (by decide) ?_
        refine lv_iconst (v := 0) hx hb dX7_port_107 (by decide) ?_
        refine fr_Vv (wN := fun u : RT => (sW z qS u)) M (m_X7_passesAll l z qS S_2 (1 : Int32) (0 : Int32) _ h) (cwV 2 hts (gdV cd_X7_passesAll ml_X7_148 im_X7_passesAll se_X7_passesAll in_X7) rfl rfl rfl hdV_X7_passesAll ⟨(Nat.le_of_ble_eq_true rfl), (Nat.le_of_ble_eq_true rfl)⟩) (Cut.self _) (Prm.self _ 17 (fun _ => rfl)) 0 rfl rfl rfl hw rfl hl.1 rfl (Nat.le_of_ble_eq_true rfl) dX7_port_108 (fun u_ H locs h hw => ?_)
        obtain ⟨S_5, rfl⟩ : ∃ z9 : RT, z9 = u_ := ⟨_, rfl⟩
        have hw : Hw s z A (sW z qS S_5) H locs := hw
        try dsimp only at h
        refine lv_sipush (v := -2000) hx hb dX7_port_111 (by decide) ?_
        refine lv_aload_n hx hb dX7_port_114 rfl (lv_at hl 0 rfl) ?_
        refine gt_f (v := .ref (qS 15)) M inlX7 hw 0 rfl rfl 14 (by decide) fl_X7_44 rfl rfl dX7_port_115 ?_
        refine lv_iload_n hx hb dX7_port_118 rfl (lv_at hl 1 rfl) ?_
        obtain ⟨a_6, h⟩ := h
        refine ld_i M hw 11 rfl a_6 dX7_port_119 ?_
        refine lv_isub hx hb dX7_port_120 ?_
        exact rt_i M S_5 hw h dX7_port_121
      · replace h := iF c_4 h
        refine lv_goto (tgt := 122) hx hb dX7_port_102 (by decide) ?_
        obtain ⟨x2_7, ex2_7⟩ : ∃ y : Int32, y = (x2 + (1 : Int32)) := ⟨_, rfl⟩
        replace h := h x2_7 ex2_7
        refine lv_iinc (v := x2_7) (lv' := [(2, .int x2_7), (0, .ref (qS 0))]) hx hb dX7_port_122 hl (k := 1) rfl (by rw [ex2_7]; rfl) (by decide) rfl (fun ls hl => ?_)
        refine lv_goto (tgt := 86) hx hb dX7_port_125 (by decide) ?_
        exact ih S_2 x2_7 H locs ls hw (lv_sub hl [1, 0] rfl) h
set_option maxHeartbeats 4000000 in
set_option maxRecDepth 100000 in
theorem kX7_port_60 {p : Program} {l : Launch} {e : Env} {s : State} {m : MethodId} {args : Array Value} {below : List Frame} {meth : Method} {c : Code} {z : KT} {A : Nat → Prop} {qS : Nat → Nat} {Q : Int32 → RT → Prop} (M : Mc p s m args meth c cX7_port 3 (some .int) RX7 z A) : ∀ (S : RT) (x1 : Int32) (H : Heap) (locs : List Loc) (ls : Array Slot), Hw s z A (sW z qS S) H locs → lv_has ls 3 [(0, .ref (qS 0)), (1, .int x1)] → bX7_port_60 Q S x1 → W p l e rmX7_port s m args below meth c H locs 0 0 (MQ below (va_Qi (fun (r : Int32) (u : RT) => Q r u) (fun u t => cAt z A ((fun u : RT => (sW z qS u)) u) t) A) args s 0 0 A) (F0 m 60 ls []) := by
  obtain ⟨hx, hb, -, -, hown, hts, -, -, -, hN, hsr, -⟩ := id M
  intro S x1 H locs ls hw hl h
  unfold bX7_port_60 at h
  refine lv_aload_n hx hb dX7_port_60 rfl (lv_at hl 0 rfl) ?_
  refine lv_iconst (v := 0) hx hb dX7_port_61 (by decide) ?_
  refine st_f (P := S) (r := 30) (j := 16) (wN := fun S_1 => (sW z qS S_1)) M inlX7 tyX7_ok nmX7 hw 0 rfl rfl 16 (by decide) fl_X7_78 rfl rfl rfl rfl rfl (Nat.le_of_ble_eq_true rfl) rfl dX7_port_62 (fun S_1 H locs eS_1 hw => ?_)
  replace h := h S_1 eS_1
  refine lv_iload_n hx hb dX7_port_65 rfl (lv_at hl 1 rfl) ?_
  refine lv_if_ne (tgt := 78) hx hb dX7_port_66 (by decide) (fun c_2 => ?_) (fun c_2 => ?_)
  · replace h := iF c_2 h
    refine lv_aload_n hx hb dX7_port_78 rfl (lv_at hl 0 rfl) ?_
    refine lv_iconst (v := 1) hx hb dX7_port_79 (by decide) ?_
    refine lv_iconst (v := 1) hx hb dX7_port_80 (by decide) ?_
    refine fr_Vv (wN := fun u : RT => (sW z qS u)) M (m_X7_passesAll l z qS S_1 (1 : Int32) (1 : Int32) _ h) (cwV 2 hts (gdV cd_X7_passesAll ml_X7_148 im_X7_passesAll se_X7_passesAll in_X7) rfl rfl rfl hdV_X7_passesAll ⟨(Nat.le_of_ble_eq_true rfl), (Nat.le_of_ble_eq_true rfl)⟩) (Cut.self _) (Prm.self _ 17 (fun _ => rfl)) 0 rfl rfl rfl hw rfl hl.1 rfl (Nat.le_of_ble_eq_true rfl) dX7_port_81 (fun u_ H locs h hw => ?_)
    obtain ⟨S_3, rfl⟩ : ∃ z9 : RT, z9 = u_ := ⟨_, rfl⟩
    have hw : Hw s z A (sW z qS S_3) H locs := hw
    try dsimp only at h
    refine lv_iconst (v := 0) hx hb dX7_port_84 (by decide) ?_
    refine lv_istore_n (lv' := [(2, .int (0 : Int32)), (0, .ref (qS 0)), (1, .int x1)]) hx hb dX7_port_85 rfl hl (by decide) rfl (fun ls hl => ?_)
    obtain ⟨n0, h⟩ := h; exact kX7_port_86 M n0 S_3 (0 : Int32) H locs ls hw (lv_sub hl [1, 0] rfl) h
  · replace h := iT c_2 h
    refine lv_sipush (v := -1000) hx hb dX7_port_69 (by decide) ?_
    refine lv_aload_n hx hb dX7_port_72 rfl (lv_at hl 0 rfl) ?_
    refine gt_f (v := .int (S_1 30 17)) M inlX7 hw 0 rfl rfl 17 (by decide) fl_X7_85 rfl rfl dX7_port_73 ?_
    refine lv_isub hx hb dX7_port_76 ?_
    exact rt_i M S_1 hw h dX7_port_77
set_option maxHeartbeats 4000000 in
set_option maxRecDepth 100000 in
theorem kX7_port_12 {p : Program} {l : Launch} {e : Env} {s : State} {m : MethodId} {args : Array Value} {below : List Frame} {meth : Method} {c : Code} {z : KT} {A : Nat → Prop} {qS : Nat → Nat} {Q : Int32 → RT → Prop} (M : Mc p s m args meth c cX7_port 3 (some .int) RX7 z A) : ∀ (n : Nat) (S : RT) (x1 : Int32) (H : Heap) (locs : List Loc) (ls : Array Slot), Hw s z A (sW z qS S) H locs → lv_has ls 3 [(0, .ref (qS 0)), (1, .int x1)] → bX7_port_12 Q n S x1 → W p l e rmX7_port s m args below meth c H locs 0 0 (MQ below (va_Qi (fun (r : Int32) (u : RT) => Q r u) (fun u t => cAt z A ((fun u : RT => (sW z qS u)) u) t) A) args s 0 0 A) (F0 m 12 ls []) := by
  obtain ⟨hx, hb, -, -, hown, hts, -, -, -, hN, hsr, -⟩ := id M
  intro n
  induction n with
  | zero => intro S x1 H locs ls hw hl h; exact False.elim h
  | succ n ih =>
    intro S x1 H locs ls hw hl h
    rw [bX7_port_12] at h
    refine lv_iload_n hx hb dX7_port_12 rfl (lv_at hl 1 rfl) ?_
    refine lv_if_eq (tgt := 60) hx hb dX7_port_13 (by decide) (fun c_1 => ?_) (fun c_1 => ?_)
    · replace h := iT c_1 h
      exact kX7_port_60 M S x1 H locs ls hw (lv_sub hl [0, 1] rfl) h
    · replace h := iF c_1 h
      refine lv_aload_n hx hb dX7_port_16 rfl (lv_at hl 0 rfl) ?_
      refine gt_f (v := .int (S 30 17)) M inlX7 hw 0 rfl rfl 17 (by decide) fl_X7_85 rfl rfl dX7_port_17 ?_
      refine lv_aload_n hx hb dX7_port_20 rfl (lv_at hl 0 rfl) ?_
      refine gt_f (v := .int (S 30 16)) M inlX7 hw 0 rfl rfl 16 (by decide) fl_X7_78 rfl rfl dX7_port_21 ?_
      refine lv_icmp_lt (tgt := 34) hx hb dX7_port_24 (by decide) (fun c_2 => ?_) (fun c_2 => ?_)
      · replace h := iT c_2 h
        exact kX7_port_34 M ih S H locs ls hw (lv_sub hl [0] rfl) h
      · replace h := iF c_2 h
        refine lv_aload_n hx hb dX7_port_27 rfl (lv_at hl 0 rfl) ?_
        refine gt_f (v := .int (S 30 18)) M inlX7 hw 0 rfl rfl 18 (by decide) fl_X7_106 rfl rfl dX7_port_28 ?_
        refine lv_if_ne (tgt := 60) hx hb dX7_port_31 (by decide) (fun c_3 => ?_) (fun c_3 => ?_)
        · replace h := iF c_3 h
          exact kX7_port_60 M S x1 H locs ls hw (lv_sub hl [0, 1] rfl) h
        · replace h := iT c_3 h
          exact kX7_port_34 M ih S H locs ls hw (lv_sub hl [0] rfl) h
set_option maxHeartbeats 4000000 in
set_option maxRecDepth 100000 in
theorem m_X7_port (l : Launch) (z : KT) (qS : Nat → Nat) (S : RT) (Q : Int32 → RT → Prop) (h : wX7_port S Q) : CI l yX7_port cX7_port 3 .int rmX7_port z [.ref (qS 0)] (sW z qS S) (fun u : RT => (sW z qS u)) (fun (r : Int32) (u : RT) => Q r u) := by
  refine CI.of rfl (Nat.le_of_ble_eq_true rfl) ?_
  intro p e s m below meth c A ls M hw hl
  have M : Mc p s m _ meth c cX7_port 3 (some .int) RX7 z A := M
  obtain ⟨hx, hb, -, -, hown, hts, -, -, -, hN, hsr, -⟩ := id M
  have hl : lv_has ls 3 [(0, .ref (qS 0))] := hl
  unfold wX7_port at h
  generalize s.heap = H at hw ⊢
  generalize ([] : List Loc) = locs at hw ⊢
  refine lv_aload_n hx hb dX7_port_0 rfl (lv_at hl 0 rfl) ?_
  refine lv_iconst (v := 0) hx hb dX7_port_1 (by decide) ?_
  refine st_f (P := S) (r := 30) (j := 17) (wN := fun S_1 => (sW z qS S_1)) M inlX7 tyX7_ok nmX7 hw 0 rfl rfl 17 (by decide) fl_X7_85 rfl rfl rfl rfl rfl (Nat.le_of_ble_eq_true rfl) rfl dX7_port_2 (fun S_1 H locs eS_1 hw => ?_)
  replace h := h S_1 eS_1
  refine lv_aload_n hx hb dX7_port_5 rfl (lv_at hl 0 rfl) ?_
  refine lv_iconst (v := 0) hx hb dX7_port_6 (by decide) ?_
  refine st_f (P := S_1) (r := 30) (j := 18) (wN := fun S_2 => (sW z qS S_2)) M inlX7 tyX7_ok nmX7 hw 0 rfl rfl 18 (by decide) fl_X7_106 rfl rfl rfl rfl rfl (Nat.le_of_ble_eq_true rfl) rfl dX7_port_7 (fun S_2 H locs eS_2 hw => ?_)
  replace h := h S_2 eS_2
  refine lv_iconst (v := 1) hx hb dX7_port_10 (by decide) ?_
  refine lv_istore_n (lv' := [(1, .int (1 : Int32)), (0, .ref (qS 0))]) hx hb dX7_port_11 rfl hl (by decide) rfl (fun ls hl => ?_)
  obtain ⟨n0, h⟩ := h; exact kX7_port_12 M n0 S_2 (1 : Int32) H locs ls hw (lv_sub hl [1, 0] rfl) h
abbrev rmX7_thinks : Room := { frames := 2, cells := 0, slots := 0, locals := 44 }
set_option maxHeartbeats 4000000 in
set_option maxRecDepth 100000 in
theorem m_X7_thinks (l : Launch) (z : KT) (qS : Nat → Nat) (S : RT) (Q : RT → Prop) (h : wX7_thinks S Q) : CV l yX7_thinks cX7_thinks 1 rmX7_thinks z [.ref (qS 0)] (sW z qS S) (fun u : RT => (sW z qS u)) (fun u : RT => Q u) := by
  refine CV.of rfl (Nat.le_of_ble_eq_true rfl) ?_
  intro p e s m below meth c A ls M hw hl
  have M : Mc p s m _ meth c cX7_thinks 1 none RX7 z A := M
  obtain ⟨hx, hb, -, -, hown, hts, -, -, -, hN, hsr, -⟩ := id M
  have hl : lv_has ls 1 [(0, .ref (qS 0))] := hl
  unfold wX7_thinks at h
  generalize s.heap = H at hw ⊢
  generalize ([] : List Loc) = locs at hw ⊢
  refine lv_aload_n hx hb dX7_thinks_0 rfl (lv_at hl 0 rfl) ?_
  refine lv_iconst (v := 2) hx hb dX7_thinks_1 (by decide) ?_
  refine lv_iconst (v := 1) hx hb dX7_thinks_2 (by decide) ?_
  refine fr_Vv (wN := fun u : RT => (sW z qS u)) M (m_X7_passesAll l z qS S (2 : Int32) (1 : Int32) _ h) (cwV 2 hts (gdV cd_X7_passesAll ml_X7_148 im_X7_passesAll se_X7_passesAll in_X7) rfl rfl rfl hdV_X7_passesAll ⟨(Nat.le_of_ble_eq_true rfl), (Nat.le_of_ble_eq_true rfl)⟩) (Cut.self _) (Prm.self _ 17 (fun _ => rfl)) 0 rfl rfl rfl hw rfl hl.1 rfl (Nat.le_of_ble_eq_true rfl) dX7_thinks_3 (fun u_ H locs h hw => ?_)
  obtain ⟨S_1, rfl⟩ : ∃ z9 : RT, z9 = u_ := ⟨_, rfl⟩
  have hw : Hw s z A (sW z qS S_1) H locs := hw
  try dsimp only at h
  exact rt_v M S_1 hw h dX7_thinks_6
abbrev rmX7_forgets : Room := { frames := 2, cells := 0, slots := 0, locals := 44 }
set_option maxHeartbeats 4000000 in
set_option maxRecDepth 100000 in
theorem m_X7_forgets (l : Launch) (z : KT) (qS : Nat → Nat) (S : RT) (Q : RT → Prop) (h : wX7_forgets S Q) : CV l yX7_forgets cX7_forgets 1 rmX7_forgets z [.ref (qS 0)] (sW z qS S) (fun u : RT => (sW z qS u)) (fun u : RT => Q u) := by
  refine CV.of rfl (Nat.le_of_ble_eq_true rfl) ?_
  intro p e s m below meth c A ls M hw hl
  have M : Mc p s m _ meth c cX7_forgets 1 none RX7 z A := M
  obtain ⟨hx, hb, -, -, hown, hts, -, -, -, hN, hsr, -⟩ := id M
  have hl : lv_has ls 1 [(0, .ref (qS 0))] := hl
  unfold wX7_forgets at h
  generalize s.heap = H at hw ⊢
  generalize ([] : List Loc) = locs at hw ⊢
  refine lv_aload_n hx hb dX7_forgets_0 rfl (lv_at hl 0 rfl) ?_
  refine lv_iconst (v := 2) hx hb dX7_forgets_1 (by decide) ?_
  refine lv_iconst (v := 0) hx hb dX7_forgets_2 (by decide) ?_
  refine fr_Vv (wN := fun u : RT => (sW z qS u)) M (m_X7_passesAll l z qS S (2 : Int32) (0 : Int32) _ h) (cwV 2 hts (gdV cd_X7_passesAll ml_X7_148 im_X7_passesAll se_X7_passesAll in_X7) rfl rfl rfl hdV_X7_passesAll ⟨(Nat.le_of_ble_eq_true rfl), (Nat.le_of_ble_eq_true rfl)⟩) (Cut.self _) (Prm.self _ 17 (fun _ => rfl)) 0 rfl rfl rfl hw rfl hl.1 rfl (Nat.le_of_ble_eq_true rfl) dX7_forgets_3 (fun u_ H locs h hw => ?_)
  obtain ⟨S_1, rfl⟩ : ∃ z9 : RT, z9 = u_ := ⟨_, rfl⟩
  have hw : Hw s z A (sW z qS S_1) H locs := hw
  try dsimp only at h
  exact rt_v M S_1 hw h dX7_forgets_6
abbrev rmX7_changesOn : Room := { frames := 2, cells := 0, slots := 0, locals := 44 }
set_option maxHeartbeats 4000000 in
set_option maxRecDepth 100000 in
theorem m_X7_changesOn (l : Launch) (z : KT) (qS : Nat → Nat) (S : RT) (Q : RT → Prop) (h : wX7_changesOn S Q) : CV l yX7_changesOn cX7_changesOn 1 rmX7_changesOn z [.ref (qS 0)] (sW z qS S) (fun u : RT => (sW z qS u)) (fun u : RT => Q u) := by
  refine CV.of rfl (Nat.le_of_ble_eq_true rfl) ?_
  intro p e s m below meth c A ls M hw hl
  have M : Mc p s m _ meth c cX7_changesOn 1 none RX7 z A := M
  obtain ⟨hx, hb, -, -, hown, hts, -, -, -, hN, hsr, -⟩ := id M
  have hl : lv_has ls 1 [(0, .ref (qS 0))] := hl
  unfold wX7_changesOn at h
  generalize s.heap = H at hw ⊢
  generalize ([] : List Loc) = locs at hw ⊢
  refine lv_aload_n hx hb dX7_changesOn_0 rfl (lv_at hl 0 rfl) ?_
  refine lv_iconst (v := 1) hx hb dX7_changesOn_1 (by decide) ?_
  refine lv_iconst (v := 1) hx hb dX7_changesOn_2 (by decide) ?_
  refine fr_Vv (wN := fun u : RT => (sW z qS u)) M (m_X7_passesAll l z qS S (1 : Int32) (1 : Int32) _ h) (cwV 2 hts (gdV cd_X7_passesAll ml_X7_148 im_X7_passesAll se_X7_passesAll in_X7) rfl rfl rfl hdV_X7_passesAll ⟨(Nat.le_of_ble_eq_true rfl), (Nat.le_of_ble_eq_true rfl)⟩) (Cut.self _) (Prm.self _ 17 (fun _ => rfl)) 0 rfl rfl rfl hw rfl hl.1 rfl (Nat.le_of_ble_eq_true rfl) dX7_changesOn_3 (fun u_ H locs h hw => ?_)
  obtain ⟨S_1, rfl⟩ : ∃ z9 : RT, z9 = u_ := ⟨_, rfl⟩
  have hw : Hw s z A (sW z qS S_1) H locs := hw
  try dsimp only at h
  exact rt_v M S_1 hw h dX7_changesOn_6
abbrev rmX7_changesBack : Room := { frames := 2, cells := 0, slots := 0, locals := 44 }
set_option maxHeartbeats 4000000 in
set_option maxRecDepth 100000 in
theorem m_X7_changesBack (l : Launch) (z : KT) (qS : Nat → Nat) (S : RT) (Q : RT → Prop) (h : wX7_changesBack S Q) : CV l yX7_changesBack cX7_changesBack 1 rmX7_changesBack z [.ref (qS 0)] (sW z qS S) (fun u : RT => (sW z qS u)) (fun u : RT => Q u) := by
  refine CV.of rfl (Nat.le_of_ble_eq_true rfl) ?_
  intro p e s m below meth c A ls M hw hl
  have M : Mc p s m _ meth c cX7_changesBack 1 none RX7 z A := M
  obtain ⟨hx, hb, -, -, hown, hts, -, -, -, hN, hsr, -⟩ := id M
  have hl : lv_has ls 1 [(0, .ref (qS 0))] := hl
  unfold wX7_changesBack at h
  generalize s.heap = H at hw ⊢
  generalize ([] : List Loc) = locs at hw ⊢
  refine lv_aload_n hx hb dX7_changesBack_0 rfl (lv_at hl 0 rfl) ?_
  refine lv_iconst (v := 1) hx hb dX7_changesBack_1 (by decide) ?_
  refine lv_iconst (v := 0) hx hb dX7_changesBack_2 (by decide) ?_
  refine fr_Vv (wN := fun u : RT => (sW z qS u)) M (m_X7_passesAll l z qS S (1 : Int32) (0 : Int32) _ h) (cwV 2 hts (gdV cd_X7_passesAll ml_X7_148 im_X7_passesAll se_X7_passesAll in_X7) rfl rfl rfl hdV_X7_passesAll ⟨(Nat.le_of_ble_eq_true rfl), (Nat.le_of_ble_eq_true rfl)⟩) (Cut.self _) (Prm.self _ 17 (fun _ => rfl)) 0 rfl rfl rfl hw rfl hl.1 rfl (Nat.le_of_ble_eq_true rfl) dX7_changesBack_3 (fun u_ H locs h hw => ?_)
  obtain ⟨S_1, rfl⟩ : ∃ z9 : RT, z9 = u_ := ⟨_, rfl⟩
  have hw : Hw s z A (sW z qS S_1) H locs := hw
  try dsimp only at h
  exact rt_v M S_1 hw h dX7_changesBack_6
abbrev rmX7_image : Room := { frames := 2, cells := 0, slots := 0, locals := 44 }
set_option maxHeartbeats 4000000 in
set_option maxRecDepth 100000 in
theorem m_X7_image (l : Launch) (z : KT) (qS : Nat → Nat) (S : RT) (Q : Int32 → RT → Prop) (h : wX7_image S Q) : CI l yX7_image cX7_image 1 .int rmX7_image z [.ref (qS 0)] (sW z qS S) (fun u : RT => (sW z qS u)) (fun (r : Int32) (u : RT) => Q r u) := by
  refine CI.of rfl (Nat.le_of_ble_eq_true rfl) ?_
  intro p e s m below meth c A ls M hw hl
  have M : Mc p s m _ meth c cX7_image 1 (some .int) RX7 z A := M
  obtain ⟨hx, hb, -, -, hown, hts, -, -, -, hN, hsr, -⟩ := id M
  have hl : lv_has ls 1 [(0, .ref (qS 0))] := hl
  unfold wX7_image at h
  generalize s.heap = H at hw ⊢
  generalize ([] : List Loc) = locs at hw ⊢
  refine lv_aload_n hx hb dX7_image_0 rfl (lv_at hl 0 rfl) ?_
  refine lv_iconst (v := 1) hx hb dX7_image_1 (by decide) ?_
  refine st_f (ty := .boolean) (P := S) (r := 30) (j := 20) (wN := fun S_1 => (sW z qS S_1)) M inlX7 tyX7_ok nmX7 hw 0 rfl rfl 20 (by decide) fl_X7_169 rfl rfl rfl (bz_narrow bz1) (bz_fits bz1) (Nat.le_of_ble_eq_true rfl) rfl dX7_image_2 (fun S_1 H locs eS_1 hw => ?_)
  replace h := h S_1 eS_1
  refine lv_aload_n hx hb dX7_image_5 rfl (lv_at hl 0 rfl) ?_
  refine lv_iconst (v := 0) hx hb dX7_image_6 (by decide) ?_
  refine lv_iconst (v := 1) hx hb dX7_image_7 (by decide) ?_
  refine fr_Vv (wN := fun u : RT => (sW z qS u)) M (m_X7_passesAll l z qS S_1 (0 : Int32) (1 : Int32) _ h) (cwV 2 hts (gdV cd_X7_passesAll ml_X7_148 im_X7_passesAll se_X7_passesAll in_X7) rfl rfl rfl hdV_X7_passesAll ⟨(Nat.le_of_ble_eq_true rfl), (Nat.le_of_ble_eq_true rfl)⟩) (Cut.self _) (Prm.self _ 17 (fun _ => rfl)) 0 rfl rfl rfl hw rfl hl.1 rfl (Nat.le_of_ble_eq_true rfl) dX7_image_8 (fun u_ H locs h hw => ?_)
  obtain ⟨S_2, rfl⟩ : ∃ z9 : RT, z9 = u_ := ⟨_, rfl⟩
  have hw : Hw s z A (sW z qS S_2) H locs := hw
  try dsimp only at h
  refine lv_aload_n hx hb dX7_image_11 rfl (lv_at hl 0 rfl) ?_
  refine gt_f (v := .int (S_2 30 10)) M inlX7 hw 0 rfl rfl 10 (by decide) fl_X7_119 rfl rfl dX7_image_12 ?_
  exact rt_i M S_2 hw h dX7_image_15
abbrev rmX7_on : Room := { frames := 2, cells := 0, slots := 0, locals := 44 }
set_option maxHeartbeats 4000000 in
set_option maxRecDepth 100000 in
theorem m_X7_on (l : Launch) (z : KT) (qS : Nat → Nat) (S : RT) (Q : Int32 → RT → Prop) (h : wX7_on S Q) : CI l yX7_on cX7_on 1 .int rmX7_on z [.ref (qS 0)] (sW z qS S) (fun u : RT => (sW z qS u)) (fun (r : Int32) (u : RT) => Q r u) := by
  refine CI.of rfl (Nat.le_of_ble_eq_true rfl) ?_
  intro p e s m below meth c A ls M hw hl
  have M : Mc p s m _ meth c cX7_on 1 (some .int) RX7 z A := M
  obtain ⟨hx, hb, -, -, hown, hts, -, -, -, hN, hsr, -⟩ := id M
  have hl : lv_has ls 1 [(0, .ref (qS 0))] := hl
  unfold wX7_on at h
  generalize s.heap = H at hw ⊢
  generalize ([] : List Loc) = locs at hw ⊢
  refine lv_aload_n hx hb dX7_on_0 rfl (lv_at hl 0 rfl) ?_
  refine gt_f (v := .int (S 30 20)) M inlX7 hw 0 rfl rfl 20 (by decide) fl_X7_169 rfl rfl dX7_on_1 ?_
  refine lv_if_ne (tgt := 14) hx hb dX7_on_4 (by decide) (fun c_1 => ?_) (fun c_1 => ?_)
  · replace h := iF c_1 h
    refine lv_aload_n hx hb dX7_on_14 rfl (lv_at hl 0 rfl) ?_
    refine lv_iconst (v := 0) hx hb dX7_on_15 (by decide) ?_
    refine lv_iconst (v := 0) hx hb dX7_on_16 (by decide) ?_
    refine fr_Vv (wN := fun u : RT => (sW z qS u)) M (m_X7_passesAll l z qS S (0 : Int32) (0 : Int32) _ h) (cwV 2 hts (gdV cd_X7_passesAll ml_X7_148 im_X7_passesAll se_X7_passesAll in_X7) rfl rfl rfl hdV_X7_passesAll ⟨(Nat.le_of_ble_eq_true rfl), (Nat.le_of_ble_eq_true rfl)⟩) (Cut.self _) (Prm.self _ 17 (fun _ => rfl)) 0 rfl rfl rfl hw rfl hl.1 rfl (Nat.le_of_ble_eq_true rfl) dX7_on_17 (fun u_ H locs h hw => ?_)
    obtain ⟨S_2, rfl⟩ : ∃ z9 : RT, z9 = u_ := ⟨_, rfl⟩
    have hw : Hw s z A (sW z qS S_2) H locs := hw
    try dsimp only at h
    refine lv_aload_n hx hb dX7_on_20 rfl (lv_at hl 0 rfl) ?_
    refine gt_f (v := .int (S_2 30 10)) M inlX7 hw 0 rfl rfl 10 (by decide) fl_X7_119 rfl rfl dX7_on_21 ?_
    exact rt_i M S_2 hw h dX7_on_24
  · replace h := iT c_1 h
    refine lv_aload_n hx hb dX7_on_7 rfl (lv_at hl 0 rfl) ?_
    refine lv_bipush (v := -3) hx hb dX7_on_8 (by decide) ?_
    refine fr_Vi (wN := fun u : RT => (sW z qS u)) M (m_X7_no l z qS S (-3 : Int32) _ h) (cwV 1 hts (gdV cd_X7_no ml_X7_81 im_X7_no se_X7_no in_X7) rfl rfl rfl hdV_X7_no ⟨(Nat.le_of_ble_eq_true rfl), (Nat.le_of_ble_eq_true rfl)⟩) (Cut.self _) (Prm.self _ 17 (fun _ => rfl)) 0 rfl rfl rfl hw rfl hl.1 rfl (Nat.le_of_ble_eq_true rfl) dX7_on_10 (fun r_4 u_ H locs h hw => ?_)
    obtain ⟨S_3, rfl⟩ : ∃ z9 : RT, z9 = u_ := ⟨_, rfl⟩
    have hw : Hw s z A (sW z qS S_3) H locs := hw
    try dsimp only at h
    exact rt_i M S_3 hw h dX7_on_13
abbrev rmX7_allHigh : Room := { frames := 0, cells := 0, slots := 0, locals := 0 }
set_option maxHeartbeats 4000000 in
set_option maxRecDepth 100000 in
theorem kX7_allHigh_4 {p : Program} {l : Launch} {e : Env} {s : State} {m : MethodId} {args : Array Value} {below : List Frame} {meth : Method} {c : Code} {z : KT} {A : Nat → Prop} {qS : Nat → Nat} {S : RT} {Q : Int32 → Prop} (M : Mc p s m args meth c cX7_allHigh 3 (some .int) RX7 z A) : ∀ (n : Nat) (x1 : Int32) (x2 : Int32) (H : Heap) (locs : List Loc) (ls : Array Slot), Hw s z A (sW z qS S) H locs → lv_has ls 3 [(0, .ref (qS 0)), (1, .int x1), (2, .int x2)] → bX7_allHigh_4 S Q n x1 x2 → W p l e rmX7_allHigh s m args below meth c H locs 0 0 (MQ below (va_Qi (fun (r : Int32) (_ : Unit) => Q r) (fun u t => cAt z A ((fun _ : Unit => (sW z qS S)) u) t) A) args s 0 0 A) (F0 m 4 ls []) := by
  obtain ⟨hx, hb, -, -, hown, hts, -, -, -, hN, hsr, -⟩ := id M
  intro n
  induction n with
  | zero => intro x1 x2 H locs ls hw hl h; exact False.elim h
  | succ n ih =>
    intro x1 x2 H locs ls hw hl h
    rw [bX7_allHigh_4] at h
    refine lv_iload_n hx hb dX7_allHigh_4 rfl (lv_at hl 2 rfl) ?_
    refine lv_aload_n hx hb dX7_allHigh_5 rfl (lv_at hl 0 rfl) ?_
    refine gt_f (v := .int (S 30 8)) M inlX7 hw 0 rfl rfl 8 (by decide) fl_X7_62 rfl rfl dX7_allHigh_6 ?_
    refine lv_icmp_ge (tgt := 27) hx hb dX7_allHigh_9 (by decide) (fun c_1 => ?_) (fun c_1 => ?_)
    · replace h := iT c_1 h
      refine lv_iload_n hx hb dX7_allHigh_27 rfl (lv_at hl 1 rfl) ?_
      exact rt_i M () hw h dX7_allHigh_28
    · replace h := iF c_1 h
      refine lv_iload_n hx hb dX7_allHigh_12 rfl (lv_at hl 1 rfl) ?_
      refine lv_aload_n hx hb dX7_allHigh_13 rfl (lv_at hl 0 rfl) ?_
      refine gt_f (v := .ref (qS 6)) M inlX7 hw 0 rfl rfl 5 (by decide) fl_X7_25 rfl rfl dX7_allHigh_14 ?_
      refine lv_iload_n hx hb dX7_allHigh_17 rfl (lv_at hl 2 rfl) ?_
      obtain ⟨a_2, h⟩ := h
      refine ld_i M hw 6 rfl a_2 dX7_allHigh_18 ?_
      refine lv_iadd hx hb dX7_allHigh_19 ?_
      refine lv_topi (fun x1_3 ex1_3 => ?_)
      replace h := h x1_3 ex1_3
      refine lv_istore_n (lv' := [(1, .int x1_3), (0, .ref (qS 0)), (2, .int x2)]) hx hb dX7_allHigh_20 rfl hl (by decide) rfl (fun ls hl => ?_)
      obtain ⟨x2_4, ex2_4⟩ : ∃ y : Int32, y = (x2 + (1 : Int32)) := ⟨_, rfl⟩
      replace h := h x2_4 ex2_4
      refine lv_iinc (v := x2_4) (lv' := [(2, .int x2_4), (1, .int x1_3), (0, .ref (qS 0))]) hx hb dX7_allHigh_21 hl (k := 2) rfl (by rw [ex2_4]; rfl) (by decide) rfl (fun ls hl => ?_)
      refine lv_goto (tgt := 4) hx hb dX7_allHigh_24 (by decide) ?_
      exact ih x1_3 x2_4 H locs ls hw (lv_sub hl [2, 1, 0] rfl) h
set_option maxHeartbeats 4000000 in
set_option maxRecDepth 100000 in
theorem m_X7_allHigh (l : Launch) (z : KT) (qS : Nat → Nat) (S : RT) (Q : Int32 → Prop) (h : wX7_allHigh S Q) : CI l yX7_allHigh cX7_allHigh 3 .int rmX7_allHigh z [.ref (qS 0)] (sW z qS S) (fun _ : Unit => (sW z qS S)) (fun (r : Int32) (_ : Unit) => Q r) := by
  refine CI.of rfl (Nat.le_of_ble_eq_true rfl) ?_
  intro p e s m below meth c A ls M hw hl
  have M : Mc p s m _ meth c cX7_allHigh 3 (some .int) RX7 z A := M
  obtain ⟨hx, hb, -, -, hown, hts, -, -, -, hN, hsr, -⟩ := id M
  have hl : lv_has ls 3 [(0, .ref (qS 0))] := hl
  unfold wX7_allHigh at h
  generalize s.heap = H at hw ⊢
  generalize ([] : List Loc) = locs at hw ⊢
  refine lv_iconst (v := 0) hx hb dX7_allHigh_0 (by decide) ?_
  refine lv_istore_n (lv' := [(1, .int (0 : Int32)), (0, .ref (qS 0))]) hx hb dX7_allHigh_1 rfl hl (by decide) rfl (fun ls hl => ?_)
  refine lv_iconst (v := 0) hx hb dX7_allHigh_2 (by decide) ?_
  refine lv_istore_n (lv' := [(2, .int (0 : Int32)), (1, .int (0 : Int32)), (0, .ref (qS 0))]) hx hb dX7_allHigh_3 rfl hl (by decide) rfl (fun ls hl => ?_)
  obtain ⟨n0, h⟩ := h; exact kX7_allHigh_4 M n0 (0 : Int32) (0 : Int32) H locs ls hw (lv_sub hl [2, 1, 0] rfl) h
abbrev rmX7_thing : Room := { frames := 3, cells := 0, slots := 0, locals := 68 }
set_option maxHeartbeats 4000000 in
set_option maxRecDepth 100000 in
theorem m_X7_thing (l : Launch) (z : KT) (qS : Nat → Nat) (S : RT) (x1 : Int32) (x2 : Int32) (Q : Int32 → RT → Prop) (h : wX7_thing S x1 x2 Q) : CI l yX7_thing cX7_thing 3 .int rmX7_thing z [.ref (qS 0), .int x1, .int x2] (sW z qS S) (fun u : RT => (sW z qS u)) (fun (r : Int32) (u : RT) => Q r u) := by
  refine CI.of rfl (Nat.le_of_ble_eq_true rfl) ?_
  intro p e s m below meth c A ls M hw hl
  have M : Mc p s m _ meth c cX7_thing 3 (some .int) RX7 z A := M
  obtain ⟨hx, hb, -, -, hown, hts, -, -, -, hN, hsr, -⟩ := id M
  have hl : lv_has ls 3 [(0, .ref (qS 0)), (1, .int x1), (2, .int x2)] := hl
  unfold wX7_thing at h
  generalize s.heap = H at hw ⊢
  generalize ([] : List Loc) = locs at hw ⊢
  refine lv_aload_n hx hb dX7_thing_0 rfl (lv_at hl 0 rfl) ?_
  refine lv_iload_n hx hb dX7_thing_1 rfl (lv_at hl 1 rfl) ?_
  refine fr_Vi (wN := fun _ : Unit => (sW z qS S)) M (m_X7_isThing l z qS S x1 _ h) (cwV 1 hts (gdV cd_X7_isThing ml_X7_70 im_X7_isThing se_X7_isThing in_X7) rfl rfl rfl hdV_X7_isThing ⟨(Nat.le_of_ble_eq_true rfl), (Nat.le_of_ble_eq_true rfl)⟩) (Cut.self _) (Prm.self _ 17 (fun _ => rfl)) 0 rfl rfl rfl hw rfl hl.1 rfl (Nat.le_of_ble_eq_true rfl) dX7_thing_2 (fun r_1 u_ H locs h hw => ?_)
  have hw : Hw s z A (sW z qS S) H locs := hw
  try dsimp only at h
  refine lv_if_ne (tgt := 14) hx hb dX7_thing_5 (by decide) (fun c_2 => ?_) (fun c_2 => ?_)
  · replace h := iF c_2 h
    refine lv_iload_n hx hb dX7_thing_14 rfl (lv_at hl 2 rfl) ?_
    by_cases c_4 : x2 = (0 : Int32)
    · replace h := iT c_4 h
      refine lv_tableIn (tgt := 52) hx hb dX7_thing_15 (by rw [c_4]; decide) (by rw [c_4]; decide) (by rw [c_4]; rfl) (by decide) ?_
      refine lv_aload_n hx hb dX7_thing_52 rfl (lv_at hl 0 rfl) ?_
      refine gt_f (v := .ref (qS 2)) M inlX7 hw 0 rfl rfl 1 (by decide) fl_X7_13 rfl rfl dX7_thing_53 ?_
      refine lv_iload_n hx hb dX7_thing_56 rfl (lv_at hl 1 rfl) ?_
      obtain ⟨a_5, h⟩ := h
      refine ld_i M hw 2 rfl a_5 dX7_thing_57 ?_
      exact rt_i M S hw h dX7_thing_58
    replace h := iF c_4 h
    by_cases c_6 : x2 = (1 : Int32)
    · replace h := iT c_6 h
      refine lv_tableIn (tgt := 59) hx hb dX7_thing_15 (by rw [c_6]; decide) (by rw [c_6]; decide) (by rw [c_6]; rfl) (by decide) ?_
      refine lv_aload_n hx hb dX7_thing_59 rfl (lv_at hl 0 rfl) ?_
      refine gt_f (v := .ref (qS 3)) M inlX7 hw 0 rfl rfl 2 (by decide) fl_X7_16 rfl rfl dX7_thing_60 ?_
      refine lv_iload_n hx hb dX7_thing_63 rfl (lv_at hl 1 rfl) ?_
      obtain ⟨a_7, h⟩ := h
      refine ld_i M hw 3 rfl a_7 dX7_thing_64 ?_
      exact rt_i M S hw h dX7_thing_65
    replace h := iF c_6 h
    by_cases c_8 : x2 = (2 : Int32)
    · replace h := iT c_8 h
      refine lv_tableIn (tgt := 66) hx hb dX7_thing_15 (by rw [c_8]; decide) (by rw [c_8]; decide) (by rw [c_8]; rfl) (by decide) ?_
      refine lv_aload_n hx hb dX7_thing_66 rfl (lv_at hl 0 rfl) ?_
      refine gt_f (v := .ref (qS 4)) M inlX7 hw 0 rfl rfl 3 (by decide) fl_X7_19 rfl rfl dX7_thing_67 ?_
      refine lv_iload_n hx hb dX7_thing_70 rfl (lv_at hl 1 rfl) ?_
      obtain ⟨a_9, h⟩ := h
      refine ld_i M hw 4 rfl a_9 dX7_thing_71 ?_
      exact rt_i M S hw h dX7_thing_72
    replace h := iF c_8 h
    by_cases c_10 : x2 = (3 : Int32)
    · replace h := iT c_10 h
      refine lv_tableIn (tgt := 73) hx hb dX7_thing_15 (by rw [c_10]; decide) (by rw [c_10]; decide) (by rw [c_10]; rfl) (by decide) ?_
      refine lv_aload_n hx hb dX7_thing_73 rfl (lv_at hl 0 rfl) ?_
      refine gt_f (v := .ref (qS 5)) M inlX7 hw 0 rfl rfl 4 (by decide) fl_X7_22 rfl rfl dX7_thing_74 ?_
      refine lv_iload_n hx hb dX7_thing_77 rfl (lv_at hl 1 rfl) ?_
      obtain ⟨a_11, h⟩ := h
      refine ld_i M hw 5 rfl a_11 dX7_thing_78 ?_
      exact rt_i M S hw h dX7_thing_79
    replace h := iF c_10 h
    by_cases c_12 : x2 = (4 : Int32)
    · replace h := iT c_12 h
      refine lv_tableIn (tgt := 80) hx hb dX7_thing_15 (by rw [c_12]; decide) (by rw [c_12]; decide) (by rw [c_12]; rfl) (by decide) ?_
      refine lv_aload_n hx hb dX7_thing_80 rfl (lv_at hl 0 rfl) ?_
      refine gt_f (v := .ref (qS 6)) M inlX7 hw 0 rfl rfl 5 (by decide) fl_X7_25 rfl rfl dX7_thing_81 ?_
      refine lv_iload_n hx hb dX7_thing_84 rfl (lv_at hl 1 rfl) ?_
      obtain ⟨a_13, h⟩ := h
      refine ld_i M hw 6 rfl a_13 dX7_thing_85 ?_
      exact rt_i M S hw h dX7_thing_86
    replace h := iF c_12 h
    by_cases c_14 : x2 = (5 : Int32)
    · replace h := iT c_14 h
      refine lv_tableIn (tgt := 87) hx hb dX7_thing_15 (by rw [c_14]; decide) (by rw [c_14]; decide) (by rw [c_14]; rfl) (by decide) ?_
      refine lv_aload_n hx hb dX7_thing_87 rfl (lv_at hl 0 rfl) ?_
      refine lv_iload_n hx hb dX7_thing_88 rfl (lv_at hl 1 rfl) ?_
      refine fr_Vi (wN := fun _ : Unit => (sW z qS S)) M (m_X7_heft l z qS S x1 _ h) (cwV 1 hts (gdV cd_X7_heft ml_X7_176 im_X7_heft se_X7_heft in_X7) rfl rfl rfl hdV_X7_heft ⟨(Nat.le_of_ble_eq_true rfl), (Nat.le_of_ble_eq_true rfl)⟩) (Cut.self _) (Prm.self _ 17 (fun _ => rfl)) 0 rfl rfl rfl hw rfl hl.1 rfl (Nat.le_of_ble_eq_true rfl) dX7_thing_89 (fun r_15 u_ H locs h hw => ?_)
      have hw : Hw s z A (sW z qS S) H locs := hw
      try dsimp only at h
      exact rt_i M S hw h dX7_thing_92
    replace h := iF c_14 h
    refine lv_tableOut (tgt := 93) hx hb dX7_thing_15 (by have q0 := lv_neT (a := 0) c_4 (by decide); have q1 := lv_neT (a := 1) c_6 (by decide); have q2 := lv_neT (a := 2) c_8 (by decide); have q3 := lv_neT (a := 3) c_10 (by decide); have q4 := lv_neT (a := 4) c_12 (by decide); have q5 := lv_neT (a := 5) c_14 (by decide); omega) (by decide) ?_
    refine lv_aload_n hx hb dX7_thing_93 rfl (lv_at hl 0 rfl) ?_
    refine lv_bipush (v := -2) hx hb dX7_thing_94 (by decide) ?_
    refine fr_Vi (wN := fun u : RT => (sW z qS u)) M (m_X7_no l z qS S (-2 : Int32) _ h) (cwV 1 hts (gdV cd_X7_no ml_X7_81 im_X7_no se_X7_no in_X7) rfl rfl rfl hdV_X7_no ⟨(Nat.le_of_ble_eq_true rfl), (Nat.le_of_ble_eq_true rfl)⟩) (Cut.self _) (Prm.self _ 17 (fun _ => rfl)) 0 rfl rfl rfl hw rfl hl.1 rfl (Nat.le_of_ble_eq_true rfl) dX7_thing_96 (fun r_17 u_ H locs h hw => ?_)
    obtain ⟨S_16, rfl⟩ : ∃ z9 : RT, z9 = u_ := ⟨_, rfl⟩
    have hw : Hw s z A (sW z qS S_16) H locs := hw
    try dsimp only at h
    exact rt_i M S_16 hw h dX7_thing_99
  · replace h := iT c_2 h
    refine lv_aload_n hx hb dX7_thing_8 rfl (lv_at hl 0 rfl) ?_
    refine lv_iconst (v := -1) hx hb dX7_thing_9 (by decide) ?_
    refine fr_Vi (wN := fun u : RT => (sW z qS u)) M (m_X7_no l z qS S (-1 : Int32) _ h) (cwV 1 hts (gdV cd_X7_no ml_X7_81 im_X7_no se_X7_no in_X7) rfl rfl rfl hdV_X7_no ⟨(Nat.le_of_ble_eq_true rfl), (Nat.le_of_ble_eq_true rfl)⟩) (Cut.self _) (Prm.self _ 17 (fun _ => rfl)) 0 rfl rfl rfl hw rfl hl.1 rfl (Nat.le_of_ble_eq_true rfl) dX7_thing_10 (fun r_19 u_ H locs h hw => ?_)
    obtain ⟨S_18, rfl⟩ : ∃ z9 : RT, z9 = u_ := ⟨_, rfl⟩
    have hw : Hw s z A (sW z qS S_18) H locs := hw
    try dsimp only at h
    exact rt_i M S_18 hw h dX7_thing_13
abbrev rmX7_rope : Room := { frames := 4, cells := 0, slots := 0, locals := 90 }
set_option maxHeartbeats 4000000 in
set_option maxRecDepth 100000 in
theorem m_X7_rope (l : Launch) (z : KT) (qS : Nat → Nat) (S : RT) (x1 : Int32) (x2 : Int32) (Q : Int32 → RT → Prop) (h : wX7_rope S x1 x2 Q) : CI l yX7_rope cX7_rope 3 .int rmX7_rope z [.ref (qS 0), .int x1, .int x2] (sW z qS S) (fun u : RT => (sW z qS u)) (fun (r : Int32) (u : RT) => Q r u) := by
  refine CI.of rfl (Nat.le_of_ble_eq_true rfl) ?_
  intro p e s m below meth c A ls M hw hl
  have M : Mc p s m _ meth c cX7_rope 3 (some .int) RX7 z A := M
  obtain ⟨hx, hb, -, -, hown, hts, -, -, -, hN, hsr, -⟩ := id M
  have hl : lv_has ls 3 [(0, .ref (qS 0)), (1, .int x1), (2, .int x2)] := hl
  unfold wX7_rope at h
  generalize s.heap = H at hw ⊢
  generalize ([] : List Loc) = locs at hw ⊢
  refine lv_aload_n hx hb dX7_rope_0 rfl (lv_at hl 0 rfl) ?_
  refine lv_iload_n hx hb dX7_rope_1 rfl (lv_at hl 1 rfl) ?_
  refine fr_Vi (wN := fun _ : Unit => (sW z qS S)) M (m_X7_isRope l z qS S x1 _ h) (cwV 1 hts (gdV cd_X7_isRope ml_X7_132 im_X7_isRope se_X7_isRope in_X7) rfl rfl rfl hdV_X7_isRope ⟨(Nat.le_of_ble_eq_true rfl), (Nat.le_of_ble_eq_true rfl)⟩) (Cut.self _) (Prm.self _ 17 (fun _ => rfl)) 0 rfl rfl rfl hw rfl hl.1 rfl (Nat.le_of_ble_eq_true rfl) dX7_rope_2 (fun r_1 u_ H locs h hw => ?_)
  have hw : Hw s z A (sW z qS S) H locs := hw
  try dsimp only at h
  refine lv_if_ne (tgt := 14) hx hb dX7_rope_5 (by decide) (fun c_2 => ?_) (fun c_2 => ?_)
  · replace h := iF c_2 h
    refine lv_iload_n hx hb dX7_rope_14 rfl (lv_at hl 2 rfl) ?_
    refine lv_if_ne (tgt := 27) hx hb dX7_rope_15 (by decide) (fun c_3 => ?_) (fun c_3 => ?_)
    · replace h := iF c_3 h
      refine lv_iload_n hx hb dX7_rope_27 rfl (lv_at hl 2 rfl) ?_
      refine lv_iconst (v := 1) hx hb dX7_rope_28 (by decide) ?_
      refine lv_icmp_ne (tgt := 41) hx hb dX7_rope_29 (by decide) (fun c_4 => ?_) (fun c_4 => ?_)
      · replace h := iF c_4 h
        refine lv_iload_n hx hb dX7_rope_41 rfl (lv_at hl 2 rfl) ?_
        refine lv_iconst (v := 2) hx hb dX7_rope_42 (by decide) ?_
        refine lv_icmp_ne (tgt := 54) hx hb dX7_rope_43 (by decide) (fun c_5 => ?_) (fun c_5 => ?_)
        · replace h := iF c_5 h
          refine lv_aload_n hx hb dX7_rope_54 rfl (lv_at hl 0 rfl) ?_
          refine lv_bipush (v := -2) hx hb dX7_rope_55 (by decide) ?_
          refine fr_Vi (wN := fun u : RT => (sW z qS u)) M (m_X7_no l z qS S (-2 : Int32) _ h) (cwV 1 hts (gdV cd_X7_no ml_X7_81 im_X7_no se_X7_no in_X7) rfl rfl rfl hdV_X7_no ⟨(Nat.le_of_ble_eq_true rfl), (Nat.le_of_ble_eq_true rfl)⟩) (Cut.self _) (Prm.self _ 17 (fun _ => rfl)) 0 rfl rfl rfl hw rfl hl.1 rfl (Nat.le_of_ble_eq_true rfl) dX7_rope_57 (fun r_7 u_ H locs h hw => ?_)
          obtain ⟨S_6, rfl⟩ : ∃ z9 : RT, z9 = u_ := ⟨_, rfl⟩
          have hw : Hw s z A (sW z qS S_6) H locs := hw
          try dsimp only at h
          exact rt_i M S_6 hw h dX7_rope_60
        · replace h := iT c_5 h
          refine lv_aload_n hx hb dX7_rope_46 rfl (lv_at hl 0 rfl) ?_
          refine lv_iload_n hx hb dX7_rope_47 rfl (lv_at hl 1 rfl) ?_
          refine fr_Vi (wN := fun _ : Unit => (sW z qS S)) M (m_X7_holdsTo l z qS S x1 _ h) (cwV 1 hts (gdV cd_X7_holdsTo ml_X7_179 im_X7_holdsTo se_X7_holdsTo in_X7) rfl rfl rfl hdV_X7_holdsTo ⟨(Nat.le_of_ble_eq_true rfl), (Nat.le_of_ble_eq_true rfl)⟩) (Cut.self _) (Prm.self _ 17 (fun _ => rfl)) 0 rfl rfl rfl hw rfl hl.1 rfl (Nat.le_of_ble_eq_true rfl) dX7_rope_48 (fun r_8 u_ H locs h hw => ?_)
          have hw : Hw s z A (sW z qS S) H locs := hw
          try dsimp only at h
          refine lv_goto (tgt := 60) hx hb dX7_rope_51 (by decide) ?_
          exact rt_i M S hw h dX7_rope_60
      · replace h := iT c_4 h
        refine lv_aload_n hx hb dX7_rope_32 rfl (lv_at hl 0 rfl) ?_
        refine gt_f (v := .ref (qS 8)) M inlX7 hw 0 rfl rfl 7 (by decide) fl_X7_31 rfl rfl dX7_rope_33 ?_
        refine lv_iload_n hx hb dX7_rope_36 rfl (lv_at hl 1 rfl) ?_
        obtain ⟨a_9, h⟩ := h
        refine ld_i M hw 8 rfl a_9 dX7_rope_37 ?_
        refine lv_goto (tgt := 60) hx hb dX7_rope_38 (by decide) ?_
        exact rt_i M S hw h dX7_rope_60
    · replace h := iT c_3 h
      refine lv_aload_n hx hb dX7_rope_18 rfl (lv_at hl 0 rfl) ?_
      refine gt_f (v := .ref (qS 7)) M inlX7 hw 0 rfl rfl 6 (by decide) fl_X7_28 rfl rfl dX7_rope_19 ?_
      refine lv_iload_n hx hb dX7_rope_22 rfl (lv_at hl 1 rfl) ?_
      obtain ⟨a_10, h⟩ := h
      refine ld_i M hw 7 rfl a_10 dX7_rope_23 ?_
      refine lv_goto (tgt := 60) hx hb dX7_rope_24 (by decide) ?_
      exact rt_i M S hw h dX7_rope_60
  · replace h := iT c_2 h
    refine lv_aload_n hx hb dX7_rope_8 rfl (lv_at hl 0 rfl) ?_
    refine lv_iconst (v := -1) hx hb dX7_rope_9 (by decide) ?_
    refine fr_Vi (wN := fun u : RT => (sW z qS u)) M (m_X7_no l z qS S (-1 : Int32) _ h) (cwV 1 hts (gdV cd_X7_no ml_X7_81 im_X7_no se_X7_no in_X7) rfl rfl rfl hdV_X7_no ⟨(Nat.le_of_ble_eq_true rfl), (Nat.le_of_ble_eq_true rfl)⟩) (Cut.self _) (Prm.self _ 17 (fun _ => rfl)) 0 rfl rfl rfl hw rfl hl.1 rfl (Nat.le_of_ble_eq_true rfl) dX7_rope_10 (fun r_12 u_ H locs h hw => ?_)
    obtain ⟨S_11, rfl⟩ : ∃ z9 : RT, z9 = u_ := ⟨_, rfl⟩
    have hw : Hw s z A (sW z qS S_11) H locs := hw
    try dsimp only at h
    exact rt_i M S_11 hw h dX7_rope_13
abbrev rmX7_ties : Room := { frames := 2, cells := 0, slots := 0, locals := 43 }
set_option maxHeartbeats 4000000 in
set_option maxRecDepth 100000 in
theorem kX7_ties_28 {p : Program} {l : Launch} {e : Env} {s : State} {m : MethodId} {args : Array Value} {below : List Frame} {meth : Method} {c : Code} {z : KT} {A : Nat → Prop} {qS : Nat → Nat} {Q : Int32 → RT → Prop} (M : Mc p s m args meth c cX7_ties 4 (some .int) RX7 z A) : ∀ (S : RT) (x1 : Int32) (x2 : Int32) (t0 : Int32) (H : Heap) (locs : List Loc) (ls : Array Slot), Hw s z A (sW z qS S) H locs → lv_has ls 4 [(0, .ref (qS 0)), (1, .int x1), (2, .int x2)] → bX7_ties_28 Q S x1 x2 t0 → W p l e rmX7_ties s m args below meth c H locs 0 0 (MQ below (va_Qi (fun (r : Int32) (u : RT) => Q r u) (fun u t => cAt z A ((fun u : RT => (sW z qS u)) u) t) A) args s 0 0 A) (F0 m 28 ls [.int t0]) := by
  obtain ⟨hx, hb, -, -, hown, hts, -, -, -, hN, hsr, -⟩ := id M
  intro S x1 x2 t0 H locs ls hw hl h
  unfold bX7_ties_28 at h
  refine lv_istore_n (lv' := [(3, .int t0), (0, .ref (qS 0)), (1, .int x1), (2, .int x2)]) hx hb dX7_ties_28 rfl hl (by decide) rfl (fun ls hl => ?_)
  refine lv_iload_n hx hb dX7_ties_29 rfl (lv_at hl 0 rfl) ?_
  refine lv_if_eq (tgt := 39) hx hb dX7_ties_30 (by decide) (fun c_1 => ?_) (fun c_1 => ?_)
  · replace h := iT c_1 h
    refine lv_aload_n hx hb dX7_ties_39 rfl (lv_at hl 1 rfl) ?_
    refine lv_iload_n hx hb dX7_ties_40 rfl (lv_at hl 2 rfl) ?_
    refine lv_iload_n hx hb dX7_ties_41 rfl (lv_at hl 3 rfl) ?_
    refine fr_Vv (wN := fun u : RT => (sW z qS u)) M (m_X7_adds l z qS S x1 x2 _ h) (cwV 2 hts (gdV cd_X7_adds ml_X7_115 im_X7_adds se_X7_adds in_X7) rfl rfl rfl hdV_X7_adds ⟨(Nat.le_of_ble_eq_true rfl), (Nat.le_of_ble_eq_true rfl)⟩) (Cut.self _) (Prm.self _ 17 (fun _ => rfl)) 0 rfl rfl rfl hw rfl hl.1 rfl (Nat.le_of_ble_eq_true rfl) dX7_ties_42 (fun u_ H locs h hw => ?_)
    obtain ⟨S_2, rfl⟩ : ∃ z9 : RT, z9 = u_ := ⟨_, rfl⟩
    have hw : Hw s z A (sW z qS S_2) H locs := hw
    try dsimp only at h
    refine lv_aload_n hx hb dX7_ties_45 rfl (lv_at hl 1 rfl) ?_
    refine gt_f (v := .int (S_2 30 9)) M inlX7 hw 0 rfl rfl 9 (by decide) fl_X7_67 rfl rfl dX7_ties_46 ?_
    refine lv_iconst (v := 1) hx hb dX7_ties_49 (by decide) ?_
    refine lv_isub hx hb dX7_ties_50 ?_
    exact rt_i M S_2 hw h dX7_ties_51
  · replace h := iF c_1 h
    refine lv_aload_n hx hb dX7_ties_33 rfl (lv_at hl 1 rfl) ?_
    refine lv_iload_n hx hb dX7_ties_34 rfl (lv_at hl 0 rfl) ?_
    refine fr_Vi (wN := fun u : RT => (sW z qS u)) M (m_X7_no l z qS S t0 _ h) (cwV 1 hts (gdV cd_X7_no ml_X7_81 im_X7_no se_X7_no in_X7) rfl rfl rfl hdV_X7_no ⟨(Nat.le_of_ble_eq_true rfl), (Nat.le_of_ble_eq_true rfl)⟩) (Cut.self _) (Prm.self _ 17 (fun _ => rfl)) 0 rfl rfl rfl hw rfl hl.1 rfl (Nat.le_of_ble_eq_true rfl) dX7_ties_35 (fun r_4 u_ H locs h hw => ?_)
    obtain ⟨S_3, rfl⟩ : ∃ z9 : RT, z9 = u_ := ⟨_, rfl⟩
    have hw : Hw s z A (sW z qS S_3) H locs := hw
    try dsimp only at h
    exact rt_i M S_3 hw h dX7_ties_38
set_option maxHeartbeats 4000000 in
set_option maxRecDepth 100000 in
theorem m_X7_ties (l : Launch) (z : KT) (qS : Nat → Nat) (S : RT) (x1 : Int32) (x2 : Int32) (Q : Int32 → RT → Prop) (h : wX7_ties S x1 x2 Q) : CI l yX7_ties cX7_ties 4 .int rmX7_ties z [.ref (qS 0), .int x1, .int x2] (sW z qS S) (fun u : RT => (sW z qS u)) (fun (r : Int32) (u : RT) => Q r u) := by
  refine CI.of rfl (Nat.le_of_ble_eq_true rfl) ?_
  intro p e s m below meth c A ls M hw hl
  have M : Mc p s m _ meth c cX7_ties 4 (some .int) RX7 z A := M
  obtain ⟨hx, hb, -, -, hown, hts, -, -, -, hN, hsr, -⟩ := id M
  have hl : lv_has ls 4 [(0, .ref (qS 0)), (1, .int x1), (2, .int x2)] := hl
  unfold wX7_ties at h
  generalize s.heap = H at hw ⊢
  generalize ([] : List Loc) = locs at hw ⊢
  refine lv_aload_n hx hb dX7_ties_0 rfl (lv_at hl 0 rfl) ?_
  refine lv_iload_n hx hb dX7_ties_1 rfl (lv_at hl 1 rfl) ?_
  refine lv_iload_n hx hb dX7_ties_2 rfl (lv_at hl 2 rfl) ?_
  refine fr_Vi (wN := fun _ : Unit => (sW z qS S)) M (m_X7_areTwo l z qS S x1 x2 _ h) (cwV 2 hts (gdV cd_X7_areTwo ml_X7_112 im_X7_areTwo se_X7_areTwo in_X7) rfl rfl rfl hdV_X7_areTwo ⟨(Nat.le_of_ble_eq_true rfl), (Nat.le_of_ble_eq_true rfl)⟩) (Cut.self _) (Prm.self _ 17 (fun _ => rfl)) 0 rfl rfl rfl hw rfl hl.1 rfl (Nat.le_of_ble_eq_true rfl) dX7_ties_3 (fun r_1 u_ H locs h hw => ?_)
  have hw : Hw s z A (sW z qS S) H locs := hw
  try dsimp only at h
  refine lv_if_ne (tgt := 13) hx hb dX7_ties_6 (by decide) (fun c_2 => ?_) (fun c_2 => ?_)
  · replace h := iF c_2 h
    refine lv_aload_n hx hb dX7_ties_13 rfl (lv_at hl 0 rfl) ?_
    refine gt_f (v := .int (S 30 9)) M inlX7 hw 0 rfl rfl 9 (by decide) fl_X7_67 rfl rfl dX7_ties_14 ?_
    refine lv_bipush (v := 6) hx hb dX7_ties_17 (by decide) ?_
    refine lv_icmp_ne (tgt := 27) hx hb dX7_ties_19 (by decide) (fun c_3 => ?_) (fun c_3 => ?_)
    · replace h := iF c_3 h
      refine lv_iconst (v := 0) hx hb dX7_ties_27 (by decide) ?_
      exact kX7_ties_28 M S x1 x2 (0 : Int32) H locs ls hw (lv_sub hl [0, 1, 2] rfl) h
    · replace h := iT c_3 h
      refine lv_bipush (v := -6) hx hb dX7_ties_22 (by decide) ?_
      refine lv_goto (tgt := 28) hx hb dX7_ties_24 (by decide) ?_
      exact kX7_ties_28 M S x1 x2 (-6 : Int32) H locs ls hw (lv_sub hl [0, 1, 2] rfl) h
  · replace h := iT c_2 h
    refine lv_iconst (v := -1) hx hb dX7_ties_9 (by decide) ?_
    refine lv_goto (tgt := 28) hx hb dX7_ties_10 (by decide) ?_
    exact kX7_ties_28 M S x1 x2 (-1 : Int32) H locs ls hw (lv_sub hl [0, 1, 2] rfl) h
abbrev rmX7_cuts : Room := { frames := 1, cells := 0, slots := 0, locals := 22 }
set_option maxHeartbeats 4000000 in
set_option maxRecDepth 100000 in
theorem m_X7_cuts (l : Launch) (z : KT) (qS : Nat → Nat) (S : RT) (x1 : Int32) (Q : Int32 → RT → Prop) (h : wX7_cuts S x1 Q) : CI l yX7_cuts cX7_cuts 2 .int rmX7_cuts z [.ref (qS 0), .int x1] (sW z qS S) (fun u : RT => (sW z qS u)) (fun (r : Int32) (u : RT) => Q r u) := by
  refine CI.of rfl (Nat.le_of_ble_eq_true rfl) ?_
  intro p e s m below meth c A ls M hw hl
  have M : Mc p s m _ meth c cX7_cuts 2 (some .int) RX7 z A := M
  obtain ⟨hx, hb, -, -, hown, hts, -, -, -, hN, hsr, -⟩ := id M
  have hl : lv_has ls 2 [(0, .ref (qS 0)), (1, .int x1)] := hl
  unfold wX7_cuts at h
  generalize s.heap = H at hw ⊢
  generalize ([] : List Loc) = locs at hw ⊢
  refine lv_aload_n hx hb dX7_cuts_0 rfl (lv_at hl 0 rfl) ?_
  refine lv_iload_n hx hb dX7_cuts_1 rfl (lv_at hl 1 rfl) ?_
  refine fr_Vi (wN := fun _ : Unit => (sW z qS S)) M (m_X7_isRope l z qS S x1 _ h) (cwV 1 hts (gdV cd_X7_isRope ml_X7_132 im_X7_isRope se_X7_isRope in_X7) rfl rfl rfl hdV_X7_isRope ⟨(Nat.le_of_ble_eq_true rfl), (Nat.le_of_ble_eq_true rfl)⟩) (Cut.self _) (Prm.self _ 17 (fun _ => rfl)) 0 rfl rfl rfl hw rfl hl.1 rfl (Nat.le_of_ble_eq_true rfl) dX7_cuts_2 (fun r_1 u_ H locs h hw => ?_)
  have hw : Hw s z A (sW z qS S) H locs := hw
  try dsimp only at h
  refine lv_if_ne (tgt := 14) hx hb dX7_cuts_5 (by decide) (fun c_2 => ?_) (fun c_2 => ?_)
  · replace h := iF c_2 h
    refine lv_aload_n hx hb dX7_cuts_14 rfl (lv_at hl 0 rfl) ?_
    refine lv_iload_n hx hb dX7_cuts_15 rfl (lv_at hl 1 rfl) ?_
    refine fr_Vv (wN := fun u : RT => (sW z qS u)) M (m_X7_drops l z qS S x1 _ h) (cwV 1 hts (gdV cd_X7_drops ml_X7_135 im_X7_drops se_X7_drops in_X7) rfl rfl rfl hdV_X7_drops ⟨(Nat.le_of_ble_eq_true rfl), (Nat.le_of_ble_eq_true rfl)⟩) (Cut.self _) (Prm.self _ 17 (fun _ => rfl)) 0 rfl rfl rfl hw rfl hl.1 rfl (Nat.le_of_ble_eq_true rfl) dX7_cuts_16 (fun u_ H locs h hw => ?_)
    obtain ⟨S_3, rfl⟩ : ∃ z9 : RT, z9 = u_ := ⟨_, rfl⟩
    have hw : Hw s z A (sW z qS S_3) H locs := hw
    try dsimp only at h
    refine lv_aload_n hx hb dX7_cuts_19 rfl (lv_at hl 0 rfl) ?_
    refine gt_f (v := .int (S_3 30 9)) M inlX7 hw 0 rfl rfl 9 (by decide) fl_X7_67 rfl rfl dX7_cuts_20 ?_
    exact rt_i M S_3 hw h dX7_cuts_23
  · replace h := iT c_2 h
    refine lv_aload_n hx hb dX7_cuts_8 rfl (lv_at hl 0 rfl) ?_
    refine lv_iconst (v := -1) hx hb dX7_cuts_9 (by decide) ?_
    refine fr_Vi (wN := fun u : RT => (sW z qS u)) M (m_X7_no l z qS S (-1 : Int32) _ h) (cwV 1 hts (gdV cd_X7_no ml_X7_81 im_X7_no se_X7_no in_X7) rfl rfl rfl hdV_X7_no ⟨(Nat.le_of_ble_eq_true rfl), (Nat.le_of_ble_eq_true rfl)⟩) (Cut.self _) (Prm.self _ 17 (fun _ => rfl)) 0 rfl rfl rfl hw rfl hl.1 rfl (Nat.le_of_ble_eq_true rfl) dX7_cuts_10 (fun r_5 u_ H locs h hw => ?_)
    obtain ⟨S_4, rfl⟩ : ∃ z9 : RT, z9 = u_ := ⟨_, rfl⟩
    have hw : Hw s z A (sW z qS S_4) H locs := hw
    try dsimp only at h
    exact rt_i M S_4 hw h dX7_cuts_13
abbrev rmX7_becomes_3 : Room := { frames := 1, cells := 0, slots := 0, locals := 22 }
set_option maxHeartbeats 4000000 in
set_option maxRecDepth 100000 in
theorem kX7_becomes_3_19 {p : Program} {l : Launch} {e : Env} {s : State} {m : MethodId} {args : Array Value} {below : List Frame} {meth : Method} {c : Code} {z : KT} {A : Nat → Prop} {qS : Nat → Nat} {Q : Int32 → RT → Prop} (M : Mc p s m args meth c cX7_becomes 7 (some .int) RX7 z A) : ∀ (S : RT) (x2 : Int32) (x3 : Int32) (t0 : Int32) (H : Heap) (locs : List Loc) (ls : Array Slot), Hw s z A (sW z qS S) H locs → lv_has ls 7 [(0, .ref (qS 0)), (1, .ref (qS 4)), (2, .int x2), (3, .int x3)] → bX7_becomes_3_19 Q S x2 x3 t0 → W p l e rmX7_becomes_3 s m args below meth c H locs 0 0 (MQ below (va_Qi (fun (r : Int32) (u : RT) => Q r u) (fun u t => cAt z A ((fun u : RT => (sW z qS u)) u) t) A) args s 0 0 A) (F0 m 19 ls [.int t0]) := by
  obtain ⟨hx, hb, -, -, hown, hts, -, -, -, hN, hsr, -⟩ := id M
  intro S x2 x3 t0 H locs ls hw hl h
  unfold bX7_becomes_3_19 at h
  refine lv_istore (lv' := [(5, .int t0), (0, .ref (qS 0)), (1, .ref (qS 4)), (2, .int x2), (3, .int x3)]) hx hb dX7_becomes_19 hl (by decide) rfl (fun ls hl => ?_)
  refine lv_iload hx hb dX7_becomes_21 (lv_at hl 0 rfl) ?_
  refine lv_if_eq (tgt := 33) hx hb dX7_becomes_23 (by decide) (fun c_1 => ?_) (fun c_1 => ?_)
  · replace h := iT c_1 h
    refine lv_aload_n hx hb dX7_becomes_33 rfl (lv_at hl 2 rfl) ?_
    refine lv_iload_n hx hb dX7_becomes_34 rfl (lv_at hl 3 rfl) ?_
    obtain ⟨a_2, h⟩ := h
    refine ld_i M hw 4 rfl a_2 dX7_becomes_35 ?_
    refine lv_topi (fun x6_3 ex6_3 => ?_)
    replace h := h x6_3 ex6_3
    refine lv_istore (lv' := [(6, .int x6_3), (5, .int t0), (0, .ref (qS 0)), (1, .ref (qS 4)), (2, .int x2), (3, .int x3)]) hx hb dX7_becomes_36 hl (by decide) rfl (fun ls hl => ?_)
    refine lv_aload_n hx hb dX7_becomes_38 rfl (lv_at hl 3 rfl) ?_
    refine lv_iload_n hx hb dX7_becomes_39 rfl (lv_at hl 4 rfl) ?_
    refine lv_iload_n hx hb dX7_becomes_40 rfl (lv_at hl 5 rfl) ?_
    refine st_i (P := S) (r := 3) (wN := fun S_4 => (sW z qS S_4)) M hw 4 rfl rfl a_2 dX7_becomes_41 (fun S_4 H locs eS_4 hw => ?_)
    replace h := h S_4 eS_4
    refine lv_iload hx hb dX7_becomes_42 (lv_at hl 0 rfl) ?_
    exact rt_i M S_4 hw h dX7_becomes_44
  · replace h := iF c_1 h
    refine lv_aload_n hx hb dX7_becomes_26 rfl (lv_at hl 1 rfl) ?_
    refine lv_iload hx hb dX7_becomes_27 (lv_at hl 0 rfl) ?_
    refine fr_Vi (wN := fun u : RT => (sW z qS u)) M (m_X7_no l z qS S t0 _ h) (cwV 1 hts (gdV cd_X7_no ml_X7_81 im_X7_no se_X7_no in_X7) rfl rfl rfl hdV_X7_no ⟨(Nat.le_of_ble_eq_true rfl), (Nat.le_of_ble_eq_true rfl)⟩) (Cut.self _) (Prm.self _ 17 (fun _ => rfl)) 0 rfl rfl rfl hw rfl hl.1 rfl (Nat.le_of_ble_eq_true rfl) dX7_becomes_29 (fun r_6 u_ H locs h hw => ?_)
    obtain ⟨S_5, rfl⟩ : ∃ z9 : RT, z9 = u_ := ⟨_, rfl⟩
    have hw : Hw s z A (sW z qS S_5) H locs := hw
    try dsimp only at h
    exact rt_i M S_5 hw h dX7_becomes_32
set_option maxHeartbeats 4000000 in
set_option maxRecDepth 100000 in
theorem m_X7_becomes_3 (l : Launch) (z : KT) (qS : Nat → Nat) (S : RT) (x2 : Int32) (x3 : Int32) (x4 : Int32) (Q : Int32 → RT → Prop) (h : wX7_becomes_3 S x2 x3 x4 Q) : CI l yX7_becomes cX7_becomes 7 .int rmX7_becomes_3 z [.ref (qS 0), .ref (qS 4), .int x2, .int x3, .int x4] (sW z qS S) (fun u : RT => (sW z qS u)) (fun (r : Int32) (u : RT) => Q r u) := by
  refine CI.of rfl (Nat.le_of_ble_eq_true rfl) ?_
  intro p e s m below meth c A ls M hw hl
  have M : Mc p s m _ meth c cX7_becomes 7 (some .int) RX7 z A := M
  obtain ⟨hx, hb, -, -, hown, hts, -, -, -, hN, hsr, -⟩ := id M
  have hl : lv_has ls 7 [(0, .ref (qS 0)), (1, .ref (qS 4)), (2, .int x2), (3, .int x3), (4, .int x4)] := hl
  unfold wX7_becomes_3 at h
  generalize s.heap = H at hw ⊢
  generalize ([] : List Loc) = locs at hw ⊢
  refine lv_aload_n hx hb dX7_becomes_0 rfl (lv_at hl 0 rfl) ?_
  refine lv_iload_n hx hb dX7_becomes_1 rfl (lv_at hl 2 rfl) ?_
  refine fr_Vi (wN := fun _ : Unit => (sW z qS S)) M (m_X7_isThing l z qS S x2 _ h) (cwV 1 hts (gdV cd_X7_isThing ml_X7_70 im_X7_isThing se_X7_isThing in_X7) rfl rfl rfl hdV_X7_isThing ⟨(Nat.le_of_ble_eq_true rfl), (Nat.le_of_ble_eq_true rfl)⟩) (Cut.self _) (Prm.self _ 17 (fun _ => rfl)) 0 rfl rfl rfl hw rfl hl.1 rfl (Nat.le_of_ble_eq_true rfl) dX7_becomes_2 (fun r_1 u_ H locs h hw => ?_)
  have hw : Hw s z A (sW z qS S) H locs := hw
  try dsimp only at h
  refine lv_if_ne (tgt := 12) hx hb dX7_becomes_5 (by decide) (fun c_2 => ?_) (fun c_2 => ?_)
  · replace h := iF c_2 h
    refine lv_iload_n hx hb dX7_becomes_12 rfl (lv_at hl 3 rfl) ?_
    refine lv_iconst (v := 0) hx hb dX7_becomes_13 (by decide) ?_
    refine lv_iload hx hb dX7_becomes_14 (lv_at hl 4 rfl) ?_
    refine fr_Si (wN := fun _ : Unit => (sW z qS S)) M (m_X7_bound l z x3 (0 : Int32) x4 _ h) (va_cwS 3 hts (gdS cd_X7_bound ml_X7_74 st_X7_bound in_X7) rfl rfl rfl hdS_X7_bound ⟨(Nat.le_of_ble_eq_true rfl), (Nat.le_of_ble_eq_true rfl)⟩) (Cut.none _) (Prm.none _) hw rfl hl.1 rfl (Nat.le_of_ble_eq_true rfl) dX7_becomes_16 (fun r_3 u_ H locs h hw => ?_)
    have hw : Hw s z A (sW z qS S) H locs := hw
    try dsimp only at h
    exact kX7_becomes_3_19 M S x2 x3 r_3 H locs ls hw (lv_sub hl [0, 1, 2, 3] rfl) h
  · replace h := iT c_2 h
    refine lv_iconst (v := -1) hx hb dX7_becomes_8 (by decide) ?_
    refine lv_goto (tgt := 19) hx hb dX7_becomes_9 (by decide) ?_
    exact kX7_becomes_3_19 M S x2 x3 (-1 : Int32) H locs ls hw (lv_sub hl [0, 1, 2, 3] rfl) h
abbrev rmX7_becomes_4 : Room := { frames := 1, cells := 0, slots := 0, locals := 22 }
set_option maxHeartbeats 4000000 in
set_option maxRecDepth 100000 in
theorem kX7_becomes_4_19 {p : Program} {l : Launch} {e : Env} {s : State} {m : MethodId} {args : Array Value} {below : List Frame} {meth : Method} {c : Code} {z : KT} {A : Nat → Prop} {qS : Nat → Nat} {Q : Int32 → RT → Prop} (M : Mc p s m args meth c cX7_becomes 7 (some .int) RX7 z A) : ∀ (S : RT) (x2 : Int32) (x3 : Int32) (t0 : Int32) (H : Heap) (locs : List Loc) (ls : Array Slot), Hw s z A (sW z qS S) H locs → lv_has ls 7 [(0, .ref (qS 0)), (1, .ref (qS 5)), (2, .int x2), (3, .int x3)] → bX7_becomes_4_19 Q S x2 x3 t0 → W p l e rmX7_becomes_4 s m args below meth c H locs 0 0 (MQ below (va_Qi (fun (r : Int32) (u : RT) => Q r u) (fun u t => cAt z A ((fun u : RT => (sW z qS u)) u) t) A) args s 0 0 A) (F0 m 19 ls [.int t0]) := by
  obtain ⟨hx, hb, -, -, hown, hts, -, -, -, hN, hsr, -⟩ := id M
  intro S x2 x3 t0 H locs ls hw hl h
  unfold bX7_becomes_4_19 at h
  refine lv_istore (lv' := [(5, .int t0), (0, .ref (qS 0)), (1, .ref (qS 5)), (2, .int x2), (3, .int x3)]) hx hb dX7_becomes_19 hl (by decide) rfl (fun ls hl => ?_)
  refine lv_iload hx hb dX7_becomes_21 (lv_at hl 0 rfl) ?_
  refine lv_if_eq (tgt := 33) hx hb dX7_becomes_23 (by decide) (fun c_1 => ?_) (fun c_1 => ?_)
  · replace h := iT c_1 h
    refine lv_aload_n hx hb dX7_becomes_33 rfl (lv_at hl 2 rfl) ?_
    refine lv_iload_n hx hb dX7_becomes_34 rfl (lv_at hl 3 rfl) ?_
    obtain ⟨a_2, h⟩ := h
    refine ld_i M hw 5 rfl a_2 dX7_becomes_35 ?_
    refine lv_topi (fun x6_3 ex6_3 => ?_)
    replace h := h x6_3 ex6_3
    refine lv_istore (lv' := [(6, .int x6_3), (5, .int t0), (0, .ref (qS 0)), (1, .ref (qS 5)), (2, .int x2), (3, .int x3)]) hx hb dX7_becomes_36 hl (by decide) rfl (fun ls hl => ?_)
    refine lv_aload_n hx hb dX7_becomes_38 rfl (lv_at hl 3 rfl) ?_
    refine lv_iload_n hx hb dX7_becomes_39 rfl (lv_at hl 4 rfl) ?_
    refine lv_iload_n hx hb dX7_becomes_40 rfl (lv_at hl 5 rfl) ?_
    refine st_i (P := S) (r := 4) (wN := fun S_4 => (sW z qS S_4)) M hw 5 rfl rfl a_2 dX7_becomes_41 (fun S_4 H locs eS_4 hw => ?_)
    replace h := h S_4 eS_4
    refine lv_iload hx hb dX7_becomes_42 (lv_at hl 0 rfl) ?_
    exact rt_i M S_4 hw h dX7_becomes_44
  · replace h := iF c_1 h
    refine lv_aload_n hx hb dX7_becomes_26 rfl (lv_at hl 1 rfl) ?_
    refine lv_iload hx hb dX7_becomes_27 (lv_at hl 0 rfl) ?_
    refine fr_Vi (wN := fun u : RT => (sW z qS u)) M (m_X7_no l z qS S t0 _ h) (cwV 1 hts (gdV cd_X7_no ml_X7_81 im_X7_no se_X7_no in_X7) rfl rfl rfl hdV_X7_no ⟨(Nat.le_of_ble_eq_true rfl), (Nat.le_of_ble_eq_true rfl)⟩) (Cut.self _) (Prm.self _ 17 (fun _ => rfl)) 0 rfl rfl rfl hw rfl hl.1 rfl (Nat.le_of_ble_eq_true rfl) dX7_becomes_29 (fun r_6 u_ H locs h hw => ?_)
    obtain ⟨S_5, rfl⟩ : ∃ z9 : RT, z9 = u_ := ⟨_, rfl⟩
    have hw : Hw s z A (sW z qS S_5) H locs := hw
    try dsimp only at h
    exact rt_i M S_5 hw h dX7_becomes_32
set_option maxHeartbeats 4000000 in
set_option maxRecDepth 100000 in
theorem m_X7_becomes_4 (l : Launch) (z : KT) (qS : Nat → Nat) (S : RT) (x2 : Int32) (x3 : Int32) (x4 : Int32) (Q : Int32 → RT → Prop) (h : wX7_becomes_4 S x2 x3 x4 Q) : CI l yX7_becomes cX7_becomes 7 .int rmX7_becomes_4 z [.ref (qS 0), .ref (qS 5), .int x2, .int x3, .int x4] (sW z qS S) (fun u : RT => (sW z qS u)) (fun (r : Int32) (u : RT) => Q r u) := by
  refine CI.of rfl (Nat.le_of_ble_eq_true rfl) ?_
  intro p e s m below meth c A ls M hw hl
  have M : Mc p s m _ meth c cX7_becomes 7 (some .int) RX7 z A := M
  obtain ⟨hx, hb, -, -, hown, hts, -, -, -, hN, hsr, -⟩ := id M
  have hl : lv_has ls 7 [(0, .ref (qS 0)), (1, .ref (qS 5)), (2, .int x2), (3, .int x3), (4, .int x4)] := hl
  unfold wX7_becomes_4 at h
  generalize s.heap = H at hw ⊢
  generalize ([] : List Loc) = locs at hw ⊢
  refine lv_aload_n hx hb dX7_becomes_0 rfl (lv_at hl 0 rfl) ?_
  refine lv_iload_n hx hb dX7_becomes_1 rfl (lv_at hl 2 rfl) ?_
  refine fr_Vi (wN := fun _ : Unit => (sW z qS S)) M (m_X7_isThing l z qS S x2 _ h) (cwV 1 hts (gdV cd_X7_isThing ml_X7_70 im_X7_isThing se_X7_isThing in_X7) rfl rfl rfl hdV_X7_isThing ⟨(Nat.le_of_ble_eq_true rfl), (Nat.le_of_ble_eq_true rfl)⟩) (Cut.self _) (Prm.self _ 17 (fun _ => rfl)) 0 rfl rfl rfl hw rfl hl.1 rfl (Nat.le_of_ble_eq_true rfl) dX7_becomes_2 (fun r_1 u_ H locs h hw => ?_)
  have hw : Hw s z A (sW z qS S) H locs := hw
  try dsimp only at h
  refine lv_if_ne (tgt := 12) hx hb dX7_becomes_5 (by decide) (fun c_2 => ?_) (fun c_2 => ?_)
  · replace h := iF c_2 h
    refine lv_iload_n hx hb dX7_becomes_12 rfl (lv_at hl 3 rfl) ?_
    refine lv_iconst (v := 0) hx hb dX7_becomes_13 (by decide) ?_
    refine lv_iload hx hb dX7_becomes_14 (lv_at hl 4 rfl) ?_
    refine fr_Si (wN := fun _ : Unit => (sW z qS S)) M (m_X7_bound l z x3 (0 : Int32) x4 _ h) (va_cwS 3 hts (gdS cd_X7_bound ml_X7_74 st_X7_bound in_X7) rfl rfl rfl hdS_X7_bound ⟨(Nat.le_of_ble_eq_true rfl), (Nat.le_of_ble_eq_true rfl)⟩) (Cut.none _) (Prm.none _) hw rfl hl.1 rfl (Nat.le_of_ble_eq_true rfl) dX7_becomes_16 (fun r_3 u_ H locs h hw => ?_)
    have hw : Hw s z A (sW z qS S) H locs := hw
    try dsimp only at h
    exact kX7_becomes_4_19 M S x2 x3 r_3 H locs ls hw (lv_sub hl [0, 1, 2, 3] rfl) h
  · replace h := iT c_2 h
    refine lv_iconst (v := -1) hx hb dX7_becomes_8 (by decide) ?_
    refine lv_goto (tgt := 19) hx hb dX7_becomes_9 (by decide) ?_
    exact kX7_becomes_4_19 M S x2 x3 (-1 : Int32) H locs ls hw (lv_sub hl [0, 1, 2, 3] rfl) h
abbrev rmX7_becomes_5 : Room := { frames := 1, cells := 0, slots := 0, locals := 22 }
set_option maxHeartbeats 4000000 in
set_option maxRecDepth 100000 in
theorem kX7_becomes_5_19 {p : Program} {l : Launch} {e : Env} {s : State} {m : MethodId} {args : Array Value} {below : List Frame} {meth : Method} {c : Code} {z : KT} {A : Nat → Prop} {qS : Nat → Nat} {Q : Int32 → RT → Prop} (M : Mc p s m args meth c cX7_becomes 7 (some .int) RX7 z A) : ∀ (S : RT) (x2 : Int32) (x3 : Int32) (t0 : Int32) (H : Heap) (locs : List Loc) (ls : Array Slot), Hw s z A (sW z qS S) H locs → lv_has ls 7 [(0, .ref (qS 0)), (1, .ref (qS 6)), (2, .int x2), (3, .int x3)] → bX7_becomes_5_19 Q S x2 x3 t0 → W p l e rmX7_becomes_5 s m args below meth c H locs 0 0 (MQ below (va_Qi (fun (r : Int32) (u : RT) => Q r u) (fun u t => cAt z A ((fun u : RT => (sW z qS u)) u) t) A) args s 0 0 A) (F0 m 19 ls [.int t0]) := by
  obtain ⟨hx, hb, -, -, hown, hts, -, -, -, hN, hsr, -⟩ := id M
  intro S x2 x3 t0 H locs ls hw hl h
  unfold bX7_becomes_5_19 at h
  refine lv_istore (lv' := [(5, .int t0), (0, .ref (qS 0)), (1, .ref (qS 6)), (2, .int x2), (3, .int x3)]) hx hb dX7_becomes_19 hl (by decide) rfl (fun ls hl => ?_)
  refine lv_iload hx hb dX7_becomes_21 (lv_at hl 0 rfl) ?_
  refine lv_if_eq (tgt := 33) hx hb dX7_becomes_23 (by decide) (fun c_1 => ?_) (fun c_1 => ?_)
  · replace h := iT c_1 h
    refine lv_aload_n hx hb dX7_becomes_33 rfl (lv_at hl 2 rfl) ?_
    refine lv_iload_n hx hb dX7_becomes_34 rfl (lv_at hl 3 rfl) ?_
    obtain ⟨a_2, h⟩ := h
    refine ld_i M hw 6 rfl a_2 dX7_becomes_35 ?_
    refine lv_topi (fun x6_3 ex6_3 => ?_)
    replace h := h x6_3 ex6_3
    refine lv_istore (lv' := [(6, .int x6_3), (5, .int t0), (0, .ref (qS 0)), (1, .ref (qS 6)), (2, .int x2), (3, .int x3)]) hx hb dX7_becomes_36 hl (by decide) rfl (fun ls hl => ?_)
    refine lv_aload_n hx hb dX7_becomes_38 rfl (lv_at hl 3 rfl) ?_
    refine lv_iload_n hx hb dX7_becomes_39 rfl (lv_at hl 4 rfl) ?_
    refine lv_iload_n hx hb dX7_becomes_40 rfl (lv_at hl 5 rfl) ?_
    refine st_i (P := S) (r := 5) (wN := fun S_4 => (sW z qS S_4)) M hw 6 rfl rfl a_2 dX7_becomes_41 (fun S_4 H locs eS_4 hw => ?_)
    replace h := h S_4 eS_4
    refine lv_iload hx hb dX7_becomes_42 (lv_at hl 0 rfl) ?_
    exact rt_i M S_4 hw h dX7_becomes_44
  · replace h := iF c_1 h
    refine lv_aload_n hx hb dX7_becomes_26 rfl (lv_at hl 1 rfl) ?_
    refine lv_iload hx hb dX7_becomes_27 (lv_at hl 0 rfl) ?_
    refine fr_Vi (wN := fun u : RT => (sW z qS u)) M (m_X7_no l z qS S t0 _ h) (cwV 1 hts (gdV cd_X7_no ml_X7_81 im_X7_no se_X7_no in_X7) rfl rfl rfl hdV_X7_no ⟨(Nat.le_of_ble_eq_true rfl), (Nat.le_of_ble_eq_true rfl)⟩) (Cut.self _) (Prm.self _ 17 (fun _ => rfl)) 0 rfl rfl rfl hw rfl hl.1 rfl (Nat.le_of_ble_eq_true rfl) dX7_becomes_29 (fun r_6 u_ H locs h hw => ?_)
    obtain ⟨S_5, rfl⟩ : ∃ z9 : RT, z9 = u_ := ⟨_, rfl⟩
    have hw : Hw s z A (sW z qS S_5) H locs := hw
    try dsimp only at h
    exact rt_i M S_5 hw h dX7_becomes_32
set_option maxHeartbeats 4000000 in
set_option maxRecDepth 100000 in
theorem m_X7_becomes_5 (l : Launch) (z : KT) (qS : Nat → Nat) (S : RT) (x2 : Int32) (x3 : Int32) (x4 : Int32) (Q : Int32 → RT → Prop) (h : wX7_becomes_5 S x2 x3 x4 Q) : CI l yX7_becomes cX7_becomes 7 .int rmX7_becomes_5 z [.ref (qS 0), .ref (qS 6), .int x2, .int x3, .int x4] (sW z qS S) (fun u : RT => (sW z qS u)) (fun (r : Int32) (u : RT) => Q r u) := by
  refine CI.of rfl (Nat.le_of_ble_eq_true rfl) ?_
  intro p e s m below meth c A ls M hw hl
  have M : Mc p s m _ meth c cX7_becomes 7 (some .int) RX7 z A := M
  obtain ⟨hx, hb, -, -, hown, hts, -, -, -, hN, hsr, -⟩ := id M
  have hl : lv_has ls 7 [(0, .ref (qS 0)), (1, .ref (qS 6)), (2, .int x2), (3, .int x3), (4, .int x4)] := hl
  unfold wX7_becomes_5 at h
  generalize s.heap = H at hw ⊢
  generalize ([] : List Loc) = locs at hw ⊢
  refine lv_aload_n hx hb dX7_becomes_0 rfl (lv_at hl 0 rfl) ?_
  refine lv_iload_n hx hb dX7_becomes_1 rfl (lv_at hl 2 rfl) ?_
  refine fr_Vi (wN := fun _ : Unit => (sW z qS S)) M (m_X7_isThing l z qS S x2 _ h) (cwV 1 hts (gdV cd_X7_isThing ml_X7_70 im_X7_isThing se_X7_isThing in_X7) rfl rfl rfl hdV_X7_isThing ⟨(Nat.le_of_ble_eq_true rfl), (Nat.le_of_ble_eq_true rfl)⟩) (Cut.self _) (Prm.self _ 17 (fun _ => rfl)) 0 rfl rfl rfl hw rfl hl.1 rfl (Nat.le_of_ble_eq_true rfl) dX7_becomes_2 (fun r_1 u_ H locs h hw => ?_)
  have hw : Hw s z A (sW z qS S) H locs := hw
  try dsimp only at h
  refine lv_if_ne (tgt := 12) hx hb dX7_becomes_5 (by decide) (fun c_2 => ?_) (fun c_2 => ?_)
  · replace h := iF c_2 h
    refine lv_iload_n hx hb dX7_becomes_12 rfl (lv_at hl 3 rfl) ?_
    refine lv_iconst (v := 0) hx hb dX7_becomes_13 (by decide) ?_
    refine lv_iload hx hb dX7_becomes_14 (lv_at hl 4 rfl) ?_
    refine fr_Si (wN := fun _ : Unit => (sW z qS S)) M (m_X7_bound l z x3 (0 : Int32) x4 _ h) (va_cwS 3 hts (gdS cd_X7_bound ml_X7_74 st_X7_bound in_X7) rfl rfl rfl hdS_X7_bound ⟨(Nat.le_of_ble_eq_true rfl), (Nat.le_of_ble_eq_true rfl)⟩) (Cut.none _) (Prm.none _) hw rfl hl.1 rfl (Nat.le_of_ble_eq_true rfl) dX7_becomes_16 (fun r_3 u_ H locs h hw => ?_)
    have hw : Hw s z A (sW z qS S) H locs := hw
    try dsimp only at h
    exact kX7_becomes_5_19 M S x2 x3 r_3 H locs ls hw (lv_sub hl [0, 1, 2, 3] rfl) h
  · replace h := iT c_2 h
    refine lv_iconst (v := -1) hx hb dX7_becomes_8 (by decide) ?_
    refine lv_goto (tgt := 19) hx hb dX7_becomes_9 (by decide) ?_
    exact kX7_becomes_5_19 M S x2 x3 (-1 : Int32) H locs ls hw (lv_sub hl [0, 1, 2, 3] rfl) h
abbrev rmX7_stones : Room := { frames := 2, cells := 0, slots := 0, locals := 48 }
set_option maxHeartbeats 4000000 in
set_option maxRecDepth 100000 in
theorem m_X7_stones (l : Launch) (z : KT) (qS : Nat → Nat) (S : RT) (x1 : Int32) (x2 : Int32) (Q : Int32 → RT → Prop) (h : wX7_stones S x1 x2 Q) : CI l yX7_stones cX7_stones 3 .int rmX7_stones z [.ref (qS 0), .int x1, .int x2] (sW z qS S) (fun u : RT => (sW z qS u)) (fun (r : Int32) (u : RT) => Q r u) := by
  refine CI.of rfl (Nat.le_of_ble_eq_true rfl) ?_
  intro p e s m below meth c A ls M hw hl
  have M : Mc p s m _ meth c cX7_stones 3 (some .int) RX7 z A := M
  obtain ⟨hx, hb, -, -, hown, hts, -, -, -, hN, hsr, -⟩ := id M
  have hl : lv_has ls 3 [(0, .ref (qS 0)), (1, .int x1), (2, .int x2)] := hl
  unfold wX7_stones at h
  generalize s.heap = H at hw ⊢
  generalize ([] : List Loc) = locs at hw ⊢
  refine lv_aload_n hx hb dX7_stones_0 rfl (lv_at hl 0 rfl) ?_
  refine lv_aload_n hx hb dX7_stones_1 rfl (lv_at hl 0 rfl) ?_
  refine gt_f (v := .ref (qS 5)) M inlX7 hw 0 rfl rfl 4 (by decide) fl_X7_22 rfl rfl dX7_stones_2 ?_
  refine lv_iload_n hx hb dX7_stones_5 rfl (lv_at hl 1 rfl) ?_
  refine lv_iload_n hx hb dX7_stones_6 rfl (lv_at hl 2 rfl) ?_
  refine lv_bipush (v := 9) hx hb dX7_stones_7 (by decide) ?_
  refine fr_Vi (wN := fun u : RT => (sW z qS u)) M (m_X7_becomes_4 l z qS S x1 x2 (9 : Int32) _ h) (cwV 4 hts (gdV cd_X7_becomes ml_X7_191 im_X7_becomes se_X7_becomes in_X7) rfl rfl rfl hdV_X7_becomes ⟨(Nat.le_of_ble_eq_true rfl), (Nat.le_of_ble_eq_true rfl)⟩) (Cut.self _) (Prm.self _ 17 (fun _ => rfl)) 0 rfl rfl rfl hw rfl hl.1 rfl (Nat.le_of_ble_eq_true rfl) dX7_stones_9 (fun r_2 u_ H locs h hw => ?_)
  obtain ⟨S_1, rfl⟩ : ∃ z9 : RT, z9 = u_ := ⟨_, rfl⟩
  have hw : Hw s z A (sW z qS S_1) H locs := hw
  try dsimp only at h
  exact rt_i M S_1 hw h dX7_stones_12
abbrev rmX7_weighs : Room := { frames := 2, cells := 0, slots := 0, locals := 48 }
set_option maxHeartbeats 4000000 in
set_option maxRecDepth 100000 in
theorem m_X7_weighs (l : Launch) (z : KT) (qS : Nat → Nat) (S : RT) (x1 : Int32) (x2 : Int32) (Q : Int32 → RT → Prop) (h : wX7_weighs S x1 x2 Q) : CI l yX7_weighs cX7_weighs 3 .int rmX7_weighs z [.ref (qS 0), .int x1, .int x2] (sW z qS S) (fun u : RT => (sW z qS u)) (fun (r : Int32) (u : RT) => Q r u) := by
  refine CI.of rfl (Nat.le_of_ble_eq_true rfl) ?_
  intro p e s m below meth c A ls M hw hl
  have M : Mc p s m _ meth c cX7_weighs 3 (some .int) RX7 z A := M
  obtain ⟨hx, hb, -, -, hown, hts, -, -, -, hN, hsr, -⟩ := id M
  have hl : lv_has ls 3 [(0, .ref (qS 0)), (1, .int x1), (2, .int x2)] := hl
  unfold wX7_weighs at h
  generalize s.heap = H at hw ⊢
  generalize ([] : List Loc) = locs at hw ⊢
  refine lv_aload_n hx hb dX7_weighs_0 rfl (lv_at hl 0 rfl) ?_
  refine lv_aload_n hx hb dX7_weighs_1 rfl (lv_at hl 0 rfl) ?_
  refine gt_f (v := .ref (qS 4)) M inlX7 hw 0 rfl rfl 3 (by decide) fl_X7_19 rfl rfl dX7_weighs_2 ?_
  refine lv_iload_n hx hb dX7_weighs_5 rfl (lv_at hl 1 rfl) ?_
  refine lv_iload_n hx hb dX7_weighs_6 rfl (lv_at hl 2 rfl) ?_
  refine lv_bipush (v := 60) hx hb dX7_weighs_7 (by decide) ?_
  refine fr_Vi (wN := fun u : RT => (sW z qS u)) M (m_X7_becomes_3 l z qS S x1 x2 (60 : Int32) _ h) (cwV 4 hts (gdV cd_X7_becomes ml_X7_191 im_X7_becomes se_X7_becomes in_X7) rfl rfl rfl hdV_X7_becomes ⟨(Nat.le_of_ble_eq_true rfl), (Nat.le_of_ble_eq_true rfl)⟩) (Cut.self _) (Prm.self _ 17 (fun _ => rfl)) 0 rfl rfl rfl hw rfl hl.1 rfl (Nat.le_of_ble_eq_true rfl) dX7_weighs_9 (fun r_2 u_ H locs h hw => ?_)
  obtain ⟨S_1, rfl⟩ : ∃ z9 : RT, z9 = u_ := ⟨_, rfl⟩
  have hw : Hw s z A (sW z qS S_1) H locs := hw
  try dsimp only at h
  exact rt_i M S_1 hw h dX7_weighs_12
abbrev rmX7_lifts : Room := { frames := 2, cells := 0, slots := 0, locals := 48 }
set_option maxHeartbeats 4000000 in
set_option maxRecDepth 100000 in
theorem m_X7_lifts (l : Launch) (z : KT) (qS : Nat → Nat) (S : RT) (x1 : Int32) (x2 : Int32) (Q : Int32 → RT → Prop) (h : wX7_lifts S x1 x2 Q) : CI l yX7_lifts cX7_lifts 3 .int rmX7_lifts z [.ref (qS 0), .int x1, .int x2] (sW z qS S) (fun u : RT => (sW z qS u)) (fun (r : Int32) (u : RT) => Q r u) := by
  refine CI.of rfl (Nat.le_of_ble_eq_true rfl) ?_
  intro p e s m below meth c A ls M hw hl
  have M : Mc p s m _ meth c cX7_lifts 3 (some .int) RX7 z A := M
  obtain ⟨hx, hb, -, -, hown, hts, -, -, -, hN, hsr, -⟩ := id M
  have hl : lv_has ls 3 [(0, .ref (qS 0)), (1, .int x1), (2, .int x2)] := hl
  unfold wX7_lifts at h
  generalize s.heap = H at hw ⊢
  generalize ([] : List Loc) = locs at hw ⊢
  refine lv_aload_n hx hb dX7_lifts_0 rfl (lv_at hl 0 rfl) ?_
  refine lv_aload_n hx hb dX7_lifts_1 rfl (lv_at hl 0 rfl) ?_
  refine gt_f (v := .ref (qS 6)) M inlX7 hw 0 rfl rfl 5 (by decide) fl_X7_25 rfl rfl dX7_lifts_2 ?_
  refine lv_iload_n hx hb dX7_lifts_5 rfl (lv_at hl 1 rfl) ?_
  refine lv_iload_n hx hb dX7_lifts_6 rfl (lv_at hl 2 rfl) ?_
  refine lv_bipush (v := 20) hx hb dX7_lifts_7 (by decide) ?_
  refine fr_Vi (wN := fun u : RT => (sW z qS u)) M (m_X7_becomes_5 l z qS S x1 x2 (20 : Int32) _ h) (cwV 4 hts (gdV cd_X7_becomes ml_X7_191 im_X7_becomes se_X7_becomes in_X7) rfl rfl rfl hdV_X7_becomes ⟨(Nat.le_of_ble_eq_true rfl), (Nat.le_of_ble_eq_true rfl)⟩) (Cut.self _) (Prm.self _ 17 (fun _ => rfl)) 0 rfl rfl rfl hw rfl hl.1 rfl (Nat.le_of_ble_eq_true rfl) dX7_lifts_9 (fun r_2 u_ H locs h hw => ?_)
  obtain ⟨S_1, rfl⟩ : ∃ z9 : RT, z9 = u_ := ⟨_, rfl⟩
  have hw : Hw s z A (sW z qS S_1) H locs := hw
  try dsimp only at h
  exact rt_i M S_1 hw h dX7_lifts_12
abbrev rmX7_turn : Room := { frames := 1, cells := 0, slots := 0, locals := 22 }
set_option maxHeartbeats 4000000 in
set_option maxRecDepth 100000 in
theorem kX7_turn_33 {p : Program} {l : Launch} {e : Env} {s : State} {m : MethodId} {args : Array Value} {below : List Frame} {meth : Method} {c : Code} {z : KT} {A : Nat → Prop} {qS : Nat → Nat} {Q : Int32 → RT → Prop} (M : Mc p s m args meth c cX7_turn 6 (some .int) RX7 z A) : ∀ (S : RT) (x1 : Int32) (x2 : Int32) (x3 : Int32) (t0 : Int32) (H : Heap) (locs : List Loc) (ls : Array Slot), Hw s z A (sW z qS S) H locs → lv_has ls 6 [(0, .ref (qS 0)), (1, .int x1), (2, .int x2), (3, .int x3)] → bX7_turn_33 Q S x1 x2 x3 t0 → W p l e rmX7_turn s m args below meth c H locs 0 0 (MQ below (va_Qi (fun (r : Int32) (u : RT) => Q r u) (fun u t => cAt z A ((fun u : RT => (sW z qS u)) u) t) A) args s 0 0 A) (F0 m 33 ls [.int t0]) := by
  obtain ⟨hx, hb, -, -, hown, hts, -, -, -, hN, hsr, -⟩ := id M
  intro S x1 x2 x3 t0 H locs ls hw hl h
  unfold bX7_turn_33 at h
  refine lv_istore (lv' := [(4, .int t0), (0, .ref (qS 0)), (1, .int x1), (2, .int x2), (3, .int x3)]) hx hb dX7_turn_33 hl (by decide) rfl (fun ls hl => ?_)
  refine lv_iload hx hb dX7_turn_35 (lv_at hl 0 rfl) ?_
  refine lv_if_eq (tgt := 47) hx hb dX7_turn_37 (by decide) (fun c_1 => ?_) (fun c_1 => ?_)
  · replace h := iT c_1 h
    refine lv_bipush (v := 10) hx hb dX7_turn_47 (by decide) ?_
    refine lv_aload_n hx hb dX7_turn_49 rfl (lv_at hl 1 rfl) ?_
    refine gt_f (v := .ref (qS 2)) M inlX7 hw 0 rfl rfl 1 (by decide) fl_X7_13 rfl rfl dX7_turn_50 ?_
    refine lv_iload_n hx hb dX7_turn_53 rfl (lv_at hl 2 rfl) ?_
    obtain ⟨a_2, h⟩ := h
    refine ld_i M hw 2 rfl a_2 dX7_turn_54 ?_
    refine lv_imul hx hb dX7_turn_55 ?_
    refine lv_aload_n hx hb dX7_turn_56 rfl (lv_at hl 1 rfl) ?_
    refine gt_f (v := .ref (qS 3)) M inlX7 hw 0 rfl rfl 2 (by decide) fl_X7_16 rfl rfl dX7_turn_57 ?_
    refine lv_iload_n hx hb dX7_turn_60 rfl (lv_at hl 2 rfl) ?_
    refine ld_i M hw 3 rfl a_2 dX7_turn_61 ?_
    refine lv_iadd hx hb dX7_turn_62 ?_
    refine lv_topi (fun x5_3 ex5_3 => ?_)
    replace h := h x5_3 ex5_3
    refine lv_istore (lv' := [(5, .int x5_3), (4, .int t0), (0, .ref (qS 0)), (1, .int x1), (2, .int x2), (3, .int x3)]) hx hb dX7_turn_63 hl (by decide) rfl (fun ls hl => ?_)
    refine lv_aload_n hx hb dX7_turn_65 rfl (lv_at hl 2 rfl) ?_
    refine gt_f (v := .ref (qS 2)) M inlX7 hw 0 rfl rfl 1 (by decide) fl_X7_13 rfl rfl dX7_turn_66 ?_
    refine lv_iload_n hx hb dX7_turn_69 rfl (lv_at hl 3 rfl) ?_
    refine lv_iload_n hx hb dX7_turn_70 rfl (lv_at hl 4 rfl) ?_
    refine st_i (P := S) (r := 1) (wN := fun S_4 => (sW z qS S_4)) M hw 2 rfl rfl a_2 dX7_turn_71 (fun S_4 H locs eS_4 hw => ?_)
    replace h := h S_4 eS_4
    refine lv_aload_n hx hb dX7_turn_72 rfl (lv_at hl 2 rfl) ?_
    refine gt_f (v := .ref (qS 3)) M inlX7 hw 0 rfl rfl 2 (by decide) fl_X7_16 rfl rfl dX7_turn_73 ?_
    refine lv_iload_n hx hb dX7_turn_76 rfl (lv_at hl 3 rfl) ?_
    refine lv_iload_n hx hb dX7_turn_77 rfl (lv_at hl 5 rfl) ?_
    refine st_i (P := S_4) (r := 2) (wN := fun S_5 => (sW z qS S_5)) M hw 3 rfl rfl a_2 dX7_turn_78 (fun S_5 H locs eS_5 hw => ?_)
    replace h := h S_5 eS_5
    refine lv_iload hx hb dX7_turn_79 (lv_at hl 0 rfl) ?_
    exact rt_i M S_5 hw h dX7_turn_81
  · replace h := iF c_1 h
    refine lv_aload_n hx hb dX7_turn_40 rfl (lv_at hl 1 rfl) ?_
    refine lv_iload hx hb dX7_turn_41 (lv_at hl 0 rfl) ?_
    refine fr_Vi (wN := fun u : RT => (sW z qS u)) M (m_X7_no l z qS S t0 _ h) (cwV 1 hts (gdV cd_X7_no ml_X7_81 im_X7_no se_X7_no in_X7) rfl rfl rfl hdV_X7_no ⟨(Nat.le_of_ble_eq_true rfl), (Nat.le_of_ble_eq_true rfl)⟩) (Cut.self _) (Prm.self _ 17 (fun _ => rfl)) 0 rfl rfl rfl hw rfl hl.1 rfl (Nat.le_of_ble_eq_true rfl) dX7_turn_43 (fun r_7 u_ H locs h hw => ?_)
    obtain ⟨S_6, rfl⟩ : ∃ z9 : RT, z9 = u_ := ⟨_, rfl⟩
    have hw : Hw s z A (sW z qS S_6) H locs := hw
    try dsimp only at h
    exact rt_i M S_6 hw h dX7_turn_46
set_option maxHeartbeats 4000000 in
set_option maxRecDepth 100000 in
theorem m_X7_turn (l : Launch) (z : KT) (qS : Nat → Nat) (S : RT) (x1 : Int32) (x2 : Int32) (x3 : Int32) (Q : Int32 → RT → Prop) (h : wX7_turn S x1 x2 x3 Q) : CI l yX7_turn cX7_turn 6 .int rmX7_turn z [.ref (qS 0), .int x1, .int x2, .int x3] (sW z qS S) (fun u : RT => (sW z qS u)) (fun (r : Int32) (u : RT) => Q r u) := by
  refine CI.of rfl (Nat.le_of_ble_eq_true rfl) ?_
  intro p e s m below meth c A ls M hw hl
  have M : Mc p s m _ meth c cX7_turn 6 (some .int) RX7 z A := M
  obtain ⟨hx, hb, -, -, hown, hts, -, -, -, hN, hsr, -⟩ := id M
  have hl : lv_has ls 6 [(0, .ref (qS 0)), (1, .int x1), (2, .int x2), (3, .int x3)] := hl
  unfold wX7_turn at h
  generalize s.heap = H at hw ⊢
  generalize ([] : List Loc) = locs at hw ⊢
  refine lv_aload_n hx hb dX7_turn_0 rfl (lv_at hl 0 rfl) ?_
  refine lv_iload_n hx hb dX7_turn_1 rfl (lv_at hl 1 rfl) ?_
  refine fr_Vi (wN := fun _ : Unit => (sW z qS S)) M (m_X7_isThing l z qS S x1 _ h) (cwV 1 hts (gdV cd_X7_isThing ml_X7_70 im_X7_isThing se_X7_isThing in_X7) rfl rfl rfl hdV_X7_isThing ⟨(Nat.le_of_ble_eq_true rfl), (Nat.le_of_ble_eq_true rfl)⟩) (Cut.self _) (Prm.self _ 17 (fun _ => rfl)) 0 rfl rfl rfl hw rfl hl.1 rfl (Nat.le_of_ble_eq_true rfl) dX7_turn_2 (fun r_1 u_ H locs h hw => ?_)
  have hw : Hw s z A (sW z qS S) H locs := hw
  try dsimp only at h
  refine lv_if_ne (tgt := 12) hx hb dX7_turn_5 (by decide) (fun c_2 => ?_) (fun c_2 => ?_)
  · replace h := iF c_2 h
    refine lv_iload_n hx hb dX7_turn_12 rfl (lv_at hl 2 rfl) ?_
    refine lv_iconst (v := 0) hx hb dX7_turn_13 (by decide) ?_
    refine lv_iconst (v := 5) hx hb dX7_turn_14 (by decide) ?_
    refine fr_Si (wN := fun _ : Unit => (sW z qS S)) M (m_X7_isIn l z x2 (0 : Int32) (5 : Int32) _ h) (va_cwS 3 hts (gdS cd_X7_isIn ml_X7_92 st_X7_isIn in_X7) rfl rfl rfl hdS_X7_isIn ⟨(Nat.le_of_ble_eq_true rfl), (Nat.le_of_ble_eq_true rfl)⟩) (Cut.none _) (Prm.none _) hw rfl hl.1 rfl (Nat.le_of_ble_eq_true rfl) dX7_turn_15 (fun r_3 u_ H locs h hw => ?_)
    have hw : Hw s z A (sW z qS S) H locs := hw
    try dsimp only at h
    refine lv_if_ne (tgt := 26) hx hb dX7_turn_18 (by decide) (fun c_4 => ?_) (fun c_4 => ?_)
    · replace h := iF c_4 h
      refine lv_iload_n hx hb dX7_turn_26 rfl (lv_at hl 3 rfl) ?_
      refine lv_iconst (v := 0) hx hb dX7_turn_27 (by decide) ?_
      refine lv_bipush (v := 9) hx hb dX7_turn_28 (by decide) ?_
      refine fr_Si (wN := fun _ : Unit => (sW z qS S)) M (m_X7_bound l z x3 (0 : Int32) (9 : Int32) _ h) (va_cwS 3 hts (gdS cd_X7_bound ml_X7_74 st_X7_bound in_X7) rfl rfl rfl hdS_X7_bound ⟨(Nat.le_of_ble_eq_true rfl), (Nat.le_of_ble_eq_true rfl)⟩) (Cut.none _) (Prm.none _) hw rfl hl.1 rfl (Nat.le_of_ble_eq_true rfl) dX7_turn_30 (fun r_5 u_ H locs h hw => ?_)
      have hw : Hw s z A (sW z qS S) H locs := hw
      try dsimp only at h
      exact kX7_turn_33 M S x1 x2 x3 r_5 H locs ls hw (lv_sub hl [0, 1, 2, 3] rfl) h
    · replace h := iT c_4 h
      refine lv_bipush (v := -2) hx hb dX7_turn_21 (by decide) ?_
      refine lv_goto (tgt := 33) hx hb dX7_turn_23 (by decide) ?_
      exact kX7_turn_33 M S x1 x2 x3 (-2 : Int32) H locs ls hw (lv_sub hl [0, 1, 2, 3] rfl) h
  · replace h := iT c_2 h
    refine lv_iconst (v := -1) hx hb dX7_turn_8 (by decide) ?_
    refine lv_goto (tgt := 33) hx hb dX7_turn_9 (by decide) ?_
    exact kX7_turn_33 M S x1 x2 x3 (-1 : Int32) H locs ls hw (lv_sub hl [0, 1, 2, 3] rfl) h
abbrev rmX7_hours : Room := { frames := 7, cells := 0, slots := 0, locals := 157 }
set_option maxHeartbeats 4000000 in
set_option maxRecDepth 100000 in
theorem kX7_hours_27 {p : Program} {l : Launch} {e : Env} {s : State} {m : MethodId} {args : Array Value} {below : List Frame} {meth : Method} {c : Code} {z : KT} {A : Nat → Prop} {qS : Nat → Nat} {Q : Int32 → RT → Prop} (M : Mc p s m args meth c cX7_hours 3 (some .int) RX7 z A) : ∀ (S : RT) (x1 : Int32) (x2 : Int32) (H : Heap) (locs : List Loc) (ls : Array Slot), Hw s z A (sW z qS S) H locs → lv_has ls 3 [(0, .ref (qS 0)), (1, .int x1), (2, .int x2)] → bX7_hours_27 Q S x1 x2 → W p l e rmX7_hours s m args below meth c H locs 0 0 (MQ below (va_Qi (fun (r : Int32) (u : RT) => Q r u) (fun u t => cAt z A ((fun u : RT => (sW z qS u)) u) t) A) args s 0 0 A) (F0 m 27 ls []) := by
  obtain ⟨hx, hb, -, -, hown, hts, -, -, -, hN, hsr, -⟩ := id M
  intro S x1 x2 H locs ls hw hl h
  unfold bX7_hours_27 at h
  refine lv_iload_n hx hb dX7_hours_27 rfl (lv_at hl 2 rfl) ?_
  refine lv_if_eq (tgt := 37) hx hb dX7_hours_28 (by decide) (fun c_1 => ?_) (fun c_1 => ?_)
  · replace h := iT c_1 h
    refine lv_aload_n hx hb dX7_hours_37 rfl (lv_at hl 0 rfl) ?_
    refine lv_iload_n hx hb dX7_hours_38 rfl (lv_at hl 1 rfl) ?_
    refine fr_Vv (wN := fun u : RT => (sW z qS u)) M (m_X7_goes l z qS S x1 _ h) (cwV 1 hts (gdV cd_X7_goes ml_X7_122 im_X7_goes se_X7_goes in_X7) rfl rfl rfl hdV_X7_goes ⟨(Nat.le_of_ble_eq_true rfl), (Nat.le_of_ble_eq_true rfl)⟩) (Cut.self _) (Prm.self _ 17 (fun _ => rfl)) 0 rfl rfl rfl hw rfl hl.1 rfl (Nat.le_of_ble_eq_true rfl) dX7_hours_39 (fun u_ H locs h hw => ?_)
    obtain ⟨S_2, rfl⟩ : ∃ z9 : RT, z9 = u_ := ⟨_, rfl⟩
    have hw : Hw s z A (sW z qS S_2) H locs := hw
    try dsimp only at h
    refine lv_aload_n hx hb dX7_hours_42 rfl (lv_at hl 0 rfl) ?_
    refine fr_Vi (wN := fun _ : Unit => (sW z qS S_2)) M (m_X7_allHigh l z qS S_2 _ h) (cwV 0 hts (gdV cd_X7_allHigh ml_X7_195 im_X7_allHigh se_X7_allHigh in_X7) rfl rfl rfl hdV_X7_allHigh ⟨(Nat.le_of_ble_eq_true rfl), (Nat.le_of_ble_eq_true rfl)⟩) (Cut.self _) (Prm.self _ 17 (fun _ => rfl)) 0 rfl rfl rfl hw rfl hl.1 rfl (Nat.le_of_ble_eq_true rfl) dX7_hours_43 (fun r_3 u_ H locs h hw => ?_)
    have hw : Hw s z A (sW z qS S_2) H locs := hw
    try dsimp only at h
    exact rt_i M S_2 hw h dX7_hours_46
  · replace h := iF c_1 h
    refine lv_aload_n hx hb dX7_hours_31 rfl (lv_at hl 0 rfl) ?_
    refine lv_iload_n hx hb dX7_hours_32 rfl (lv_at hl 2 rfl) ?_
    refine fr_Vi (wN := fun u : RT => (sW z qS u)) M (m_X7_no l z qS S x2 _ h) (cwV 1 hts (gdV cd_X7_no ml_X7_81 im_X7_no se_X7_no in_X7) rfl rfl rfl hdV_X7_no ⟨(Nat.le_of_ble_eq_true rfl), (Nat.le_of_ble_eq_true rfl)⟩) (Cut.self _) (Prm.self _ 17 (fun _ => rfl)) 0 rfl rfl rfl hw rfl hl.1 rfl (Nat.le_of_ble_eq_true rfl) dX7_hours_33 (fun r_5 u_ H locs h hw => ?_)
    obtain ⟨S_4, rfl⟩ : ∃ z9 : RT, z9 = u_ := ⟨_, rfl⟩
    have hw : Hw s z A (sW z qS S_4) H locs := hw
    try dsimp only at h
    exact rt_i M S_4 hw h dX7_hours_36
set_option maxHeartbeats 4000000 in
set_option maxRecDepth 100000 in
theorem m_X7_hours (l : Launch) (z : KT) (qS : Nat → Nat) (S : RT) (x1 : Int32) (Q : Int32 → RT → Prop) (h : wX7_hours S x1 Q) : CI l yX7_hours cX7_hours 3 .int rmX7_hours z [.ref (qS 0), .int x1] (sW z qS S) (fun u : RT => (sW z qS u)) (fun (r : Int32) (u : RT) => Q r u) := by
  refine CI.of rfl (Nat.le_of_ble_eq_true rfl) ?_
  intro p e s m below meth c A ls M hw hl
  have M : Mc p s m _ meth c cX7_hours 3 (some .int) RX7 z A := M
  obtain ⟨hx, hb, -, -, hown, hts, -, -, -, hN, hsr, -⟩ := id M
  have hl : lv_has ls 3 [(0, .ref (qS 0)), (1, .int x1)] := hl
  unfold wX7_hours at h
  generalize s.heap = H at hw ⊢
  generalize ([] : List Loc) = locs at hw ⊢
  refine lv_iload_n hx hb dX7_hours_0 rfl (lv_at hl 1 rfl) ?_
  refine lv_iconst (v := 1) hx hb dX7_hours_1 (by decide) ?_
  refine lv_bipush (v := 60) hx hb dX7_hours_2 (by decide) ?_
  refine fr_Si (wN := fun _ : Unit => (sW z qS S)) M (m_X7_bound l z x1 (1 : Int32) (60 : Int32) _ h) (va_cwS 3 hts (gdS cd_X7_bound ml_X7_74 st_X7_bound in_X7) rfl rfl rfl hdS_X7_bound ⟨(Nat.le_of_ble_eq_true rfl), (Nat.le_of_ble_eq_true rfl)⟩) (Cut.none _) (Prm.none _) hw rfl hl.1 rfl (Nat.le_of_ble_eq_true rfl) dX7_hours_4 (fun r_1 u_ H locs h hw => ?_)
  have hw : Hw s z A (sW z qS S) H locs := hw
  try dsimp only at h
  refine lv_istore_n (lv' := [(2, .int r_1), (0, .ref (qS 0)), (1, .int x1)]) hx hb dX7_hours_7 rfl hl (by decide) rfl (fun ls hl => ?_)
  refine lv_iload_n hx hb dX7_hours_8 rfl (lv_at hl 0 rfl) ?_
  refine lv_if_ne (tgt := 27) hx hb dX7_hours_9 (by decide) (fun c_2 => ?_) (fun c_2 => ?_)
  · replace h := iF c_2 h
    exact kX7_hours_27 M S x1 r_1 H locs ls hw (lv_sub hl [1, 2, 0] rfl) h
  · replace h := iT c_2 h
    refine lv_aload_n hx hb dX7_hours_12 rfl (lv_at hl 1 rfl) ?_
    refine gt_f (v := .int (S 30 10)) M inlX7 hw 0 rfl rfl 10 (by decide) fl_X7_119 rfl rfl dX7_hours_13 ?_
    refine lv_iload_n hx hb dX7_hours_16 rfl (lv_at hl 2 rfl) ?_
    refine lv_iadd hx hb dX7_hours_17 ?_
    refine lv_sipush (v := 999) hx hb dX7_hours_18 (by decide) ?_
    refine lv_icmp_le (tgt := 27) hx hb dX7_hours_21 (by decide) (fun c_3 => ?_) (fun c_3 => ?_)
    · replace h := iT c_3 h
      exact kX7_hours_27 M S x1 r_1 H locs ls hw (lv_sub hl [1, 2, 0] rfl) h
    · replace h := iF c_3 h
      refine lv_bipush (v := -6) hx hb dX7_hours_24 (by decide) ?_
      refine lv_istore_n (lv' := [(2, .int (-6 : Int32)), (0, .ref (qS 0)), (1, .int x1)]) hx hb dX7_hours_26 rfl hl (by decide) rfl (fun ls hl => ?_)
      exact kX7_hours_27 M S x1 (-6 : Int32) H locs ls hw (lv_sub hl [1, 2, 0] rfl) h
abbrev rmX7_notHours : Room := { frames := 1, cells := 0, slots := 0, locals := 22 }
set_option maxHeartbeats 4000000 in
set_option maxRecDepth 100000 in
theorem m_X7_notHours (l : Launch) (z : KT) (x0 : Int32) (Q : Int32 → Prop) (h : wX7_notHours x0 Q) : CI l yX7_notHours cX7_notHours 1 .int rmX7_notHours z [.int x0] ([] : va_W) (fun _ : Unit => ([] : va_W)) (fun (r : Int32) (_ : Unit) => Q r) := by
  refine CI.of rfl (Nat.le_of_ble_eq_true rfl) ?_
  intro p e s m below meth c A ls M hw hl
  have M : Mc p s m _ meth c cX7_notHours 1 (some .int) RX7 z A := M
  obtain ⟨hx, hb, -, -, hown, hts, -, -, -, hN, hsr, -⟩ := id M
  have hl : lv_has ls 1 [(0, .int x0)] := hl
  unfold wX7_notHours at h
  generalize s.heap = H at hw ⊢
  generalize ([] : List Loc) = locs at hw ⊢
  refine lv_iload_n hx hb dX7_notHours_0 rfl (lv_at hl 0 rfl) ?_
  refine lv_iconst (v := 0) hx hb dX7_notHours_1 (by decide) ?_
  refine lv_bipush (v := 99) hx hb dX7_notHours_2 (by decide) ?_
  refine fr_Si (wN := fun _ : Unit => ([] : va_W)) M (m_X7_bound l z x0 (0 : Int32) (99 : Int32) _ h) (va_cwS 3 hts (gdS cd_X7_bound ml_X7_74 st_X7_bound in_X7) rfl rfl rfl hdS_X7_bound ⟨(Nat.le_of_ble_eq_true rfl), (Nat.le_of_ble_eq_true rfl)⟩) (Cut.none _) (Prm.none _) hw rfl hl.1 rfl (Nat.le_of_ble_eq_true rfl) dX7_notHours_4 (fun r_1 u_ H locs h hw => ?_)
  have hw : Hw s z A ([] : va_W) H locs := hw
  try dsimp only at h
  exact rt_i M () hw h dX7_notHours_7
abbrev rmX7_thingThen : Room := { frames := 7, cells := 0, slots := 0, locals := 157 }
set_option maxHeartbeats 4000000 in
set_option maxRecDepth 100000 in
theorem kX7_thingThen_75 {p : Program} {l : Launch} {e : Env} {s : State} {m : MethodId} {args : Array Value} {below : List Frame} {meth : Method} {c : Code} {z : KT} {A : Nat → Prop} {qS : Nat → Nat} {Q : Int32 → RT → Prop} (M : Mc p s m args meth c cX7_thingThen 6 (some .int) RX7 z A) : ∀ (S : RT) (t0 : Int32) (H : Heap) (locs : List Loc) (ls : Array Slot), Hw s z A (sW z qS S) H locs → lv_has ls 6 [(0, .ref (qS 0))] → bX7_thingThen_75 Q S t0 → W p l e rmX7_thingThen s m args below meth c H locs 0 0 (MQ below (va_Qi (fun (r : Int32) (u : RT) => Q r u) (fun u t => cAt z A ((fun u : RT => (sW z qS u)) u) t) A) args s 0 0 A) (F0 m 75 ls [.int t0]) := by
  obtain ⟨hx, hb, -, -, hown, hts, -, -, -, hN, hsr, -⟩ := id M
  intro S t0 H locs ls hw hl h
  unfold bX7_thingThen_75 at h
  refine lv_istore (lv' := [(5, .int t0), (0, .ref (qS 0))]) hx hb dX7_thingThen_75 hl (by decide) rfl (fun ls hl => ?_)
  refine lv_aload_n hx hb dX7_thingThen_77 rfl (lv_at hl 1 rfl) ?_
  refine fr_Vv (wN := fun u : RT => (sW z qS u)) M (m_X7_forgets l z qS S _ h) (cwV 0 hts (gdV cd_X7_forgets ml_X7_204 im_X7_forgets se_X7_forgets in_X7) rfl rfl rfl hdV_X7_forgets ⟨(Nat.le_of_ble_eq_true rfl), (Nat.le_of_ble_eq_true rfl)⟩) (Cut.self _) (Prm.self _ 17 (fun _ => rfl)) 0 rfl rfl rfl hw rfl hl.1 rfl (Nat.le_of_ble_eq_true rfl) dX7_thingThen_78 (fun u_ H locs h hw => ?_)
  obtain ⟨S_1, rfl⟩ : ∃ z9 : RT, z9 = u_ := ⟨_, rfl⟩
  have hw : Hw s z A (sW z qS S_1) H locs := hw
  try dsimp only at h
  refine lv_iload hx hb dX7_thingThen_81 (lv_at hl 0 rfl) ?_
  exact rt_i M S_1 hw h dX7_thingThen_83
set_option maxHeartbeats 4000000 in
set_option maxRecDepth 100000 in
theorem kX7_thingThen_36 {p : Program} {l : Launch} {e : Env} {s : State} {m : MethodId} {args : Array Value} {below : List Frame} {meth : Method} {c : Code} {z : KT} {A : Nat → Prop} {qS : Nat → Nat} {Q : Int32 → RT → Prop} (M : Mc p s m args meth c cX7_thingThen 6 (some .int) RX7 z A) : ∀ (S : RT) (x1 : Int32) (x2 : Int32) (x3 : Int32) (x4 : Int32) (H : Heap) (locs : List Loc) (ls : Array Slot), Hw s z A (sW z qS S) H locs → lv_has ls 6 [(0, .ref (qS 0)), (1, .int x1), (2, .int x2), (3, .int x3), (4, .int x4)] → bX7_thingThen_36 Q S x1 x2 x3 x4 → W p l e rmX7_thingThen s m args below meth c H locs 0 0 (MQ below (va_Qi (fun (r : Int32) (u : RT) => Q r u) (fun u t => cAt z A ((fun u : RT => (sW z qS u)) u) t) A) args s 0 0 A) (F0 m 36 ls []) := by
  obtain ⟨hx, hb, -, -, hown, hts, -, -, -, hN, hsr, -⟩ := id M
  intro S x1 x2 x3 x4 H locs ls hw hl h
  unfold bX7_thingThen_36 at h
  refine lv_iload hx hb dX7_thingThen_36 (lv_at hl 4 rfl) ?_
  refine lv_if_eq (tgt := 48) hx hb dX7_thingThen_38 (by decide) (fun c_1 => ?_) (fun c_1 => ?_)
  · replace h := iT c_1 h
    refine lv_aload_n hx hb dX7_thingThen_48 rfl (lv_at hl 0 rfl) ?_
    refine fr_Vv (wN := fun u : RT => (sW z qS u)) M (m_X7_thinks l z qS S _ h) (cwV 0 hts (gdV cd_X7_thinks ml_X7_201 im_X7_thinks se_X7_thinks in_X7) rfl rfl rfl hdV_X7_thinks ⟨(Nat.le_of_ble_eq_true rfl), (Nat.le_of_ble_eq_true rfl)⟩) (Cut.self _) (Prm.self _ 17 (fun _ => rfl)) 0 rfl rfl rfl hw rfl hl.1 rfl (Nat.le_of_ble_eq_true rfl) dX7_thingThen_49 (fun u_ H locs h hw => ?_)
    obtain ⟨S_2, rfl⟩ : ∃ z9 : RT, z9 = u_ := ⟨_, rfl⟩
    have hw : Hw s z A (sW z qS S_2) H locs := hw
    try dsimp only at h
    refine lv_aload_n hx hb dX7_thingThen_52 rfl (lv_at hl 0 rfl) ?_
    refine lv_iload_n hx hb dX7_thingThen_53 rfl (lv_at hl 2 rfl) ?_
    refine fr_Vv (wN := fun u : RT => (sW z qS u)) M (m_X7_goes l z qS S_2 x2 _ h) (cwV 1 hts (gdV cd_X7_goes ml_X7_122 im_X7_goes se_X7_goes in_X7) rfl rfl rfl hdV_X7_goes ⟨(Nat.le_of_ble_eq_true rfl), (Nat.le_of_ble_eq_true rfl)⟩) (Cut.self _) (Prm.self _ 17 (fun _ => rfl)) 0 rfl rfl rfl hw rfl hl.1 rfl (Nat.le_of_ble_eq_true rfl) dX7_thingThen_54 (fun u_ H locs h hw => ?_)
    obtain ⟨S_3, rfl⟩ : ∃ z9 : RT, z9 = u_ := ⟨_, rfl⟩
    have hw : Hw s z A (sW z qS S_3) H locs := hw
    try dsimp only at h
    refine lv_iload_n hx hb dX7_thingThen_57 rfl (lv_at hl 3 rfl) ?_
    refine lv_if_ne (tgt := 70) hx hb dX7_thingThen_58 (by decide) (fun c_4 => ?_) (fun c_4 => ?_)
    · replace h := iF c_4 h
      refine lv_aload_n hx hb dX7_thingThen_70 rfl (lv_at hl 0 rfl) ?_
      refine lv_iload_n hx hb dX7_thingThen_71 rfl (lv_at hl 1 rfl) ?_
      refine fr_Vi (wN := fun _ : Unit => (sW z qS S_3)) M (m_X7_heft l z qS S_3 x1 _ h) (cwV 1 hts (gdV cd_X7_heft ml_X7_176 im_X7_heft se_X7_heft in_X7) rfl rfl rfl hdV_X7_heft ⟨(Nat.le_of_ble_eq_true rfl), (Nat.le_of_ble_eq_true rfl)⟩) (Cut.self _) (Prm.self _ 17 (fun _ => rfl)) 0 rfl rfl rfl hw rfl hl.1 rfl (Nat.le_of_ble_eq_true rfl) dX7_thingThen_72 (fun r_5 u_ H locs h hw => ?_)
      have hw : Hw s z A (sW z qS S_3) H locs := hw
      try dsimp only at h
      exact kX7_thingThen_75 M S_3 r_5 H locs ls hw (lv_sub hl [0] rfl) h
    · replace h := iT c_4 h
      refine lv_aload_n hx hb dX7_thingThen_61 rfl (lv_at hl 0 rfl) ?_
      refine gt_f (v := .ref (qS 6)) M inlX7 hw 0 rfl rfl 5 (by decide) fl_X7_25 rfl rfl dX7_thingThen_62 ?_
      refine lv_iload_n hx hb dX7_thingThen_65 rfl (lv_at hl 1 rfl) ?_
      obtain ⟨a_6, h⟩ := h
      refine ld_i M hw 6 rfl a_6 dX7_thingThen_66 ?_
      refine lv_goto (tgt := 75) hx hb dX7_thingThen_67 (by decide) ?_
      exact kX7_thingThen_75 M S_3 (S_3 5 (x1).toNatClampNeg) H locs ls hw (lv_sub hl [0] rfl) h
  · replace h := iF c_1 h
    refine lv_aload_n hx hb dX7_thingThen_41 rfl (lv_at hl 0 rfl) ?_
    refine lv_iload hx hb dX7_thingThen_42 (lv_at hl 4 rfl) ?_
    refine fr_Vi (wN := fun u : RT => (sW z qS u)) M (m_X7_no l z qS S x4 _ h) (cwV 1 hts (gdV cd_X7_no ml_X7_81 im_X7_no se_X7_no in_X7) rfl rfl rfl hdV_X7_no ⟨(Nat.le_of_ble_eq_true rfl), (Nat.le_of_ble_eq_true rfl)⟩) (Cut.self _) (Prm.self _ 17 (fun _ => rfl)) 0 rfl rfl rfl hw rfl hl.1 rfl (Nat.le_of_ble_eq_true rfl) dX7_thingThen_44 (fun r_8 u_ H locs h hw => ?_)
    obtain ⟨S_7, rfl⟩ : ∃ z9 : RT, z9 = u_ := ⟨_, rfl⟩
    have hw : Hw s z A (sW z qS S_7) H locs := hw
    try dsimp only at h
    exact rt_i M S_7 hw h dX7_thingThen_47
set_option maxHeartbeats 4000000 in
set_option maxRecDepth 100000 in
theorem kX7_thingThen_16 {p : Program} {l : Launch} {e : Env} {s : State} {m : MethodId} {args : Array Value} {below : List Frame} {meth : Method} {c : Code} {z : KT} {A : Nat → Prop} {qS : Nat → Nat} {Q : Int32 → RT → Prop} (M : Mc p s m args meth c cX7_thingThen 6 (some .int) RX7 z A) : ∀ (S : RT) (x1 : Int32) (x2 : Int32) (x3 : Int32) (t0 : Int32) (H : Heap) (locs : List Loc) (ls : Array Slot), Hw s z A (sW z qS S) H locs → lv_has ls 6 [(0, .ref (qS 0)), (1, .int x1), (2, .int x2), (3, .int x3)] → bX7_thingThen_16 Q S x1 x2 x3 t0 → W p l e rmX7_thingThen s m args below meth c H locs 0 0 (MQ below (va_Qi (fun (r : Int32) (u : RT) => Q r u) (fun u t => cAt z A ((fun u : RT => (sW z qS u)) u) t) A) args s 0 0 A) (F0 m 16 ls [.int t0]) := by
  obtain ⟨hx, hb, -, -, hown, hts, -, -, -, hN, hsr, -⟩ := id M
  intro S x1 x2 x3 t0 H locs ls hw hl h
  unfold bX7_thingThen_16 at h
  refine lv_istore (lv' := [(4, .int t0), (0, .ref (qS 0)), (1, .int x1), (2, .int x2), (3, .int x3)]) hx hb dX7_thingThen_16 hl (by decide) rfl (fun ls hl => ?_)
  refine lv_iload hx hb dX7_thingThen_18 (lv_at hl 0 rfl) ?_
  refine lv_if_ne (tgt := 36) hx hb dX7_thingThen_20 (by decide) (fun c_1 => ?_) (fun c_1 => ?_)
  · replace h := iF c_1 h
    exact kX7_thingThen_36 M S x1 x2 x3 t0 H locs ls hw (lv_sub hl [1, 2, 3, 4, 0] rfl) h
  · replace h := iT c_1 h
    refine lv_iload_n hx hb dX7_thingThen_23 rfl (lv_at hl 4 rfl) ?_
    refine lv_iconst (v := 0) hx hb dX7_thingThen_24 (by decide) ?_
    refine lv_iconst (v := 1) hx hb dX7_thingThen_25 (by decide) ?_
    refine fr_Si (wN := fun _ : Unit => (sW z qS S)) M (m_X7_isIn l z x3 (0 : Int32) (1 : Int32) _ h) (va_cwS 3 hts (gdS cd_X7_isIn ml_X7_92 st_X7_isIn in_X7) rfl rfl rfl hdS_X7_isIn ⟨(Nat.le_of_ble_eq_true rfl), (Nat.le_of_ble_eq_true rfl)⟩) (Cut.none _) (Prm.none _) hw rfl hl.1 rfl (Nat.le_of_ble_eq_true rfl) dX7_thingThen_26 (fun r_2 u_ H locs h hw => ?_)
    have hw : Hw s z A (sW z qS S) H locs := hw
    try dsimp only at h
    refine lv_if_ne (tgt := 36) hx hb dX7_thingThen_29 (by decide) (fun c_3 => ?_) (fun c_3 => ?_)
    · replace h := iF c_3 h
      exact kX7_thingThen_36 M S x1 x2 x3 t0 H locs ls hw (lv_sub hl [1, 2, 3, 4, 0] rfl) h
    · replace h := iT c_3 h
      refine lv_bipush (v := -2) hx hb dX7_thingThen_32 (by decide) ?_
      refine lv_istore (lv' := [(4, .int (-2 : Int32)), (0, .ref (qS 0)), (1, .int x1), (2, .int x2), (3, .int x3)]) hx hb dX7_thingThen_34 hl (by decide) rfl (fun ls hl => ?_)
      exact kX7_thingThen_36 M S x1 x2 x3 (-2 : Int32) H locs ls hw (lv_sub hl [1, 2, 3, 4, 0] rfl) h
set_option maxHeartbeats 4000000 in
set_option maxRecDepth 100000 in
theorem m_X7_thingThen (l : Launch) (z : KT) (qS : Nat → Nat) (S : RT) (x1 : Int32) (x2 : Int32) (x3 : Int32) (Q : Int32 → RT → Prop) (h : wX7_thingThen S x1 x2 x3 Q) : CI l yX7_thingThen cX7_thingThen 6 .int rmX7_thingThen z [.ref (qS 0), .int x1, .int x2, .int x3] (sW z qS S) (fun u : RT => (sW z qS u)) (fun (r : Int32) (u : RT) => Q r u) := by
  refine CI.of rfl (Nat.le_of_ble_eq_true rfl) ?_
  intro p e s m below meth c A ls M hw hl
  have M : Mc p s m _ meth c cX7_thingThen 6 (some .int) RX7 z A := M
  obtain ⟨hx, hb, -, -, hown, hts, -, -, -, hN, hsr, -⟩ := id M
  have hl : lv_has ls 6 [(0, .ref (qS 0)), (1, .int x1), (2, .int x2), (3, .int x3)] := hl
  unfold wX7_thingThen at h
  generalize s.heap = H at hw ⊢
  generalize ([] : List Loc) = locs at hw ⊢
  refine lv_aload_n hx hb dX7_thingThen_0 rfl (lv_at hl 0 rfl) ?_
  refine lv_iload_n hx hb dX7_thingThen_1 rfl (lv_at hl 1 rfl) ?_
  refine fr_Vi (wN := fun _ : Unit => (sW z qS S)) M (m_X7_isThing l z qS S x1 _ h) (cwV 1 hts (gdV cd_X7_isThing ml_X7_70 im_X7_isThing se_X7_isThing in_X7) rfl rfl rfl hdV_X7_isThing ⟨(Nat.le_of_ble_eq_true rfl), (Nat.le_of_ble_eq_true rfl)⟩) (Cut.self _) (Prm.self _ 17 (fun _ => rfl)) 0 rfl rfl rfl hw rfl hl.1 rfl (Nat.le_of_ble_eq_true rfl) dX7_thingThen_2 (fun r_1 u_ H locs h hw => ?_)
  have hw : Hw s z A (sW z qS S) H locs := hw
  try dsimp only at h
  refine lv_if_ne (tgt := 12) hx hb dX7_thingThen_5 (by decide) (fun c_2 => ?_) (fun c_2 => ?_)
  · replace h := iF c_2 h
    refine lv_iload_n hx hb dX7_thingThen_12 rfl (lv_at hl 2 rfl) ?_
    refine fr_Si (wN := fun _ : Unit => (sW z qS S)) M (m_X7_notHours l z x2 _ h) (va_cwS 1 hts (gdS cd_X7_notHours ml_X7_198 st_X7_notHours in_X7) rfl rfl rfl hdS_X7_notHours ⟨(Nat.le_of_ble_eq_true rfl), (Nat.le_of_ble_eq_true rfl)⟩) (Cut.none _) (Prm.none _) hw rfl hl.1 rfl (Nat.le_of_ble_eq_true rfl) dX7_thingThen_13 (fun r_3 u_ H locs h hw => ?_)
    have hw : Hw s z A (sW z qS S) H locs := hw
    try dsimp only at h
    exact kX7_thingThen_16 M S x1 x2 x3 r_3 H locs ls hw (lv_sub hl [0, 1, 2, 3] rfl) h
  · replace h := iT c_2 h
    refine lv_iconst (v := -1) hx hb dX7_thingThen_8 (by decide) ?_
    refine lv_goto (tgt := 16) hx hb dX7_thingThen_9 (by decide) ?_
    exact kX7_thingThen_16 M S x1 x2 x3 (-1 : Int32) H locs ls hw (lv_sub hl [0, 1, 2, 3] rfl) h
abbrev rmX7_ropeThen : Room := { frames := 7, cells := 0, slots := 0, locals := 157 }
set_option maxHeartbeats 4000000 in
set_option maxRecDepth 100000 in
theorem kX7_ropeThen_16 {p : Program} {l : Launch} {e : Env} {s : State} {m : MethodId} {args : Array Value} {below : List Frame} {meth : Method} {c : Code} {z : KT} {A : Nat → Prop} {qS : Nat → Nat} {Q : Int32 → RT → Prop} (M : Mc p s m args meth c cX7_ropeThen 5 (some .int) RX7 z A) : ∀ (S : RT) (x1 : Int32) (x2 : Int32) (t0 : Int32) (H : Heap) (locs : List Loc) (ls : Array Slot), Hw s z A (sW z qS S) H locs → lv_has ls 5 [(0, .ref (qS 0)), (1, .int x1), (2, .int x2)] → bX7_ropeThen_16 Q S x1 x2 t0 → W p l e rmX7_ropeThen s m args below meth c H locs 0 0 (MQ below (va_Qi (fun (r : Int32) (u : RT) => Q r u) (fun u t => cAt z A ((fun u : RT => (sW z qS u)) u) t) A) args s 0 0 A) (F0 m 16 ls [.int t0]) := by
  obtain ⟨hx, hb, -, -, hown, hts, -, -, -, hN, hsr, -⟩ := id M
  intro S x1 x2 t0 H locs ls hw hl h
  unfold bX7_ropeThen_16 at h
  refine lv_istore_n (lv' := [(3, .int t0), (0, .ref (qS 0)), (1, .int x1), (2, .int x2)]) hx hb dX7_ropeThen_16 rfl hl (by decide) rfl (fun ls hl => ?_)
  refine lv_iload_n hx hb dX7_ropeThen_17 rfl (lv_at hl 0 rfl) ?_
  refine lv_if_eq (tgt := 27) hx hb dX7_ropeThen_18 (by decide) (fun c_1 => ?_) (fun c_1 => ?_)
  · replace h := iT c_1 h
    refine lv_aload_n hx hb dX7_ropeThen_27 rfl (lv_at hl 1 rfl) ?_
    refine fr_Vv (wN := fun u : RT => (sW z qS u)) M (m_X7_thinks l z qS S _ h) (cwV 0 hts (gdV cd_X7_thinks ml_X7_201 im_X7_thinks se_X7_thinks in_X7) rfl rfl rfl hdV_X7_thinks ⟨(Nat.le_of_ble_eq_true rfl), (Nat.le_of_ble_eq_true rfl)⟩) (Cut.self _) (Prm.self _ 17 (fun _ => rfl)) 0 rfl rfl rfl hw rfl hl.1 rfl (Nat.le_of_ble_eq_true rfl) dX7_ropeThen_28 (fun u_ H locs h hw => ?_)
    obtain ⟨S_2, rfl⟩ : ∃ z9 : RT, z9 = u_ := ⟨_, rfl⟩
    have hw : Hw s z A (sW z qS S_2) H locs := hw
    try dsimp only at h
    refine lv_aload_n hx hb dX7_ropeThen_31 rfl (lv_at hl 1 rfl) ?_
    refine lv_iload_n hx hb dX7_ropeThen_32 rfl (lv_at hl 3 rfl) ?_
    refine fr_Vv (wN := fun u : RT => (sW z qS u)) M (m_X7_goes l z qS S_2 x2 _ h) (cwV 1 hts (gdV cd_X7_goes ml_X7_122 im_X7_goes se_X7_goes in_X7) rfl rfl rfl hdV_X7_goes ⟨(Nat.le_of_ble_eq_true rfl), (Nat.le_of_ble_eq_true rfl)⟩) (Cut.self _) (Prm.self _ 17 (fun _ => rfl)) 0 rfl rfl rfl hw rfl hl.1 rfl (Nat.le_of_ble_eq_true rfl) dX7_ropeThen_33 (fun u_ H locs h hw => ?_)
    obtain ⟨S_3, rfl⟩ : ∃ z9 : RT, z9 = u_ := ⟨_, rfl⟩
    have hw : Hw s z A (sW z qS S_3) H locs := hw
    try dsimp only at h
    refine lv_aload_n hx hb dX7_ropeThen_36 rfl (lv_at hl 1 rfl) ?_
    refine lv_iload_n hx hb dX7_ropeThen_37 rfl (lv_at hl 2 rfl) ?_
    refine fr_Vi (wN := fun _ : Unit => (sW z qS S_3)) M (m_X7_holdsTo l z qS S_3 x1 _ h) (cwV 1 hts (gdV cd_X7_holdsTo ml_X7_179 im_X7_holdsTo se_X7_holdsTo in_X7) rfl rfl rfl hdV_X7_holdsTo ⟨(Nat.le_of_ble_eq_true rfl), (Nat.le_of_ble_eq_true rfl)⟩) (Cut.self _) (Prm.self _ 17 (fun _ => rfl)) 0 rfl rfl rfl hw rfl hl.1 rfl (Nat.le_of_ble_eq_true rfl) dX7_ropeThen_38 (fun r_4 u_ H locs h hw => ?_)
    have hw : Hw s z A (sW z qS S_3) H locs := hw
    try dsimp only at h
    refine lv_istore (lv' := [(4, .int r_4), (3, .int t0), (0, .ref (qS 0)), (1, .int x1), (2, .int x2)]) hx hb dX7_ropeThen_41 hl (by decide) rfl (fun ls hl => ?_)
    refine lv_aload_n hx hb dX7_ropeThen_43 rfl (lv_at hl 2 rfl) ?_
    refine fr_Vv (wN := fun u : RT => (sW z qS u)) M (m_X7_forgets l z qS S_3 _ h) (cwV 0 hts (gdV cd_X7_forgets ml_X7_204 im_X7_forgets se_X7_forgets in_X7) rfl rfl rfl hdV_X7_forgets ⟨(Nat.le_of_ble_eq_true rfl), (Nat.le_of_ble_eq_true rfl)⟩) (Cut.self _) (Prm.self _ 17 (fun _ => rfl)) 0 rfl rfl rfl hw rfl hl.1 rfl (Nat.le_of_ble_eq_true rfl) dX7_ropeThen_44 (fun u_ H locs h hw => ?_)
    obtain ⟨S_5, rfl⟩ : ∃ z9 : RT, z9 = u_ := ⟨_, rfl⟩
    have hw : Hw s z A (sW z qS S_5) H locs := hw
    try dsimp only at h
    refine lv_iload hx hb dX7_ropeThen_47 (lv_at hl 0 rfl) ?_
    exact rt_i M S_5 hw h dX7_ropeThen_49
  · replace h := iF c_1 h
    refine lv_aload_n hx hb dX7_ropeThen_21 rfl (lv_at hl 1 rfl) ?_
    refine lv_iload_n hx hb dX7_ropeThen_22 rfl (lv_at hl 0 rfl) ?_
    refine fr_Vi (wN := fun u : RT => (sW z qS u)) M (m_X7_no l z qS S t0 _ h) (cwV 1 hts (gdV cd_X7_no ml_X7_81 im_X7_no se_X7_no in_X7) rfl rfl rfl hdV_X7_no ⟨(Nat.le_of_ble_eq_true rfl), (Nat.le_of_ble_eq_true rfl)⟩) (Cut.self _) (Prm.self _ 17 (fun _ => rfl)) 0 rfl rfl rfl hw rfl hl.1 rfl (Nat.le_of_ble_eq_true rfl) dX7_ropeThen_23 (fun r_7 u_ H locs h hw => ?_)
    obtain ⟨S_6, rfl⟩ : ∃ z9 : RT, z9 = u_ := ⟨_, rfl⟩
    have hw : Hw s z A (sW z qS S_6) H locs := hw
    try dsimp only at h
    exact rt_i M S_6 hw h dX7_ropeThen_26
set_option maxHeartbeats 4000000 in
set_option maxRecDepth 100000 in
theorem m_X7_ropeThen (l : Launch) (z : KT) (qS : Nat → Nat) (S : RT) (x1 : Int32) (x2 : Int32) (Q : Int32 → RT → Prop) (h : wX7_ropeThen S x1 x2 Q) : CI l yX7_ropeThen cX7_ropeThen 5 .int rmX7_ropeThen z [.ref (qS 0), .int x1, .int x2] (sW z qS S) (fun u : RT => (sW z qS u)) (fun (r : Int32) (u : RT) => Q r u) := by
  refine CI.of rfl (Nat.le_of_ble_eq_true rfl) ?_
  intro p e s m below meth c A ls M hw hl
  have M : Mc p s m _ meth c cX7_ropeThen 5 (some .int) RX7 z A := M
  obtain ⟨hx, hb, -, -, hown, hts, -, -, -, hN, hsr, -⟩ := id M
  have hl : lv_has ls 5 [(0, .ref (qS 0)), (1, .int x1), (2, .int x2)] := hl
  unfold wX7_ropeThen at h
  generalize s.heap = H at hw ⊢
  generalize ([] : List Loc) = locs at hw ⊢
  refine lv_aload_n hx hb dX7_ropeThen_0 rfl (lv_at hl 0 rfl) ?_
  refine lv_iload_n hx hb dX7_ropeThen_1 rfl (lv_at hl 1 rfl) ?_
  refine fr_Vi (wN := fun _ : Unit => (sW z qS S)) M (m_X7_isRope l z qS S x1 _ h) (cwV 1 hts (gdV cd_X7_isRope ml_X7_132 im_X7_isRope se_X7_isRope in_X7) rfl rfl rfl hdV_X7_isRope ⟨(Nat.le_of_ble_eq_true rfl), (Nat.le_of_ble_eq_true rfl)⟩) (Cut.self _) (Prm.self _ 17 (fun _ => rfl)) 0 rfl rfl rfl hw rfl hl.1 rfl (Nat.le_of_ble_eq_true rfl) dX7_ropeThen_2 (fun r_1 u_ H locs h hw => ?_)
  have hw : Hw s z A (sW z qS S) H locs := hw
  try dsimp only at h
  refine lv_if_ne (tgt := 12) hx hb dX7_ropeThen_5 (by decide) (fun c_2 => ?_) (fun c_2 => ?_)
  · replace h := iF c_2 h
    refine lv_iload_n hx hb dX7_ropeThen_12 rfl (lv_at hl 2 rfl) ?_
    refine fr_Si (wN := fun _ : Unit => (sW z qS S)) M (m_X7_notHours l z x2 _ h) (va_cwS 1 hts (gdS cd_X7_notHours ml_X7_198 st_X7_notHours in_X7) rfl rfl rfl hdS_X7_notHours ⟨(Nat.le_of_ble_eq_true rfl), (Nat.le_of_ble_eq_true rfl)⟩) (Cut.none _) (Prm.none _) hw rfl hl.1 rfl (Nat.le_of_ble_eq_true rfl) dX7_ropeThen_13 (fun r_3 u_ H locs h hw => ?_)
    have hw : Hw s z A (sW z qS S) H locs := hw
    try dsimp only at h
    exact kX7_ropeThen_16 M S x1 x2 r_3 H locs ls hw (lv_sub hl [0, 1, 2] rfl) h
  · replace h := iT c_2 h
    refine lv_iconst (v := -1) hx hb dX7_ropeThen_8 (by decide) ?_
    refine lv_goto (tgt := 16) hx hb dX7_ropeThen_9 (by decide) ?_
    exact kX7_ropeThen_16 M S x1 x2 (-1 : Int32) H locs ls hw (lv_sub hl [0, 1, 2] rfl) h
abbrev rmX7_upAt : Room := { frames := 6, cells := 0, slots := 0, locals := 135 }
set_option maxHeartbeats 4000000 in
set_option maxRecDepth 100000 in
theorem kX7_upAt_38 {p : Program} {l : Launch} {e : Env} {s : State} {m : MethodId} {args : Array Value} {below : List Frame} {meth : Method} {c : Code} {z : KT} {A : Nat → Prop} {qS : Nat → Nat} {K10 : RT → Int32 → Int32 → Int32 → Int32 → Prop} {Q : Int32 → RT → Prop} (M : Mc p s m args meth c cX7_upAt 5 (some .int) RX7 z A) (hK10 : ∀ (S : RT) (x1 : Int32) (x2 : Int32) (x3 : Int32) (x4 : Int32) (H : Heap) (locs : List Loc) (ls : Array Slot), Hw s z A (sW z qS S) H locs → lv_has ls 5 [(0, .ref (qS 0)), (1, .int x1), (2, .int x2), (3, .int x3), (4, .int x4)] → K10 S x1 x2 x3 x4 → W p l e rmX7_upAt s m args below meth c H locs 0 0 (MQ below (va_Qi (fun (r : Int32) (u : RT) => Q r u) (fun u t => cAt z A ((fun u : RT => (sW z qS u)) u) t) A) args s 0 0 A) (F0 m 10 ls [])) : ∀ (S : RT) (x1 : Int32) (x2 : Int32) (x4 : Int32) (t0 : Int32) (H : Heap) (locs : List Loc) (ls : Array Slot), Hw s z A (sW z qS S) H locs → lv_has ls 5 [(0, .ref (qS 0)), (1, .int x1), (2, .int x2), (4, .int x4)] → bX7_upAt_38 K10 Q S x1 x2 x4 t0 → W p l e rmX7_upAt s m args below meth c H locs 0 0 (MQ below (va_Qi (fun (r : Int32) (u : RT) => Q r u) (fun u t => cAt z A ((fun u : RT => (sW z qS u)) u) t) A) args s 0 0 A) (F0 m 38 ls [.int t0]) := by
  obtain ⟨hx, hb, -, -, hown, hts, -, -, -, hN, hsr, -⟩ := id M
  intro S x1 x2 x4 t0 H locs ls hw hl h
  unfold bX7_upAt_38 at h
  refine lv_istore_n (lv' := [(3, .int t0), (0, .ref (qS 0)), (1, .int x1), (2, .int x2), (4, .int x4)]) hx hb dX7_upAt_38 rfl hl (by decide) rfl (fun ls hl => ?_)
  refine lv_aload_n hx hb dX7_upAt_39 rfl (lv_at hl 1 rfl) ?_
  refine fr_Vv (wN := fun u : RT => (sW z qS u)) M (m_X7_goesHour l z qS S _ h) (cwV 0 hts (gdV cd_X7_goesHour ml_X7_188 im_X7_goesHour se_X7_goesHour in_X7) rfl rfl rfl hdV_X7_goesHour ⟨(Nat.le_of_ble_eq_true rfl), (Nat.le_of_ble_eq_true rfl)⟩) (Cut.self _) (Prm.self _ 17 (fun _ => rfl)) 0 rfl rfl rfl hw rfl hl.1 rfl (Nat.le_of_ble_eq_true rfl) dX7_upAt_40 (fun u_ H locs h hw => ?_)
  obtain ⟨S_1, rfl⟩ : ∃ z9 : RT, z9 = u_ := ⟨_, rfl⟩
  have hw : Hw s z A (sW z qS S_1) H locs := hw
  try dsimp only at h
  obtain ⟨x4_2, ex4_2⟩ : ∃ y : Int32, y = (x4 + (1 : Int32)) := ⟨_, rfl⟩
  replace h := h x4_2 ex4_2
  refine lv_iinc (v := x4_2) (lv' := [(4, .int x4_2), (3, .int t0), (0, .ref (qS 0)), (1, .int x1), (2, .int x2)]) hx hb dX7_upAt_43 hl (k := 4) rfl (by rw [ex4_2]; rfl) (by decide) rfl (fun ls hl => ?_)
  refine lv_goto (tgt := 10) hx hb dX7_upAt_46 (by decide) ?_
  exact hK10 S_1 x1 x2 t0 x4_2 H locs ls hw (lv_sub hl [2, 3, 4, 1, 0] rfl) h
set_option maxHeartbeats 4000000 in
set_option maxRecDepth 100000 in
theorem kX7_upAt_49 {p : Program} {l : Launch} {e : Env} {s : State} {m : MethodId} {args : Array Value} {below : List Frame} {meth : Method} {c : Code} {z : KT} {A : Nat → Prop} {qS : Nat → Nat} {Q : Int32 → RT → Prop} (M : Mc p s m args meth c cX7_upAt 5 (some .int) RX7 z A) : ∀ (S : RT) (x3 : Int32) (H : Heap) (locs : List Loc) (ls : Array Slot), Hw s z A (sW z qS S) H locs → lv_has ls 5 [(0, .ref (qS 0)), (3, .int x3)] → bX7_upAt_49 Q S x3 → W p l e rmX7_upAt s m args below meth c H locs 0 0 (MQ below (va_Qi (fun (r : Int32) (u : RT) => Q r u) (fun u t => cAt z A ((fun u : RT => (sW z qS u)) u) t) A) args s 0 0 A) (F0 m 49 ls []) := by
  obtain ⟨hx, hb, -, -, hown, hts, -, -, -, hN, hsr, -⟩ := id M
  intro S x3 H locs ls hw hl h
  unfold bX7_upAt_49 at h
  refine lv_aload_n hx hb dX7_upAt_49 rfl (lv_at hl 0 rfl) ?_
  refine fr_Vv (wN := fun u : RT => (sW z qS u)) M (m_X7_forgets l z qS S _ h) (cwV 0 hts (gdV cd_X7_forgets ml_X7_204 im_X7_forgets se_X7_forgets in_X7) rfl rfl rfl hdV_X7_forgets ⟨(Nat.le_of_ble_eq_true rfl), (Nat.le_of_ble_eq_true rfl)⟩) (Cut.self _) (Prm.self _ 17 (fun _ => rfl)) 0 rfl rfl rfl hw rfl hl.1 rfl (Nat.le_of_ble_eq_true rfl) dX7_upAt_50 (fun u_ H locs h hw => ?_)
  obtain ⟨S_1, rfl⟩ : ∃ z9 : RT, z9 = u_ := ⟨_, rfl⟩
  have hw : Hw s z A (sW z qS S_1) H locs := hw
  try dsimp only at h
  refine lv_iload_n hx hb dX7_upAt_53 rfl (lv_at hl 1 rfl) ?_
  exact rt_i M S_1 hw h dX7_upAt_54
set_option maxHeartbeats 4000000 in
set_option maxRecDepth 100000 in
theorem kX7_upAt_10 {p : Program} {l : Launch} {e : Env} {s : State} {m : MethodId} {args : Array Value} {below : List Frame} {meth : Method} {c : Code} {z : KT} {A : Nat → Prop} {qS : Nat → Nat} {Q : Int32 → RT → Prop} (M : Mc p s m args meth c cX7_upAt 5 (some .int) RX7 z A) : ∀ (n : Nat) (S : RT) (x1 : Int32) (x2 : Int32) (x3 : Int32) (x4 : Int32) (H : Heap) (locs : List Loc) (ls : Array Slot), Hw s z A (sW z qS S) H locs → lv_has ls 5 [(0, .ref (qS 0)), (1, .int x1), (2, .int x2), (3, .int x3), (4, .int x4)] → bX7_upAt_10 Q n S x1 x2 x3 x4 → W p l e rmX7_upAt s m args below meth c H locs 0 0 (MQ below (va_Qi (fun (r : Int32) (u : RT) => Q r u) (fun u t => cAt z A ((fun u : RT => (sW z qS u)) u) t) A) args s 0 0 A) (F0 m 10 ls []) := by
  obtain ⟨hx, hb, -, -, hown, hts, -, -, -, hN, hsr, -⟩ := id M
  intro n
  induction n with
  | zero => intro S x1 x2 x3 x4 H locs ls hw hl h; exact False.elim h
  | succ n ih =>
    intro S x1 x2 x3 x4 H locs ls hw hl h
    rw [bX7_upAt_10] at h
    refine lv_iload hx hb dX7_upAt_10 (lv_at hl 4 rfl) ?_
    refine lv_bipush (v := 99) hx hb dX7_upAt_12 (by decide) ?_
    refine lv_icmp_gt (tgt := 49) hx hb dX7_upAt_14 (by decide) (fun c_1 => ?_) (fun c_1 => ?_)
    · replace h := iT c_1 h
      exact kX7_upAt_49 M S x3 H locs ls hw (lv_sub hl [0, 3] rfl) h
    · replace h := iF c_1 h
      refine lv_iload_n hx hb dX7_upAt_17 rfl (lv_at hl 3 rfl) ?_
      refine lv_if_ge (tgt := 49) hx hb dX7_upAt_18 (by decide) (fun c_2 => ?_) (fun c_2 => ?_)
      · replace h := iT c_2 h
        exact kX7_upAt_49 M S x3 H locs ls hw (lv_sub hl [0, 3] rfl) h
      · replace h := iF c_2 h
        refine lv_aload_n hx hb dX7_upAt_21 rfl (lv_at hl 0 rfl) ?_
        refine gt_f (v := .ref (qS 6)) M inlX7 hw 0 rfl rfl 5 (by decide) fl_X7_25 rfl rfl dX7_upAt_22 ?_
        refine lv_iload_n hx hb dX7_upAt_25 rfl (lv_at hl 1 rfl) ?_
        obtain ⟨a_3, h⟩ := h
        refine ld_i M hw 6 rfl a_3 dX7_upAt_26 ?_
        refine lv_iload_n hx hb dX7_upAt_27 rfl (lv_at hl 2 rfl) ?_
        refine lv_icmp_lt (tgt := 36) hx hb dX7_upAt_28 (by decide) (fun c_4 => ?_) (fun c_4 => ?_)
        · replace h := iT c_4 h
          refine lv_bipush (v := -9) hx hb dX7_upAt_36 (by decide) ?_
          exact kX7_upAt_38 M ih S x1 x2 x4 (-9 : Int32) H locs ls hw (lv_sub hl [0, 1, 2, 4] rfl) h
        · replace h := iF c_4 h
          refine lv_iload hx hb dX7_upAt_31 (lv_at hl 4 rfl) ?_
          refine lv_goto (tgt := 38) hx hb dX7_upAt_33 (by decide) ?_
          exact kX7_upAt_38 M ih S x1 x2 x4 x4 H locs ls hw (lv_sub hl [0, 1, 2, 4] rfl) h
set_option maxHeartbeats 4000000 in
set_option maxRecDepth 100000 in
theorem m_X7_upAt (l : Launch) (z : KT) (qS : Nat → Nat) (S : RT) (x1 : Int32) (x2 : Int32) (Q : Int32 → RT → Prop) (h : wX7_upAt S x1 x2 Q) : CI l yX7_upAt cX7_upAt 5 .int rmX7_upAt z [.ref (qS 0), .int x1, .int x2] (sW z qS S) (fun u : RT => (sW z qS u)) (fun (r : Int32) (u : RT) => Q r u) := by
  refine CI.of rfl (Nat.le_of_ble_eq_true rfl) ?_
  intro p e s m below meth c A ls M hw hl
  have M : Mc p s m _ meth c cX7_upAt 5 (some .int) RX7 z A := M
  obtain ⟨hx, hb, -, -, hown, hts, -, -, -, hN, hsr, -⟩ := id M
  have hl : lv_has ls 5 [(0, .ref (qS 0)), (1, .int x1), (2, .int x2)] := hl
  unfold wX7_upAt at h
  generalize s.heap = H at hw ⊢
  generalize ([] : List Loc) = locs at hw ⊢
  refine lv_aload_n hx hb dX7_upAt_0 rfl (lv_at hl 0 rfl) ?_
  refine fr_Vv (wN := fun u : RT => (sW z qS u)) M (m_X7_thinks l z qS S _ h) (cwV 0 hts (gdV cd_X7_thinks ml_X7_201 im_X7_thinks se_X7_thinks in_X7) rfl rfl rfl hdV_X7_thinks ⟨(Nat.le_of_ble_eq_true rfl), (Nat.le_of_ble_eq_true rfl)⟩) (Cut.self _) (Prm.self _ 17 (fun _ => rfl)) 0 rfl rfl rfl hw rfl hl.1 rfl (Nat.le_of_ble_eq_true rfl) dX7_upAt_1 (fun u_ H locs h hw => ?_)
  obtain ⟨S_1, rfl⟩ : ∃ z9 : RT, z9 = u_ := ⟨_, rfl⟩
  have hw : Hw s z A (sW z qS S_1) H locs := hw
  try dsimp only at h
  refine lv_bipush (v := -9) hx hb dX7_upAt_4 (by decide) ?_
  refine lv_istore_n (lv' := [(3, .int (-9 : Int32)), (0, .ref (qS 0)), (1, .int x1), (2, .int x2)]) hx hb dX7_upAt_6 rfl hl (by decide) rfl (fun ls hl => ?_)
  refine lv_iconst (v := 0) hx hb dX7_upAt_7 (by decide) ?_
  refine lv_istore (lv' := [(4, .int (0 : Int32)), (3, .int (-9 : Int32)), (0, .ref (qS 0)), (1, .int x1), (2, .int x2)]) hx hb dX7_upAt_8 hl (by decide) rfl (fun ls hl => ?_)
  obtain ⟨n0, h⟩ := h; exact kX7_upAt_10 M n0 S_1 x1 x2 (-9 : Int32) (0 : Int32) H locs ls hw (lv_sub hl [2, 3, 4, 1, 0] rfl) h
abbrev rmX7_up : Room := { frames := 7, cells := 0, slots := 0, locals := 159 }
set_option maxHeartbeats 4000000 in
set_option maxRecDepth 100000 in
theorem kX7_up_19 {p : Program} {l : Launch} {e : Env} {s : State} {m : MethodId} {args : Array Value} {below : List Frame} {meth : Method} {c : Code} {z : KT} {A : Nat → Prop} {qS : Nat → Nat} {Q : Int32 → RT → Prop} (M : Mc p s m args meth c cX7_up 4 (some .int) RX7 z A) : ∀ (S : RT) (x1 : Int32) (x2 : Int32) (t0 : Int32) (H : Heap) (locs : List Loc) (ls : Array Slot), Hw s z A (sW z qS S) H locs → lv_has ls 4 [(0, .ref (qS 0)), (1, .int x1), (2, .int x2)] → bX7_up_19 Q S x1 x2 t0 → W p l e rmX7_up s m args below meth c H locs 0 0 (MQ below (va_Qi (fun (r : Int32) (u : RT) => Q r u) (fun u t => cAt z A ((fun u : RT => (sW z qS u)) u) t) A) args s 0 0 A) (F0 m 19 ls [.int t0]) := by
  obtain ⟨hx, hb, -, -, hown, hts, -, -, -, hN, hsr, -⟩ := id M
  intro S x1 x2 t0 H locs ls hw hl h
  unfold bX7_up_19 at h
  refine lv_istore_n (lv' := [(3, .int t0), (0, .ref (qS 0)), (1, .int x1), (2, .int x2)]) hx hb dX7_up_19 rfl hl (by decide) rfl (fun ls hl => ?_)
  refine lv_iload_n hx hb dX7_up_20 rfl (lv_at hl 0 rfl) ?_
  refine lv_if_eq (tgt := 32) hx hb dX7_up_21 (by decide) (fun c_1 => ?_) (fun c_1 => ?_)
  · replace h := iT c_1 h
    refine lv_aload_n hx hb dX7_up_32 rfl (lv_at hl 1 rfl) ?_
    refine lv_iload_n hx hb dX7_up_33 rfl (lv_at hl 2 rfl) ?_
    refine lv_iload_n hx hb dX7_up_34 rfl (lv_at hl 3 rfl) ?_
    refine fr_Vi (wN := fun u : RT => (sW z qS u)) M (m_X7_upAt l z qS S x1 x2 _ h) (cwV 2 hts (gdV cd_X7_upAt ml_X7_207 im_X7_upAt se_X7_upAt in_X7) rfl rfl rfl hdV_X7_upAt ⟨(Nat.le_of_ble_eq_true rfl), (Nat.le_of_ble_eq_true rfl)⟩) (Cut.self _) (Prm.self _ 17 (fun _ => rfl)) 0 rfl rfl rfl hw rfl hl.1 rfl (Nat.le_of_ble_eq_true rfl) dX7_up_35 (fun r_3 u_ H locs h hw => ?_)
    obtain ⟨S_2, rfl⟩ : ∃ z9 : RT, z9 = u_ := ⟨_, rfl⟩
    have hw : Hw s z A (sW z qS S_2) H locs := hw
    try dsimp only at h
    exact rt_i M S_2 hw h dX7_up_38
  · replace h := iF c_1 h
    refine lv_aload_n hx hb dX7_up_24 rfl (lv_at hl 1 rfl) ?_
    refine lv_iload_n hx hb dX7_up_25 rfl (lv_at hl 0 rfl) ?_
    refine fr_Vi (wN := fun u : RT => (sW z qS u)) M (m_X7_no l z qS S t0 _ h) (cwV 1 hts (gdV cd_X7_no ml_X7_81 im_X7_no se_X7_no in_X7) rfl rfl rfl hdV_X7_no ⟨(Nat.le_of_ble_eq_true rfl), (Nat.le_of_ble_eq_true rfl)⟩) (Cut.self _) (Prm.self _ 17 (fun _ => rfl)) 0 rfl rfl rfl hw rfl hl.1 rfl (Nat.le_of_ble_eq_true rfl) dX7_up_26 (fun r_5 u_ H locs h hw => ?_)
    obtain ⟨S_4, rfl⟩ : ∃ z9 : RT, z9 = u_ := ⟨_, rfl⟩
    have hw : Hw s z A (sW z qS S_4) H locs := hw
    try dsimp only at h
    refine lv_goto (tgt := 38) hx hb dX7_up_29 (by decide) ?_
    exact rt_i M S_4 hw h dX7_up_38
set_option maxHeartbeats 4000000 in
set_option maxRecDepth 100000 in
theorem m_X7_up (l : Launch) (z : KT) (qS : Nat → Nat) (S : RT) (x1 : Int32) (x2 : Int32) (Q : Int32 → RT → Prop) (h : wX7_up S x1 x2 Q) : CI l yX7_up cX7_up 4 .int rmX7_up z [.ref (qS 0), .int x1, .int x2] (sW z qS S) (fun u : RT => (sW z qS u)) (fun (r : Int32) (u : RT) => Q r u) := by
  refine CI.of rfl (Nat.le_of_ble_eq_true rfl) ?_
  intro p e s m below meth c A ls M hw hl
  have M : Mc p s m _ meth c cX7_up 4 (some .int) RX7 z A := M
  obtain ⟨hx, hb, -, -, hown, hts, -, -, -, hN, hsr, -⟩ := id M
  have hl : lv_has ls 4 [(0, .ref (qS 0)), (1, .int x1), (2, .int x2)] := hl
  unfold wX7_up at h
  generalize s.heap = H at hw ⊢
  generalize ([] : List Loc) = locs at hw ⊢
  refine lv_aload_n hx hb dX7_up_0 rfl (lv_at hl 0 rfl) ?_
  refine lv_iload_n hx hb dX7_up_1 rfl (lv_at hl 1 rfl) ?_
  refine fr_Vi (wN := fun _ : Unit => (sW z qS S)) M (m_X7_isThing l z qS S x1 _ h) (cwV 1 hts (gdV cd_X7_isThing ml_X7_70 im_X7_isThing se_X7_isThing in_X7) rfl rfl rfl hdV_X7_isThing ⟨(Nat.le_of_ble_eq_true rfl), (Nat.le_of_ble_eq_true rfl)⟩) (Cut.self _) (Prm.self _ 17 (fun _ => rfl)) 0 rfl rfl rfl hw rfl hl.1 rfl (Nat.le_of_ble_eq_true rfl) dX7_up_2 (fun r_1 u_ H locs h hw => ?_)
  have hw : Hw s z A (sW z qS S) H locs := hw
  try dsimp only at h
  refine lv_if_ne (tgt := 12) hx hb dX7_up_5 (by decide) (fun c_2 => ?_) (fun c_2 => ?_)
  · replace h := iF c_2 h
    refine lv_iload_n hx hb dX7_up_12 rfl (lv_at hl 2 rfl) ?_
    refine lv_iconst (v := 0) hx hb dX7_up_13 (by decide) ?_
    refine lv_bipush (v := 20) hx hb dX7_up_14 (by decide) ?_
    refine fr_Si (wN := fun _ : Unit => (sW z qS S)) M (m_X7_bound l z x2 (0 : Int32) (20 : Int32) _ h) (va_cwS 3 hts (gdS cd_X7_bound ml_X7_74 st_X7_bound in_X7) rfl rfl rfl hdS_X7_bound ⟨(Nat.le_of_ble_eq_true rfl), (Nat.le_of_ble_eq_true rfl)⟩) (Cut.none _) (Prm.none _) hw rfl hl.1 rfl (Nat.le_of_ble_eq_true rfl) dX7_up_16 (fun r_3 u_ H locs h hw => ?_)
    have hw : Hw s z A (sW z qS S) H locs := hw
    try dsimp only at h
    exact kX7_up_19 M S x1 x2 r_3 H locs ls hw (lv_sub hl [0, 1, 2] rfl) h
  · replace h := iT c_2 h
    refine lv_iconst (v := -1) hx hb dX7_up_8 (by decide) ?_
    refine lv_goto (tgt := 19) hx hb dX7_up_9 (by decide) ?_
    exact kX7_up_19 M S x1 x2 (-1 : Int32) H locs ls hw (lv_sub hl [0, 1, 2] rfl) h
abbrev rmX7_isAtRest : Room := { frames := 6, cells := 0, slots := 0, locals := 135 }
set_option maxHeartbeats 4000000 in
set_option maxRecDepth 100000 in
theorem kX7_isAtRest_34 {p : Program} {l : Launch} {e : Env} {s : State} {m : MethodId} {args : Array Value} {below : List Frame} {meth : Method} {c : Code} {z : KT} {A : Nat → Prop} {qS : Nat → Nat} {Q : Int32 → RT → Prop} (M : Mc p s m args meth c cX7_isAtRest 2 (some .boolean) RX7 z A) : ∀ (n : Nat) (S : RT) (x1 : Int32) (H : Heap) (locs : List Loc) (ls : Array Slot), Hw s z A (sW z qS S) H locs → lv_has ls 2 [(0, .ref (qS 0)), (1, .int x1)] → bX7_isAtRest_34 Q n S x1 → W p l e rmX7_isAtRest s m args below meth c H locs 0 0 (MQ below (va_Qi (fun (r : Int32) (u : RT) => Q r u) (fun u t => cAt z A ((fun u : RT => (sW z qS u)) u) t) A) args s 0 0 A) (F0 m 34 ls []) := by
  obtain ⟨hx, hb, -, -, hown, hts, -, -, -, hN, hsr, -⟩ := id M
  intro n
  induction n with
  | zero => intro S x1 H locs ls hw hl h; exact False.elim h
  | succ n ih =>
    intro S x1 H locs ls hw hl h
    rw [bX7_isAtRest_34] at h
    refine lv_iload_n hx hb dX7_isAtRest_34 rfl (lv_at hl 1 rfl) ?_
    refine lv_aload_n hx hb dX7_isAtRest_35 rfl (lv_at hl 0 rfl) ?_
    refine gt_f (v := .int (S 30 8)) M inlX7 hw 0 rfl rfl 8 (by decide) fl_X7_62 rfl rfl dX7_isAtRest_36 ?_
    refine lv_icmp_ge (tgt := 65) hx hb dX7_isAtRest_39 (by decide) (fun c_1 => ?_) (fun c_1 => ?_)
    · replace h := iT c_1 h
      refine lv_iconst (v := 1) hx hb dX7_isAtRest_65 (by decide) ?_
      exact rt_z M S hw bz1 h dX7_isAtRest_66
    · replace h := iF c_1 h
      refine lv_aload_n hx hb dX7_isAtRest_42 rfl (lv_at hl 0 rfl) ?_
      refine gt_f (v := .ref (qS 24)) M inlX7 hw 0 rfl rfl 23 (by decide) fl_X7_53 rfl rfl dX7_isAtRest_43 ?_
      refine lv_iload_n hx hb dX7_isAtRest_46 rfl (lv_at hl 1 rfl) ?_
      obtain ⟨a_2, h⟩ := h
      refine ld_i M hw 14 rfl a_2 dX7_isAtRest_47 ?_
      refine lv_aload_n hx hb dX7_isAtRest_48 rfl (lv_at hl 0 rfl) ?_
      refine gt_f (v := .ref (qS 6)) M inlX7 hw 0 rfl rfl 5 (by decide) fl_X7_25 rfl rfl dX7_isAtRest_49 ?_
      refine lv_iload_n hx hb dX7_isAtRest_52 rfl (lv_at hl 1 rfl) ?_
      refine ld_i M hw 6 rfl a_2 dX7_isAtRest_53 ?_
      refine lv_icmp_eq (tgt := 59) hx hb dX7_isAtRest_54 (by decide) (fun c_3 => ?_) (fun c_3 => ?_)
      · replace h := iT c_3 h
        obtain ⟨x1_4, ex1_4⟩ : ∃ y : Int32, y = (x1 + (1 : Int32)) := ⟨_, rfl⟩
        replace h := h x1_4 ex1_4
        refine lv_iinc (v := x1_4) (lv' := [(1, .int x1_4), (0, .ref (qS 0))]) hx hb dX7_isAtRest_59 hl (k := 1) rfl (by rw [ex1_4]; rfl) (by decide) rfl (fun ls hl => ?_)
        refine lv_goto (tgt := 34) hx hb dX7_isAtRest_62 (by decide) ?_
        exact ih S x1_4 H locs ls hw (lv_sub hl [1, 0] rfl) h
      · replace h := iF c_3 h
        refine lv_iconst (v := 0) hx hb dX7_isAtRest_57 (by decide) ?_
        exact rt_z M S hw bz0 h dX7_isAtRest_58
set_option maxHeartbeats 4000000 in
set_option maxRecDepth 100000 in
theorem kX7_isAtRest_2 {p : Program} {l : Launch} {e : Env} {s : State} {m : MethodId} {args : Array Value} {below : List Frame} {meth : Method} {c : Code} {z : KT} {A : Nat → Prop} {qS : Nat → Nat} {Q : Int32 → RT → Prop} (M : Mc p s m args meth c cX7_isAtRest 2 (some .boolean) RX7 z A) : ∀ (n : Nat) (S : RT) (x1 : Int32) (H : Heap) (locs : List Loc) (ls : Array Slot), Hw s z A (sW z qS S) H locs → lv_has ls 2 [(0, .ref (qS 0)), (1, .int x1)] → bX7_isAtRest_2 Q n S x1 → W p l e rmX7_isAtRest s m args below meth c H locs 0 0 (MQ below (va_Qi (fun (r : Int32) (u : RT) => Q r u) (fun u t => cAt z A ((fun u : RT => (sW z qS u)) u) t) A) args s 0 0 A) (F0 m 2 ls []) := by
  obtain ⟨hx, hb, -, -, hown, hts, -, -, -, hN, hsr, -⟩ := id M
  intro n
  induction n with
  | zero => intro S x1 H locs ls hw hl h; exact False.elim h
  | succ n ih =>
    intro S x1 H locs ls hw hl h
    rw [bX7_isAtRest_2] at h
    refine lv_iload_n hx hb dX7_isAtRest_2 rfl (lv_at hl 1 rfl) ?_
    refine lv_aload_n hx hb dX7_isAtRest_3 rfl (lv_at hl 0 rfl) ?_
    refine gt_f (v := .int (S 30 8)) M inlX7 hw 0 rfl rfl 8 (by decide) fl_X7_62 rfl rfl dX7_isAtRest_4 ?_
    refine lv_icmp_ge (tgt := 28) hx hb dX7_isAtRest_7 (by decide) (fun c_1 => ?_) (fun c_1 => ?_)
    · replace h := iT c_1 h
      refine lv_aload_n hx hb dX7_isAtRest_28 rfl (lv_at hl 0 rfl) ?_
      refine fr_Vv (wN := fun u : RT => (sW z qS u)) M (m_X7_goesHour l z qS S _ h) (cwV 0 hts (gdV cd_X7_goesHour ml_X7_188 im_X7_goesHour se_X7_goesHour in_X7) rfl rfl rfl hdV_X7_goesHour ⟨(Nat.le_of_ble_eq_true rfl), (Nat.le_of_ble_eq_true rfl)⟩) (Cut.self _) (Prm.self _ 17 (fun _ => rfl)) 0 rfl rfl rfl hw rfl hl.1 rfl (Nat.le_of_ble_eq_true rfl) dX7_isAtRest_29 (fun u_ H locs h hw => ?_)
      obtain ⟨S_2, rfl⟩ : ∃ z9 : RT, z9 = u_ := ⟨_, rfl⟩
      have hw : Hw s z A (sW z qS S_2) H locs := hw
      try dsimp only at h
      refine lv_iconst (v := 0) hx hb dX7_isAtRest_32 (by decide) ?_
      refine lv_istore_n (lv' := [(1, .int (0 : Int32)), (0, .ref (qS 0))]) hx hb dX7_isAtRest_33 rfl hl (by decide) rfl (fun ls hl => ?_)
      obtain ⟨n0, h⟩ := h; exact kX7_isAtRest_34 M n0 S_2 (0 : Int32) H locs ls hw (lv_sub hl [1, 0] rfl) h
    · replace h := iF c_1 h
      refine lv_aload_n hx hb dX7_isAtRest_10 rfl (lv_at hl 0 rfl) ?_
      refine gt_f (v := .ref (qS 24)) M inlX7 hw 0 rfl rfl 23 (by decide) fl_X7_53 rfl rfl dX7_isAtRest_11 ?_
      refine lv_iload_n hx hb dX7_isAtRest_14 rfl (lv_at hl 1 rfl) ?_
      refine lv_aload_n hx hb dX7_isAtRest_15 rfl (lv_at hl 0 rfl) ?_
      refine gt_f (v := .ref (qS 6)) M inlX7 hw 0 rfl rfl 5 (by decide) fl_X7_25 rfl rfl dX7_isAtRest_16 ?_
      refine lv_iload_n hx hb dX7_isAtRest_19 rfl (lv_at hl 1 rfl) ?_
      obtain ⟨a_3, h⟩ := h
      refine ld_i M hw 6 rfl a_3 dX7_isAtRest_20 ?_
      refine st_i (P := S) (r := 23) (wN := fun S_4 => (sW z qS S_4)) M hw 14 rfl rfl a_3 dX7_isAtRest_21 (fun S_4 H locs eS_4 hw => ?_)
      replace h := h S_4 eS_4
      obtain ⟨x1_5, ex1_5⟩ : ∃ y : Int32, y = (x1 + (1 : Int32)) := ⟨_, rfl⟩
      replace h := h x1_5 ex1_5
      refine lv_iinc (v := x1_5) (lv' := [(1, .int x1_5), (0, .ref (qS 0))]) hx hb dX7_isAtRest_22 hl (k := 1) rfl (by rw [ex1_5]; rfl) (by decide) rfl (fun ls hl => ?_)
      refine lv_goto (tgt := 2) hx hb dX7_isAtRest_25 (by decide) ?_
      exact ih S_4 x1_5 H locs ls hw (lv_sub hl [1, 0] rfl) h
set_option maxHeartbeats 4000000 in
set_option maxRecDepth 100000 in
theorem m_X7_isAtRest (l : Launch) (z : KT) (qS : Nat → Nat) (S : RT) (Q : Int32 → RT → Prop) (h : wX7_isAtRest S Q) : CI l yX7_isAtRest cX7_isAtRest 2 .boolean rmX7_isAtRest z [.ref (qS 0)] (sW z qS S) (fun u : RT => (sW z qS u)) (fun (r : Int32) (u : RT) => Q r u) := by
  refine CI.of rfl (Nat.le_of_ble_eq_true rfl) ?_
  intro p e s m below meth c A ls M hw hl
  have M : Mc p s m _ meth c cX7_isAtRest 2 (some .boolean) RX7 z A := M
  obtain ⟨hx, hb, -, -, hown, hts, -, -, -, hN, hsr, -⟩ := id M
  have hl : lv_has ls 2 [(0, .ref (qS 0))] := hl
  unfold wX7_isAtRest at h
  generalize s.heap = H at hw ⊢
  generalize ([] : List Loc) = locs at hw ⊢
  refine lv_iconst (v := 0) hx hb dX7_isAtRest_0 (by decide) ?_
  refine lv_istore_n (lv' := [(1, .int (0 : Int32)), (0, .ref (qS 0))]) hx hb dX7_isAtRest_1 rfl hl (by decide) rfl (fun ls hl => ?_)
  obtain ⟨n0, h⟩ := h; exact kX7_isAtRest_2 M n0 S (0 : Int32) H locs ls hw (lv_sub hl [1, 0] rfl) h
abbrev rmX7_restsAt : Room := { frames := 7, cells := 0, slots := 0, locals := 156 }
set_option maxHeartbeats 4000000 in
set_option maxRecDepth 100000 in
theorem kX7_restsAt_32 {p : Program} {l : Launch} {e : Env} {s : State} {m : MethodId} {args : Array Value} {below : List Frame} {meth : Method} {c : Code} {z : KT} {A : Nat → Prop} {qS : Nat → Nat} {K9 : RT → Int32 → Int32 → Prop} {Q : Int32 → RT → Prop} (M : Mc p s m args meth c cX7_restsAt 3 (some .int) RX7 z A) (hK9 : ∀ (S : RT) (x1 : Int32) (x2 : Int32) (H : Heap) (locs : List Loc) (ls : Array Slot), Hw s z A (sW z qS S) H locs → lv_has ls 3 [(0, .ref (qS 0)), (1, .int x1), (2, .int x2)] → K9 S x1 x2 → W p l e rmX7_restsAt s m args below meth c H locs 0 0 (MQ below (va_Qi (fun (r : Int32) (u : RT) => Q r u) (fun u t => cAt z A ((fun u : RT => (sW z qS u)) u) t) A) args s 0 0 A) (F0 m 9 ls [])) : ∀ (S : RT) (x2 : Int32) (t0 : Int32) (H : Heap) (locs : List Loc) (ls : Array Slot), Hw s z A (sW z qS S) H locs → lv_has ls 3 [(0, .ref (qS 0)), (2, .int x2)] → bX7_restsAt_32 K9 Q S x2 t0 → W p l e rmX7_restsAt s m args below meth c H locs 0 0 (MQ below (va_Qi (fun (r : Int32) (u : RT) => Q r u) (fun u t => cAt z A ((fun u : RT => (sW z qS u)) u) t) A) args s 0 0 A) (F0 m 32 ls [.int t0]) := by
  obtain ⟨hx, hb, -, -, hown, hts, -, -, -, hN, hsr, -⟩ := id M
  intro S x2 t0 H locs ls hw hl h
  unfold bX7_restsAt_32 at h
  refine lv_istore_n (lv' := [(1, .int t0), (0, .ref (qS 0)), (2, .int x2)]) hx hb dX7_restsAt_32 rfl hl (by decide) rfl (fun ls hl => ?_)
  obtain ⟨x2_1, ex2_1⟩ : ∃ y : Int32, y = (x2 + (1 : Int32)) := ⟨_, rfl⟩
  replace h := h x2_1 ex2_1
  refine lv_iinc (v := x2_1) (lv' := [(2, .int x2_1), (1, .int t0), (0, .ref (qS 0))]) hx hb dX7_restsAt_33 hl (k := 2) rfl (by rw [ex2_1]; rfl) (by decide) rfl (fun ls hl => ?_)
  refine lv_goto (tgt := 9) hx hb dX7_restsAt_36 (by decide) ?_
  exact hK9 S t0 x2_1 H locs ls hw (lv_sub hl [2, 1, 0] rfl) h
set_option maxHeartbeats 4000000 in
set_option maxRecDepth 100000 in
theorem kX7_restsAt_39 {p : Program} {l : Launch} {e : Env} {s : State} {m : MethodId} {args : Array Value} {below : List Frame} {meth : Method} {c : Code} {z : KT} {A : Nat → Prop} {qS : Nat → Nat} {Q : Int32 → RT → Prop} (M : Mc p s m args meth c cX7_restsAt 3 (some .int) RX7 z A) : ∀ (S : RT) (x1 : Int32) (H : Heap) (locs : List Loc) (ls : Array Slot), Hw s z A (sW z qS S) H locs → lv_has ls 3 [(0, .ref (qS 0)), (1, .int x1)] → bX7_restsAt_39 Q S x1 → W p l e rmX7_restsAt s m args below meth c H locs 0 0 (MQ below (va_Qi (fun (r : Int32) (u : RT) => Q r u) (fun u t => cAt z A ((fun u : RT => (sW z qS u)) u) t) A) args s 0 0 A) (F0 m 39 ls []) := by
  obtain ⟨hx, hb, -, -, hown, hts, -, -, -, hN, hsr, -⟩ := id M
  intro S x1 H locs ls hw hl h
  unfold bX7_restsAt_39 at h
  refine lv_aload_n hx hb dX7_restsAt_39 rfl (lv_at hl 0 rfl) ?_
  refine fr_Vv (wN := fun u : RT => (sW z qS u)) M (m_X7_forgets l z qS S _ h) (cwV 0 hts (gdV cd_X7_forgets ml_X7_204 im_X7_forgets se_X7_forgets in_X7) rfl rfl rfl hdV_X7_forgets ⟨(Nat.le_of_ble_eq_true rfl), (Nat.le_of_ble_eq_true rfl)⟩) (Cut.self _) (Prm.self _ 17 (fun _ => rfl)) 0 rfl rfl rfl hw rfl hl.1 rfl (Nat.le_of_ble_eq_true rfl) dX7_restsAt_40 (fun u_ H locs h hw => ?_)
  obtain ⟨S_1, rfl⟩ : ∃ z9 : RT, z9 = u_ := ⟨_, rfl⟩
  have hw : Hw s z A (sW z qS S_1) H locs := hw
  try dsimp only at h
  refine lv_iload_n hx hb dX7_restsAt_43 rfl (lv_at hl 1 rfl) ?_
  exact rt_i M S_1 hw h dX7_restsAt_44
set_option maxHeartbeats 4000000 in
set_option maxRecDepth 100000 in
theorem kX7_restsAt_9 {p : Program} {l : Launch} {e : Env} {s : State} {m : MethodId} {args : Array Value} {below : List Frame} {meth : Method} {c : Code} {z : KT} {A : Nat → Prop} {qS : Nat → Nat} {Q : Int32 → RT → Prop} (M : Mc p s m args meth c cX7_restsAt 3 (some .int) RX7 z A) : ∀ (n : Nat) (S : RT) (x1 : Int32) (x2 : Int32) (H : Heap) (locs : List Loc) (ls : Array Slot), Hw s z A (sW z qS S) H locs → lv_has ls 3 [(0, .ref (qS 0)), (1, .int x1), (2, .int x2)] → bX7_restsAt_9 Q n S x1 x2 → W p l e rmX7_restsAt s m args below meth c H locs 0 0 (MQ below (va_Qi (fun (r : Int32) (u : RT) => Q r u) (fun u t => cAt z A ((fun u : RT => (sW z qS u)) u) t) A) args s 0 0 A) (F0 m 9 ls []) := by
  obtain ⟨hx, hb, -, -, hown, hts, -, -, -, hN, hsr, -⟩ := id M
  intro n
  induction n with
  | zero => intro S x1 x2 H locs ls hw hl h; exact False.elim h
  | succ n ih =>
    intro S x1 x2 H locs ls hw hl h
    rw [bX7_restsAt_9] at h
    refine lv_iload_n hx hb dX7_restsAt_9 rfl (lv_at hl 2 rfl) ?_
    refine lv_bipush (v := 99) hx hb dX7_restsAt_10 (by decide) ?_
    refine lv_icmp_gt (tgt := 39) hx hb dX7_restsAt_12 (by decide) (fun c_1 => ?_) (fun c_1 => ?_)
    · replace h := iT c_1 h
      exact kX7_restsAt_39 M S x1 H locs ls hw (lv_sub hl [0, 1] rfl) h
    · replace h := iF c_1 h
      refine lv_iload_n hx hb dX7_restsAt_15 rfl (lv_at hl 1 rfl) ?_
      refine lv_if_ge (tgt := 39) hx hb dX7_restsAt_16 (by decide) (fun c_2 => ?_) (fun c_2 => ?_)
      · replace h := iT c_2 h
        exact kX7_restsAt_39 M S x1 H locs ls hw (lv_sub hl [0, 1] rfl) h
      · replace h := iF c_2 h
        refine lv_aload_n hx hb dX7_restsAt_19 rfl (lv_at hl 0 rfl) ?_
        refine fr_Vi (wN := fun u : RT => (sW z qS u)) M (m_X7_isAtRest l z qS S _ h) (cwV 0 hts (gdV cd_X7_isAtRest ml_X7_210 im_X7_isAtRest se_X7_isAtRest in_X7) rfl rfl rfl hdV_X7_isAtRest ⟨(Nat.le_of_ble_eq_true rfl), (Nat.le_of_ble_eq_true rfl)⟩) (Cut.self _) (Prm.self _ 17 (fun _ => rfl)) 0 rfl rfl rfl hw rfl hl.1 rfl (Nat.le_of_ble_eq_true rfl) dX7_restsAt_20 (fun r_4 u_ H locs h hw => ?_)
        obtain ⟨S_3, rfl⟩ : ∃ z9 : RT, z9 = u_ := ⟨_, rfl⟩
        have hw : Hw s z A (sW z qS S_3) H locs := hw
        try dsimp only at h
        refine lv_if_eq (tgt := 30) hx hb dX7_restsAt_23 (by decide) (fun c_5 => ?_) (fun c_5 => ?_)
        · replace h := iT c_5 h
          refine lv_bipush (v := -9) hx hb dX7_restsAt_30 (by decide) ?_
          exact kX7_restsAt_32 M ih S_3 x2 (-9 : Int32) H locs ls hw (lv_sub hl [0, 2] rfl) h
        · replace h := iF c_5 h
          refine lv_iload_n hx hb dX7_restsAt_26 rfl (lv_at hl 2 rfl) ?_
          refine lv_goto (tgt := 32) hx hb dX7_restsAt_27 (by decide) ?_
          exact kX7_restsAt_32 M ih S_3 x2 x2 H locs ls hw (lv_sub hl [0, 2] rfl) h
set_option maxHeartbeats 4000000 in
set_option maxRecDepth 100000 in
theorem m_X7_restsAt (l : Launch) (z : KT) (qS : Nat → Nat) (S : RT) (Q : Int32 → RT → Prop) (h : wX7_restsAt S Q) : CI l yX7_restsAt cX7_restsAt 3 .int rmX7_restsAt z [.ref (qS 0)] (sW z qS S) (fun u : RT => (sW z qS u)) (fun (r : Int32) (u : RT) => Q r u) := by
  refine CI.of rfl (Nat.le_of_ble_eq_true rfl) ?_
  intro p e s m below meth c A ls M hw hl
  have M : Mc p s m _ meth c cX7_restsAt 3 (some .int) RX7 z A := M
  obtain ⟨hx, hb, -, -, hown, hts, -, -, -, hN, hsr, -⟩ := id M
  have hl : lv_has ls 3 [(0, .ref (qS 0))] := hl
  unfold wX7_restsAt at h
  generalize s.heap = H at hw ⊢
  generalize ([] : List Loc) = locs at hw ⊢
  refine lv_aload_n hx hb dX7_restsAt_0 rfl (lv_at hl 0 rfl) ?_
  refine fr_Vv (wN := fun u : RT => (sW z qS u)) M (m_X7_thinks l z qS S _ h) (cwV 0 hts (gdV cd_X7_thinks ml_X7_201 im_X7_thinks se_X7_thinks in_X7) rfl rfl rfl hdV_X7_thinks ⟨(Nat.le_of_ble_eq_true rfl), (Nat.le_of_ble_eq_true rfl)⟩) (Cut.self _) (Prm.self _ 17 (fun _ => rfl)) 0 rfl rfl rfl hw rfl hl.1 rfl (Nat.le_of_ble_eq_true rfl) dX7_restsAt_1 (fun u_ H locs h hw => ?_)
  obtain ⟨S_1, rfl⟩ : ∃ z9 : RT, z9 = u_ := ⟨_, rfl⟩
  have hw : Hw s z A (sW z qS S_1) H locs := hw
  try dsimp only at h
  refine lv_bipush (v := -9) hx hb dX7_restsAt_4 (by decide) ?_
  refine lv_istore_n (lv' := [(1, .int (-9 : Int32)), (0, .ref (qS 0))]) hx hb dX7_restsAt_6 rfl hl (by decide) rfl (fun ls hl => ?_)
  refine lv_iconst (v := 0) hx hb dX7_restsAt_7 (by decide) ?_
  refine lv_istore_n (lv' := [(2, .int (0 : Int32)), (1, .int (-9 : Int32)), (0, .ref (qS 0))]) hx hb dX7_restsAt_8 rfl hl (by decide) rfl (fun ls hl => ?_)
  obtain ⟨n0, h⟩ := h; exact kX7_restsAt_9 M n0 S_1 (-9 : Int32) (0 : Int32) H locs ls hw (lv_sub hl [2, 1, 0] rfl) h
abbrev rmX7_first : Room := { frames := 8, cells := 0, slots := 0, locals := 178 }
set_option maxHeartbeats 4000000 in
set_option maxRecDepth 100000 in
theorem kX7_first_78 {p : Program} {l : Launch} {e : Env} {s : State} {m : MethodId} {args : Array Value} {below : List Frame} {meth : Method} {c : Code} {z : KT} {A : Nat → Prop} {qS : Nat → Nat} {K35 : RT → Int32 → Int32 → Int32 → Int32 → Prop} {Q : Int32 → RT → Prop} (M : Mc p s m args meth c cX7_first 6 (some .int) RX7 z A) (hK35 : ∀ (S : RT) (x1 : Int32) (x2 : Int32) (x3 : Int32) (x4 : Int32) (H : Heap) (locs : List Loc) (ls : Array Slot), Hw s z A (sW z qS S) H locs → lv_has ls 6 [(0, .ref (qS 0)), (1, .int x1), (2, .int x2), (3, .int x3), (4, .int x4)] → K35 S x1 x2 x3 x4 → W p l e rmX7_first s m args below meth c H locs 0 0 (MQ below (va_Qi (fun (r : Int32) (u : RT) => Q r u) (fun u t => cAt z A ((fun u : RT => (sW z qS u)) u) t) A) args s 0 0 A) (F0 m 35 ls [])) : ∀ (S : RT) (x1 : Int32) (x2 : Int32) (x3 : Int32) (x4 : Int32) (H : Heap) (locs : List Loc) (ls : Array Slot), Hw s z A (sW z qS S) H locs → lv_has ls 6 [(0, .ref (qS 0)), (1, .int x1), (2, .int x2), (3, .int x3), (4, .int x4)] → bX7_first_78 K35 Q S x1 x2 x3 x4 → W p l e rmX7_first s m args below meth c H locs 0 0 (MQ below (va_Qi (fun (r : Int32) (u : RT) => Q r u) (fun u t => cAt z A ((fun u : RT => (sW z qS u)) u) t) A) args s 0 0 A) (F0 m 78 ls []) := by
  obtain ⟨hx, hb, -, -, hown, hts, -, -, -, hN, hsr, -⟩ := id M
  intro S x1 x2 x3 x4 H locs ls hw hl h
  unfold bX7_first_78 at h
  obtain ⟨x4_1, ex4_1⟩ : ∃ y : Int32, y = (x4 + (1 : Int32)) := ⟨_, rfl⟩
  replace h := h x4_1 ex4_1
  refine lv_iinc (v := x4_1) (lv' := [(4, .int x4_1), (0, .ref (qS 0)), (1, .int x1), (2, .int x2), (3, .int x3)]) hx hb dX7_first_78 hl (k := 4) rfl (by rw [ex4_1]; rfl) (by decide) rfl (fun ls hl => ?_)
  refine lv_goto (tgt := 35) hx hb dX7_first_81 (by decide) ?_
  exact hK35 S x1 x2 x3 x4_1 H locs ls hw (lv_sub hl [1, 2, 3, 4, 0] rfl) h
set_option maxHeartbeats 4000000 in
set_option maxRecDepth 100000 in
theorem kX7_first_72 {p : Program} {l : Launch} {e : Env} {s : State} {m : MethodId} {args : Array Value} {below : List Frame} {meth : Method} {c : Code} {z : KT} {A : Nat → Prop} {qS : Nat → Nat} {K35 : RT → Int32 → Int32 → Int32 → Int32 → Prop} {Q : Int32 → RT → Prop} (M : Mc p s m args meth c cX7_first 6 (some .int) RX7 z A) (hK35 : ∀ (S : RT) (x1 : Int32) (x2 : Int32) (x3 : Int32) (x4 : Int32) (H : Heap) (locs : List Loc) (ls : Array Slot), Hw s z A (sW z qS S) H locs → lv_has ls 6 [(0, .ref (qS 0)), (1, .int x1), (2, .int x2), (3, .int x3), (4, .int x4)] → K35 S x1 x2 x3 x4 → W p l e rmX7_first s m args below meth c H locs 0 0 (MQ below (va_Qi (fun (r : Int32) (u : RT) => Q r u) (fun u t => cAt z A ((fun u : RT => (sW z qS u)) u) t) A) args s 0 0 A) (F0 m 35 ls [])) : ∀ (S : RT) (x1 : Int32) (x4 : Int32) (x5 : Int32) (H : Heap) (locs : List Loc) (ls : Array Slot), Hw s z A (sW z qS S) H locs → lv_has ls 6 [(0, .ref (qS 0)), (1, .int x1), (4, .int x4), (5, .int x5)] → bX7_first_72 K35 Q S x1 x4 x5 → W p l e rmX7_first s m args below meth c H locs 0 0 (MQ below (va_Qi (fun (r : Int32) (u : RT) => Q r u) (fun u t => cAt z A ((fun u : RT => (sW z qS u)) u) t) A) args s 0 0 A) (F0 m 72 ls []) := by
  obtain ⟨hx, hb, -, -, hown, hts, -, -, -, hN, hsr, -⟩ := id M
  intro S x1 x4 x5 H locs ls hw hl h
  unfold bX7_first_72 at h
  refine lv_iload hx hb dX7_first_72 (lv_at hl 2 rfl) ?_
  refine lv_istore_n (lv' := [(2, .int x4), (0, .ref (qS 0)), (1, .int x1), (4, .int x4), (5, .int x5)]) hx hb dX7_first_74 rfl hl (by decide) rfl (fun ls hl => ?_)
  refine lv_iload hx hb dX7_first_75 (lv_at hl 4 rfl) ?_
  refine lv_istore_n (lv' := [(3, .int x5), (2, .int x4), (0, .ref (qS 0)), (1, .int x1), (4, .int x4), (5, .int x5)]) hx hb dX7_first_77 rfl hl (by decide) rfl (fun ls hl => ?_)
  exact kX7_first_78 M hK35 S x1 x4 x5 x4 H locs ls hw (lv_sub hl [2, 3, 1, 0, 4] rfl) h
set_option maxHeartbeats 4000000 in
set_option maxRecDepth 100000 in
theorem kX7_first_35 {p : Program} {l : Launch} {e : Env} {s : State} {m : MethodId} {args : Array Value} {below : List Frame} {meth : Method} {c : Code} {z : KT} {A : Nat → Prop} {qS : Nat → Nat} {Q : Int32 → RT → Prop} (M : Mc p s m args meth c cX7_first 6 (some .int) RX7 z A) : ∀ (n : Nat) (S : RT) (x1 : Int32) (x2 : Int32) (x3 : Int32) (x4 : Int32) (H : Heap) (locs : List Loc) (ls : Array Slot), Hw s z A (sW z qS S) H locs → lv_has ls 6 [(0, .ref (qS 0)), (1, .int x1), (2, .int x2), (3, .int x3), (4, .int x4)] → bX7_first_35 Q n S x1 x2 x3 x4 → W p l e rmX7_first s m args below meth c H locs 0 0 (MQ below (va_Qi (fun (r : Int32) (u : RT) => Q r u) (fun u t => cAt z A ((fun u : RT => (sW z qS u)) u) t) A) args s 0 0 A) (F0 m 35 ls []) := by
  obtain ⟨hx, hb, -, -, hown, hts, -, -, -, hN, hsr, -⟩ := id M
  intro n
  induction n with
  | zero => intro S x1 x2 x3 x4 H locs ls hw hl h; exact False.elim h
  | succ n ih =>
    intro S x1 x2 x3 x4 H locs ls hw hl h
    rw [bX7_first_35] at h
    refine lv_iload hx hb dX7_first_35 (lv_at hl 4 rfl) ?_
    refine lv_aload_n hx hb dX7_first_37 rfl (lv_at hl 0 rfl) ?_
    refine gt_f (v := .int (S 30 8)) M inlX7 hw 0 rfl rfl 8 (by decide) fl_X7_62 rfl rfl dX7_first_38 ?_
    refine lv_icmp_ge (tgt := 84) hx hb dX7_first_41 (by decide) (fun c_1 => ?_) (fun c_1 => ?_)
    · replace h := iT c_1 h
      refine lv_iload_n hx hb dX7_first_84 rfl (lv_at hl 1 rfl) ?_
      refine lv_if_ne (tgt := 92) hx hb dX7_first_85 (by decide) (fun c_2 => ?_) (fun c_2 => ?_)
      · replace h := iF c_2 h
        refine lv_iload_n hx hb dX7_first_92 rfl (lv_at hl 3 rfl) ?_
        exact rt_i M S hw h dX7_first_93
      · replace h := iT c_2 h
        refine lv_iload_n hx hb dX7_first_88 rfl (lv_at hl 2 rfl) ?_
        refine lv_goto (tgt := 93) hx hb dX7_first_89 (by decide) ?_
        exact rt_i M S hw h dX7_first_93
    · replace h := iF c_1 h
      refine lv_aload_n hx hb dX7_first_44 rfl (lv_at hl 0 rfl) ?_
      refine lv_iload hx hb dX7_first_45 (lv_at hl 4 rfl) ?_
      refine lv_bipush (v := 20) hx hb dX7_first_47 (by decide) ?_
      refine fr_Vi (wN := fun u : RT => (sW z qS u)) M (m_X7_upAt l z qS S x4 (20 : Int32) _ h) (cwV 2 hts (gdV cd_X7_upAt ml_X7_207 im_X7_upAt se_X7_upAt in_X7) rfl rfl rfl hdV_X7_upAt ⟨(Nat.le_of_ble_eq_true rfl), (Nat.le_of_ble_eq_true rfl)⟩) (Cut.self _) (Prm.self _ 17 (fun _ => rfl)) 0 rfl rfl rfl hw rfl hl.1 rfl (Nat.le_of_ble_eq_true rfl) dX7_first_49 (fun r_4 u_ H locs h hw => ?_)
      obtain ⟨S_3, rfl⟩ : ∃ z9 : RT, z9 = u_ := ⟨_, rfl⟩
      have hw : Hw s z A (sW z qS S_3) H locs := hw
      try dsimp only at h
      refine lv_istore (lv' := [(5, .int r_4), (0, .ref (qS 0)), (1, .int x1), (2, .int x2), (3, .int x3), (4, .int x4)]) hx hb dX7_first_52 hl (by decide) rfl (fun ls hl => ?_)
      refine lv_iload hx hb dX7_first_54 (lv_at hl 0 rfl) ?_
      refine lv_if_lt (tgt := 78) hx hb dX7_first_56 (by decide) (fun c_5 => ?_) (fun c_5 => ?_)
      · replace h := iT c_5 h
        exact kX7_first_78 M ih S_3 x1 x2 x3 x4 H locs ls hw (lv_sub hl [1, 2, 3, 4, 5] rfl) h
      · replace h := iF c_5 h
        refine lv_iload_n hx hb dX7_first_59 rfl (lv_at hl 3 rfl) ?_
        refine lv_if_lt (tgt := 72) hx hb dX7_first_60 (by decide) (fun c_6 => ?_) (fun c_6 => ?_)
        · replace h := iT c_6 h
          exact kX7_first_72 M ih S_3 x1 x4 r_4 H locs ls hw (lv_sub hl [1, 2, 5, 0] rfl) h
        · replace h := iF c_6 h
          refine lv_iload hx hb dX7_first_63 (lv_at hl 0 rfl) ?_
          refine lv_iload_n hx hb dX7_first_65 rfl (lv_at hl 4 rfl) ?_
          refine lv_icmp_lt (tgt := 72) hx hb dX7_first_66 (by decide) (fun c_7 => ?_) (fun c_7 => ?_)
          · replace h := iT c_7 h
            exact kX7_first_72 M ih S_3 x1 x4 r_4 H locs ls hw (lv_sub hl [1, 2, 5, 0] rfl) h
          · replace h := iF c_7 h
            refine lv_goto (tgt := 78) hx hb dX7_first_69 (by decide) ?_
            exact kX7_first_78 M ih S_3 x1 x2 x3 x4 H locs ls hw (lv_sub hl [1, 2, 3, 4, 5] rfl) h
set_option maxHeartbeats 4000000 in
set_option maxRecDepth 100000 in
theorem m_X7_first (l : Launch) (z : KT) (qS : Nat → Nat) (S : RT) (x1 : Int32) (Q : Int32 → RT → Prop) (h : wX7_first S x1 Q) : CI l yX7_first cX7_first 6 .int rmX7_first z [.ref (qS 0), .int x1] (sW z qS S) (fun u : RT => (sW z qS u)) (fun (r : Int32) (u : RT) => Q r u) := by
  refine CI.of rfl (Nat.le_of_ble_eq_true rfl) ?_
  intro p e s m below meth c A ls M hw hl
  have M : Mc p s m _ meth c cX7_first 6 (some .int) RX7 z A := M
  obtain ⟨hx, hb, -, -, hown, hts, -, -, -, hN, hsr, -⟩ := id M
  have hl : lv_has ls 6 [(0, .ref (qS 0)), (1, .int x1)] := hl
  unfold wX7_first at h
  generalize s.heap = H at hw ⊢
  generalize ([] : List Loc) = locs at hw ⊢
  refine lv_iload_n hx hb dX7_first_0 rfl (lv_at hl 1 rfl) ?_
  refine lv_iconst (v := 0) hx hb dX7_first_1 (by decide) ?_
  refine lv_iconst (v := 2) hx hb dX7_first_2 (by decide) ?_
  refine fr_Si (wN := fun _ : Unit => (sW z qS S)) M (m_X7_isIn l z x1 (0 : Int32) (2 : Int32) _ h) (va_cwS 3 hts (gdS cd_X7_isIn ml_X7_92 st_X7_isIn in_X7) rfl rfl rfl hdS_X7_isIn ⟨(Nat.le_of_ble_eq_true rfl), (Nat.le_of_ble_eq_true rfl)⟩) (Cut.none _) (Prm.none _) hw rfl hl.1 rfl (Nat.le_of_ble_eq_true rfl) dX7_first_3 (fun r_1 u_ H locs h hw => ?_)
  have hw : Hw s z A (sW z qS S) H locs := hw
  try dsimp only at h
  refine lv_if_ne (tgt := 16) hx hb dX7_first_6 (by decide) (fun c_2 => ?_) (fun c_2 => ?_)
  · replace h := iF c_2 h
    refine lv_iload_n hx hb dX7_first_16 rfl (lv_at hl 1 rfl) ?_
    refine lv_iconst (v := 2) hx hb dX7_first_17 (by decide) ?_
    refine lv_icmp_ne (tgt := 26) hx hb dX7_first_18 (by decide) (fun c_3 => ?_) (fun c_3 => ?_)
    · replace h := iF c_3 h
      refine lv_bipush (v := -9) hx hb dX7_first_26 (by decide) ?_
      refine lv_istore_n (lv' := [(2, .int (-9 : Int32)), (0, .ref (qS 0)), (1, .int x1)]) hx hb dX7_first_28 rfl hl (by decide) rfl (fun ls hl => ?_)
      refine lv_bipush (v := -9) hx hb dX7_first_29 (by decide) ?_
      refine lv_istore_n (lv' := [(3, .int (-9 : Int32)), (2, .int (-9 : Int32)), (0, .ref (qS 0)), (1, .int x1)]) hx hb dX7_first_31 rfl hl (by decide) rfl (fun ls hl => ?_)
      refine lv_iconst (v := 0) hx hb dX7_first_32 (by decide) ?_
      refine lv_istore (lv' := [(4, .int (0 : Int32)), (3, .int (-9 : Int32)), (2, .int (-9 : Int32)), (0, .ref (qS 0)), (1, .int x1)]) hx hb dX7_first_33 hl (by decide) rfl (fun ls hl => ?_)
      obtain ⟨n0, h⟩ := h; exact kX7_first_35 M n0 S x1 (-9 : Int32) (-9 : Int32) (0 : Int32) H locs ls hw (lv_sub hl [3, 4, 2, 1, 0] rfl) h
    · replace h := iT c_3 h
      refine lv_aload_n hx hb dX7_first_21 rfl (lv_at hl 0 rfl) ?_
      refine fr_Vi (wN := fun u : RT => (sW z qS u)) M (m_X7_restsAt l z qS S _ h) (cwV 0 hts (gdV cd_X7_restsAt ml_X7_213 im_X7_restsAt se_X7_restsAt in_X7) rfl rfl rfl hdV_X7_restsAt ⟨(Nat.le_of_ble_eq_true rfl), (Nat.le_of_ble_eq_true rfl)⟩) (Cut.self _) (Prm.self _ 17 (fun _ => rfl)) 0 rfl rfl rfl hw rfl hl.1 rfl (Nat.le_of_ble_eq_true rfl) dX7_first_22 (fun r_5 u_ H locs h hw => ?_)
      obtain ⟨S_4, rfl⟩ : ∃ z9 : RT, z9 = u_ := ⟨_, rfl⟩
      have hw : Hw s z A (sW z qS S_4) H locs := hw
      try dsimp only at h
      exact rt_i M S_4 hw h dX7_first_25
  · replace h := iT c_2 h
    refine lv_aload_n hx hb dX7_first_9 rfl (lv_at hl 0 rfl) ?_
    refine lv_bipush (v := -2) hx hb dX7_first_10 (by decide) ?_
    refine fr_Vi (wN := fun u : RT => (sW z qS u)) M (m_X7_no l z qS S (-2 : Int32) _ h) (cwV 1 hts (gdV cd_X7_no ml_X7_81 im_X7_no se_X7_no in_X7) rfl rfl rfl hdV_X7_no ⟨(Nat.le_of_ble_eq_true rfl), (Nat.le_of_ble_eq_true rfl)⟩) (Cut.self _) (Prm.self _ 17 (fun _ => rfl)) 0 rfl rfl rfl hw rfl hl.1 rfl (Nat.le_of_ble_eq_true rfl) dX7_first_12 (fun r_7 u_ H locs h hw => ?_)
    obtain ⟨S_6, rfl⟩ : ∃ z9 : RT, z9 = u_ := ⟨_, rfl⟩
    have hw : Hw s z A (sW z qS S_6) H locs := hw
    try dsimp only at h
    exact rt_i M S_6 hw h dX7_first_15
abbrev rmX7_changes : Room := { frames := 6, cells := 0, slots := 0, locals := 135 }
set_option maxHeartbeats 4000000 in
set_option maxRecDepth 100000 in
theorem kX7_changes_61 {p : Program} {l : Launch} {e : Env} {s : State} {m : MethodId} {args : Array Value} {below : List Frame} {meth : Method} {c : Code} {z : KT} {A : Nat → Prop} {qS : Nat → Nat} {K30 : RT → Int32 → Int32 → Int32 → Int32 → Prop} {Q : Int32 → RT → Prop} (M : Mc p s m args meth c cX7_changes 5 (some .int) RX7 z A) (hK30 : ∀ (S : RT) (x1 : Int32) (x2 : Int32) (x3 : Int32) (x4 : Int32) (H : Heap) (locs : List Loc) (ls : Array Slot), Hw s z A (sW z qS S) H locs → lv_has ls 5 [(0, .ref (qS 0)), (1, .int x1), (2, .int x2), (3, .int x3), (4, .int x4)] → K30 S x1 x2 x3 x4 → W p l e rmX7_changes s m args below meth c H locs 0 0 (MQ below (va_Qi (fun (r : Int32) (u : RT) => Q r u) (fun u t => cAt z A ((fun u : RT => (sW z qS u)) u) t) A) args s 0 0 A) (F0 m 30 ls [])) : ∀ (S : RT) (x1 : Int32) (x2 : Int32) (x4 : Int32) (t0 : Int32) (H : Heap) (locs : List Loc) (ls : Array Slot), Hw s z A (sW z qS S) H locs → lv_has ls 5 [(0, .ref (qS 0)), (1, .int x1), (2, .int x2), (4, .int x4)] → bX7_changes_61 K30 Q S x1 x2 x4 t0 → W p l e rmX7_changes s m args below meth c H locs 0 0 (MQ below (va_Qi (fun (r : Int32) (u : RT) => Q r u) (fun u t => cAt z A ((fun u : RT => (sW z qS u)) u) t) A) args s 0 0 A) (F0 m 61 ls [.int t0]) := by
  obtain ⟨hx, hb, -, -, hown, hts, -, -, -, hN, hsr, -⟩ := id M
  intro S x1 x2 x4 t0 H locs ls hw hl h
  unfold bX7_changes_61 at h
  refine lv_istore_n (lv' := [(3, .int t0), (0, .ref (qS 0)), (1, .int x1), (2, .int x2), (4, .int x4)]) hx hb dX7_changes_61 rfl hl (by decide) rfl (fun ls hl => ?_)
  obtain ⟨x4_1, ex4_1⟩ : ∃ y : Int32, y = (x4 + (1 : Int32)) := ⟨_, rfl⟩
  replace h := h x4_1 ex4_1
  refine lv_iinc (v := x4_1) (lv' := [(4, .int x4_1), (3, .int t0), (0, .ref (qS 0)), (1, .int x1), (2, .int x2)]) hx hb dX7_changes_62 hl (k := 4) rfl (by rw [ex4_1]; rfl) (by decide) rfl (fun ls hl => ?_)
  refine lv_goto (tgt := 30) hx hb dX7_changes_65 (by decide) ?_
  exact hK30 S x1 x2 t0 x4_1 H locs ls hw (lv_sub hl [2, 3, 4, 1, 0] rfl) h
set_option maxHeartbeats 4000000 in
set_option maxRecDepth 100000 in
theorem kX7_changes_68 {p : Program} {l : Launch} {e : Env} {s : State} {m : MethodId} {args : Array Value} {below : List Frame} {meth : Method} {c : Code} {z : KT} {A : Nat → Prop} {qS : Nat → Nat} {Q : Int32 → RT → Prop} (M : Mc p s m args meth c cX7_changes 5 (some .int) RX7 z A) : ∀ (S : RT) (x3 : Int32) (H : Heap) (locs : List Loc) (ls : Array Slot), Hw s z A (sW z qS S) H locs → lv_has ls 5 [(0, .ref (qS 0)), (3, .int x3)] → bX7_changes_68 Q S x3 → W p l e rmX7_changes s m args below meth c H locs 0 0 (MQ below (va_Qi (fun (r : Int32) (u : RT) => Q r u) (fun u t => cAt z A ((fun u : RT => (sW z qS u)) u) t) A) args s 0 0 A) (F0 m 68 ls []) := by
  obtain ⟨hx, hb, -, -, hown, hts, -, -, -, hN, hsr, -⟩ := id M
  intro S x3 H locs ls hw hl h
  unfold bX7_changes_68 at h
  refine lv_aload_n hx hb dX7_changes_68 rfl (lv_at hl 0 rfl) ?_
  refine fr_Vv (wN := fun u : RT => (sW z qS u)) M (m_X7_forgets l z qS S _ h) (cwV 0 hts (gdV cd_X7_forgets ml_X7_204 im_X7_forgets se_X7_forgets in_X7) rfl rfl rfl hdV_X7_forgets ⟨(Nat.le_of_ble_eq_true rfl), (Nat.le_of_ble_eq_true rfl)⟩) (Cut.self _) (Prm.self _ 17 (fun _ => rfl)) 0 rfl rfl rfl hw rfl hl.1 rfl (Nat.le_of_ble_eq_true rfl) dX7_changes_69 (fun u_ H locs h hw => ?_)
  obtain ⟨S_1, rfl⟩ : ∃ z9 : RT, z9 = u_ := ⟨_, rfl⟩
  have hw : Hw s z A (sW z qS S_1) H locs := hw
  try dsimp only at h
  refine lv_iload_n hx hb dX7_changes_72 rfl (lv_at hl 1 rfl) ?_
  exact rt_i M S_1 hw h dX7_changes_73
set_option maxHeartbeats 4000000 in
set_option maxRecDepth 100000 in
theorem kX7_changes_30 {p : Program} {l : Launch} {e : Env} {s : State} {m : MethodId} {args : Array Value} {below : List Frame} {meth : Method} {c : Code} {z : KT} {A : Nat → Prop} {qS : Nat → Nat} {Q : Int32 → RT → Prop} (M : Mc p s m args meth c cX7_changes 5 (some .int) RX7 z A) : ∀ (n : Nat) (S : RT) (x1 : Int32) (x2 : Int32) (x3 : Int32) (x4 : Int32) (H : Heap) (locs : List Loc) (ls : Array Slot), Hw s z A (sW z qS S) H locs → lv_has ls 5 [(0, .ref (qS 0)), (1, .int x1), (2, .int x2), (3, .int x3), (4, .int x4)] → bX7_changes_30 Q n S x1 x2 x3 x4 → W p l e rmX7_changes s m args below meth c H locs 0 0 (MQ below (va_Qi (fun (r : Int32) (u : RT) => Q r u) (fun u t => cAt z A ((fun u : RT => (sW z qS u)) u) t) A) args s 0 0 A) (F0 m 30 ls []) := by
  obtain ⟨hx, hb, -, -, hown, hts, -, -, -, hN, hsr, -⟩ := id M
  intro n
  induction n with
  | zero => intro S x1 x2 x3 x4 H locs ls hw hl h; exact False.elim h
  | succ n ih =>
    intro S x1 x2 x3 x4 H locs ls hw hl h
    rw [bX7_changes_30] at h
    refine lv_iload hx hb dX7_changes_30 (lv_at hl 4 rfl) ?_
    refine lv_bipush (v := 99) hx hb dX7_changes_32 (by decide) ?_
    refine lv_icmp_gt (tgt := 68) hx hb dX7_changes_34 (by decide) (fun c_1 => ?_) (fun c_1 => ?_)
    · replace h := iT c_1 h
      exact kX7_changes_68 M S x3 H locs ls hw (lv_sub hl [0, 3] rfl) h
    · replace h := iF c_1 h
      refine lv_iload_n hx hb dX7_changes_37 rfl (lv_at hl 3 rfl) ?_
      refine lv_if_ge (tgt := 68) hx hb dX7_changes_38 (by decide) (fun c_2 => ?_) (fun c_2 => ?_)
      · replace h := iT c_2 h
        exact kX7_changes_68 M S x3 H locs ls hw (lv_sub hl [0, 3] rfl) h
      · replace h := iF c_2 h
        refine lv_aload_n hx hb dX7_changes_41 rfl (lv_at hl 0 rfl) ?_
        refine fr_Vv (wN := fun u : RT => (sW z qS u)) M (m_X7_goesHour l z qS S _ h) (cwV 0 hts (gdV cd_X7_goesHour ml_X7_188 im_X7_goesHour se_X7_goesHour in_X7) rfl rfl rfl hdV_X7_goesHour ⟨(Nat.le_of_ble_eq_true rfl), (Nat.le_of_ble_eq_true rfl)⟩) (Cut.self _) (Prm.self _ 17 (fun _ => rfl)) 0 rfl rfl rfl hw rfl hl.1 rfl (Nat.le_of_ble_eq_true rfl) dX7_changes_42 (fun u_ H locs h hw => ?_)
        obtain ⟨S_3, rfl⟩ : ∃ z9 : RT, z9 = u_ := ⟨_, rfl⟩
        have hw : Hw s z A (sW z qS S_3) H locs := hw
        try dsimp only at h
        refine lv_aload_n hx hb dX7_changes_45 rfl (lv_at hl 0 rfl) ?_
        refine lv_iload_n hx hb dX7_changes_46 rfl (lv_at hl 1 rfl) ?_
        refine fr_Vi (wN := fun _ : Unit => (sW z qS S_3)) M (m_X7_holdsTo l z qS S_3 x1 _ h) (cwV 1 hts (gdV cd_X7_holdsTo ml_X7_179 im_X7_holdsTo se_X7_holdsTo in_X7) rfl rfl rfl hdV_X7_holdsTo ⟨(Nat.le_of_ble_eq_true rfl), (Nat.le_of_ble_eq_true rfl)⟩) (Cut.self _) (Prm.self _ 17 (fun _ => rfl)) 0 rfl rfl rfl hw rfl hl.1 rfl (Nat.le_of_ble_eq_true rfl) dX7_changes_47 (fun r_4 u_ H locs h hw => ?_)
        have hw : Hw s z A (sW z qS S_3) H locs := hw
        try dsimp only at h
        refine lv_iload_n hx hb dX7_changes_50 rfl (lv_at hl 2 rfl) ?_
        refine lv_icmp_eq (tgt := 59) hx hb dX7_changes_51 (by decide) (fun c_5 => ?_) (fun c_5 => ?_)
        · replace h := iT c_5 h
          refine lv_bipush (v := -9) hx hb dX7_changes_59 (by decide) ?_
          exact kX7_changes_61 M ih S_3 x1 x2 x4 (-9 : Int32) H locs ls hw (lv_sub hl [0, 1, 2, 4] rfl) h
        · replace h := iF c_5 h
          refine lv_iload hx hb dX7_changes_54 (lv_at hl 4 rfl) ?_
          refine lv_goto (tgt := 61) hx hb dX7_changes_56 (by decide) ?_
          exact kX7_changes_61 M ih S_3 x1 x2 x4 x4 H locs ls hw (lv_sub hl [0, 1, 2, 4] rfl) h
set_option maxHeartbeats 4000000 in
set_option maxRecDepth 100000 in
theorem m_X7_changes (l : Launch) (z : KT) (qS : Nat → Nat) (S : RT) (x1 : Int32) (Q : Int32 → RT → Prop) (h : wX7_changes S x1 Q) : CI l yX7_changes cX7_changes 5 .int rmX7_changes z [.ref (qS 0), .int x1] (sW z qS S) (fun u : RT => (sW z qS u)) (fun (r : Int32) (u : RT) => Q r u) := by
  refine CI.of rfl (Nat.le_of_ble_eq_true rfl) ?_
  intro p e s m below meth c A ls M hw hl
  have M : Mc p s m _ meth c cX7_changes 5 (some .int) RX7 z A := M
  obtain ⟨hx, hb, -, -, hown, hts, -, -, -, hN, hsr, -⟩ := id M
  have hl : lv_has ls 5 [(0, .ref (qS 0)), (1, .int x1)] := hl
  unfold wX7_changes at h
  generalize s.heap = H at hw ⊢
  generalize ([] : List Loc) = locs at hw ⊢
  refine lv_aload_n hx hb dX7_changes_0 rfl (lv_at hl 0 rfl) ?_
  refine lv_iload_n hx hb dX7_changes_1 rfl (lv_at hl 1 rfl) ?_
  refine fr_Vi (wN := fun _ : Unit => (sW z qS S)) M (m_X7_isRope l z qS S x1 _ h) (cwV 1 hts (gdV cd_X7_isRope ml_X7_132 im_X7_isRope se_X7_isRope in_X7) rfl rfl rfl hdV_X7_isRope ⟨(Nat.le_of_ble_eq_true rfl), (Nat.le_of_ble_eq_true rfl)⟩) (Cut.self _) (Prm.self _ 17 (fun _ => rfl)) 0 rfl rfl rfl hw rfl hl.1 rfl (Nat.le_of_ble_eq_true rfl) dX7_changes_2 (fun r_1 u_ H locs h hw => ?_)
  have hw : Hw s z A (sW z qS S) H locs := hw
  try dsimp only at h
  refine lv_if_ne (tgt := 14) hx hb dX7_changes_5 (by decide) (fun c_2 => ?_) (fun c_2 => ?_)
  · replace h := iF c_2 h
    refine lv_aload_n hx hb dX7_changes_14 rfl (lv_at hl 0 rfl) ?_
    refine lv_iload_n hx hb dX7_changes_15 rfl (lv_at hl 1 rfl) ?_
    refine fr_Vi (wN := fun _ : Unit => (sW z qS S)) M (m_X7_holdsTo l z qS S x1 _ h) (cwV 1 hts (gdV cd_X7_holdsTo ml_X7_179 im_X7_holdsTo se_X7_holdsTo in_X7) rfl rfl rfl hdV_X7_holdsTo ⟨(Nat.le_of_ble_eq_true rfl), (Nat.le_of_ble_eq_true rfl)⟩) (Cut.self _) (Prm.self _ 17 (fun _ => rfl)) 0 rfl rfl rfl hw rfl hl.1 rfl (Nat.le_of_ble_eq_true rfl) dX7_changes_16 (fun r_3 u_ H locs h hw => ?_)
    have hw : Hw s z A (sW z qS S) H locs := hw
    try dsimp only at h
    refine lv_istore_n (lv' := [(2, .int r_3), (0, .ref (qS 0)), (1, .int x1)]) hx hb dX7_changes_19 rfl hl (by decide) rfl (fun ls hl => ?_)
    refine lv_aload_n hx hb dX7_changes_20 rfl (lv_at hl 1 rfl) ?_
    refine fr_Vv (wN := fun u : RT => (sW z qS u)) M (m_X7_thinks l z qS S _ h) (cwV 0 hts (gdV cd_X7_thinks ml_X7_201 im_X7_thinks se_X7_thinks in_X7) rfl rfl rfl hdV_X7_thinks ⟨(Nat.le_of_ble_eq_true rfl), (Nat.le_of_ble_eq_true rfl)⟩) (Cut.self _) (Prm.self _ 17 (fun _ => rfl)) 0 rfl rfl rfl hw rfl hl.1 rfl (Nat.le_of_ble_eq_true rfl) dX7_changes_21 (fun u_ H locs h hw => ?_)
    obtain ⟨S_4, rfl⟩ : ∃ z9 : RT, z9 = u_ := ⟨_, rfl⟩
    have hw : Hw s z A (sW z qS S_4) H locs := hw
    try dsimp only at h
    refine lv_bipush (v := -9) hx hb dX7_changes_24 (by decide) ?_
    refine lv_istore_n (lv' := [(3, .int (-9 : Int32)), (2, .int r_3), (0, .ref (qS 0)), (1, .int x1)]) hx hb dX7_changes_26 rfl hl (by decide) rfl (fun ls hl => ?_)
    refine lv_iconst (v := 1) hx hb dX7_changes_27 (by decide) ?_
    refine lv_istore (lv' := [(4, .int (1 : Int32)), (3, .int (-9 : Int32)), (2, .int r_3), (0, .ref (qS 0)), (1, .int x1)]) hx hb dX7_changes_28 hl (by decide) rfl (fun ls hl => ?_)
    obtain ⟨n0, h⟩ := h; exact kX7_changes_30 M n0 S_4 x1 r_3 (-9 : Int32) (1 : Int32) H locs ls hw (lv_sub hl [3, 4, 2, 1, 0] rfl) h
  · replace h := iT c_2 h
    refine lv_aload_n hx hb dX7_changes_8 rfl (lv_at hl 0 rfl) ?_
    refine lv_iconst (v := -1) hx hb dX7_changes_9 (by decide) ?_
    refine fr_Vi (wN := fun u : RT => (sW z qS u)) M (m_X7_no l z qS S (-1 : Int32) _ h) (cwV 1 hts (gdV cd_X7_no ml_X7_81 im_X7_no se_X7_no in_X7) rfl rfl rfl hdV_X7_no ⟨(Nat.le_of_ble_eq_true rfl), (Nat.le_of_ble_eq_true rfl)⟩) (Cut.self _) (Prm.self _ 17 (fun _ => rfl)) 0 rfl rfl rfl hw rfl hl.1 rfl (Nat.le_of_ble_eq_true rfl) dX7_changes_10 (fun r_6 u_ H locs h hw => ?_)
    obtain ⟨S_5, rfl⟩ : ∃ z9 : RT, z9 = u_ := ⟨_, rfl⟩
    have hw : Hw s z A (sW z qS S_5) H locs := hw
    try dsimp only at h
    exact rt_i M S_5 hw h dX7_changes_13
abbrev rmX7_highIn : Room := { frames := 7, cells := 0, slots := 0, locals := 157 }
set_option maxHeartbeats 4000000 in
set_option maxRecDepth 100000 in
theorem m_X7_highIn (l : Launch) (z : KT) (qS : Nat → Nat) (S : RT) (x1 : Int32) (x2 : Int32) (Q : Int32 → RT → Prop) (h : wX7_highIn S x1 x2 Q) : CI l yX7_highIn cX7_highIn 4 .int rmX7_highIn z [.ref (qS 0), .int x1, .int x2] (sW z qS S) (fun u : RT => (sW z qS u)) (fun (r : Int32) (u : RT) => Q r u) := by
  refine CI.of rfl (Nat.le_of_ble_eq_true rfl) ?_
  intro p e s m below meth c A ls M hw hl
  have M : Mc p s m _ meth c cX7_highIn 4 (some .int) RX7 z A := M
  obtain ⟨hx, hb, -, -, hown, hts, -, -, -, hN, hsr, -⟩ := id M
  have hl : lv_has ls 4 [(0, .ref (qS 0)), (1, .int x1), (2, .int x2)] := hl
  unfold wX7_highIn at h
  generalize s.heap = H at hw ⊢
  generalize ([] : List Loc) = locs at hw ⊢
  refine lv_aload_n hx hb dX7_highIn_0 rfl (lv_at hl 0 rfl) ?_
  refine fr_Vv (wN := fun u : RT => (sW z qS u)) M (m_X7_thinks l z qS S _ h) (cwV 0 hts (gdV cd_X7_thinks ml_X7_201 im_X7_thinks se_X7_thinks in_X7) rfl rfl rfl hdV_X7_thinks ⟨(Nat.le_of_ble_eq_true rfl), (Nat.le_of_ble_eq_true rfl)⟩) (Cut.self _) (Prm.self _ 17 (fun _ => rfl)) 0 rfl rfl rfl hw rfl hl.1 rfl (Nat.le_of_ble_eq_true rfl) dX7_highIn_1 (fun u_ H locs h hw => ?_)
  obtain ⟨S_1, rfl⟩ : ∃ z9 : RT, z9 = u_ := ⟨_, rfl⟩
  have hw : Hw s z A (sW z qS S_1) H locs := hw
  try dsimp only at h
  refine lv_aload_n hx hb dX7_highIn_4 rfl (lv_at hl 0 rfl) ?_
  refine lv_iload_n hx hb dX7_highIn_5 rfl (lv_at hl 2 rfl) ?_
  refine fr_Vv (wN := fun u : RT => (sW z qS u)) M (m_X7_goes l z qS S_1 x2 _ h) (cwV 1 hts (gdV cd_X7_goes ml_X7_122 im_X7_goes se_X7_goes in_X7) rfl rfl rfl hdV_X7_goes ⟨(Nat.le_of_ble_eq_true rfl), (Nat.le_of_ble_eq_true rfl)⟩) (Cut.self _) (Prm.self _ 17 (fun _ => rfl)) 0 rfl rfl rfl hw rfl hl.1 rfl (Nat.le_of_ble_eq_true rfl) dX7_highIn_6 (fun u_ H locs h hw => ?_)
  obtain ⟨S_2, rfl⟩ : ∃ z9 : RT, z9 = u_ := ⟨_, rfl⟩
  have hw : Hw s z A (sW z qS S_2) H locs := hw
  try dsimp only at h
  refine lv_aload_n hx hb dX7_highIn_9 rfl (lv_at hl 0 rfl) ?_
  refine gt_f (v := .ref (qS 6)) M inlX7 hw 0 rfl rfl 5 (by decide) fl_X7_25 rfl rfl dX7_highIn_10 ?_
  refine lv_iload_n hx hb dX7_highIn_13 rfl (lv_at hl 1 rfl) ?_
  obtain ⟨a_3, h⟩ := h
  refine ld_i M hw 6 rfl a_3 dX7_highIn_14 ?_
  refine lv_topi (fun x3_4 ex3_4 => ?_)
  replace h := h x3_4 ex3_4
  refine lv_istore_n (lv' := [(3, .int x3_4), (0, .ref (qS 0)), (1, .int x1), (2, .int x2)]) hx hb dX7_highIn_15 rfl hl (by decide) rfl (fun ls hl => ?_)
  refine lv_aload_n hx hb dX7_highIn_16 rfl (lv_at hl 1 rfl) ?_
  refine fr_Vv (wN := fun u : RT => (sW z qS u)) M (m_X7_forgets l z qS S_2 _ h) (cwV 0 hts (gdV cd_X7_forgets ml_X7_204 im_X7_forgets se_X7_forgets in_X7) rfl rfl rfl hdV_X7_forgets ⟨(Nat.le_of_ble_eq_true rfl), (Nat.le_of_ble_eq_true rfl)⟩) (Cut.self _) (Prm.self _ 17 (fun _ => rfl)) 0 rfl rfl rfl hw rfl hl.1 rfl (Nat.le_of_ble_eq_true rfl) dX7_highIn_17 (fun u_ H locs h hw => ?_)
  obtain ⟨S_5, rfl⟩ : ∃ z9 : RT, z9 = u_ := ⟨_, rfl⟩
  have hw : Hw s z A (sW z qS S_5) H locs := hw
  try dsimp only at h
  refine lv_iload_n hx hb dX7_highIn_20 rfl (lv_at hl 0 rfl) ?_
  exact rt_i M S_5 hw h dX7_highIn_21
abbrev rmX7_highWith : Room := { frames := 8, cells := 0, slots := 0, locals := 180 }
set_option maxHeartbeats 4000000 in
set_option maxRecDepth 100000 in
theorem m_X7_highWith (l : Launch) (z : KT) (qS : Nat → Nat) (S : RT) (x1 : Int32) (x2 : Int32) (x3 : Int32) (Q : Int32 → RT → Prop) (h : wX7_highWith S x1 x2 x3 Q) : CI l yX7_highWith cX7_highWith 6 .int rmX7_highWith z [.ref (qS 0), .int x1, .int x2, .int x3] (sW z qS S) (fun u : RT => (sW z qS u)) (fun (r : Int32) (u : RT) => Q r u) := by
  refine CI.of rfl (Nat.le_of_ble_eq_true rfl) ?_
  intro p e s m below meth c A ls M hw hl
  have M : Mc p s m _ meth c cX7_highWith 6 (some .int) RX7 z A := M
  obtain ⟨hx, hb, -, -, hown, hts, -, -, -, hN, hsr, -⟩ := id M
  have hl : lv_has ls 6 [(0, .ref (qS 0)), (1, .int x1), (2, .int x2), (3, .int x3)] := hl
  unfold wX7_highWith at h
  generalize s.heap = H at hw ⊢
  generalize ([] : List Loc) = locs at hw ⊢
  refine lv_aload_n hx hb dX7_highWith_0 rfl (lv_at hl 0 rfl) ?_
  refine gt_f (v := .ref (qS 5)) M inlX7 hw 0 rfl rfl 4 (by decide) fl_X7_22 rfl rfl dX7_highWith_1 ?_
  refine lv_iload_n hx hb dX7_highWith_4 rfl (lv_at hl 1 rfl) ?_
  obtain ⟨a_1, h⟩ := h
  refine ld_i M hw 5 rfl a_1 dX7_highWith_5 ?_
  refine lv_topi (fun x4_2 ex4_2 => ?_)
  replace h := h x4_2 ex4_2
  refine lv_istore (lv' := [(4, .int x4_2), (0, .ref (qS 0)), (1, .int x1), (2, .int x2), (3, .int x3)]) hx hb dX7_highWith_6 hl (by decide) rfl (fun ls hl => ?_)
  refine lv_aload_n hx hb dX7_highWith_8 rfl (lv_at hl 1 rfl) ?_
  refine gt_f (v := .ref (qS 5)) M inlX7 hw 0 rfl rfl 4 (by decide) fl_X7_22 rfl rfl dX7_highWith_9 ?_
  refine lv_iload_n hx hb dX7_highWith_12 rfl (lv_at hl 2 rfl) ?_
  refine lv_iload_n hx hb dX7_highWith_13 rfl (lv_at hl 3 rfl) ?_
  refine st_i (P := S) (r := 4) (wN := fun S_3 => (sW z qS S_3)) M hw 5 rfl rfl a_1 dX7_highWith_14 (fun S_3 H locs eS_3 hw => ?_)
  replace h := h S_3 eS_3
  refine lv_aload_n hx hb dX7_highWith_15 rfl (lv_at hl 1 rfl) ?_
  refine lv_iload_n hx hb dX7_highWith_16 rfl (lv_at hl 2 rfl) ?_
  refine lv_iload_n hx hb dX7_highWith_17 rfl (lv_at hl 4 rfl) ?_
  refine fr_Vi (wN := fun u : RT => (sW z qS u)) M (m_X7_highIn l z qS S_3 x1 x3 _ h) (cwV 2 hts (gdV cd_X7_highIn ml_X7_216 im_X7_highIn se_X7_highIn in_X7) rfl rfl rfl hdV_X7_highIn ⟨(Nat.le_of_ble_eq_true rfl), (Nat.le_of_ble_eq_true rfl)⟩) (Cut.self _) (Prm.self _ 17 (fun _ => rfl)) 0 rfl rfl rfl hw rfl hl.1 rfl (Nat.le_of_ble_eq_true rfl) dX7_highWith_18 (fun r_5 u_ H locs h hw => ?_)
  obtain ⟨S_4, rfl⟩ : ∃ z9 : RT, z9 = u_ := ⟨_, rfl⟩
  have hw : Hw s z A (sW z qS S_4) H locs := hw
  try dsimp only at h
  refine lv_istore (lv' := [(5, .int r_5), (4, .int x4_2), (0, .ref (qS 0)), (1, .int x1), (2, .int x2), (3, .int x3)]) hx hb dX7_highWith_21 hl (by decide) rfl (fun ls hl => ?_)
  refine lv_aload_n hx hb dX7_highWith_23 rfl (lv_at hl 2 rfl) ?_
  refine gt_f (v := .ref (qS 5)) M inlX7 hw 0 rfl rfl 4 (by decide) fl_X7_22 rfl rfl dX7_highWith_24 ?_
  refine lv_iload_n hx hb dX7_highWith_27 rfl (lv_at hl 3 rfl) ?_
  refine lv_iload hx hb dX7_highWith_28 (lv_at hl 1 rfl) ?_
  refine st_i (P := S_4) (r := 4) (wN := fun S_6 => (sW z qS S_6)) M hw 5 rfl rfl a_1 dX7_highWith_30 (fun S_6 H locs eS_6 hw => ?_)
  replace h := h S_6 eS_6
  refine lv_iload hx hb dX7_highWith_31 (lv_at hl 0 rfl) ?_
  exact rt_i M S_6 hw h dX7_highWith_33
abbrev rmX7_notGoal : Room := { frames := 1, cells := 0, slots := 0, locals := 21 }
set_option maxHeartbeats 4000000 in
set_option maxRecDepth 100000 in
theorem m_X7_notGoal (l : Launch) (z : KT) (qS : Nat → Nat) (S : RT) (x1 : Int32) (x2 : Int32) (x3 : Int32) (Q : Int32 → Prop) (h : wX7_notGoal S x1 x2 x3 Q) : CI l yX7_notGoal cX7_notGoal 4 .int rmX7_notGoal z [.ref (qS 0), .int x1, .int x2, .int x3] (sW z qS S) (fun _ : Unit => (sW z qS S)) (fun (r : Int32) (_ : Unit) => Q r) := by
  refine CI.of rfl (Nat.le_of_ble_eq_true rfl) ?_
  intro p e s m below meth c A ls M hw hl
  have M : Mc p s m _ meth c cX7_notGoal 4 (some .int) RX7 z A := M
  obtain ⟨hx, hb, -, -, hown, hts, -, -, -, hN, hsr, -⟩ := id M
  have hl : lv_has ls 4 [(0, .ref (qS 0)), (1, .int x1), (2, .int x2), (3, .int x3)] := hl
  unfold wX7_notGoal at h
  generalize s.heap = H at hw ⊢
  generalize ([] : List Loc) = locs at hw ⊢
  refine lv_aload_n hx hb dX7_notGoal_0 rfl (lv_at hl 0 rfl) ?_
  refine lv_iload_n hx hb dX7_notGoal_1 rfl (lv_at hl 1 rfl) ?_
  refine fr_Vi (wN := fun _ : Unit => (sW z qS S)) M (m_X7_isThing l z qS S x1 _ h) (cwV 1 hts (gdV cd_X7_isThing ml_X7_70 im_X7_isThing se_X7_isThing in_X7) rfl rfl rfl hdV_X7_isThing ⟨(Nat.le_of_ble_eq_true rfl), (Nat.le_of_ble_eq_true rfl)⟩) (Cut.self _) (Prm.self _ 17 (fun _ => rfl)) 0 rfl rfl rfl hw rfl hl.1 rfl (Nat.le_of_ble_eq_true rfl) dX7_notGoal_2 (fun r_1 u_ H locs h hw => ?_)
  have hw : Hw s z A (sW z qS S) H locs := hw
  try dsimp only at h
  refine lv_if_ne (tgt := 12) hx hb dX7_notGoal_5 (by decide) (fun c_2 => ?_) (fun c_2 => ?_)
  · replace h := iF c_2 h
    refine lv_iload_n hx hb dX7_notGoal_12 rfl (lv_at hl 2 rfl) ?_
    refine lv_if_lt (tgt := 20) hx hb dX7_notGoal_13 (by decide) (fun c_3 => ?_) (fun c_3 => ?_)
    · replace h := iT c_3 h
      refine lv_bipush (v := -4) hx hb dX7_notGoal_20 (by decide) ?_
      refine lv_goto (tgt := 43) hx hb dX7_notGoal_22 (by decide) ?_
      exact rt_i M () hw h dX7_notGoal_43
    · replace h := iF c_3 h
      refine lv_iload_n hx hb dX7_notGoal_16 rfl (lv_at hl 3 rfl) ?_
      refine lv_if_ge (tgt := 25) hx hb dX7_notGoal_17 (by decide) (fun c_4 => ?_) (fun c_4 => ?_)
      · replace h := iT c_4 h
        refine lv_iload_n hx hb dX7_notGoal_25 rfl (lv_at hl 2 rfl) ?_
        refine lv_bipush (v := 20) hx hb dX7_notGoal_26 (by decide) ?_
        refine lv_icmp_gt (tgt := 37) hx hb dX7_notGoal_28 (by decide) (fun c_5 => ?_) (fun c_5 => ?_)
        · replace h := iT c_5 h
          refine lv_bipush (v := -6) hx hb dX7_notGoal_37 (by decide) ?_
          refine lv_goto (tgt := 43) hx hb dX7_notGoal_39 (by decide) ?_
          exact rt_i M () hw h dX7_notGoal_43
        · replace h := iF c_5 h
          refine lv_iload_n hx hb dX7_notGoal_31 rfl (lv_at hl 3 rfl) ?_
          refine lv_bipush (v := 30) hx hb dX7_notGoal_32 (by decide) ?_
          refine lv_icmp_le (tgt := 42) hx hb dX7_notGoal_34 (by decide) (fun c_6 => ?_) (fun c_6 => ?_)
          · replace h := iT c_6 h
            refine lv_iconst (v := 0) hx hb dX7_notGoal_42 (by decide) ?_
            exact rt_i M () hw h dX7_notGoal_43
          · replace h := iF c_6 h
            refine lv_bipush (v := -6) hx hb dX7_notGoal_37 (by decide) ?_
            refine lv_goto (tgt := 43) hx hb dX7_notGoal_39 (by decide) ?_
            exact rt_i M () hw h dX7_notGoal_43
      · replace h := iF c_4 h
        refine lv_bipush (v := -4) hx hb dX7_notGoal_20 (by decide) ?_
        refine lv_goto (tgt := 43) hx hb dX7_notGoal_22 (by decide) ?_
        exact rt_i M () hw h dX7_notGoal_43
  · replace h := iT c_2 h
    refine lv_iconst (v := -1) hx hb dX7_notGoal_8 (by decide) ?_
    refine lv_goto (tgt := 43) hx hb dX7_notGoal_9 (by decide) ?_
    exact rt_i M () hw h dX7_notGoal_43
abbrev rmX7_throwsDown : Room := { frames := 9, cells := 0, slots := 0, locals := 205 }
set_option maxHeartbeats 4000000 in
set_option maxRecDepth 100000 in
theorem kX7_throwsDown_24 {p : Program} {l : Launch} {e : Env} {s : State} {m : MethodId} {args : Array Value} {below : List Frame} {meth : Method} {c : Code} {z : KT} {A : Nat → Prop} {qS : Nat → Nat} {Q : Int32 → RT → Prop} (M : Mc p s m args meth c cX7_throwsDown 6 (some .int) RX7 z A) : ∀ (n : Nat) (S : RT) (x1 : Int32) (x2 : Int32) (x3 : Int32) (x5 : Int32) (H : Heap) (locs : List Loc) (ls : Array Slot), Hw s z A (sW z qS S) H locs → lv_has ls 6 [(0, .ref (qS 0)), (1, .int x1), (2, .int x2), (3, .int x3), (5, .int x5)] → bX7_throwsDown_24 Q n S x1 x2 x3 x5 → W p l e rmX7_throwsDown s m args below meth c H locs 0 0 (MQ below (va_Qi (fun (r : Int32) (u : RT) => Q r u) (fun u t => cAt z A ((fun u : RT => (sW z qS u)) u) t) A) args s 0 0 A) (F0 m 24 ls []) := by
  obtain ⟨hx, hb, -, -, hown, hts, -, -, -, hN, hsr, -⟩ := id M
  intro n
  induction n with
  | zero => intro S x1 x2 x3 x5 H locs ls hw hl h; exact False.elim h
  | succ n ih =>
    intro S x1 x2 x3 x5 H locs ls hw hl h
    rw [bX7_throwsDown_24] at h
    refine lv_iload hx hb dX7_throwsDown_24 (lv_at hl 4 rfl) ?_
    refine lv_aload_n hx hb dX7_throwsDown_26 rfl (lv_at hl 0 rfl) ?_
    refine gt_f (v := .ref (qS 5)) M inlX7 hw 0 rfl rfl 4 (by decide) fl_X7_22 rfl rfl dX7_throwsDown_27 ?_
    refine lv_iload_n hx hb dX7_throwsDown_30 rfl (lv_at hl 1 rfl) ?_
    obtain ⟨a_1, h⟩ := h
    refine ld_i M hw 5 rfl a_1 dX7_throwsDown_31 ?_
    refine lv_icmp_gt (tgt := 63) hx hb dX7_throwsDown_32 (by decide) (fun c_2 => ?_) (fun c_2 => ?_)
    · replace h := iT c_2 h
      refine lv_bipush (v := -9) hx hb dX7_throwsDown_63 (by decide) ?_
      exact rt_i M S hw h dX7_throwsDown_65
    · replace h := iF c_2 h
      refine lv_aload_n hx hb dX7_throwsDown_35 rfl (lv_at hl 0 rfl) ?_
      refine lv_iload_n hx hb dX7_throwsDown_36 rfl (lv_at hl 1 rfl) ?_
      refine lv_aload_n hx hb dX7_throwsDown_37 rfl (lv_at hl 0 rfl) ?_
      refine gt_f (v := .ref (qS 5)) M inlX7 hw 0 rfl rfl 4 (by decide) fl_X7_22 rfl rfl dX7_throwsDown_38 ?_
      refine lv_iload_n hx hb dX7_throwsDown_41 rfl (lv_at hl 1 rfl) ?_
      refine ld_i M hw 5 rfl a_1 dX7_throwsDown_42 ?_
      refine lv_iload hx hb dX7_throwsDown_43 (lv_at hl 4 rfl) ?_
      refine lv_isub hx hb dX7_throwsDown_45 ?_
      refine lv_iload_n hx hb dX7_throwsDown_46 rfl (lv_at hl 3 rfl) ?_
      refine fr_Vi (wN := fun u : RT => (sW z qS u)) M (m_X7_highWith l z qS S x1 ((S 4 (x1).toNatClampNeg) - x5) x3 _ h) (cwV 3 hts (gdV cd_X7_highWith ml_X7_222 im_X7_highWith se_X7_highWith in_X7) rfl rfl rfl hdV_X7_highWith ⟨(Nat.le_of_ble_eq_true rfl), (Nat.le_of_ble_eq_true rfl)⟩) (Cut.self _) (Prm.self _ 17 (fun _ => rfl)) 0 rfl rfl rfl hw rfl hl.1 rfl (Nat.le_of_ble_eq_true rfl) dX7_throwsDown_47 (fun r_4 u_ H locs h hw => ?_)
      obtain ⟨S_3, rfl⟩ : ∃ z9 : RT, z9 = u_ := ⟨_, rfl⟩
      have hw : Hw s z A (sW z qS S_3) H locs := hw
      try dsimp only at h
      refine lv_iload_n hx hb dX7_throwsDown_50 rfl (lv_at hl 2 rfl) ?_
      refine lv_icmp_lt (tgt := 57) hx hb dX7_throwsDown_51 (by decide) (fun c_5 => ?_) (fun c_5 => ?_)
      · replace h := iT c_5 h
        obtain ⟨x5_6, ex5_6⟩ : ∃ y : Int32, y = (x5 + (1 : Int32)) := ⟨_, rfl⟩
        replace h := h x5_6 ex5_6
        refine lv_iinc (v := x5_6) (lv' := [(5, .int x5_6), (0, .ref (qS 0)), (1, .int x1), (2, .int x2), (3, .int x3)]) hx hb dX7_throwsDown_57 hl (k := 4) rfl (by rw [ex5_6]; rfl) (by decide) rfl (fun ls hl => ?_)
        refine lv_goto (tgt := 24) hx hb dX7_throwsDown_60 (by decide) ?_
        exact ih S_3 x1 x2 x3 x5_6 H locs ls hw (lv_sub hl [1, 2, 3, 4, 0] rfl) h
      · replace h := iF c_5 h
        refine lv_iload hx hb dX7_throwsDown_54 (lv_at hl 4 rfl) ?_
        exact rt_i M S_3 hw h dX7_throwsDown_56
set_option maxHeartbeats 4000000 in
set_option maxRecDepth 100000 in
theorem m_X7_throwsDown (l : Launch) (z : KT) (qS : Nat → Nat) (S : RT) (x1 : Int32) (x2 : Int32) (x3 : Int32) (Q : Int32 → RT → Prop) (h : wX7_throwsDown S x1 x2 x3 Q) : CI l yX7_throwsDown cX7_throwsDown 6 .int rmX7_throwsDown z [.ref (qS 0), .int x1, .int x2, .int x3] (sW z qS S) (fun u : RT => (sW z qS u)) (fun (r : Int32) (u : RT) => Q r u) := by
  refine CI.of rfl (Nat.le_of_ble_eq_true rfl) ?_
  intro p e s m below meth c A ls M hw hl
  have M : Mc p s m _ meth c cX7_throwsDown 6 (some .int) RX7 z A := M
  obtain ⟨hx, hb, -, -, hown, hts, -, -, -, hN, hsr, -⟩ := id M
  have hl : lv_has ls 6 [(0, .ref (qS 0)), (1, .int x1), (2, .int x2), (3, .int x3)] := hl
  unfold wX7_throwsDown at h
  generalize s.heap = H at hw ⊢
  generalize ([] : List Loc) = locs at hw ⊢
  refine lv_aload_n hx hb dX7_throwsDown_0 rfl (lv_at hl 0 rfl) ?_
  refine lv_iload_n hx hb dX7_throwsDown_1 rfl (lv_at hl 1 rfl) ?_
  refine lv_iload_n hx hb dX7_throwsDown_2 rfl (lv_at hl 2 rfl) ?_
  refine lv_iload_n hx hb dX7_throwsDown_3 rfl (lv_at hl 3 rfl) ?_
  refine fr_Vi (wN := fun _ : Unit => (sW z qS S)) M (m_X7_notGoal l z qS S x1 x2 x3 _ h) (cwV 3 hts (gdV cd_X7_notGoal ml_X7_219 im_X7_notGoal se_X7_notGoal in_X7) rfl rfl rfl hdV_X7_notGoal ⟨(Nat.le_of_ble_eq_true rfl), (Nat.le_of_ble_eq_true rfl)⟩) (Cut.self _) (Prm.self _ 17 (fun _ => rfl)) 0 rfl rfl rfl hw rfl hl.1 rfl (Nat.le_of_ble_eq_true rfl) dX7_throwsDown_4 (fun r_1 u_ H locs h hw => ?_)
  have hw : Hw s z A (sW z qS S) H locs := hw
  try dsimp only at h
  refine lv_istore (lv' := [(4, .int r_1), (0, .ref (qS 0)), (1, .int x1), (2, .int x2), (3, .int x3)]) hx hb dX7_throwsDown_7 hl (by decide) rfl (fun ls hl => ?_)
  refine lv_iload hx hb dX7_throwsDown_9 (lv_at hl 0 rfl) ?_
  refine lv_if_eq (tgt := 21) hx hb dX7_throwsDown_11 (by decide) (fun c_2 => ?_) (fun c_2 => ?_)
  · replace h := iT c_2 h
    refine lv_iconst (v := 0) hx hb dX7_throwsDown_21 (by decide) ?_
    refine lv_istore (lv' := [(5, .int (0 : Int32)), (4, .int r_1), (0, .ref (qS 0)), (1, .int x1), (2, .int x2), (3, .int x3)]) hx hb dX7_throwsDown_22 hl (by decide) rfl (fun ls hl => ?_)
    obtain ⟨n0, h⟩ := h; exact kX7_throwsDown_24 M n0 S x1 x2 x3 (0 : Int32) H locs ls hw (lv_sub hl [2, 3, 4, 5, 0] rfl) h
  · replace h := iF c_2 h
    refine lv_aload_n hx hb dX7_throwsDown_14 rfl (lv_at hl 1 rfl) ?_
    refine lv_iload hx hb dX7_throwsDown_15 (lv_at hl 0 rfl) ?_
    refine fr_Vi (wN := fun u : RT => (sW z qS u)) M (m_X7_no l z qS S r_1 _ h) (cwV 1 hts (gdV cd_X7_no ml_X7_81 im_X7_no se_X7_no in_X7) rfl rfl rfl hdV_X7_no ⟨(Nat.le_of_ble_eq_true rfl), (Nat.le_of_ble_eq_true rfl)⟩) (Cut.self _) (Prm.self _ 17 (fun _ => rfl)) 0 rfl rfl rfl hw rfl hl.1 rfl (Nat.le_of_ble_eq_true rfl) dX7_throwsDown_17 (fun r_4 u_ H locs h hw => ?_)
    obtain ⟨S_3, rfl⟩ : ∃ z9 : RT, z9 = u_ := ⟨_, rfl⟩
    have hw : Hw s z A (sW z qS S_3) H locs := hw
    try dsimp only at h
    exact rt_i M S_3 hw h dX7_throwsDown_20
abbrev rmX7_takesUp : Room := { frames := 9, cells := 0, slots := 0, locals := 205 }
set_option maxHeartbeats 4000000 in
set_option maxRecDepth 100000 in
theorem kX7_takesUp_24 {p : Program} {l : Launch} {e : Env} {s : State} {m : MethodId} {args : Array Value} {below : List Frame} {meth : Method} {c : Code} {z : KT} {A : Nat → Prop} {qS : Nat → Nat} {Q : Int32 → RT → Prop} (M : Mc p s m args meth c cX7_takesUp 6 (some .int) RX7 z A) : ∀ (n : Nat) (S : RT) (x1 : Int32) (x2 : Int32) (x3 : Int32) (x5 : Int32) (H : Heap) (locs : List Loc) (ls : Array Slot), Hw s z A (sW z qS S) H locs → lv_has ls 6 [(0, .ref (qS 0)), (1, .int x1), (2, .int x2), (3, .int x3), (5, .int x5)] → bX7_takesUp_24 Q n S x1 x2 x3 x5 → W p l e rmX7_takesUp s m args below meth c H locs 0 0 (MQ below (va_Qi (fun (r : Int32) (u : RT) => Q r u) (fun u t => cAt z A ((fun u : RT => (sW z qS u)) u) t) A) args s 0 0 A) (F0 m 24 ls []) := by
  obtain ⟨hx, hb, -, -, hown, hts, -, -, -, hN, hsr, -⟩ := id M
  intro n
  induction n with
  | zero => intro S x1 x2 x3 x5 H locs ls hw hl h; exact False.elim h
  | succ n ih =>
    intro S x1 x2 x3 x5 H locs ls hw hl h
    rw [bX7_takesUp_24] at h
    refine lv_iload hx hb dX7_takesUp_24 (lv_at hl 4 rfl) ?_
    refine lv_bipush (v := 9) hx hb dX7_takesUp_26 (by decide) ?_
    refine lv_aload_n hx hb dX7_takesUp_28 rfl (lv_at hl 0 rfl) ?_
    refine gt_f (v := .ref (qS 5)) M inlX7 hw 0 rfl rfl 4 (by decide) fl_X7_22 rfl rfl dX7_takesUp_29 ?_
    refine lv_iload_n hx hb dX7_takesUp_32 rfl (lv_at hl 1 rfl) ?_
    obtain ⟨a_1, h⟩ := h
    refine ld_i M hw 5 rfl a_1 dX7_takesUp_33 ?_
    refine lv_isub hx hb dX7_takesUp_34 ?_
    refine lv_icmp_gt (tgt := 66) hx hb dX7_takesUp_35 (by decide) (fun c_2 => ?_) (fun c_2 => ?_)
    · replace h := iT c_2 h
      refine lv_bipush (v := -9) hx hb dX7_takesUp_66 (by decide) ?_
      exact rt_i M S hw h dX7_takesUp_68
    · replace h := iF c_2 h
      refine lv_aload_n hx hb dX7_takesUp_38 rfl (lv_at hl 0 rfl) ?_
      refine lv_iload_n hx hb dX7_takesUp_39 rfl (lv_at hl 1 rfl) ?_
      refine lv_aload_n hx hb dX7_takesUp_40 rfl (lv_at hl 0 rfl) ?_
      refine gt_f (v := .ref (qS 5)) M inlX7 hw 0 rfl rfl 4 (by decide) fl_X7_22 rfl rfl dX7_takesUp_41 ?_
      refine lv_iload_n hx hb dX7_takesUp_44 rfl (lv_at hl 1 rfl) ?_
      refine ld_i M hw 5 rfl a_1 dX7_takesUp_45 ?_
      refine lv_iload hx hb dX7_takesUp_46 (lv_at hl 4 rfl) ?_
      refine lv_iadd hx hb dX7_takesUp_48 ?_
      refine lv_iload_n hx hb dX7_takesUp_49 rfl (lv_at hl 3 rfl) ?_
      refine fr_Vi (wN := fun u : RT => (sW z qS u)) M (m_X7_highWith l z qS S x1 ((S 4 (x1).toNatClampNeg) + x5) x3 _ h) (cwV 3 hts (gdV cd_X7_highWith ml_X7_222 im_X7_highWith se_X7_highWith in_X7) rfl rfl rfl hdV_X7_highWith ⟨(Nat.le_of_ble_eq_true rfl), (Nat.le_of_ble_eq_true rfl)⟩) (Cut.self _) (Prm.self _ 17 (fun _ => rfl)) 0 rfl rfl rfl hw rfl hl.1 rfl (Nat.le_of_ble_eq_true rfl) dX7_takesUp_50 (fun r_4 u_ H locs h hw => ?_)
      obtain ⟨S_3, rfl⟩ : ∃ z9 : RT, z9 = u_ := ⟨_, rfl⟩
      have hw : Hw s z A (sW z qS S_3) H locs := hw
      try dsimp only at h
      refine lv_iload_n hx hb dX7_takesUp_53 rfl (lv_at hl 2 rfl) ?_
      refine lv_icmp_gt (tgt := 60) hx hb dX7_takesUp_54 (by decide) (fun c_5 => ?_) (fun c_5 => ?_)
      · replace h := iT c_5 h
        obtain ⟨x5_6, ex5_6⟩ : ∃ y : Int32, y = (x5 + (1 : Int32)) := ⟨_, rfl⟩
        replace h := h x5_6 ex5_6
        refine lv_iinc (v := x5_6) (lv' := [(5, .int x5_6), (0, .ref (qS 0)), (1, .int x1), (2, .int x2), (3, .int x3)]) hx hb dX7_takesUp_60 hl (k := 4) rfl (by rw [ex5_6]; rfl) (by decide) rfl (fun ls hl => ?_)
        refine lv_goto (tgt := 24) hx hb dX7_takesUp_63 (by decide) ?_
        exact ih S_3 x1 x2 x3 x5_6 H locs ls hw (lv_sub hl [1, 2, 3, 4, 0] rfl) h
      · replace h := iF c_5 h
        refine lv_iload hx hb dX7_takesUp_57 (lv_at hl 4 rfl) ?_
        exact rt_i M S_3 hw h dX7_takesUp_59
set_option maxHeartbeats 4000000 in
set_option maxRecDepth 100000 in
theorem m_X7_takesUp (l : Launch) (z : KT) (qS : Nat → Nat) (S : RT) (x1 : Int32) (x2 : Int32) (x3 : Int32) (Q : Int32 → RT → Prop) (h : wX7_takesUp S x1 x2 x3 Q) : CI l yX7_takesUp cX7_takesUp 6 .int rmX7_takesUp z [.ref (qS 0), .int x1, .int x2, .int x3] (sW z qS S) (fun u : RT => (sW z qS u)) (fun (r : Int32) (u : RT) => Q r u) := by
  refine CI.of rfl (Nat.le_of_ble_eq_true rfl) ?_
  intro p e s m below meth c A ls M hw hl
  have M : Mc p s m _ meth c cX7_takesUp 6 (some .int) RX7 z A := M
  obtain ⟨hx, hb, -, -, hown, hts, -, -, -, hN, hsr, -⟩ := id M
  have hl : lv_has ls 6 [(0, .ref (qS 0)), (1, .int x1), (2, .int x2), (3, .int x3)] := hl
  unfold wX7_takesUp at h
  generalize s.heap = H at hw ⊢
  generalize ([] : List Loc) = locs at hw ⊢
  refine lv_aload_n hx hb dX7_takesUp_0 rfl (lv_at hl 0 rfl) ?_
  refine lv_iload_n hx hb dX7_takesUp_1 rfl (lv_at hl 1 rfl) ?_
  refine lv_iload_n hx hb dX7_takesUp_2 rfl (lv_at hl 2 rfl) ?_
  refine lv_iload_n hx hb dX7_takesUp_3 rfl (lv_at hl 3 rfl) ?_
  refine fr_Vi (wN := fun _ : Unit => (sW z qS S)) M (m_X7_notGoal l z qS S x1 x2 x3 _ h) (cwV 3 hts (gdV cd_X7_notGoal ml_X7_219 im_X7_notGoal se_X7_notGoal in_X7) rfl rfl rfl hdV_X7_notGoal ⟨(Nat.le_of_ble_eq_true rfl), (Nat.le_of_ble_eq_true rfl)⟩) (Cut.self _) (Prm.self _ 17 (fun _ => rfl)) 0 rfl rfl rfl hw rfl hl.1 rfl (Nat.le_of_ble_eq_true rfl) dX7_takesUp_4 (fun r_1 u_ H locs h hw => ?_)
  have hw : Hw s z A (sW z qS S) H locs := hw
  try dsimp only at h
  refine lv_istore (lv' := [(4, .int r_1), (0, .ref (qS 0)), (1, .int x1), (2, .int x2), (3, .int x3)]) hx hb dX7_takesUp_7 hl (by decide) rfl (fun ls hl => ?_)
  refine lv_iload hx hb dX7_takesUp_9 (lv_at hl 0 rfl) ?_
  refine lv_if_eq (tgt := 21) hx hb dX7_takesUp_11 (by decide) (fun c_2 => ?_) (fun c_2 => ?_)
  · replace h := iT c_2 h
    refine lv_iconst (v := 0) hx hb dX7_takesUp_21 (by decide) ?_
    refine lv_istore (lv' := [(5, .int (0 : Int32)), (4, .int r_1), (0, .ref (qS 0)), (1, .int x1), (2, .int x2), (3, .int x3)]) hx hb dX7_takesUp_22 hl (by decide) rfl (fun ls hl => ?_)
    obtain ⟨n0, h⟩ := h; exact kX7_takesUp_24 M n0 S x1 x2 x3 (0 : Int32) H locs ls hw (lv_sub hl [2, 3, 4, 5, 0] rfl) h
  · replace h := iF c_2 h
    refine lv_aload_n hx hb dX7_takesUp_14 rfl (lv_at hl 1 rfl) ?_
    refine lv_iload hx hb dX7_takesUp_15 (lv_at hl 0 rfl) ?_
    refine fr_Vi (wN := fun u : RT => (sW z qS u)) M (m_X7_no l z qS S r_1 _ h) (cwV 1 hts (gdV cd_X7_no ml_X7_81 im_X7_no se_X7_no in_X7) rfl rfl rfl hdV_X7_no ⟨(Nat.le_of_ble_eq_true rfl), (Nat.le_of_ble_eq_true rfl)⟩) (Cut.self _) (Prm.self _ 17 (fun _ => rfl)) 0 rfl rfl rfl hw rfl hl.1 rfl (Nat.le_of_ble_eq_true rfl) dX7_takesUp_17 (fun r_4 u_ H locs h hw => ?_)
    obtain ⟨S_3, rfl⟩ : ∃ z9 : RT, z9 = u_ := ⟨_, rfl⟩
    have hw : Hw s z A (sW z qS S_3) H locs := hw
    try dsimp only at h
    exact rt_i M S_3 hw h dX7_takesUp_20
abbrev rmX7_highTied : Room := { frames := 8, cells := 0, slots := 0, locals := 180 }
set_option maxHeartbeats 4000000 in
set_option maxRecDepth 100000 in
theorem m_X7_highTied (l : Launch) (z : KT) (qS : Nat → Nat) (S : RT) (x1 : Int32) (x2 : Int32) (x3 : Int32) (Q : Int32 → RT → Prop) (h : wX7_highTied S x1 x2 x3 Q) : CI l yX7_highTied cX7_highTied 5 .int rmX7_highTied z [.ref (qS 0), .int x1, .int x2, .int x3] (sW z qS S) (fun u : RT => (sW z qS u)) (fun (r : Int32) (u : RT) => Q r u) := by
  refine CI.of rfl (Nat.le_of_ble_eq_true rfl) ?_
  intro p e s m below meth c A ls M hw hl
  have M : Mc p s m _ meth c cX7_highTied 5 (some .int) RX7 z A := M
  obtain ⟨hx, hb, -, -, hown, hts, -, -, -, hN, hsr, -⟩ := id M
  have hl : lv_has ls 5 [(0, .ref (qS 0)), (1, .int x1), (2, .int x2), (3, .int x3)] := hl
  unfold wX7_highTied at h
  generalize s.heap = H at hw ⊢
  generalize ([] : List Loc) = locs at hw ⊢
  refine lv_aload_n hx hb dX7_highTied_0 rfl (lv_at hl 0 rfl) ?_
  refine lv_iload_n hx hb dX7_highTied_1 rfl (lv_at hl 1 rfl) ?_
  refine lv_iload_n hx hb dX7_highTied_2 rfl (lv_at hl 2 rfl) ?_
  refine fr_Vv (wN := fun u : RT => (sW z qS u)) M (m_X7_adds l z qS S x1 x2 _ h) (cwV 2 hts (gdV cd_X7_adds ml_X7_115 im_X7_adds se_X7_adds in_X7) rfl rfl rfl hdV_X7_adds ⟨(Nat.le_of_ble_eq_true rfl), (Nat.le_of_ble_eq_true rfl)⟩) (Cut.self _) (Prm.self _ 17 (fun _ => rfl)) 0 rfl rfl rfl hw rfl hl.1 rfl (Nat.le_of_ble_eq_true rfl) dX7_highTied_3 (fun u_ H locs h hw => ?_)
  obtain ⟨S_1, rfl⟩ : ∃ z9 : RT, z9 = u_ := ⟨_, rfl⟩
  have hw : Hw s z A (sW z qS S_1) H locs := hw
  try dsimp only at h
  refine lv_aload_n hx hb dX7_highTied_6 rfl (lv_at hl 0 rfl) ?_
  refine lv_iload_n hx hb dX7_highTied_7 rfl (lv_at hl 1 rfl) ?_
  refine lv_iload_n hx hb dX7_highTied_8 rfl (lv_at hl 3 rfl) ?_
  refine fr_Vi (wN := fun u : RT => (sW z qS u)) M (m_X7_highIn l z qS S_1 x1 x3 _ h) (cwV 2 hts (gdV cd_X7_highIn ml_X7_216 im_X7_highIn se_X7_highIn in_X7) rfl rfl rfl hdV_X7_highIn ⟨(Nat.le_of_ble_eq_true rfl), (Nat.le_of_ble_eq_true rfl)⟩) (Cut.self _) (Prm.self _ 17 (fun _ => rfl)) 0 rfl rfl rfl hw rfl hl.1 rfl (Nat.le_of_ble_eq_true rfl) dX7_highTied_9 (fun r_3 u_ H locs h hw => ?_)
  obtain ⟨S_2, rfl⟩ : ∃ z9 : RT, z9 = u_ := ⟨_, rfl⟩
  have hw : Hw s z A (sW z qS S_2) H locs := hw
  try dsimp only at h
  refine lv_istore (lv' := [(4, .int r_3), (0, .ref (qS 0)), (1, .int x1), (2, .int x2), (3, .int x3)]) hx hb dX7_highTied_12 hl (by decide) rfl (fun ls hl => ?_)
  refine lv_aload_n hx hb dX7_highTied_14 rfl (lv_at hl 1 rfl) ?_
  refine lv_dup hx hb dX7_highTied_15 rfl ?_
  refine gt_f (v := .int (S_2 30 9)) M inlX7 hw 0 rfl rfl 9 (by decide) fl_X7_67 rfl rfl dX7_highTied_16 ?_
  refine lv_iconst (v := 1) hx hb dX7_highTied_19 (by decide) ?_
  refine lv_isub hx hb dX7_highTied_20 ?_
  refine st_f (P := S_2) (r := 30) (j := 9) (wN := fun S_4 => (sW z qS S_4)) M inlX7 tyX7_ok nmX7 hw 0 rfl rfl 9 (by decide) fl_X7_67 rfl rfl rfl rfl rfl (Nat.le_of_ble_eq_true rfl) rfl dX7_highTied_21 (fun S_4 H locs eS_4 hw => ?_)
  replace h := h S_4 eS_4
  refine lv_iload hx hb dX7_highTied_24 (lv_at hl 0 rfl) ?_
  exact rt_i M S_4 hw h dX7_highTied_26
abbrev rmX7_bestTie : Room := { frames := 9, cells := 0, slots := 0, locals := 204 }
set_option maxHeartbeats 4000000 in
set_option maxRecDepth 100000 in
theorem kX7_bestTie_102 {p : Program} {l : Launch} {e : Env} {s : State} {m : MethodId} {args : Array Value} {below : List Frame} {meth : Method} {c : Code} {z : KT} {A : Nat → Prop} {qS : Nat → Nat} {K45 : RT → Int32 → Int32 → Int32 → Int32 → Int32 → Prop} {Q : Int32 → RT → Prop} (M : Mc p s m args meth c cX7_bestTie 8 (some .int) RX7 z A) (hK45 : ∀ (S : RT) (x1 : Int32) (x2 : Int32) (x4 : Int32) (x5 : Int32) (x6 : Int32) (H : Heap) (locs : List Loc) (ls : Array Slot), Hw s z A (sW z qS S) H locs → lv_has ls 8 [(0, .ref (qS 0)), (1, .int x1), (2, .int x2), (4, .int x4), (5, .int x5), (6, .int x6)] → K45 S x1 x2 x4 x5 x6 → W p l e rmX7_bestTie s m args below meth c H locs 0 0 (MQ below (va_Qi (fun (r : Int32) (u : RT) => Q r u) (fun u t => cAt z A ((fun u : RT => (sW z qS u)) u) t) A) args s 0 0 A) (F0 m 45 ls [])) : ∀ (S : RT) (x1 : Int32) (x2 : Int32) (x4 : Int32) (x5 : Int32) (x6 : Int32) (H : Heap) (locs : List Loc) (ls : Array Slot), Hw s z A (sW z qS S) H locs → lv_has ls 8 [(0, .ref (qS 0)), (1, .int x1), (2, .int x2), (4, .int x4), (5, .int x5), (6, .int x6)] → bX7_bestTie_102 K45 Q S x1 x2 x4 x5 x6 → W p l e rmX7_bestTie s m args below meth c H locs 0 0 (MQ below (va_Qi (fun (r : Int32) (u : RT) => Q r u) (fun u t => cAt z A ((fun u : RT => (sW z qS u)) u) t) A) args s 0 0 A) (F0 m 102 ls []) := by
  obtain ⟨hx, hb, -, -, hown, hts, -, -, -, hN, hsr, -⟩ := id M
  intro S x1 x2 x4 x5 x6 H locs ls hw hl h
  unfold bX7_bestTie_102 at h
  obtain ⟨x6_1, ex6_1⟩ : ∃ y : Int32, y = (x6 + (1 : Int32)) := ⟨_, rfl⟩
  replace h := h x6_1 ex6_1
  refine lv_iinc (v := x6_1) (lv' := [(6, .int x6_1), (0, .ref (qS 0)), (1, .int x1), (2, .int x2), (4, .int x4), (5, .int x5)]) hx hb dX7_bestTie_102 hl (k := 5) rfl (by rw [ex6_1]; rfl) (by decide) rfl (fun ls hl => ?_)
  refine lv_goto (tgt := 45) hx hb dX7_bestTie_105 (by decide) ?_
  exact hK45 S x1 x2 x4 x5 x6_1 H locs ls hw (lv_sub hl [1, 2, 3, 4, 5, 0] rfl) h
set_option maxHeartbeats 4000000 in
set_option maxRecDepth 100000 in
theorem kX7_bestTie_82 {p : Program} {l : Launch} {e : Env} {s : State} {m : MethodId} {args : Array Value} {below : List Frame} {meth : Method} {c : Code} {z : KT} {A : Nat → Prop} {qS : Nat → Nat} {K45 : RT → Int32 → Int32 → Int32 → Int32 → Int32 → Prop} {Q : Int32 → RT → Prop} (M : Mc p s m args meth c cX7_bestTie 8 (some .int) RX7 z A) (hK45 : ∀ (S : RT) (x1 : Int32) (x2 : Int32) (x4 : Int32) (x5 : Int32) (x6 : Int32) (H : Heap) (locs : List Loc) (ls : Array Slot), Hw s z A (sW z qS S) H locs → lv_has ls 8 [(0, .ref (qS 0)), (1, .int x1), (2, .int x2), (4, .int x4), (5, .int x5), (6, .int x6)] → K45 S x1 x2 x4 x5 x6 → W p l e rmX7_bestTie s m args below meth c H locs 0 0 (MQ below (va_Qi (fun (r : Int32) (u : RT) => Q r u) (fun u t => cAt z A ((fun u : RT => (sW z qS u)) u) t) A) args s 0 0 A) (F0 m 45 ls [])) : ∀ (S : RT) (x1 : Int32) (x2 : Int32) (x4 : Int32) (x5 : Int32) (x6 : Int32) (t0 : Int32) (H : Heap) (locs : List Loc) (ls : Array Slot), Hw s z A (sW z qS S) H locs → lv_has ls 8 [(0, .ref (qS 0)), (1, .int x1), (2, .int x2), (4, .int x4), (5, .int x5), (6, .int x6)] → bX7_bestTie_82 K45 Q S x1 x2 x4 x5 x6 t0 → W p l e rmX7_bestTie s m args below meth c H locs 0 0 (MQ below (va_Qi (fun (r : Int32) (u : RT) => Q r u) (fun u t => cAt z A ((fun u : RT => (sW z qS u)) u) t) A) args s 0 0 A) (F0 m 82 ls [.int t0]) := by
  obtain ⟨hx, hb, -, -, hown, hts, -, -, -, hN, hsr, -⟩ := id M
  intro S x1 x2 x4 x5 x6 t0 H locs ls hw hl h
  unfold bX7_bestTie_82 at h
  refine lv_istore (lv' := [(7, .int t0), (0, .ref (qS 0)), (1, .int x1), (2, .int x2), (4, .int x4), (5, .int x5), (6, .int x6)]) hx hb dX7_bestTie_82 hl (by decide) rfl (fun ls hl => ?_)
  refine lv_iload hx hb dX7_bestTie_84 (lv_at hl 0 rfl) ?_
  refine lv_iload hx hb dX7_bestTie_86 (lv_at hl 5 rfl) ?_
  refine lv_icmp_gt (tgt := 94) hx hb dX7_bestTie_88 (by decide) (fun c_1 => ?_) (fun c_1 => ?_)
  · replace h := iT c_1 h
    refine lv_iload hx hb dX7_bestTie_94 (lv_at hl 6 rfl) ?_
    refine lv_istore (lv' := [(4, .int x6), (7, .int t0), (0, .ref (qS 0)), (1, .int x1), (2, .int x2), (5, .int x5), (6, .int x6)]) hx hb dX7_bestTie_96 hl (by decide) rfl (fun ls hl => ?_)
    refine lv_iload hx hb dX7_bestTie_98 (lv_at hl 1 rfl) ?_
    refine lv_istore (lv' := [(5, .int t0), (4, .int x6), (7, .int t0), (0, .ref (qS 0)), (1, .int x1), (2, .int x2), (6, .int x6)]) hx hb dX7_bestTie_100 hl (by decide) rfl (fun ls hl => ?_)
    exact kX7_bestTie_102 M hK45 S x1 x2 x6 t0 x6 H locs ls hw (lv_sub hl [3, 4, 5, 1, 0, 6] rfl) h
  · replace h := iF c_1 h
    refine lv_goto (tgt := 102) hx hb dX7_bestTie_91 (by decide) ?_
    exact kX7_bestTie_102 M hK45 S x1 x2 x4 x5 x6 H locs ls hw (lv_sub hl [1, 2, 3, 4, 5, 6] rfl) h
set_option maxHeartbeats 4000000 in
set_option maxRecDepth 100000 in
theorem kX7_bestTie_45 {p : Program} {l : Launch} {e : Env} {s : State} {m : MethodId} {args : Array Value} {below : List Frame} {meth : Method} {c : Code} {z : KT} {A : Nat → Prop} {qS : Nat → Nat} {Q : Int32 → RT → Prop} (M : Mc p s m args meth c cX7_bestTie 8 (some .int) RX7 z A) : ∀ (n : Nat) (S : RT) (x1 : Int32) (x2 : Int32) (x4 : Int32) (x5 : Int32) (x6 : Int32) (H : Heap) (locs : List Loc) (ls : Array Slot), Hw s z A (sW z qS S) H locs → lv_has ls 8 [(0, .ref (qS 0)), (1, .int x1), (2, .int x2), (4, .int x4), (5, .int x5), (6, .int x6)] → bX7_bestTie_45 Q n S x1 x2 x4 x5 x6 → W p l e rmX7_bestTie s m args below meth c H locs 0 0 (MQ below (va_Qi (fun (r : Int32) (u : RT) => Q r u) (fun u t => cAt z A ((fun u : RT => (sW z qS u)) u) t) A) args s 0 0 A) (F0 m 45 ls []) := by
  obtain ⟨hx, hb, -, -, hown, hts, -, -, -, hN, hsr, -⟩ := id M
  intro n
  induction n with
  | zero => intro S x1 x2 x4 x5 x6 H locs ls hw hl h; exact False.elim h
  | succ n ih =>
    intro S x1 x2 x4 x5 x6 H locs ls hw hl h
    rw [bX7_bestTie_45] at h
    refine lv_iload hx hb dX7_bestTie_45 (lv_at hl 5 rfl) ?_
    refine lv_aload_n hx hb dX7_bestTie_47 rfl (lv_at hl 0 rfl) ?_
    refine gt_f (v := .int (S 30 8)) M inlX7 hw 0 rfl rfl 8 (by decide) fl_X7_62 rfl rfl dX7_bestTie_48 ?_
    refine lv_icmp_ge (tgt := 108) hx hb dX7_bestTie_51 (by decide) (fun c_1 => ?_) (fun c_1 => ?_)
    · replace h := iT c_1 h
      refine lv_iload hx hb dX7_bestTie_108 (lv_at hl 3 rfl) ?_
      exact rt_i M S hw h dX7_bestTie_110
    · replace h := iF c_1 h
      refine lv_aload_n hx hb dX7_bestTie_54 rfl (lv_at hl 0 rfl) ?_
      refine gt_f (v := .int (S 30 9)) M inlX7 hw 0 rfl rfl 9 (by decide) fl_X7_67 rfl rfl dX7_bestTie_55 ?_
      refine lv_bipush (v := 6) hx hb dX7_bestTie_58 (by decide) ?_
      refine lv_icmp_ge (tgt := 108) hx hb dX7_bestTie_60 (by decide) (fun c_2 => ?_) (fun c_2 => ?_)
      · replace h := iT c_2 h
        refine lv_iload hx hb dX7_bestTie_108 (lv_at hl 3 rfl) ?_
        exact rt_i M S hw h dX7_bestTie_110
      · replace h := iF c_2 h
        refine lv_iload hx hb dX7_bestTie_63 (lv_at hl 5 rfl) ?_
        refine lv_iload_n hx hb dX7_bestTie_65 rfl (lv_at hl 1 rfl) ?_
        refine lv_icmp_ne (tgt := 74) hx hb dX7_bestTie_66 (by decide) (fun c_3 => ?_) (fun c_3 => ?_)
        · replace h := iF c_3 h
          refine lv_aload_n hx hb dX7_bestTie_74 rfl (lv_at hl 0 rfl) ?_
          refine lv_iload_n hx hb dX7_bestTie_75 rfl (lv_at hl 1 rfl) ?_
          refine lv_iload hx hb dX7_bestTie_76 (lv_at hl 5 rfl) ?_
          refine lv_iload_n hx hb dX7_bestTie_78 rfl (lv_at hl 2 rfl) ?_
          refine fr_Vi (wN := fun u : RT => (sW z qS u)) M (m_X7_highTied l z qS S x1 x6 x2 _ h) (cwV 3 hts (gdV cd_X7_highTied ml_X7_225 im_X7_highTied se_X7_highTied in_X7) rfl rfl rfl hdV_X7_highTied ⟨(Nat.le_of_ble_eq_true rfl), (Nat.le_of_ble_eq_true rfl)⟩) (Cut.self _) (Prm.self _ 17 (fun _ => rfl)) 0 rfl rfl rfl hw rfl hl.1 rfl (Nat.le_of_ble_eq_true rfl) dX7_bestTie_79 (fun r_5 u_ H locs h hw => ?_)
          obtain ⟨S_4, rfl⟩ : ∃ z9 : RT, z9 = u_ := ⟨_, rfl⟩
          have hw : Hw s z A (sW z qS S_4) H locs := hw
          try dsimp only at h
          exact kX7_bestTie_82 M ih S_4 x1 x2 x4 x5 x6 r_5 H locs ls hw (lv_sub hl [0, 1, 2, 3, 4, 5] rfl) h
        · replace h := iT c_3 h
          refine lv_bipush (v := -9) hx hb dX7_bestTie_69 (by decide) ?_
          refine lv_goto (tgt := 82) hx hb dX7_bestTie_71 (by decide) ?_
          exact kX7_bestTie_82 M ih S x1 x2 x4 x5 x6 (-9 : Int32) H locs ls hw (lv_sub hl [0, 1, 2, 3, 4, 5] rfl) h
set_option maxHeartbeats 4000000 in
set_option maxRecDepth 100000 in
theorem kX7_bestTie_19 {p : Program} {l : Launch} {e : Env} {s : State} {m : MethodId} {args : Array Value} {below : List Frame} {meth : Method} {c : Code} {z : KT} {A : Nat → Prop} {qS : Nat → Nat} {Q : Int32 → RT → Prop} (M : Mc p s m args meth c cX7_bestTie 8 (some .int) RX7 z A) : ∀ (S : RT) (x1 : Int32) (x2 : Int32) (t0 : Int32) (H : Heap) (locs : List Loc) (ls : Array Slot), Hw s z A (sW z qS S) H locs → lv_has ls 8 [(0, .ref (qS 0)), (1, .int x1), (2, .int x2)] → bX7_bestTie_19 Q S x1 x2 t0 → W p l e rmX7_bestTie s m args below meth c H locs 0 0 (MQ below (va_Qi (fun (r : Int32) (u : RT) => Q r u) (fun u t => cAt z A ((fun u : RT => (sW z qS u)) u) t) A) args s 0 0 A) (F0 m 19 ls [.int t0]) := by
  obtain ⟨hx, hb, -, -, hown, hts, -, -, -, hN, hsr, -⟩ := id M
  intro S x1 x2 t0 H locs ls hw hl h
  unfold bX7_bestTie_19 at h
  refine lv_istore_n (lv' := [(3, .int t0), (0, .ref (qS 0)), (1, .int x1), (2, .int x2)]) hx hb dX7_bestTie_19 rfl hl (by decide) rfl (fun ls hl => ?_)
  refine lv_iload_n hx hb dX7_bestTie_20 rfl (lv_at hl 0 rfl) ?_
  refine lv_if_eq (tgt := 30) hx hb dX7_bestTie_21 (by decide) (fun c_1 => ?_) (fun c_1 => ?_)
  · replace h := iT c_1 h
    refine lv_bipush (v := -9) hx hb dX7_bestTie_30 (by decide) ?_
    refine lv_istore (lv' := [(4, .int (-9 : Int32)), (3, .int t0), (0, .ref (qS 0)), (1, .int x1), (2, .int x2)]) hx hb dX7_bestTie_32 hl (by decide) rfl (fun ls hl => ?_)
    refine lv_aload_n hx hb dX7_bestTie_34 rfl (lv_at hl 2 rfl) ?_
    refine lv_iload_n hx hb dX7_bestTie_35 rfl (lv_at hl 3 rfl) ?_
    refine lv_iload_n hx hb dX7_bestTie_36 rfl (lv_at hl 4 rfl) ?_
    refine fr_Vi (wN := fun u : RT => (sW z qS u)) M (m_X7_highIn l z qS S x1 x2 _ h) (cwV 2 hts (gdV cd_X7_highIn ml_X7_216 im_X7_highIn se_X7_highIn in_X7) rfl rfl rfl hdV_X7_highIn ⟨(Nat.le_of_ble_eq_true rfl), (Nat.le_of_ble_eq_true rfl)⟩) (Cut.self _) (Prm.self _ 17 (fun _ => rfl)) 0 rfl rfl rfl hw rfl hl.1 rfl (Nat.le_of_ble_eq_true rfl) dX7_bestTie_37 (fun r_3 u_ H locs h hw => ?_)
    obtain ⟨S_2, rfl⟩ : ∃ z9 : RT, z9 = u_ := ⟨_, rfl⟩
    have hw : Hw s z A (sW z qS S_2) H locs := hw
    try dsimp only at h
    refine lv_istore (lv' := [(5, .int r_3), (4, .int (-9 : Int32)), (3, .int t0), (0, .ref (qS 0)), (1, .int x1), (2, .int x2)]) hx hb dX7_bestTie_40 hl (by decide) rfl (fun ls hl => ?_)
    refine lv_iconst (v := 0) hx hb dX7_bestTie_42 (by decide) ?_
    refine lv_istore (lv' := [(6, .int (0 : Int32)), (5, .int r_3), (4, .int (-9 : Int32)), (3, .int t0), (0, .ref (qS 0)), (1, .int x1), (2, .int x2)]) hx hb dX7_bestTie_43 hl (by decide) rfl (fun ls hl => ?_)
    obtain ⟨n0, h⟩ := h; exact kX7_bestTie_45 M n0 S_2 x1 x2 (-9 : Int32) r_3 (0 : Int32) H locs ls hw (lv_sub hl [4, 5, 6, 2, 1, 0] rfl) h
  · replace h := iF c_1 h
    refine lv_aload_n hx hb dX7_bestTie_24 rfl (lv_at hl 1 rfl) ?_
    refine lv_iload_n hx hb dX7_bestTie_25 rfl (lv_at hl 0 rfl) ?_
    refine fr_Vi (wN := fun u : RT => (sW z qS u)) M (m_X7_no l z qS S t0 _ h) (cwV 1 hts (gdV cd_X7_no ml_X7_81 im_X7_no se_X7_no in_X7) rfl rfl rfl hdV_X7_no ⟨(Nat.le_of_ble_eq_true rfl), (Nat.le_of_ble_eq_true rfl)⟩) (Cut.self _) (Prm.self _ 17 (fun _ => rfl)) 0 rfl rfl rfl hw rfl hl.1 rfl (Nat.le_of_ble_eq_true rfl) dX7_bestTie_26 (fun r_5 u_ H locs h hw => ?_)
    obtain ⟨S_4, rfl⟩ : ∃ z9 : RT, z9 = u_ := ⟨_, rfl⟩
    have hw : Hw s z A (sW z qS S_4) H locs := hw
    try dsimp only at h
    exact rt_i M S_4 hw h dX7_bestTie_29
set_option maxHeartbeats 4000000 in
set_option maxRecDepth 100000 in
theorem m_X7_bestTie (l : Launch) (z : KT) (qS : Nat → Nat) (S : RT) (x1 : Int32) (x2 : Int32) (Q : Int32 → RT → Prop) (h : wX7_bestTie S x1 x2 Q) : CI l yX7_bestTie cX7_bestTie 8 .int rmX7_bestTie z [.ref (qS 0), .int x1, .int x2] (sW z qS S) (fun u : RT => (sW z qS u)) (fun (r : Int32) (u : RT) => Q r u) := by
  refine CI.of rfl (Nat.le_of_ble_eq_true rfl) ?_
  intro p e s m below meth c A ls M hw hl
  have M : Mc p s m _ meth c cX7_bestTie 8 (some .int) RX7 z A := M
  obtain ⟨hx, hb, -, -, hown, hts, -, -, -, hN, hsr, -⟩ := id M
  have hl : lv_has ls 8 [(0, .ref (qS 0)), (1, .int x1), (2, .int x2)] := hl
  unfold wX7_bestTie at h
  generalize s.heap = H at hw ⊢
  generalize ([] : List Loc) = locs at hw ⊢
  refine lv_aload_n hx hb dX7_bestTie_0 rfl (lv_at hl 0 rfl) ?_
  refine lv_iload_n hx hb dX7_bestTie_1 rfl (lv_at hl 1 rfl) ?_
  refine fr_Vi (wN := fun _ : Unit => (sW z qS S)) M (m_X7_isThing l z qS S x1 _ h) (cwV 1 hts (gdV cd_X7_isThing ml_X7_70 im_X7_isThing se_X7_isThing in_X7) rfl rfl rfl hdV_X7_isThing ⟨(Nat.le_of_ble_eq_true rfl), (Nat.le_of_ble_eq_true rfl)⟩) (Cut.self _) (Prm.self _ 17 (fun _ => rfl)) 0 rfl rfl rfl hw rfl hl.1 rfl (Nat.le_of_ble_eq_true rfl) dX7_bestTie_2 (fun r_1 u_ H locs h hw => ?_)
  have hw : Hw s z A (sW z qS S) H locs := hw
  try dsimp only at h
  refine lv_if_ne (tgt := 12) hx hb dX7_bestTie_5 (by decide) (fun c_2 => ?_) (fun c_2 => ?_)
  · replace h := iF c_2 h
    refine lv_iload_n hx hb dX7_bestTie_12 rfl (lv_at hl 2 rfl) ?_
    refine lv_iconst (v := 0) hx hb dX7_bestTie_13 (by decide) ?_
    refine lv_bipush (v := 30) hx hb dX7_bestTie_14 (by decide) ?_
    refine fr_Si (wN := fun _ : Unit => (sW z qS S)) M (m_X7_bound l z x2 (0 : Int32) (30 : Int32) _ h) (va_cwS 3 hts (gdS cd_X7_bound ml_X7_74 st_X7_bound in_X7) rfl rfl rfl hdS_X7_bound ⟨(Nat.le_of_ble_eq_true rfl), (Nat.le_of_ble_eq_true rfl)⟩) (Cut.none _) (Prm.none _) hw rfl hl.1 rfl (Nat.le_of_ble_eq_true rfl) dX7_bestTie_16 (fun r_3 u_ H locs h hw => ?_)
    have hw : Hw s z A (sW z qS S) H locs := hw
    try dsimp only at h
    exact kX7_bestTie_19 M S x1 x2 r_3 H locs ls hw (lv_sub hl [0, 1, 2] rfl) h
  · replace h := iT c_2 h
    refine lv_iconst (v := -1) hx hb dX7_bestTie_8 (by decide) ?_
    refine lv_goto (tgt := 19) hx hb dX7_bestTie_9 (by decide) ?_
    exact kX7_bestTie_19 M S x1 x2 (-1 : Int32) H locs ls hw (lv_sub hl [0, 1, 2] rfl) h
abbrev rmX7_highCut : Room := { frames := 8, cells := 0, slots := 0, locals := 180 }
set_option maxHeartbeats 4000000 in
set_option maxRecDepth 100000 in
theorem m_X7_highCut (l : Launch) (z : KT) (qS : Nat → Nat) (S : RT) (x1 : Int32) (x2 : Int32) (x3 : Int32) (Q : Int32 → RT → Prop) (h : wX7_highCut S x1 x2 x3 Q) : CI l yX7_highCut cX7_highCut 5 .int rmX7_highCut z [.ref (qS 0), .int x1, .int x2, .int x3] (sW z qS S) (fun u : RT => (sW z qS u)) (fun (r : Int32) (u : RT) => Q r u) := by
  refine CI.of rfl (Nat.le_of_ble_eq_true rfl) ?_
  intro p e s m below meth c A ls M hw hl
  have M : Mc p s m _ meth c cX7_highCut 5 (some .int) RX7 z A := M
  obtain ⟨hx, hb, -, -, hown, hts, -, -, -, hN, hsr, -⟩ := id M
  have hl : lv_has ls 5 [(0, .ref (qS 0)), (1, .int x1), (2, .int x2), (3, .int x3)] := hl
  unfold wX7_highCut at h
  generalize s.heap = H at hw ⊢
  generalize ([] : List Loc) = locs at hw ⊢
  refine lv_aload_n hx hb dX7_highCut_0 rfl (lv_at hl 0 rfl) ?_
  refine fr_Vv (wN := fun u : RT => (sW z qS u)) M (m_X7_changesOn l z qS S _ h) (cwV 0 hts (gdV cd_X7_changesOn ml_X7_228 im_X7_changesOn se_X7_changesOn in_X7) rfl rfl rfl hdV_X7_changesOn ⟨(Nat.le_of_ble_eq_true rfl), (Nat.le_of_ble_eq_true rfl)⟩) (Cut.self _) (Prm.self _ 17 (fun _ => rfl)) 0 rfl rfl rfl hw rfl hl.1 rfl (Nat.le_of_ble_eq_true rfl) dX7_highCut_1 (fun u_ H locs h hw => ?_)
  obtain ⟨S_1, rfl⟩ : ∃ z9 : RT, z9 = u_ := ⟨_, rfl⟩
  have hw : Hw s z A (sW z qS S_1) H locs := hw
  try dsimp only at h
  refine lv_aload_n hx hb dX7_highCut_4 rfl (lv_at hl 0 rfl) ?_
  refine lv_iload_n hx hb dX7_highCut_5 rfl (lv_at hl 2 rfl) ?_
  refine fr_Vv (wN := fun u : RT => (sW z qS u)) M (m_X7_drops l z qS S_1 x2 _ h) (cwV 1 hts (gdV cd_X7_drops ml_X7_135 im_X7_drops se_X7_drops in_X7) rfl rfl rfl hdV_X7_drops ⟨(Nat.le_of_ble_eq_true rfl), (Nat.le_of_ble_eq_true rfl)⟩) (Cut.self _) (Prm.self _ 17 (fun _ => rfl)) 0 rfl rfl rfl hw rfl hl.1 rfl (Nat.le_of_ble_eq_true rfl) dX7_highCut_6 (fun u_ H locs h hw => ?_)
  obtain ⟨S_2, rfl⟩ : ∃ z9 : RT, z9 = u_ := ⟨_, rfl⟩
  have hw : Hw s z A (sW z qS S_2) H locs := hw
  try dsimp only at h
  refine lv_aload_n hx hb dX7_highCut_9 rfl (lv_at hl 0 rfl) ?_
  refine lv_iload_n hx hb dX7_highCut_10 rfl (lv_at hl 1 rfl) ?_
  refine lv_iload_n hx hb dX7_highCut_11 rfl (lv_at hl 3 rfl) ?_
  refine fr_Vi (wN := fun u : RT => (sW z qS u)) M (m_X7_highIn l z qS S_2 x1 x3 _ h) (cwV 2 hts (gdV cd_X7_highIn ml_X7_216 im_X7_highIn se_X7_highIn in_X7) rfl rfl rfl hdV_X7_highIn ⟨(Nat.le_of_ble_eq_true rfl), (Nat.le_of_ble_eq_true rfl)⟩) (Cut.self _) (Prm.self _ 17 (fun _ => rfl)) 0 rfl rfl rfl hw rfl hl.1 rfl (Nat.le_of_ble_eq_true rfl) dX7_highCut_12 (fun r_4 u_ H locs h hw => ?_)
  obtain ⟨S_3, rfl⟩ : ∃ z9 : RT, z9 = u_ := ⟨_, rfl⟩
  have hw : Hw s z A (sW z qS S_3) H locs := hw
  try dsimp only at h
  refine lv_istore (lv' := [(4, .int r_4), (0, .ref (qS 0)), (1, .int x1), (2, .int x2), (3, .int x3)]) hx hb dX7_highCut_15 hl (by decide) rfl (fun ls hl => ?_)
  refine lv_aload_n hx hb dX7_highCut_17 rfl (lv_at hl 1 rfl) ?_
  refine fr_Vv (wN := fun u : RT => (sW z qS u)) M (m_X7_changesBack l z qS S_3 _ h) (cwV 0 hts (gdV cd_X7_changesBack ml_X7_231 im_X7_changesBack se_X7_changesBack in_X7) rfl rfl rfl hdV_X7_changesBack ⟨(Nat.le_of_ble_eq_true rfl), (Nat.le_of_ble_eq_true rfl)⟩) (Cut.self _) (Prm.self _ 17 (fun _ => rfl)) 0 rfl rfl rfl hw rfl hl.1 rfl (Nat.le_of_ble_eq_true rfl) dX7_highCut_18 (fun u_ H locs h hw => ?_)
  obtain ⟨S_5, rfl⟩ : ∃ z9 : RT, z9 = u_ := ⟨_, rfl⟩
  have hw : Hw s z A (sW z qS S_5) H locs := hw
  try dsimp only at h
  refine lv_iload hx hb dX7_highCut_21 (lv_at hl 0 rfl) ?_
  exact rt_i M S_5 hw h dX7_highCut_23
abbrev rmX7_bestCut : Room := { frames := 9, cells := 0, slots := 0, locals := 204 }
set_option maxHeartbeats 4000000 in
set_option maxRecDepth 100000 in
theorem kX7_bestCut_82 {p : Program} {l : Launch} {e : Env} {s : State} {m : MethodId} {args : Array Value} {below : List Frame} {meth : Method} {c : Code} {z : KT} {A : Nat → Prop} {qS : Nat → Nat} {K45 : RT → Int32 → Int32 → Int32 → Int32 → Int32 → Prop} {Q : Int32 → RT → Prop} (M : Mc p s m args meth c cX7_bestCut 8 (some .int) RX7 z A) (hK45 : ∀ (S : RT) (x1 : Int32) (x2 : Int32) (x4 : Int32) (x5 : Int32) (x6 : Int32) (H : Heap) (locs : List Loc) (ls : Array Slot), Hw s z A (sW z qS S) H locs → lv_has ls 8 [(0, .ref (qS 0)), (1, .int x1), (2, .int x2), (4, .int x4), (5, .int x5), (6, .int x6)] → K45 S x1 x2 x4 x5 x6 → W p l e rmX7_bestCut s m args below meth c H locs 0 0 (MQ below (va_Qi (fun (r : Int32) (u : RT) => Q r u) (fun u t => cAt z A ((fun u : RT => (sW z qS u)) u) t) A) args s 0 0 A) (F0 m 45 ls [])) : ∀ (S : RT) (x1 : Int32) (x2 : Int32) (x4 : Int32) (x5 : Int32) (x6 : Int32) (H : Heap) (locs : List Loc) (ls : Array Slot), Hw s z A (sW z qS S) H locs → lv_has ls 8 [(0, .ref (qS 0)), (1, .int x1), (2, .int x2), (4, .int x4), (5, .int x5), (6, .int x6)] → bX7_bestCut_82 K45 Q S x1 x2 x4 x5 x6 → W p l e rmX7_bestCut s m args below meth c H locs 0 0 (MQ below (va_Qi (fun (r : Int32) (u : RT) => Q r u) (fun u t => cAt z A ((fun u : RT => (sW z qS u)) u) t) A) args s 0 0 A) (F0 m 82 ls []) := by
  obtain ⟨hx, hb, -, -, hown, hts, -, -, -, hN, hsr, -⟩ := id M
  intro S x1 x2 x4 x5 x6 H locs ls hw hl h
  unfold bX7_bestCut_82 at h
  obtain ⟨x6_1, ex6_1⟩ : ∃ y : Int32, y = (x6 + (1 : Int32)) := ⟨_, rfl⟩
  replace h := h x6_1 ex6_1
  refine lv_iinc (v := x6_1) (lv' := [(6, .int x6_1), (0, .ref (qS 0)), (1, .int x1), (2, .int x2), (4, .int x4), (5, .int x5)]) hx hb dX7_bestCut_82 hl (k := 5) rfl (by rw [ex6_1]; rfl) (by decide) rfl (fun ls hl => ?_)
  refine lv_goto (tgt := 45) hx hb dX7_bestCut_85 (by decide) ?_
  exact hK45 S x1 x2 x4 x5 x6_1 H locs ls hw (lv_sub hl [1, 2, 3, 4, 5, 0] rfl) h
set_option maxHeartbeats 4000000 in
set_option maxRecDepth 100000 in
theorem kX7_bestCut_45 {p : Program} {l : Launch} {e : Env} {s : State} {m : MethodId} {args : Array Value} {below : List Frame} {meth : Method} {c : Code} {z : KT} {A : Nat → Prop} {qS : Nat → Nat} {Q : Int32 → RT → Prop} (M : Mc p s m args meth c cX7_bestCut 8 (some .int) RX7 z A) : ∀ (n : Nat) (S : RT) (x1 : Int32) (x2 : Int32) (x4 : Int32) (x5 : Int32) (x6 : Int32) (H : Heap) (locs : List Loc) (ls : Array Slot), Hw s z A (sW z qS S) H locs → lv_has ls 8 [(0, .ref (qS 0)), (1, .int x1), (2, .int x2), (4, .int x4), (5, .int x5), (6, .int x6)] → bX7_bestCut_45 Q n S x1 x2 x4 x5 x6 → W p l e rmX7_bestCut s m args below meth c H locs 0 0 (MQ below (va_Qi (fun (r : Int32) (u : RT) => Q r u) (fun u t => cAt z A ((fun u : RT => (sW z qS u)) u) t) A) args s 0 0 A) (F0 m 45 ls []) := by
  obtain ⟨hx, hb, -, -, hown, hts, -, -, -, hN, hsr, -⟩ := id M
  intro n
  induction n with
  | zero => intro S x1 x2 x4 x5 x6 H locs ls hw hl h; exact False.elim h
  | succ n ih =>
    intro S x1 x2 x4 x5 x6 H locs ls hw hl h
    rw [bX7_bestCut_45] at h
    refine lv_iload hx hb dX7_bestCut_45 (lv_at hl 5 rfl) ?_
    refine lv_aload_n hx hb dX7_bestCut_47 rfl (lv_at hl 0 rfl) ?_
    refine gt_f (v := .int (S 30 9)) M inlX7 hw 0 rfl rfl 9 (by decide) fl_X7_67 rfl rfl dX7_bestCut_48 ?_
    refine lv_icmp_ge (tgt := 88) hx hb dX7_bestCut_51 (by decide) (fun c_1 => ?_) (fun c_1 => ?_)
    · replace h := iT c_1 h
      refine lv_iload hx hb dX7_bestCut_88 (lv_at hl 3 rfl) ?_
      exact rt_i M S hw h dX7_bestCut_90
    · replace h := iF c_1 h
      refine lv_aload_n hx hb dX7_bestCut_54 rfl (lv_at hl 0 rfl) ?_
      refine lv_iload_n hx hb dX7_bestCut_55 rfl (lv_at hl 1 rfl) ?_
      refine lv_iload hx hb dX7_bestCut_56 (lv_at hl 5 rfl) ?_
      refine lv_iload_n hx hb dX7_bestCut_58 rfl (lv_at hl 2 rfl) ?_
      refine fr_Vi (wN := fun u : RT => (sW z qS u)) M (m_X7_highCut l z qS S x1 x6 x2 _ h) (cwV 3 hts (gdV cd_X7_highCut ml_X7_234 im_X7_highCut se_X7_highCut in_X7) rfl rfl rfl hdV_X7_highCut ⟨(Nat.le_of_ble_eq_true rfl), (Nat.le_of_ble_eq_true rfl)⟩) (Cut.self _) (Prm.self _ 17 (fun _ => rfl)) 0 rfl rfl rfl hw rfl hl.1 rfl (Nat.le_of_ble_eq_true rfl) dX7_bestCut_59 (fun r_3 u_ H locs h hw => ?_)
      obtain ⟨S_2, rfl⟩ : ∃ z9 : RT, z9 = u_ := ⟨_, rfl⟩
      have hw : Hw s z A (sW z qS S_2) H locs := hw
      try dsimp only at h
      refine lv_istore (lv' := [(7, .int r_3), (0, .ref (qS 0)), (1, .int x1), (2, .int x2), (4, .int x4), (5, .int x5), (6, .int x6)]) hx hb dX7_bestCut_62 hl (by decide) rfl (fun ls hl => ?_)
      refine lv_iload hx hb dX7_bestCut_64 (lv_at hl 0 rfl) ?_
      refine lv_iload hx hb dX7_bestCut_66 (lv_at hl 5 rfl) ?_
      refine lv_icmp_gt (tgt := 74) hx hb dX7_bestCut_68 (by decide) (fun c_4 => ?_) (fun c_4 => ?_)
      · replace h := iT c_4 h
        refine lv_iload hx hb dX7_bestCut_74 (lv_at hl 6 rfl) ?_
        refine lv_istore (lv' := [(4, .int x6), (7, .int r_3), (0, .ref (qS 0)), (1, .int x1), (2, .int x2), (5, .int x5), (6, .int x6)]) hx hb dX7_bestCut_76 hl (by decide) rfl (fun ls hl => ?_)
        refine lv_iload hx hb dX7_bestCut_78 (lv_at hl 1 rfl) ?_
        refine lv_istore (lv' := [(5, .int r_3), (4, .int x6), (7, .int r_3), (0, .ref (qS 0)), (1, .int x1), (2, .int x2), (6, .int x6)]) hx hb dX7_bestCut_80 hl (by decide) rfl (fun ls hl => ?_)
        exact kX7_bestCut_82 M ih S_2 x1 x2 x6 r_3 x6 H locs ls hw (lv_sub hl [3, 4, 5, 1, 0, 6] rfl) h
      · replace h := iF c_4 h
        refine lv_goto (tgt := 82) hx hb dX7_bestCut_71 (by decide) ?_
        exact kX7_bestCut_82 M ih S_2 x1 x2 x4 x5 x6 H locs ls hw (lv_sub hl [1, 2, 3, 4, 5, 6] rfl) h
set_option maxHeartbeats 4000000 in
set_option maxRecDepth 100000 in
theorem kX7_bestCut_19 {p : Program} {l : Launch} {e : Env} {s : State} {m : MethodId} {args : Array Value} {below : List Frame} {meth : Method} {c : Code} {z : KT} {A : Nat → Prop} {qS : Nat → Nat} {Q : Int32 → RT → Prop} (M : Mc p s m args meth c cX7_bestCut 8 (some .int) RX7 z A) : ∀ (S : RT) (x1 : Int32) (x2 : Int32) (t0 : Int32) (H : Heap) (locs : List Loc) (ls : Array Slot), Hw s z A (sW z qS S) H locs → lv_has ls 8 [(0, .ref (qS 0)), (1, .int x1), (2, .int x2)] → bX7_bestCut_19 Q S x1 x2 t0 → W p l e rmX7_bestCut s m args below meth c H locs 0 0 (MQ below (va_Qi (fun (r : Int32) (u : RT) => Q r u) (fun u t => cAt z A ((fun u : RT => (sW z qS u)) u) t) A) args s 0 0 A) (F0 m 19 ls [.int t0]) := by
  obtain ⟨hx, hb, -, -, hown, hts, -, -, -, hN, hsr, -⟩ := id M
  intro S x1 x2 t0 H locs ls hw hl h
  unfold bX7_bestCut_19 at h
  refine lv_istore_n (lv' := [(3, .int t0), (0, .ref (qS 0)), (1, .int x1), (2, .int x2)]) hx hb dX7_bestCut_19 rfl hl (by decide) rfl (fun ls hl => ?_)
  refine lv_iload_n hx hb dX7_bestCut_20 rfl (lv_at hl 0 rfl) ?_
  refine lv_if_eq (tgt := 30) hx hb dX7_bestCut_21 (by decide) (fun c_1 => ?_) (fun c_1 => ?_)
  · replace h := iT c_1 h
    refine lv_bipush (v := -9) hx hb dX7_bestCut_30 (by decide) ?_
    refine lv_istore (lv' := [(4, .int (-9 : Int32)), (3, .int t0), (0, .ref (qS 0)), (1, .int x1), (2, .int x2)]) hx hb dX7_bestCut_32 hl (by decide) rfl (fun ls hl => ?_)
    refine lv_aload_n hx hb dX7_bestCut_34 rfl (lv_at hl 2 rfl) ?_
    refine lv_iload_n hx hb dX7_bestCut_35 rfl (lv_at hl 3 rfl) ?_
    refine lv_iload_n hx hb dX7_bestCut_36 rfl (lv_at hl 4 rfl) ?_
    refine fr_Vi (wN := fun u : RT => (sW z qS u)) M (m_X7_highIn l z qS S x1 x2 _ h) (cwV 2 hts (gdV cd_X7_highIn ml_X7_216 im_X7_highIn se_X7_highIn in_X7) rfl rfl rfl hdV_X7_highIn ⟨(Nat.le_of_ble_eq_true rfl), (Nat.le_of_ble_eq_true rfl)⟩) (Cut.self _) (Prm.self _ 17 (fun _ => rfl)) 0 rfl rfl rfl hw rfl hl.1 rfl (Nat.le_of_ble_eq_true rfl) dX7_bestCut_37 (fun r_3 u_ H locs h hw => ?_)
    obtain ⟨S_2, rfl⟩ : ∃ z9 : RT, z9 = u_ := ⟨_, rfl⟩
    have hw : Hw s z A (sW z qS S_2) H locs := hw
    try dsimp only at h
    refine lv_istore (lv' := [(5, .int r_3), (4, .int (-9 : Int32)), (3, .int t0), (0, .ref (qS 0)), (1, .int x1), (2, .int x2)]) hx hb dX7_bestCut_40 hl (by decide) rfl (fun ls hl => ?_)
    refine lv_iconst (v := 0) hx hb dX7_bestCut_42 (by decide) ?_
    refine lv_istore (lv' := [(6, .int (0 : Int32)), (5, .int r_3), (4, .int (-9 : Int32)), (3, .int t0), (0, .ref (qS 0)), (1, .int x1), (2, .int x2)]) hx hb dX7_bestCut_43 hl (by decide) rfl (fun ls hl => ?_)
    obtain ⟨n0, h⟩ := h; exact kX7_bestCut_45 M n0 S_2 x1 x2 (-9 : Int32) r_3 (0 : Int32) H locs ls hw (lv_sub hl [4, 5, 6, 2, 1, 0] rfl) h
  · replace h := iF c_1 h
    refine lv_aload_n hx hb dX7_bestCut_24 rfl (lv_at hl 1 rfl) ?_
    refine lv_iload_n hx hb dX7_bestCut_25 rfl (lv_at hl 0 rfl) ?_
    refine fr_Vi (wN := fun u : RT => (sW z qS u)) M (m_X7_no l z qS S t0 _ h) (cwV 1 hts (gdV cd_X7_no ml_X7_81 im_X7_no se_X7_no in_X7) rfl rfl rfl hdV_X7_no ⟨(Nat.le_of_ble_eq_true rfl), (Nat.le_of_ble_eq_true rfl)⟩) (Cut.self _) (Prm.self _ 17 (fun _ => rfl)) 0 rfl rfl rfl hw rfl hl.1 rfl (Nat.le_of_ble_eq_true rfl) dX7_bestCut_26 (fun r_5 u_ H locs h hw => ?_)
    obtain ⟨S_4, rfl⟩ : ∃ z9 : RT, z9 = u_ := ⟨_, rfl⟩
    have hw : Hw s z A (sW z qS S_4) H locs := hw
    try dsimp only at h
    exact rt_i M S_4 hw h dX7_bestCut_29
set_option maxHeartbeats 4000000 in
set_option maxRecDepth 100000 in
theorem m_X7_bestCut (l : Launch) (z : KT) (qS : Nat → Nat) (S : RT) (x1 : Int32) (x2 : Int32) (Q : Int32 → RT → Prop) (h : wX7_bestCut S x1 x2 Q) : CI l yX7_bestCut cX7_bestCut 8 .int rmX7_bestCut z [.ref (qS 0), .int x1, .int x2] (sW z qS S) (fun u : RT => (sW z qS u)) (fun (r : Int32) (u : RT) => Q r u) := by
  refine CI.of rfl (Nat.le_of_ble_eq_true rfl) ?_
  intro p e s m below meth c A ls M hw hl
  have M : Mc p s m _ meth c cX7_bestCut 8 (some .int) RX7 z A := M
  obtain ⟨hx, hb, -, -, hown, hts, -, -, -, hN, hsr, -⟩ := id M
  have hl : lv_has ls 8 [(0, .ref (qS 0)), (1, .int x1), (2, .int x2)] := hl
  unfold wX7_bestCut at h
  generalize s.heap = H at hw ⊢
  generalize ([] : List Loc) = locs at hw ⊢
  refine lv_aload_n hx hb dX7_bestCut_0 rfl (lv_at hl 0 rfl) ?_
  refine lv_iload_n hx hb dX7_bestCut_1 rfl (lv_at hl 1 rfl) ?_
  refine fr_Vi (wN := fun _ : Unit => (sW z qS S)) M (m_X7_isThing l z qS S x1 _ h) (cwV 1 hts (gdV cd_X7_isThing ml_X7_70 im_X7_isThing se_X7_isThing in_X7) rfl rfl rfl hdV_X7_isThing ⟨(Nat.le_of_ble_eq_true rfl), (Nat.le_of_ble_eq_true rfl)⟩) (Cut.self _) (Prm.self _ 17 (fun _ => rfl)) 0 rfl rfl rfl hw rfl hl.1 rfl (Nat.le_of_ble_eq_true rfl) dX7_bestCut_2 (fun r_1 u_ H locs h hw => ?_)
  have hw : Hw s z A (sW z qS S) H locs := hw
  try dsimp only at h
  refine lv_if_ne (tgt := 12) hx hb dX7_bestCut_5 (by decide) (fun c_2 => ?_) (fun c_2 => ?_)
  · replace h := iF c_2 h
    refine lv_iload_n hx hb dX7_bestCut_12 rfl (lv_at hl 2 rfl) ?_
    refine lv_iconst (v := 0) hx hb dX7_bestCut_13 (by decide) ?_
    refine lv_bipush (v := 30) hx hb dX7_bestCut_14 (by decide) ?_
    refine fr_Si (wN := fun _ : Unit => (sW z qS S)) M (m_X7_bound l z x2 (0 : Int32) (30 : Int32) _ h) (va_cwS 3 hts (gdS cd_X7_bound ml_X7_74 st_X7_bound in_X7) rfl rfl rfl hdS_X7_bound ⟨(Nat.le_of_ble_eq_true rfl), (Nat.le_of_ble_eq_true rfl)⟩) (Cut.none _) (Prm.none _) hw rfl hl.1 rfl (Nat.le_of_ble_eq_true rfl) dX7_bestCut_16 (fun r_3 u_ H locs h hw => ?_)
    have hw : Hw s z A (sW z qS S) H locs := hw
    try dsimp only at h
    exact kX7_bestCut_19 M S x1 x2 r_3 H locs ls hw (lv_sub hl [0, 1, 2] rfl) h
  · replace h := iT c_2 h
    refine lv_iconst (v := -1) hx hb dX7_bestCut_8 (by decide) ?_
    refine lv_goto (tgt := 19) hx hb dX7_bestCut_9 (by decide) ?_
    exact kX7_bestCut_19 M S x1 x2 (-1 : Int32) H locs ls hw (lv_sub hl [0, 1, 2] rfl) h
abbrev rmX7_allIn : Room := { frames := 7, cells := 0, slots := 0, locals := 157 }
set_option maxHeartbeats 4000000 in
set_option maxRecDepth 100000 in
theorem m_X7_allIn (l : Launch) (z : KT) (qS : Nat → Nat) (S : RT) (x1 : Int32) (Q : Int32 → RT → Prop) (h : wX7_allIn S x1 Q) : CI l yX7_allIn cX7_allIn 3 .int rmX7_allIn z [.ref (qS 0), .int x1] (sW z qS S) (fun u : RT => (sW z qS u)) (fun (r : Int32) (u : RT) => Q r u) := by
  refine CI.of rfl (Nat.le_of_ble_eq_true rfl) ?_
  intro p e s m below meth c A ls M hw hl
  have M : Mc p s m _ meth c cX7_allIn 3 (some .int) RX7 z A := M
  obtain ⟨hx, hb, -, -, hown, hts, -, -, -, hN, hsr, -⟩ := id M
  have hl : lv_has ls 3 [(0, .ref (qS 0)), (1, .int x1)] := hl
  unfold wX7_allIn at h
  generalize s.heap = H at hw ⊢
  generalize ([] : List Loc) = locs at hw ⊢
  refine lv_aload_n hx hb dX7_allIn_0 rfl (lv_at hl 0 rfl) ?_
  refine fr_Vv (wN := fun u : RT => (sW z qS u)) M (m_X7_thinks l z qS S _ h) (cwV 0 hts (gdV cd_X7_thinks ml_X7_201 im_X7_thinks se_X7_thinks in_X7) rfl rfl rfl hdV_X7_thinks ⟨(Nat.le_of_ble_eq_true rfl), (Nat.le_of_ble_eq_true rfl)⟩) (Cut.self _) (Prm.self _ 17 (fun _ => rfl)) 0 rfl rfl rfl hw rfl hl.1 rfl (Nat.le_of_ble_eq_true rfl) dX7_allIn_1 (fun u_ H locs h hw => ?_)
  obtain ⟨S_1, rfl⟩ : ∃ z9 : RT, z9 = u_ := ⟨_, rfl⟩
  have hw : Hw s z A (sW z qS S_1) H locs := hw
  try dsimp only at h
  refine lv_aload_n hx hb dX7_allIn_4 rfl (lv_at hl 0 rfl) ?_
  refine lv_iload_n hx hb dX7_allIn_5 rfl (lv_at hl 1 rfl) ?_
  refine fr_Vv (wN := fun u : RT => (sW z qS u)) M (m_X7_goes l z qS S_1 x1 _ h) (cwV 1 hts (gdV cd_X7_goes ml_X7_122 im_X7_goes se_X7_goes in_X7) rfl rfl rfl hdV_X7_goes ⟨(Nat.le_of_ble_eq_true rfl), (Nat.le_of_ble_eq_true rfl)⟩) (Cut.self _) (Prm.self _ 17 (fun _ => rfl)) 0 rfl rfl rfl hw rfl hl.1 rfl (Nat.le_of_ble_eq_true rfl) dX7_allIn_6 (fun u_ H locs h hw => ?_)
  obtain ⟨S_2, rfl⟩ : ∃ z9 : RT, z9 = u_ := ⟨_, rfl⟩
  have hw : Hw s z A (sW z qS S_2) H locs := hw
  try dsimp only at h
  refine lv_aload_n hx hb dX7_allIn_9 rfl (lv_at hl 0 rfl) ?_
  refine fr_Vi (wN := fun _ : Unit => (sW z qS S_2)) M (m_X7_allHigh l z qS S_2 _ h) (cwV 0 hts (gdV cd_X7_allHigh ml_X7_195 im_X7_allHigh se_X7_allHigh in_X7) rfl rfl rfl hdV_X7_allHigh ⟨(Nat.le_of_ble_eq_true rfl), (Nat.le_of_ble_eq_true rfl)⟩) (Cut.self _) (Prm.self _ 17 (fun _ => rfl)) 0 rfl rfl rfl hw rfl hl.1 rfl (Nat.le_of_ble_eq_true rfl) dX7_allIn_10 (fun r_3 u_ H locs h hw => ?_)
  have hw : Hw s z A (sW z qS S_2) H locs := hw
  try dsimp only at h
  refine lv_istore_n (lv' := [(2, .int r_3), (0, .ref (qS 0)), (1, .int x1)]) hx hb dX7_allIn_13 rfl hl (by decide) rfl (fun ls hl => ?_)
  refine lv_aload_n hx hb dX7_allIn_14 rfl (lv_at hl 1 rfl) ?_
  refine fr_Vv (wN := fun u : RT => (sW z qS u)) M (m_X7_forgets l z qS S_2 _ h) (cwV 0 hts (gdV cd_X7_forgets ml_X7_204 im_X7_forgets se_X7_forgets in_X7) rfl rfl rfl hdV_X7_forgets ⟨(Nat.le_of_ble_eq_true rfl), (Nat.le_of_ble_eq_true rfl)⟩) (Cut.self _) (Prm.self _ 17 (fun _ => rfl)) 0 rfl rfl rfl hw rfl hl.1 rfl (Nat.le_of_ble_eq_true rfl) dX7_allIn_15 (fun u_ H locs h hw => ?_)
  obtain ⟨S_4, rfl⟩ : ∃ z9 : RT, z9 = u_ := ⟨_, rfl⟩
  have hw : Hw s z A (sW z qS S_4) H locs := hw
  try dsimp only at h
  refine lv_iload_n hx hb dX7_allIn_18 rfl (lv_at hl 0 rfl) ?_
  exact rt_i M S_4 hw h dX7_allIn_19
abbrev rmX7_bestStone : Room := { frames := 8, cells := 0, slots := 0, locals := 179 }
set_option maxHeartbeats 4000000 in
set_option maxRecDepth 100000 in
theorem kX7_bestStone_101 {p : Program} {l : Launch} {e : Env} {s : State} {m : MethodId} {args : Array Value} {below : List Frame} {meth : Method} {c : Code} {z : KT} {A : Nat → Prop} {qS : Nat → Nat} {K31 : RT → Int32 → Int32 → Int32 → Int32 → Prop} {Q : Int32 → RT → Prop} (M : Mc p s m args meth c cX7_bestStone 7 (some .int) RX7 z A) (hK31 : ∀ (S : RT) (x1 : Int32) (x3 : Int32) (x4 : Int32) (x5 : Int32) (H : Heap) (locs : List Loc) (ls : Array Slot), Hw s z A (sW z qS S) H locs → lv_has ls 7 [(0, .ref (qS 0)), (1, .int x1), (3, .int x3), (4, .int x4), (5, .int x5)] → K31 S x1 x3 x4 x5 → W p l e rmX7_bestStone s m args below meth c H locs 0 0 (MQ below (va_Qi (fun (r : Int32) (u : RT) => Q r u) (fun u t => cAt z A ((fun u : RT => (sW z qS u)) u) t) A) args s 0 0 A) (F0 m 31 ls [])) : ∀ (S : RT) (x1 : Int32) (x3 : Int32) (x4 : Int32) (x5 : Int32) (H : Heap) (locs : List Loc) (ls : Array Slot), Hw s z A (sW z qS S) H locs → lv_has ls 7 [(0, .ref (qS 0)), (1, .int x1), (3, .int x3), (4, .int x4), (5, .int x5)] → bX7_bestStone_101 K31 Q S x1 x3 x4 x5 → W p l e rmX7_bestStone s m args below meth c H locs 0 0 (MQ below (va_Qi (fun (r : Int32) (u : RT) => Q r u) (fun u t => cAt z A ((fun u : RT => (sW z qS u)) u) t) A) args s 0 0 A) (F0 m 101 ls []) := by
  obtain ⟨hx, hb, -, -, hown, hts, -, -, -, hN, hsr, -⟩ := id M
  intro S x1 x3 x4 x5 H locs ls hw hl h
  unfold bX7_bestStone_101 at h
  obtain ⟨x5_1, ex5_1⟩ : ∃ y : Int32, y = (x5 + (1 : Int32)) := ⟨_, rfl⟩
  replace h := h x5_1 ex5_1
  refine lv_iinc (v := x5_1) (lv' := [(5, .int x5_1), (0, .ref (qS 0)), (1, .int x1), (3, .int x3), (4, .int x4)]) hx hb dX7_bestStone_101 hl (k := 4) rfl (by rw [ex5_1]; rfl) (by decide) rfl (fun ls hl => ?_)
  refine lv_goto (tgt := 31) hx hb dX7_bestStone_104 (by decide) ?_
  exact hK31 S x1 x3 x4 x5_1 H locs ls hw (lv_sub hl [1, 2, 3, 4, 0] rfl) h
set_option maxHeartbeats 4000000 in
set_option maxRecDepth 100000 in
theorem kX7_bestStone_31 {p : Program} {l : Launch} {e : Env} {s : State} {m : MethodId} {args : Array Value} {below : List Frame} {meth : Method} {c : Code} {z : KT} {A : Nat → Prop} {qS : Nat → Nat} {Q : Int32 → RT → Prop} (M : Mc p s m args meth c cX7_bestStone 7 (some .int) RX7 z A) : ∀ (n : Nat) (S : RT) (x1 : Int32) (x3 : Int32) (x4 : Int32) (x5 : Int32) (H : Heap) (locs : List Loc) (ls : Array Slot), Hw s z A (sW z qS S) H locs → lv_has ls 7 [(0, .ref (qS 0)), (1, .int x1), (3, .int x3), (4, .int x4), (5, .int x5)] → bX7_bestStone_31 Q n S x1 x3 x4 x5 → W p l e rmX7_bestStone s m args below meth c H locs 0 0 (MQ below (va_Qi (fun (r : Int32) (u : RT) => Q r u) (fun u t => cAt z A ((fun u : RT => (sW z qS u)) u) t) A) args s 0 0 A) (F0 m 31 ls []) := by
  obtain ⟨hx, hb, -, -, hown, hts, -, -, -, hN, hsr, -⟩ := id M
  intro n
  induction n with
  | zero => intro S x1 x3 x4 x5 H locs ls hw hl h; exact False.elim h
  | succ n ih =>
    intro S x1 x3 x4 x5 H locs ls hw hl h
    rw [bX7_bestStone_31] at h
    refine lv_iload hx hb dX7_bestStone_31 (lv_at hl 4 rfl) ?_
    refine lv_aload_n hx hb dX7_bestStone_33 rfl (lv_at hl 0 rfl) ?_
    refine gt_f (v := .int (S 30 8)) M inlX7 hw 0 rfl rfl 8 (by decide) fl_X7_62 rfl rfl dX7_bestStone_34 ?_
    refine lv_icmp_ge (tgt := 107) hx hb dX7_bestStone_37 (by decide) (fun c_1 => ?_) (fun c_1 => ?_)
    · replace h := iT c_1 h
      refine lv_iload_n hx hb dX7_bestStone_107 rfl (lv_at hl 2 rfl) ?_
      exact rt_i M S hw h dX7_bestStone_108
    · replace h := iF c_1 h
      refine lv_aload_n hx hb dX7_bestStone_40 rfl (lv_at hl 0 rfl) ?_
      refine gt_f (v := .ref (qS 5)) M inlX7 hw 0 rfl rfl 4 (by decide) fl_X7_22 rfl rfl dX7_bestStone_41 ?_
      refine lv_iload hx hb dX7_bestStone_44 (lv_at hl 4 rfl) ?_
      obtain ⟨a_2, h⟩ := h
      refine ld_i M hw 5 rfl a_2 dX7_bestStone_46 ?_
      refine lv_bipush (v := 9) hx hb dX7_bestStone_47 (by decide) ?_
      refine lv_icmp_ne (tgt := 55) hx hb dX7_bestStone_49 (by decide) (fun c_3 => ?_) (fun c_3 => ?_)
      · replace h := iF c_3 h
        refine lv_aload_n hx hb dX7_bestStone_55 rfl (lv_at hl 0 rfl) ?_
        refine gt_f (v := .ref (qS 5)) M inlX7 hw 0 rfl rfl 4 (by decide) fl_X7_22 rfl rfl dX7_bestStone_56 ?_
        refine lv_iload hx hb dX7_bestStone_59 (lv_at hl 4 rfl) ?_
        refine lv_dup2_11 hx hb dX7_bestStone_61 rfl rfl ?_
        refine ld_i M hw 5 rfl a_2 dX7_bestStone_62 ?_
        refine lv_iconst (v := 1) hx hb dX7_bestStone_63 (by decide) ?_
        refine lv_iadd hx hb dX7_bestStone_64 ?_
        refine st_i (P := S) (r := 4) (wN := fun S_4 => (sW z qS S_4)) M hw 5 rfl rfl a_2 dX7_bestStone_65 (fun S_4 H locs eS_4 hw => ?_)
        replace h := h S_4 eS_4
        refine lv_aload_n hx hb dX7_bestStone_66 rfl (lv_at hl 0 rfl) ?_
        refine lv_iload_n hx hb dX7_bestStone_67 rfl (lv_at hl 1 rfl) ?_
        refine fr_Vi (wN := fun u : RT => (sW z qS u)) M (m_X7_allIn l z qS S_4 x1 _ h) (cwV 1 hts (gdV cd_X7_allIn ml_X7_237 im_X7_allIn se_X7_allIn in_X7) rfl rfl rfl hdV_X7_allIn ⟨(Nat.le_of_ble_eq_true rfl), (Nat.le_of_ble_eq_true rfl)⟩) (Cut.self _) (Prm.self _ 17 (fun _ => rfl)) 0 rfl rfl rfl hw rfl hl.1 rfl (Nat.le_of_ble_eq_true rfl) dX7_bestStone_68 (fun r_6 u_ H locs h hw => ?_)
        obtain ⟨S_5, rfl⟩ : ∃ z9 : RT, z9 = u_ := ⟨_, rfl⟩
        have hw : Hw s z A (sW z qS S_5) H locs := hw
        try dsimp only at h
        refine lv_istore (lv' := [(6, .int r_6), (0, .ref (qS 0)), (1, .int x1), (3, .int x3), (4, .int x4), (5, .int x5)]) hx hb dX7_bestStone_71 hl (by decide) rfl (fun ls hl => ?_)
        refine lv_aload_n hx hb dX7_bestStone_73 rfl (lv_at hl 1 rfl) ?_
        refine gt_f (v := .ref (qS 5)) M inlX7 hw 0 rfl rfl 4 (by decide) fl_X7_22 rfl rfl dX7_bestStone_74 ?_
        refine lv_iload hx hb dX7_bestStone_77 (lv_at hl 5 rfl) ?_
        refine lv_dup2_11 hx hb dX7_bestStone_79 rfl rfl ?_
        refine ld_i M hw 5 rfl a_2 dX7_bestStone_80 ?_
        refine lv_iconst (v := 1) hx hb dX7_bestStone_81 (by decide) ?_
        refine lv_isub hx hb dX7_bestStone_82 ?_
        refine st_i (P := S_5) (r := 4) (wN := fun S_7 => (sW z qS S_7)) M hw 5 rfl rfl a_2 dX7_bestStone_83 (fun S_7 H locs eS_7 hw => ?_)
        replace h := h S_7 eS_7
        refine lv_iload hx hb dX7_bestStone_84 (lv_at hl 0 rfl) ?_
        refine lv_iload hx hb dX7_bestStone_86 (lv_at hl 4 rfl) ?_
        refine lv_icmp_gt (tgt := 94) hx hb dX7_bestStone_88 (by decide) (fun c_8 => ?_) (fun c_8 => ?_)
        · replace h := iT c_8 h
          refine lv_iload hx hb dX7_bestStone_94 (lv_at hl 5 rfl) ?_
          refine lv_istore_n (lv' := [(3, .int x5), (6, .int r_6), (0, .ref (qS 0)), (1, .int x1), (4, .int x4), (5, .int x5)]) hx hb dX7_bestStone_96 rfl hl (by decide) rfl (fun ls hl => ?_)
          refine lv_iload hx hb dX7_bestStone_97 (lv_at hl 1 rfl) ?_
          refine lv_istore (lv' := [(4, .int r_6), (3, .int x5), (6, .int r_6), (0, .ref (qS 0)), (1, .int x1), (5, .int x5)]) hx hb dX7_bestStone_99 hl (by decide) rfl (fun ls hl => ?_)
          exact kX7_bestStone_101 M ih S_7 x1 x5 r_6 x5 H locs ls hw (lv_sub hl [3, 4, 1, 0, 5] rfl) h
        · replace h := iF c_8 h
          refine lv_goto (tgt := 101) hx hb dX7_bestStone_91 (by decide) ?_
          exact kX7_bestStone_101 M ih S_7 x1 x3 x4 x5 H locs ls hw (lv_sub hl [1, 2, 3, 4, 5] rfl) h
      · replace h := iT c_3 h
        refine lv_goto (tgt := 101) hx hb dX7_bestStone_52 (by decide) ?_
        exact kX7_bestStone_101 M ih S x1 x3 x4 x5 H locs ls hw (lv_sub hl [0, 1, 2, 3, 4] rfl) h
set_option maxHeartbeats 4000000 in
set_option maxRecDepth 100000 in
theorem m_X7_bestStone (l : Launch) (z : KT) (qS : Nat → Nat) (S : RT) (x1 : Int32) (Q : Int32 → RT → Prop) (h : wX7_bestStone S x1 Q) : CI l yX7_bestStone cX7_bestStone 7 .int rmX7_bestStone z [.ref (qS 0), .int x1] (sW z qS S) (fun u : RT => (sW z qS u)) (fun (r : Int32) (u : RT) => Q r u) := by
  refine CI.of rfl (Nat.le_of_ble_eq_true rfl) ?_
  intro p e s m below meth c A ls M hw hl
  have M : Mc p s m _ meth c cX7_bestStone 7 (some .int) RX7 z A := M
  obtain ⟨hx, hb, -, -, hown, hts, -, -, -, hN, hsr, -⟩ := id M
  have hl : lv_has ls 7 [(0, .ref (qS 0)), (1, .int x1)] := hl
  unfold wX7_bestStone at h
  generalize s.heap = H at hw ⊢
  generalize ([] : List Loc) = locs at hw ⊢
  refine lv_iload_n hx hb dX7_bestStone_0 rfl (lv_at hl 1 rfl) ?_
  refine lv_iconst (v := 0) hx hb dX7_bestStone_1 (by decide) ?_
  refine lv_bipush (v := 30) hx hb dX7_bestStone_2 (by decide) ?_
  refine fr_Si (wN := fun _ : Unit => (sW z qS S)) M (m_X7_bound l z x1 (0 : Int32) (30 : Int32) _ h) (va_cwS 3 hts (gdS cd_X7_bound ml_X7_74 st_X7_bound in_X7) rfl rfl rfl hdS_X7_bound ⟨(Nat.le_of_ble_eq_true rfl), (Nat.le_of_ble_eq_true rfl)⟩) (Cut.none _) (Prm.none _) hw rfl hl.1 rfl (Nat.le_of_ble_eq_true rfl) dX7_bestStone_4 (fun r_1 u_ H locs h hw => ?_)
  have hw : Hw s z A (sW z qS S) H locs := hw
  try dsimp only at h
  refine lv_istore_n (lv' := [(2, .int r_1), (0, .ref (qS 0)), (1, .int x1)]) hx hb dX7_bestStone_7 rfl hl (by decide) rfl (fun ls hl => ?_)
  refine lv_iload_n hx hb dX7_bestStone_8 rfl (lv_at hl 0 rfl) ?_
  refine lv_if_eq (tgt := 18) hx hb dX7_bestStone_9 (by decide) (fun c_2 => ?_) (fun c_2 => ?_)
  · replace h := iT c_2 h
    refine lv_bipush (v := -9) hx hb dX7_bestStone_18 (by decide) ?_
    refine lv_istore_n (lv' := [(3, .int (-9 : Int32)), (2, .int r_1), (0, .ref (qS 0)), (1, .int x1)]) hx hb dX7_bestStone_20 rfl hl (by decide) rfl (fun ls hl => ?_)
    refine lv_aload_n hx hb dX7_bestStone_21 rfl (lv_at hl 2 rfl) ?_
    refine lv_iload_n hx hb dX7_bestStone_22 rfl (lv_at hl 3 rfl) ?_
    refine fr_Vi (wN := fun u : RT => (sW z qS u)) M (m_X7_allIn l z qS S x1 _ h) (cwV 1 hts (gdV cd_X7_allIn ml_X7_237 im_X7_allIn se_X7_allIn in_X7) rfl rfl rfl hdV_X7_allIn ⟨(Nat.le_of_ble_eq_true rfl), (Nat.le_of_ble_eq_true rfl)⟩) (Cut.self _) (Prm.self _ 17 (fun _ => rfl)) 0 rfl rfl rfl hw rfl hl.1 rfl (Nat.le_of_ble_eq_true rfl) dX7_bestStone_23 (fun r_4 u_ H locs h hw => ?_)
    obtain ⟨S_3, rfl⟩ : ∃ z9 : RT, z9 = u_ := ⟨_, rfl⟩
    have hw : Hw s z A (sW z qS S_3) H locs := hw
    try dsimp only at h
    refine lv_istore (lv' := [(4, .int r_4), (3, .int (-9 : Int32)), (2, .int r_1), (0, .ref (qS 0)), (1, .int x1)]) hx hb dX7_bestStone_26 hl (by decide) rfl (fun ls hl => ?_)
    refine lv_iconst (v := 0) hx hb dX7_bestStone_28 (by decide) ?_
    refine lv_istore (lv' := [(5, .int (0 : Int32)), (4, .int r_4), (3, .int (-9 : Int32)), (2, .int r_1), (0, .ref (qS 0)), (1, .int x1)]) hx hb dX7_bestStone_29 hl (by decide) rfl (fun ls hl => ?_)
    obtain ⟨n0, h⟩ := h; exact kX7_bestStone_31 M n0 S_3 x1 (-9 : Int32) r_4 (0 : Int32) H locs ls hw (lv_sub hl [4, 5, 2, 1, 0] rfl) h
  · replace h := iF c_2 h
    refine lv_aload_n hx hb dX7_bestStone_12 rfl (lv_at hl 1 rfl) ?_
    refine lv_iload_n hx hb dX7_bestStone_13 rfl (lv_at hl 0 rfl) ?_
    refine fr_Vi (wN := fun u : RT => (sW z qS u)) M (m_X7_no l z qS S r_1 _ h) (cwV 1 hts (gdV cd_X7_no ml_X7_81 im_X7_no se_X7_no in_X7) rfl rfl rfl hdV_X7_no ⟨(Nat.le_of_ble_eq_true rfl), (Nat.le_of_ble_eq_true rfl)⟩) (Cut.self _) (Prm.self _ 17 (fun _ => rfl)) 0 rfl rfl rfl hw rfl hl.1 rfl (Nat.le_of_ble_eq_true rfl) dX7_bestStone_14 (fun r_6 u_ H locs h hw => ?_)
    obtain ⟨S_5, rfl⟩ : ∃ z9 : RT, z9 = u_ := ⟨_, rfl⟩
    have hw : Hw s z A (sW z qS S_5) H locs := hw
    try dsimp only at h
    exact rt_i M S_5 hw h dX7_bestStone_17
abbrev rmX7_aheadOf : Room := { frames := 3, cells := 0, slots := 0, locals := 68 }
set_option maxHeartbeats 4000000 in
set_option maxRecDepth 100000 in
theorem kX7_aheadOf_49 {p : Program} {l : Launch} {e : Env} {s : State} {m : MethodId} {args : Array Value} {below : List Frame} {meth : Method} {c : Code} {z : KT} {A : Nat → Prop} {qS : Nat → Nat} {K4 : Int32 → Int32 → Int32 → Prop} {S : RT} {Q : Int32 → Prop} (M : Mc p s m args meth c cX7_aheadOf 4 (some .int) RX7 z A) (hK4 : ∀ (x1 : Int32) (x2 : Int32) (x3 : Int32) (H : Heap) (locs : List Loc) (ls : Array Slot), Hw s z A (sW z qS S) H locs → lv_has ls 4 [(0, .ref (qS 0)), (1, .int x1), (2, .int x2), (3, .int x3)] → K4 x1 x2 x3 → W p l e rmX7_aheadOf s m args below meth c H locs 0 0 (MQ below (va_Qi (fun (r : Int32) (_ : Unit) => Q r) (fun u t => cAt z A ((fun _ : Unit => (sW z qS S)) u) t) A) args s 0 0 A) (F0 m 4 ls [])) : ∀ (x1 : Int32) (x3 : Int32) (t0 : Int32) (t1 : Int32) (H : Heap) (locs : List Loc) (ls : Array Slot), Hw s z A (sW z qS S) H locs → lv_has ls 4 [(0, .ref (qS 0)), (1, .int x1), (3, .int x3)] → bX7_aheadOf_49 K4 S Q x1 x3 t0 t1 → W p l e rmX7_aheadOf s m args below meth c H locs 0 0 (MQ below (va_Qi (fun (r : Int32) (_ : Unit) => Q r) (fun u t => cAt z A ((fun _ : Unit => (sW z qS S)) u) t) A) args s 0 0 A) (F0 m 49 ls [.int t1, .int t0]) := by
  obtain ⟨hx, hb, -, -, hown, hts, -, -, -, hN, hsr, -⟩ := id M
  intro x1 x3 t0 t1 H locs ls hw hl h
  unfold bX7_aheadOf_49 at h
  refine lv_iadd hx hb dX7_aheadOf_49 ?_
  refine lv_topi (fun x2_1 ex2_1 => ?_)
  replace h := h x2_1 ex2_1
  refine lv_istore_n (lv' := [(2, .int x2_1), (0, .ref (qS 0)), (1, .int x1), (3, .int x3)]) hx hb dX7_aheadOf_50 rfl hl (by decide) rfl (fun ls hl => ?_)
  obtain ⟨x3_2, ex3_2⟩ : ∃ y : Int32, y = (x3 + (1 : Int32)) := ⟨_, rfl⟩
  replace h := h x3_2 ex3_2
  refine lv_iinc (v := x3_2) (lv' := [(3, .int x3_2), (2, .int x2_1), (0, .ref (qS 0)), (1, .int x1)]) hx hb dX7_aheadOf_51 hl (k := 3) rfl (by rw [ex3_2]; rfl) (by decide) rfl (fun ls hl => ?_)
  refine lv_goto (tgt := 4) hx hb dX7_aheadOf_54 (by decide) ?_
  exact hK4 x1 x2_1 x3_2 H locs ls hw (lv_sub hl [2, 3, 1, 0] rfl) h
set_option maxHeartbeats 4000000 in
set_option maxRecDepth 100000 in
theorem kX7_aheadOf_44 {p : Program} {l : Launch} {e : Env} {s : State} {m : MethodId} {args : Array Value} {below : List Frame} {meth : Method} {c : Code} {z : KT} {A : Nat → Prop} {qS : Nat → Nat} {K4 : Int32 → Int32 → Int32 → Prop} {S : RT} {Q : Int32 → Prop} (M : Mc p s m args meth c cX7_aheadOf 4 (some .int) RX7 z A) (hK4 : ∀ (x1 : Int32) (x2 : Int32) (x3 : Int32) (H : Heap) (locs : List Loc) (ls : Array Slot), Hw s z A (sW z qS S) H locs → lv_has ls 4 [(0, .ref (qS 0)), (1, .int x1), (2, .int x2), (3, .int x3)] → K4 x1 x2 x3 → W p l e rmX7_aheadOf s m args below meth c H locs 0 0 (MQ below (va_Qi (fun (r : Int32) (_ : Unit) => Q r) (fun u t => cAt z A ((fun _ : Unit => (sW z qS S)) u) t) A) args s 0 0 A) (F0 m 4 ls [])) : ∀ (x1 : Int32) (x3 : Int32) (t0 : Int32) (H : Heap) (locs : List Loc) (ls : Array Slot), Hw s z A (sW z qS S) H locs → lv_has ls 4 [(0, .ref (qS 0)), (1, .int x1), (3, .int x3)] → bX7_aheadOf_44 K4 S Q x1 x3 t0 → W p l e rmX7_aheadOf s m args below meth c H locs 0 0 (MQ below (va_Qi (fun (r : Int32) (_ : Unit) => Q r) (fun u t => cAt z A ((fun _ : Unit => (sW z qS S)) u) t) A) args s 0 0 A) (F0 m 44 ls [.int t0]) := by
  obtain ⟨hx, hb, -, -, hown, hts, -, -, -, hN, hsr, -⟩ := id M
  intro x1 x3 t0 H locs ls hw hl h
  unfold bX7_aheadOf_44 at h
  refine lv_iconst (v := 1) hx hb dX7_aheadOf_44 (by decide) ?_
  refine lv_goto (tgt := 49) hx hb dX7_aheadOf_45 (by decide) ?_
  exact kX7_aheadOf_49 M hK4 x1 x3 t0 (1 : Int32) H locs ls hw (lv_sub hl [0, 1, 2] rfl) h
set_option maxHeartbeats 4000000 in
set_option maxRecDepth 100000 in
theorem kX7_aheadOf_48 {p : Program} {l : Launch} {e : Env} {s : State} {m : MethodId} {args : Array Value} {below : List Frame} {meth : Method} {c : Code} {z : KT} {A : Nat → Prop} {qS : Nat → Nat} {K4 : Int32 → Int32 → Int32 → Prop} {S : RT} {Q : Int32 → Prop} (M : Mc p s m args meth c cX7_aheadOf 4 (some .int) RX7 z A) (hK4 : ∀ (x1 : Int32) (x2 : Int32) (x3 : Int32) (H : Heap) (locs : List Loc) (ls : Array Slot), Hw s z A (sW z qS S) H locs → lv_has ls 4 [(0, .ref (qS 0)), (1, .int x1), (2, .int x2), (3, .int x3)] → K4 x1 x2 x3 → W p l e rmX7_aheadOf s m args below meth c H locs 0 0 (MQ below (va_Qi (fun (r : Int32) (_ : Unit) => Q r) (fun u t => cAt z A ((fun _ : Unit => (sW z qS S)) u) t) A) args s 0 0 A) (F0 m 4 ls [])) : ∀ (x1 : Int32) (x3 : Int32) (t0 : Int32) (H : Heap) (locs : List Loc) (ls : Array Slot), Hw s z A (sW z qS S) H locs → lv_has ls 4 [(0, .ref (qS 0)), (1, .int x1), (3, .int x3)] → bX7_aheadOf_48 K4 S Q x1 x3 t0 → W p l e rmX7_aheadOf s m args below meth c H locs 0 0 (MQ below (va_Qi (fun (r : Int32) (_ : Unit) => Q r) (fun u t => cAt z A ((fun _ : Unit => (sW z qS S)) u) t) A) args s 0 0 A) (F0 m 48 ls [.int t0]) := by
  obtain ⟨hx, hb, -, -, hown, hts, -, -, -, hN, hsr, -⟩ := id M
  intro x1 x3 t0 H locs ls hw hl h
  unfold bX7_aheadOf_48 at h
  refine lv_iconst (v := 0) hx hb dX7_aheadOf_48 (by decide) ?_
  exact kX7_aheadOf_49 M hK4 x1 x3 t0 (0 : Int32) H locs ls hw (lv_sub hl [0, 1, 2] rfl) h
set_option maxHeartbeats 4000000 in
set_option maxRecDepth 100000 in
theorem kX7_aheadOf_4 {p : Program} {l : Launch} {e : Env} {s : State} {m : MethodId} {args : Array Value} {below : List Frame} {meth : Method} {c : Code} {z : KT} {A : Nat → Prop} {qS : Nat → Nat} {S : RT} {Q : Int32 → Prop} (M : Mc p s m args meth c cX7_aheadOf 4 (some .int) RX7 z A) : ∀ (n : Nat) (x1 : Int32) (x2 : Int32) (x3 : Int32) (H : Heap) (locs : List Loc) (ls : Array Slot), Hw s z A (sW z qS S) H locs → lv_has ls 4 [(0, .ref (qS 0)), (1, .int x1), (2, .int x2), (3, .int x3)] → bX7_aheadOf_4 S Q n x1 x2 x3 → W p l e rmX7_aheadOf s m args below meth c H locs 0 0 (MQ below (va_Qi (fun (r : Int32) (_ : Unit) => Q r) (fun u t => cAt z A ((fun _ : Unit => (sW z qS S)) u) t) A) args s 0 0 A) (F0 m 4 ls []) := by
  obtain ⟨hx, hb, -, -, hown, hts, -, -, -, hN, hsr, -⟩ := id M
  intro n
  induction n with
  | zero => intro x1 x2 x3 H locs ls hw hl h; exact False.elim h
  | succ n ih =>
    intro x1 x2 x3 H locs ls hw hl h
    rw [bX7_aheadOf_4] at h
    refine lv_iload_n hx hb dX7_aheadOf_4 rfl (lv_at hl 3 rfl) ?_
    refine lv_aload_n hx hb dX7_aheadOf_5 rfl (lv_at hl 0 rfl) ?_
    refine gt_f (v := .int (S 30 8)) M inlX7 hw 0 rfl rfl 8 (by decide) fl_X7_62 rfl rfl dX7_aheadOf_6 ?_
    refine lv_icmp_ge (tgt := 57) hx hb dX7_aheadOf_9 (by decide) (fun c_1 => ?_) (fun c_1 => ?_)
    · replace h := iT c_1 h
      refine lv_iload_n hx hb dX7_aheadOf_57 rfl (lv_at hl 2 rfl) ?_
      exact rt_i M () hw h dX7_aheadOf_58
    · replace h := iF c_1 h
      refine lv_iload_n hx hb dX7_aheadOf_12 rfl (lv_at hl 2 rfl) ?_
      refine lv_aload_n hx hb dX7_aheadOf_13 rfl (lv_at hl 0 rfl) ?_
      refine lv_iload_n hx hb dX7_aheadOf_14 rfl (lv_at hl 3 rfl) ?_
      refine fr_Vi (wN := fun _ : Unit => (sW z qS S)) M (m_X7_heft l z qS S x3 _ h) (cwV 1 hts (gdV cd_X7_heft ml_X7_176 im_X7_heft se_X7_heft in_X7) rfl rfl rfl hdV_X7_heft ⟨(Nat.le_of_ble_eq_true rfl), (Nat.le_of_ble_eq_true rfl)⟩) (Cut.self _) (Prm.self _ 17 (fun _ => rfl)) 0 rfl rfl rfl hw rfl hl.1 rfl (Nat.le_of_ble_eq_true rfl) dX7_aheadOf_15 (fun r_2 u_ H locs h hw => ?_)
      have hw : Hw s z A (sW z qS S) H locs := hw
      try dsimp only at h
      refine lv_aload_n hx hb dX7_aheadOf_18 rfl (lv_at hl 0 rfl) ?_
      refine lv_iload_n hx hb dX7_aheadOf_19 rfl (lv_at hl 1 rfl) ?_
      refine fr_Vi (wN := fun _ : Unit => (sW z qS S)) M (m_X7_heft l z qS S x1 _ h) (cwV 1 hts (gdV cd_X7_heft ml_X7_176 im_X7_heft se_X7_heft in_X7) rfl rfl rfl hdV_X7_heft ⟨(Nat.le_of_ble_eq_true rfl), (Nat.le_of_ble_eq_true rfl)⟩) (Cut.self _) (Prm.self _ 17 (fun _ => rfl)) 0 rfl rfl rfl hw rfl hl.1 rfl (Nat.le_of_ble_eq_true rfl) dX7_aheadOf_20 (fun r_3 u_ H locs h hw => ?_)
      have hw : Hw s z A (sW z qS S) H locs := hw
      try dsimp only at h
      refine lv_icmp_gt (tgt := 44) hx hb dX7_aheadOf_23 (by decide) (fun c_4 => ?_) (fun c_4 => ?_)
      · replace h := iT c_4 h
        exact kX7_aheadOf_44 M ih x1 x3 x2 H locs ls hw (lv_sub hl [0, 1, 3] rfl) h
      · replace h := iF c_4 h
        refine lv_aload_n hx hb dX7_aheadOf_26 rfl (lv_at hl 0 rfl) ?_
        refine lv_iload_n hx hb dX7_aheadOf_27 rfl (lv_at hl 3 rfl) ?_
        refine fr_Vi (wN := fun _ : Unit => (sW z qS S)) M (m_X7_heft l z qS S x3 _ h) (cwV 1 hts (gdV cd_X7_heft ml_X7_176 im_X7_heft se_X7_heft in_X7) rfl rfl rfl hdV_X7_heft ⟨(Nat.le_of_ble_eq_true rfl), (Nat.le_of_ble_eq_true rfl)⟩) (Cut.self _) (Prm.self _ 17 (fun _ => rfl)) 0 rfl rfl rfl hw rfl hl.1 rfl (Nat.le_of_ble_eq_true rfl) dX7_aheadOf_28 (fun r_5 u_ H locs h hw => ?_)
        have hw : Hw s z A (sW z qS S) H locs := hw
        try dsimp only at h
        refine lv_aload_n hx hb dX7_aheadOf_31 rfl (lv_at hl 0 rfl) ?_
        refine lv_iload_n hx hb dX7_aheadOf_32 rfl (lv_at hl 1 rfl) ?_
        refine fr_Vi (wN := fun _ : Unit => (sW z qS S)) M (m_X7_heft l z qS S x1 _ h) (cwV 1 hts (gdV cd_X7_heft ml_X7_176 im_X7_heft se_X7_heft in_X7) rfl rfl rfl hdV_X7_heft ⟨(Nat.le_of_ble_eq_true rfl), (Nat.le_of_ble_eq_true rfl)⟩) (Cut.self _) (Prm.self _ 17 (fun _ => rfl)) 0 rfl rfl rfl hw rfl hl.1 rfl (Nat.le_of_ble_eq_true rfl) dX7_aheadOf_33 (fun r_6 u_ H locs h hw => ?_)
        have hw : Hw s z A (sW z qS S) H locs := hw
        try dsimp only at h
        refine lv_icmp_ne (tgt := 48) hx hb dX7_aheadOf_36 (by decide) (fun c_7 => ?_) (fun c_7 => ?_)
        · replace h := iF c_7 h
          exact kX7_aheadOf_48 M ih x1 x3 x2 H locs ls hw (lv_sub hl [0, 1, 3] rfl) h
        · replace h := iT c_7 h
          refine lv_iload_n hx hb dX7_aheadOf_39 rfl (lv_at hl 3 rfl) ?_
          refine lv_iload_n hx hb dX7_aheadOf_40 rfl (lv_at hl 1 rfl) ?_
          refine lv_icmp_ge (tgt := 48) hx hb dX7_aheadOf_41 (by decide) (fun c_8 => ?_) (fun c_8 => ?_)
          · replace h := iT c_8 h
            exact kX7_aheadOf_48 M ih x1 x3 x2 H locs ls hw (lv_sub hl [0, 1, 3] rfl) h
          · replace h := iF c_8 h
            exact kX7_aheadOf_44 M ih x1 x3 x2 H locs ls hw (lv_sub hl [0, 1, 3] rfl) h
set_option maxHeartbeats 4000000 in
set_option maxRecDepth 100000 in
theorem m_X7_aheadOf (l : Launch) (z : KT) (qS : Nat → Nat) (S : RT) (x1 : Int32) (Q : Int32 → Prop) (h : wX7_aheadOf S x1 Q) : CI l yX7_aheadOf cX7_aheadOf 4 .int rmX7_aheadOf z [.ref (qS 0), .int x1] (sW z qS S) (fun _ : Unit => (sW z qS S)) (fun (r : Int32) (_ : Unit) => Q r) := by
  refine CI.of rfl (Nat.le_of_ble_eq_true rfl) ?_
  intro p e s m below meth c A ls M hw hl
  have M : Mc p s m _ meth c cX7_aheadOf 4 (some .int) RX7 z A := M
  obtain ⟨hx, hb, -, -, hown, hts, -, -, -, hN, hsr, -⟩ := id M
  have hl : lv_has ls 4 [(0, .ref (qS 0)), (1, .int x1)] := hl
  unfold wX7_aheadOf at h
  generalize s.heap = H at hw ⊢
  generalize ([] : List Loc) = locs at hw ⊢
  refine lv_iconst (v := 0) hx hb dX7_aheadOf_0 (by decide) ?_
  refine lv_istore_n (lv' := [(2, .int (0 : Int32)), (0, .ref (qS 0)), (1, .int x1)]) hx hb dX7_aheadOf_1 rfl hl (by decide) rfl (fun ls hl => ?_)
  refine lv_iconst (v := 0) hx hb dX7_aheadOf_2 (by decide) ?_
  refine lv_istore_n (lv' := [(3, .int (0 : Int32)), (2, .int (0 : Int32)), (0, .ref (qS 0)), (1, .int x1)]) hx hb dX7_aheadOf_3 rfl hl (by decide) rfl (fun ls hl => ?_)
  obtain ⟨n0, h⟩ := h; exact kX7_aheadOf_4 M n0 x1 (0 : Int32) (0 : Int32) H locs ls hw (lv_sub hl [2, 3, 1, 0] rfl) h
abbrev rmX7_rows : Room := { frames := 4, cells := 0, slots := 0, locals := 91 }
set_option maxHeartbeats 4000000 in
set_option maxRecDepth 100000 in
theorem kX7_rows_13 {p : Program} {l : Launch} {e : Env} {s : State} {m : MethodId} {args : Array Value} {below : List Frame} {meth : Method} {c : Code} {z : KT} {A : Nat → Prop} {qS : Nat → Nat} {Q : Int32 → RT → Prop} (M : Mc p s m args meth c cX7_rows 3 (some .int) RX7 z A) : ∀ (n : Nat) (S : RT) (x1 : Int32) (x2 : Int32) (H : Heap) (locs : List Loc) (ls : Array Slot), Hw s z A (sW z qS S) H locs → lv_has ls 3 [(0, .ref (qS 0)), (1, .int x1), (2, .int x2)] → bX7_rows_13 Q n S x1 x2 → W p l e rmX7_rows s m args below meth c H locs 0 0 (MQ below (va_Qi (fun (r : Int32) (u : RT) => Q r u) (fun u t => cAt z A ((fun u : RT => (sW z qS u)) u) t) A) args s 0 0 A) (F0 m 13 ls []) := by
  obtain ⟨hx, hb, -, -, hown, hts, -, -, -, hN, hsr, -⟩ := id M
  intro n
  induction n with
  | zero => intro S x1 x2 H locs ls hw hl h; exact False.elim h
  | succ n ih =>
    intro S x1 x2 H locs ls hw hl h
    rw [bX7_rows_13] at h
    refine lv_iload_n hx hb dX7_rows_13 rfl (lv_at hl 2 rfl) ?_
    refine lv_aload_n hx hb dX7_rows_14 rfl (lv_at hl 0 rfl) ?_
    refine gt_f (v := .int (S 30 8)) M inlX7 hw 0 rfl rfl 8 (by decide) fl_X7_62 rfl rfl dX7_rows_15 ?_
    refine lv_icmp_ge (tgt := 38) hx hb dX7_rows_18 (by decide) (fun c_1 => ?_) (fun c_1 => ?_)
    · replace h := iT c_1 h
      refine lv_bipush (v := -9) hx hb dX7_rows_38 (by decide) ?_
      exact rt_i M S hw h dX7_rows_40
    · replace h := iF c_1 h
      refine lv_aload_n hx hb dX7_rows_21 rfl (lv_at hl 0 rfl) ?_
      refine lv_iload_n hx hb dX7_rows_22 rfl (lv_at hl 2 rfl) ?_
      refine fr_Vi (wN := fun _ : Unit => (sW z qS S)) M (m_X7_aheadOf l z qS S x2 _ h) (cwV 1 hts (gdV cd_X7_aheadOf ml_X7_240 im_X7_aheadOf se_X7_aheadOf in_X7) rfl rfl rfl hdV_X7_aheadOf ⟨(Nat.le_of_ble_eq_true rfl), (Nat.le_of_ble_eq_true rfl)⟩) (Cut.self _) (Prm.self _ 17 (fun _ => rfl)) 0 rfl rfl rfl hw rfl hl.1 rfl (Nat.le_of_ble_eq_true rfl) dX7_rows_23 (fun r_2 u_ H locs h hw => ?_)
      have hw : Hw s z A (sW z qS S) H locs := hw
      try dsimp only at h
      refine lv_iload_n hx hb dX7_rows_26 rfl (lv_at hl 1 rfl) ?_
      refine lv_icmp_ne (tgt := 32) hx hb dX7_rows_27 (by decide) (fun c_3 => ?_) (fun c_3 => ?_)
      · replace h := iF c_3 h
        obtain ⟨x2_4, ex2_4⟩ : ∃ y : Int32, y = (x2 + (1 : Int32)) := ⟨_, rfl⟩
        replace h := h x2_4 ex2_4
        refine lv_iinc (v := x2_4) (lv' := [(2, .int x2_4), (0, .ref (qS 0)), (1, .int x1)]) hx hb dX7_rows_32 hl (k := 2) rfl (by rw [ex2_4]; rfl) (by decide) rfl (fun ls hl => ?_)
        refine lv_goto (tgt := 13) hx hb dX7_rows_35 (by decide) ?_
        exact ih S x1 x2_4 H locs ls hw (lv_sub hl [1, 2, 0] rfl) h
      · replace h := iT c_3 h
        refine lv_iload_n hx hb dX7_rows_30 rfl (lv_at hl 2 rfl) ?_
        exact rt_i M S hw h dX7_rows_31
set_option maxHeartbeats 4000000 in
set_option maxRecDepth 100000 in
theorem m_X7_rows (l : Launch) (z : KT) (qS : Nat → Nat) (S : RT) (x1 : Int32) (Q : Int32 → RT → Prop) (h : wX7_rows S x1 Q) : CI l yX7_rows cX7_rows 3 .int rmX7_rows z [.ref (qS 0), .int x1] (sW z qS S) (fun u : RT => (sW z qS u)) (fun (r : Int32) (u : RT) => Q r u) := by
  refine CI.of rfl (Nat.le_of_ble_eq_true rfl) ?_
  intro p e s m below meth c A ls M hw hl
  have M : Mc p s m _ meth c cX7_rows 3 (some .int) RX7 z A := M
  obtain ⟨hx, hb, -, -, hown, hts, -, -, -, hN, hsr, -⟩ := id M
  have hl : lv_has ls 3 [(0, .ref (qS 0)), (1, .int x1)] := hl
  unfold wX7_rows at h
  generalize s.heap = H at hw ⊢
  generalize ([] : List Loc) = locs at hw ⊢
  refine lv_iload_n hx hb dX7_rows_0 rfl (lv_at hl 1 rfl) ?_
  refine lv_if_ge (tgt := 11) hx hb dX7_rows_1 (by decide) (fun c_1 => ?_) (fun c_1 => ?_)
  · replace h := iT c_1 h
    refine lv_iconst (v := 0) hx hb dX7_rows_11 (by decide) ?_
    refine lv_istore_n (lv' := [(2, .int (0 : Int32)), (0, .ref (qS 0)), (1, .int x1)]) hx hb dX7_rows_12 rfl hl (by decide) rfl (fun ls hl => ?_)
    obtain ⟨n0, h⟩ := h; exact kX7_rows_13 M n0 S x1 (0 : Int32) H locs ls hw (lv_sub hl [1, 2, 0] rfl) h
  · replace h := iF c_1 h
    refine lv_aload_n hx hb dX7_rows_4 rfl (lv_at hl 0 rfl) ?_
    refine lv_bipush (v := -4) hx hb dX7_rows_5 (by decide) ?_
    refine fr_Vi (wN := fun u : RT => (sW z qS u)) M (m_X7_no l z qS S (-4 : Int32) _ h) (cwV 1 hts (gdV cd_X7_no ml_X7_81 im_X7_no se_X7_no in_X7) rfl rfl rfl hdV_X7_no ⟨(Nat.le_of_ble_eq_true rfl), (Nat.le_of_ble_eq_true rfl)⟩) (Cut.self _) (Prm.self _ 17 (fun _ => rfl)) 0 rfl rfl rfl hw rfl hl.1 rfl (Nat.le_of_ble_eq_true rfl) dX7_rows_7 (fun r_3 u_ H locs h hw => ?_)
    obtain ⟨S_2, rfl⟩ : ∃ z9 : RT, z9 = u_ := ⟨_, rfl⟩
    have hw : Hw s z A (sW z qS S_2) H locs := hw
    try dsimp only at h
    exact rt_i M S_2 hw h dX7_rows_10
abbrev rmX7_between : Room := { frames := 3, cells := 0, slots := 0, locals := 68 }
set_option maxHeartbeats 4000000 in
set_option maxRecDepth 100000 in
theorem kX7_between_92 {p : Program} {l : Launch} {e : Env} {s : State} {m : MethodId} {args : Array Value} {below : List Frame} {meth : Method} {c : Code} {z : KT} {A : Nat → Prop} {qS : Nat → Nat} {K34 : RT → Int32 → Int32 → Int32 → Int32 → Prop} {Q : Int32 → RT → Prop} (M : Mc p s m args meth c cX7_between 7 (some .int) RX7 z A) (hK34 : ∀ (S : RT) (x3 : Int32) (x4 : Int32) (x5 : Int32) (x6 : Int32) (H : Heap) (locs : List Loc) (ls : Array Slot), Hw s z A (sW z qS S) H locs → lv_has ls 7 [(0, .ref (qS 0)), (3, .int x3), (4, .int x4), (5, .int x5), (6, .int x6)] → K34 S x3 x4 x5 x6 → W p l e rmX7_between s m args below meth c H locs 0 0 (MQ below (va_Qi (fun (r : Int32) (u : RT) => Q r u) (fun u t => cAt z A ((fun u : RT => (sW z qS u)) u) t) A) args s 0 0 A) (F0 m 34 ls [])) : ∀ (S : RT) (x3 : Int32) (x4 : Int32) (x6 : Int32) (t0 : Int32) (t1 : Int32) (H : Heap) (locs : List Loc) (ls : Array Slot), Hw s z A (sW z qS S) H locs → lv_has ls 7 [(0, .ref (qS 0)), (3, .int x3), (4, .int x4), (6, .int x6)] → bX7_between_92 K34 Q S x3 x4 x6 t0 t1 → W p l e rmX7_between s m args below meth c H locs 0 0 (MQ below (va_Qi (fun (r : Int32) (u : RT) => Q r u) (fun u t => cAt z A ((fun u : RT => (sW z qS u)) u) t) A) args s 0 0 A) (F0 m 92 ls [.int t1, .int t0]) := by
  obtain ⟨hx, hb, -, -, hown, hts, -, -, -, hN, hsr, -⟩ := id M
  intro S x3 x4 x6 t0 t1 H locs ls hw hl h
  unfold bX7_between_92 at h
  refine lv_iadd hx hb dX7_between_92 ?_
  refine lv_topi (fun x5_1 ex5_1 => ?_)
  replace h := h x5_1 ex5_1
  refine lv_istore (lv' := [(5, .int x5_1), (0, .ref (qS 0)), (3, .int x3), (4, .int x4), (6, .int x6)]) hx hb dX7_between_93 hl (by decide) rfl (fun ls hl => ?_)
  obtain ⟨x6_2, ex6_2⟩ : ∃ y : Int32, y = (x6 + (1 : Int32)) := ⟨_, rfl⟩
  replace h := h x6_2 ex6_2
  refine lv_iinc (v := x6_2) (lv' := [(6, .int x6_2), (5, .int x5_1), (0, .ref (qS 0)), (3, .int x3), (4, .int x4)]) hx hb dX7_between_95 hl (k := 4) rfl (by rw [ex6_2]; rfl) (by decide) rfl (fun ls hl => ?_)
  refine lv_goto (tgt := 34) hx hb dX7_between_98 (by decide) ?_
  exact hK34 S x3 x4 x5_1 x6_2 H locs ls hw (lv_sub hl [2, 3, 4, 1, 0] rfl) h
set_option maxHeartbeats 4000000 in
set_option maxRecDepth 100000 in
theorem kX7_between_87 {p : Program} {l : Launch} {e : Env} {s : State} {m : MethodId} {args : Array Value} {below : List Frame} {meth : Method} {c : Code} {z : KT} {A : Nat → Prop} {qS : Nat → Nat} {K34 : RT → Int32 → Int32 → Int32 → Int32 → Prop} {Q : Int32 → RT → Prop} (M : Mc p s m args meth c cX7_between 7 (some .int) RX7 z A) (hK34 : ∀ (S : RT) (x3 : Int32) (x4 : Int32) (x5 : Int32) (x6 : Int32) (H : Heap) (locs : List Loc) (ls : Array Slot), Hw s z A (sW z qS S) H locs → lv_has ls 7 [(0, .ref (qS 0)), (3, .int x3), (4, .int x4), (5, .int x5), (6, .int x6)] → K34 S x3 x4 x5 x6 → W p l e rmX7_between s m args below meth c H locs 0 0 (MQ below (va_Qi (fun (r : Int32) (u : RT) => Q r u) (fun u t => cAt z A ((fun u : RT => (sW z qS u)) u) t) A) args s 0 0 A) (F0 m 34 ls [])) : ∀ (S : RT) (x3 : Int32) (x4 : Int32) (x6 : Int32) (t0 : Int32) (H : Heap) (locs : List Loc) (ls : Array Slot), Hw s z A (sW z qS S) H locs → lv_has ls 7 [(0, .ref (qS 0)), (3, .int x3), (4, .int x4), (6, .int x6)] → bX7_between_87 K34 Q S x3 x4 x6 t0 → W p l e rmX7_between s m args below meth c H locs 0 0 (MQ below (va_Qi (fun (r : Int32) (u : RT) => Q r u) (fun u t => cAt z A ((fun u : RT => (sW z qS u)) u) t) A) args s 0 0 A) (F0 m 87 ls [.int t0]) := by
  obtain ⟨hx, hb, -, -, hown, hts, -, -, -, hN, hsr, -⟩ := id M
  intro S x3 x4 x6 t0 H locs ls hw hl h
  unfold bX7_between_87 at h
  refine lv_iconst (v := 1) hx hb dX7_between_87 (by decide) ?_
  refine lv_goto (tgt := 92) hx hb dX7_between_88 (by decide) ?_
  exact kX7_between_92 M hK34 S x3 x4 x6 t0 (1 : Int32) H locs ls hw (lv_sub hl [0, 1, 2, 3] rfl) h
set_option maxHeartbeats 4000000 in
set_option maxRecDepth 100000 in
theorem kX7_between_91 {p : Program} {l : Launch} {e : Env} {s : State} {m : MethodId} {args : Array Value} {below : List Frame} {meth : Method} {c : Code} {z : KT} {A : Nat → Prop} {qS : Nat → Nat} {K34 : RT → Int32 → Int32 → Int32 → Int32 → Prop} {Q : Int32 → RT → Prop} (M : Mc p s m args meth c cX7_between 7 (some .int) RX7 z A) (hK34 : ∀ (S : RT) (x3 : Int32) (x4 : Int32) (x5 : Int32) (x6 : Int32) (H : Heap) (locs : List Loc) (ls : Array Slot), Hw s z A (sW z qS S) H locs → lv_has ls 7 [(0, .ref (qS 0)), (3, .int x3), (4, .int x4), (5, .int x5), (6, .int x6)] → K34 S x3 x4 x5 x6 → W p l e rmX7_between s m args below meth c H locs 0 0 (MQ below (va_Qi (fun (r : Int32) (u : RT) => Q r u) (fun u t => cAt z A ((fun u : RT => (sW z qS u)) u) t) A) args s 0 0 A) (F0 m 34 ls [])) : ∀ (S : RT) (x3 : Int32) (x4 : Int32) (x6 : Int32) (t0 : Int32) (H : Heap) (locs : List Loc) (ls : Array Slot), Hw s z A (sW z qS S) H locs → lv_has ls 7 [(0, .ref (qS 0)), (3, .int x3), (4, .int x4), (6, .int x6)] → bX7_between_91 K34 Q S x3 x4 x6 t0 → W p l e rmX7_between s m args below meth c H locs 0 0 (MQ below (va_Qi (fun (r : Int32) (u : RT) => Q r u) (fun u t => cAt z A ((fun u : RT => (sW z qS u)) u) t) A) args s 0 0 A) (F0 m 91 ls [.int t0]) := by
  obtain ⟨hx, hb, -, -, hown, hts, -, -, -, hN, hsr, -⟩ := id M
  intro S x3 x4 x6 t0 H locs ls hw hl h
  unfold bX7_between_91 at h
  refine lv_iconst (v := 0) hx hb dX7_between_91 (by decide) ?_
  exact kX7_between_92 M hK34 S x3 x4 x6 t0 (0 : Int32) H locs ls hw (lv_sub hl [0, 1, 2, 3] rfl) h
set_option maxHeartbeats 4000000 in
set_option maxRecDepth 100000 in
theorem kX7_between_66 {p : Program} {l : Launch} {e : Env} {s : State} {m : MethodId} {args : Array Value} {below : List Frame} {meth : Method} {c : Code} {z : KT} {A : Nat → Prop} {qS : Nat → Nat} {K34 : RT → Int32 → Int32 → Int32 → Int32 → Prop} {Q : Int32 → RT → Prop} (M : Mc p s m args meth c cX7_between 7 (some .int) RX7 z A) (hK34 : ∀ (S : RT) (x3 : Int32) (x4 : Int32) (x5 : Int32) (x6 : Int32) (H : Heap) (locs : List Loc) (ls : Array Slot), Hw s z A (sW z qS S) H locs → lv_has ls 7 [(0, .ref (qS 0)), (3, .int x3), (4, .int x4), (5, .int x5), (6, .int x6)] → K34 S x3 x4 x5 x6 → W p l e rmX7_between s m args below meth c H locs 0 0 (MQ below (va_Qi (fun (r : Int32) (u : RT) => Q r u) (fun u t => cAt z A ((fun u : RT => (sW z qS u)) u) t) A) args s 0 0 A) (F0 m 34 ls [])) : ∀ (S : RT) (x3 : Int32) (x4 : Int32) (x6 : Int32) (t0 : Int32) (H : Heap) (locs : List Loc) (ls : Array Slot), Hw s z A (sW z qS S) H locs → lv_has ls 7 [(0, .ref (qS 0)), (3, .int x3), (4, .int x4), (6, .int x6)] → bX7_between_66 K34 Q S x3 x4 x6 t0 → W p l e rmX7_between s m args below meth c H locs 0 0 (MQ below (va_Qi (fun (r : Int32) (u : RT) => Q r u) (fun u t => cAt z A ((fun u : RT => (sW z qS u)) u) t) A) args s 0 0 A) (F0 m 66 ls [.int t0]) := by
  obtain ⟨hx, hb, -, -, hown, hts, -, -, -, hN, hsr, -⟩ := id M
  intro S x3 x4 x6 t0 H locs ls hw hl h
  unfold bX7_between_66 at h
  refine lv_aload_n hx hb dX7_between_66 rfl (lv_at hl 0 rfl) ?_
  refine lv_iload hx hb dX7_between_67 (lv_at hl 3 rfl) ?_
  refine fr_Vi (wN := fun _ : Unit => (sW z qS S)) M (m_X7_heft l z qS S x6 _ h) (cwV 1 hts (gdV cd_X7_heft ml_X7_176 im_X7_heft se_X7_heft in_X7) rfl rfl rfl hdV_X7_heft ⟨(Nat.le_of_ble_eq_true rfl), (Nat.le_of_ble_eq_true rfl)⟩) (Cut.self _) (Prm.self _ 17 (fun _ => rfl)) 0 rfl rfl rfl hw rfl hl.1 rfl (Nat.le_of_ble_eq_true rfl) dX7_between_69 (fun r_1 u_ H locs h hw => ?_)
  have hw : Hw s z A (sW z qS S) H locs := hw
  try dsimp only at h
  refine lv_iload hx hb dX7_between_72 (lv_at hl 2 rfl) ?_
  refine lv_icmp_le (tgt := 91) hx hb dX7_between_74 (by decide) (fun c_2 => ?_) (fun c_2 => ?_)
  · replace h := iT c_2 h
    exact kX7_between_91 M hK34 S x3 x4 x6 t0 H locs ls hw (lv_sub hl [0, 1, 2, 3] rfl) h
  · replace h := iF c_2 h
    refine lv_aload_n hx hb dX7_between_77 rfl (lv_at hl 0 rfl) ?_
    refine lv_iload hx hb dX7_between_78 (lv_at hl 3 rfl) ?_
    refine fr_Vi (wN := fun _ : Unit => (sW z qS S)) M (m_X7_heft l z qS S x6 _ h) (cwV 1 hts (gdV cd_X7_heft ml_X7_176 im_X7_heft se_X7_heft in_X7) rfl rfl rfl hdV_X7_heft ⟨(Nat.le_of_ble_eq_true rfl), (Nat.le_of_ble_eq_true rfl)⟩) (Cut.self _) (Prm.self _ 17 (fun _ => rfl)) 0 rfl rfl rfl hw rfl hl.1 rfl (Nat.le_of_ble_eq_true rfl) dX7_between_80 (fun r_3 u_ H locs h hw => ?_)
    have hw : Hw s z A (sW z qS S) H locs := hw
    try dsimp only at h
    refine lv_iload_n hx hb dX7_between_83 rfl (lv_at hl 1 rfl) ?_
    refine lv_icmp_ge (tgt := 91) hx hb dX7_between_84 (by decide) (fun c_4 => ?_) (fun c_4 => ?_)
    · replace h := iT c_4 h
      exact kX7_between_91 M hK34 S x3 x4 x6 t0 H locs ls hw (lv_sub hl [0, 1, 2, 3] rfl) h
    · replace h := iF c_4 h
      exact kX7_between_87 M hK34 S x3 x4 x6 t0 H locs ls hw (lv_sub hl [0, 1, 2, 3] rfl) h
set_option maxHeartbeats 4000000 in
set_option maxRecDepth 100000 in
theorem kX7_between_34 {p : Program} {l : Launch} {e : Env} {s : State} {m : MethodId} {args : Array Value} {below : List Frame} {meth : Method} {c : Code} {z : KT} {A : Nat → Prop} {qS : Nat → Nat} {Q : Int32 → RT → Prop} (M : Mc p s m args meth c cX7_between 7 (some .int) RX7 z A) : ∀ (n : Nat) (S : RT) (x3 : Int32) (x4 : Int32) (x5 : Int32) (x6 : Int32) (H : Heap) (locs : List Loc) (ls : Array Slot), Hw s z A (sW z qS S) H locs → lv_has ls 7 [(0, .ref (qS 0)), (3, .int x3), (4, .int x4), (5, .int x5), (6, .int x6)] → bX7_between_34 Q n S x3 x4 x5 x6 → W p l e rmX7_between s m args below meth c H locs 0 0 (MQ below (va_Qi (fun (r : Int32) (u : RT) => Q r u) (fun u t => cAt z A ((fun u : RT => (sW z qS u)) u) t) A) args s 0 0 A) (F0 m 34 ls []) := by
  obtain ⟨hx, hb, -, -, hown, hts, -, -, -, hN, hsr, -⟩ := id M
  intro n
  induction n with
  | zero => intro S x3 x4 x5 x6 H locs ls hw hl h; exact False.elim h
  | succ n ih =>
    intro S x3 x4 x5 x6 H locs ls hw hl h
    rw [bX7_between_34] at h
    refine lv_iload hx hb dX7_between_34 (lv_at hl 4 rfl) ?_
    refine lv_aload_n hx hb dX7_between_36 rfl (lv_at hl 0 rfl) ?_
    refine gt_f (v := .int (S 30 8)) M inlX7 hw 0 rfl rfl 8 (by decide) fl_X7_62 rfl rfl dX7_between_37 ?_
    refine lv_icmp_ge (tgt := 101) hx hb dX7_between_40 (by decide) (fun c_1 => ?_) (fun c_1 => ?_)
    · replace h := iT c_1 h
      refine lv_iload hx hb dX7_between_101 (lv_at hl 3 rfl) ?_
      exact rt_i M S hw h dX7_between_103
    · replace h := iF c_1 h
      refine lv_iload hx hb dX7_between_43 (lv_at hl 3 rfl) ?_
      refine lv_aload_n hx hb dX7_between_45 rfl (lv_at hl 0 rfl) ?_
      refine lv_iload hx hb dX7_between_46 (lv_at hl 4 rfl) ?_
      refine fr_Vi (wN := fun _ : Unit => (sW z qS S)) M (m_X7_heft l z qS S x6 _ h) (cwV 1 hts (gdV cd_X7_heft ml_X7_176 im_X7_heft se_X7_heft in_X7) rfl rfl rfl hdV_X7_heft ⟨(Nat.le_of_ble_eq_true rfl), (Nat.le_of_ble_eq_true rfl)⟩) (Cut.self _) (Prm.self _ 17 (fun _ => rfl)) 0 rfl rfl rfl hw rfl hl.1 rfl (Nat.le_of_ble_eq_true rfl) dX7_between_48 (fun r_2 u_ H locs h hw => ?_)
      have hw : Hw s z A (sW z qS S) H locs := hw
      try dsimp only at h
      refine lv_iload_n hx hb dX7_between_51 rfl (lv_at hl 1 rfl) ?_
      refine lv_icmp_le (tgt := 66) hx hb dX7_between_52 (by decide) (fun c_3 => ?_) (fun c_3 => ?_)
      · replace h := iT c_3 h
        exact kX7_between_66 M ih S x3 x4 x6 x5 H locs ls hw (lv_sub hl [0, 1, 2, 4] rfl) h
      · replace h := iF c_3 h
        refine lv_aload_n hx hb dX7_between_55 rfl (lv_at hl 0 rfl) ?_
        refine lv_iload hx hb dX7_between_56 (lv_at hl 4 rfl) ?_
        refine fr_Vi (wN := fun _ : Unit => (sW z qS S)) M (m_X7_heft l z qS S x6 _ h) (cwV 1 hts (gdV cd_X7_heft ml_X7_176 im_X7_heft se_X7_heft in_X7) rfl rfl rfl hdV_X7_heft ⟨(Nat.le_of_ble_eq_true rfl), (Nat.le_of_ble_eq_true rfl)⟩) (Cut.self _) (Prm.self _ 17 (fun _ => rfl)) 0 rfl rfl rfl hw rfl hl.1 rfl (Nat.le_of_ble_eq_true rfl) dX7_between_58 (fun r_4 u_ H locs h hw => ?_)
        have hw : Hw s z A (sW z qS S) H locs := hw
        try dsimp only at h
        refine lv_iload hx hb dX7_between_61 (lv_at hl 2 rfl) ?_
        refine lv_icmp_lt (tgt := 87) hx hb dX7_between_63 (by decide) (fun c_5 => ?_) (fun c_5 => ?_)
        · replace h := iT c_5 h
          exact kX7_between_87 M ih S x3 x4 x6 x5 H locs ls hw (lv_sub hl [0, 1, 2, 4] rfl) h
        · replace h := iF c_5 h
          exact kX7_between_66 M ih S x3 x4 x6 x5 H locs ls hw (lv_sub hl [0, 1, 2, 4] rfl) h
set_option maxHeartbeats 4000000 in
set_option maxRecDepth 100000 in
theorem m_X7_between (l : Launch) (z : KT) (qS : Nat → Nat) (S : RT) (x1 : Int32) (x2 : Int32) (Q : Int32 → RT → Prop) (h : wX7_between S x1 x2 Q) : CI l yX7_between cX7_between 7 .int rmX7_between z [.ref (qS 0), .int x1, .int x2] (sW z qS S) (fun u : RT => (sW z qS u)) (fun (r : Int32) (u : RT) => Q r u) := by
  refine CI.of rfl (Nat.le_of_ble_eq_true rfl) ?_
  intro p e s m below meth c A ls M hw hl
  have M : Mc p s m _ meth c cX7_between 7 (some .int) RX7 z A := M
  obtain ⟨hx, hb, -, -, hown, hts, -, -, -, hN, hsr, -⟩ := id M
  have hl : lv_has ls 7 [(0, .ref (qS 0)), (1, .int x1), (2, .int x2)] := hl
  unfold wX7_between at h
  generalize s.heap = H at hw ⊢
  generalize ([] : List Loc) = locs at hw ⊢
  refine lv_aload_n hx hb dX7_between_0 rfl (lv_at hl 0 rfl) ?_
  refine lv_iload_n hx hb dX7_between_1 rfl (lv_at hl 1 rfl) ?_
  refine lv_iload_n hx hb dX7_between_2 rfl (lv_at hl 2 rfl) ?_
  refine fr_Vi (wN := fun _ : Unit => (sW z qS S)) M (m_X7_areTwo l z qS S x1 x2 _ h) (cwV 2 hts (gdV cd_X7_areTwo ml_X7_112 im_X7_areTwo se_X7_areTwo in_X7) rfl rfl rfl hdV_X7_areTwo ⟨(Nat.le_of_ble_eq_true rfl), (Nat.le_of_ble_eq_true rfl)⟩) (Cut.self _) (Prm.self _ 17 (fun _ => rfl)) 0 rfl rfl rfl hw rfl hl.1 rfl (Nat.le_of_ble_eq_true rfl) dX7_between_3 (fun r_1 u_ H locs h hw => ?_)
  have hw : Hw s z A (sW z qS S) H locs := hw
  try dsimp only at h
  refine lv_if_ne (tgt := 15) hx hb dX7_between_6 (by decide) (fun c_2 => ?_) (fun c_2 => ?_)
  · replace h := iF c_2 h
    refine lv_aload_n hx hb dX7_between_15 rfl (lv_at hl 0 rfl) ?_
    refine lv_iload_n hx hb dX7_between_16 rfl (lv_at hl 1 rfl) ?_
    refine fr_Vi (wN := fun _ : Unit => (sW z qS S)) M (m_X7_heft l z qS S x1 _ h) (cwV 1 hts (gdV cd_X7_heft ml_X7_176 im_X7_heft se_X7_heft in_X7) rfl rfl rfl hdV_X7_heft ⟨(Nat.le_of_ble_eq_true rfl), (Nat.le_of_ble_eq_true rfl)⟩) (Cut.self _) (Prm.self _ 17 (fun _ => rfl)) 0 rfl rfl rfl hw rfl hl.1 rfl (Nat.le_of_ble_eq_true rfl) dX7_between_17 (fun r_3 u_ H locs h hw => ?_)
    have hw : Hw s z A (sW z qS S) H locs := hw
    try dsimp only at h
    refine lv_istore_n (lv' := [(3, .int r_3), (0, .ref (qS 0)), (1, .int x1), (2, .int x2)]) hx hb dX7_between_20 rfl hl (by decide) rfl (fun ls hl => ?_)
    refine lv_aload_n hx hb dX7_between_21 rfl (lv_at hl 1 rfl) ?_
    refine lv_iload_n hx hb dX7_between_22 rfl (lv_at hl 3 rfl) ?_
    refine fr_Vi (wN := fun _ : Unit => (sW z qS S)) M (m_X7_heft l z qS S x2 _ h) (cwV 1 hts (gdV cd_X7_heft ml_X7_176 im_X7_heft se_X7_heft in_X7) rfl rfl rfl hdV_X7_heft ⟨(Nat.le_of_ble_eq_true rfl), (Nat.le_of_ble_eq_true rfl)⟩) (Cut.self _) (Prm.self _ 17 (fun _ => rfl)) 0 rfl rfl rfl hw rfl hl.1 rfl (Nat.le_of_ble_eq_true rfl) dX7_between_23 (fun r_4 u_ H locs h hw => ?_)
    have hw : Hw s z A (sW z qS S) H locs := hw
    try dsimp only at h
    refine lv_istore (lv' := [(4, .int r_4), (3, .int r_3), (0, .ref (qS 0)), (1, .int x1), (2, .int x2)]) hx hb dX7_between_26 hl (by decide) rfl (fun ls hl => ?_)
    refine lv_iconst (v := 0) hx hb dX7_between_28 (by decide) ?_
    refine lv_istore (lv' := [(5, .int (0 : Int32)), (4, .int r_4), (3, .int r_3), (0, .ref (qS 0)), (1, .int x1), (2, .int x2)]) hx hb dX7_between_29 hl (by decide) rfl (fun ls hl => ?_)
    refine lv_iconst (v := 0) hx hb dX7_between_31 (by decide) ?_
    refine lv_istore (lv' := [(6, .int (0 : Int32)), (5, .int (0 : Int32)), (4, .int r_4), (3, .int r_3), (0, .ref (qS 0)), (1, .int x1), (2, .int x2)]) hx hb dX7_between_32 hl (by decide) rfl (fun ls hl => ?_)
    obtain ⟨n0, h⟩ := h; exact kX7_between_34 M n0 S r_3 r_4 (0 : Int32) (0 : Int32) H locs ls hw (lv_sub hl [4, 3, 2, 1, 0] rfl) h
  · replace h := iT c_2 h
    refine lv_aload_n hx hb dX7_between_9 rfl (lv_at hl 0 rfl) ?_
    refine lv_iconst (v := -1) hx hb dX7_between_10 (by decide) ?_
    refine fr_Vi (wN := fun u : RT => (sW z qS u)) M (m_X7_no l z qS S (-1 : Int32) _ h) (cwV 1 hts (gdV cd_X7_no ml_X7_81 im_X7_no se_X7_no in_X7) rfl rfl rfl hdV_X7_no ⟨(Nat.le_of_ble_eq_true rfl), (Nat.le_of_ble_eq_true rfl)⟩) (Cut.self _) (Prm.self _ 17 (fun _ => rfl)) 0 rfl rfl rfl hw rfl hl.1 rfl (Nat.le_of_ble_eq_true rfl) dX7_between_11 (fun r_6 u_ H locs h hw => ?_)
    obtain ⟨S_5, rfl⟩ : ∃ z9 : RT, z9 = u_ := ⟨_, rfl⟩
    have hw : Hw s z A (sW z qS S_5) H locs := hw
    try dsimp only at h
    exact rt_i M S_5 hw h dX7_between_14
abbrev rmX7_heftsOf : Room := { frames := 3, cells := 0, slots := 0, locals := 68 }
set_option maxHeartbeats 4000000 in
set_option maxRecDepth 100000 in
theorem kX7_heftsOf_30 {p : Program} {l : Launch} {e : Env} {s : State} {m : MethodId} {args : Array Value} {below : List Frame} {meth : Method} {c : Code} {z : KT} {A : Nat → Prop} {qS : Nat → Nat} {K4 : Int32 → Int32 → Int32 → Prop} {S : RT} {Q : Int32 → Prop} (M : Mc p s m args meth c cX7_heftsOf 4 (some .int) RX7 z A) (hK4 : ∀ (x1 : Int32) (x2 : Int32) (x3 : Int32) (H : Heap) (locs : List Loc) (ls : Array Slot), Hw s z A (sW z qS S) H locs → lv_has ls 4 [(0, .ref (qS 0)), (1, .int x1), (2, .int x2), (3, .int x3)] → K4 x1 x2 x3 → W p l e rmX7_heftsOf s m args below meth c H locs 0 0 (MQ below (va_Qi (fun (r : Int32) (_ : Unit) => Q r) (fun u t => cAt z A ((fun _ : Unit => (sW z qS S)) u) t) A) args s 0 0 A) (F0 m 4 ls [])) : ∀ (x1 : Int32) (x3 : Int32) (t0 : Int32) (t1 : Int32) (H : Heap) (locs : List Loc) (ls : Array Slot), Hw s z A (sW z qS S) H locs → lv_has ls 4 [(0, .ref (qS 0)), (1, .int x1), (3, .int x3)] → bX7_heftsOf_30 K4 S Q x1 x3 t0 t1 → W p l e rmX7_heftsOf s m args below meth c H locs 0 0 (MQ below (va_Qi (fun (r : Int32) (_ : Unit) => Q r) (fun u t => cAt z A ((fun _ : Unit => (sW z qS S)) u) t) A) args s 0 0 A) (F0 m 30 ls [.int t1, .int t0]) := by
  obtain ⟨hx, hb, -, -, hown, hts, -, -, -, hN, hsr, -⟩ := id M
  intro x1 x3 t0 t1 H locs ls hw hl h
  unfold bX7_heftsOf_30 at h
  refine lv_iadd hx hb dX7_heftsOf_30 ?_
  refine lv_topi (fun x2_1 ex2_1 => ?_)
  replace h := h x2_1 ex2_1
  refine lv_istore_n (lv' := [(2, .int x2_1), (0, .ref (qS 0)), (1, .int x1), (3, .int x3)]) hx hb dX7_heftsOf_31 rfl hl (by decide) rfl (fun ls hl => ?_)
  obtain ⟨x3_2, ex3_2⟩ : ∃ y : Int32, y = (x3 + (1 : Int32)) := ⟨_, rfl⟩
  replace h := h x3_2 ex3_2
  refine lv_iinc (v := x3_2) (lv' := [(3, .int x3_2), (2, .int x2_1), (0, .ref (qS 0)), (1, .int x1)]) hx hb dX7_heftsOf_32 hl (k := 3) rfl (by rw [ex3_2]; rfl) (by decide) rfl (fun ls hl => ?_)
  refine lv_goto (tgt := 4) hx hb dX7_heftsOf_35 (by decide) ?_
  exact hK4 x1 x2_1 x3_2 H locs ls hw (lv_sub hl [2, 3, 1, 0] rfl) h
set_option maxHeartbeats 4000000 in
set_option maxRecDepth 100000 in
theorem kX7_heftsOf_4 {p : Program} {l : Launch} {e : Env} {s : State} {m : MethodId} {args : Array Value} {below : List Frame} {meth : Method} {c : Code} {z : KT} {A : Nat → Prop} {qS : Nat → Nat} {S : RT} {Q : Int32 → Prop} (M : Mc p s m args meth c cX7_heftsOf 4 (some .int) RX7 z A) : ∀ (n : Nat) (x1 : Int32) (x2 : Int32) (x3 : Int32) (H : Heap) (locs : List Loc) (ls : Array Slot), Hw s z A (sW z qS S) H locs → lv_has ls 4 [(0, .ref (qS 0)), (1, .int x1), (2, .int x2), (3, .int x3)] → bX7_heftsOf_4 S Q n x1 x2 x3 → W p l e rmX7_heftsOf s m args below meth c H locs 0 0 (MQ below (va_Qi (fun (r : Int32) (_ : Unit) => Q r) (fun u t => cAt z A ((fun _ : Unit => (sW z qS S)) u) t) A) args s 0 0 A) (F0 m 4 ls []) := by
  obtain ⟨hx, hb, -, -, hown, hts, -, -, -, hN, hsr, -⟩ := id M
  intro n
  induction n with
  | zero => intro x1 x2 x3 H locs ls hw hl h; exact False.elim h
  | succ n ih =>
    intro x1 x2 x3 H locs ls hw hl h
    rw [bX7_heftsOf_4] at h
    refine lv_iload_n hx hb dX7_heftsOf_4 rfl (lv_at hl 3 rfl) ?_
    refine lv_aload_n hx hb dX7_heftsOf_5 rfl (lv_at hl 0 rfl) ?_
    refine gt_f (v := .int (S 30 8)) M inlX7 hw 0 rfl rfl 8 (by decide) fl_X7_62 rfl rfl dX7_heftsOf_6 ?_
    refine lv_icmp_ge (tgt := 38) hx hb dX7_heftsOf_9 (by decide) (fun c_1 => ?_) (fun c_1 => ?_)
    · replace h := iT c_1 h
      refine lv_iload_n hx hb dX7_heftsOf_38 rfl (lv_at hl 2 rfl) ?_
      exact rt_i M () hw h dX7_heftsOf_39
    · replace h := iF c_1 h
      refine lv_iload_n hx hb dX7_heftsOf_12 rfl (lv_at hl 2 rfl) ?_
      refine lv_iload_n hx hb dX7_heftsOf_13 rfl (lv_at hl 1 rfl) ?_
      refine lv_iload_n hx hb dX7_heftsOf_14 rfl (lv_at hl 3 rfl) ?_
      refine fr_Si (wN := fun _ : Unit => (sW z qS S)) M (m_X7_has l z x1 x3 _ h) (va_cwS 2 hts (gdS cd_X7_has ml_X7_243 st_X7_has in_X7) rfl rfl rfl hdS_X7_has ⟨(Nat.le_of_ble_eq_true rfl), (Nat.le_of_ble_eq_true rfl)⟩) (Cut.none _) (Prm.none _) hw rfl hl.1 rfl (Nat.le_of_ble_eq_true rfl) dX7_heftsOf_15 (fun r_2 u_ H locs h hw => ?_)
      have hw : Hw s z A (sW z qS S) H locs := hw
      try dsimp only at h
      refine lv_if_eq (tgt := 29) hx hb dX7_heftsOf_18 (by decide) (fun c_3 => ?_) (fun c_3 => ?_)
      · replace h := iT c_3 h
        refine lv_iconst (v := 0) hx hb dX7_heftsOf_29 (by decide) ?_
        exact kX7_heftsOf_30 M ih x1 x3 x2 (0 : Int32) H locs ls hw (lv_sub hl [0, 1, 3] rfl) h
      · replace h := iF c_3 h
        refine lv_aload_n hx hb dX7_heftsOf_21 rfl (lv_at hl 0 rfl) ?_
        refine lv_iload_n hx hb dX7_heftsOf_22 rfl (lv_at hl 3 rfl) ?_
        refine fr_Vi (wN := fun _ : Unit => (sW z qS S)) M (m_X7_heft l z qS S x3 _ h) (cwV 1 hts (gdV cd_X7_heft ml_X7_176 im_X7_heft se_X7_heft in_X7) rfl rfl rfl hdV_X7_heft ⟨(Nat.le_of_ble_eq_true rfl), (Nat.le_of_ble_eq_true rfl)⟩) (Cut.self _) (Prm.self _ 17 (fun _ => rfl)) 0 rfl rfl rfl hw rfl hl.1 rfl (Nat.le_of_ble_eq_true rfl) dX7_heftsOf_23 (fun r_4 u_ H locs h hw => ?_)
        have hw : Hw s z A (sW z qS S) H locs := hw
        try dsimp only at h
        refine lv_goto (tgt := 30) hx hb dX7_heftsOf_26 (by decide) ?_
        exact kX7_heftsOf_30 M ih x1 x3 x2 r_4 H locs ls hw (lv_sub hl [0, 1, 3] rfl) h
set_option maxHeartbeats 4000000 in
set_option maxRecDepth 100000 in
theorem m_X7_heftsOf (l : Launch) (z : KT) (qS : Nat → Nat) (S : RT) (x1 : Int32) (Q : Int32 → Prop) (h : wX7_heftsOf S x1 Q) : CI l yX7_heftsOf cX7_heftsOf 4 .int rmX7_heftsOf z [.ref (qS 0), .int x1] (sW z qS S) (fun _ : Unit => (sW z qS S)) (fun (r : Int32) (_ : Unit) => Q r) := by
  refine CI.of rfl (Nat.le_of_ble_eq_true rfl) ?_
  intro p e s m below meth c A ls M hw hl
  have M : Mc p s m _ meth c cX7_heftsOf 4 (some .int) RX7 z A := M
  obtain ⟨hx, hb, -, -, hown, hts, -, -, -, hN, hsr, -⟩ := id M
  have hl : lv_has ls 4 [(0, .ref (qS 0)), (1, .int x1)] := hl
  unfold wX7_heftsOf at h
  generalize s.heap = H at hw ⊢
  generalize ([] : List Loc) = locs at hw ⊢
  refine lv_iconst (v := 0) hx hb dX7_heftsOf_0 (by decide) ?_
  refine lv_istore_n (lv' := [(2, .int (0 : Int32)), (0, .ref (qS 0)), (1, .int x1)]) hx hb dX7_heftsOf_1 rfl hl (by decide) rfl (fun ls hl => ?_)
  refine lv_iconst (v := 0) hx hb dX7_heftsOf_2 (by decide) ?_
  refine lv_istore_n (lv' := [(3, .int (0 : Int32)), (2, .int (0 : Int32)), (0, .ref (qS 0)), (1, .int x1)]) hx hb dX7_heftsOf_3 rfl hl (by decide) rfl (fun ls hl => ?_)
  obtain ⟨n0, h⟩ := h; exact kX7_heftsOf_4 M n0 x1 (0 : Int32) (0 : Int32) H locs ls hw (lv_sub hl [2, 3, 1, 0] rfl) h
abbrev rmX7_balance : Room := { frames := 4, cells := 0, slots := 0, locals := 91 }
set_option maxHeartbeats 4000000 in
set_option maxRecDepth 100000 in
theorem kX7_balance_70 {p : Program} {l : Launch} {e : Env} {s : State} {m : MethodId} {args : Array Value} {below : List Frame} {meth : Method} {c : Code} {z : KT} {A : Nat → Prop} {qS : Nat → Nat} {K19 : RT → Int32 → Int32 → Int32 → Prop} {Q : Int32 → RT → Prop} (M : Mc p s m args meth c cX7_balance 4 (some .int) RX7 z A) (hK19 : ∀ (S : RT) (x1 : Int32) (x2 : Int32) (x3 : Int32) (H : Heap) (locs : List Loc) (ls : Array Slot), Hw s z A (sW z qS S) H locs → lv_has ls 4 [(0, .ref (qS 0)), (1, .int x1), (2, .int x2), (3, .int x3)] → K19 S x1 x2 x3 → W p l e rmX7_balance s m args below meth c H locs 0 0 (MQ below (va_Qi (fun (r : Int32) (u : RT) => Q r u) (fun u t => cAt z A ((fun u : RT => (sW z qS u)) u) t) A) args s 0 0 A) (F0 m 19 ls [])) : ∀ (S : RT) (x1 : Int32) (x2 : Int32) (x3 : Int32) (H : Heap) (locs : List Loc) (ls : Array Slot), Hw s z A (sW z qS S) H locs → lv_has ls 4 [(0, .ref (qS 0)), (1, .int x1), (2, .int x2), (3, .int x3)] → bX7_balance_70 K19 Q S x1 x2 x3 → W p l e rmX7_balance s m args below meth c H locs 0 0 (MQ below (va_Qi (fun (r : Int32) (u : RT) => Q r u) (fun u t => cAt z A ((fun u : RT => (sW z qS u)) u) t) A) args s 0 0 A) (F0 m 70 ls []) := by
  obtain ⟨hx, hb, -, -, hown, hts, -, -, -, hN, hsr, -⟩ := id M
  intro S x1 x2 x3 H locs ls hw hl h
  unfold bX7_balance_70 at h
  obtain ⟨x3_1, ex3_1⟩ : ∃ y : Int32, y = (x3 + (1 : Int32)) := ⟨_, rfl⟩
  replace h := h x3_1 ex3_1
  refine lv_iinc (v := x3_1) (lv' := [(3, .int x3_1), (0, .ref (qS 0)), (1, .int x1), (2, .int x2)]) hx hb dX7_balance_70 hl (k := 3) rfl (by rw [ex3_1]; rfl) (by decide) rfl (fun ls hl => ?_)
  refine lv_goto (tgt := 19) hx hb dX7_balance_73 (by decide) ?_
  exact hK19 S x1 x2 x3_1 H locs ls hw (lv_sub hl [1, 2, 3, 0] rfl) h
set_option maxHeartbeats 4000000 in
set_option maxRecDepth 100000 in
theorem kX7_balance_55 {p : Program} {l : Launch} {e : Env} {s : State} {m : MethodId} {args : Array Value} {below : List Frame} {meth : Method} {c : Code} {z : KT} {A : Nat → Prop} {qS : Nat → Nat} {K19 : RT → Int32 → Int32 → Int32 → Prop} {Q : Int32 → RT → Prop} (M : Mc p s m args meth c cX7_balance 4 (some .int) RX7 z A) (hK19 : ∀ (S : RT) (x1 : Int32) (x2 : Int32) (x3 : Int32) (H : Heap) (locs : List Loc) (ls : Array Slot), Hw s z A (sW z qS S) H locs → lv_has ls 4 [(0, .ref (qS 0)), (1, .int x1), (2, .int x2), (3, .int x3)] → K19 S x1 x2 x3 → W p l e rmX7_balance s m args below meth c H locs 0 0 (MQ below (va_Qi (fun (r : Int32) (u : RT) => Q r u) (fun u t => cAt z A ((fun u : RT => (sW z qS u)) u) t) A) args s 0 0 A) (F0 m 19 ls [])) : ∀ (S : RT) (x1 : Int32) (x2 : Int32) (x3 : Int32) (H : Heap) (locs : List Loc) (ls : Array Slot), Hw s z A (sW z qS S) H locs → lv_has ls 4 [(0, .ref (qS 0)), (1, .int x1), (2, .int x2), (3, .int x3)] → bX7_balance_55 K19 Q S x1 x2 x3 → W p l e rmX7_balance s m args below meth c H locs 0 0 (MQ below (va_Qi (fun (r : Int32) (u : RT) => Q r u) (fun u t => cAt z A ((fun u : RT => (sW z qS u)) u) t) A) args s 0 0 A) (F0 m 55 ls []) := by
  obtain ⟨hx, hb, -, -, hown, hts, -, -, -, hN, hsr, -⟩ := id M
  intro S x1 x2 x3 H locs ls hw hl h
  unfold bX7_balance_55 at h
  refine lv_aload_n hx hb dX7_balance_55 rfl (lv_at hl 0 rfl) ?_
  refine lv_iload_n hx hb dX7_balance_56 rfl (lv_at hl 3 rfl) ?_
  refine fr_Vi (wN := fun _ : Unit => (sW z qS S)) M (m_X7_heftsOf l z qS S x3 _ h) (cwV 1 hts (gdV cd_X7_heftsOf ml_X7_249 im_X7_heftsOf se_X7_heftsOf in_X7) rfl rfl rfl hdV_X7_heftsOf ⟨(Nat.le_of_ble_eq_true rfl), (Nat.le_of_ble_eq_true rfl)⟩) (Cut.self _) (Prm.self _ 17 (fun _ => rfl)) 0 rfl rfl rfl hw rfl hl.1 rfl (Nat.le_of_ble_eq_true rfl) dX7_balance_57 (fun r_1 u_ H locs h hw => ?_)
  have hw : Hw s z A (sW z qS S) H locs := hw
  try dsimp only at h
  refine lv_aload_n hx hb dX7_balance_60 rfl (lv_at hl 0 rfl) ?_
  refine lv_iload_n hx hb dX7_balance_61 rfl (lv_at hl 1 rfl) ?_
  refine fr_Vi (wN := fun _ : Unit => (sW z qS S)) M (m_X7_heft l z qS S x1 _ h) (cwV 1 hts (gdV cd_X7_heft ml_X7_176 im_X7_heft se_X7_heft in_X7) rfl rfl rfl hdV_X7_heft ⟨(Nat.le_of_ble_eq_true rfl), (Nat.le_of_ble_eq_true rfl)⟩) (Cut.self _) (Prm.self _ 17 (fun _ => rfl)) 0 rfl rfl rfl hw rfl hl.1 rfl (Nat.le_of_ble_eq_true rfl) dX7_balance_62 (fun r_2 u_ H locs h hw => ?_)
  have hw : Hw s z A (sW z qS S) H locs := hw
  try dsimp only at h
  refine lv_icmp_ne (tgt := 70) hx hb dX7_balance_65 (by decide) (fun c_3 => ?_) (fun c_3 => ?_)
  · replace h := iF c_3 h
    exact kX7_balance_70 M hK19 S x1 x2 x3 H locs ls hw (lv_sub hl [0, 1, 2, 3] rfl) h
  · replace h := iT c_3 h
    refine lv_iload_n hx hb dX7_balance_68 rfl (lv_at hl 3 rfl) ?_
    refine lv_istore_n (lv' := [(2, .int x3), (0, .ref (qS 0)), (1, .int x1), (3, .int x3)]) hx hb dX7_balance_69 rfl hl (by decide) rfl (fun ls hl => ?_)
    exact kX7_balance_70 M hK19 S x1 x3 x3 H locs ls hw (lv_sub hl [1, 2, 0, 3] rfl) h
set_option maxHeartbeats 4000000 in
set_option maxRecDepth 100000 in
theorem kX7_balance_19 {p : Program} {l : Launch} {e : Env} {s : State} {m : MethodId} {args : Array Value} {below : List Frame} {meth : Method} {c : Code} {z : KT} {A : Nat → Prop} {qS : Nat → Nat} {Q : Int32 → RT → Prop} (M : Mc p s m args meth c cX7_balance 4 (some .int) RX7 z A) : ∀ (n : Nat) (S : RT) (x1 : Int32) (x2 : Int32) (x3 : Int32) (H : Heap) (locs : List Loc) (ls : Array Slot), Hw s z A (sW z qS S) H locs → lv_has ls 4 [(0, .ref (qS 0)), (1, .int x1), (2, .int x2), (3, .int x3)] → bX7_balance_19 Q n S x1 x2 x3 → W p l e rmX7_balance s m args below meth c H locs 0 0 (MQ below (va_Qi (fun (r : Int32) (u : RT) => Q r u) (fun u t => cAt z A ((fun u : RT => (sW z qS u)) u) t) A) args s 0 0 A) (F0 m 19 ls []) := by
  obtain ⟨hx, hb, -, -, hown, hts, -, -, -, hN, hsr, -⟩ := id M
  intro n
  induction n with
  | zero => intro S x1 x2 x3 H locs ls hw hl h; exact False.elim h
  | succ n ih =>
    intro S x1 x2 x3 H locs ls hw hl h
    rw [bX7_balance_19] at h
    refine lv_iload_n hx hb dX7_balance_19 rfl (lv_at hl 3 rfl) ?_
    refine lv_iconst (v := 1) hx hb dX7_balance_20 (by decide) ?_
    refine lv_aload_n hx hb dX7_balance_21 rfl (lv_at hl 0 rfl) ?_
    refine gt_f (v := .int (S 30 8)) M inlX7 hw 0 rfl rfl 8 (by decide) fl_X7_62 rfl rfl dX7_balance_22 ?_
    refine lv_ishl hx hb dX7_balance_25 ?_
    refine lv_icmp_ge (tgt := 76) hx hb dX7_balance_26 (by decide) (fun c_1 => ?_) (fun c_1 => ?_)
    · replace h := iT c_1 h
      refine lv_iload_n hx hb dX7_balance_76 rfl (lv_at hl 2 rfl) ?_
      exact rt_i M S hw h dX7_balance_77
    · replace h := iF c_1 h
      refine lv_iload_n hx hb dX7_balance_29 rfl (lv_at hl 3 rfl) ?_
      refine lv_iload_n hx hb dX7_balance_30 rfl (lv_at hl 1 rfl) ?_
      refine fr_Si (wN := fun _ : Unit => (sW z qS S)) M (m_X7_has l z x3 x1 _ h) (va_cwS 2 hts (gdS cd_X7_has ml_X7_243 st_X7_has in_X7) rfl rfl rfl hdS_X7_has ⟨(Nat.le_of_ble_eq_true rfl), (Nat.le_of_ble_eq_true rfl)⟩) (Cut.none _) (Prm.none _) hw rfl hl.1 rfl (Nat.le_of_ble_eq_true rfl) dX7_balance_31 (fun r_2 u_ H locs h hw => ?_)
      have hw : Hw s z A (sW z qS S) H locs := hw
      try dsimp only at h
      refine lv_if_ne (tgt := 70) hx hb dX7_balance_34 (by decide) (fun c_3 => ?_) (fun c_3 => ?_)
      · replace h := iF c_3 h
        exact kX7_balance_70 M ih S x1 x2 x3 H locs ls hw (lv_sub hl [0, 1, 2, 3] rfl) h
      · replace h := iT c_3 h
        refine lv_iload_n hx hb dX7_balance_37 rfl (lv_at hl 2 rfl) ?_
        refine lv_if_lt (tgt := 55) hx hb dX7_balance_38 (by decide) (fun c_4 => ?_) (fun c_4 => ?_)
        · replace h := iT c_4 h
          exact kX7_balance_55 M ih S x1 x2 x3 H locs ls hw (lv_sub hl [0, 1, 2, 3] rfl) h
        · replace h := iF c_4 h
          refine lv_iload_n hx hb dX7_balance_41 rfl (lv_at hl 3 rfl) ?_
          refine fr_Si (wN := fun _ : Unit => (sW z qS S)) M (m_X7_bits l z x3 _ h) (va_cwS 1 hts (gdS cd_X7_bits ml_X7_246 st_X7_bits in_X7) rfl rfl rfl hdS_X7_bits ⟨(Nat.le_of_ble_eq_true rfl), (Nat.le_of_ble_eq_true rfl)⟩) (Cut.none _) (Prm.none _) hw rfl hl.1 rfl (Nat.le_of_ble_eq_true rfl) dX7_balance_42 (fun r_5 u_ H locs h hw => ?_)
          have hw : Hw s z A (sW z qS S) H locs := hw
          try dsimp only at h
          refine lv_iload_n hx hb dX7_balance_45 rfl (lv_at hl 2 rfl) ?_
          refine fr_Si (wN := fun _ : Unit => (sW z qS S)) M (m_X7_bits l z x2 _ h) (va_cwS 1 hts (gdS cd_X7_bits ml_X7_246 st_X7_bits in_X7) rfl rfl rfl hdS_X7_bits ⟨(Nat.le_of_ble_eq_true rfl), (Nat.le_of_ble_eq_true rfl)⟩) (Cut.none _) (Prm.none _) hw rfl hl.1 rfl (Nat.le_of_ble_eq_true rfl) dX7_balance_46 (fun r_6 u_ H locs h hw => ?_)
          have hw : Hw s z A (sW z qS S) H locs := hw
          try dsimp only at h
          refine lv_icmp_lt (tgt := 55) hx hb dX7_balance_49 (by decide) (fun c_7 => ?_) (fun c_7 => ?_)
          · replace h := iT c_7 h
            exact kX7_balance_55 M ih S x1 x2 x3 H locs ls hw (lv_sub hl [0, 1, 2, 3] rfl) h
          · replace h := iF c_7 h
            refine lv_goto (tgt := 70) hx hb dX7_balance_52 (by decide) ?_
            exact kX7_balance_70 M ih S x1 x2 x3 H locs ls hw (lv_sub hl [0, 1, 2, 3] rfl) h
set_option maxHeartbeats 4000000 in
set_option maxRecDepth 100000 in
theorem m_X7_balance (l : Launch) (z : KT) (qS : Nat → Nat) (S : RT) (x1 : Int32) (Q : Int32 → RT → Prop) (h : wX7_balance S x1 Q) : CI l yX7_balance cX7_balance 4 .int rmX7_balance z [.ref (qS 0), .int x1] (sW z qS S) (fun u : RT => (sW z qS u)) (fun (r : Int32) (u : RT) => Q r u) := by
  refine CI.of rfl (Nat.le_of_ble_eq_true rfl) ?_
  intro p e s m below meth c A ls M hw hl
  have M : Mc p s m _ meth c cX7_balance 4 (some .int) RX7 z A := M
  obtain ⟨hx, hb, -, -, hown, hts, -, -, -, hN, hsr, -⟩ := id M
  have hl : lv_has ls 4 [(0, .ref (qS 0)), (1, .int x1)] := hl
  unfold wX7_balance at h
  generalize s.heap = H at hw ⊢
  generalize ([] : List Loc) = locs at hw ⊢
  refine lv_aload_n hx hb dX7_balance_0 rfl (lv_at hl 0 rfl) ?_
  refine lv_iload_n hx hb dX7_balance_1 rfl (lv_at hl 1 rfl) ?_
  refine fr_Vi (wN := fun _ : Unit => (sW z qS S)) M (m_X7_isThing l z qS S x1 _ h) (cwV 1 hts (gdV cd_X7_isThing ml_X7_70 im_X7_isThing se_X7_isThing in_X7) rfl rfl rfl hdV_X7_isThing ⟨(Nat.le_of_ble_eq_true rfl), (Nat.le_of_ble_eq_true rfl)⟩) (Cut.self _) (Prm.self _ 17 (fun _ => rfl)) 0 rfl rfl rfl hw rfl hl.1 rfl (Nat.le_of_ble_eq_true rfl) dX7_balance_2 (fun r_1 u_ H locs h hw => ?_)
  have hw : Hw s z A (sW z qS S) H locs := hw
  try dsimp only at h
  refine lv_if_ne (tgt := 14) hx hb dX7_balance_5 (by decide) (fun c_2 => ?_) (fun c_2 => ?_)
  · replace h := iF c_2 h
    refine lv_bipush (v := -9) hx hb dX7_balance_14 (by decide) ?_
    refine lv_istore_n (lv' := [(2, .int (-9 : Int32)), (0, .ref (qS 0)), (1, .int x1)]) hx hb dX7_balance_16 rfl hl (by decide) rfl (fun ls hl => ?_)
    refine lv_iconst (v := 0) hx hb dX7_balance_17 (by decide) ?_
    refine lv_istore_n (lv' := [(3, .int (0 : Int32)), (2, .int (-9 : Int32)), (0, .ref (qS 0)), (1, .int x1)]) hx hb dX7_balance_18 rfl hl (by decide) rfl (fun ls hl => ?_)
    obtain ⟨n0, h⟩ := h; exact kX7_balance_19 M n0 S x1 (-9 : Int32) (0 : Int32) H locs ls hw (lv_sub hl [2, 3, 1, 0] rfl) h
  · replace h := iT c_2 h
    refine lv_aload_n hx hb dX7_balance_8 rfl (lv_at hl 0 rfl) ?_
    refine lv_iconst (v := -1) hx hb dX7_balance_9 (by decide) ?_
    refine fr_Vi (wN := fun u : RT => (sW z qS u)) M (m_X7_no l z qS S (-1 : Int32) _ h) (cwV 1 hts (gdV cd_X7_no ml_X7_81 im_X7_no se_X7_no in_X7) rfl rfl rfl hdV_X7_no ⟨(Nat.le_of_ble_eq_true rfl), (Nat.le_of_ble_eq_true rfl)⟩) (Cut.self _) (Prm.self _ 17 (fun _ => rfl)) 0 rfl rfl rfl hw rfl hl.1 rfl (Nat.le_of_ble_eq_true rfl) dX7_balance_10 (fun r_4 u_ H locs h hw => ?_)
    obtain ⟨S_3, rfl⟩ : ∃ z9 : RT, z9 = u_ := ⟨_, rfl⟩
    have hw : Hw s z A (sW z qS S_3) H locs := hw
    try dsimp only at h
    exact rt_i M S_3 hw h dX7_balance_13
abbrev rmX7_nearest : Room := { frames := 3, cells := 0, slots := 0, locals := 68 }
set_option maxHeartbeats 4000000 in
set_option maxRecDepth 100000 in
theorem kX7_nearest_67 {p : Program} {l : Launch} {e : Env} {s : State} {m : MethodId} {args : Array Value} {below : List Frame} {meth : Method} {c : Code} {z : KT} {A : Nat → Prop} {qS : Nat → Nat} {K19 : RT → Int32 → Int32 → Int32 → Prop} {Q : Int32 → RT → Prop} (M : Mc p s m args meth c cX7_nearest 4 (some .int) RX7 z A) (hK19 : ∀ (S : RT) (x1 : Int32) (x2 : Int32) (x3 : Int32) (H : Heap) (locs : List Loc) (ls : Array Slot), Hw s z A (sW z qS S) H locs → lv_has ls 4 [(0, .ref (qS 0)), (1, .int x1), (2, .int x2), (3, .int x3)] → K19 S x1 x2 x3 → W p l e rmX7_nearest s m args below meth c H locs 0 0 (MQ below (va_Qi (fun (r : Int32) (u : RT) => Q r u) (fun u t => cAt z A ((fun u : RT => (sW z qS u)) u) t) A) args s 0 0 A) (F0 m 19 ls [])) : ∀ (S : RT) (x1 : Int32) (x2 : Int32) (x3 : Int32) (H : Heap) (locs : List Loc) (ls : Array Slot), Hw s z A (sW z qS S) H locs → lv_has ls 4 [(0, .ref (qS 0)), (1, .int x1), (2, .int x2), (3, .int x3)] → bX7_nearest_67 K19 Q S x1 x2 x3 → W p l e rmX7_nearest s m args below meth c H locs 0 0 (MQ below (va_Qi (fun (r : Int32) (u : RT) => Q r u) (fun u t => cAt z A ((fun u : RT => (sW z qS u)) u) t) A) args s 0 0 A) (F0 m 67 ls []) := by
  obtain ⟨hx, hb, -, -, hown, hts, -, -, -, hN, hsr, -⟩ := id M
  intro S x1 x2 x3 H locs ls hw hl h
  unfold bX7_nearest_67 at h
  obtain ⟨x3_1, ex3_1⟩ : ∃ y : Int32, y = (x3 + (1 : Int32)) := ⟨_, rfl⟩
  replace h := h x3_1 ex3_1
  refine lv_iinc (v := x3_1) (lv' := [(3, .int x3_1), (0, .ref (qS 0)), (1, .int x1), (2, .int x2)]) hx hb dX7_nearest_67 hl (k := 3) rfl (by rw [ex3_1]; rfl) (by decide) rfl (fun ls hl => ?_)
  refine lv_goto (tgt := 19) hx hb dX7_nearest_70 (by decide) ?_
  exact hK19 S x1 x2 x3_1 H locs ls hw (lv_sub hl [1, 2, 3, 0] rfl) h
set_option maxHeartbeats 4000000 in
set_option maxRecDepth 100000 in
theorem kX7_nearest_65 {p : Program} {l : Launch} {e : Env} {s : State} {m : MethodId} {args : Array Value} {below : List Frame} {meth : Method} {c : Code} {z : KT} {A : Nat → Prop} {qS : Nat → Nat} {K19 : RT → Int32 → Int32 → Int32 → Prop} {Q : Int32 → RT → Prop} (M : Mc p s m args meth c cX7_nearest 4 (some .int) RX7 z A) (hK19 : ∀ (S : RT) (x1 : Int32) (x2 : Int32) (x3 : Int32) (H : Heap) (locs : List Loc) (ls : Array Slot), Hw s z A (sW z qS S) H locs → lv_has ls 4 [(0, .ref (qS 0)), (1, .int x1), (2, .int x2), (3, .int x3)] → K19 S x1 x2 x3 → W p l e rmX7_nearest s m args below meth c H locs 0 0 (MQ below (va_Qi (fun (r : Int32) (u : RT) => Q r u) (fun u t => cAt z A ((fun u : RT => (sW z qS u)) u) t) A) args s 0 0 A) (F0 m 19 ls [])) : ∀ (S : RT) (x1 : Int32) (x3 : Int32) (H : Heap) (locs : List Loc) (ls : Array Slot), Hw s z A (sW z qS S) H locs → lv_has ls 4 [(0, .ref (qS 0)), (1, .int x1), (3, .int x3)] → bX7_nearest_65 K19 Q S x1 x3 → W p l e rmX7_nearest s m args below meth c H locs 0 0 (MQ below (va_Qi (fun (r : Int32) (u : RT) => Q r u) (fun u t => cAt z A ((fun u : RT => (sW z qS u)) u) t) A) args s 0 0 A) (F0 m 65 ls []) := by
  obtain ⟨hx, hb, -, -, hown, hts, -, -, -, hN, hsr, -⟩ := id M
  intro S x1 x3 H locs ls hw hl h
  unfold bX7_nearest_65 at h
  refine lv_iload_n hx hb dX7_nearest_65 rfl (lv_at hl 2 rfl) ?_
  refine lv_istore_n (lv' := [(2, .int x3), (0, .ref (qS 0)), (1, .int x1), (3, .int x3)]) hx hb dX7_nearest_66 rfl hl (by decide) rfl (fun ls hl => ?_)
  exact kX7_nearest_67 M hK19 S x1 x3 x3 H locs ls hw (lv_sub hl [1, 2, 0, 3] rfl) h
set_option maxHeartbeats 4000000 in
set_option maxRecDepth 100000 in
theorem kX7_nearest_19 {p : Program} {l : Launch} {e : Env} {s : State} {m : MethodId} {args : Array Value} {below : List Frame} {meth : Method} {c : Code} {z : KT} {A : Nat → Prop} {qS : Nat → Nat} {Q : Int32 → RT → Prop} (M : Mc p s m args meth c cX7_nearest 4 (some .int) RX7 z A) : ∀ (n : Nat) (S : RT) (x1 : Int32) (x2 : Int32) (x3 : Int32) (H : Heap) (locs : List Loc) (ls : Array Slot), Hw s z A (sW z qS S) H locs → lv_has ls 4 [(0, .ref (qS 0)), (1, .int x1), (2, .int x2), (3, .int x3)] → bX7_nearest_19 Q n S x1 x2 x3 → W p l e rmX7_nearest s m args below meth c H locs 0 0 (MQ below (va_Qi (fun (r : Int32) (u : RT) => Q r u) (fun u t => cAt z A ((fun u : RT => (sW z qS u)) u) t) A) args s 0 0 A) (F0 m 19 ls []) := by
  obtain ⟨hx, hb, -, -, hown, hts, -, -, -, hN, hsr, -⟩ := id M
  intro n
  induction n with
  | zero => intro S x1 x2 x3 H locs ls hw hl h; exact False.elim h
  | succ n ih =>
    intro S x1 x2 x3 H locs ls hw hl h
    rw [bX7_nearest_19] at h
    refine lv_iload_n hx hb dX7_nearest_19 rfl (lv_at hl 3 rfl) ?_
    refine lv_aload_n hx hb dX7_nearest_20 rfl (lv_at hl 0 rfl) ?_
    refine gt_f (v := .int (S 30 8)) M inlX7 hw 0 rfl rfl 8 (by decide) fl_X7_62 rfl rfl dX7_nearest_21 ?_
    refine lv_icmp_ge (tgt := 73) hx hb dX7_nearest_24 (by decide) (fun c_1 => ?_) (fun c_1 => ?_)
    · replace h := iT c_1 h
      refine lv_iload_n hx hb dX7_nearest_73 rfl (lv_at hl 2 rfl) ?_
      exact rt_i M S hw h dX7_nearest_74
    · replace h := iF c_1 h
      refine lv_iload_n hx hb dX7_nearest_27 rfl (lv_at hl 3 rfl) ?_
      refine lv_iload_n hx hb dX7_nearest_28 rfl (lv_at hl 1 rfl) ?_
      refine lv_icmp_eq (tgt := 67) hx hb dX7_nearest_29 (by decide) (fun c_2 => ?_) (fun c_2 => ?_)
      · replace h := iT c_2 h
        exact kX7_nearest_67 M ih S x1 x2 x3 H locs ls hw (lv_sub hl [0, 1, 2, 3] rfl) h
      · replace h := iF c_2 h
        refine lv_iload_n hx hb dX7_nearest_32 rfl (lv_at hl 2 rfl) ?_
        refine lv_if_lt (tgt := 65) hx hb dX7_nearest_33 (by decide) (fun c_3 => ?_) (fun c_3 => ?_)
        · replace h := iT c_3 h
          exact kX7_nearest_65 M ih S x1 x3 H locs ls hw (lv_sub hl [0, 1, 3] rfl) h
        · replace h := iF c_3 h
          refine lv_aload_n hx hb dX7_nearest_36 rfl (lv_at hl 0 rfl) ?_
          refine lv_iload_n hx hb dX7_nearest_37 rfl (lv_at hl 3 rfl) ?_
          refine fr_Vi (wN := fun _ : Unit => (sW z qS S)) M (m_X7_heft l z qS S x3 _ h) (cwV 1 hts (gdV cd_X7_heft ml_X7_176 im_X7_heft se_X7_heft in_X7) rfl rfl rfl hdV_X7_heft ⟨(Nat.le_of_ble_eq_true rfl), (Nat.le_of_ble_eq_true rfl)⟩) (Cut.self _) (Prm.self _ 17 (fun _ => rfl)) 0 rfl rfl rfl hw rfl hl.1 rfl (Nat.le_of_ble_eq_true rfl) dX7_nearest_38 (fun r_4 u_ H locs h hw => ?_)
          have hw : Hw s z A (sW z qS S) H locs := hw
          try dsimp only at h
          refine lv_aload_n hx hb dX7_nearest_41 rfl (lv_at hl 0 rfl) ?_
          refine lv_iload_n hx hb dX7_nearest_42 rfl (lv_at hl 1 rfl) ?_
          refine fr_Vi (wN := fun _ : Unit => (sW z qS S)) M (m_X7_heft l z qS S x1 _ h) (cwV 1 hts (gdV cd_X7_heft ml_X7_176 im_X7_heft se_X7_heft in_X7) rfl rfl rfl hdV_X7_heft ⟨(Nat.le_of_ble_eq_true rfl), (Nat.le_of_ble_eq_true rfl)⟩) (Cut.self _) (Prm.self _ 17 (fun _ => rfl)) 0 rfl rfl rfl hw rfl hl.1 rfl (Nat.le_of_ble_eq_true rfl) dX7_nearest_43 (fun r_5 u_ H locs h hw => ?_)
          have hw : Hw s z A (sW z qS S) H locs := hw
          try dsimp only at h
          refine fr_Si (wN := fun _ : Unit => (sW z qS S)) M (m_X7_far l z r_4 r_5 _ h) (va_cwS 2 hts (gdS cd_X7_far ml_X7_252 st_X7_far in_X7) rfl rfl rfl hdS_X7_far ⟨(Nat.le_of_ble_eq_true rfl), (Nat.le_of_ble_eq_true rfl)⟩) (Cut.none _) (Prm.none _) hw rfl hl.1 rfl (Nat.le_of_ble_eq_true rfl) dX7_nearest_46 (fun r_6 u_ H locs h hw => ?_)
          have hw : Hw s z A (sW z qS S) H locs := hw
          try dsimp only at h
          refine lv_aload_n hx hb dX7_nearest_49 rfl (lv_at hl 0 rfl) ?_
          refine lv_iload_n hx hb dX7_nearest_50 rfl (lv_at hl 2 rfl) ?_
          refine fr_Vi (wN := fun _ : Unit => (sW z qS S)) M (m_X7_heft l z qS S x2 _ h) (cwV 1 hts (gdV cd_X7_heft ml_X7_176 im_X7_heft se_X7_heft in_X7) rfl rfl rfl hdV_X7_heft ⟨(Nat.le_of_ble_eq_true rfl), (Nat.le_of_ble_eq_true rfl)⟩) (Cut.self _) (Prm.self _ 17 (fun _ => rfl)) 0 rfl rfl rfl hw rfl hl.1 rfl (Nat.le_of_ble_eq_true rfl) dX7_nearest_51 (fun r_7 u_ H locs h hw => ?_)
          have hw : Hw s z A (sW z qS S) H locs := hw
          try dsimp only at h
          refine lv_aload_n hx hb dX7_nearest_54 rfl (lv_at hl 0 rfl) ?_
          refine lv_iload_n hx hb dX7_nearest_55 rfl (lv_at hl 1 rfl) ?_
          refine fr_Vi (wN := fun _ : Unit => (sW z qS S)) M (m_X7_heft l z qS S x1 _ h) (cwV 1 hts (gdV cd_X7_heft ml_X7_176 im_X7_heft se_X7_heft in_X7) rfl rfl rfl hdV_X7_heft ⟨(Nat.le_of_ble_eq_true rfl), (Nat.le_of_ble_eq_true rfl)⟩) (Cut.self _) (Prm.self _ 17 (fun _ => rfl)) 0 rfl rfl rfl hw rfl hl.1 rfl (Nat.le_of_ble_eq_true rfl) dX7_nearest_56 (fun r_8 u_ H locs h hw => ?_)
          have hw : Hw s z A (sW z qS S) H locs := hw
          try dsimp only at h
          refine fr_Si (wN := fun _ : Unit => (sW z qS S)) M (m_X7_far l z r_7 r_8 _ h) (va_cwS 2 hts (gdS cd_X7_far ml_X7_252 st_X7_far in_X7) rfl rfl rfl hdS_X7_far ⟨(Nat.le_of_ble_eq_true rfl), (Nat.le_of_ble_eq_true rfl)⟩) (Cut.none _) (Prm.none _) hw rfl hl.1 rfl (Nat.le_of_ble_eq_true rfl) dX7_nearest_59 (fun r_9 u_ H locs h hw => ?_)
          have hw : Hw s z A (sW z qS S) H locs := hw
          try dsimp only at h
          refine lv_icmp_ge (tgt := 67) hx hb dX7_nearest_62 (by decide) (fun c_10 => ?_) (fun c_10 => ?_)
          · replace h := iT c_10 h
            exact kX7_nearest_67 M ih S x1 x2 x3 H locs ls hw (lv_sub hl [0, 1, 2, 3] rfl) h
          · replace h := iF c_10 h
            exact kX7_nearest_65 M ih S x1 x3 H locs ls hw (lv_sub hl [0, 1, 3] rfl) h
set_option maxHeartbeats 4000000 in
set_option maxRecDepth 100000 in
theorem m_X7_nearest (l : Launch) (z : KT) (qS : Nat → Nat) (S : RT) (x1 : Int32) (Q : Int32 → RT → Prop) (h : wX7_nearest S x1 Q) : CI l yX7_nearest cX7_nearest 4 .int rmX7_nearest z [.ref (qS 0), .int x1] (sW z qS S) (fun u : RT => (sW z qS u)) (fun (r : Int32) (u : RT) => Q r u) := by
  refine CI.of rfl (Nat.le_of_ble_eq_true rfl) ?_
  intro p e s m below meth c A ls M hw hl
  have M : Mc p s m _ meth c cX7_nearest 4 (some .int) RX7 z A := M
  obtain ⟨hx, hb, -, -, hown, hts, -, -, -, hN, hsr, -⟩ := id M
  have hl : lv_has ls 4 [(0, .ref (qS 0)), (1, .int x1)] := hl
  unfold wX7_nearest at h
  generalize s.heap = H at hw ⊢
  generalize ([] : List Loc) = locs at hw ⊢
  refine lv_aload_n hx hb dX7_nearest_0 rfl (lv_at hl 0 rfl) ?_
  refine lv_iload_n hx hb dX7_nearest_1 rfl (lv_at hl 1 rfl) ?_
  refine fr_Vi (wN := fun _ : Unit => (sW z qS S)) M (m_X7_isThing l z qS S x1 _ h) (cwV 1 hts (gdV cd_X7_isThing ml_X7_70 im_X7_isThing se_X7_isThing in_X7) rfl rfl rfl hdV_X7_isThing ⟨(Nat.le_of_ble_eq_true rfl), (Nat.le_of_ble_eq_true rfl)⟩) (Cut.self _) (Prm.self _ 17 (fun _ => rfl)) 0 rfl rfl rfl hw rfl hl.1 rfl (Nat.le_of_ble_eq_true rfl) dX7_nearest_2 (fun r_1 u_ H locs h hw => ?_)
  have hw : Hw s z A (sW z qS S) H locs := hw
  try dsimp only at h
  refine lv_if_ne (tgt := 14) hx hb dX7_nearest_5 (by decide) (fun c_2 => ?_) (fun c_2 => ?_)
  · replace h := iF c_2 h
    refine lv_bipush (v := -9) hx hb dX7_nearest_14 (by decide) ?_
    refine lv_istore_n (lv' := [(2, .int (-9 : Int32)), (0, .ref (qS 0)), (1, .int x1)]) hx hb dX7_nearest_16 rfl hl (by decide) rfl (fun ls hl => ?_)
    refine lv_iconst (v := 0) hx hb dX7_nearest_17 (by decide) ?_
    refine lv_istore_n (lv' := [(3, .int (0 : Int32)), (2, .int (-9 : Int32)), (0, .ref (qS 0)), (1, .int x1)]) hx hb dX7_nearest_18 rfl hl (by decide) rfl (fun ls hl => ?_)
    obtain ⟨n0, h⟩ := h; exact kX7_nearest_19 M n0 S x1 (-9 : Int32) (0 : Int32) H locs ls hw (lv_sub hl [2, 3, 1, 0] rfl) h
  · replace h := iT c_2 h
    refine lv_aload_n hx hb dX7_nearest_8 rfl (lv_at hl 0 rfl) ?_
    refine lv_iconst (v := -1) hx hb dX7_nearest_9 (by decide) ?_
    refine fr_Vi (wN := fun u : RT => (sW z qS u)) M (m_X7_no l z qS S (-1 : Int32) _ h) (cwV 1 hts (gdV cd_X7_no ml_X7_81 im_X7_no se_X7_no in_X7) rfl rfl rfl hdV_X7_no ⟨(Nat.le_of_ble_eq_true rfl), (Nat.le_of_ble_eq_true rfl)⟩) (Cut.self _) (Prm.self _ 17 (fun _ => rfl)) 0 rfl rfl rfl hw rfl hl.1 rfl (Nat.le_of_ble_eq_true rfl) dX7_nearest_10 (fun r_4 u_ H locs h hw => ?_)
    obtain ⟨S_3, rfl⟩ : ∃ z9 : RT, z9 = u_ := ⟨_, rfl⟩
    have hw : Hw s z A (sW z qS S_3) H locs := hw
    try dsimp only at h
    exact rt_i M S_3 hw h dX7_nearest_13
abbrev rmX7_chainOf : Room := { frames := 1, cells := 0, slots := 0, locals := 21 }
set_option maxHeartbeats 4000000 in
set_option maxRecDepth 100000 in
theorem kX7_chainOf_74 {p : Program} {l : Launch} {e : Env} {s : State} {m : MethodId} {args : Array Value} {below : List Frame} {meth : Method} {c : Code} {z : KT} {A : Nat → Prop} {qS : Nat → Nat} {K6 : Int32 → Int32 → Prop} {K15 : Int32 → Int32 → Int32 → Prop} {S : RT} {Q : Int32 → Prop} (M : Mc p s m args meth c cX7_chainOf 5 (some .int) RX7 z A) (hK6 : ∀ (x2 : Int32) (x3 : Int32) (H : Heap) (locs : List Loc) (ls : Array Slot), Hw s z A (sW z qS S) H locs → lv_has ls 5 [(0, .ref (qS 0)), (2, .int x2), (3, .int x3)] → K6 x2 x3 → W p l e rmX7_chainOf s m args below meth c H locs 0 0 (MQ below (va_Qi (fun (r : Int32) (_ : Unit) => Q r) (fun u t => cAt z A ((fun _ : Unit => (sW z qS S)) u) t) A) args s 0 0 A) (F0 m 6 ls [])) (hK15 : ∀ (x2 : Int32) (x3 : Int32) (x4 : Int32) (H : Heap) (locs : List Loc) (ls : Array Slot), Hw s z A (sW z qS S) H locs → lv_has ls 5 [(0, .ref (qS 0)), (2, .int x2), (3, .int x3), (4, .int x4)] → K15 x2 x3 x4 → W p l e rmX7_chainOf s m args below meth c H locs 0 0 (MQ below (va_Qi (fun (r : Int32) (_ : Unit) => Q r) (fun u t => cAt z A ((fun _ : Unit => (sW z qS S)) u) t) A) args s 0 0 A) (F0 m 15 ls [])) : ∀ (x2 : Int32) (x3 : Int32) (x4 : Int32) (H : Heap) (locs : List Loc) (ls : Array Slot), Hw s z A (sW z qS S) H locs → lv_has ls 5 [(0, .ref (qS 0)), (2, .int x2), (3, .int x3), (4, .int x4)] → bX7_chainOf_74 K6 K15 S Q x2 x3 x4 → W p l e rmX7_chainOf s m args below meth c H locs 0 0 (MQ below (va_Qi (fun (r : Int32) (_ : Unit) => Q r) (fun u t => cAt z A ((fun _ : Unit => (sW z qS S)) u) t) A) args s 0 0 A) (F0 m 74 ls []) := by
  obtain ⟨hx, hb, -, -, hown, hts, -, -, -, hN, hsr, -⟩ := id M
  intro x2 x3 x4 H locs ls hw hl h
  unfold bX7_chainOf_74 at h
  obtain ⟨x4_1, ex4_1⟩ : ∃ y : Int32, y = (x4 + (1 : Int32)) := ⟨_, rfl⟩
  replace h := h x4_1 ex4_1
  refine lv_iinc (v := x4_1) (lv' := [(4, .int x4_1), (0, .ref (qS 0)), (2, .int x2), (3, .int x3)]) hx hb dX7_chainOf_74 hl (k := 3) rfl (by rw [ex4_1]; rfl) (by decide) rfl (fun ls hl => ?_)
  refine lv_goto (tgt := 15) hx hb dX7_chainOf_77 (by decide) ?_
  exact hK15 x2 x3 x4_1 H locs ls hw (lv_sub hl [1, 2, 3, 0] rfl) h
set_option maxHeartbeats 4000000 in
set_option maxRecDepth 100000 in
theorem kX7_chainOf_52 {p : Program} {l : Launch} {e : Env} {s : State} {m : MethodId} {args : Array Value} {below : List Frame} {meth : Method} {c : Code} {z : KT} {A : Nat → Prop} {qS : Nat → Nat} {K6 : Int32 → Int32 → Prop} {K15 : Int32 → Int32 → Int32 → Prop} {S : RT} {Q : Int32 → Prop} (M : Mc p s m args meth c cX7_chainOf 5 (some .int) RX7 z A) (hK6 : ∀ (x2 : Int32) (x3 : Int32) (H : Heap) (locs : List Loc) (ls : Array Slot), Hw s z A (sW z qS S) H locs → lv_has ls 5 [(0, .ref (qS 0)), (2, .int x2), (3, .int x3)] → K6 x2 x3 → W p l e rmX7_chainOf s m args below meth c H locs 0 0 (MQ below (va_Qi (fun (r : Int32) (_ : Unit) => Q r) (fun u t => cAt z A ((fun _ : Unit => (sW z qS S)) u) t) A) args s 0 0 A) (F0 m 6 ls [])) (hK15 : ∀ (x2 : Int32) (x3 : Int32) (x4 : Int32) (H : Heap) (locs : List Loc) (ls : Array Slot), Hw s z A (sW z qS S) H locs → lv_has ls 5 [(0, .ref (qS 0)), (2, .int x2), (3, .int x3), (4, .int x4)] → K15 x2 x3 x4 → W p l e rmX7_chainOf s m args below meth c H locs 0 0 (MQ below (va_Qi (fun (r : Int32) (_ : Unit) => Q r) (fun u t => cAt z A ((fun _ : Unit => (sW z qS S)) u) t) A) args s 0 0 A) (F0 m 15 ls [])) : ∀ (x2 : Int32) (x3 : Int32) (x4 : Int32) (H : Heap) (locs : List Loc) (ls : Array Slot), Hw s z A (sW z qS S) H locs → lv_has ls 5 [(0, .ref (qS 0)), (2, .int x2), (3, .int x3), (4, .int x4)] → bX7_chainOf_52 K6 K15 S Q x2 x3 x4 → W p l e rmX7_chainOf s m args below meth c H locs 0 0 (MQ below (va_Qi (fun (r : Int32) (_ : Unit) => Q r) (fun u t => cAt z A ((fun _ : Unit => (sW z qS S)) u) t) A) args s 0 0 A) (F0 m 52 ls []) := by
  obtain ⟨hx, hb, -, -, hown, hts, -, -, -, hN, hsr, -⟩ := id M
  intro x2 x3 x4 H locs ls hw hl h
  unfold bX7_chainOf_52 at h
  refine lv_iload_n hx hb dX7_chainOf_52 rfl (lv_at hl 1 rfl) ?_
  refine lv_iconst (v := 1) hx hb dX7_chainOf_53 (by decide) ?_
  refine lv_aload_n hx hb dX7_chainOf_54 rfl (lv_at hl 0 rfl) ?_
  refine gt_f (v := .ref (qS 7)) M inlX7 hw 0 rfl rfl 6 (by decide) fl_X7_28 rfl rfl dX7_chainOf_55 ?_
  refine lv_iload hx hb dX7_chainOf_58 (lv_at hl 3 rfl) ?_
  obtain ⟨a_1, h⟩ := h
  refine ld_i M hw 7 rfl a_1 dX7_chainOf_60 ?_
  refine lv_ishl hx hb dX7_chainOf_61 ?_
  refine lv_iconst (v := 1) hx hb dX7_chainOf_62 (by decide) ?_
  refine lv_aload_n hx hb dX7_chainOf_63 rfl (lv_at hl 0 rfl) ?_
  refine gt_f (v := .ref (qS 8)) M inlX7 hw 0 rfl rfl 7 (by decide) fl_X7_31 rfl rfl dX7_chainOf_64 ?_
  refine lv_iload hx hb dX7_chainOf_67 (lv_at hl 3 rfl) ?_
  refine ld_i M hw 8 rfl a_1 dX7_chainOf_69 ?_
  refine lv_ishl hx hb dX7_chainOf_70 ?_
  refine lv_ior hx hb dX7_chainOf_71 ?_
  refine lv_ior hx hb dX7_chainOf_72 ?_
  refine lv_topi (fun x2_2 ex2_2 => ?_)
  replace h := h x2_2 ex2_2
  refine lv_istore_n (lv' := [(2, .int x2_2), (0, .ref (qS 0)), (3, .int x3), (4, .int x4)]) hx hb dX7_chainOf_73 rfl hl (by decide) rfl (fun ls hl => ?_)
  exact kX7_chainOf_74 M hK6 hK15 x2_2 x3 x4 H locs ls hw (lv_sub hl [1, 0, 2, 3] rfl) h
set_option maxHeartbeats 4000000 in
set_option maxRecDepth 100000 in
theorem kX7_chainOf_15 {p : Program} {l : Launch} {e : Env} {s : State} {m : MethodId} {args : Array Value} {below : List Frame} {meth : Method} {c : Code} {z : KT} {A : Nat → Prop} {qS : Nat → Nat} {K6 : Int32 → Int32 → Prop} {S : RT} {Q : Int32 → Prop} (M : Mc p s m args meth c cX7_chainOf 5 (some .int) RX7 z A) (hK6 : ∀ (x2 : Int32) (x3 : Int32) (H : Heap) (locs : List Loc) (ls : Array Slot), Hw s z A (sW z qS S) H locs → lv_has ls 5 [(0, .ref (qS 0)), (2, .int x2), (3, .int x3)] → K6 x2 x3 → W p l e rmX7_chainOf s m args below meth c H locs 0 0 (MQ below (va_Qi (fun (r : Int32) (_ : Unit) => Q r) (fun u t => cAt z A ((fun _ : Unit => (sW z qS S)) u) t) A) args s 0 0 A) (F0 m 6 ls [])) : ∀ (n : Nat) (x2 : Int32) (x3 : Int32) (x4 : Int32) (H : Heap) (locs : List Loc) (ls : Array Slot), Hw s z A (sW z qS S) H locs → lv_has ls 5 [(0, .ref (qS 0)), (2, .int x2), (3, .int x3), (4, .int x4)] → bX7_chainOf_15 K6 S Q n x2 x3 x4 → W p l e rmX7_chainOf s m args below meth c H locs 0 0 (MQ below (va_Qi (fun (r : Int32) (_ : Unit) => Q r) (fun u t => cAt z A ((fun _ : Unit => (sW z qS S)) u) t) A) args s 0 0 A) (F0 m 15 ls []) := by
  obtain ⟨hx, hb, -, -, hown, hts, -, -, -, hN, hsr, -⟩ := id M
  intro n
  induction n with
  | zero => intro x2 x3 x4 H locs ls hw hl h; exact False.elim h
  | succ n ih =>
    intro x2 x3 x4 H locs ls hw hl h
    rw [bX7_chainOf_15] at h
    refine lv_iload hx hb dX7_chainOf_15 (lv_at hl 3 rfl) ?_
    refine lv_aload_n hx hb dX7_chainOf_17 rfl (lv_at hl 0 rfl) ?_
    refine gt_f (v := .int (S 30 9)) M inlX7 hw 0 rfl rfl 9 (by decide) fl_X7_67 rfl rfl dX7_chainOf_18 ?_
    refine lv_icmp_ge (tgt := 80) hx hb dX7_chainOf_21 (by decide) (fun c_1 => ?_) (fun c_1 => ?_)
    · replace h := iT c_1 h
      obtain ⟨x3_2, ex3_2⟩ : ∃ y : Int32, y = (x3 + (1 : Int32)) := ⟨_, rfl⟩
      replace h := h x3_2 ex3_2
      refine lv_iinc (v := x3_2) (lv' := [(3, .int x3_2), (0, .ref (qS 0)), (2, .int x2), (4, .int x4)]) hx hb dX7_chainOf_80 hl (k := 2) rfl (by rw [ex3_2]; rfl) (by decide) rfl (fun ls hl => ?_)
      refine lv_goto (tgt := 6) hx hb dX7_chainOf_83 (by decide) ?_
      exact hK6 x2 x3_2 H locs ls hw (lv_sub hl [1, 2, 0] rfl) h
    · replace h := iF c_1 h
      refine lv_iload_n hx hb dX7_chainOf_24 rfl (lv_at hl 1 rfl) ?_
      refine lv_aload_n hx hb dX7_chainOf_25 rfl (lv_at hl 0 rfl) ?_
      refine gt_f (v := .ref (qS 7)) M inlX7 hw 0 rfl rfl 6 (by decide) fl_X7_28 rfl rfl dX7_chainOf_26 ?_
      refine lv_iload hx hb dX7_chainOf_29 (lv_at hl 3 rfl) ?_
      obtain ⟨a_3, h⟩ := h
      refine ld_i M hw 7 rfl a_3 dX7_chainOf_31 ?_
      refine fr_Si (wN := fun _ : Unit => (sW z qS S)) M (m_X7_has l z x2 (S 6 (x4).toNatClampNeg) _ h) (va_cwS 2 hts (gdS cd_X7_has ml_X7_243 st_X7_has in_X7) rfl rfl rfl hdS_X7_has ⟨(Nat.le_of_ble_eq_true rfl), (Nat.le_of_ble_eq_true rfl)⟩) (Cut.none _) (Prm.none _) hw rfl hl.1 rfl (Nat.le_of_ble_eq_true rfl) dX7_chainOf_32 (fun r_4 u_ H locs h hw => ?_)
      have hw : Hw s z A (sW z qS S) H locs := hw
      try dsimp only at h
      refine lv_if_ne (tgt := 52) hx hb dX7_chainOf_35 (by decide) (fun c_5 => ?_) (fun c_5 => ?_)
      · replace h := iF c_5 h
        exact kX7_chainOf_52 M hK6 ih x2 x3 x4 H locs ls hw (lv_sub hl [0, 1, 2, 3] rfl) h
      · replace h := iT c_5 h
        refine lv_iload_n hx hb dX7_chainOf_38 rfl (lv_at hl 1 rfl) ?_
        refine lv_aload_n hx hb dX7_chainOf_39 rfl (lv_at hl 0 rfl) ?_
        refine gt_f (v := .ref (qS 8)) M inlX7 hw 0 rfl rfl 7 (by decide) fl_X7_31 rfl rfl dX7_chainOf_40 ?_
        refine lv_iload hx hb dX7_chainOf_43 (lv_at hl 3 rfl) ?_
        refine ld_i M hw 8 rfl a_3 dX7_chainOf_45 ?_
        refine fr_Si (wN := fun _ : Unit => (sW z qS S)) M (m_X7_has l z x2 (S 7 (x4).toNatClampNeg) _ h) (va_cwS 2 hts (gdS cd_X7_has ml_X7_243 st_X7_has in_X7) rfl rfl rfl hdS_X7_has ⟨(Nat.le_of_ble_eq_true rfl), (Nat.le_of_ble_eq_true rfl)⟩) (Cut.none _) (Prm.none _) hw rfl hl.1 rfl (Nat.le_of_ble_eq_true rfl) dX7_chainOf_46 (fun r_6 u_ H locs h hw => ?_)
        have hw : Hw s z A (sW z qS S) H locs := hw
        try dsimp only at h
        refine lv_if_eq (tgt := 74) hx hb dX7_chainOf_49 (by decide) (fun c_7 => ?_) (fun c_7 => ?_)
        · replace h := iT c_7 h
          exact kX7_chainOf_74 M hK6 ih x2 x3 x4 H locs ls hw (lv_sub hl [0, 1, 2, 3] rfl) h
        · replace h := iF c_7 h
          exact kX7_chainOf_52 M hK6 ih x2 x3 x4 H locs ls hw (lv_sub hl [0, 1, 2, 3] rfl) h
set_option maxHeartbeats 4000000 in
set_option maxRecDepth 100000 in
theorem kX7_chainOf_6 {p : Program} {l : Launch} {e : Env} {s : State} {m : MethodId} {args : Array Value} {below : List Frame} {meth : Method} {c : Code} {z : KT} {A : Nat → Prop} {qS : Nat → Nat} {S : RT} {Q : Int32 → Prop} (M : Mc p s m args meth c cX7_chainOf 5 (some .int) RX7 z A) : ∀ (n : Nat) (x2 : Int32) (x3 : Int32) (H : Heap) (locs : List Loc) (ls : Array Slot), Hw s z A (sW z qS S) H locs → lv_has ls 5 [(0, .ref (qS 0)), (2, .int x2), (3, .int x3)] → bX7_chainOf_6 S Q n x2 x3 → W p l e rmX7_chainOf s m args below meth c H locs 0 0 (MQ below (va_Qi (fun (r : Int32) (_ : Unit) => Q r) (fun u t => cAt z A ((fun _ : Unit => (sW z qS S)) u) t) A) args s 0 0 A) (F0 m 6 ls []) := by
  obtain ⟨hx, hb, -, -, hown, hts, -, -, -, hN, hsr, -⟩ := id M
  intro n
  induction n with
  | zero => intro x2 x3 H locs ls hw hl h; exact False.elim h
  | succ n ih =>
    intro x2 x3 H locs ls hw hl h
    rw [bX7_chainOf_6] at h
    refine lv_iload_n hx hb dX7_chainOf_6 rfl (lv_at hl 2 rfl) ?_
    refine lv_bipush (v := 8) hx hb dX7_chainOf_7 (by decide) ?_
    refine lv_icmp_ge (tgt := 86) hx hb dX7_chainOf_9 (by decide) (fun c_1 => ?_) (fun c_1 => ?_)
    · replace h := iT c_1 h
      refine lv_iload_n hx hb dX7_chainOf_86 rfl (lv_at hl 1 rfl) ?_
      exact rt_i M () hw h dX7_chainOf_87
    · replace h := iF c_1 h
      refine lv_iconst (v := 0) hx hb dX7_chainOf_12 (by decide) ?_
      refine lv_istore (lv' := [(4, .int (0 : Int32)), (0, .ref (qS 0)), (2, .int x2), (3, .int x3)]) hx hb dX7_chainOf_13 hl (by decide) rfl (fun ls hl => ?_)
      obtain ⟨n0, h⟩ := h; exact kX7_chainOf_15 M ih n0 x2 x3 (0 : Int32) H locs ls hw (lv_sub hl [1, 2, 3, 0] rfl) h
set_option maxHeartbeats 4000000 in
set_option maxRecDepth 100000 in
theorem m_X7_chainOf (l : Launch) (z : KT) (qS : Nat → Nat) (S : RT) (x1 : Int32) (Q : Int32 → Prop) (h : wX7_chainOf S x1 Q) : CI l yX7_chainOf cX7_chainOf 5 .int rmX7_chainOf z [.ref (qS 0), .int x1] (sW z qS S) (fun _ : Unit => (sW z qS S)) (fun (r : Int32) (_ : Unit) => Q r) := by
  refine CI.of rfl (Nat.le_of_ble_eq_true rfl) ?_
  intro p e s m below meth c A ls M hw hl
  have M : Mc p s m _ meth c cX7_chainOf 5 (some .int) RX7 z A := M
  obtain ⟨hx, hb, -, -, hown, hts, -, -, -, hN, hsr, -⟩ := id M
  have hl : lv_has ls 5 [(0, .ref (qS 0)), (1, .int x1)] := hl
  unfold wX7_chainOf at h
  generalize s.heap = H at hw ⊢
  generalize ([] : List Loc) = locs at hw ⊢
  refine lv_iconst (v := 1) hx hb dX7_chainOf_0 (by decide) ?_
  refine lv_iload_n hx hb dX7_chainOf_1 rfl (lv_at hl 1 rfl) ?_
  refine lv_ishl hx hb dX7_chainOf_2 ?_
  refine lv_topi (fun x2_1 ex2_1 => ?_)
  replace h := h x2_1 ex2_1
  refine lv_istore_n (lv' := [(2, .int x2_1), (0, .ref (qS 0)), (1, .int x1)]) hx hb dX7_chainOf_3 rfl hl (by decide) rfl (fun ls hl => ?_)
  refine lv_iconst (v := 0) hx hb dX7_chainOf_4 (by decide) ?_
  refine lv_istore_n (lv' := [(3, .int (0 : Int32)), (2, .int x2_1), (0, .ref (qS 0)), (1, .int x1)]) hx hb dX7_chainOf_5 rfl hl (by decide) rfl (fun ls hl => ?_)
  obtain ⟨n0, h⟩ := h; exact kX7_chainOf_6 M n0 x2_1 (0 : Int32) H locs ls hw (lv_sub hl [2, 1, 0] rfl) h
abbrev rmX7_chain : Room := { frames := 2, cells := 0, slots := 0, locals := 45 }
set_option maxHeartbeats 4000000 in
set_option maxRecDepth 100000 in
theorem m_X7_chain (l : Launch) (z : KT) (qS : Nat → Nat) (S : RT) (x1 : Int32) (Q : Int32 → RT → Prop) (h : wX7_chain S x1 Q) : CI l yX7_chain cX7_chain 2 .int rmX7_chain z [.ref (qS 0), .int x1] (sW z qS S) (fun u : RT => (sW z qS u)) (fun (r : Int32) (u : RT) => Q r u) := by
  refine CI.of rfl (Nat.le_of_ble_eq_true rfl) ?_
  intro p e s m below meth c A ls M hw hl
  have M : Mc p s m _ meth c cX7_chain 2 (some .int) RX7 z A := M
  obtain ⟨hx, hb, -, -, hown, hts, -, -, -, hN, hsr, -⟩ := id M
  have hl : lv_has ls 2 [(0, .ref (qS 0)), (1, .int x1)] := hl
  unfold wX7_chain at h
  generalize s.heap = H at hw ⊢
  generalize ([] : List Loc) = locs at hw ⊢
  refine lv_aload_n hx hb dX7_chain_0 rfl (lv_at hl 0 rfl) ?_
  refine lv_iload_n hx hb dX7_chain_1 rfl (lv_at hl 1 rfl) ?_
  refine fr_Vi (wN := fun _ : Unit => (sW z qS S)) M (m_X7_isThing l z qS S x1 _ h) (cwV 1 hts (gdV cd_X7_isThing ml_X7_70 im_X7_isThing se_X7_isThing in_X7) rfl rfl rfl hdV_X7_isThing ⟨(Nat.le_of_ble_eq_true rfl), (Nat.le_of_ble_eq_true rfl)⟩) (Cut.self _) (Prm.self _ 17 (fun _ => rfl)) 0 rfl rfl rfl hw rfl hl.1 rfl (Nat.le_of_ble_eq_true rfl) dX7_chain_2 (fun r_1 u_ H locs h hw => ?_)
  have hw : Hw s z A (sW z qS S) H locs := hw
  try dsimp only at h
  refine lv_if_eq (tgt := 16) hx hb dX7_chain_5 (by decide) (fun c_2 => ?_) (fun c_2 => ?_)
  · replace h := iT c_2 h
    refine lv_aload_n hx hb dX7_chain_16 rfl (lv_at hl 0 rfl) ?_
    refine lv_iconst (v := -1) hx hb dX7_chain_17 (by decide) ?_
    refine fr_Vi (wN := fun u : RT => (sW z qS u)) M (m_X7_no l z qS S (-1 : Int32) _ h) (cwV 1 hts (gdV cd_X7_no ml_X7_81 im_X7_no se_X7_no in_X7) rfl rfl rfl hdV_X7_no ⟨(Nat.le_of_ble_eq_true rfl), (Nat.le_of_ble_eq_true rfl)⟩) (Cut.self _) (Prm.self _ 17 (fun _ => rfl)) 0 rfl rfl rfl hw rfl hl.1 rfl (Nat.le_of_ble_eq_true rfl) dX7_chain_18 (fun r_4 u_ H locs h hw => ?_)
    obtain ⟨S_3, rfl⟩ : ∃ z9 : RT, z9 = u_ := ⟨_, rfl⟩
    have hw : Hw s z A (sW z qS S_3) H locs := hw
    try dsimp only at h
    exact rt_i M S_3 hw h dX7_chain_21
  · replace h := iF c_2 h
    refine lv_aload_n hx hb dX7_chain_8 rfl (lv_at hl 0 rfl) ?_
    refine lv_iload_n hx hb dX7_chain_9 rfl (lv_at hl 1 rfl) ?_
    refine fr_Vi (wN := fun _ : Unit => (sW z qS S)) M (m_X7_chainOf l z qS S x1 _ h) (cwV 1 hts (gdV cd_X7_chainOf ml_X7_255 im_X7_chainOf se_X7_chainOf in_X7) rfl rfl rfl hdV_X7_chainOf ⟨(Nat.le_of_ble_eq_true rfl), (Nat.le_of_ble_eq_true rfl)⟩) (Cut.self _) (Prm.self _ 17 (fun _ => rfl)) 0 rfl rfl rfl hw rfl hl.1 rfl (Nat.le_of_ble_eq_true rfl) dX7_chain_10 (fun r_5 u_ H locs h hw => ?_)
    have hw : Hw s z A (sW z qS S) H locs := hw
    try dsimp only at h
    refine lv_goto (tgt := 21) hx hb dX7_chain_13 (by decide) ?_
    exact rt_i M S hw h dX7_chain_21
abbrev rmX7_chains : Room := { frames := 2, cells := 0, slots := 0, locals := 45 }
set_option maxHeartbeats 4000000 in
set_option maxRecDepth 100000 in
theorem kX7_chains_78 {p : Program} {l : Launch} {e : Env} {s : State} {m : MethodId} {args : Array Value} {below : List Frame} {meth : Method} {c : Code} {z : KT} {A : Nat → Prop} {qS : Nat → Nat} {K23 : RT → Int32 → Int32 → Int32 → Int32 → Prop} {Q : Int32 → RT → Prop} (M : Mc p s m args meth c cX7_chains 6 (some .int) RX7 z A) (hK23 : ∀ (S : RT) (x1 : Int32) (x2 : Int32) (x3 : Int32) (x4 : Int32) (H : Heap) (locs : List Loc) (ls : Array Slot), Hw s z A (sW z qS S) H locs → lv_has ls 6 [(0, .ref (qS 0)), (1, .int x1), (2, .int x2), (3, .int x3), (4, .int x4)] → K23 S x1 x2 x3 x4 → W p l e rmX7_chains s m args below meth c H locs 0 0 (MQ below (va_Qi (fun (r : Int32) (u : RT) => Q r u) (fun u t => cAt z A ((fun u : RT => (sW z qS u)) u) t) A) args s 0 0 A) (F0 m 23 ls [])) : ∀ (S : RT) (x1 : Int32) (x2 : Int32) (x4 : Int32) (t0 : Int32) (H : Heap) (locs : List Loc) (ls : Array Slot), Hw s z A (sW z qS S) H locs → lv_has ls 6 [(0, .ref (qS 0)), (1, .int x1), (2, .int x2), (4, .int x4)] → bX7_chains_78 K23 Q S x1 x2 x4 t0 → W p l e rmX7_chains s m args below meth c H locs 0 0 (MQ below (va_Qi (fun (r : Int32) (u : RT) => Q r u) (fun u t => cAt z A ((fun u : RT => (sW z qS u)) u) t) A) args s 0 0 A) (F0 m 78 ls [.int t0]) := by
  obtain ⟨hx, hb, -, -, hown, hts, -, -, -, hN, hsr, -⟩ := id M
  intro S x1 x2 x4 t0 H locs ls hw hl h
  unfold bX7_chains_78 at h
  refine lv_istore_n (lv' := [(3, .int t0), (0, .ref (qS 0)), (1, .int x1), (2, .int x2), (4, .int x4)]) hx hb dX7_chains_78 rfl hl (by decide) rfl (fun ls hl => ?_)
  obtain ⟨x4_1, ex4_1⟩ : ∃ y : Int32, y = (x4 + (1 : Int32)) := ⟨_, rfl⟩
  replace h := h x4_1 ex4_1
  refine lv_iinc (v := x4_1) (lv' := [(4, .int x4_1), (3, .int t0), (0, .ref (qS 0)), (1, .int x1), (2, .int x2)]) hx hb dX7_chains_79 hl (k := 4) rfl (by rw [ex4_1]; rfl) (by decide) rfl (fun ls hl => ?_)
  refine lv_goto (tgt := 23) hx hb dX7_chains_82 (by decide) ?_
  exact hK23 S x1 x2 t0 x4_1 H locs ls hw (lv_sub hl [2, 3, 4, 1, 0] rfl) h
set_option maxHeartbeats 4000000 in
set_option maxRecDepth 100000 in
theorem kX7_chains_58 {p : Program} {l : Launch} {e : Env} {s : State} {m : MethodId} {args : Array Value} {below : List Frame} {meth : Method} {c : Code} {z : KT} {A : Nat → Prop} {qS : Nat → Nat} {K23 : RT → Int32 → Int32 → Int32 → Int32 → Prop} {Q : Int32 → RT → Prop} (M : Mc p s m args meth c cX7_chains 6 (some .int) RX7 z A) (hK23 : ∀ (S : RT) (x1 : Int32) (x2 : Int32) (x3 : Int32) (x4 : Int32) (H : Heap) (locs : List Loc) (ls : Array Slot), Hw s z A (sW z qS S) H locs → lv_has ls 6 [(0, .ref (qS 0)), (1, .int x1), (2, .int x2), (3, .int x3), (4, .int x4)] → K23 S x1 x2 x3 x4 → W p l e rmX7_chains s m args below meth c H locs 0 0 (MQ below (va_Qi (fun (r : Int32) (u : RT) => Q r u) (fun u t => cAt z A ((fun u : RT => (sW z qS u)) u) t) A) args s 0 0 A) (F0 m 23 ls [])) : ∀ (S : RT) (x1 : Int32) (x3 : Int32) (x4 : Int32) (x5 : Int32) (t0 : Int32) (t1 : Int32) (H : Heap) (locs : List Loc) (ls : Array Slot), Hw s z A (sW z qS S) H locs → lv_has ls 6 [(0, .ref (qS 0)), (1, .int x1), (3, .int x3), (4, .int x4), (5, .int x5)] → bX7_chains_58 K23 Q S x1 x3 x4 x5 t0 t1 → W p l e rmX7_chains s m args below meth c H locs 0 0 (MQ below (va_Qi (fun (r : Int32) (u : RT) => Q r u) (fun u t => cAt z A ((fun u : RT => (sW z qS u)) u) t) A) args s 0 0 A) (F0 m 58 ls [.int t1, .int t0]) := by
  obtain ⟨hx, hb, -, -, hown, hts, -, -, -, hN, hsr, -⟩ := id M
  intro S x1 x3 x4 x5 t0 t1 H locs ls hw hl h
  unfold bX7_chains_58 at h
  refine lv_iadd hx hb dX7_chains_58 ?_
  refine lv_topi (fun x2_1 ex2_1 => ?_)
  replace h := h x2_1 ex2_1
  refine lv_istore_n (lv' := [(2, .int x2_1), (0, .ref (qS 0)), (1, .int x1), (3, .int x3), (4, .int x4), (5, .int x5)]) hx hb dX7_chains_59 rfl hl (by decide) rfl (fun ls hl => ?_)
  refine lv_iload hx hb dX7_chains_60 (lv_at hl 5 rfl) ?_
  refine fr_Si (wN := fun _ : Unit => (sW z qS S)) M (m_X7_bits l z x5 _ h) (va_cwS 1 hts (gdS cd_X7_bits ml_X7_246 st_X7_bits in_X7) rfl rfl rfl hdS_X7_bits ⟨(Nat.le_of_ble_eq_true rfl), (Nat.le_of_ble_eq_true rfl)⟩) (Cut.none _) (Prm.none _) hw rfl hl.1 rfl (Nat.le_of_ble_eq_true rfl) dX7_chains_62 (fun r_2 u_ H locs h hw => ?_)
  have hw : Hw s z A (sW z qS S) H locs := hw
  try dsimp only at h
  refine lv_iload_n hx hb dX7_chains_65 rfl (lv_at hl 3 rfl) ?_
  refine lv_icmp_le (tgt := 77) hx hb dX7_chains_66 (by decide) (fun c_3 => ?_) (fun c_3 => ?_)
  · replace h := iT c_3 h
    refine lv_iload_n hx hb dX7_chains_77 rfl (lv_at hl 3 rfl) ?_
    exact kX7_chains_78 M hK23 S x1 x2_1 x4 x3 H locs ls hw (lv_sub hl [1, 2, 0, 4] rfl) h
  · replace h := iF c_3 h
    refine lv_iload hx hb dX7_chains_69 (lv_at hl 5 rfl) ?_
    refine fr_Si (wN := fun _ : Unit => (sW z qS S)) M (m_X7_bits l z x5 _ h) (va_cwS 1 hts (gdS cd_X7_bits ml_X7_246 st_X7_bits in_X7) rfl rfl rfl hdS_X7_bits ⟨(Nat.le_of_ble_eq_true rfl), (Nat.le_of_ble_eq_true rfl)⟩) (Cut.none _) (Prm.none _) hw rfl hl.1 rfl (Nat.le_of_ble_eq_true rfl) dX7_chains_71 (fun r_4 u_ H locs h hw => ?_)
    have hw : Hw s z A (sW z qS S) H locs := hw
    try dsimp only at h
    refine lv_goto (tgt := 78) hx hb dX7_chains_74 (by decide) ?_
    exact kX7_chains_78 M hK23 S x1 x2_1 x4 r_4 H locs ls hw (lv_sub hl [1, 2, 0, 4] rfl) h
set_option maxHeartbeats 4000000 in
set_option maxRecDepth 100000 in
theorem kX7_chains_23 {p : Program} {l : Launch} {e : Env} {s : State} {m : MethodId} {args : Array Value} {below : List Frame} {meth : Method} {c : Code} {z : KT} {A : Nat → Prop} {qS : Nat → Nat} {Q : Int32 → RT → Prop} (M : Mc p s m args meth c cX7_chains 6 (some .int) RX7 z A) : ∀ (n : Nat) (S : RT) (x1 : Int32) (x2 : Int32) (x3 : Int32) (x4 : Int32) (H : Heap) (locs : List Loc) (ls : Array Slot), Hw s z A (sW z qS S) H locs → lv_has ls 6 [(0, .ref (qS 0)), (1, .int x1), (2, .int x2), (3, .int x3), (4, .int x4)] → bX7_chains_23 Q n S x1 x2 x3 x4 → W p l e rmX7_chains s m args below meth c H locs 0 0 (MQ below (va_Qi (fun (r : Int32) (u : RT) => Q r u) (fun u t => cAt z A ((fun u : RT => (sW z qS u)) u) t) A) args s 0 0 A) (F0 m 23 ls []) := by
  obtain ⟨hx, hb, -, -, hown, hts, -, -, -, hN, hsr, -⟩ := id M
  intro n
  induction n with
  | zero => intro S x1 x2 x3 x4 H locs ls hw hl h; exact False.elim h
  | succ n ih =>
    intro S x1 x2 x3 x4 H locs ls hw hl h
    rw [bX7_chains_23] at h
    refine lv_iload hx hb dX7_chains_23 (lv_at hl 4 rfl) ?_
    refine lv_aload_n hx hb dX7_chains_25 rfl (lv_at hl 0 rfl) ?_
    refine gt_f (v := .int (S 30 8)) M inlX7 hw 0 rfl rfl 8 (by decide) fl_X7_62 rfl rfl dX7_chains_26 ?_
    refine lv_icmp_ge (tgt := 85) hx hb dX7_chains_29 (by decide) (fun c_1 => ?_) (fun c_1 => ?_)
    · replace h := iT c_1 h
      refine lv_iload_n hx hb dX7_chains_85 rfl (lv_at hl 1 rfl) ?_
      refine lv_if_ne (tgt := 93) hx hb dX7_chains_86 (by decide) (fun c_2 => ?_) (fun c_2 => ?_)
      · replace h := iF c_2 h
        refine lv_iload_n hx hb dX7_chains_93 rfl (lv_at hl 1 rfl) ?_
        refine lv_iconst (v := 1) hx hb dX7_chains_94 (by decide) ?_
        refine lv_icmp_ne (tgt := 102) hx hb dX7_chains_95 (by decide) (fun c_3 => ?_) (fun c_3 => ?_)
        · replace h := iF c_3 h
          refine lv_aload_n hx hb dX7_chains_102 rfl (lv_at hl 0 rfl) ?_
          refine gt_f (v := .int (S 30 9)) M inlX7 hw 0 rfl rfl 9 (by decide) fl_X7_67 rfl rfl dX7_chains_103 ?_
          refine lv_aload_n hx hb dX7_chains_106 rfl (lv_at hl 0 rfl) ?_
          refine gt_f (v := .int (S 30 8)) M inlX7 hw 0 rfl rfl 8 (by decide) fl_X7_62 rfl rfl dX7_chains_107 ?_
          refine lv_iload_n hx hb dX7_chains_110 rfl (lv_at hl 2 rfl) ?_
          refine lv_isub hx hb dX7_chains_111 ?_
          refine lv_icmp_le (tgt := 119) hx hb dX7_chains_112 (by decide) (fun c_4 => ?_) (fun c_4 => ?_)
          · replace h := iT c_4 h
            refine lv_iconst (v := 0) hx hb dX7_chains_119 (by decide) ?_
            exact rt_i M S hw h dX7_chains_120
          · replace h := iF c_4 h
            refine lv_iconst (v := 1) hx hb dX7_chains_115 (by decide) ?_
            refine lv_goto (tgt := 120) hx hb dX7_chains_116 (by decide) ?_
            exact rt_i M S hw h dX7_chains_120
        · replace h := iT c_3 h
          refine lv_iload_n hx hb dX7_chains_98 rfl (lv_at hl 3 rfl) ?_
          refine lv_goto (tgt := 120) hx hb dX7_chains_99 (by decide) ?_
          exact rt_i M S hw h dX7_chains_120
      · replace h := iT c_2 h
        refine lv_iload_n hx hb dX7_chains_89 rfl (lv_at hl 2 rfl) ?_
        refine lv_goto (tgt := 120) hx hb dX7_chains_90 (by decide) ?_
        exact rt_i M S hw h dX7_chains_120
    · replace h := iF c_1 h
      refine lv_aload_n hx hb dX7_chains_32 rfl (lv_at hl 0 rfl) ?_
      refine lv_iload hx hb dX7_chains_33 (lv_at hl 4 rfl) ?_
      refine fr_Vi (wN := fun _ : Unit => (sW z qS S)) M (m_X7_chainOf l z qS S x4 _ h) (cwV 1 hts (gdV cd_X7_chainOf ml_X7_255 im_X7_chainOf se_X7_chainOf in_X7) rfl rfl rfl hdV_X7_chainOf ⟨(Nat.le_of_ble_eq_true rfl), (Nat.le_of_ble_eq_true rfl)⟩) (Cut.self _) (Prm.self _ 17 (fun _ => rfl)) 0 rfl rfl rfl hw rfl hl.1 rfl (Nat.le_of_ble_eq_true rfl) dX7_chains_35 (fun r_5 u_ H locs h hw => ?_)
      have hw : Hw s z A (sW z qS S) H locs := hw
      try dsimp only at h
      refine lv_istore (lv' := [(5, .int r_5), (0, .ref (qS 0)), (1, .int x1), (2, .int x2), (3, .int x3), (4, .int x4)]) hx hb dX7_chains_38 hl (by decide) rfl (fun ls hl => ?_)
      refine lv_iload_n hx hb dX7_chains_40 rfl (lv_at hl 3 rfl) ?_
      refine lv_iload hx hb dX7_chains_41 (lv_at hl 0 rfl) ?_
      refine lv_iconst (v := 1) hx hb dX7_chains_43 (by decide) ?_
      refine lv_iload hx hb dX7_chains_44 (lv_at hl 5 rfl) ?_
      refine lv_ishl hx hb dX7_chains_46 ?_
      refine lv_iconst (v := 1) hx hb dX7_chains_47 (by decide) ?_
      refine lv_isub hx hb dX7_chains_48 ?_
      refine lv_iand hx hb dX7_chains_49 ?_
      refine lv_if_ne (tgt := 57) hx hb dX7_chains_50 (by decide) (fun c_6 => ?_) (fun c_6 => ?_)
      · replace h := iF c_6 h
        refine lv_iconst (v := 0) hx hb dX7_chains_57 (by decide) ?_
        exact kX7_chains_58 M ih S x1 x3 x4 r_5 x2 (0 : Int32) H locs ls hw (lv_sub hl [1, 2, 4, 5, 0] rfl) h
      · replace h := iT c_6 h
        refine lv_iconst (v := 1) hx hb dX7_chains_53 (by decide) ?_
        refine lv_goto (tgt := 58) hx hb dX7_chains_54 (by decide) ?_
        exact kX7_chains_58 M ih S x1 x3 x4 r_5 x2 (1 : Int32) H locs ls hw (lv_sub hl [1, 2, 4, 5, 0] rfl) h
set_option maxHeartbeats 4000000 in
set_option maxRecDepth 100000 in
theorem m_X7_chains (l : Launch) (z : KT) (qS : Nat → Nat) (S : RT) (x1 : Int32) (Q : Int32 → RT → Prop) (h : wX7_chains S x1 Q) : CI l yX7_chains cX7_chains 6 .int rmX7_chains z [.ref (qS 0), .int x1] (sW z qS S) (fun u : RT => (sW z qS u)) (fun (r : Int32) (u : RT) => Q r u) := by
  refine CI.of rfl (Nat.le_of_ble_eq_true rfl) ?_
  intro p e s m below meth c A ls M hw hl
  have M : Mc p s m _ meth c cX7_chains 6 (some .int) RX7 z A := M
  obtain ⟨hx, hb, -, -, hown, hts, -, -, -, hN, hsr, -⟩ := id M
  have hl : lv_has ls 6 [(0, .ref (qS 0)), (1, .int x1)] := hl
  unfold wX7_chains at h
  generalize s.heap = H at hw ⊢
  generalize ([] : List Loc) = locs at hw ⊢
  refine lv_iload_n hx hb dX7_chains_0 rfl (lv_at hl 1 rfl) ?_
  refine lv_iconst (v := 0) hx hb dX7_chains_1 (by decide) ?_
  refine lv_iconst (v := 2) hx hb dX7_chains_2 (by decide) ?_
  refine fr_Si (wN := fun _ : Unit => (sW z qS S)) M (m_X7_isIn l z x1 (0 : Int32) (2 : Int32) _ h) (va_cwS 3 hts (gdS cd_X7_isIn ml_X7_92 st_X7_isIn in_X7) rfl rfl rfl hdS_X7_isIn ⟨(Nat.le_of_ble_eq_true rfl), (Nat.le_of_ble_eq_true rfl)⟩) (Cut.none _) (Prm.none _) hw rfl hl.1 rfl (Nat.le_of_ble_eq_true rfl) dX7_chains_3 (fun r_1 u_ H locs h hw => ?_)
  have hw : Hw s z A (sW z qS S) H locs := hw
  try dsimp only at h
  refine lv_if_ne (tgt := 16) hx hb dX7_chains_6 (by decide) (fun c_2 => ?_) (fun c_2 => ?_)
  · replace h := iF c_2 h
    refine lv_iconst (v := 0) hx hb dX7_chains_16 (by decide) ?_
    refine lv_istore_n (lv' := [(2, .int (0 : Int32)), (0, .ref (qS 0)), (1, .int x1)]) hx hb dX7_chains_17 rfl hl (by decide) rfl (fun ls hl => ?_)
    refine lv_iconst (v := 0) hx hb dX7_chains_18 (by decide) ?_
    refine lv_istore_n (lv' := [(3, .int (0 : Int32)), (2, .int (0 : Int32)), (0, .ref (qS 0)), (1, .int x1)]) hx hb dX7_chains_19 rfl hl (by decide) rfl (fun ls hl => ?_)
    refine lv_iconst (v := 0) hx hb dX7_chains_20 (by decide) ?_
    refine lv_istore (lv' := [(4, .int (0 : Int32)), (3, .int (0 : Int32)), (2, .int (0 : Int32)), (0, .ref (qS 0)), (1, .int x1)]) hx hb dX7_chains_21 hl (by decide) rfl (fun ls hl => ?_)
    obtain ⟨n0, h⟩ := h; exact kX7_chains_23 M n0 S x1 (0 : Int32) (0 : Int32) (0 : Int32) H locs ls hw (lv_sub hl [3, 4, 2, 1, 0] rfl) h
  · replace h := iT c_2 h
    refine lv_aload_n hx hb dX7_chains_9 rfl (lv_at hl 0 rfl) ?_
    refine lv_bipush (v := -2) hx hb dX7_chains_10 (by decide) ?_
    refine fr_Vi (wN := fun u : RT => (sW z qS u)) M (m_X7_no l z qS S (-2 : Int32) _ h) (cwV 1 hts (gdV cd_X7_no ml_X7_81 im_X7_no se_X7_no in_X7) rfl rfl rfl hdV_X7_no ⟨(Nat.le_of_ble_eq_true rfl), (Nat.le_of_ble_eq_true rfl)⟩) (Cut.self _) (Prm.self _ 17 (fun _ => rfl)) 0 rfl rfl rfl hw rfl hl.1 rfl (Nat.le_of_ble_eq_true rfl) dX7_chains_12 (fun r_4 u_ H locs h hw => ?_)
    obtain ⟨S_3, rfl⟩ : ∃ z9 : RT, z9 = u_ := ⟨_, rfl⟩
    have hw : Hw s z A (sW z qS S_3) H locs := hw
    try dsimp only at h
    exact rt_i M S_3 hw h dX7_chains_15
abbrev rmX7_sides : Room := { frames := 4, cells := 0, slots := 0, locals := 91 }
set_option maxHeartbeats 4000000 in
set_option maxRecDepth 100000 in
theorem kX7_sides_94 {p : Program} {l : Launch} {e : Env} {s : State} {m : MethodId} {args : Array Value} {below : List Frame} {meth : Method} {c : Code} {z : KT} {A : Nat → Prop} {qS : Nat → Nat} {K48 : RT → Int32 → Int32 → Int32 → Int32 → Int32 → Prop} {Q : Int32 → RT → Prop} (M : Mc p s m args meth c cX7_sides 7 (some .int) RX7 z A) (hK48 : ∀ (S : RT) (x1 : Int32) (x2 : Int32) (x3 : Int32) (x4 : Int32) (x5 : Int32) (H : Heap) (locs : List Loc) (ls : Array Slot), Hw s z A (sW z qS S) H locs → lv_has ls 7 [(0, .ref (qS 0)), (1, .int x1), (2, .int x2), (3, .int x3), (4, .int x4), (5, .int x5)] → K48 S x1 x2 x3 x4 x5 → W p l e rmX7_sides s m args below meth c H locs 0 0 (MQ below (va_Qi (fun (r : Int32) (u : RT) => Q r u) (fun u t => cAt z A ((fun u : RT => (sW z qS u)) u) t) A) args s 0 0 A) (F0 m 48 ls [])) : ∀ (S : RT) (x1 : Int32) (x2 : Int32) (x3 : Int32) (x4 : Int32) (x5 : Int32) (H : Heap) (locs : List Loc) (ls : Array Slot), Hw s z A (sW z qS S) H locs → lv_has ls 7 [(0, .ref (qS 0)), (1, .int x1), (2, .int x2), (3, .int x3), (4, .int x4), (5, .int x5)] → bX7_sides_94 K48 Q S x1 x2 x3 x4 x5 → W p l e rmX7_sides s m args below meth c H locs 0 0 (MQ below (va_Qi (fun (r : Int32) (u : RT) => Q r u) (fun u t => cAt z A ((fun u : RT => (sW z qS u)) u) t) A) args s 0 0 A) (F0 m 94 ls []) := by
  obtain ⟨hx, hb, -, -, hown, hts, -, -, -, hN, hsr, -⟩ := id M
  intro S x1 x2 x3 x4 x5 H locs ls hw hl h
  unfold bX7_sides_94 at h
  obtain ⟨x5_1, ex5_1⟩ : ∃ y : Int32, y = (x5 + (2 : Int32)) := ⟨_, rfl⟩
  replace h := h x5_1 ex5_1
  refine lv_iinc (v := x5_1) (lv' := [(5, .int x5_1), (0, .ref (qS 0)), (1, .int x1), (2, .int x2), (3, .int x3), (4, .int x4)]) hx hb dX7_sides_94 hl (k := 5) rfl (by rw [ex5_1]; rfl) (by decide) rfl (fun ls hl => ?_)
  refine lv_goto (tgt := 48) hx hb dX7_sides_97 (by decide) ?_
  exact hK48 S x1 x2 x3 x4 x5_1 H locs ls hw (lv_sub hl [1, 2, 3, 4, 5, 0] rfl) h
set_option maxHeartbeats 4000000 in
set_option maxRecDepth 100000 in
theorem kX7_sides_87 {p : Program} {l : Launch} {e : Env} {s : State} {m : MethodId} {args : Array Value} {below : List Frame} {meth : Method} {c : Code} {z : KT} {A : Nat → Prop} {qS : Nat → Nat} {K48 : RT → Int32 → Int32 → Int32 → Int32 → Int32 → Prop} {Q : Int32 → RT → Prop} (M : Mc p s m args meth c cX7_sides 7 (some .int) RX7 z A) (hK48 : ∀ (S : RT) (x1 : Int32) (x2 : Int32) (x3 : Int32) (x4 : Int32) (x5 : Int32) (H : Heap) (locs : List Loc) (ls : Array Slot), Hw s z A (sW z qS S) H locs → lv_has ls 7 [(0, .ref (qS 0)), (1, .int x1), (2, .int x2), (3, .int x3), (4, .int x4), (5, .int x5)] → K48 S x1 x2 x3 x4 x5 → W p l e rmX7_sides s m args below meth c H locs 0 0 (MQ below (va_Qi (fun (r : Int32) (u : RT) => Q r u) (fun u t => cAt z A ((fun u : RT => (sW z qS u)) u) t) A) args s 0 0 A) (F0 m 48 ls [])) : ∀ (S : RT) (x1 : Int32) (x2 : Int32) (x5 : Int32) (x6 : Int32) (H : Heap) (locs : List Loc) (ls : Array Slot), Hw s z A (sW z qS S) H locs → lv_has ls 7 [(0, .ref (qS 0)), (1, .int x1), (2, .int x2), (5, .int x5), (6, .int x6)] → bX7_sides_87 K48 Q S x1 x2 x5 x6 → W p l e rmX7_sides s m args below meth c H locs 0 0 (MQ below (va_Qi (fun (r : Int32) (u : RT) => Q r u) (fun u t => cAt z A ((fun u : RT => (sW z qS u)) u) t) A) args s 0 0 A) (F0 m 87 ls []) := by
  obtain ⟨hx, hb, -, -, hown, hts, -, -, -, hN, hsr, -⟩ := id M
  intro S x1 x2 x5 x6 H locs ls hw hl h
  unfold bX7_sides_87 at h
  refine lv_iload hx hb dX7_sides_87 (lv_at hl 3 rfl) ?_
  refine lv_istore_n (lv' := [(3, .int x5), (0, .ref (qS 0)), (1, .int x1), (2, .int x2), (5, .int x5), (6, .int x6)]) hx hb dX7_sides_89 rfl hl (by decide) rfl (fun ls hl => ?_)
  refine lv_iload hx hb dX7_sides_90 (lv_at hl 5 rfl) ?_
  refine lv_istore (lv' := [(4, .int x6), (3, .int x5), (0, .ref (qS 0)), (1, .int x1), (2, .int x2), (5, .int x5), (6, .int x6)]) hx hb dX7_sides_92 hl (by decide) rfl (fun ls hl => ?_)
  exact kX7_sides_94 M hK48 S x1 x2 x5 x6 x5 H locs ls hw (lv_sub hl [2, 3, 4, 1, 0, 5] rfl) h
set_option maxHeartbeats 4000000 in
set_option maxRecDepth 100000 in
theorem kX7_sides_48 {p : Program} {l : Launch} {e : Env} {s : State} {m : MethodId} {args : Array Value} {below : List Frame} {meth : Method} {c : Code} {z : KT} {A : Nat → Prop} {qS : Nat → Nat} {Q : Int32 → RT → Prop} (M : Mc p s m args meth c cX7_sides 7 (some .int) RX7 z A) : ∀ (n : Nat) (S : RT) (x1 : Int32) (x2 : Int32) (x3 : Int32) (x4 : Int32) (x5 : Int32) (H : Heap) (locs : List Loc) (ls : Array Slot), Hw s z A (sW z qS S) H locs → lv_has ls 7 [(0, .ref (qS 0)), (1, .int x1), (2, .int x2), (3, .int x3), (4, .int x4), (5, .int x5)] → bX7_sides_48 Q n S x1 x2 x3 x4 x5 → W p l e rmX7_sides s m args below meth c H locs 0 0 (MQ below (va_Qi (fun (r : Int32) (u : RT) => Q r u) (fun u t => cAt z A ((fun u : RT => (sW z qS u)) u) t) A) args s 0 0 A) (F0 m 48 ls []) := by
  obtain ⟨hx, hb, -, -, hown, hts, -, -, -, hN, hsr, -⟩ := id M
  intro n
  induction n with
  | zero => intro S x1 x2 x3 x4 x5 H locs ls hw hl h; exact False.elim h
  | succ n ih =>
    intro S x1 x2 x3 x4 x5 H locs ls hw hl h
    rw [bX7_sides_48] at h
    refine lv_iload hx hb dX7_sides_48 (lv_at hl 5 rfl) ?_
    refine lv_iconst (v := 1) hx hb dX7_sides_50 (by decide) ?_
    refine lv_aload_n hx hb dX7_sides_51 rfl (lv_at hl 0 rfl) ?_
    refine gt_f (v := .int (S 30 8)) M inlX7 hw 0 rfl rfl 8 (by decide) fl_X7_62 rfl rfl dX7_sides_52 ?_
    refine lv_ishl hx hb dX7_sides_55 ?_
    refine lv_icmp_ge (tgt := 100) hx hb dX7_sides_56 (by decide) (fun c_1 => ?_) (fun c_1 => ?_)
    · replace h := iT c_1 h
      refine lv_iload_n hx hb dX7_sides_100 rfl (lv_at hl 1 rfl) ?_
      refine lv_if_ne (tgt := 108) hx hb dX7_sides_101 (by decide) (fun c_2 => ?_) (fun c_2 => ?_)
      · replace h := iF c_2 h
        refine lv_iload hx hb dX7_sides_108 (lv_at hl 4 rfl) ?_
        exact rt_i M S hw h dX7_sides_110
      · replace h := iT c_2 h
        refine lv_iload_n hx hb dX7_sides_104 rfl (lv_at hl 3 rfl) ?_
        refine lv_goto (tgt := 110) hx hb dX7_sides_105 (by decide) ?_
        exact rt_i M S hw h dX7_sides_110
    · replace h := iF c_1 h
      refine lv_iconst (v := 2) hx hb dX7_sides_59 (by decide) ?_
      refine lv_aload_n hx hb dX7_sides_60 rfl (lv_at hl 0 rfl) ?_
      refine lv_iload hx hb dX7_sides_61 (lv_at hl 5 rfl) ?_
      refine fr_Vi (wN := fun _ : Unit => (sW z qS S)) M (m_X7_heftsOf l z qS S x5 _ h) (cwV 1 hts (gdV cd_X7_heftsOf ml_X7_249 im_X7_heftsOf se_X7_heftsOf in_X7) rfl rfl rfl hdV_X7_heftsOf ⟨(Nat.le_of_ble_eq_true rfl), (Nat.le_of_ble_eq_true rfl)⟩) (Cut.self _) (Prm.self _ 17 (fun _ => rfl)) 0 rfl rfl rfl hw rfl hl.1 rfl (Nat.le_of_ble_eq_true rfl) dX7_sides_63 (fun r_3 u_ H locs h hw => ?_)
      have hw : Hw s z A (sW z qS S) H locs := hw
      try dsimp only at h
      refine lv_imul hx hb dX7_sides_66 ?_
      refine lv_iload_n hx hb dX7_sides_67 rfl (lv_at hl 2 rfl) ?_
      refine fr_Si (wN := fun _ : Unit => (sW z qS S)) M (m_X7_far l z ((2 : Int32) * r_3) x2 _ h) (va_cwS 2 hts (gdS cd_X7_far ml_X7_252 st_X7_far in_X7) rfl rfl rfl hdS_X7_far ⟨(Nat.le_of_ble_eq_true rfl), (Nat.le_of_ble_eq_true rfl)⟩) (Cut.none _) (Prm.none _) hw rfl hl.1 rfl (Nat.le_of_ble_eq_true rfl) dX7_sides_68 (fun r_4 u_ H locs h hw => ?_)
      have hw : Hw s z A (sW z qS S) H locs := hw
      try dsimp only at h
      refine lv_istore (lv' := [(6, .int r_4), (0, .ref (qS 0)), (1, .int x1), (2, .int x2), (3, .int x3), (4, .int x4), (5, .int x5)]) hx hb dX7_sides_71 hl (by decide) rfl (fun ls hl => ?_)
      refine lv_iload_n hx hb dX7_sides_73 rfl (lv_at hl 4 rfl) ?_
      refine lv_if_lt (tgt := 87) hx hb dX7_sides_74 (by decide) (fun c_5 => ?_) (fun c_5 => ?_)
      · replace h := iT c_5 h
        exact kX7_sides_87 M ih S x1 x2 x5 r_4 H locs ls hw (lv_sub hl [1, 2, 3, 6, 0] rfl) h
      · replace h := iF c_5 h
        refine lv_iload hx hb dX7_sides_77 (lv_at hl 0 rfl) ?_
        refine lv_iload hx hb dX7_sides_79 (lv_at hl 5 rfl) ?_
        refine lv_icmp_lt (tgt := 87) hx hb dX7_sides_81 (by decide) (fun c_6 => ?_) (fun c_6 => ?_)
        · replace h := iT c_6 h
          exact kX7_sides_87 M ih S x1 x2 x5 r_4 H locs ls hw (lv_sub hl [1, 2, 3, 6, 0] rfl) h
        · replace h := iF c_6 h
          refine lv_goto (tgt := 94) hx hb dX7_sides_84 (by decide) ?_
          exact kX7_sides_94 M ih S x1 x2 x3 x4 x5 H locs ls hw (lv_sub hl [1, 2, 3, 4, 5, 6] rfl) h
set_option maxHeartbeats 4000000 in
set_option maxRecDepth 100000 in
theorem m_X7_sides (l : Launch) (z : KT) (qS : Nat → Nat) (S : RT) (x1 : Int32) (Q : Int32 → RT → Prop) (h : wX7_sides S x1 Q) : CI l yX7_sides cX7_sides 7 .int rmX7_sides z [.ref (qS 0), .int x1] (sW z qS S) (fun u : RT => (sW z qS u)) (fun (r : Int32) (u : RT) => Q r u) := by
  refine CI.of rfl (Nat.le_of_ble_eq_true rfl) ?_
  intro p e s m below meth c A ls M hw hl
  have M : Mc p s m _ meth c cX7_sides 7 (some .int) RX7 z A := M
  obtain ⟨hx, hb, -, -, hown, hts, -, -, -, hN, hsr, -⟩ := id M
  have hl : lv_has ls 7 [(0, .ref (qS 0)), (1, .int x1)] := hl
  unfold wX7_sides at h
  generalize s.heap = H at hw ⊢
  generalize ([] : List Loc) = locs at hw ⊢
  refine lv_iload_n hx hb dX7_sides_0 rfl (lv_at hl 1 rfl) ?_
  refine lv_iconst (v := 0) hx hb dX7_sides_1 (by decide) ?_
  refine lv_iconst (v := 1) hx hb dX7_sides_2 (by decide) ?_
  refine fr_Si (wN := fun _ : Unit => (sW z qS S)) M (m_X7_isIn l z x1 (0 : Int32) (1 : Int32) _ h) (va_cwS 3 hts (gdS cd_X7_isIn ml_X7_92 st_X7_isIn in_X7) rfl rfl rfl hdS_X7_isIn ⟨(Nat.le_of_ble_eq_true rfl), (Nat.le_of_ble_eq_true rfl)⟩) (Cut.none _) (Prm.none _) hw rfl hl.1 rfl (Nat.le_of_ble_eq_true rfl) dX7_sides_3 (fun r_1 u_ H locs h hw => ?_)
  have hw : Hw s z A (sW z qS S) H locs := hw
  try dsimp only at h
  refine lv_if_ne (tgt := 16) hx hb dX7_sides_6 (by decide) (fun c_2 => ?_) (fun c_2 => ?_)
  · replace h := iF c_2 h
    refine lv_aload_n hx hb dX7_sides_16 rfl (lv_at hl 0 rfl) ?_
    refine gt_f (v := .int (S 30 8)) M inlX7 hw 0 rfl rfl 8 (by decide) fl_X7_62 rfl rfl dX7_sides_17 ?_
    refine lv_if_ne (tgt := 26) hx hb dX7_sides_20 (by decide) (fun c_3 => ?_) (fun c_3 => ?_)
    · replace h := iF c_3 h
      refine lv_aload_n hx hb dX7_sides_26 rfl (lv_at hl 0 rfl) ?_
      refine lv_iconst (v := 1) hx hb dX7_sides_27 (by decide) ?_
      refine lv_aload_n hx hb dX7_sides_28 rfl (lv_at hl 0 rfl) ?_
      refine gt_f (v := .int (S 30 8)) M inlX7 hw 0 rfl rfl 8 (by decide) fl_X7_62 rfl rfl dX7_sides_29 ?_
      refine lv_ishl hx hb dX7_sides_32 ?_
      refine lv_iconst (v := 1) hx hb dX7_sides_33 (by decide) ?_
      refine lv_isub hx hb dX7_sides_34 ?_
      refine fr_Vi (wN := fun _ : Unit => (sW z qS S)) M (m_X7_heftsOf l z qS S (((1 : Int32) <<< ((S 30 8) &&& 31)) - (1 : Int32)) _ h) (cwV 1 hts (gdV cd_X7_heftsOf ml_X7_249 im_X7_heftsOf se_X7_heftsOf in_X7) rfl rfl rfl hdV_X7_heftsOf ⟨(Nat.le_of_ble_eq_true rfl), (Nat.le_of_ble_eq_true rfl)⟩) (Cut.self _) (Prm.self _ 17 (fun _ => rfl)) 0 rfl rfl rfl hw rfl hl.1 rfl (Nat.le_of_ble_eq_true rfl) dX7_sides_35 (fun r_4 u_ H locs h hw => ?_)
      have hw : Hw s z A (sW z qS S) H locs := hw
      try dsimp only at h
      refine lv_istore_n (lv' := [(2, .int r_4), (0, .ref (qS 0)), (1, .int x1)]) hx hb dX7_sides_38 rfl hl (by decide) rfl (fun ls hl => ?_)
      refine lv_bipush (v := -9) hx hb dX7_sides_39 (by decide) ?_
      refine lv_istore_n (lv' := [(3, .int (-9 : Int32)), (2, .int r_4), (0, .ref (qS 0)), (1, .int x1)]) hx hb dX7_sides_41 rfl hl (by decide) rfl (fun ls hl => ?_)
      refine lv_iconst (v := 0) hx hb dX7_sides_42 (by decide) ?_
      refine lv_istore (lv' := [(4, .int (0 : Int32)), (3, .int (-9 : Int32)), (2, .int r_4), (0, .ref (qS 0)), (1, .int x1)]) hx hb dX7_sides_43 hl (by decide) rfl (fun ls hl => ?_)
      refine lv_iconst (v := 1) hx hb dX7_sides_45 (by decide) ?_
      refine lv_istore (lv' := [(5, .int (1 : Int32)), (4, .int (0 : Int32)), (3, .int (-9 : Int32)), (2, .int r_4), (0, .ref (qS 0)), (1, .int x1)]) hx hb dX7_sides_46 hl (by decide) rfl (fun ls hl => ?_)
      obtain ⟨n0, h⟩ := h; exact kX7_sides_48 M n0 S x1 r_4 (-9 : Int32) (0 : Int32) (1 : Int32) H locs ls hw (lv_sub hl [4, 5, 3, 2, 1, 0] rfl) h
    · replace h := iT c_3 h
      refine lv_bipush (v := -9) hx hb dX7_sides_23 (by decide) ?_
      exact rt_i M S hw h dX7_sides_25
  · replace h := iT c_2 h
    refine lv_aload_n hx hb dX7_sides_9 rfl (lv_at hl 0 rfl) ?_
    refine lv_bipush (v := -2) hx hb dX7_sides_10 (by decide) ?_
    refine fr_Vi (wN := fun u : RT => (sW z qS u)) M (m_X7_no l z qS S (-2 : Int32) _ h) (cwV 1 hts (gdV cd_X7_no ml_X7_81 im_X7_no se_X7_no in_X7) rfl rfl rfl hdV_X7_no ⟨(Nat.le_of_ble_eq_true rfl), (Nat.le_of_ble_eq_true rfl)⟩) (Cut.self _) (Prm.self _ 17 (fun _ => rfl)) 0 rfl rfl rfl hw rfl hl.1 rfl (Nat.le_of_ble_eq_true rfl) dX7_sides_12 (fun r_6 u_ H locs h hw => ?_)
    obtain ⟨S_5, rfl⟩ : ∃ z9 : RT, z9 = u_ := ⟨_, rfl⟩
    have hw : Hw s z A (sW z qS S_5) H locs := hw
    try dsimp only at h
    exact rt_i M S_5 hw h dX7_sides_15
abbrev rmX7_hauledFrom : Room := { frames := 4, cells := 0, slots := 0, locals := 90 }
set_option maxHeartbeats 4000000 in
set_option maxRecDepth 100000 in
theorem kX7_hauledFrom_77 {p : Program} {l : Launch} {e : Env} {s : State} {m : MethodId} {args : Array Value} {below : List Frame} {meth : Method} {c : Code} {z : KT} {A : Nat → Prop} {qS : Nat → Nat} {K4 : Int32 → Int32 → Int32 → Prop} {K13 : Int32 → Int32 → Int32 → Int32 → Prop} {S : RT} {Q : Int32 → Prop} (M : Mc p s m args meth c cX7_hauledFrom 7 (some .int) RX7 z A) (hK4 : ∀ (x1 : Int32) (x2 : Int32) (x3 : Int32) (H : Heap) (locs : List Loc) (ls : Array Slot), Hw s z A (sW z qS S) H locs → lv_has ls 7 [(0, .ref (qS 0)), (1, .int x1), (2, .int x2), (3, .int x3)] → K4 x1 x2 x3 → W p l e rmX7_hauledFrom s m args below meth c H locs 0 0 (MQ below (va_Qi (fun (r : Int32) (_ : Unit) => Q r) (fun u t => cAt z A ((fun _ : Unit => (sW z qS S)) u) t) A) args s 0 0 A) (F0 m 4 ls [])) (hK13 : ∀ (x1 : Int32) (x2 : Int32) (x3 : Int32) (x4 : Int32) (H : Heap) (locs : List Loc) (ls : Array Slot), Hw s z A (sW z qS S) H locs → lv_has ls 7 [(0, .ref (qS 0)), (1, .int x1), (2, .int x2), (3, .int x3), (4, .int x4)] → K13 x1 x2 x3 x4 → W p l e rmX7_hauledFrom s m args below meth c H locs 0 0 (MQ below (va_Qi (fun (r : Int32) (_ : Unit) => Q r) (fun u t => cAt z A ((fun _ : Unit => (sW z qS S)) u) t) A) args s 0 0 A) (F0 m 13 ls [])) : ∀ (x1 : Int32) (x2 : Int32) (x3 : Int32) (x4 : Int32) (H : Heap) (locs : List Loc) (ls : Array Slot), Hw s z A (sW z qS S) H locs → lv_has ls 7 [(0, .ref (qS 0)), (1, .int x1), (2, .int x2), (3, .int x3), (4, .int x4)] → bX7_hauledFrom_77 K4 K13 S Q x1 x2 x3 x4 → W p l e rmX7_hauledFrom s m args below meth c H locs 0 0 (MQ below (va_Qi (fun (r : Int32) (_ : Unit) => Q r) (fun u t => cAt z A ((fun _ : Unit => (sW z qS S)) u) t) A) args s 0 0 A) (F0 m 77 ls []) := by
  obtain ⟨hx, hb, -, -, hown, hts, -, -, -, hN, hsr, -⟩ := id M
  intro x1 x2 x3 x4 H locs ls hw hl h
  unfold bX7_hauledFrom_77 at h
  obtain ⟨x4_1, ex4_1⟩ : ∃ y : Int32, y = (x4 + (1 : Int32)) := ⟨_, rfl⟩
  replace h := h x4_1 ex4_1
  refine lv_iinc (v := x4_1) (lv' := [(4, .int x4_1), (0, .ref (qS 0)), (1, .int x1), (2, .int x2), (3, .int x3)]) hx hb dX7_hauledFrom_77 hl (k := 4) rfl (by rw [ex4_1]; rfl) (by decide) rfl (fun ls hl => ?_)
  refine lv_goto (tgt := 13) hx hb dX7_hauledFrom_80 (by decide) ?_
  exact hK13 x1 x2 x3 x4_1 H locs ls hw (lv_sub hl [1, 2, 3, 4, 0] rfl) h
set_option maxHeartbeats 4000000 in
set_option maxRecDepth 100000 in
theorem kX7_hauledFrom_70 {p : Program} {l : Launch} {e : Env} {s : State} {m : MethodId} {args : Array Value} {below : List Frame} {meth : Method} {c : Code} {z : KT} {A : Nat → Prop} {qS : Nat → Nat} {K4 : Int32 → Int32 → Int32 → Prop} {K13 : Int32 → Int32 → Int32 → Int32 → Prop} {S : RT} {Q : Int32 → Prop} (M : Mc p s m args meth c cX7_hauledFrom 7 (some .int) RX7 z A) (hK4 : ∀ (x1 : Int32) (x2 : Int32) (x3 : Int32) (H : Heap) (locs : List Loc) (ls : Array Slot), Hw s z A (sW z qS S) H locs → lv_has ls 7 [(0, .ref (qS 0)), (1, .int x1), (2, .int x2), (3, .int x3)] → K4 x1 x2 x3 → W p l e rmX7_hauledFrom s m args below meth c H locs 0 0 (MQ below (va_Qi (fun (r : Int32) (_ : Unit) => Q r) (fun u t => cAt z A ((fun _ : Unit => (sW z qS S)) u) t) A) args s 0 0 A) (F0 m 4 ls [])) (hK13 : ∀ (x1 : Int32) (x2 : Int32) (x3 : Int32) (x4 : Int32) (H : Heap) (locs : List Loc) (ls : Array Slot), Hw s z A (sW z qS S) H locs → lv_has ls 7 [(0, .ref (qS 0)), (1, .int x1), (2, .int x2), (3, .int x3), (4, .int x4)] → K13 x1 x2 x3 x4 → W p l e rmX7_hauledFrom s m args below meth c H locs 0 0 (MQ below (va_Qi (fun (r : Int32) (_ : Unit) => Q r) (fun u t => cAt z A ((fun _ : Unit => (sW z qS S)) u) t) A) args s 0 0 A) (F0 m 13 ls [])) : ∀ (x1 : Int32) (x2 : Int32) (x3 : Int32) (x4 : Int32) (x5 : Int32) (H : Heap) (locs : List Loc) (ls : Array Slot), Hw s z A (sW z qS S) H locs → lv_has ls 7 [(0, .ref (qS 0)), (1, .int x1), (2, .int x2), (3, .int x3), (4, .int x4), (5, .int x5)] → bX7_hauledFrom_70 K4 K13 S Q x1 x2 x3 x4 x5 → W p l e rmX7_hauledFrom s m args below meth c H locs 0 0 (MQ below (va_Qi (fun (r : Int32) (_ : Unit) => Q r) (fun u t => cAt z A ((fun _ : Unit => (sW z qS S)) u) t) A) args s 0 0 A) (F0 m 70 ls []) := by
  obtain ⟨hx, hb, -, -, hown, hts, -, -, -, hN, hsr, -⟩ := id M
  intro x1 x2 x3 x4 x5 H locs ls hw hl h
  unfold bX7_hauledFrom_70 at h
  refine lv_iload_n hx hb dX7_hauledFrom_70 rfl (lv_at hl 2 rfl) ?_
  refine lv_iconst (v := 1) hx hb dX7_hauledFrom_71 (by decide) ?_
  refine lv_iload hx hb dX7_hauledFrom_72 (lv_at hl 5 rfl) ?_
  refine lv_ishl hx hb dX7_hauledFrom_74 ?_
  refine lv_ior hx hb dX7_hauledFrom_75 ?_
  refine lv_topi (fun x2_1 ex2_1 => ?_)
  replace h := h x2_1 ex2_1
  refine lv_istore_n (lv' := [(2, .int x2_1), (0, .ref (qS 0)), (1, .int x1), (3, .int x3), (4, .int x4), (5, .int x5)]) hx hb dX7_hauledFrom_76 rfl hl (by decide) rfl (fun ls hl => ?_)
  exact kX7_hauledFrom_77 M hK4 hK13 x1 x2_1 x3 x4 H locs ls hw (lv_sub hl [1, 2, 0, 3, 4] rfl) h
set_option maxHeartbeats 4000000 in
set_option maxRecDepth 100000 in
theorem kX7_hauledFrom_13 {p : Program} {l : Launch} {e : Env} {s : State} {m : MethodId} {args : Array Value} {below : List Frame} {meth : Method} {c : Code} {z : KT} {A : Nat → Prop} {qS : Nat → Nat} {K4 : Int32 → Int32 → Int32 → Prop} {S : RT} {Q : Int32 → Prop} (M : Mc p s m args meth c cX7_hauledFrom 7 (some .int) RX7 z A) (hK4 : ∀ (x1 : Int32) (x2 : Int32) (x3 : Int32) (H : Heap) (locs : List Loc) (ls : Array Slot), Hw s z A (sW z qS S) H locs → lv_has ls 7 [(0, .ref (qS 0)), (1, .int x1), (2, .int x2), (3, .int x3)] → K4 x1 x2 x3 → W p l e rmX7_hauledFrom s m args below meth c H locs 0 0 (MQ below (va_Qi (fun (r : Int32) (_ : Unit) => Q r) (fun u t => cAt z A ((fun _ : Unit => (sW z qS S)) u) t) A) args s 0 0 A) (F0 m 4 ls [])) : ∀ (n : Nat) (x1 : Int32) (x2 : Int32) (x3 : Int32) (x4 : Int32) (H : Heap) (locs : List Loc) (ls : Array Slot), Hw s z A (sW z qS S) H locs → lv_has ls 7 [(0, .ref (qS 0)), (1, .int x1), (2, .int x2), (3, .int x3), (4, .int x4)] → bX7_hauledFrom_13 K4 S Q n x1 x2 x3 x4 → W p l e rmX7_hauledFrom s m args below meth c H locs 0 0 (MQ below (va_Qi (fun (r : Int32) (_ : Unit) => Q r) (fun u t => cAt z A ((fun _ : Unit => (sW z qS S)) u) t) A) args s 0 0 A) (F0 m 13 ls []) := by
  obtain ⟨hx, hb, -, -, hown, hts, -, -, -, hN, hsr, -⟩ := id M
  intro n
  induction n with
  | zero => intro x1 x2 x3 x4 H locs ls hw hl h; exact False.elim h
  | succ n ih =>
    intro x1 x2 x3 x4 H locs ls hw hl h
    rw [bX7_hauledFrom_13] at h
    refine lv_iload hx hb dX7_hauledFrom_13 (lv_at hl 4 rfl) ?_
    refine lv_aload_n hx hb dX7_hauledFrom_15 rfl (lv_at hl 0 rfl) ?_
    refine gt_f (v := .int (S 30 9)) M inlX7 hw 0 rfl rfl 9 (by decide) fl_X7_67 rfl rfl dX7_hauledFrom_16 ?_
    refine lv_icmp_ge (tgt := 83) hx hb dX7_hauledFrom_19 (by decide) (fun c_1 => ?_) (fun c_1 => ?_)
    · replace h := iT c_1 h
      obtain ⟨x3_2, ex3_2⟩ : ∃ y : Int32, y = (x3 + (1 : Int32)) := ⟨_, rfl⟩
      replace h := h x3_2 ex3_2
      refine lv_iinc (v := x3_2) (lv' := [(3, .int x3_2), (0, .ref (qS 0)), (1, .int x1), (2, .int x2), (4, .int x4)]) hx hb dX7_hauledFrom_83 hl (k := 3) rfl (by rw [ex3_2]; rfl) (by decide) rfl (fun ls hl => ?_)
      refine lv_goto (tgt := 4) hx hb dX7_hauledFrom_86 (by decide) ?_
      exact hK4 x1 x2 x3_2 H locs ls hw (lv_sub hl [1, 2, 3, 0] rfl) h
    · replace h := iF c_1 h
      refine lv_aload_n hx hb dX7_hauledFrom_22 rfl (lv_at hl 0 rfl) ?_
      refine lv_iload hx hb dX7_hauledFrom_23 (lv_at hl 4 rfl) ?_
      refine fr_Vi (wN := fun _ : Unit => (sW z qS S)) M (m_X7_holdsTo l z qS S x4 _ h) (cwV 1 hts (gdV cd_X7_holdsTo ml_X7_179 im_X7_holdsTo se_X7_holdsTo in_X7) rfl rfl rfl hdV_X7_holdsTo ⟨(Nat.le_of_ble_eq_true rfl), (Nat.le_of_ble_eq_true rfl)⟩) (Cut.self _) (Prm.self _ 17 (fun _ => rfl)) 0 rfl rfl rfl hw rfl hl.1 rfl (Nat.le_of_ble_eq_true rfl) dX7_hauledFrom_25 (fun r_3 u_ H locs h hw => ?_)
      have hw : Hw s z A (sW z qS S) H locs := hw
      try dsimp only at h
      refine lv_istore (lv' := [(5, .int r_3), (0, .ref (qS 0)), (1, .int x1), (2, .int x2), (3, .int x3), (4, .int x4)]) hx hb dX7_hauledFrom_28 hl (by decide) rfl (fun ls hl => ?_)
      refine lv_aload_n hx hb dX7_hauledFrom_30 rfl (lv_at hl 1 rfl) ?_
      refine gt_f (v := .ref (qS 7)) M inlX7 hw 0 rfl rfl 6 (by decide) fl_X7_28 rfl rfl dX7_hauledFrom_31 ?_
      refine lv_iload hx hb dX7_hauledFrom_34 (lv_at hl 5 rfl) ?_
      obtain ⟨a_4, h⟩ := h
      refine ld_i M hw 7 rfl a_4 dX7_hauledFrom_36 ?_
      refine lv_aload_n hx hb dX7_hauledFrom_37 rfl (lv_at hl 1 rfl) ?_
      refine gt_f (v := .ref (qS 8)) M inlX7 hw 0 rfl rfl 7 (by decide) fl_X7_31 rfl rfl dX7_hauledFrom_38 ?_
      refine lv_iload hx hb dX7_hauledFrom_41 (lv_at hl 5 rfl) ?_
      refine ld_i M hw 8 rfl a_4 dX7_hauledFrom_43 ?_
      refine lv_iadd hx hb dX7_hauledFrom_44 ?_
      refine lv_iload hx hb dX7_hauledFrom_45 (lv_at hl 0 rfl) ?_
      refine lv_isub hx hb dX7_hauledFrom_47 ?_
      refine lv_topi (fun x6_5 ex6_5 => ?_)
      replace h := h x6_5 ex6_5
      refine lv_istore (lv' := [(6, .int x6_5), (5, .int r_3), (0, .ref (qS 0)), (1, .int x1), (2, .int x2), (3, .int x3), (4, .int x4)]) hx hb dX7_hauledFrom_48 hl (by decide) rfl (fun ls hl => ?_)
      refine lv_iload hx hb dX7_hauledFrom_50 (lv_at hl 1 rfl) ?_
      refine lv_if_lt (tgt := 77) hx hb dX7_hauledFrom_52 (by decide) (fun c_6 => ?_) (fun c_6 => ?_)
      · replace h := iT c_6 h
        exact kX7_hauledFrom_77 M hK4 ih x1 x2 x3 x4 H locs ls hw (lv_sub hl [2, 3, 4, 5, 6] rfl) h
      · replace h := iF c_6 h
        refine lv_iload hx hb dX7_hauledFrom_55 (lv_at hl 0 rfl) ?_
        refine lv_iload_n hx hb dX7_hauledFrom_57 rfl (lv_at hl 3 rfl) ?_
        refine lv_icmp_eq (tgt := 70) hx hb dX7_hauledFrom_58 (by decide) (fun c_7 => ?_) (fun c_7 => ?_)
        · replace h := iT c_7 h
          exact kX7_hauledFrom_70 M hK4 ih x1 x2 x3 x4 r_3 H locs ls hw (lv_sub hl [2, 3, 4, 5, 6, 1] rfl) h
        · replace h := iF c_7 h
          refine lv_iload_n hx hb dX7_hauledFrom_61 rfl (lv_at hl 4 rfl) ?_
          refine lv_iload hx hb dX7_hauledFrom_62 (lv_at hl 0 rfl) ?_
          refine fr_Si (wN := fun _ : Unit => (sW z qS S)) M (m_X7_has l z x2 x6_5 _ h) (va_cwS 2 hts (gdS cd_X7_has ml_X7_243 st_X7_has in_X7) rfl rfl rfl hdS_X7_has ⟨(Nat.le_of_ble_eq_true rfl), (Nat.le_of_ble_eq_true rfl)⟩) (Cut.none _) (Prm.none _) hw rfl hl.1 rfl (Nat.le_of_ble_eq_true rfl) dX7_hauledFrom_64 (fun r_8 u_ H locs h hw => ?_)
          have hw : Hw s z A (sW z qS S) H locs := hw
          try dsimp only at h
          refine lv_if_eq (tgt := 77) hx hb dX7_hauledFrom_67 (by decide) (fun c_9 => ?_) (fun c_9 => ?_)
          · replace h := iT c_9 h
            exact kX7_hauledFrom_77 M hK4 ih x1 x2 x3 x4 H locs ls hw (lv_sub hl [2, 3, 4, 5, 6] rfl) h
          · replace h := iF c_9 h
            exact kX7_hauledFrom_70 M hK4 ih x1 x2 x3 x4 r_3 H locs ls hw (lv_sub hl [2, 3, 4, 5, 6, 1] rfl) h
set_option maxHeartbeats 4000000 in
set_option maxRecDepth 100000 in
theorem kX7_hauledFrom_4 {p : Program} {l : Launch} {e : Env} {s : State} {m : MethodId} {args : Array Value} {below : List Frame} {meth : Method} {c : Code} {z : KT} {A : Nat → Prop} {qS : Nat → Nat} {S : RT} {Q : Int32 → Prop} (M : Mc p s m args meth c cX7_hauledFrom 7 (some .int) RX7 z A) : ∀ (n : Nat) (x1 : Int32) (x2 : Int32) (x3 : Int32) (H : Heap) (locs : List Loc) (ls : Array Slot), Hw s z A (sW z qS S) H locs → lv_has ls 7 [(0, .ref (qS 0)), (1, .int x1), (2, .int x2), (3, .int x3)] → bX7_hauledFrom_4 S Q n x1 x2 x3 → W p l e rmX7_hauledFrom s m args below meth c H locs 0 0 (MQ below (va_Qi (fun (r : Int32) (_ : Unit) => Q r) (fun u t => cAt z A ((fun _ : Unit => (sW z qS S)) u) t) A) args s 0 0 A) (F0 m 4 ls []) := by
  obtain ⟨hx, hb, -, -, hown, hts, -, -, -, hN, hsr, -⟩ := id M
  intro n
  induction n with
  | zero => intro x1 x2 x3 H locs ls hw hl h; exact False.elim h
  | succ n ih =>
    intro x1 x2 x3 H locs ls hw hl h
    rw [bX7_hauledFrom_4] at h
    refine lv_iload_n hx hb dX7_hauledFrom_4 rfl (lv_at hl 3 rfl) ?_
    refine lv_bipush (v := 8) hx hb dX7_hauledFrom_5 (by decide) ?_
    refine lv_icmp_ge (tgt := 89) hx hb dX7_hauledFrom_7 (by decide) (fun c_1 => ?_) (fun c_1 => ?_)
    · replace h := iT c_1 h
      refine lv_iload_n hx hb dX7_hauledFrom_89 rfl (lv_at hl 2 rfl) ?_
      exact rt_i M () hw h dX7_hauledFrom_90
    · replace h := iF c_1 h
      refine lv_iconst (v := 0) hx hb dX7_hauledFrom_10 (by decide) ?_
      refine lv_istore (lv' := [(4, .int (0 : Int32)), (0, .ref (qS 0)), (1, .int x1), (2, .int x2), (3, .int x3)]) hx hb dX7_hauledFrom_11 hl (by decide) rfl (fun ls hl => ?_)
      obtain ⟨n0, h⟩ := h; exact kX7_hauledFrom_13 M ih n0 x1 x2 x3 (0 : Int32) H locs ls hw (lv_sub hl [1, 2, 3, 4, 0] rfl) h
set_option maxHeartbeats 4000000 in
set_option maxRecDepth 100000 in
theorem m_X7_hauledFrom (l : Launch) (z : KT) (qS : Nat → Nat) (S : RT) (x1 : Int32) (Q : Int32 → Prop) (h : wX7_hauledFrom S x1 Q) : CI l yX7_hauledFrom cX7_hauledFrom 7 .int rmX7_hauledFrom z [.ref (qS 0), .int x1] (sW z qS S) (fun _ : Unit => (sW z qS S)) (fun (r : Int32) (_ : Unit) => Q r) := by
  refine CI.of rfl (Nat.le_of_ble_eq_true rfl) ?_
  intro p e s m below meth c A ls M hw hl
  have M : Mc p s m _ meth c cX7_hauledFrom 7 (some .int) RX7 z A := M
  obtain ⟨hx, hb, -, -, hown, hts, -, -, -, hN, hsr, -⟩ := id M
  have hl : lv_has ls 7 [(0, .ref (qS 0)), (1, .int x1)] := hl
  unfold wX7_hauledFrom at h
  generalize s.heap = H at hw ⊢
  generalize ([] : List Loc) = locs at hw ⊢
  refine lv_iconst (v := 0) hx hb dX7_hauledFrom_0 (by decide) ?_
  refine lv_istore_n (lv' := [(2, .int (0 : Int32)), (0, .ref (qS 0)), (1, .int x1)]) hx hb dX7_hauledFrom_1 rfl hl (by decide) rfl (fun ls hl => ?_)
  refine lv_iconst (v := 0) hx hb dX7_hauledFrom_2 (by decide) ?_
  refine lv_istore_n (lv' := [(3, .int (0 : Int32)), (2, .int (0 : Int32)), (0, .ref (qS 0)), (1, .int x1)]) hx hb dX7_hauledFrom_3 rfl hl (by decide) rfl (fun ls hl => ?_)
  obtain ⟨n0, h⟩ := h; exact kX7_hauledFrom_4 M n0 x1 (0 : Int32) (0 : Int32) H locs ls hw (lv_sub hl [2, 3, 1, 0] rfl) h
abbrev rmX7_hauled : Room := { frames := 5, cells := 0, slots := 0, locals := 116 }
set_option maxHeartbeats 4000000 in
set_option maxRecDepth 100000 in
theorem m_X7_hauled (l : Launch) (z : KT) (qS : Nat → Nat) (S : RT) (x1 : Int32) (x2 : Int32) (Q : Int32 → RT → Prop) (h : wX7_hauled S x1 x2 Q) : CI l yX7_hauled cX7_hauled 3 .int rmX7_hauled z [.ref (qS 0), .int x1, .int x2] (sW z qS S) (fun u : RT => (sW z qS u)) (fun (r : Int32) (u : RT) => Q r u) := by
  refine CI.of rfl (Nat.le_of_ble_eq_true rfl) ?_
  intro p e s m below meth c A ls M hw hl
  have M : Mc p s m _ meth c cX7_hauled 3 (some .int) RX7 z A := M
  obtain ⟨hx, hb, -, -, hown, hts, -, -, -, hN, hsr, -⟩ := id M
  have hl : lv_has ls 3 [(0, .ref (qS 0)), (1, .int x1), (2, .int x2)] := hl
  unfold wX7_hauled at h
  generalize s.heap = H at hw ⊢
  generalize ([] : List Loc) = locs at hw ⊢
  refine lv_aload_n hx hb dX7_hauled_0 rfl (lv_at hl 0 rfl) ?_
  refine lv_iload_n hx hb dX7_hauled_1 rfl (lv_at hl 1 rfl) ?_
  refine lv_iload_n hx hb dX7_hauled_2 rfl (lv_at hl 2 rfl) ?_
  refine fr_Vi (wN := fun _ : Unit => (sW z qS S)) M (m_X7_areTwo l z qS S x1 x2 _ h) (cwV 2 hts (gdV cd_X7_areTwo ml_X7_112 im_X7_areTwo se_X7_areTwo in_X7) rfl rfl rfl hdV_X7_areTwo ⟨(Nat.le_of_ble_eq_true rfl), (Nat.le_of_ble_eq_true rfl)⟩) (Cut.self _) (Prm.self _ 17 (fun _ => rfl)) 0 rfl rfl rfl hw rfl hl.1 rfl (Nat.le_of_ble_eq_true rfl) dX7_hauled_3 (fun r_1 u_ H locs h hw => ?_)
  have hw : Hw s z A (sW z qS S) H locs := hw
  try dsimp only at h
  refine lv_if_eq (tgt := 21) hx hb dX7_hauled_6 (by decide) (fun c_2 => ?_) (fun c_2 => ?_)
  · replace h := iT c_2 h
    refine lv_aload_n hx hb dX7_hauled_21 rfl (lv_at hl 0 rfl) ?_
    refine lv_iconst (v := -1) hx hb dX7_hauled_22 (by decide) ?_
    refine fr_Vi (wN := fun u : RT => (sW z qS u)) M (m_X7_no l z qS S (-1 : Int32) _ h) (cwV 1 hts (gdV cd_X7_no ml_X7_81 im_X7_no se_X7_no in_X7) rfl rfl rfl hdV_X7_no ⟨(Nat.le_of_ble_eq_true rfl), (Nat.le_of_ble_eq_true rfl)⟩) (Cut.self _) (Prm.self _ 17 (fun _ => rfl)) 0 rfl rfl rfl hw rfl hl.1 rfl (Nat.le_of_ble_eq_true rfl) dX7_hauled_23 (fun r_4 u_ H locs h hw => ?_)
    obtain ⟨S_3, rfl⟩ : ∃ z9 : RT, z9 = u_ := ⟨_, rfl⟩
    have hw : Hw s z A (sW z qS S_3) H locs := hw
    try dsimp only at h
    exact rt_i M S_3 hw h dX7_hauled_26
  · replace h := iF c_2 h
    refine lv_aload_n hx hb dX7_hauled_9 rfl (lv_at hl 0 rfl) ?_
    refine lv_iload_n hx hb dX7_hauled_10 rfl (lv_at hl 1 rfl) ?_
    refine fr_Vi (wN := fun _ : Unit => (sW z qS S)) M (m_X7_hauledFrom l z qS S x1 _ h) (cwV 1 hts (gdV cd_X7_hauledFrom ml_X7_258 im_X7_hauledFrom se_X7_hauledFrom in_X7) rfl rfl rfl hdV_X7_hauledFrom ⟨(Nat.le_of_ble_eq_true rfl), (Nat.le_of_ble_eq_true rfl)⟩) (Cut.self _) (Prm.self _ 17 (fun _ => rfl)) 0 rfl rfl rfl hw rfl hl.1 rfl (Nat.le_of_ble_eq_true rfl) dX7_hauled_11 (fun r_5 u_ H locs h hw => ?_)
    have hw : Hw s z A (sW z qS S) H locs := hw
    try dsimp only at h
    refine lv_iload_n hx hb dX7_hauled_14 rfl (lv_at hl 2 rfl) ?_
    refine lv_ishr hx hb dX7_hauled_15 ?_
    refine lv_iconst (v := 1) hx hb dX7_hauled_16 (by decide) ?_
    refine lv_iand hx hb dX7_hauled_17 ?_
    refine lv_goto (tgt := 26) hx hb dX7_hauled_18 (by decide) ?_
    exact rt_i M S hw h dX7_hauled_26
abbrev rmX7_top : Room := { frames := 5, cells := 0, slots := 0, locals := 116 }
set_option maxHeartbeats 4000000 in
set_option maxRecDepth 100000 in
theorem kX7_top_60 {p : Program} {l : Launch} {e : Env} {s : State} {m : MethodId} {args : Array Value} {below : List Frame} {meth : Method} {c : Code} {z : KT} {A : Nat → Prop} {qS : Nat → Nat} {K26 : RT → Int32 → Int32 → Int32 → Prop} {Q : Int32 → RT → Prop} (M : Mc p s m args meth c cX7_top 5 (some .int) RX7 z A) (hK26 : ∀ (S : RT) (x2 : Int32) (x3 : Int32) (x4 : Int32) (H : Heap) (locs : List Loc) (ls : Array Slot), Hw s z A (sW z qS S) H locs → lv_has ls 5 [(0, .ref (qS 0)), (2, .int x2), (3, .int x3), (4, .int x4)] → K26 S x2 x3 x4 → W p l e rmX7_top s m args below meth c H locs 0 0 (MQ below (va_Qi (fun (r : Int32) (u : RT) => Q r u) (fun u t => cAt z A ((fun u : RT => (sW z qS u)) u) t) A) args s 0 0 A) (F0 m 26 ls [])) : ∀ (S : RT) (x2 : Int32) (x4 : Int32) (t0 : Int32) (H : Heap) (locs : List Loc) (ls : Array Slot), Hw s z A (sW z qS S) H locs → lv_has ls 5 [(0, .ref (qS 0)), (2, .int x2), (4, .int x4)] → bX7_top_60 K26 Q S x2 x4 t0 → W p l e rmX7_top s m args below meth c H locs 0 0 (MQ below (va_Qi (fun (r : Int32) (u : RT) => Q r u) (fun u t => cAt z A ((fun u : RT => (sW z qS u)) u) t) A) args s 0 0 A) (F0 m 60 ls [.int t0]) := by
  obtain ⟨hx, hb, -, -, hown, hts, -, -, -, hN, hsr, -⟩ := id M
  intro S x2 x4 t0 H locs ls hw hl h
  unfold bX7_top_60 at h
  refine lv_istore_n (lv' := [(3, .int t0), (0, .ref (qS 0)), (2, .int x2), (4, .int x4)]) hx hb dX7_top_60 rfl hl (by decide) rfl (fun ls hl => ?_)
  obtain ⟨x4_1, ex4_1⟩ : ∃ y : Int32, y = (x4 + (-1 : Int32)) := ⟨_, rfl⟩
  replace h := h x4_1 ex4_1
  refine lv_iinc (v := x4_1) (lv' := [(4, .int x4_1), (3, .int t0), (0, .ref (qS 0)), (2, .int x2)]) hx hb dX7_top_61 hl (k := 3) rfl (by rw [ex4_1]; rfl) (by decide) rfl (fun ls hl => ?_)
  refine lv_goto (tgt := 26) hx hb dX7_top_64 (by decide) ?_
  exact hK26 S x2 t0 x4_1 H locs ls hw (lv_sub hl [2, 3, 1, 0] rfl) h
set_option maxHeartbeats 4000000 in
set_option maxRecDepth 100000 in
theorem kX7_top_59 {p : Program} {l : Launch} {e : Env} {s : State} {m : MethodId} {args : Array Value} {below : List Frame} {meth : Method} {c : Code} {z : KT} {A : Nat → Prop} {qS : Nat → Nat} {K26 : RT → Int32 → Int32 → Int32 → Prop} {Q : Int32 → RT → Prop} (M : Mc p s m args meth c cX7_top 5 (some .int) RX7 z A) (hK26 : ∀ (S : RT) (x2 : Int32) (x3 : Int32) (x4 : Int32) (H : Heap) (locs : List Loc) (ls : Array Slot), Hw s z A (sW z qS S) H locs → lv_has ls 5 [(0, .ref (qS 0)), (2, .int x2), (3, .int x3), (4, .int x4)] → K26 S x2 x3 x4 → W p l e rmX7_top s m args below meth c H locs 0 0 (MQ below (va_Qi (fun (r : Int32) (u : RT) => Q r u) (fun u t => cAt z A ((fun u : RT => (sW z qS u)) u) t) A) args s 0 0 A) (F0 m 26 ls [])) : ∀ (S : RT) (x2 : Int32) (x3 : Int32) (x4 : Int32) (H : Heap) (locs : List Loc) (ls : Array Slot), Hw s z A (sW z qS S) H locs → lv_has ls 5 [(0, .ref (qS 0)), (2, .int x2), (3, .int x3), (4, .int x4)] → bX7_top_59 K26 Q S x2 x3 x4 → W p l e rmX7_top s m args below meth c H locs 0 0 (MQ below (va_Qi (fun (r : Int32) (u : RT) => Q r u) (fun u t => cAt z A ((fun u : RT => (sW z qS u)) u) t) A) args s 0 0 A) (F0 m 59 ls []) := by
  obtain ⟨hx, hb, -, -, hown, hts, -, -, -, hN, hsr, -⟩ := id M
  intro S x2 x3 x4 H locs ls hw hl h
  unfold bX7_top_59 at h
  refine lv_iload_n hx hb dX7_top_59 rfl (lv_at hl 2 rfl) ?_
  exact kX7_top_60 M hK26 S x2 x4 x3 H locs ls hw (lv_sub hl [0, 1, 3] rfl) h
set_option maxHeartbeats 4000000 in
set_option maxRecDepth 100000 in
theorem kX7_top_26 {p : Program} {l : Launch} {e : Env} {s : State} {m : MethodId} {args : Array Value} {below : List Frame} {meth : Method} {c : Code} {z : KT} {A : Nat → Prop} {qS : Nat → Nat} {Q : Int32 → RT → Prop} (M : Mc p s m args meth c cX7_top 5 (some .int) RX7 z A) : ∀ (n : Nat) (S : RT) (x2 : Int32) (x3 : Int32) (x4 : Int32) (H : Heap) (locs : List Loc) (ls : Array Slot), Hw s z A (sW z qS S) H locs → lv_has ls 5 [(0, .ref (qS 0)), (2, .int x2), (3, .int x3), (4, .int x4)] → bX7_top_26 Q n S x2 x3 x4 → W p l e rmX7_top s m args below meth c H locs 0 0 (MQ below (va_Qi (fun (r : Int32) (u : RT) => Q r u) (fun u t => cAt z A ((fun u : RT => (sW z qS u)) u) t) A) args s 0 0 A) (F0 m 26 ls []) := by
  obtain ⟨hx, hb, -, -, hown, hts, -, -, -, hN, hsr, -⟩ := id M
  intro n
  induction n with
  | zero => intro S x2 x3 x4 H locs ls hw hl h; exact False.elim h
  | succ n ih =>
    intro S x2 x3 x4 H locs ls hw hl h
    rw [bX7_top_26] at h
    refine lv_iload hx hb dX7_top_26 (lv_at hl 3 rfl) ?_
    refine lv_if_lt (tgt := 67) hx hb dX7_top_28 (by decide) (fun c_1 => ?_) (fun c_1 => ?_)
    · replace h := iT c_1 h
      refine lv_iload_n hx hb dX7_top_67 rfl (lv_at hl 2 rfl) ?_
      exact rt_i M S hw h dX7_top_68
    · replace h := iF c_1 h
      refine lv_iload_n hx hb dX7_top_31 rfl (lv_at hl 1 rfl) ?_
      refine lv_iload hx hb dX7_top_32 (lv_at hl 3 rfl) ?_
      refine fr_Si (wN := fun _ : Unit => (sW z qS S)) M (m_X7_has l z x2 x4 _ h) (va_cwS 2 hts (gdS cd_X7_has ml_X7_243 st_X7_has in_X7) rfl rfl rfl hdS_X7_has ⟨(Nat.le_of_ble_eq_true rfl), (Nat.le_of_ble_eq_true rfl)⟩) (Cut.none _) (Prm.none _) hw rfl hl.1 rfl (Nat.le_of_ble_eq_true rfl) dX7_top_34 (fun r_2 u_ H locs h hw => ?_)
      have hw : Hw s z A (sW z qS S) H locs := hw
      try dsimp only at h
      refine lv_if_eq (tgt := 59) hx hb dX7_top_37 (by decide) (fun c_3 => ?_) (fun c_3 => ?_)
      · replace h := iT c_3 h
        exact kX7_top_59 M ih S x2 x3 x4 H locs ls hw (lv_sub hl [0, 1, 2, 3] rfl) h
      · replace h := iF c_3 h
        refine lv_aload_n hx hb dX7_top_40 rfl (lv_at hl 0 rfl) ?_
        refine lv_iload hx hb dX7_top_41 (lv_at hl 3 rfl) ?_
        refine fr_Vi (wN := fun _ : Unit => (sW z qS S)) M (m_X7_heft l z qS S x4 _ h) (cwV 1 hts (gdV cd_X7_heft ml_X7_176 im_X7_heft se_X7_heft in_X7) rfl rfl rfl hdV_X7_heft ⟨(Nat.le_of_ble_eq_true rfl), (Nat.le_of_ble_eq_true rfl)⟩) (Cut.self _) (Prm.self _ 17 (fun _ => rfl)) 0 rfl rfl rfl hw rfl hl.1 rfl (Nat.le_of_ble_eq_true rfl) dX7_top_43 (fun r_4 u_ H locs h hw => ?_)
        have hw : Hw s z A (sW z qS S) H locs := hw
        try dsimp only at h
        refine lv_aload_n hx hb dX7_top_46 rfl (lv_at hl 0 rfl) ?_
        refine lv_iload_n hx hb dX7_top_47 rfl (lv_at hl 2 rfl) ?_
        refine fr_Vi (wN := fun _ : Unit => (sW z qS S)) M (m_X7_heft l z qS S x3 _ h) (cwV 1 hts (gdV cd_X7_heft ml_X7_176 im_X7_heft se_X7_heft in_X7) rfl rfl rfl hdV_X7_heft ⟨(Nat.le_of_ble_eq_true rfl), (Nat.le_of_ble_eq_true rfl)⟩) (Cut.self _) (Prm.self _ 17 (fun _ => rfl)) 0 rfl rfl rfl hw rfl hl.1 rfl (Nat.le_of_ble_eq_true rfl) dX7_top_48 (fun r_5 u_ H locs h hw => ?_)
        have hw : Hw s z A (sW z qS S) H locs := hw
        try dsimp only at h
        refine lv_icmp_lt (tgt := 59) hx hb dX7_top_51 (by decide) (fun c_6 => ?_) (fun c_6 => ?_)
        · replace h := iT c_6 h
          exact kX7_top_59 M ih S x2 x3 x4 H locs ls hw (lv_sub hl [0, 1, 2, 3] rfl) h
        · replace h := iF c_6 h
          refine lv_iload hx hb dX7_top_54 (lv_at hl 3 rfl) ?_
          refine lv_goto (tgt := 60) hx hb dX7_top_56 (by decide) ?_
          exact kX7_top_60 M ih S x2 x4 x4 H locs ls hw (lv_sub hl [0, 1, 3] rfl) h
set_option maxHeartbeats 4000000 in
set_option maxRecDepth 100000 in
theorem m_X7_top (l : Launch) (z : KT) (qS : Nat → Nat) (S : RT) (x1 : Int32) (Q : Int32 → RT → Prop) (h : wX7_top S x1 Q) : CI l yX7_top cX7_top 5 .int rmX7_top z [.ref (qS 0), .int x1] (sW z qS S) (fun u : RT => (sW z qS u)) (fun (r : Int32) (u : RT) => Q r u) := by
  refine CI.of rfl (Nat.le_of_ble_eq_true rfl) ?_
  intro p e s m below meth c A ls M hw hl
  have M : Mc p s m _ meth c cX7_top 5 (some .int) RX7 z A := M
  obtain ⟨hx, hb, -, -, hown, hts, -, -, -, hN, hsr, -⟩ := id M
  have hl : lv_has ls 5 [(0, .ref (qS 0)), (1, .int x1)] := hl
  unfold wX7_top at h
  generalize s.heap = H at hw ⊢
  generalize ([] : List Loc) = locs at hw ⊢
  refine lv_aload_n hx hb dX7_top_0 rfl (lv_at hl 0 rfl) ?_
  refine lv_iload_n hx hb dX7_top_1 rfl (lv_at hl 1 rfl) ?_
  refine fr_Vi (wN := fun _ : Unit => (sW z qS S)) M (m_X7_isThing l z qS S x1 _ h) (cwV 1 hts (gdV cd_X7_isThing ml_X7_70 im_X7_isThing se_X7_isThing in_X7) rfl rfl rfl hdV_X7_isThing ⟨(Nat.le_of_ble_eq_true rfl), (Nat.le_of_ble_eq_true rfl)⟩) (Cut.self _) (Prm.self _ 17 (fun _ => rfl)) 0 rfl rfl rfl hw rfl hl.1 rfl (Nat.le_of_ble_eq_true rfl) dX7_top_2 (fun r_1 u_ H locs h hw => ?_)
  have hw : Hw s z A (sW z qS S) H locs := hw
  try dsimp only at h
  refine lv_if_ne (tgt := 14) hx hb dX7_top_5 (by decide) (fun c_2 => ?_) (fun c_2 => ?_)
  · replace h := iF c_2 h
    refine lv_aload_n hx hb dX7_top_14 rfl (lv_at hl 0 rfl) ?_
    refine lv_iload_n hx hb dX7_top_15 rfl (lv_at hl 1 rfl) ?_
    refine fr_Vi (wN := fun _ : Unit => (sW z qS S)) M (m_X7_hauledFrom l z qS S x1 _ h) (cwV 1 hts (gdV cd_X7_hauledFrom ml_X7_258 im_X7_hauledFrom se_X7_hauledFrom in_X7) rfl rfl rfl hdV_X7_hauledFrom ⟨(Nat.le_of_ble_eq_true rfl), (Nat.le_of_ble_eq_true rfl)⟩) (Cut.self _) (Prm.self _ 17 (fun _ => rfl)) 0 rfl rfl rfl hw rfl hl.1 rfl (Nat.le_of_ble_eq_true rfl) dX7_top_16 (fun r_3 u_ H locs h hw => ?_)
    have hw : Hw s z A (sW z qS S) H locs := hw
    try dsimp only at h
    refine lv_istore_n (lv' := [(2, .int r_3), (0, .ref (qS 0)), (1, .int x1)]) hx hb dX7_top_19 rfl hl (by decide) rfl (fun ls hl => ?_)
    refine lv_iload_n hx hb dX7_top_20 rfl (lv_at hl 2 rfl) ?_
    refine lv_istore_n (lv' := [(3, .int x1), (2, .int r_3), (0, .ref (qS 0)), (1, .int x1)]) hx hb dX7_top_21 rfl hl (by decide) rfl (fun ls hl => ?_)
    refine lv_bipush (v := 7) hx hb dX7_top_22 (by decide) ?_
    refine lv_istore (lv' := [(4, .int (7 : Int32)), (3, .int x1), (2, .int r_3), (0, .ref (qS 0)), (1, .int x1)]) hx hb dX7_top_24 hl (by decide) rfl (fun ls hl => ?_)
    obtain ⟨n0, h⟩ := h; exact kX7_top_26 M n0 S r_3 x1 (7 : Int32) H locs ls hw (lv_sub hl [3, 2, 1, 0] rfl) h
  · replace h := iT c_2 h
    refine lv_aload_n hx hb dX7_top_8 rfl (lv_at hl 0 rfl) ?_
    refine lv_iconst (v := -1) hx hb dX7_top_9 (by decide) ?_
    refine fr_Vi (wN := fun u : RT => (sW z qS u)) M (m_X7_no l z qS S (-1 : Int32) _ h) (cwV 1 hts (gdV cd_X7_no ml_X7_81 im_X7_no se_X7_no in_X7) rfl rfl rfl hdV_X7_no ⟨(Nat.le_of_ble_eq_true rfl), (Nat.le_of_ble_eq_true rfl)⟩) (Cut.self _) (Prm.self _ 17 (fun _ => rfl)) 0 rfl rfl rfl hw rfl hl.1 rfl (Nat.le_of_ble_eq_true rfl) dX7_top_10 (fun r_5 u_ H locs h hw => ?_)
    obtain ⟨S_4, rfl⟩ : ∃ z9 : RT, z9 = u_ := ⟨_, rfl⟩
    have hw : Hw s z A (sW z qS S_4) H locs := hw
    try dsimp only at h
    exact rt_i M S_4 hw h dX7_top_13
abbrev rmX7_odd : Room := { frames := 4, cells := 0, slots := 0, locals := 90 }
set_option maxHeartbeats 4000000 in
set_option maxRecDepth 100000 in
theorem kX7_odd_28 {p : Program} {l : Launch} {e : Env} {s : State} {m : MethodId} {args : Array Value} {below : List Frame} {meth : Method} {c : Code} {z : KT} {A : Nat → Prop} {qS : Nat → Nat} {K4 : Int32 → Int32 → Prop} {S : RT} {Q : Int32 → Prop} (M : Mc p s m args meth c cX7_odd 3 (some .int) RX7 z A) (hK4 : ∀ (x1 : Int32) (x2 : Int32) (H : Heap) (locs : List Loc) (ls : Array Slot), Hw s z A (sW z qS S) H locs → lv_has ls 3 [(0, .ref (qS 0)), (1, .int x1), (2, .int x2)] → K4 x1 x2 → W p l e rmX7_odd s m args below meth c H locs 0 0 (MQ below (va_Qi (fun (r : Int32) (_ : Unit) => Q r) (fun u t => cAt z A ((fun _ : Unit => (sW z qS S)) u) t) A) args s 0 0 A) (F0 m 4 ls [])) : ∀ (x2 : Int32) (t0 : Int32) (t1 : Int32) (H : Heap) (locs : List Loc) (ls : Array Slot), Hw s z A (sW z qS S) H locs → lv_has ls 3 [(0, .ref (qS 0)), (2, .int x2)] → bX7_odd_28 K4 S Q x2 t0 t1 → W p l e rmX7_odd s m args below meth c H locs 0 0 (MQ below (va_Qi (fun (r : Int32) (_ : Unit) => Q r) (fun u t => cAt z A ((fun _ : Unit => (sW z qS S)) u) t) A) args s 0 0 A) (F0 m 28 ls [.int t1, .int t0]) := by
  obtain ⟨hx, hb, -, -, hown, hts, -, -, -, hN, hsr, -⟩ := id M
  intro x2 t0 t1 H locs ls hw hl h
  unfold bX7_odd_28 at h
  refine lv_ior hx hb dX7_odd_28 ?_
  refine lv_topi (fun x1_1 ex1_1 => ?_)
  replace h := h x1_1 ex1_1
  refine lv_istore_n (lv' := [(1, .int x1_1), (0, .ref (qS 0)), (2, .int x2)]) hx hb dX7_odd_29 rfl hl (by decide) rfl (fun ls hl => ?_)
  obtain ⟨x2_2, ex2_2⟩ : ∃ y : Int32, y = (x2 + (1 : Int32)) := ⟨_, rfl⟩
  replace h := h x2_2 ex2_2
  refine lv_iinc (v := x2_2) (lv' := [(2, .int x2_2), (1, .int x1_1), (0, .ref (qS 0))]) hx hb dX7_odd_30 hl (k := 2) rfl (by rw [ex2_2]; rfl) (by decide) rfl (fun ls hl => ?_)
  refine lv_goto (tgt := 4) hx hb dX7_odd_33 (by decide) ?_
  exact hK4 x1_1 x2_2 H locs ls hw (lv_sub hl [2, 1, 0] rfl) h
set_option maxHeartbeats 4000000 in
set_option maxRecDepth 100000 in
theorem kX7_odd_4 {p : Program} {l : Launch} {e : Env} {s : State} {m : MethodId} {args : Array Value} {below : List Frame} {meth : Method} {c : Code} {z : KT} {A : Nat → Prop} {qS : Nat → Nat} {S : RT} {Q : Int32 → Prop} (M : Mc p s m args meth c cX7_odd 3 (some .int) RX7 z A) : ∀ (n : Nat) (x1 : Int32) (x2 : Int32) (H : Heap) (locs : List Loc) (ls : Array Slot), Hw s z A (sW z qS S) H locs → lv_has ls 3 [(0, .ref (qS 0)), (1, .int x1), (2, .int x2)] → bX7_odd_4 S Q n x1 x2 → W p l e rmX7_odd s m args below meth c H locs 0 0 (MQ below (va_Qi (fun (r : Int32) (_ : Unit) => Q r) (fun u t => cAt z A ((fun _ : Unit => (sW z qS S)) u) t) A) args s 0 0 A) (F0 m 4 ls []) := by
  obtain ⟨hx, hb, -, -, hown, hts, -, -, -, hN, hsr, -⟩ := id M
  intro n
  induction n with
  | zero => intro x1 x2 H locs ls hw hl h; exact False.elim h
  | succ n ih =>
    intro x1 x2 H locs ls hw hl h
    rw [bX7_odd_4] at h
    refine lv_iload_n hx hb dX7_odd_4 rfl (lv_at hl 2 rfl) ?_
    refine lv_aload_n hx hb dX7_odd_5 rfl (lv_at hl 0 rfl) ?_
    refine gt_f (v := .int (S 30 9)) M inlX7 hw 0 rfl rfl 9 (by decide) fl_X7_67 rfl rfl dX7_odd_6 ?_
    refine lv_icmp_ge (tgt := 36) hx hb dX7_odd_9 (by decide) (fun c_1 => ?_) (fun c_1 => ?_)
    · replace h := iT c_1 h
      refine lv_iload_n hx hb dX7_odd_36 rfl (lv_at hl 1 rfl) ?_
      exact rt_i M () hw h dX7_odd_37
    · replace h := iF c_1 h
      refine lv_iload_n hx hb dX7_odd_12 rfl (lv_at hl 1 rfl) ?_
      refine lv_aload_n hx hb dX7_odd_13 rfl (lv_at hl 0 rfl) ?_
      refine lv_iload_n hx hb dX7_odd_14 rfl (lv_at hl 2 rfl) ?_
      refine fr_Vi (wN := fun _ : Unit => (sW z qS S)) M (m_X7_holdsTo l z qS S x2 _ h) (cwV 1 hts (gdV cd_X7_holdsTo ml_X7_179 im_X7_holdsTo se_X7_holdsTo in_X7) rfl rfl rfl hdV_X7_holdsTo ⟨(Nat.le_of_ble_eq_true rfl), (Nat.le_of_ble_eq_true rfl)⟩) (Cut.self _) (Prm.self _ 17 (fun _ => rfl)) 0 rfl rfl rfl hw rfl hl.1 rfl (Nat.le_of_ble_eq_true rfl) dX7_odd_15 (fun r_2 u_ H locs h hw => ?_)
      have hw : Hw s z A (sW z qS S) H locs := hw
      try dsimp only at h
      refine lv_if_ge (tgt := 27) hx hb dX7_odd_18 (by decide) (fun c_3 => ?_) (fun c_3 => ?_)
      · replace h := iT c_3 h
        refine lv_iconst (v := 0) hx hb dX7_odd_27 (by decide) ?_
        exact kX7_odd_28 M ih x2 x1 (0 : Int32) H locs ls hw (lv_sub hl [0, 2] rfl) h
      · replace h := iF c_3 h
        refine lv_iconst (v := 1) hx hb dX7_odd_21 (by decide) ?_
        refine lv_iload_n hx hb dX7_odd_22 rfl (lv_at hl 2 rfl) ?_
        refine lv_ishl hx hb dX7_odd_23 ?_
        refine lv_goto (tgt := 28) hx hb dX7_odd_24 (by decide) ?_
        exact kX7_odd_28 M ih x2 x1 ((1 : Int32) <<< (x2 &&& 31)) H locs ls hw (lv_sub hl [0, 2] rfl) h
set_option maxHeartbeats 4000000 in
set_option maxRecDepth 100000 in
theorem m_X7_odd (l : Launch) (z : KT) (qS : Nat → Nat) (S : RT) (Q : Int32 → Prop) (h : wX7_odd S Q) : CI l yX7_odd cX7_odd 3 .int rmX7_odd z [.ref (qS 0)] (sW z qS S) (fun _ : Unit => (sW z qS S)) (fun (r : Int32) (_ : Unit) => Q r) := by
  refine CI.of rfl (Nat.le_of_ble_eq_true rfl) ?_
  intro p e s m below meth c A ls M hw hl
  have M : Mc p s m _ meth c cX7_odd 3 (some .int) RX7 z A := M
  obtain ⟨hx, hb, -, -, hown, hts, -, -, -, hN, hsr, -⟩ := id M
  have hl : lv_has ls 3 [(0, .ref (qS 0))] := hl
  unfold wX7_odd at h
  generalize s.heap = H at hw ⊢
  generalize ([] : List Loc) = locs at hw ⊢
  refine lv_iconst (v := 0) hx hb dX7_odd_0 (by decide) ?_
  refine lv_istore_n (lv' := [(1, .int (0 : Int32)), (0, .ref (qS 0))]) hx hb dX7_odd_1 rfl hl (by decide) rfl (fun ls hl => ?_)
  refine lv_iconst (v := 0) hx hb dX7_odd_2 (by decide) ?_
  refine lv_istore_n (lv' := [(2, .int (0 : Int32)), (1, .int (0 : Int32)), (0, .ref (qS 0))]) hx hb dX7_odd_3 rfl hl (by decide) rfl (fun ls hl => ?_)
  obtain ⟨n0, h⟩ := h; exact kX7_odd_4 M n0 (0 : Int32) (0 : Int32) H locs ls hw (lv_sub hl [2, 1, 0] rfl) h
abbrev rmX7_meet : Room := { frames := 6, cells := 0, slots := 0, locals := 135 }
set_option maxHeartbeats 4000000 in
set_option maxRecDepth 100000 in
theorem kX7_meet_58 {p : Program} {l : Launch} {e : Env} {s : State} {m : MethodId} {args : Array Value} {below : List Frame} {meth : Method} {c : Code} {z : KT} {A : Nat → Prop} {qS : Nat → Nat} {K25 : RT → Int32 → Int32 → Int32 → Int32 → Prop} {Q : Int32 → RT → Prop} (M : Mc p s m args meth c cX7_meet 5 (some .int) RX7 z A) (hK25 : ∀ (S : RT) (x1 : Int32) (x2 : Int32) (x3 : Int32) (x4 : Int32) (H : Heap) (locs : List Loc) (ls : Array Slot), Hw s z A (sW z qS S) H locs → lv_has ls 5 [(0, .ref (qS 0)), (1, .int x1), (2, .int x2), (3, .int x3), (4, .int x4)] → K25 S x1 x2 x3 x4 → W p l e rmX7_meet s m args below meth c H locs 0 0 (MQ below (va_Qi (fun (r : Int32) (u : RT) => Q r u) (fun u t => cAt z A ((fun u : RT => (sW z qS u)) u) t) A) args s 0 0 A) (F0 m 25 ls [])) : ∀ (S : RT) (x1 : Int32) (x2 : Int32) (x4 : Int32) (t0 : Int32) (H : Heap) (locs : List Loc) (ls : Array Slot), Hw s z A (sW z qS S) H locs → lv_has ls 5 [(0, .ref (qS 0)), (1, .int x1), (2, .int x2), (4, .int x4)] → bX7_meet_58 K25 Q S x1 x2 x4 t0 → W p l e rmX7_meet s m args below meth c H locs 0 0 (MQ below (va_Qi (fun (r : Int32) (u : RT) => Q r u) (fun u t => cAt z A ((fun u : RT => (sW z qS u)) u) t) A) args s 0 0 A) (F0 m 58 ls [.int t0]) := by
  obtain ⟨hx, hb, -, -, hown, hts, -, -, -, hN, hsr, -⟩ := id M
  intro S x1 x2 x4 t0 H locs ls hw hl h
  unfold bX7_meet_58 at h
  refine lv_istore_n (lv' := [(3, .int t0), (0, .ref (qS 0)), (1, .int x1), (2, .int x2), (4, .int x4)]) hx hb dX7_meet_58 rfl hl (by decide) rfl (fun ls hl => ?_)
  refine lv_aload_n hx hb dX7_meet_59 rfl (lv_at hl 1 rfl) ?_
  refine fr_Vv (wN := fun u : RT => (sW z qS u)) M (m_X7_goesHour l z qS S _ h) (cwV 0 hts (gdV cd_X7_goesHour ml_X7_188 im_X7_goesHour se_X7_goesHour in_X7) rfl rfl rfl hdV_X7_goesHour ⟨(Nat.le_of_ble_eq_true rfl), (Nat.le_of_ble_eq_true rfl)⟩) (Cut.self _) (Prm.self _ 17 (fun _ => rfl)) 0 rfl rfl rfl hw rfl hl.1 rfl (Nat.le_of_ble_eq_true rfl) dX7_meet_60 (fun u_ H locs h hw => ?_)
  obtain ⟨S_1, rfl⟩ : ∃ z9 : RT, z9 = u_ := ⟨_, rfl⟩
  have hw : Hw s z A (sW z qS S_1) H locs := hw
  try dsimp only at h
  obtain ⟨x4_2, ex4_2⟩ : ∃ y : Int32, y = (x4 + (1 : Int32)) := ⟨_, rfl⟩
  replace h := h x4_2 ex4_2
  refine lv_iinc (v := x4_2) (lv' := [(4, .int x4_2), (3, .int t0), (0, .ref (qS 0)), (1, .int x1), (2, .int x2)]) hx hb dX7_meet_63 hl (k := 4) rfl (by rw [ex4_2]; rfl) (by decide) rfl (fun ls hl => ?_)
  refine lv_goto (tgt := 25) hx hb dX7_meet_66 (by decide) ?_
  exact hK25 S_1 x1 x2 t0 x4_2 H locs ls hw (lv_sub hl [2, 3, 4, 1, 0] rfl) h
set_option maxHeartbeats 4000000 in
set_option maxRecDepth 100000 in
theorem kX7_meet_69 {p : Program} {l : Launch} {e : Env} {s : State} {m : MethodId} {args : Array Value} {below : List Frame} {meth : Method} {c : Code} {z : KT} {A : Nat → Prop} {qS : Nat → Nat} {Q : Int32 → RT → Prop} (M : Mc p s m args meth c cX7_meet 5 (some .int) RX7 z A) : ∀ (S : RT) (x3 : Int32) (H : Heap) (locs : List Loc) (ls : Array Slot), Hw s z A (sW z qS S) H locs → lv_has ls 5 [(0, .ref (qS 0)), (3, .int x3)] → bX7_meet_69 Q S x3 → W p l e rmX7_meet s m args below meth c H locs 0 0 (MQ below (va_Qi (fun (r : Int32) (u : RT) => Q r u) (fun u t => cAt z A ((fun u : RT => (sW z qS u)) u) t) A) args s 0 0 A) (F0 m 69 ls []) := by
  obtain ⟨hx, hb, -, -, hown, hts, -, -, -, hN, hsr, -⟩ := id M
  intro S x3 H locs ls hw hl h
  unfold bX7_meet_69 at h
  refine lv_aload_n hx hb dX7_meet_69 rfl (lv_at hl 0 rfl) ?_
  refine fr_Vv (wN := fun u : RT => (sW z qS u)) M (m_X7_forgets l z qS S _ h) (cwV 0 hts (gdV cd_X7_forgets ml_X7_204 im_X7_forgets se_X7_forgets in_X7) rfl rfl rfl hdV_X7_forgets ⟨(Nat.le_of_ble_eq_true rfl), (Nat.le_of_ble_eq_true rfl)⟩) (Cut.self _) (Prm.self _ 17 (fun _ => rfl)) 0 rfl rfl rfl hw rfl hl.1 rfl (Nat.le_of_ble_eq_true rfl) dX7_meet_70 (fun u_ H locs h hw => ?_)
  obtain ⟨S_1, rfl⟩ : ∃ z9 : RT, z9 = u_ := ⟨_, rfl⟩
  have hw : Hw s z A (sW z qS S_1) H locs := hw
  try dsimp only at h
  refine lv_iload_n hx hb dX7_meet_73 rfl (lv_at hl 1 rfl) ?_
  exact rt_i M S_1 hw h dX7_meet_74
set_option maxHeartbeats 4000000 in
set_option maxRecDepth 100000 in
theorem kX7_meet_25 {p : Program} {l : Launch} {e : Env} {s : State} {m : MethodId} {args : Array Value} {below : List Frame} {meth : Method} {c : Code} {z : KT} {A : Nat → Prop} {qS : Nat → Nat} {Q : Int32 → RT → Prop} (M : Mc p s m args meth c cX7_meet 5 (some .int) RX7 z A) : ∀ (n : Nat) (S : RT) (x1 : Int32) (x2 : Int32) (x3 : Int32) (x4 : Int32) (H : Heap) (locs : List Loc) (ls : Array Slot), Hw s z A (sW z qS S) H locs → lv_has ls 5 [(0, .ref (qS 0)), (1, .int x1), (2, .int x2), (3, .int x3), (4, .int x4)] → bX7_meet_25 Q n S x1 x2 x3 x4 → W p l e rmX7_meet s m args below meth c H locs 0 0 (MQ below (va_Qi (fun (r : Int32) (u : RT) => Q r u) (fun u t => cAt z A ((fun u : RT => (sW z qS u)) u) t) A) args s 0 0 A) (F0 m 25 ls []) := by
  obtain ⟨hx, hb, -, -, hown, hts, -, -, -, hN, hsr, -⟩ := id M
  intro n
  induction n with
  | zero => intro S x1 x2 x3 x4 H locs ls hw hl h; exact False.elim h
  | succ n ih =>
    intro S x1 x2 x3 x4 H locs ls hw hl h
    rw [bX7_meet_25] at h
    refine lv_iload hx hb dX7_meet_25 (lv_at hl 4 rfl) ?_
    refine lv_bipush (v := 99) hx hb dX7_meet_27 (by decide) ?_
    refine lv_icmp_gt (tgt := 69) hx hb dX7_meet_29 (by decide) (fun c_1 => ?_) (fun c_1 => ?_)
    · replace h := iT c_1 h
      exact kX7_meet_69 M S x3 H locs ls hw (lv_sub hl [0, 3] rfl) h
    · replace h := iF c_1 h
      refine lv_iload_n hx hb dX7_meet_32 rfl (lv_at hl 3 rfl) ?_
      refine lv_if_ge (tgt := 69) hx hb dX7_meet_33 (by decide) (fun c_2 => ?_) (fun c_2 => ?_)
      · replace h := iT c_2 h
        exact kX7_meet_69 M S x3 H locs ls hw (lv_sub hl [0, 3] rfl) h
      · replace h := iF c_2 h
        refine lv_aload_n hx hb dX7_meet_36 rfl (lv_at hl 0 rfl) ?_
        refine gt_f (v := .ref (qS 6)) M inlX7 hw 0 rfl rfl 5 (by decide) fl_X7_25 rfl rfl dX7_meet_37 ?_
        refine lv_iload_n hx hb dX7_meet_40 rfl (lv_at hl 1 rfl) ?_
        obtain ⟨a_3, h⟩ := h
        refine ld_i M hw 6 rfl a_3 dX7_meet_41 ?_
        refine lv_aload_n hx hb dX7_meet_42 rfl (lv_at hl 0 rfl) ?_
        refine gt_f (v := .ref (qS 6)) M inlX7 hw 0 rfl rfl 5 (by decide) fl_X7_25 rfl rfl dX7_meet_43 ?_
        refine lv_iload_n hx hb dX7_meet_46 rfl (lv_at hl 2 rfl) ?_
        obtain ⟨a_4, h⟩ := h
        refine ld_i M hw 6 rfl a_4 dX7_meet_47 ?_
        refine lv_icmp_ne (tgt := 56) hx hb dX7_meet_48 (by decide) (fun c_5 => ?_) (fun c_5 => ?_)
        · replace h := iF c_5 h
          refine lv_bipush (v := -9) hx hb dX7_meet_56 (by decide) ?_
          exact kX7_meet_58 M ih S x1 x2 x4 (-9 : Int32) H locs ls hw (lv_sub hl [0, 1, 2, 4] rfl) h
        · replace h := iT c_5 h
          refine lv_iload hx hb dX7_meet_51 (lv_at hl 4 rfl) ?_
          refine lv_goto (tgt := 58) hx hb dX7_meet_53 (by decide) ?_
          exact kX7_meet_58 M ih S x1 x2 x4 x4 H locs ls hw (lv_sub hl [0, 1, 2, 4] rfl) h
set_option maxHeartbeats 4000000 in
set_option maxRecDepth 100000 in
theorem m_X7_meet (l : Launch) (z : KT) (qS : Nat → Nat) (S : RT) (x1 : Int32) (x2 : Int32) (Q : Int32 → RT → Prop) (h : wX7_meet S x1 x2 Q) : CI l yX7_meet cX7_meet 5 .int rmX7_meet z [.ref (qS 0), .int x1, .int x2] (sW z qS S) (fun u : RT => (sW z qS u)) (fun (r : Int32) (u : RT) => Q r u) := by
  refine CI.of rfl (Nat.le_of_ble_eq_true rfl) ?_
  intro p e s m below meth c A ls M hw hl
  have M : Mc p s m _ meth c cX7_meet 5 (some .int) RX7 z A := M
  obtain ⟨hx, hb, -, -, hown, hts, -, -, -, hN, hsr, -⟩ := id M
  have hl : lv_has ls 5 [(0, .ref (qS 0)), (1, .int x1), (2, .int x2)] := hl
  unfold wX7_meet at h
  generalize s.heap = H at hw ⊢
  generalize ([] : List Loc) = locs at hw ⊢
  refine lv_aload_n hx hb dX7_meet_0 rfl (lv_at hl 0 rfl) ?_
  refine lv_iload_n hx hb dX7_meet_1 rfl (lv_at hl 1 rfl) ?_
  refine lv_iload_n hx hb dX7_meet_2 rfl (lv_at hl 2 rfl) ?_
  refine fr_Vi (wN := fun _ : Unit => (sW z qS S)) M (m_X7_areTwo l z qS S x1 x2 _ h) (cwV 2 hts (gdV cd_X7_areTwo ml_X7_112 im_X7_areTwo se_X7_areTwo in_X7) rfl rfl rfl hdV_X7_areTwo ⟨(Nat.le_of_ble_eq_true rfl), (Nat.le_of_ble_eq_true rfl)⟩) (Cut.self _) (Prm.self _ 17 (fun _ => rfl)) 0 rfl rfl rfl hw rfl hl.1 rfl (Nat.le_of_ble_eq_true rfl) dX7_meet_3 (fun r_1 u_ H locs h hw => ?_)
  have hw : Hw s z A (sW z qS S) H locs := hw
  try dsimp only at h
  refine lv_if_ne (tgt := 15) hx hb dX7_meet_6 (by decide) (fun c_2 => ?_) (fun c_2 => ?_)
  · replace h := iF c_2 h
    refine lv_aload_n hx hb dX7_meet_15 rfl (lv_at hl 0 rfl) ?_
    refine fr_Vv (wN := fun u : RT => (sW z qS u)) M (m_X7_thinks l z qS S _ h) (cwV 0 hts (gdV cd_X7_thinks ml_X7_201 im_X7_thinks se_X7_thinks in_X7) rfl rfl rfl hdV_X7_thinks ⟨(Nat.le_of_ble_eq_true rfl), (Nat.le_of_ble_eq_true rfl)⟩) (Cut.self _) (Prm.self _ 17 (fun _ => rfl)) 0 rfl rfl rfl hw rfl hl.1 rfl (Nat.le_of_ble_eq_true rfl) dX7_meet_16 (fun u_ H locs h hw => ?_)
    obtain ⟨S_3, rfl⟩ : ∃ z9 : RT, z9 = u_ := ⟨_, rfl⟩
    have hw : Hw s z A (sW z qS S_3) H locs := hw
    try dsimp only at h
    refine lv_bipush (v := -9) hx hb dX7_meet_19 (by decide) ?_
    refine lv_istore_n (lv' := [(3, .int (-9 : Int32)), (0, .ref (qS 0)), (1, .int x1), (2, .int x2)]) hx hb dX7_meet_21 rfl hl (by decide) rfl (fun ls hl => ?_)
    refine lv_iconst (v := 0) hx hb dX7_meet_22 (by decide) ?_
    refine lv_istore (lv' := [(4, .int (0 : Int32)), (3, .int (-9 : Int32)), (0, .ref (qS 0)), (1, .int x1), (2, .int x2)]) hx hb dX7_meet_23 hl (by decide) rfl (fun ls hl => ?_)
    obtain ⟨n0, h⟩ := h; exact kX7_meet_25 M n0 S_3 x1 x2 (-9 : Int32) (0 : Int32) H locs ls hw (lv_sub hl [2, 3, 4, 1, 0] rfl) h
  · replace h := iT c_2 h
    refine lv_aload_n hx hb dX7_meet_9 rfl (lv_at hl 0 rfl) ?_
    refine lv_iconst (v := -1) hx hb dX7_meet_10 (by decide) ?_
    refine fr_Vi (wN := fun u : RT => (sW z qS u)) M (m_X7_no l z qS S (-1 : Int32) _ h) (cwV 1 hts (gdV cd_X7_no ml_X7_81 im_X7_no se_X7_no in_X7) rfl rfl rfl hdV_X7_no ⟨(Nat.le_of_ble_eq_true rfl), (Nat.le_of_ble_eq_true rfl)⟩) (Cut.self _) (Prm.self _ 17 (fun _ => rfl)) 0 rfl rfl rfl hw rfl hl.1 rfl (Nat.le_of_ble_eq_true rfl) dX7_meet_11 (fun r_5 u_ H locs h hw => ?_)
    obtain ⟨S_4, rfl⟩ : ∃ z9 : RT, z9 = u_ := ⟨_, rfl⟩
    have hw : Hw s z A (sW z qS S_4) H locs := hw
    try dsimp only at h
    exact rt_i M S_4 hw h dX7_meet_14
abbrev rmX7_findHigher : Room := { frames := 7, cells := 0, slots := 0, locals := 157 }
set_option maxHeartbeats 4000000 in
set_option maxRecDepth 100000 in
theorem kX7_findHigher_3 {p : Program} {l : Launch} {e : Env} {s : State} {m : MethodId} {args : Array Value} {below : List Frame} {meth : Method} {c : Code} {z : KT} {A : Nat → Prop} {qS : Nat → Nat} {Q : RT → Prop} (M : Mc p s m args meth c cX7_findHigher 5 none RX7 z A) : ∀ (n : Nat) (S : RT) (x1 : Int32) (x2 : Int32) (x3 : Int32) (x4 : Int32) (H : Heap) (locs : List Loc) (ls : Array Slot), Hw s z A (sW z qS S) H locs → lv_has ls 5 [(0, .ref (qS 0)), (1, .int x1), (2, .int x2), (3, .int x3), (4, .int x4)] → bX7_findHigher_3 Q n S x1 x2 x3 x4 → W p l e rmX7_findHigher s m args below meth c H locs 0 0 (MQ below (va_Qv (fun u : RT => Q u) (fun u t => cAt z A ((fun u : RT => (sW z qS u)) u) t) A) args s 0 0 A) (F0 m 3 ls []) := by
  obtain ⟨hx, hb, -, -, hown, hts, -, -, -, hN, hsr, -⟩ := id M
  intro n
  induction n with
  | zero => intro S x1 x2 x3 x4 H locs ls hw hl h; exact False.elim h
  | succ n ih =>
    intro S x1 x2 x3 x4 H locs ls hw hl h
    rw [bX7_findHigher_3] at h
    refine lv_iload hx hb dX7_findHigher_3 (lv_at hl 4 rfl) ?_
    refine lv_iconst (v := 4) hx hb dX7_findHigher_5 (by decide) ?_
    refine lv_icmp_ge (tgt := 98) hx hb dX7_findHigher_6 (by decide) (fun c_1 => ?_) (fun c_1 => ?_)
    · replace h := iT c_1 h
      exact rt_v M S hw h dX7_findHigher_98
    · replace h := iF c_1 h
      refine lv_aload_n hx hb dX7_findHigher_9 rfl (lv_at hl 0 rfl) ?_
      refine fr_Vv (wN := fun u : RT => (sW z qS u)) M (m_X7_thinks l z qS S _ h) (cwV 0 hts (gdV cd_X7_thinks ml_X7_201 im_X7_thinks se_X7_thinks in_X7) rfl rfl rfl hdV_X7_thinks ⟨(Nat.le_of_ble_eq_true rfl), (Nat.le_of_ble_eq_true rfl)⟩) (Cut.self _) (Prm.self _ 17 (fun _ => rfl)) 0 rfl rfl rfl hw rfl hl.1 rfl (Nat.le_of_ble_eq_true rfl) dX7_findHigher_10 (fun u_ H locs h hw => ?_)
      obtain ⟨S_2, rfl⟩ : ∃ z9 : RT, z9 = u_ := ⟨_, rfl⟩
      have hw : Hw s z A (sW z qS S_2) H locs := hw
      try dsimp only at h
      refine lv_aload_n hx hb dX7_findHigher_13 rfl (lv_at hl 0 rfl) ?_
      refine gt_f (v := .ref (qS 5)) M inlX7 hw 0 rfl rfl 4 (by decide) fl_X7_22 rfl rfl dX7_findHigher_14 ?_
      refine lv_iload_n hx hb dX7_findHigher_17 rfl (lv_at hl 1 rfl) ?_
      refine lv_aload_n hx hb dX7_findHigher_18 rfl (lv_at hl 0 rfl) ?_
      refine gt_f (v := .ref (qS 5)) M inlX7 hw 0 rfl rfl 4 (by decide) fl_X7_22 rfl rfl dX7_findHigher_19 ?_
      refine lv_iload_n hx hb dX7_findHigher_22 rfl (lv_at hl 1 rfl) ?_
      obtain ⟨a_3, h⟩ := h
      refine ld_i M hw 5 rfl a_3 dX7_findHigher_23 ?_
      refine lv_iconst (v := 2) hx hb dX7_findHigher_24 (by decide) ?_
      refine lv_iload hx hb dX7_findHigher_25 (lv_at hl 4 rfl) ?_
      refine lv_iconst (v := 2) hx hb dX7_findHigher_27 (by decide) ?_
      refine lv_idiv hx hb dX7_findHigher_28 (by decide) ?_
      refine lv_imul hx hb dX7_findHigher_29 ?_
      refine lv_iadd hx hb dX7_findHigher_30 ?_
      refine lv_iconst (v := 0) hx hb dX7_findHigher_31 (by decide) ?_
      refine lv_bipush (v := 9) hx hb dX7_findHigher_32 (by decide) ?_
      refine fr_Si (wN := fun _ : Unit => (sW z qS S_2)) M (m_X7_held l z ((S_2 4 (x1).toNatClampNeg) + ((2 : Int32) * (x4 / (2 : Int32)))) (0 : Int32) (9 : Int32) _ h) (va_cwS 3 hts (gdS cd_X7_held ml_X7_182 st_X7_held in_X7) rfl rfl rfl hdS_X7_held ⟨(Nat.le_of_ble_eq_true rfl), (Nat.le_of_ble_eq_true rfl)⟩) (Cut.none _) (Prm.none _) hw rfl hl.1 rfl (Nat.le_of_ble_eq_true rfl) dX7_findHigher_34 (fun r_4 u_ H locs h hw => ?_)
      have hw : Hw s z A (sW z qS S_2) H locs := hw
      try dsimp only at h
      refine st_i (P := S_2) (r := 4) (wN := fun S_5 => (sW z qS S_5)) M hw 5 rfl rfl a_3 dX7_findHigher_37 (fun S_5 H locs eS_5 hw => ?_)
      replace h := h S_5 eS_5
      refine lv_aload_n hx hb dX7_findHigher_38 rfl (lv_at hl 0 rfl) ?_
      refine gt_f (v := .ref (qS 5)) M inlX7 hw 0 rfl rfl 4 (by decide) fl_X7_22 rfl rfl dX7_findHigher_39 ?_
      refine lv_iload_n hx hb dX7_findHigher_42 rfl (lv_at hl 2 rfl) ?_
      refine lv_aload_n hx hb dX7_findHigher_43 rfl (lv_at hl 0 rfl) ?_
      refine gt_f (v := .ref (qS 5)) M inlX7 hw 0 rfl rfl 4 (by decide) fl_X7_22 rfl rfl dX7_findHigher_44 ?_
      refine lv_iload_n hx hb dX7_findHigher_47 rfl (lv_at hl 2 rfl) ?_
      obtain ⟨a_6, h⟩ := h
      refine ld_i M hw 5 rfl a_6 dX7_findHigher_48 ?_
      refine lv_iconst (v := 2) hx hb dX7_findHigher_49 (by decide) ?_
      refine lv_iload hx hb dX7_findHigher_50 (lv_at hl 4 rfl) ?_
      refine lv_iconst (v := 2) hx hb dX7_findHigher_52 (by decide) ?_
      refine lv_irem hx hb dX7_findHigher_53 (by decide) ?_
      refine lv_imul hx hb dX7_findHigher_54 ?_
      refine lv_iadd hx hb dX7_findHigher_55 ?_
      refine lv_iconst (v := 0) hx hb dX7_findHigher_56 (by decide) ?_
      refine lv_bipush (v := 9) hx hb dX7_findHigher_57 (by decide) ?_
      refine fr_Si (wN := fun _ : Unit => (sW z qS S_5)) M (m_X7_held l z ((S_5 4 (x2).toNatClampNeg) + ((2 : Int32) * (x4 - x4 / (2 : Int32) * (2 : Int32)))) (0 : Int32) (9 : Int32) _ h) (va_cwS 3 hts (gdS cd_X7_held ml_X7_182 st_X7_held in_X7) rfl rfl rfl hdS_X7_held ⟨(Nat.le_of_ble_eq_true rfl), (Nat.le_of_ble_eq_true rfl)⟩) (Cut.none _) (Prm.none _) hw rfl hl.1 rfl (Nat.le_of_ble_eq_true rfl) dX7_findHigher_59 (fun r_7 u_ H locs h hw => ?_)
      have hw : Hw s z A (sW z qS S_5) H locs := hw
      try dsimp only at h
      refine st_i (P := S_5) (r := 4) (wN := fun S_8 => (sW z qS S_8)) M hw 5 rfl rfl a_6 dX7_findHigher_62 (fun S_8 H locs eS_8 hw => ?_)
      replace h := h S_8 eS_8
      refine lv_aload_n hx hb dX7_findHigher_63 rfl (lv_at hl 0 rfl) ?_
      refine lv_iload_n hx hb dX7_findHigher_64 rfl (lv_at hl 3 rfl) ?_
      refine fr_Vv (wN := fun u : RT => (sW z qS u)) M (m_X7_goes l z qS S_8 x3 _ h) (cwV 1 hts (gdV cd_X7_goes ml_X7_122 im_X7_goes se_X7_goes in_X7) rfl rfl rfl hdV_X7_goes ⟨(Nat.le_of_ble_eq_true rfl), (Nat.le_of_ble_eq_true rfl)⟩) (Cut.self _) (Prm.self _ 17 (fun _ => rfl)) 0 rfl rfl rfl hw rfl hl.1 rfl (Nat.le_of_ble_eq_true rfl) dX7_findHigher_65 (fun u_ H locs h hw => ?_)
      obtain ⟨S_9, rfl⟩ : ∃ z9 : RT, z9 = u_ := ⟨_, rfl⟩
      have hw : Hw s z A (sW z qS S_9) H locs := hw
      try dsimp only at h
      refine lv_aload_n hx hb dX7_findHigher_68 rfl (lv_at hl 0 rfl) ?_
      refine gt_f (v := .ref (qS 25)) M inlX7 hw 0 rfl rfl 24 (by decide) fl_X7_56 rfl rfl dX7_findHigher_69 ?_
      refine lv_iload hx hb dX7_findHigher_72 (lv_at hl 4 rfl) ?_
      refine lv_aload_n hx hb dX7_findHigher_74 rfl (lv_at hl 0 rfl) ?_
      refine gt_f (v := .ref (qS 6)) M inlX7 hw 0 rfl rfl 5 (by decide) fl_X7_25 rfl rfl dX7_findHigher_75 ?_
      refine lv_iload_n hx hb dX7_findHigher_78 rfl (lv_at hl 1 rfl) ?_
      refine ld_i M hw 6 rfl a_3 dX7_findHigher_79 ?_
      refine lv_aload_n hx hb dX7_findHigher_80 rfl (lv_at hl 0 rfl) ?_
      refine gt_f (v := .ref (qS 6)) M inlX7 hw 0 rfl rfl 5 (by decide) fl_X7_25 rfl rfl dX7_findHigher_81 ?_
      refine lv_iload_n hx hb dX7_findHigher_84 rfl (lv_at hl 2 rfl) ?_
      refine ld_i M hw 6 rfl a_6 dX7_findHigher_85 ?_
      refine lv_isub hx hb dX7_findHigher_86 ?_
      obtain ⟨a_10, h⟩ := h
      refine st_i (P := S_9) (r := 24) (wN := fun S_11 => (sW z qS S_11)) M hw 15 rfl rfl a_10 dX7_findHigher_87 (fun S_11 H locs eS_11 hw => ?_)
      replace h := h S_11 eS_11
      refine lv_aload_n hx hb dX7_findHigher_88 rfl (lv_at hl 0 rfl) ?_
      refine fr_Vv (wN := fun u : RT => (sW z qS u)) M (m_X7_forgets l z qS S_11 _ h) (cwV 0 hts (gdV cd_X7_forgets ml_X7_204 im_X7_forgets se_X7_forgets in_X7) rfl rfl rfl hdV_X7_forgets ⟨(Nat.le_of_ble_eq_true rfl), (Nat.le_of_ble_eq_true rfl)⟩) (Cut.self _) (Prm.self _ 17 (fun _ => rfl)) 0 rfl rfl rfl hw rfl hl.1 rfl (Nat.le_of_ble_eq_true rfl) dX7_findHigher_89 (fun u_ H locs h hw => ?_)
      obtain ⟨S_12, rfl⟩ : ∃ z9 : RT, z9 = u_ := ⟨_, rfl⟩
      have hw : Hw s z A (sW z qS S_12) H locs := hw
      try dsimp only at h
      obtain ⟨x4_13, ex4_13⟩ : ∃ y : Int32, y = (x4 + (1 : Int32)) := ⟨_, rfl⟩
      replace h := h x4_13 ex4_13
      refine lv_iinc (v := x4_13) (lv' := [(4, .int x4_13), (0, .ref (qS 0)), (1, .int x1), (2, .int x2), (3, .int x3)]) hx hb dX7_findHigher_92 hl (k := 4) rfl (by rw [ex4_13]; rfl) (by decide) rfl (fun ls hl => ?_)
      refine lv_goto (tgt := 3) hx hb dX7_findHigher_95 (by decide) ?_
      exact ih S_12 x1 x2 x3 x4_13 H locs ls hw (lv_sub hl [1, 2, 3, 4, 0] rfl) h
set_option maxHeartbeats 4000000 in
set_option maxRecDepth 100000 in
theorem m_X7_findHigher (l : Launch) (z : KT) (qS : Nat → Nat) (S : RT) (x1 : Int32) (x2 : Int32) (x3 : Int32) (Q : RT → Prop) (h : wX7_findHigher S x1 x2 x3 Q) : CV l yX7_findHigher cX7_findHigher 5 rmX7_findHigher z [.ref (qS 0), .int x1, .int x2, .int x3] (sW z qS S) (fun u : RT => (sW z qS u)) (fun u : RT => Q u) := by
  refine CV.of rfl (Nat.le_of_ble_eq_true rfl) ?_
  intro p e s m below meth c A ls M hw hl
  have M : Mc p s m _ meth c cX7_findHigher 5 none RX7 z A := M
  obtain ⟨hx, hb, -, -, hown, hts, -, -, -, hN, hsr, -⟩ := id M
  have hl : lv_has ls 5 [(0, .ref (qS 0)), (1, .int x1), (2, .int x2), (3, .int x3)] := hl
  unfold wX7_findHigher at h
  generalize s.heap = H at hw ⊢
  generalize ([] : List Loc) = locs at hw ⊢
  refine lv_iconst (v := 0) hx hb dX7_findHigher_0 (by decide) ?_
  refine lv_istore (lv' := [(4, .int (0 : Int32)), (0, .ref (qS 0)), (1, .int x1), (2, .int x2), (3, .int x3)]) hx hb dX7_findHigher_1 hl (by decide) rfl (fun ls hl => ?_)
  obtain ⟨n0, h⟩ := h; exact kX7_findHigher_3 M n0 S x1 x2 x3 (0 : Int32) H locs ls hw (lv_sub hl [1, 2, 3, 4, 0] rfl) h
abbrev rmX7_two : Room := { frames := 8, cells := 0, slots := 0, locals := 181 }
set_option maxHeartbeats 4000000 in
set_option maxRecDepth 100000 in
theorem kX7_two_101 {p : Program} {l : Launch} {e : Env} {s : State} {m : MethodId} {args : Array Value} {below : List Frame} {meth : Method} {c : Code} {z : KT} {A : Nat → Prop} {qS : Nat → Nat} {K44 : RT → Int32 → Prop} {Q : Int32 → RT → Prop} (M : Mc p s m args meth c cX7_two 6 (some .int) RX7 z A) (hK44 : ∀ (S : RT) (x5 : Int32) (H : Heap) (locs : List Loc) (ls : Array Slot), Hw s z A (sW z qS S) H locs → lv_has ls 6 [(0, .ref (qS 0)), (5, .int x5)] → K44 S x5 → W p l e rmX7_two s m args below meth c H locs 0 0 (MQ below (va_Qi (fun (r : Int32) (u : RT) => Q r u) (fun u t => cAt z A ((fun u : RT => (sW z qS u)) u) t) A) args s 0 0 A) (F0 m 44 ls [])) : ∀ (S : RT) (x5 : Int32) (H : Heap) (locs : List Loc) (ls : Array Slot), Hw s z A (sW z qS S) H locs → lv_has ls 6 [(0, .ref (qS 0)), (5, .int x5)] → bX7_two_101 K44 Q S x5 → W p l e rmX7_two s m args below meth c H locs 0 0 (MQ below (va_Qi (fun (r : Int32) (u : RT) => Q r u) (fun u t => cAt z A ((fun u : RT => (sW z qS u)) u) t) A) args s 0 0 A) (F0 m 101 ls []) := by
  obtain ⟨hx, hb, -, -, hown, hts, -, -, -, hN, hsr, -⟩ := id M
  intro S x5 H locs ls hw hl h
  unfold bX7_two_101 at h
  obtain ⟨x5_1, ex5_1⟩ : ∃ y : Int32, y = (x5 + (1 : Int32)) := ⟨_, rfl⟩
  replace h := h x5_1 ex5_1
  refine lv_iinc (v := x5_1) (lv' := [(5, .int x5_1), (0, .ref (qS 0))]) hx hb dX7_two_101 hl (k := 1) rfl (by rw [ex5_1]; rfl) (by decide) rfl (fun ls hl => ?_)
  refine lv_goto (tgt := 44) hx hb dX7_two_104 (by decide) ?_
  exact hK44 S x5_1 H locs ls hw (lv_sub hl [1, 0] rfl) h
set_option maxHeartbeats 4000000 in
set_option maxRecDepth 100000 in
theorem kX7_two_44 {p : Program} {l : Launch} {e : Env} {s : State} {m : MethodId} {args : Array Value} {below : List Frame} {meth : Method} {c : Code} {z : KT} {A : Nat → Prop} {qS : Nat → Nat} {Q : Int32 → RT → Prop} (M : Mc p s m args meth c cX7_two 6 (some .int) RX7 z A) : ∀ (n : Nat) (S : RT) (x5 : Int32) (H : Heap) (locs : List Loc) (ls : Array Slot), Hw s z A (sW z qS S) H locs → lv_has ls 6 [(0, .ref (qS 0)), (5, .int x5)] → bX7_two_44 Q n S x5 → W p l e rmX7_two s m args below meth c H locs 0 0 (MQ below (va_Qi (fun (r : Int32) (u : RT) => Q r u) (fun u t => cAt z A ((fun u : RT => (sW z qS u)) u) t) A) args s 0 0 A) (F0 m 44 ls []) := by
  obtain ⟨hx, hb, -, -, hown, hts, -, -, -, hN, hsr, -⟩ := id M
  intro n
  induction n with
  | zero => intro S x5 H locs ls hw hl h; exact False.elim h
  | succ n ih =>
    intro S x5 H locs ls hw hl h
    rw [bX7_two_44] at h
    refine lv_iload hx hb dX7_two_44 (lv_at hl 1 rfl) ?_
    refine lv_iconst (v := 4) hx hb dX7_two_46 (by decide) ?_
    refine lv_icmp_ge (tgt := 107) hx hb dX7_two_47 (by decide) (fun c_1 => ?_) (fun c_1 => ?_)
    · replace h := iT c_1 h
      refine lv_bipush (v := -9) hx hb dX7_two_107 (by decide) ?_
      exact rt_i M S hw h dX7_two_109
    · replace h := iF c_1 h
      refine lv_aload_n hx hb dX7_two_50 rfl (lv_at hl 0 rfl) ?_
      refine gt_f (v := .ref (qS 25)) M inlX7 hw 0 rfl rfl 24 (by decide) fl_X7_56 rfl rfl dX7_two_51 ?_
      refine lv_iload hx hb dX7_two_54 (lv_at hl 1 rfl) ?_
      refine lv_iconst (v := 2) hx hb dX7_two_56 (by decide) ?_
      refine lv_ixor hx hb dX7_two_57 ?_
      obtain ⟨a_2, h⟩ := h
      refine ld_i M hw 15 rfl a_2 dX7_two_58 ?_
      refine lv_aload_n hx hb dX7_two_59 rfl (lv_at hl 0 rfl) ?_
      refine gt_f (v := .ref (qS 25)) M inlX7 hw 0 rfl rfl 24 (by decide) fl_X7_56 rfl rfl dX7_two_60 ?_
      refine lv_iload hx hb dX7_two_63 (lv_at hl 1 rfl) ?_
      obtain ⟨a_3, h⟩ := h
      refine ld_i M hw 15 rfl a_3 dX7_two_65 ?_
      refine lv_icmp_gt (tgt := 101) hx hb dX7_two_66 (by decide) (fun c_4 => ?_) (fun c_4 => ?_)
      · replace h := iT c_4 h
        exact kX7_two_101 M ih S x5 H locs ls hw (lv_sub hl [0, 1] rfl) h
      · replace h := iF c_4 h
        refine lv_aload_n hx hb dX7_two_69 rfl (lv_at hl 0 rfl) ?_
        refine gt_f (v := .ref (qS 25)) M inlX7 hw 0 rfl rfl 24 (by decide) fl_X7_56 rfl rfl dX7_two_70 ?_
        refine lv_iload hx hb dX7_two_73 (lv_at hl 1 rfl) ?_
        refine lv_iconst (v := 1) hx hb dX7_two_75 (by decide) ?_
        refine lv_ixor hx hb dX7_two_76 ?_
        obtain ⟨a_5, h⟩ := h
        refine ld_i M hw 15 rfl a_5 dX7_two_77 ?_
        refine lv_aload_n hx hb dX7_two_78 rfl (lv_at hl 0 rfl) ?_
        refine gt_f (v := .ref (qS 25)) M inlX7 hw 0 rfl rfl 24 (by decide) fl_X7_56 rfl rfl dX7_two_79 ?_
        refine lv_iload hx hb dX7_two_82 (lv_at hl 1 rfl) ?_
        refine ld_i M hw 15 rfl a_3 dX7_two_84 ?_
        refine lv_icmp_lt (tgt := 101) hx hb dX7_two_85 (by decide) (fun c_6 => ?_) (fun c_6 => ?_)
        · replace h := iT c_6 h
          exact kX7_two_101 M ih S x5 H locs ls hw (lv_sub hl [0, 1] rfl) h
        · replace h := iF c_6 h
          refine lv_bipush (v := 10) hx hb dX7_two_88 (by decide) ?_
          refine lv_iload hx hb dX7_two_90 (lv_at hl 1 rfl) ?_
          refine lv_iconst (v := 2) hx hb dX7_two_92 (by decide) ?_
          refine lv_idiv hx hb dX7_two_93 (by decide) ?_
          refine lv_imul hx hb dX7_two_94 ?_
          refine lv_iload hx hb dX7_two_95 (lv_at hl 1 rfl) ?_
          refine lv_iconst (v := 2) hx hb dX7_two_97 (by decide) ?_
          refine lv_irem hx hb dX7_two_98 (by decide) ?_
          refine lv_iadd hx hb dX7_two_99 ?_
          exact rt_i M S hw h dX7_two_100
set_option maxHeartbeats 4000000 in
set_option maxRecDepth 100000 in
theorem kX7_two_20 {p : Program} {l : Launch} {e : Env} {s : State} {m : MethodId} {args : Array Value} {below : List Frame} {meth : Method} {c : Code} {z : KT} {A : Nat → Prop} {qS : Nat → Nat} {Q : Int32 → RT → Prop} (M : Mc p s m args meth c cX7_two 6 (some .int) RX7 z A) : ∀ (S : RT) (x1 : Int32) (x2 : Int32) (x3 : Int32) (t0 : Int32) (H : Heap) (locs : List Loc) (ls : Array Slot), Hw s z A (sW z qS S) H locs → lv_has ls 6 [(0, .ref (qS 0)), (1, .int x1), (2, .int x2), (3, .int x3)] → bX7_two_20 Q S x1 x2 x3 t0 → W p l e rmX7_two s m args below meth c H locs 0 0 (MQ below (va_Qi (fun (r : Int32) (u : RT) => Q r u) (fun u t => cAt z A ((fun u : RT => (sW z qS u)) u) t) A) args s 0 0 A) (F0 m 20 ls [.int t0]) := by
  obtain ⟨hx, hb, -, -, hown, hts, -, -, -, hN, hsr, -⟩ := id M
  intro S x1 x2 x3 t0 H locs ls hw hl h
  unfold bX7_two_20 at h
  refine lv_istore (lv' := [(4, .int t0), (0, .ref (qS 0)), (1, .int x1), (2, .int x2), (3, .int x3)]) hx hb dX7_two_20 hl (by decide) rfl (fun ls hl => ?_)
  refine lv_iload hx hb dX7_two_22 (lv_at hl 0 rfl) ?_
  refine lv_if_eq (tgt := 34) hx hb dX7_two_24 (by decide) (fun c_1 => ?_) (fun c_1 => ?_)
  · replace h := iT c_1 h
    refine lv_aload_n hx hb dX7_two_34 rfl (lv_at hl 1 rfl) ?_
    refine lv_iload_n hx hb dX7_two_35 rfl (lv_at hl 2 rfl) ?_
    refine lv_iload_n hx hb dX7_two_36 rfl (lv_at hl 3 rfl) ?_
    refine lv_iload_n hx hb dX7_two_37 rfl (lv_at hl 4 rfl) ?_
    refine fr_Vv (wN := fun u : RT => (sW z qS u)) M (m_X7_findHigher l z qS S x1 x2 x3 _ h) (cwV 3 hts (gdV cd_X7_findHigher ml_X7_261 im_X7_findHigher se_X7_findHigher in_X7) rfl rfl rfl hdV_X7_findHigher ⟨(Nat.le_of_ble_eq_true rfl), (Nat.le_of_ble_eq_true rfl)⟩) (Cut.self _) (Prm.self _ 17 (fun _ => rfl)) 0 rfl rfl rfl hw rfl hl.1 rfl (Nat.le_of_ble_eq_true rfl) dX7_two_38 (fun u_ H locs h hw => ?_)
    obtain ⟨S_2, rfl⟩ : ∃ z9 : RT, z9 = u_ := ⟨_, rfl⟩
    have hw : Hw s z A (sW z qS S_2) H locs := hw
    try dsimp only at h
    refine lv_iconst (v := 0) hx hb dX7_two_41 (by decide) ?_
    refine lv_istore (lv' := [(5, .int (0 : Int32)), (4, .int t0), (0, .ref (qS 0)), (1, .int x1), (2, .int x2), (3, .int x3)]) hx hb dX7_two_42 hl (by decide) rfl (fun ls hl => ?_)
    obtain ⟨n0, h⟩ := h; exact kX7_two_44 M n0 S_2 (0 : Int32) H locs ls hw (lv_sub hl [2, 0] rfl) h
  · replace h := iF c_1 h
    refine lv_aload_n hx hb dX7_two_27 rfl (lv_at hl 1 rfl) ?_
    refine lv_iload hx hb dX7_two_28 (lv_at hl 0 rfl) ?_
    refine fr_Vi (wN := fun u : RT => (sW z qS u)) M (m_X7_no l z qS S t0 _ h) (cwV 1 hts (gdV cd_X7_no ml_X7_81 im_X7_no se_X7_no in_X7) rfl rfl rfl hdV_X7_no ⟨(Nat.le_of_ble_eq_true rfl), (Nat.le_of_ble_eq_true rfl)⟩) (Cut.self _) (Prm.self _ 17 (fun _ => rfl)) 0 rfl rfl rfl hw rfl hl.1 rfl (Nat.le_of_ble_eq_true rfl) dX7_two_30 (fun r_4 u_ H locs h hw => ?_)
    obtain ⟨S_3, rfl⟩ : ∃ z9 : RT, z9 = u_ := ⟨_, rfl⟩
    have hw : Hw s z A (sW z qS S_3) H locs := hw
    try dsimp only at h
    exact rt_i M S_3 hw h dX7_two_33
set_option maxHeartbeats 4000000 in
set_option maxRecDepth 100000 in
theorem m_X7_two (l : Launch) (z : KT) (qS : Nat → Nat) (S : RT) (x1 : Int32) (x2 : Int32) (x3 : Int32) (Q : Int32 → RT → Prop) (h : wX7_two S x1 x2 x3 Q) : CI l yX7_two cX7_two 6 .int rmX7_two z [.ref (qS 0), .int x1, .int x2, .int x3] (sW z qS S) (fun u : RT => (sW z qS u)) (fun (r : Int32) (u : RT) => Q r u) := by
  refine CI.of rfl (Nat.le_of_ble_eq_true rfl) ?_
  intro p e s m below meth c A ls M hw hl
  have M : Mc p s m _ meth c cX7_two 6 (some .int) RX7 z A := M
  obtain ⟨hx, hb, -, -, hown, hts, -, -, -, hN, hsr, -⟩ := id M
  have hl : lv_has ls 6 [(0, .ref (qS 0)), (1, .int x1), (2, .int x2), (3, .int x3)] := hl
  unfold wX7_two at h
  generalize s.heap = H at hw ⊢
  generalize ([] : List Loc) = locs at hw ⊢
  refine lv_aload_n hx hb dX7_two_0 rfl (lv_at hl 0 rfl) ?_
  refine lv_iload_n hx hb dX7_two_1 rfl (lv_at hl 1 rfl) ?_
  refine lv_iload_n hx hb dX7_two_2 rfl (lv_at hl 2 rfl) ?_
  refine fr_Vi (wN := fun _ : Unit => (sW z qS S)) M (m_X7_areTwo l z qS S x1 x2 _ h) (cwV 2 hts (gdV cd_X7_areTwo ml_X7_112 im_X7_areTwo se_X7_areTwo in_X7) rfl rfl rfl hdV_X7_areTwo ⟨(Nat.le_of_ble_eq_true rfl), (Nat.le_of_ble_eq_true rfl)⟩) (Cut.self _) (Prm.self _ 17 (fun _ => rfl)) 0 rfl rfl rfl hw rfl hl.1 rfl (Nat.le_of_ble_eq_true rfl) dX7_two_3 (fun r_1 u_ H locs h hw => ?_)
  have hw : Hw s z A (sW z qS S) H locs := hw
  try dsimp only at h
  refine lv_if_ne (tgt := 13) hx hb dX7_two_6 (by decide) (fun c_2 => ?_) (fun c_2 => ?_)
  · replace h := iF c_2 h
    refine lv_iload_n hx hb dX7_two_13 rfl (lv_at hl 3 rfl) ?_
    refine lv_iconst (v := 0) hx hb dX7_two_14 (by decide) ?_
    refine lv_bipush (v := 30) hx hb dX7_two_15 (by decide) ?_
    refine fr_Si (wN := fun _ : Unit => (sW z qS S)) M (m_X7_bound l z x3 (0 : Int32) (30 : Int32) _ h) (va_cwS 3 hts (gdS cd_X7_bound ml_X7_74 st_X7_bound in_X7) rfl rfl rfl hdS_X7_bound ⟨(Nat.le_of_ble_eq_true rfl), (Nat.le_of_ble_eq_true rfl)⟩) (Cut.none _) (Prm.none _) hw rfl hl.1 rfl (Nat.le_of_ble_eq_true rfl) dX7_two_17 (fun r_3 u_ H locs h hw => ?_)
    have hw : Hw s z A (sW z qS S) H locs := hw
    try dsimp only at h
    exact kX7_two_20 M S x1 x2 x3 r_3 H locs ls hw (lv_sub hl [0, 1, 2, 3] rfl) h
  · replace h := iT c_2 h
    refine lv_iconst (v := -1) hx hb dX7_two_9 (by decide) ?_
    refine lv_goto (tgt := 20) hx hb dX7_two_10 (by decide) ?_
    exact kX7_two_20 M S x1 x2 x3 (-1 : Int32) H locs ls hw (lv_sub hl [0, 1, 2, 3] rfl) h
abbrev rmX7_divisor : Room := { frames := 0, cells := 0, slots := 0, locals := 0 }
set_option maxHeartbeats 4000000 in
set_option maxRecDepth 100000 in
theorem kX7_divisor_6 {p : Program} {l : Launch} {e : Env} {s : State} {m : MethodId} {args : Array Value} {below : List Frame} {meth : Method} {c : Code} {z : KT} {A : Nat → Prop} {Q : Int64 → Prop} (M : Mc p s m args meth c cX7_divisor 10 (some .long) RX7 z A) : ∀ (n : Nat) (y4 : Int64) (y6 : Int64) (H : Heap) (locs : List Loc) (ls : Array Slot), Hw s z A ([] : va_W) H locs → lv_has ls 10 [(4, .long y4), (6, .long y6)] → bX7_divisor_6 Q n y4 y6 → W p l e rmX7_divisor s m args below meth c H locs 0 0 (MQ below (va_Ql (fun (r : Int64) (_ : Unit) => Q r) (fun u t => cAt z A ((fun _ : Unit => ([] : va_W)) u) t) A) args s 0 0 A) (F0 m 6 ls []) := by
  obtain ⟨hx, hb, -, -, hown, hts, -, -, -, hN, hsr, -⟩ := id M
  intro n
  induction n with
  | zero => intro y4 y6 H locs ls hw hl h; exact False.elim h
  | succ n ih =>
    intro y4 y6 H locs ls hw hl h
    rw [bX7_divisor_6] at h
    refine lv_lload hx hb dX7_divisor_6 (lv_at hl 1 rfl) ?_
    refine lv_lconst (v := 0) hx hb dX7_divisor_8 rfl ?_
    refine W.lcmp hx hb dX7_divisor_9 ?_
    refine lv_if_eq (tgt := 31) hx hb dX7_divisor_10 (by decide) (fun c_1 => ?_) (fun c_1 => ?_)
    · replace h := iT c_1 h
      refine lv_lload hx hb dX7_divisor_31 (lv_at hl 0 rfl) ?_
      exact rt_l M () hw h dX7_divisor_33
    · replace h := iF c_1 h
      refine lv_lload hx hb dX7_divisor_13 (lv_at hl 0 rfl) ?_
      refine lv_lload hx hb dX7_divisor_15 (lv_at hl 1 rfl) ?_
      obtain ⟨a_2, h⟩ := h
      refine lv_lrem hx hb dX7_divisor_17 a_2 ?_
      refine lv_topl (fun y8_3 ey8_3 => ?_)
      replace h := h y8_3 ey8_3
      refine lv_lstore (lv' := [(8, .long y8_3), (4, .long y4), (6, .long y6)]) hx hb dX7_divisor_18 hl (by decide) rfl (fun ls hl => ?_)
      refine lv_lload hx hb dX7_divisor_20 (lv_at hl 2 rfl) ?_
      refine lv_lstore (lv' := [(4, .long y6), (8, .long y8_3), (6, .long y6)]) hx hb dX7_divisor_22 hl (by decide) rfl (fun ls hl => ?_)
      refine lv_lload hx hb dX7_divisor_24 (lv_at hl 1 rfl) ?_
      refine lv_lstore (lv' := [(6, .long y8_3), (4, .long y6), (8, .long y8_3)]) hx hb dX7_divisor_26 hl (by decide) rfl (fun ls hl => ?_)
      refine lv_goto (tgt := 6) hx hb dX7_divisor_28 (by decide) ?_
      exact ih y6 y8_3 H locs ls hw (lv_sub hl [1, 0] rfl) h
set_option maxHeartbeats 4000000 in
set_option maxRecDepth 100000 in
theorem m_X7_divisor (l : Launch) (z : KT) (y0 : Int64) (y2 : Int64) (Q : Int64 → Prop) (h : wX7_divisor y0 y2 Q) : CL l yX7_divisor cX7_divisor 10 .long rmX7_divisor z [.long y0, .long y2] ([] : va_W) (fun _ : Unit => ([] : va_W)) (fun (r : Int64) (_ : Unit) => Q r) := by
  refine CL.of rfl (Nat.le_of_ble_eq_true rfl) ?_
  intro p e s m below meth c A ls M hw hl
  have M : Mc p s m _ meth c cX7_divisor 10 (some .long) RX7 z A := M
  obtain ⟨hx, hb, -, -, hown, hts, -, -, -, hN, hsr, -⟩ := id M
  have hl : lv_has ls 10 [(0, .long y0), (2, .long y2)] := hl
  unfold wX7_divisor at h
  generalize s.heap = H at hw ⊢
  generalize ([] : List Loc) = locs at hw ⊢
  refine lv_lload_n hx hb dX7_divisor_0 rfl (lv_at hl 0 rfl) ?_
  refine lv_lstore (lv' := [(4, .long y0), (0, .long y0), (2, .long y2)]) hx hb dX7_divisor_1 hl (by decide) rfl (fun ls hl => ?_)
  refine lv_lload_n hx hb dX7_divisor_3 rfl (lv_at hl 2 rfl) ?_
  refine lv_lstore (lv' := [(6, .long y2), (4, .long y0), (0, .long y0), (2, .long y2)]) hx hb dX7_divisor_4 hl (by decide) rfl (fun ls hl => ?_)
  obtain ⟨n0, h⟩ := h; exact kX7_divisor_6 M n0 y0 y2 H locs ls hw (lv_sub hl [1, 0] rfl) h
abbrev rmX7_partOf : Room := { frames := 1, cells := 0, slots := 0, locals := 29 }
set_option maxHeartbeats 4000000 in
set_option maxRecDepth 100000 in
theorem kX7_partOf_10 {p : Program} {l : Launch} {e : Env} {s : State} {m : MethodId} {args : Array Value} {below : List Frame} {meth : Method} {c : Code} {z : KT} {A : Nat → Prop} {Q : Int64 → Prop} (M : Mc p s m args meth c cX7_partOf 5 (some .long) RX7 z A) : ∀ (y0 : Int64) (y2 : Int64) (u0 : Int64) (H : Heap) (locs : List Loc) (ls : Array Slot), Hw s z A ([] : va_W) H locs → lv_has ls 5 [(0, .long y0), (2, .long y2)] → bX7_partOf_10 Q y0 y2 u0 → W p l e rmX7_partOf s m args below meth c H locs 0 0 (MQ below (va_Ql (fun (r : Int64) (_ : Unit) => Q r) (fun u t => cAt z A ((fun _ : Unit => ([] : va_W)) u) t) A) args s 0 0 A) (F0 m 10 ls [.long u0]) := by
  obtain ⟨hx, hb, -, -, hown, hts, -, -, -, hN, hsr, -⟩ := id M
  intro y0 y2 u0 H locs ls hw hl h
  unfold bX7_partOf_10 at h
  refine lv_lload_n hx hb dX7_partOf_10 rfl (lv_at hl 0 rfl) ?_
  refine lv_lload_n hx hb dX7_partOf_11 rfl (lv_at hl 1 rfl) ?_
  refine fr_Sl (wN := fun _ : Unit => ([] : va_W)) M (m_X7_divisor l z y0 y2 _ h) (va_cwS 2 hts (gdS cd_X7_divisor ml_X7_265 st_X7_divisor in_X7) rfl rfl rfl hdS_X7_divisor ⟨(Nat.le_of_ble_eq_true rfl), (Nat.le_of_ble_eq_true rfl)⟩) (Cut.none _) (Prm.none _) hw rfl hl.1 rfl (Nat.le_of_ble_eq_true rfl) dX7_partOf_12 (fun r_1 u_ H locs h hw => ?_)
  have hw : Hw s z A ([] : va_W) H locs := hw
  try dsimp only at h
  obtain ⟨a_2, h⟩ := h
  refine lv_ldiv hx hb dX7_partOf_15 a_2 ?_
  exact rt_l M () hw h dX7_partOf_16
set_option maxHeartbeats 4000000 in
set_option maxRecDepth 100000 in
theorem m_X7_partOf (l : Launch) (z : KT) (y0 : Int64) (y2 : Int64) (x4 : Int32) (Q : Int64 → Prop) (h : wX7_partOf y0 y2 x4 Q) : CL l yX7_partOf cX7_partOf 5 .long rmX7_partOf z [.long y0, .long y2, .int x4] ([] : va_W) (fun _ : Unit => ([] : va_W)) (fun (r : Int64) (_ : Unit) => Q r) := by
  refine CL.of rfl (Nat.le_of_ble_eq_true rfl) ?_
  intro p e s m below meth c A ls M hw hl
  have M : Mc p s m _ meth c cX7_partOf 5 (some .long) RX7 z A := M
  obtain ⟨hx, hb, -, -, hown, hts, -, -, -, hN, hsr, -⟩ := id M
  have hl : lv_has ls 5 [(0, .long y0), (2, .long y2), (4, .int x4)] := hl
  unfold wX7_partOf at h
  generalize s.heap = H at hw ⊢
  generalize ([] : List Loc) = locs at hw ⊢
  refine lv_iload hx hb dX7_partOf_0 (lv_at hl 2 rfl) ?_
  refine lv_if_ne (tgt := 9) hx hb dX7_partOf_2 (by decide) (fun c_1 => ?_) (fun c_1 => ?_)
  · replace h := iF c_1 h
    refine lv_lload_n hx hb dX7_partOf_9 rfl (lv_at hl 1 rfl) ?_
    exact kX7_partOf_10 M y0 y2 y2 H locs ls hw (lv_sub hl [0, 1] rfl) h
  · replace h := iT c_1 h
    refine lv_lload_n hx hb dX7_partOf_5 rfl (lv_at hl 0 rfl) ?_
    refine lv_goto (tgt := 10) hx hb dX7_partOf_6 (by decide) ?_
    exact kX7_partOf_10 M y0 y2 y0 H locs ls hw (lv_sub hl [0, 1] rfl) h
abbrev rmX7_wet : Room := { frames := 6, cells := 0, slots := 0, locals := 135 }
set_option maxHeartbeats 4000000 in
set_option maxRecDepth 100000 in
theorem kX7_wet_192 {p : Program} {l : Launch} {e : Env} {s : State} {m : MethodId} {args : Array Value} {below : List Frame} {meth : Method} {c : Code} {z : KT} {A : Nat → Prop} {qS : Nat → Nat} {K127 : RT → Int32 → Int32 → Int32 → Int32 → Int32 → Int32 → Int64 → Int64 → Int32 → Prop} {K145 : RT → Int32 → Int32 → Int32 → Int32 → Int32 → Int32 → Int64 → Int64 → Int32 → Int64 → Int32 → Prop} {Q : Int64 → RT → Prop} (M : Mc p s m args meth c cX7_wet 16 (some .long) RX7 z A) (hK127 : ∀ (S : RT) (x1 : Int32) (x2 : Int32) (x3 : Int32) (x4 : Int32) (x5 : Int32) (x6 : Int32) (y8 : Int64) (y10 : Int64) (x12 : Int32) (H : Heap) (locs : List Loc) (ls : Array Slot), Hw s z A (sW z qS S) H locs → lv_has ls 16 [(0, .ref (qS 0)), (1, .int x1), (2, .int x2), (3, .int x3), (4, .int x4), (5, .int x5), (6, .int x6), (8, .long y8), (10, .long y10), (12, .int x12)] → K127 S x1 x2 x3 x4 x5 x6 y8 y10 x12 → W p l e rmX7_wet s m args below meth c H locs 0 0 (MQ below (va_Ql (fun (r : Int64) (u : RT) => Q r u) (fun u t => cAt z A ((fun u : RT => (sW z qS u)) u) t) A) args s 0 0 A) (F0 m 127 ls [])) (hK145 : ∀ (S : RT) (x1 : Int32) (x2 : Int32) (x3 : Int32) (x4 : Int32) (x5 : Int32) (x6 : Int32) (y8 : Int64) (y10 : Int64) (x12 : Int32) (y13 : Int64) (x15 : Int32) (H : Heap) (locs : List Loc) (ls : Array Slot), Hw s z A (sW z qS S) H locs → lv_has ls 16 [(0, .ref (qS 0)), (1, .int x1), (2, .int x2), (3, .int x3), (4, .int x4), (5, .int x5), (6, .int x6), (8, .long y8), (10, .long y10), (12, .int x12), (13, .long y13), (15, .int x15)] → K145 S x1 x2 x3 x4 x5 x6 y8 y10 x12 y13 x15 → W p l e rmX7_wet s m args below meth c H locs 0 0 (MQ below (va_Ql (fun (r : Int64) (u : RT) => Q r u) (fun u t => cAt z A ((fun u : RT => (sW z qS u)) u) t) A) args s 0 0 A) (F0 m 145 ls [])) : ∀ (S : RT) (x1 : Int32) (x2 : Int32) (x3 : Int32) (x4 : Int32) (x5 : Int32) (x6 : Int32) (y8 : Int64) (y10 : Int64) (x12 : Int32) (y13 : Int64) (x15 : Int32) (t1 : Int32) (H : Heap) (locs : List Loc) (ls : Array Slot), Hw s z A (sW z qS S) H locs → lv_has ls 16 [(0, .ref (qS 0)), (1, .int x1), (2, .int x2), (3, .int x3), (4, .int x4), (5, .int x5), (6, .int x6), (8, .long y8), (10, .long y10), (12, .int x12), (13, .long y13), (15, .int x15)] → bX7_wet_192 K127 K145 Q S x1 x2 x3 x4 x5 x6 y8 y10 x12 y13 x15 t1 → W p l e rmX7_wet s m args below meth c H locs 0 0 (MQ below (va_Ql (fun (r : Int64) (u : RT) => Q r u) (fun u t => cAt z A ((fun u : RT => (sW z qS u)) u) t) A) args s 0 0 A) (F0 m 192 ls [.int t1, .ref (qS 0)]) := by
  obtain ⟨hx, hb, -, -, hown, hts, -, -, -, hN, hsr, -⟩ := id M
  intro S x1 x2 x3 x4 x5 x6 y8 y10 x12 y13 x15 t1 H locs ls hw hl h
  unfold bX7_wet_192 at h
  refine st_f (P := S) (r := 30) (j := 11) (wN := fun S_1 => (sW z qS S_1)) M inlX7 tyX7_ok nmX7 hw 0 rfl rfl 11 (by decide) fl_X7_34 rfl rfl rfl rfl rfl (Nat.le_of_ble_eq_true rfl) rfl dX7_wet_192 (fun S_1 H locs eS_1 hw => ?_)
  replace h := h S_1 eS_1
  refine lv_aload_n hx hb dX7_wet_195 rfl (lv_at hl 0 rfl) ?_
  refine fr_Vv (wN := fun u : RT => (sW z qS u)) M (m_X7_goesHour l z qS S_1 _ h) (cwV 0 hts (gdV cd_X7_goesHour ml_X7_188 im_X7_goesHour se_X7_goesHour in_X7) rfl rfl rfl hdV_X7_goesHour ⟨(Nat.le_of_ble_eq_true rfl), (Nat.le_of_ble_eq_true rfl)⟩) (Cut.self _) (Prm.self _ 17 (fun _ => rfl)) 0 rfl rfl rfl hw rfl hl.1 rfl (Nat.le_of_ble_eq_true rfl) dX7_wet_196 (fun u_ H locs h hw => ?_)
  obtain ⟨S_2, rfl⟩ : ∃ z9 : RT, z9 = u_ := ⟨_, rfl⟩
  have hw : Hw s z A (sW z qS S_2) H locs := hw
  try dsimp only at h
  obtain ⟨x15_3, ex15_3⟩ : ∃ y : Int32, y = (x15 + (1 : Int32)) := ⟨_, rfl⟩
  replace h := h x15_3 ex15_3
  refine lv_iinc (v := x15_3) (lv' := [(15, .int x15_3), (0, .ref (qS 0)), (1, .int x1), (2, .int x2), (3, .int x3), (4, .int x4), (5, .int x5), (6, .int x6), (8, .long y8), (10, .long y10), (12, .int x12), (13, .long y13)]) hx hb dX7_wet_199 hl (k := 11) rfl (by rw [ex15_3]; rfl) (by decide) rfl (fun ls hl => ?_)
  refine lv_goto (tgt := 145) hx hb dX7_wet_202 (by decide) ?_
  exact hK145 S_2 x1 x2 x3 x4 x5 x6 y8 y10 x12 y13 x15_3 H locs ls hw (lv_sub hl [1, 2, 3, 4, 5, 6, 7, 8, 9, 10, 11, 0] rfl) h
set_option maxHeartbeats 4000000 in
set_option maxRecDepth 100000 in
theorem kX7_wet_172 {p : Program} {l : Launch} {e : Env} {s : State} {m : MethodId} {args : Array Value} {below : List Frame} {meth : Method} {c : Code} {z : KT} {A : Nat → Prop} {qS : Nat → Nat} {K127 : RT → Int32 → Int32 → Int32 → Int32 → Int32 → Int32 → Int64 → Int64 → Int32 → Prop} {K145 : RT → Int32 → Int32 → Int32 → Int32 → Int32 → Int32 → Int64 → Int64 → Int32 → Int64 → Int32 → Prop} {Q : Int64 → RT → Prop} (M : Mc p s m args meth c cX7_wet 16 (some .long) RX7 z A) (hK127 : ∀ (S : RT) (x1 : Int32) (x2 : Int32) (x3 : Int32) (x4 : Int32) (x5 : Int32) (x6 : Int32) (y8 : Int64) (y10 : Int64) (x12 : Int32) (H : Heap) (locs : List Loc) (ls : Array Slot), Hw s z A (sW z qS S) H locs → lv_has ls 16 [(0, .ref (qS 0)), (1, .int x1), (2, .int x2), (3, .int x3), (4, .int x4), (5, .int x5), (6, .int x6), (8, .long y8), (10, .long y10), (12, .int x12)] → K127 S x1 x2 x3 x4 x5 x6 y8 y10 x12 → W p l e rmX7_wet s m args below meth c H locs 0 0 (MQ below (va_Ql (fun (r : Int64) (u : RT) => Q r u) (fun u t => cAt z A ((fun u : RT => (sW z qS u)) u) t) A) args s 0 0 A) (F0 m 127 ls [])) (hK145 : ∀ (S : RT) (x1 : Int32) (x2 : Int32) (x3 : Int32) (x4 : Int32) (x5 : Int32) (x6 : Int32) (y8 : Int64) (y10 : Int64) (x12 : Int32) (y13 : Int64) (x15 : Int32) (H : Heap) (locs : List Loc) (ls : Array Slot), Hw s z A (sW z qS S) H locs → lv_has ls 16 [(0, .ref (qS 0)), (1, .int x1), (2, .int x2), (3, .int x3), (4, .int x4), (5, .int x5), (6, .int x6), (8, .long y8), (10, .long y10), (12, .int x12), (13, .long y13), (15, .int x15)] → K145 S x1 x2 x3 x4 x5 x6 y8 y10 x12 y13 x15 → W p l e rmX7_wet s m args below meth c H locs 0 0 (MQ below (va_Ql (fun (r : Int64) (u : RT) => Q r u) (fun u t => cAt z A ((fun u : RT => (sW z qS u)) u) t) A) args s 0 0 A) (F0 m 145 ls [])) : ∀ (S : RT) (x1 : Int32) (x2 : Int32) (x3 : Int32) (x4 : Int32) (x5 : Int32) (x6 : Int32) (y8 : Int64) (y10 : Int64) (x12 : Int32) (x15 : Int32) (u0 : Int64) (u1 : Int64) (H : Heap) (locs : List Loc) (ls : Array Slot), Hw s z A (sW z qS S) H locs → lv_has ls 16 [(0, .ref (qS 0)), (1, .int x1), (2, .int x2), (3, .int x3), (4, .int x4), (5, .int x5), (6, .int x6), (8, .long y8), (10, .long y10), (12, .int x12), (15, .int x15)] → bX7_wet_172 K127 K145 Q S x1 x2 x3 x4 x5 x6 y8 y10 x12 x15 u0 u1 → W p l e rmX7_wet s m args below meth c H locs 0 0 (MQ below (va_Ql (fun (r : Int64) (u : RT) => Q r u) (fun u t => cAt z A ((fun u : RT => (sW z qS u)) u) t) A) args s 0 0 A) (F0 m 172 ls [.long u1, .long u0]) := by
  obtain ⟨hx, hb, -, -, hown, hts, -, -, -, hN, hsr, -⟩ := id M
  intro S x1 x2 x3 x4 x5 x6 y8 y10 x12 x15 u0 u1 H locs ls hw hl h
  unfold bX7_wet_172 at h
  refine lv_lmul hx hb dX7_wet_172 ?_
  refine lv_topl (fun y13_1 ey13_1 => ?_)
  replace h := h y13_1 ey13_1
  refine lv_lstore (lv' := [(13, .long y13_1), (0, .ref (qS 0)), (1, .int x1), (2, .int x2), (3, .int x3), (4, .int x4), (5, .int x5), (6, .int x6), (8, .long y8), (10, .long y10), (12, .int x12), (15, .int x15)]) hx hb dX7_wet_173 hl (by decide) rfl (fun ls hl => ?_)
  refine lv_aload_n hx hb dX7_wet_175 rfl (lv_at hl 1 rfl) ?_
  refine lv_iload hx hb dX7_wet_176 (lv_at hl 10 rfl) ?_
  refine lv_iload hx hb dX7_wet_178 (lv_at hl 11 rfl) ?_
  refine fr_Si (wN := fun _ : Unit => (sW z qS S)) M (m_X7_has l z x12 x15 _ h) (va_cwS 2 hts (gdS cd_X7_has ml_X7_243 st_X7_has in_X7) rfl rfl rfl hdS_X7_has ⟨(Nat.le_of_ble_eq_true rfl), (Nat.le_of_ble_eq_true rfl)⟩) (Cut.none _) (Prm.none _) hw rfl hl.1 rfl (Nat.le_of_ble_eq_true rfl) dX7_wet_180 (fun r_2 u_ H locs h hw => ?_)
  have hw : Hw s z A (sW z qS S) H locs := hw
  try dsimp only at h
  refine lv_if_eq (tgt := 190) hx hb dX7_wet_183 (by decide) (fun c_3 => ?_) (fun c_3 => ?_)
  · replace h := iT c_3 h
    refine lv_bipush (v := -9) hx hb dX7_wet_190 (by decide) ?_
    exact kX7_wet_192 M hK127 hK145 S x1 x2 x3 x4 x5 x6 y8 y10 x12 y13_1 x15 (-9 : Int32) H locs ls hw (lv_sub hl [1, 2, 3, 4, 5, 6, 7, 8, 9, 10, 0, 11] rfl) h
  · replace h := iF c_3 h
    refine lv_iload_n hx hb dX7_wet_186 rfl (lv_at hl 2 rfl) ?_
    refine lv_goto (tgt := 192) hx hb dX7_wet_187 (by decide) ?_
    exact kX7_wet_192 M hK127 hK145 S x1 x2 x3 x4 x5 x6 y8 y10 x12 y13_1 x15 x1 H locs ls hw (lv_sub hl [1, 2, 3, 4, 5, 6, 7, 8, 9, 10, 0, 11] rfl) h
set_option maxHeartbeats 4000000 in
set_option maxRecDepth 100000 in
theorem kX7_wet_230 {p : Program} {l : Launch} {e : Env} {s : State} {m : MethodId} {args : Array Value} {below : List Frame} {meth : Method} {c : Code} {z : KT} {A : Nat → Prop} {qS : Nat → Nat} {K127 : RT → Int32 → Int32 → Int32 → Int32 → Int32 → Int32 → Int64 → Int64 → Int32 → Prop} {Q : Int64 → RT → Prop} (M : Mc p s m args meth c cX7_wet 16 (some .long) RX7 z A) (hK127 : ∀ (S : RT) (x1 : Int32) (x2 : Int32) (x3 : Int32) (x4 : Int32) (x5 : Int32) (x6 : Int32) (y8 : Int64) (y10 : Int64) (x12 : Int32) (H : Heap) (locs : List Loc) (ls : Array Slot), Hw s z A (sW z qS S) H locs → lv_has ls 16 [(0, .ref (qS 0)), (1, .int x1), (2, .int x2), (3, .int x3), (4, .int x4), (5, .int x5), (6, .int x6), (8, .long y8), (10, .long y10), (12, .int x12)] → K127 S x1 x2 x3 x4 x5 x6 y8 y10 x12 → W p l e rmX7_wet s m args below meth c H locs 0 0 (MQ below (va_Ql (fun (r : Int64) (u : RT) => Q r u) (fun u t => cAt z A ((fun u : RT => (sW z qS u)) u) t) A) args s 0 0 A) (F0 m 127 ls [])) : ∀ (S : RT) (x1 : Int32) (x2 : Int32) (x3 : Int32) (x4 : Int32) (x5 : Int32) (x6 : Int32) (y10 : Int64) (x12 : Int32) (u0 : Int64) (u1 : Int64) (H : Heap) (locs : List Loc) (ls : Array Slot), Hw s z A (sW z qS S) H locs → lv_has ls 16 [(0, .ref (qS 0)), (1, .int x1), (2, .int x2), (3, .int x3), (4, .int x4), (5, .int x5), (6, .int x6), (10, .long y10), (12, .int x12)] → bX7_wet_230 K127 Q S x1 x2 x3 x4 x5 x6 y10 x12 u0 u1 → W p l e rmX7_wet s m args below meth c H locs 0 0 (MQ below (va_Ql (fun (r : Int64) (u : RT) => Q r u) (fun u t => cAt z A ((fun u : RT => (sW z qS u)) u) t) A) args s 0 0 A) (F0 m 230 ls [.long u1, .long u0]) := by
  obtain ⟨hx, hb, -, -, hown, hts, -, -, -, hN, hsr, -⟩ := id M
  intro S x1 x2 x3 x4 x5 x6 y10 x12 u0 u1 H locs ls hw hl h
  unfold bX7_wet_230 at h
  refine lv_ladd hx hb dX7_wet_230 ?_
  refine lv_topl (fun y8_1 ey8_1 => ?_)
  replace h := h y8_1 ey8_1
  refine lv_lstore (lv' := [(8, .long y8_1), (0, .ref (qS 0)), (1, .int x1), (2, .int x2), (3, .int x3), (4, .int x4), (5, .int x5), (6, .int x6), (10, .long y10), (12, .int x12)]) hx hb dX7_wet_231 hl (by decide) rfl (fun ls hl => ?_)
  refine lv_aload_n hx hb dX7_wet_233 rfl (lv_at hl 1 rfl) ?_
  refine fr_Vv (wN := fun u : RT => (sW z qS u)) M (m_X7_forgets l z qS S _ h) (cwV 0 hts (gdV cd_X7_forgets ml_X7_204 im_X7_forgets se_X7_forgets in_X7) rfl rfl rfl hdV_X7_forgets ⟨(Nat.le_of_ble_eq_true rfl), (Nat.le_of_ble_eq_true rfl)⟩) (Cut.self _) (Prm.self _ 17 (fun _ => rfl)) 0 rfl rfl rfl hw rfl hl.1 rfl (Nat.le_of_ble_eq_true rfl) dX7_wet_234 (fun u_ H locs h hw => ?_)
  obtain ⟨S_2, rfl⟩ : ∃ z9 : RT, z9 = u_ := ⟨_, rfl⟩
  have hw : Hw s z A (sW z qS S_2) H locs := hw
  try dsimp only at h
  obtain ⟨x12_3, ex12_3⟩ : ∃ y : Int32, y = (x12 + (1 : Int32)) := ⟨_, rfl⟩
  replace h := h x12_3 ex12_3
  refine lv_iinc (v := x12_3) (lv' := [(12, .int x12_3), (8, .long y8_1), (0, .ref (qS 0)), (1, .int x1), (2, .int x2), (3, .int x3), (4, .int x4), (5, .int x5), (6, .int x6), (10, .long y10)]) hx hb dX7_wet_237 hl (k := 9) rfl (by rw [ex12_3]; rfl) (by decide) rfl (fun ls hl => ?_)
  refine lv_goto (tgt := 127) hx hb dX7_wet_240 (by decide) ?_
  exact hK127 S_2 x1 x2 x3 x4 x5 x6 y8_1 y10 x12_3 H locs ls hw (lv_sub hl [2, 3, 4, 5, 6, 7, 8, 1, 9, 0] rfl) h
set_option maxHeartbeats 4000000 in
set_option maxRecDepth 100000 in
theorem kX7_wet_145 {p : Program} {l : Launch} {e : Env} {s : State} {m : MethodId} {args : Array Value} {below : List Frame} {meth : Method} {c : Code} {z : KT} {A : Nat → Prop} {qS : Nat → Nat} {K127 : RT → Int32 → Int32 → Int32 → Int32 → Int32 → Int32 → Int64 → Int64 → Int32 → Prop} {Q : Int64 → RT → Prop} (M : Mc p s m args meth c cX7_wet 16 (some .long) RX7 z A) (hK127 : ∀ (S : RT) (x1 : Int32) (x2 : Int32) (x3 : Int32) (x4 : Int32) (x5 : Int32) (x6 : Int32) (y8 : Int64) (y10 : Int64) (x12 : Int32) (H : Heap) (locs : List Loc) (ls : Array Slot), Hw s z A (sW z qS S) H locs → lv_has ls 16 [(0, .ref (qS 0)), (1, .int x1), (2, .int x2), (3, .int x3), (4, .int x4), (5, .int x5), (6, .int x6), (8, .long y8), (10, .long y10), (12, .int x12)] → K127 S x1 x2 x3 x4 x5 x6 y8 y10 x12 → W p l e rmX7_wet s m args below meth c H locs 0 0 (MQ below (va_Ql (fun (r : Int64) (u : RT) => Q r u) (fun u t => cAt z A ((fun u : RT => (sW z qS u)) u) t) A) args s 0 0 A) (F0 m 127 ls [])) : ∀ (n : Nat) (S : RT) (x1 : Int32) (x2 : Int32) (x3 : Int32) (x4 : Int32) (x5 : Int32) (x6 : Int32) (y8 : Int64) (y10 : Int64) (x12 : Int32) (y13 : Int64) (x15 : Int32) (H : Heap) (locs : List Loc) (ls : Array Slot), Hw s z A (sW z qS S) H locs → lv_has ls 16 [(0, .ref (qS 0)), (1, .int x1), (2, .int x2), (3, .int x3), (4, .int x4), (5, .int x5), (6, .int x6), (8, .long y8), (10, .long y10), (12, .int x12), (13, .long y13), (15, .int x15)] → bX7_wet_145 K127 Q n S x1 x2 x3 x4 x5 x6 y8 y10 x12 y13 x15 → W p l e rmX7_wet s m args below meth c H locs 0 0 (MQ below (va_Ql (fun (r : Int64) (u : RT) => Q r u) (fun u t => cAt z A ((fun u : RT => (sW z qS u)) u) t) A) args s 0 0 A) (F0 m 145 ls []) := by
  obtain ⟨hx, hb, -, -, hown, hts, -, -, -, hN, hsr, -⟩ := id M
  intro n
  induction n with
  | zero => intro S x1 x2 x3 x4 x5 x6 y8 y10 x12 y13 x15 H locs ls hw hl h; exact False.elim h
  | succ n ih =>
    intro S x1 x2 x3 x4 x5 x6 y8 y10 x12 y13 x15 H locs ls hw hl h
    rw [bX7_wet_145] at h
    refine lv_iload hx hb dX7_wet_145 (lv_at hl 11 rfl) ?_
    refine lv_iload_n hx hb dX7_wet_147 rfl (lv_at hl 3 rfl) ?_
    refine lv_icmp_ge (tgt := 205) hx hb dX7_wet_148 (by decide) (fun c_1 => ?_) (fun c_1 => ?_)
    · replace h := iT c_1 h
      refine lv_aload_n hx hb dX7_wet_205 rfl (lv_at hl 0 rfl) ?_
      refine lv_bipush (v := -9) hx hb dX7_wet_206 (by decide) ?_
      refine st_f (P := S) (r := 30) (j := 11) (wN := fun S_2 => (sW z qS S_2)) M inlX7 tyX7_ok nmX7 hw 0 rfl rfl 11 (by decide) fl_X7_34 rfl rfl rfl rfl rfl (Nat.le_of_ble_eq_true rfl) rfl dX7_wet_208 (fun S_2 H locs eS_2 hw => ?_)
      replace h := h S_2 eS_2
      refine lv_lload hx hb dX7_wet_211 (lv_at hl 7 rfl) ?_
      refine lv_aload_n hx hb dX7_wet_213 rfl (lv_at hl 0 rfl) ?_
      refine gt_f (v := .ref (qS 6)) M inlX7 hw 0 rfl rfl 5 (by decide) fl_X7_25 rfl rfl dX7_wet_214 ?_
      refine lv_iload_n hx hb dX7_wet_217 rfl (lv_at hl 2 rfl) ?_
      obtain ⟨a_3, h⟩ := h
      refine ld_i M hw 6 rfl a_3 dX7_wet_218 ?_
      refine lv_iload hx hb dX7_wet_219 (lv_at hl 5 rfl) ?_
      refine lv_icmp_lt (tgt := 229) hx hb dX7_wet_221 (by decide) (fun c_4 => ?_) (fun c_4 => ?_)
      · replace h := iT c_4 h
        refine lv_lconst (v := 0) hx hb dX7_wet_229 rfl ?_
        exact kX7_wet_230 M hK127 S_2 x1 x2 x3 x4 x5 x6 y10 x12 y8 (0 : Int64) H locs ls hw (lv_sub hl [0, 1, 2, 3, 4, 5, 6, 8, 9] rfl) h
      · replace h := iF c_4 h
        refine lv_lload hx hb dX7_wet_224 (lv_at hl 10 rfl) ?_
        refine lv_goto (tgt := 230) hx hb dX7_wet_226 (by decide) ?_
        exact kX7_wet_230 M hK127 S_2 x1 x2 x3 x4 x5 x6 y10 x12 y8 y13 H locs ls hw (lv_sub hl [0, 1, 2, 3, 4, 5, 6, 8, 9] rfl) h
    · replace h := iF c_1 h
      refine lv_lload hx hb dX7_wet_151 (lv_at hl 10 rfl) ?_
      refine lv_iload hx hb dX7_wet_153 (lv_at hl 9 rfl) ?_
      refine lv_iload hx hb dX7_wet_155 (lv_at hl 11 rfl) ?_
      refine fr_Si (wN := fun _ : Unit => (sW z qS S)) M (m_X7_has l z x12 x15 _ h) (va_cwS 2 hts (gdS cd_X7_has ml_X7_243 st_X7_has in_X7) rfl rfl rfl hdS_X7_has ⟨(Nat.le_of_ble_eq_true rfl), (Nat.le_of_ble_eq_true rfl)⟩) (Cut.none _) (Prm.none _) hw rfl hl.1 rfl (Nat.le_of_ble_eq_true rfl) dX7_wet_157 (fun r_5 u_ H locs h hw => ?_)
      have hw : Hw s z A (sW z qS S) H locs := hw
      try dsimp only at h
      refine lv_if_eq (tgt := 167) hx hb dX7_wet_160 (by decide) (fun c_6 => ?_) (fun c_6 => ?_)
      · replace h := iT c_6 h
        refine lv_iload hx hb dX7_wet_167 (lv_at hl 4 rfl) ?_
        refine lv_iconst (v := 1) hx hb dX7_wet_169 (by decide) ?_
        refine lv_isub hx hb dX7_wet_170 ?_
        refine lv_i2l hx hb dX7_wet_171 rfl ?_
        exact kX7_wet_172 M hK127 ih S x1 x2 x3 x4 x5 x6 y8 y10 x12 x15 y13 (((x4 - (1 : Int32))).toInt64) H locs ls hw (lv_sub hl [0, 1, 2, 3, 4, 5, 6, 7, 8, 9, 11] rfl) h
      · replace h := iF c_6 h
        refine lv_lconst (v := 1) hx hb dX7_wet_163 rfl ?_
        refine lv_goto (tgt := 172) hx hb dX7_wet_164 (by decide) ?_
        exact kX7_wet_172 M hK127 ih S x1 x2 x3 x4 x5 x6 y8 y10 x12 x15 y13 (1 : Int64) H locs ls hw (lv_sub hl [0, 1, 2, 3, 4, 5, 6, 7, 8, 9, 11] rfl) h
set_option maxHeartbeats 4000000 in
set_option maxRecDepth 100000 in
theorem kX7_wet_127 {p : Program} {l : Launch} {e : Env} {s : State} {m : MethodId} {args : Array Value} {below : List Frame} {meth : Method} {c : Code} {z : KT} {A : Nat → Prop} {qS : Nat → Nat} {Q : Int64 → RT → Prop} (M : Mc p s m args meth c cX7_wet 16 (some .long) RX7 z A) : ∀ (n : Nat) (S : RT) (x1 : Int32) (x2 : Int32) (x3 : Int32) (x4 : Int32) (x5 : Int32) (x6 : Int32) (y8 : Int64) (y10 : Int64) (x12 : Int32) (H : Heap) (locs : List Loc) (ls : Array Slot), Hw s z A (sW z qS S) H locs → lv_has ls 16 [(0, .ref (qS 0)), (1, .int x1), (2, .int x2), (3, .int x3), (4, .int x4), (5, .int x5), (6, .int x6), (8, .long y8), (10, .long y10), (12, .int x12)] → bX7_wet_127 Q n S x1 x2 x3 x4 x5 x6 y8 y10 x12 → W p l e rmX7_wet s m args below meth c H locs 0 0 (MQ below (va_Ql (fun (r : Int64) (u : RT) => Q r u) (fun u t => cAt z A ((fun u : RT => (sW z qS u)) u) t) A) args s 0 0 A) (F0 m 127 ls []) := by
  obtain ⟨hx, hb, -, -, hown, hts, -, -, -, hN, hsr, -⟩ := id M
  intro n
  induction n with
  | zero => intro S x1 x2 x3 x4 x5 x6 y8 y10 x12 H locs ls hw hl h; exact False.elim h
  | succ n ih =>
    intro S x1 x2 x3 x4 x5 x6 y8 y10 x12 H locs ls hw hl h
    rw [bX7_wet_127] at h
    refine lv_iload hx hb dX7_wet_127 (lv_at hl 9 rfl) ?_
    refine lv_iconst (v := 1) hx hb dX7_wet_129 (by decide) ?_
    refine lv_iload_n hx hb dX7_wet_130 rfl (lv_at hl 3 rfl) ?_
    refine lv_ishl hx hb dX7_wet_131 ?_
    refine lv_icmp_ge (tgt := 243) hx hb dX7_wet_132 (by decide) (fun c_1 => ?_) (fun c_1 => ?_)
    · replace h := iT c_1 h
      refine lv_lload hx hb dX7_wet_243 (lv_at hl 7 rfl) ?_
      refine lv_lload hx hb dX7_wet_245 (lv_at hl 8 rfl) ?_
      refine lv_iload hx hb dX7_wet_247 (lv_at hl 6 rfl) ?_
      refine fr_Sl (wN := fun _ : Unit => (sW z qS S)) M (m_X7_partOf l z y8 y10 x6 _ h) (va_cwS 3 hts (gdS cd_X7_partOf ml_X7_273 st_X7_partOf in_X7) rfl rfl rfl hdS_X7_partOf ⟨(Nat.le_of_ble_eq_true rfl), (Nat.le_of_ble_eq_true rfl)⟩) (Cut.none _) (Prm.none _) hw rfl hl.1 rfl (Nat.le_of_ble_eq_true rfl) dX7_wet_249 (fun r_2 u_ H locs h hw => ?_)
      have hw : Hw s z A (sW z qS S) H locs := hw
      try dsimp only at h
      exact rt_l M S hw h dX7_wet_252
    · replace h := iF c_1 h
      refine lv_aload_n hx hb dX7_wet_135 rfl (lv_at hl 0 rfl) ?_
      refine fr_Vv (wN := fun u : RT => (sW z qS u)) M (m_X7_thinks l z qS S _ h) (cwV 0 hts (gdV cd_X7_thinks ml_X7_201 im_X7_thinks se_X7_thinks in_X7) rfl rfl rfl hdV_X7_thinks ⟨(Nat.le_of_ble_eq_true rfl), (Nat.le_of_ble_eq_true rfl)⟩) (Cut.self _) (Prm.self _ 17 (fun _ => rfl)) 0 rfl rfl rfl hw rfl hl.1 rfl (Nat.le_of_ble_eq_true rfl) dX7_wet_136 (fun u_ H locs h hw => ?_)
      obtain ⟨S_3, rfl⟩ : ∃ z9 : RT, z9 = u_ := ⟨_, rfl⟩
      have hw : Hw s z A (sW z qS S_3) H locs := hw
      try dsimp only at h
      refine lv_lconst (v := 1) hx hb dX7_wet_139 rfl ?_
      refine lv_lstore (lv' := [(13, .long (1 : Int64)), (0, .ref (qS 0)), (1, .int x1), (2, .int x2), (3, .int x3), (4, .int x4), (5, .int x5), (6, .int x6), (8, .long y8), (10, .long y10), (12, .int x12)]) hx hb dX7_wet_140 hl (by decide) rfl (fun ls hl => ?_)
      refine lv_iconst (v := 0) hx hb dX7_wet_142 (by decide) ?_
      refine lv_istore (lv' := [(15, .int (0 : Int32)), (13, .long (1 : Int64)), (0, .ref (qS 0)), (1, .int x1), (2, .int x2), (3, .int x3), (4, .int x4), (5, .int x5), (6, .int x6), (8, .long y8), (10, .long y10), (12, .int x12)]) hx hb dX7_wet_143 hl (by decide) rfl (fun ls hl => ?_)
      obtain ⟨n0, h⟩ := h; exact kX7_wet_145 M ih n0 S_3 x1 x2 x3 x4 x5 x6 y8 y10 x12 (1 : Int64) (0 : Int32) H locs ls hw (lv_sub hl [2, 3, 4, 5, 6, 7, 8, 9, 10, 11, 1, 0] rfl) h
set_option maxHeartbeats 4000000 in
set_option maxRecDepth 100000 in
theorem kX7_wet_104 {p : Program} {l : Launch} {e : Env} {s : State} {m : MethodId} {args : Array Value} {below : List Frame} {meth : Method} {c : Code} {z : KT} {A : Nat → Prop} {qS : Nat → Nat} {Q : Int64 → RT → Prop} (M : Mc p s m args meth c cX7_wet 16 (some .long) RX7 z A) : ∀ (n : Nat) (S : RT) (x1 : Int32) (x2 : Int32) (x3 : Int32) (x4 : Int32) (x5 : Int32) (x6 : Int32) (y8 : Int64) (y10 : Int64) (x12 : Int32) (H : Heap) (locs : List Loc) (ls : Array Slot), Hw s z A (sW z qS S) H locs → lv_has ls 16 [(0, .ref (qS 0)), (1, .int x1), (2, .int x2), (3, .int x3), (4, .int x4), (5, .int x5), (6, .int x6), (8, .long y8), (10, .long y10), (12, .int x12)] → bX7_wet_104 Q n S x1 x2 x3 x4 x5 x6 y8 y10 x12 → W p l e rmX7_wet s m args below meth c H locs 0 0 (MQ below (va_Ql (fun (r : Int64) (u : RT) => Q r u) (fun u t => cAt z A ((fun u : RT => (sW z qS u)) u) t) A) args s 0 0 A) (F0 m 104 ls []) := by
  obtain ⟨hx, hb, -, -, hown, hts, -, -, -, hN, hsr, -⟩ := id M
  intro n
  induction n with
  | zero => intro S x1 x2 x3 x4 x5 x6 y8 y10 x12 H locs ls hw hl h; exact False.elim h
  | succ n ih =>
    intro S x1 x2 x3 x4 x5 x6 y8 y10 x12 H locs ls hw hl h
    rw [bX7_wet_104] at h
    refine lv_iload hx hb dX7_wet_104 (lv_at hl 9 rfl) ?_
    refine lv_iload_n hx hb dX7_wet_106 rfl (lv_at hl 3 rfl) ?_
    refine lv_icmp_ge (tgt := 124) hx hb dX7_wet_107 (by decide) (fun c_1 => ?_) (fun c_1 => ?_)
    · replace h := iT c_1 h
      refine lv_iconst (v := 0) hx hb dX7_wet_124 (by decide) ?_
      refine lv_istore (lv' := [(12, .int (0 : Int32)), (0, .ref (qS 0)), (1, .int x1), (2, .int x2), (3, .int x3), (4, .int x4), (5, .int x5), (6, .int x6), (8, .long y8), (10, .long y10)]) hx hb dX7_wet_125 hl (by decide) rfl (fun ls hl => ?_)
      obtain ⟨n0, h⟩ := h; exact kX7_wet_127 M n0 S x1 x2 x3 x4 x5 x6 y8 y10 (0 : Int32) H locs ls hw (lv_sub hl [1, 2, 3, 4, 5, 6, 7, 8, 9, 0] rfl) h
    · replace h := iF c_1 h
      refine lv_lload hx hb dX7_wet_110 (lv_at hl 8 rfl) ?_
      refine lv_iload hx hb dX7_wet_112 (lv_at hl 4 rfl) ?_
      refine lv_i2l hx hb dX7_wet_114 rfl ?_
      refine lv_lmul hx hb dX7_wet_115 ?_
      refine lv_topl (fun y10_2 ey10_2 => ?_)
      replace h := h y10_2 ey10_2
      refine lv_lstore (lv' := [(10, .long y10_2), (0, .ref (qS 0)), (1, .int x1), (2, .int x2), (3, .int x3), (4, .int x4), (5, .int x5), (6, .int x6), (8, .long y8), (12, .int x12)]) hx hb dX7_wet_116 hl (by decide) rfl (fun ls hl => ?_)
      obtain ⟨x12_3, ex12_3⟩ : ∃ y : Int32, y = (x12 + (1 : Int32)) := ⟨_, rfl⟩
      replace h := h x12_3 ex12_3
      refine lv_iinc (v := x12_3) (lv' := [(12, .int x12_3), (10, .long y10_2), (0, .ref (qS 0)), (1, .int x1), (2, .int x2), (3, .int x3), (4, .int x4), (5, .int x5), (6, .int x6), (8, .long y8)]) hx hb dX7_wet_118 hl (k := 9) rfl (by rw [ex12_3]; rfl) (by decide) rfl (fun ls hl => ?_)
      refine lv_goto (tgt := 104) hx hb dX7_wet_121 (by decide) ?_
      exact ih S x1 x2 x3 x4 x5 x6 y8 y10_2 x12_3 H locs ls hw (lv_sub hl [2, 3, 4, 5, 6, 7, 8, 9, 1, 0] rfl) h
set_option maxHeartbeats 4000000 in
set_option maxRecDepth 100000 in
theorem kX7_wet_81 {p : Program} {l : Launch} {e : Env} {s : State} {m : MethodId} {args : Array Value} {below : List Frame} {meth : Method} {c : Code} {z : KT} {A : Nat → Prop} {qS : Nat → Nat} {Q : Int64 → RT → Prop} (M : Mc p s m args meth c cX7_wet 16 (some .long) RX7 z A) : ∀ (S : RT) (x1 : Int32) (x2 : Int32) (x3 : Int32) (x4 : Int32) (x5 : Int32) (x6 : Int32) (t0 : Int32) (H : Heap) (locs : List Loc) (ls : Array Slot), Hw s z A (sW z qS S) H locs → lv_has ls 16 [(0, .ref (qS 0)), (1, .int x1), (2, .int x2), (3, .int x3), (4, .int x4), (5, .int x5), (6, .int x6)] → bX7_wet_81 Q S x1 x2 x3 x4 x5 x6 t0 → W p l e rmX7_wet s m args below meth c H locs 0 0 (MQ below (va_Ql (fun (r : Int64) (u : RT) => Q r u) (fun u t => cAt z A ((fun u : RT => (sW z qS u)) u) t) A) args s 0 0 A) (F0 m 81 ls [.int t0]) := by
  obtain ⟨hx, hb, -, -, hown, hts, -, -, -, hN, hsr, -⟩ := id M
  intro S x1 x2 x3 x4 x5 x6 t0 H locs ls hw hl h
  unfold bX7_wet_81 at h
  refine lv_istore (lv' := [(7, .int t0), (0, .ref (qS 0)), (1, .int x1), (2, .int x2), (3, .int x3), (4, .int x4), (5, .int x5), (6, .int x6)]) hx hb dX7_wet_81 hl (by decide) rfl (fun ls hl => ?_)
  refine lv_iload hx hb dX7_wet_83 (lv_at hl 0 rfl) ?_
  refine lv_if_eq (tgt := 95) hx hb dX7_wet_85 (by decide) (fun c_1 => ?_) (fun c_1 => ?_)
  · replace h := iT c_1 h
    refine lv_lconst (v := 0) hx hb dX7_wet_95 rfl ?_
    refine lv_lstore (lv' := [(8, .long (0 : Int64)), (7, .int t0), (0, .ref (qS 0)), (1, .int x1), (2, .int x2), (3, .int x3), (4, .int x4), (5, .int x5), (6, .int x6)]) hx hb dX7_wet_96 hl (by decide) rfl (fun ls hl => ?_)
    refine lv_lconst (v := 1) hx hb dX7_wet_98 rfl ?_
    refine lv_lstore (lv' := [(10, .long (1 : Int64)), (8, .long (0 : Int64)), (7, .int t0), (0, .ref (qS 0)), (1, .int x1), (2, .int x2), (3, .int x3), (4, .int x4), (5, .int x5), (6, .int x6)]) hx hb dX7_wet_99 hl (by decide) rfl (fun ls hl => ?_)
    refine lv_iconst (v := 0) hx hb dX7_wet_101 (by decide) ?_
    refine lv_istore (lv' := [(12, .int (0 : Int32)), (10, .long (1 : Int64)), (8, .long (0 : Int64)), (7, .int t0), (0, .ref (qS 0)), (1, .int x1), (2, .int x2), (3, .int x3), (4, .int x4), (5, .int x5), (6, .int x6)]) hx hb dX7_wet_102 hl (by decide) rfl (fun ls hl => ?_)
    obtain ⟨n0, h⟩ := h; exact kX7_wet_104 M n0 S x1 x2 x3 x4 x5 x6 (0 : Int64) (1 : Int64) (0 : Int32) H locs ls hw (lv_sub hl [4, 5, 6, 7, 8, 9, 10, 2, 1, 0] rfl) h
  · replace h := iF c_1 h
    refine lv_aload_n hx hb dX7_wet_88 rfl (lv_at hl 1 rfl) ?_
    refine lv_iload hx hb dX7_wet_89 (lv_at hl 0 rfl) ?_
    refine fr_Vl (wN := fun u : RT => (sW z qS u)) M (m_X7_lowest l z qS S t0 _ h) (cwV 1 hts (gdV cd_X7_lowest ml_X7_269 im_X7_lowest se_X7_lowest in_X7) rfl rfl rfl hdV_X7_lowest ⟨(Nat.le_of_ble_eq_true rfl), (Nat.le_of_ble_eq_true rfl)⟩) (Cut.self _) (Prm.self _ 17 (fun _ => rfl)) 0 rfl rfl rfl hw rfl hl.1 rfl (Nat.le_of_ble_eq_true rfl) dX7_wet_91 (fun r_3 u_ H locs h hw => ?_)
    obtain ⟨S_2, rfl⟩ : ∃ z9 : RT, z9 = u_ := ⟨_, rfl⟩
    have hw : Hw s z A (sW z qS S_2) H locs := hw
    try dsimp only at h
    exact rt_l M S_2 hw h dX7_wet_94
set_option maxHeartbeats 4000000 in
set_option maxRecDepth 100000 in
theorem kX7_wet_16 {p : Program} {l : Launch} {e : Env} {s : State} {m : MethodId} {args : Array Value} {below : List Frame} {meth : Method} {c : Code} {z : KT} {A : Nat → Prop} {qS : Nat → Nat} {Q : Int64 → RT → Prop} (M : Mc p s m args meth c cX7_wet 16 (some .long) RX7 z A) : ∀ (S : RT) (x1 : Int32) (x2 : Int32) (x3 : Int32) (x4 : Int32) (x5 : Int32) (x6 : Int32) (H : Heap) (locs : List Loc) (ls : Array Slot), Hw s z A (sW z qS S) H locs → lv_has ls 16 [(0, .ref (qS 0)), (1, .int x1), (2, .int x2), (3, .int x3), (4, .int x4), (5, .int x5), (6, .int x6)] → bX7_wet_16 Q S x1 x2 x3 x4 x5 x6 → W p l e rmX7_wet s m args below meth c H locs 0 0 (MQ below (va_Ql (fun (r : Int64) (u : RT) => Q r u) (fun u t => cAt z A ((fun u : RT => (sW z qS u)) u) t) A) args s 0 0 A) (F0 m 16 ls []) := by
  obtain ⟨hx, hb, -, -, hown, hts, -, -, -, hN, hsr, -⟩ := id M
  intro S x1 x2 x3 x4 x5 x6 H locs ls hw hl h
  unfold bX7_wet_16 at h
  refine lv_iconst (v := -1) hx hb dX7_wet_16 (by decide) ?_
  refine lv_goto (tgt := 81) hx hb dX7_wet_17 (by decide) ?_
  exact kX7_wet_81 M S x1 x2 x3 x4 x5 x6 (-1 : Int32) H locs ls hw (lv_sub hl [0, 1, 2, 3, 4, 5, 6] rfl) h
set_option maxHeartbeats 4000000 in
set_option maxRecDepth 100000 in
theorem kX7_wet_35 {p : Program} {l : Launch} {e : Env} {s : State} {m : MethodId} {args : Array Value} {below : List Frame} {meth : Method} {c : Code} {z : KT} {A : Nat → Prop} {qS : Nat → Nat} {Q : Int64 → RT → Prop} (M : Mc p s m args meth c cX7_wet 16 (some .long) RX7 z A) : ∀ (S : RT) (x1 : Int32) (x2 : Int32) (x3 : Int32) (x4 : Int32) (x5 : Int32) (x6 : Int32) (H : Heap) (locs : List Loc) (ls : Array Slot), Hw s z A (sW z qS S) H locs → lv_has ls 16 [(0, .ref (qS 0)), (1, .int x1), (2, .int x2), (3, .int x3), (4, .int x4), (5, .int x5), (6, .int x6)] → bX7_wet_35 Q S x1 x2 x3 x4 x5 x6 → W p l e rmX7_wet s m args below meth c H locs 0 0 (MQ below (va_Ql (fun (r : Int64) (u : RT) => Q r u) (fun u t => cAt z A ((fun u : RT => (sW z qS u)) u) t) A) args s 0 0 A) (F0 m 35 ls []) := by
  obtain ⟨hx, hb, -, -, hown, hts, -, -, -, hN, hsr, -⟩ := id M
  intro S x1 x2 x3 x4 x5 x6 H locs ls hw hl h
  unfold bX7_wet_35 at h
  refine lv_bipush (v := -4) hx hb dX7_wet_35 (by decide) ?_
  refine lv_goto (tgt := 81) hx hb dX7_wet_37 (by decide) ?_
  exact kX7_wet_81 M S x1 x2 x3 x4 x5 x6 (-4 : Int32) H locs ls hw (lv_sub hl [0, 1, 2, 3, 4, 5, 6] rfl) h
set_option maxHeartbeats 4000000 in
set_option maxRecDepth 100000 in
theorem kX7_wet_60 {p : Program} {l : Launch} {e : Env} {s : State} {m : MethodId} {args : Array Value} {below : List Frame} {meth : Method} {c : Code} {z : KT} {A : Nat → Prop} {qS : Nat → Nat} {Q : Int64 → RT → Prop} (M : Mc p s m args meth c cX7_wet 16 (some .long) RX7 z A) : ∀ (S : RT) (x1 : Int32) (x2 : Int32) (x3 : Int32) (x4 : Int32) (x5 : Int32) (x6 : Int32) (H : Heap) (locs : List Loc) (ls : Array Slot), Hw s z A (sW z qS S) H locs → lv_has ls 16 [(0, .ref (qS 0)), (1, .int x1), (2, .int x2), (3, .int x3), (4, .int x4), (5, .int x5), (6, .int x6)] → bX7_wet_60 Q S x1 x2 x3 x4 x5 x6 → W p l e rmX7_wet s m args below meth c H locs 0 0 (MQ below (va_Ql (fun (r : Int64) (u : RT) => Q r u) (fun u t => cAt z A ((fun u : RT => (sW z qS u)) u) t) A) args s 0 0 A) (F0 m 60 ls []) := by
  obtain ⟨hx, hb, -, -, hown, hts, -, -, -, hN, hsr, -⟩ := id M
  intro S x1 x2 x3 x4 x5 x6 H locs ls hw hl h
  unfold bX7_wet_60 at h
  refine lv_bipush (v := -6) hx hb dX7_wet_60 (by decide) ?_
  refine lv_goto (tgt := 81) hx hb dX7_wet_62 (by decide) ?_
  exact kX7_wet_81 M S x1 x2 x3 x4 x5 x6 (-6 : Int32) H locs ls hw (lv_sub hl [0, 1, 2, 3, 4, 5, 6] rfl) h
set_option maxHeartbeats 4000000 in
set_option maxRecDepth 100000 in
theorem m_X7_wet (l : Launch) (z : KT) (qS : Nat → Nat) (S : RT) (x1 : Int32) (x2 : Int32) (x3 : Int32) (x4 : Int32) (x5 : Int32) (x6 : Int32) (Q : Int64 → RT → Prop) (h : wX7_wet S x1 x2 x3 x4 x5 x6 Q) : CL l yX7_wet cX7_wet 16 .long rmX7_wet z [.ref (qS 0), .int x1, .int x2, .int x3, .int x4, .int x5, .int x6] (sW z qS S) (fun u : RT => (sW z qS u)) (fun (r : Int64) (u : RT) => Q r u) := by
  refine CL.of rfl (Nat.le_of_ble_eq_true rfl) ?_
  intro p e s m below meth c A ls M hw hl
  have M : Mc p s m _ meth c cX7_wet 16 (some .long) RX7 z A := M
  obtain ⟨hx, hb, -, -, hown, hts, -, -, -, hN, hsr, -⟩ := id M
  have hl : lv_has ls 16 [(0, .ref (qS 0)), (1, .int x1), (2, .int x2), (3, .int x3), (4, .int x4), (5, .int x5), (6, .int x6)] := hl
  unfold wX7_wet at h
  generalize s.heap = H at hw ⊢
  generalize ([] : List Loc) = locs at hw ⊢
  refine lv_aload_n hx hb dX7_wet_0 rfl (lv_at hl 0 rfl) ?_
  refine lv_iload_n hx hb dX7_wet_1 rfl (lv_at hl 1 rfl) ?_
  refine fr_Vi (wN := fun _ : Unit => (sW z qS S)) M (m_X7_isRope l z qS S x1 _ h) (cwV 1 hts (gdV cd_X7_isRope ml_X7_132 im_X7_isRope se_X7_isRope in_X7) rfl rfl rfl hdV_X7_isRope ⟨(Nat.le_of_ble_eq_true rfl), (Nat.le_of_ble_eq_true rfl)⟩) (Cut.self _) (Prm.self _ 17 (fun _ => rfl)) 0 rfl rfl rfl hw rfl hl.1 rfl (Nat.le_of_ble_eq_true rfl) dX7_wet_2 (fun r_1 u_ H locs h hw => ?_)
  have hw : Hw s z A (sW z qS S) H locs := hw
  try dsimp only at h
  refine lv_if_eq (tgt := 16) hx hb dX7_wet_5 (by decide) (fun c_2 => ?_) (fun c_2 => ?_)
  · replace h := iT c_2 h
    exact kX7_wet_16 M S x1 x2 x3 x4 x5 x6 H locs ls hw (lv_sub hl [0, 1, 2, 3, 4, 5, 6] rfl) h
  · replace h := iF c_2 h
    refine lv_aload_n hx hb dX7_wet_8 rfl (lv_at hl 0 rfl) ?_
    refine lv_iload_n hx hb dX7_wet_9 rfl (lv_at hl 2 rfl) ?_
    refine fr_Vi (wN := fun _ : Unit => (sW z qS S)) M (m_X7_isThing l z qS S x2 _ h) (cwV 1 hts (gdV cd_X7_isThing ml_X7_70 im_X7_isThing se_X7_isThing in_X7) rfl rfl rfl hdV_X7_isThing ⟨(Nat.le_of_ble_eq_true rfl), (Nat.le_of_ble_eq_true rfl)⟩) (Cut.self _) (Prm.self _ 17 (fun _ => rfl)) 0 rfl rfl rfl hw rfl hl.1 rfl (Nat.le_of_ble_eq_true rfl) dX7_wet_10 (fun r_3 u_ H locs h hw => ?_)
    have hw : Hw s z A (sW z qS S) H locs := hw
    try dsimp only at h
    refine lv_if_ne (tgt := 20) hx hb dX7_wet_13 (by decide) (fun c_4 => ?_) (fun c_4 => ?_)
    · replace h := iF c_4 h
      refine lv_iload_n hx hb dX7_wet_20 rfl (lv_at hl 3 rfl) ?_
      refine lv_if_lt (tgt := 35) hx hb dX7_wet_21 (by decide) (fun c_5 => ?_) (fun c_5 => ?_)
      · replace h := iT c_5 h
        exact kX7_wet_35 M S x1 x2 x3 x4 x5 x6 H locs ls hw (lv_sub hl [0, 1, 2, 3, 4, 5, 6] rfl) h
      · replace h := iF c_5 h
        refine lv_iload hx hb dX7_wet_24 (lv_at hl 5 rfl) ?_
        refine lv_if_lt (tgt := 35) hx hb dX7_wet_26 (by decide) (fun c_6 => ?_) (fun c_6 => ?_)
        · replace h := iT c_6 h
          exact kX7_wet_35 M S x1 x2 x3 x4 x5 x6 H locs ls hw (lv_sub hl [0, 1, 2, 3, 4, 5, 6] rfl) h
        · replace h := iF c_6 h
          refine lv_iload hx hb dX7_wet_29 (lv_at hl 4 rfl) ?_
          refine lv_iconst (v := 2) hx hb dX7_wet_31 (by decide) ?_
          refine lv_icmp_ge (tgt := 40) hx hb dX7_wet_32 (by decide) (fun c_7 => ?_) (fun c_7 => ?_)
          · replace h := iT c_7 h
            refine lv_iload_n hx hb dX7_wet_40 rfl (lv_at hl 3 rfl) ?_
            refine lv_bipush (v := 7) hx hb dX7_wet_41 (by decide) ?_
            refine lv_icmp_gt (tgt := 60) hx hb dX7_wet_43 (by decide) (fun c_8 => ?_) (fun c_8 => ?_)
            · replace h := iT c_8 h
              exact kX7_wet_60 M S x1 x2 x3 x4 x5 x6 H locs ls hw (lv_sub hl [0, 1, 2, 3, 4, 5, 6] rfl) h
            · replace h := iF c_8 h
              refine lv_iload hx hb dX7_wet_46 (lv_at hl 4 rfl) ?_
              refine lv_bipush (v := 20) hx hb dX7_wet_48 (by decide) ?_
              refine lv_icmp_gt (tgt := 60) hx hb dX7_wet_50 (by decide) (fun c_9 => ?_) (fun c_9 => ?_)
              · replace h := iT c_9 h
                exact kX7_wet_60 M S x1 x2 x3 x4 x5 x6 H locs ls hw (lv_sub hl [0, 1, 2, 3, 4, 5, 6] rfl) h
              · replace h := iF c_9 h
                refine lv_iload hx hb dX7_wet_53 (lv_at hl 5 rfl) ?_
                refine lv_bipush (v := 20) hx hb dX7_wet_55 (by decide) ?_
                refine lv_icmp_le (tgt := 65) hx hb dX7_wet_57 (by decide) (fun c_10 => ?_) (fun c_10 => ?_)
                · replace h := iT c_10 h
                  refine lv_iload hx hb dX7_wet_65 (lv_at hl 6 rfl) ?_
                  refine lv_iconst (v := 0) hx hb dX7_wet_67 (by decide) ?_
                  refine lv_iconst (v := 1) hx hb dX7_wet_68 (by decide) ?_
                  refine fr_Si (wN := fun _ : Unit => (sW z qS S)) M (m_X7_isIn l z x6 (0 : Int32) (1 : Int32) _ h) (va_cwS 3 hts (gdS cd_X7_isIn ml_X7_92 st_X7_isIn in_X7) rfl rfl rfl hdS_X7_isIn ⟨(Nat.le_of_ble_eq_true rfl), (Nat.le_of_ble_eq_true rfl)⟩) (Cut.none _) (Prm.none _) hw rfl hl.1 rfl (Nat.le_of_ble_eq_true rfl) dX7_wet_69 (fun r_11 u_ H locs h hw => ?_)
                  have hw : Hw s z A (sW z qS S) H locs := hw
                  try dsimp only at h
                  refine lv_if_ne (tgt := 80) hx hb dX7_wet_72 (by decide) (fun c_12 => ?_) (fun c_12 => ?_)
                  · replace h := iF c_12 h
                    refine lv_iconst (v := 0) hx hb dX7_wet_80 (by decide) ?_
                    exact kX7_wet_81 M S x1 x2 x3 x4 x5 x6 (0 : Int32) H locs ls hw (lv_sub hl [0, 1, 2, 3, 4, 5, 6] rfl) h
                  · replace h := iT c_12 h
                    refine lv_bipush (v := -2) hx hb dX7_wet_75 (by decide) ?_
                    refine lv_goto (tgt := 81) hx hb dX7_wet_77 (by decide) ?_
                    exact kX7_wet_81 M S x1 x2 x3 x4 x5 x6 (-2 : Int32) H locs ls hw (lv_sub hl [0, 1, 2, 3, 4, 5, 6] rfl) h
                · replace h := iF c_10 h
                  exact kX7_wet_60 M S x1 x2 x3 x4 x5 x6 H locs ls hw (lv_sub hl [0, 1, 2, 3, 4, 5, 6] rfl) h
          · replace h := iF c_7 h
            exact kX7_wet_35 M S x1 x2 x3 x4 x5 x6 H locs ls hw (lv_sub hl [0, 1, 2, 3, 4, 5, 6] rfl) h
    · replace h := iT c_4 h
      exact kX7_wet_16 M S x1 x2 x3 x4 x5 x6 H locs ls hw (lv_sub hl [0, 1, 2, 3, 4, 5, 6] rfl) h
abbrev rmX7_mean : Room := { frames := 2, cells := 0, slots := 0, locals := 53 }
set_option maxHeartbeats 4000000 in
set_option maxRecDepth 100000 in
theorem m_X7_mean (l : Launch) (z : KT) (qS : Nat → Nat) (S : RT) (x1 : Int32) (Q : Int64 → RT → Prop) (h : wX7_mean S x1 Q) : CL l yX7_mean cX7_mean 2 .long rmX7_mean z [.ref (qS 0), .int x1] (sW z qS S) (fun u : RT => (sW z qS u)) (fun (r : Int64) (u : RT) => Q r u) := by
  refine CL.of rfl (Nat.le_of_ble_eq_true rfl) ?_
  intro p e s m below meth c A ls M hw hl
  have M : Mc p s m _ meth c cX7_mean 2 (some .long) RX7 z A := M
  obtain ⟨hx, hb, -, -, hown, hts, -, -, -, hN, hsr, -⟩ := id M
  have hl : lv_has ls 2 [(0, .ref (qS 0)), (1, .int x1)] := hl
  unfold wX7_mean at h
  generalize s.heap = H at hw ⊢
  generalize ([] : List Loc) = locs at hw ⊢
  refine lv_iload_n hx hb dX7_mean_0 rfl (lv_at hl 1 rfl) ?_
  refine lv_iconst (v := 0) hx hb dX7_mean_1 (by decide) ?_
  refine lv_iconst (v := 1) hx hb dX7_mean_2 (by decide) ?_
  refine fr_Si (wN := fun _ : Unit => (sW z qS S)) M (m_X7_isIn l z x1 (0 : Int32) (1 : Int32) _ h) (va_cwS 3 hts (gdS cd_X7_isIn ml_X7_92 st_X7_isIn in_X7) rfl rfl rfl hdS_X7_isIn ⟨(Nat.le_of_ble_eq_true rfl), (Nat.le_of_ble_eq_true rfl)⟩) (Cut.none _) (Prm.none _) hw rfl hl.1 rfl (Nat.le_of_ble_eq_true rfl) dX7_mean_3 (fun r_1 u_ H locs h hw => ?_)
  have hw : Hw s z A (sW z qS S) H locs := hw
  try dsimp only at h
  refine lv_if_ne (tgt := 16) hx hb dX7_mean_6 (by decide) (fun c_2 => ?_) (fun c_2 => ?_)
  · replace h := iF c_2 h
    refine lv_aload_n hx hb dX7_mean_16 rfl (lv_at hl 0 rfl) ?_
    refine gt_f (v := .int (S 30 8)) M inlX7 hw 0 rfl rfl 8 (by decide) fl_X7_62 rfl rfl dX7_mean_17 ?_
    refine lv_if_ne (tgt := 28) hx hb dX7_mean_20 (by decide) (fun c_3 => ?_) (fun c_3 => ?_)
    · replace h := iF c_3 h
      refine lv_aload_n hx hb dX7_mean_28 rfl (lv_at hl 0 rfl) ?_
      refine fr_Vi (wN := fun _ : Unit => (sW z qS S)) M (m_X7_allHigh l z qS S _ h) (cwV 0 hts (gdV cd_X7_allHigh ml_X7_195 im_X7_allHigh se_X7_allHigh in_X7) rfl rfl rfl hdV_X7_allHigh ⟨(Nat.le_of_ble_eq_true rfl), (Nat.le_of_ble_eq_true rfl)⟩) (Cut.self _) (Prm.self _ 17 (fun _ => rfl)) 0 rfl rfl rfl hw rfl hl.1 rfl (Nat.le_of_ble_eq_true rfl) dX7_mean_29 (fun r_4 u_ H locs h hw => ?_)
      have hw : Hw s z A (sW z qS S) H locs := hw
      try dsimp only at h
      refine lv_i2l hx hb dX7_mean_32 rfl ?_
      refine lv_aload_n hx hb dX7_mean_33 rfl (lv_at hl 0 rfl) ?_
      refine gt_f (v := .int (S 30 8)) M inlX7 hw 0 rfl rfl 8 (by decide) fl_X7_62 rfl rfl dX7_mean_34 ?_
      refine lv_i2l hx hb dX7_mean_37 rfl ?_
      refine lv_iload_n hx hb dX7_mean_38 rfl (lv_at hl 1 rfl) ?_
      refine fr_Sl (wN := fun _ : Unit => (sW z qS S)) M (m_X7_partOf l z ((r_4).toInt64) (((S 30 8)).toInt64) x1 _ h) (va_cwS 3 hts (gdS cd_X7_partOf ml_X7_273 st_X7_partOf in_X7) rfl rfl rfl hdS_X7_partOf ⟨(Nat.le_of_ble_eq_true rfl), (Nat.le_of_ble_eq_true rfl)⟩) (Cut.none _) (Prm.none _) hw rfl hl.1 rfl (Nat.le_of_ble_eq_true rfl) dX7_mean_39 (fun r_5 u_ H locs h hw => ?_)
      have hw : Hw s z A (sW z qS S) H locs := hw
      try dsimp only at h
      exact rt_l M S hw h dX7_mean_42
    · replace h := iT c_3 h
      refine lv_iload_n hx hb dX7_mean_23 rfl (lv_at hl 1 rfl) ?_
      refine lv_i2l hx hb dX7_mean_24 rfl ?_
      refine lv_goto (tgt := 42) hx hb dX7_mean_25 (by decide) ?_
      exact rt_l M S hw h dX7_mean_42
  · replace h := iT c_2 h
    refine lv_aload_n hx hb dX7_mean_9 rfl (lv_at hl 0 rfl) ?_
    refine lv_bipush (v := -2) hx hb dX7_mean_10 (by decide) ?_
    refine fr_Vl (wN := fun u : RT => (sW z qS u)) M (m_X7_lowest l z qS S (-2 : Int32) _ h) (cwV 1 hts (gdV cd_X7_lowest ml_X7_269 im_X7_lowest se_X7_lowest in_X7) rfl rfl rfl hdV_X7_lowest ⟨(Nat.le_of_ble_eq_true rfl), (Nat.le_of_ble_eq_true rfl)⟩) (Cut.self _) (Prm.self _ 17 (fun _ => rfl)) 0 rfl rfl rfl hw rfl hl.1 rfl (Nat.le_of_ble_eq_true rfl) dX7_mean_12 (fun r_7 u_ H locs h hw => ?_)
    obtain ⟨S_6, rfl⟩ : ∃ z9 : RT, z9 = u_ := ⟨_, rfl⟩
    have hw : Hw s z A (sW z qS S_6) H locs := hw
    try dsimp only at h
    exact rt_l M S_6 hw h dX7_mean_15
abbrev rmX7_isSo : Room := { frames := 6, cells := 0, slots := 0, locals := 135 }
set_option maxHeartbeats 4000000 in
set_option maxRecDepth 100000 in
theorem kX7_isSo_40 {p : Program} {l : Launch} {e : Env} {s : State} {m : MethodId} {args : Array Value} {below : List Frame} {meth : Method} {c : Code} {z : KT} {A : Nat → Prop} {qS : Nat → Nat} {K8 : RT → Int32 → Int32 → Int32 → Prop} {Q : Int32 → RT → Prop} (M : Mc p s m args meth c cX7_isSo 4 (some .boolean) RX7 z A) (hK8 : ∀ (S : RT) (x1 : Int32) (x2 : Int32) (x3 : Int32) (H : Heap) (locs : List Loc) (ls : Array Slot), Hw s z A (sW z qS S) H locs → lv_has ls 4 [(0, .ref (qS 0)), (1, .int x1), (2, .int x2), (3, .int x3)] → K8 S x1 x2 x3 → W p l e rmX7_isSo s m args below meth c H locs 0 0 (MQ below (va_Qi (fun (r : Int32) (u : RT) => Q r u) (fun u t => cAt z A ((fun u : RT => (sW z qS u)) u) t) A) args s 0 0 A) (F0 m 8 ls [])) : ∀ (S : RT) (x1 : Int32) (x3 : Int32) (t0 : Int32) (H : Heap) (locs : List Loc) (ls : Array Slot), Hw s z A (sW z qS S) H locs → lv_has ls 4 [(0, .ref (qS 0)), (1, .int x1), (3, .int x3)] → bX7_isSo_40 K8 Q S x1 x3 t0 → W p l e rmX7_isSo s m args below meth c H locs 0 0 (MQ below (va_Qi (fun (r : Int32) (u : RT) => Q r u) (fun u t => cAt z A ((fun u : RT => (sW z qS u)) u) t) A) args s 0 0 A) (F0 m 40 ls [.int t0]) := by
  obtain ⟨hx, hb, -, -, hown, hts, -, -, -, hN, hsr, -⟩ := id M
  intro S x1 x3 t0 H locs ls hw hl h
  unfold bX7_isSo_40 at h
  refine lv_istore_n (lv' := [(2, .int t0), (0, .ref (qS 0)), (1, .int x1), (3, .int x3)]) hx hb dX7_isSo_40 rfl hl (by decide) rfl (fun ls hl => ?_)
  refine lv_aload_n hx hb dX7_isSo_41 rfl (lv_at hl 1 rfl) ?_
  refine fr_Vv (wN := fun u : RT => (sW z qS u)) M (m_X7_goesHour l z qS S _ h) (cwV 0 hts (gdV cd_X7_goesHour ml_X7_188 im_X7_goesHour se_X7_goesHour in_X7) rfl rfl rfl hdV_X7_goesHour ⟨(Nat.le_of_ble_eq_true rfl), (Nat.le_of_ble_eq_true rfl)⟩) (Cut.self _) (Prm.self _ 17 (fun _ => rfl)) 0 rfl rfl rfl hw rfl hl.1 rfl (Nat.le_of_ble_eq_true rfl) dX7_isSo_42 (fun u_ H locs h hw => ?_)
  obtain ⟨S_1, rfl⟩ : ∃ z9 : RT, z9 = u_ := ⟨_, rfl⟩
  have hw : Hw s z A (sW z qS S_1) H locs := hw
  try dsimp only at h
  obtain ⟨x3_2, ex3_2⟩ : ∃ y : Int32, y = (x3 + (1 : Int32)) := ⟨_, rfl⟩
  replace h := h x3_2 ex3_2
  refine lv_iinc (v := x3_2) (lv' := [(3, .int x3_2), (2, .int t0), (0, .ref (qS 0)), (1, .int x1)]) hx hb dX7_isSo_45 hl (k := 3) rfl (by rw [ex3_2]; rfl) (by decide) rfl (fun ls hl => ?_)
  refine lv_goto (tgt := 8) hx hb dX7_isSo_48 (by decide) ?_
  exact hK8 S_1 x1 t0 x3_2 H locs ls hw (lv_sub hl [2, 3, 1, 0] rfl) h
set_option maxHeartbeats 4000000 in
set_option maxRecDepth 100000 in
theorem kX7_isSo_51 {p : Program} {l : Launch} {e : Env} {s : State} {m : MethodId} {args : Array Value} {below : List Frame} {meth : Method} {c : Code} {z : KT} {A : Nat → Prop} {qS : Nat → Nat} {Q : Int32 → RT → Prop} (M : Mc p s m args meth c cX7_isSo 4 (some .boolean) RX7 z A) : ∀ (S : RT) (x2 : Int32) (H : Heap) (locs : List Loc) (ls : Array Slot), Hw s z A (sW z qS S) H locs → lv_has ls 4 [(0, .ref (qS 0)), (2, .int x2)] → bX7_isSo_51 Q S x2 → W p l e rmX7_isSo s m args below meth c H locs 0 0 (MQ below (va_Qi (fun (r : Int32) (u : RT) => Q r u) (fun u t => cAt z A ((fun u : RT => (sW z qS u)) u) t) A) args s 0 0 A) (F0 m 51 ls []) := by
  obtain ⟨hx, hb, -, -, hown, hts, -, -, -, hN, hsr, -⟩ := id M
  intro S x2 H locs ls hw hl h
  unfold bX7_isSo_51 at h
  refine lv_aload_n hx hb dX7_isSo_51 rfl (lv_at hl 0 rfl) ?_
  refine fr_Vv (wN := fun u : RT => (sW z qS u)) M (m_X7_forgets l z qS S _ h) (cwV 0 hts (gdV cd_X7_forgets ml_X7_204 im_X7_forgets se_X7_forgets in_X7) rfl rfl rfl hdV_X7_forgets ⟨(Nat.le_of_ble_eq_true rfl), (Nat.le_of_ble_eq_true rfl)⟩) (Cut.self _) (Prm.self _ 17 (fun _ => rfl)) 0 rfl rfl rfl hw rfl hl.1 rfl (Nat.le_of_ble_eq_true rfl) dX7_isSo_52 (fun u_ H locs h hw => ?_)
  obtain ⟨S_1, rfl⟩ : ∃ z9 : RT, z9 = u_ := ⟨_, rfl⟩
  have hw : Hw s z A (sW z qS S_1) H locs := hw
  try dsimp only at h
  refine lv_iload_n hx hb dX7_isSo_55 rfl (lv_at hl 1 rfl) ?_
  obtain ⟨a_2, h⟩ := h
  exact rt_z M S_1 hw a_2 h dX7_isSo_56
set_option maxHeartbeats 4000000 in
set_option maxRecDepth 100000 in
theorem kX7_isSo_8 {p : Program} {l : Launch} {e : Env} {s : State} {m : MethodId} {args : Array Value} {below : List Frame} {meth : Method} {c : Code} {z : KT} {A : Nat → Prop} {qS : Nat → Nat} {Q : Int32 → RT → Prop} (M : Mc p s m args meth c cX7_isSo 4 (some .boolean) RX7 z A) : ∀ (n : Nat) (S : RT) (x1 : Int32) (x2 : Int32) (x3 : Int32) (H : Heap) (locs : List Loc) (ls : Array Slot), Hw s z A (sW z qS S) H locs → lv_has ls 4 [(0, .ref (qS 0)), (1, .int x1), (2, .int x2), (3, .int x3)] → bX7_isSo_8 Q n S x1 x2 x3 → W p l e rmX7_isSo s m args below meth c H locs 0 0 (MQ below (va_Qi (fun (r : Int32) (u : RT) => Q r u) (fun u t => cAt z A ((fun u : RT => (sW z qS u)) u) t) A) args s 0 0 A) (F0 m 8 ls []) := by
  obtain ⟨hx, hb, -, -, hown, hts, -, -, -, hN, hsr, -⟩ := id M
  intro n
  induction n with
  | zero => intro S x1 x2 x3 H locs ls hw hl h; exact False.elim h
  | succ n ih =>
    intro S x1 x2 x3 H locs ls hw hl h
    rw [bX7_isSo_8] at h
    refine lv_iload_n hx hb dX7_isSo_8 rfl (lv_at hl 3 rfl) ?_
    refine lv_aload_n hx hb dX7_isSo_9 rfl (lv_at hl 0 rfl) ?_
    refine gt_f (v := .int (S 30 26)) M inlX7 hw 0 rfl rfl 26 (by decide) fl_X7_277 rfl rfl dX7_isSo_10 ?_
    refine lv_icmp_ge (tgt := 51) hx hb dX7_isSo_13 (by decide) (fun c_1 => ?_) (fun c_1 => ?_)
    · replace h := iT c_1 h
      exact kX7_isSo_51 M S x2 H locs ls hw (lv_sub hl [0, 2] rfl) h
    · replace h := iF c_1 h
      refine lv_iload_n hx hb dX7_isSo_16 rfl (lv_at hl 2 rfl) ?_
      refine lv_if_eq (tgt := 51) hx hb dX7_isSo_17 (by decide) (fun c_2 => ?_) (fun c_2 => ?_)
      · replace h := iT c_2 h
        exact kX7_isSo_51 M S x2 H locs ls hw (lv_sub hl [0, 2] rfl) h
      · replace h := iF c_2 h
        refine lv_aload_n hx hb dX7_isSo_20 rfl (lv_at hl 0 rfl) ?_
        refine gt_f (v := .ref (qS 6)) M inlX7 hw 0 rfl rfl 5 (by decide) fl_X7_25 rfl rfl dX7_isSo_21 ?_
        refine lv_iload_n hx hb dX7_isSo_24 rfl (lv_at hl 1 rfl) ?_
        obtain ⟨a_3, h⟩ := h
        refine ld_i M hw 6 rfl a_3 dX7_isSo_25 ?_
        refine lv_aload_n hx hb dX7_isSo_26 rfl (lv_at hl 0 rfl) ?_
        refine gt_f (v := .ref (qS 26)) M inlX7 hw 0 rfl rfl 25 (by decide) fl_X7_59 rfl rfl dX7_isSo_27 ?_
        refine lv_iload_n hx hb dX7_isSo_30 rfl (lv_at hl 3 rfl) ?_
        obtain ⟨a_4, h⟩ := h
        refine ld_i M hw 16 rfl a_4 dX7_isSo_31 ?_
        refine lv_icmp_ne (tgt := 39) hx hb dX7_isSo_32 (by decide) (fun c_5 => ?_) (fun c_5 => ?_)
        · replace h := iF c_5 h
          refine lv_iconst (v := 0) hx hb dX7_isSo_39 (by decide) ?_
          exact kX7_isSo_40 M ih S x1 x3 (0 : Int32) H locs ls hw (lv_sub hl [0, 1, 3] rfl) h
        · replace h := iT c_5 h
          refine lv_iconst (v := 1) hx hb dX7_isSo_35 (by decide) ?_
          refine lv_goto (tgt := 40) hx hb dX7_isSo_36 (by decide) ?_
          exact kX7_isSo_40 M ih S x1 x3 (1 : Int32) H locs ls hw (lv_sub hl [0, 1, 3] rfl) h
set_option maxHeartbeats 4000000 in
set_option maxRecDepth 100000 in
theorem m_X7_isSo (l : Launch) (z : KT) (qS : Nat → Nat) (S : RT) (x1 : Int32) (Q : Int32 → RT → Prop) (h : wX7_isSo S x1 Q) : CI l yX7_isSo cX7_isSo 4 .boolean rmX7_isSo z [.ref (qS 0), .int x1] (sW z qS S) (fun u : RT => (sW z qS u)) (fun (r : Int32) (u : RT) => Q r u) := by
  refine CI.of rfl (Nat.le_of_ble_eq_true rfl) ?_
  intro p e s m below meth c A ls M hw hl
  have M : Mc p s m _ meth c cX7_isSo 4 (some .boolean) RX7 z A := M
  obtain ⟨hx, hb, -, -, hown, hts, -, -, -, hN, hsr, -⟩ := id M
  have hl : lv_has ls 4 [(0, .ref (qS 0)), (1, .int x1)] := hl
  unfold wX7_isSo at h
  generalize s.heap = H at hw ⊢
  generalize ([] : List Loc) = locs at hw ⊢
  refine lv_aload_n hx hb dX7_isSo_0 rfl (lv_at hl 0 rfl) ?_
  refine fr_Vv (wN := fun u : RT => (sW z qS u)) M (m_X7_thinks l z qS S _ h) (cwV 0 hts (gdV cd_X7_thinks ml_X7_201 im_X7_thinks se_X7_thinks in_X7) rfl rfl rfl hdV_X7_thinks ⟨(Nat.le_of_ble_eq_true rfl), (Nat.le_of_ble_eq_true rfl)⟩) (Cut.self _) (Prm.self _ 17 (fun _ => rfl)) 0 rfl rfl rfl hw rfl hl.1 rfl (Nat.le_of_ble_eq_true rfl) dX7_isSo_1 (fun u_ H locs h hw => ?_)
  obtain ⟨S_1, rfl⟩ : ∃ z9 : RT, z9 = u_ := ⟨_, rfl⟩
  have hw : Hw s z A (sW z qS S_1) H locs := hw
  try dsimp only at h
  refine lv_iconst (v := 1) hx hb dX7_isSo_4 (by decide) ?_
  refine lv_istore_n (lv' := [(2, .int (1 : Int32)), (0, .ref (qS 0)), (1, .int x1)]) hx hb dX7_isSo_5 rfl hl (by decide) rfl (fun ls hl => ?_)
  refine lv_iconst (v := 0) hx hb dX7_isSo_6 (by decide) ?_
  refine lv_istore_n (lv' := [(3, .int (0 : Int32)), (2, .int (1 : Int32)), (0, .ref (qS 0)), (1, .int x1)]) hx hb dX7_isSo_7 rfl hl (by decide) rfl (fun ls hl => ?_)
  obtain ⟨n0, h⟩ := h; exact kX7_isSo_8 M n0 S_1 x1 (1 : Int32) (0 : Int32) H locs ls hw (lv_sub hl [2, 3, 1, 0] rfl) h
abbrev rmX7_kindsOf : Room := { frames := 7, cells := 0, slots := 0, locals := 158 }
set_option maxHeartbeats 4000000 in
set_option maxRecDepth 100000 in
theorem kX7_kindsOf_44 {p : Program} {l : Launch} {e : Env} {s : State} {m : MethodId} {args : Array Value} {below : List Frame} {meth : Method} {c : Code} {z : KT} {A : Nat → Prop} {qS : Nat → Nat} {K12 : RT → Int32 → Int32 → Int32 → Int32 → Prop} {Q : Int32 → RT → Prop} (M : Mc p s m args meth c cX7_kindsOf 5 (some .int) RX7 z A) (hK12 : ∀ (S : RT) (x1 : Int32) (x2 : Int32) (x3 : Int32) (x4 : Int32) (H : Heap) (locs : List Loc) (ls : Array Slot), Hw s z A (sW z qS S) H locs → lv_has ls 5 [(0, .ref (qS 0)), (1, .int x1), (2, .int x2), (3, .int x3), (4, .int x4)] → K12 S x1 x2 x3 x4 → W p l e rmX7_kindsOf s m args below meth c H locs 0 0 (MQ below (va_Qi (fun (r : Int32) (u : RT) => Q r u) (fun u t => cAt z A ((fun u : RT => (sW z qS u)) u) t) A) args s 0 0 A) (F0 m 12 ls [])) : ∀ (S : RT) (x1 : Int32) (x2 : Int32) (x4 : Int32) (t0 : Int32) (t1 : Int32) (H : Heap) (locs : List Loc) (ls : Array Slot), Hw s z A (sW z qS S) H locs → lv_has ls 5 [(0, .ref (qS 0)), (1, .int x1), (2, .int x2), (4, .int x4)] → bX7_kindsOf_44 K12 Q S x1 x2 x4 t0 t1 → W p l e rmX7_kindsOf s m args below meth c H locs 0 0 (MQ below (va_Qi (fun (r : Int32) (u : RT) => Q r u) (fun u t => cAt z A ((fun u : RT => (sW z qS u)) u) t) A) args s 0 0 A) (F0 m 44 ls [.int t1, .int t0]) := by
  obtain ⟨hx, hb, -, -, hown, hts, -, -, -, hN, hsr, -⟩ := id M
  intro S x1 x2 x4 t0 t1 H locs ls hw hl h
  unfold bX7_kindsOf_44 at h
  refine lv_ior hx hb dX7_kindsOf_44 ?_
  refine lv_topi (fun x3_1 ex3_1 => ?_)
  replace h := h x3_1 ex3_1
  refine lv_istore_n (lv' := [(3, .int x3_1), (0, .ref (qS 0)), (1, .int x1), (2, .int x2), (4, .int x4)]) hx hb dX7_kindsOf_45 rfl hl (by decide) rfl (fun ls hl => ?_)
  obtain ⟨x4_2, ex4_2⟩ : ∃ y : Int32, y = (x4 + (1 : Int32)) := ⟨_, rfl⟩
  replace h := h x4_2 ex4_2
  refine lv_iinc (v := x4_2) (lv' := [(4, .int x4_2), (3, .int x3_1), (0, .ref (qS 0)), (1, .int x1), (2, .int x2)]) hx hb dX7_kindsOf_46 hl (k := 4) rfl (by rw [ex4_2]; rfl) (by decide) rfl (fun ls hl => ?_)
  refine lv_goto (tgt := 12) hx hb dX7_kindsOf_49 (by decide) ?_
  exact hK12 S x1 x2 x3_1 x4_2 H locs ls hw (lv_sub hl [2, 3, 4, 1, 0] rfl) h
set_option maxHeartbeats 4000000 in
set_option maxRecDepth 100000 in
theorem kX7_kindsOf_12 {p : Program} {l : Launch} {e : Env} {s : State} {m : MethodId} {args : Array Value} {below : List Frame} {meth : Method} {c : Code} {z : KT} {A : Nat → Prop} {qS : Nat → Nat} {Q : Int32 → RT → Prop} (M : Mc p s m args meth c cX7_kindsOf 5 (some .int) RX7 z A) : ∀ (n : Nat) (S : RT) (x1 : Int32) (x2 : Int32) (x3 : Int32) (x4 : Int32) (H : Heap) (locs : List Loc) (ls : Array Slot), Hw s z A (sW z qS S) H locs → lv_has ls 5 [(0, .ref (qS 0)), (1, .int x1), (2, .int x2), (3, .int x3), (4, .int x4)] → bX7_kindsOf_12 Q n S x1 x2 x3 x4 → W p l e rmX7_kindsOf s m args below meth c H locs 0 0 (MQ below (va_Qi (fun (r : Int32) (u : RT) => Q r u) (fun u t => cAt z A ((fun u : RT => (sW z qS u)) u) t) A) args s 0 0 A) (F0 m 12 ls []) := by
  obtain ⟨hx, hb, -, -, hown, hts, -, -, -, hN, hsr, -⟩ := id M
  intro n
  induction n with
  | zero => intro S x1 x2 x3 x4 H locs ls hw hl h; exact False.elim h
  | succ n ih =>
    intro S x1 x2 x3 x4 H locs ls hw hl h
    rw [bX7_kindsOf_12] at h
    refine lv_iload hx hb dX7_kindsOf_12 (lv_at hl 4 rfl) ?_
    refine lv_bipush (v := 6) hx hb dX7_kindsOf_14 (by decide) ?_
    refine lv_icmp_ge (tgt := 52) hx hb dX7_kindsOf_16 (by decide) (fun c_1 => ?_) (fun c_1 => ?_)
    · replace h := iT c_1 h
      refine lv_aload_n hx hb dX7_kindsOf_52 rfl (lv_at hl 0 rfl) ?_
      refine gt_f (v := .ref (qS 2)) M inlX7 hw 0 rfl rfl 1 (by decide) fl_X7_13 rfl rfl dX7_kindsOf_53 ?_
      refine lv_iload_n hx hb dX7_kindsOf_56 rfl (lv_at hl 1 rfl) ?_
      refine lv_iload_n hx hb dX7_kindsOf_57 rfl (lv_at hl 2 rfl) ?_
      obtain ⟨a_2, h⟩ := h
      refine st_i (P := S) (r := 1) (wN := fun S_3 => (sW z qS S_3)) M hw 2 rfl rfl a_2 dX7_kindsOf_58 (fun S_3 H locs eS_3 hw => ?_)
      replace h := h S_3 eS_3
      refine lv_iload_n hx hb dX7_kindsOf_59 rfl (lv_at hl 3 rfl) ?_
      exact rt_i M S_3 hw h dX7_kindsOf_60
    · replace h := iF c_1 h
      refine lv_aload_n hx hb dX7_kindsOf_19 rfl (lv_at hl 0 rfl) ?_
      refine gt_f (v := .ref (qS 2)) M inlX7 hw 0 rfl rfl 1 (by decide) fl_X7_13 rfl rfl dX7_kindsOf_20 ?_
      refine lv_iload_n hx hb dX7_kindsOf_23 rfl (lv_at hl 1 rfl) ?_
      refine lv_iload hx hb dX7_kindsOf_24 (lv_at hl 4 rfl) ?_
      obtain ⟨a_4, h⟩ := h
      refine st_i (P := S) (r := 1) (wN := fun S_5 => (sW z qS S_5)) M hw 2 rfl rfl a_4 dX7_kindsOf_26 (fun S_5 H locs eS_5 hw => ?_)
      replace h := h S_5 eS_5
      refine lv_iload_n hx hb dX7_kindsOf_27 rfl (lv_at hl 3 rfl) ?_
      refine lv_aload_n hx hb dX7_kindsOf_28 rfl (lv_at hl 0 rfl) ?_
      refine lv_iload_n hx hb dX7_kindsOf_29 rfl (lv_at hl 1 rfl) ?_
      refine fr_Vi (wN := fun u : RT => (sW z qS u)) M (m_X7_isSo l z qS S_5 x1 _ h) (cwV 1 hts (gdV cd_X7_isSo ml_X7_280 im_X7_isSo se_X7_isSo in_X7) rfl rfl rfl hdV_X7_isSo ⟨(Nat.le_of_ble_eq_true rfl), (Nat.le_of_ble_eq_true rfl)⟩) (Cut.self _) (Prm.self _ 17 (fun _ => rfl)) 0 rfl rfl rfl hw rfl hl.1 rfl (Nat.le_of_ble_eq_true rfl) dX7_kindsOf_30 (fun r_7 u_ H locs h hw => ?_)
      obtain ⟨S_6, rfl⟩ : ∃ z9 : RT, z9 = u_ := ⟨_, rfl⟩
      have hw : Hw s z A (sW z qS S_6) H locs := hw
      try dsimp only at h
      refine lv_if_eq (tgt := 43) hx hb dX7_kindsOf_33 (by decide) (fun c_8 => ?_) (fun c_8 => ?_)
      · replace h := iT c_8 h
        refine lv_iconst (v := 0) hx hb dX7_kindsOf_43 (by decide) ?_
        exact kX7_kindsOf_44 M ih S_6 x1 x2 x4 x3 (0 : Int32) H locs ls hw (lv_sub hl [0, 1, 2, 4] rfl) h
      · replace h := iF c_8 h
        refine lv_iconst (v := 1) hx hb dX7_kindsOf_36 (by decide) ?_
        refine lv_iload hx hb dX7_kindsOf_37 (lv_at hl 4 rfl) ?_
        refine lv_ishl hx hb dX7_kindsOf_39 ?_
        refine lv_goto (tgt := 44) hx hb dX7_kindsOf_40 (by decide) ?_
        exact kX7_kindsOf_44 M ih S_6 x1 x2 x4 x3 ((1 : Int32) <<< (x4 &&& 31)) H locs ls hw (lv_sub hl [0, 1, 2, 4] rfl) h
set_option maxHeartbeats 4000000 in
set_option maxRecDepth 100000 in
theorem m_X7_kindsOf (l : Launch) (z : KT) (qS : Nat → Nat) (S : RT) (x1 : Int32) (Q : Int32 → RT → Prop) (h : wX7_kindsOf S x1 Q) : CI l yX7_kindsOf cX7_kindsOf 5 .int rmX7_kindsOf z [.ref (qS 0), .int x1] (sW z qS S) (fun u : RT => (sW z qS u)) (fun (r : Int32) (u : RT) => Q r u) := by
  refine CI.of rfl (Nat.le_of_ble_eq_true rfl) ?_
  intro p e s m below meth c A ls M hw hl
  have M : Mc p s m _ meth c cX7_kindsOf 5 (some .int) RX7 z A := M
  obtain ⟨hx, hb, -, -, hown, hts, -, -, -, hN, hsr, -⟩ := id M
  have hl : lv_has ls 5 [(0, .ref (qS 0)), (1, .int x1)] := hl
  unfold wX7_kindsOf at h
  generalize s.heap = H at hw ⊢
  generalize ([] : List Loc) = locs at hw ⊢
  refine lv_aload_n hx hb dX7_kindsOf_0 rfl (lv_at hl 0 rfl) ?_
  refine gt_f (v := .ref (qS 2)) M inlX7 hw 0 rfl rfl 1 (by decide) fl_X7_13 rfl rfl dX7_kindsOf_1 ?_
  refine lv_iload_n hx hb dX7_kindsOf_4 rfl (lv_at hl 1 rfl) ?_
  obtain ⟨a_1, h⟩ := h
  refine ld_i M hw 2 rfl a_1 dX7_kindsOf_5 ?_
  refine lv_topi (fun x2_2 ex2_2 => ?_)
  replace h := h x2_2 ex2_2
  refine lv_istore_n (lv' := [(2, .int x2_2), (0, .ref (qS 0)), (1, .int x1)]) hx hb dX7_kindsOf_6 rfl hl (by decide) rfl (fun ls hl => ?_)
  refine lv_iconst (v := 0) hx hb dX7_kindsOf_7 (by decide) ?_
  refine lv_istore_n (lv' := [(3, .int (0 : Int32)), (2, .int x2_2), (0, .ref (qS 0)), (1, .int x1)]) hx hb dX7_kindsOf_8 rfl hl (by decide) rfl (fun ls hl => ?_)
  refine lv_iconst (v := 0) hx hb dX7_kindsOf_9 (by decide) ?_
  refine lv_istore (lv' := [(4, .int (0 : Int32)), (3, .int (0 : Int32)), (2, .int x2_2), (0, .ref (qS 0)), (1, .int x1)]) hx hb dX7_kindsOf_10 hl (by decide) rfl (fun ls hl => ?_)
  obtain ⟨n0, h⟩ := h; exact kX7_kindsOf_12 M n0 S x1 x2_2 (0 : Int32) (0 : Int32) H locs ls hw (lv_sub hl [3, 4, 2, 1, 0] rfl) h
abbrev rmX7_weightsOf : Room := { frames := 7, cells := 0, slots := 0, locals := 158 }
set_option maxHeartbeats 4000000 in
set_option maxRecDepth 100000 in
theorem kX7_weightsOf_41 {p : Program} {l : Launch} {e : Env} {s : State} {m : MethodId} {args : Array Value} {below : List Frame} {meth : Method} {c : Code} {z : KT} {A : Nat → Prop} {qS : Nat → Nat} {K12 : RT → Int32 → Int32 → Int32 → Int32 → Prop} {Q : Int32 → RT → Prop} (M : Mc p s m args meth c cX7_weightsOf 5 (some .int) RX7 z A) (hK12 : ∀ (S : RT) (x1 : Int32) (x2 : Int32) (x3 : Int32) (x4 : Int32) (H : Heap) (locs : List Loc) (ls : Array Slot), Hw s z A (sW z qS S) H locs → lv_has ls 5 [(0, .ref (qS 0)), (1, .int x1), (2, .int x2), (3, .int x3), (4, .int x4)] → K12 S x1 x2 x3 x4 → W p l e rmX7_weightsOf s m args below meth c H locs 0 0 (MQ below (va_Qi (fun (r : Int32) (u : RT) => Q r u) (fun u t => cAt z A ((fun u : RT => (sW z qS u)) u) t) A) args s 0 0 A) (F0 m 12 ls [])) : ∀ (S : RT) (x1 : Int32) (x2 : Int32) (x4 : Int32) (t0 : Int32) (t1 : Int32) (H : Heap) (locs : List Loc) (ls : Array Slot), Hw s z A (sW z qS S) H locs → lv_has ls 5 [(0, .ref (qS 0)), (1, .int x1), (2, .int x2), (4, .int x4)] → bX7_weightsOf_41 K12 Q S x1 x2 x4 t0 t1 → W p l e rmX7_weightsOf s m args below meth c H locs 0 0 (MQ below (va_Qi (fun (r : Int32) (u : RT) => Q r u) (fun u t => cAt z A ((fun u : RT => (sW z qS u)) u) t) A) args s 0 0 A) (F0 m 41 ls [.int t1, .int t0]) := by
  obtain ⟨hx, hb, -, -, hown, hts, -, -, -, hN, hsr, -⟩ := id M
  intro S x1 x2 x4 t0 t1 H locs ls hw hl h
  unfold bX7_weightsOf_41 at h
  refine lv_iadd hx hb dX7_weightsOf_41 ?_
  refine lv_topi (fun x3_1 ex3_1 => ?_)
  replace h := h x3_1 ex3_1
  refine lv_istore_n (lv' := [(3, .int x3_1), (0, .ref (qS 0)), (1, .int x1), (2, .int x2), (4, .int x4)]) hx hb dX7_weightsOf_42 rfl hl (by decide) rfl (fun ls hl => ?_)
  obtain ⟨x4_2, ex4_2⟩ : ∃ y : Int32, y = (x4 + (1 : Int32)) := ⟨_, rfl⟩
  replace h := h x4_2 ex4_2
  refine lv_iinc (v := x4_2) (lv' := [(4, .int x4_2), (3, .int x3_1), (0, .ref (qS 0)), (1, .int x1), (2, .int x2)]) hx hb dX7_weightsOf_43 hl (k := 4) rfl (by rw [ex4_2]; rfl) (by decide) rfl (fun ls hl => ?_)
  refine lv_goto (tgt := 12) hx hb dX7_weightsOf_46 (by decide) ?_
  exact hK12 S x1 x2 x3_1 x4_2 H locs ls hw (lv_sub hl [2, 3, 4, 1, 0] rfl) h
set_option maxHeartbeats 4000000 in
set_option maxRecDepth 100000 in
theorem kX7_weightsOf_12 {p : Program} {l : Launch} {e : Env} {s : State} {m : MethodId} {args : Array Value} {below : List Frame} {meth : Method} {c : Code} {z : KT} {A : Nat → Prop} {qS : Nat → Nat} {Q : Int32 → RT → Prop} (M : Mc p s m args meth c cX7_weightsOf 5 (some .int) RX7 z A) : ∀ (n : Nat) (S : RT) (x1 : Int32) (x2 : Int32) (x3 : Int32) (x4 : Int32) (H : Heap) (locs : List Loc) (ls : Array Slot), Hw s z A (sW z qS S) H locs → lv_has ls 5 [(0, .ref (qS 0)), (1, .int x1), (2, .int x2), (3, .int x3), (4, .int x4)] → bX7_weightsOf_12 Q n S x1 x2 x3 x4 → W p l e rmX7_weightsOf s m args below meth c H locs 0 0 (MQ below (va_Qi (fun (r : Int32) (u : RT) => Q r u) (fun u t => cAt z A ((fun u : RT => (sW z qS u)) u) t) A) args s 0 0 A) (F0 m 12 ls []) := by
  obtain ⟨hx, hb, -, -, hown, hts, -, -, -, hN, hsr, -⟩ := id M
  intro n
  induction n with
  | zero => intro S x1 x2 x3 x4 H locs ls hw hl h; exact False.elim h
  | succ n ih =>
    intro S x1 x2 x3 x4 H locs ls hw hl h
    rw [bX7_weightsOf_12] at h
    refine lv_iload hx hb dX7_weightsOf_12 (lv_at hl 4 rfl) ?_
    refine lv_bipush (v := 60) hx hb dX7_weightsOf_14 (by decide) ?_
    refine lv_icmp_gt (tgt := 49) hx hb dX7_weightsOf_16 (by decide) (fun c_1 => ?_) (fun c_1 => ?_)
    · replace h := iT c_1 h
      refine lv_aload_n hx hb dX7_weightsOf_49 rfl (lv_at hl 0 rfl) ?_
      refine gt_f (v := .ref (qS 4)) M inlX7 hw 0 rfl rfl 3 (by decide) fl_X7_19 rfl rfl dX7_weightsOf_50 ?_
      refine lv_iload_n hx hb dX7_weightsOf_53 rfl (lv_at hl 1 rfl) ?_
      refine lv_iload_n hx hb dX7_weightsOf_54 rfl (lv_at hl 2 rfl) ?_
      obtain ⟨a_2, h⟩ := h
      refine st_i (P := S) (r := 3) (wN := fun S_3 => (sW z qS S_3)) M hw 4 rfl rfl a_2 dX7_weightsOf_55 (fun S_3 H locs eS_3 hw => ?_)
      replace h := h S_3 eS_3
      refine lv_iload_n hx hb dX7_weightsOf_56 rfl (lv_at hl 3 rfl) ?_
      exact rt_i M S_3 hw h dX7_weightsOf_57
    · replace h := iF c_1 h
      refine lv_aload_n hx hb dX7_weightsOf_19 rfl (lv_at hl 0 rfl) ?_
      refine gt_f (v := .ref (qS 4)) M inlX7 hw 0 rfl rfl 3 (by decide) fl_X7_19 rfl rfl dX7_weightsOf_20 ?_
      refine lv_iload_n hx hb dX7_weightsOf_23 rfl (lv_at hl 1 rfl) ?_
      refine lv_iload hx hb dX7_weightsOf_24 (lv_at hl 4 rfl) ?_
      obtain ⟨a_4, h⟩ := h
      refine st_i (P := S) (r := 3) (wN := fun S_5 => (sW z qS S_5)) M hw 4 rfl rfl a_4 dX7_weightsOf_26 (fun S_5 H locs eS_5 hw => ?_)
      replace h := h S_5 eS_5
      refine lv_iload_n hx hb dX7_weightsOf_27 rfl (lv_at hl 3 rfl) ?_
      refine lv_aload_n hx hb dX7_weightsOf_28 rfl (lv_at hl 0 rfl) ?_
      refine lv_iload_n hx hb dX7_weightsOf_29 rfl (lv_at hl 1 rfl) ?_
      refine fr_Vi (wN := fun u : RT => (sW z qS u)) M (m_X7_isSo l z qS S_5 x1 _ h) (cwV 1 hts (gdV cd_X7_isSo ml_X7_280 im_X7_isSo se_X7_isSo in_X7) rfl rfl rfl hdV_X7_isSo ⟨(Nat.le_of_ble_eq_true rfl), (Nat.le_of_ble_eq_true rfl)⟩) (Cut.self _) (Prm.self _ 17 (fun _ => rfl)) 0 rfl rfl rfl hw rfl hl.1 rfl (Nat.le_of_ble_eq_true rfl) dX7_weightsOf_30 (fun r_7 u_ H locs h hw => ?_)
      obtain ⟨S_6, rfl⟩ : ∃ z9 : RT, z9 = u_ := ⟨_, rfl⟩
      have hw : Hw s z A (sW z qS S_6) H locs := hw
      try dsimp only at h
      refine lv_if_eq (tgt := 40) hx hb dX7_weightsOf_33 (by decide) (fun c_8 => ?_) (fun c_8 => ?_)
      · replace h := iT c_8 h
        refine lv_iconst (v := 0) hx hb dX7_weightsOf_40 (by decide) ?_
        exact kX7_weightsOf_41 M ih S_6 x1 x2 x4 x3 (0 : Int32) H locs ls hw (lv_sub hl [0, 1, 2, 4] rfl) h
      · replace h := iF c_8 h
        refine lv_iconst (v := 1) hx hb dX7_weightsOf_36 (by decide) ?_
        refine lv_goto (tgt := 41) hx hb dX7_weightsOf_37 (by decide) ?_
        exact kX7_weightsOf_41 M ih S_6 x1 x2 x4 x3 (1 : Int32) H locs ls hw (lv_sub hl [0, 1, 2, 4] rfl) h
set_option maxHeartbeats 4000000 in
set_option maxRecDepth 100000 in
theorem m_X7_weightsOf (l : Launch) (z : KT) (qS : Nat → Nat) (S : RT) (x1 : Int32) (Q : Int32 → RT → Prop) (h : wX7_weightsOf S x1 Q) : CI l yX7_weightsOf cX7_weightsOf 5 .int rmX7_weightsOf z [.ref (qS 0), .int x1] (sW z qS S) (fun u : RT => (sW z qS u)) (fun (r : Int32) (u : RT) => Q r u) := by
  refine CI.of rfl (Nat.le_of_ble_eq_true rfl) ?_
  intro p e s m below meth c A ls M hw hl
  have M : Mc p s m _ meth c cX7_weightsOf 5 (some .int) RX7 z A := M
  obtain ⟨hx, hb, -, -, hown, hts, -, -, -, hN, hsr, -⟩ := id M
  have hl : lv_has ls 5 [(0, .ref (qS 0)), (1, .int x1)] := hl
  unfold wX7_weightsOf at h
  generalize s.heap = H at hw ⊢
  generalize ([] : List Loc) = locs at hw ⊢
  refine lv_aload_n hx hb dX7_weightsOf_0 rfl (lv_at hl 0 rfl) ?_
  refine gt_f (v := .ref (qS 4)) M inlX7 hw 0 rfl rfl 3 (by decide) fl_X7_19 rfl rfl dX7_weightsOf_1 ?_
  refine lv_iload_n hx hb dX7_weightsOf_4 rfl (lv_at hl 1 rfl) ?_
  obtain ⟨a_1, h⟩ := h
  refine ld_i M hw 4 rfl a_1 dX7_weightsOf_5 ?_
  refine lv_topi (fun x2_2 ex2_2 => ?_)
  replace h := h x2_2 ex2_2
  refine lv_istore_n (lv' := [(2, .int x2_2), (0, .ref (qS 0)), (1, .int x1)]) hx hb dX7_weightsOf_6 rfl hl (by decide) rfl (fun ls hl => ?_)
  refine lv_iconst (v := 0) hx hb dX7_weightsOf_7 (by decide) ?_
  refine lv_istore_n (lv' := [(3, .int (0 : Int32)), (2, .int x2_2), (0, .ref (qS 0)), (1, .int x1)]) hx hb dX7_weightsOf_8 rfl hl (by decide) rfl (fun ls hl => ?_)
  refine lv_iconst (v := 0) hx hb dX7_weightsOf_9 (by decide) ?_
  refine lv_istore (lv' := [(4, .int (0 : Int32)), (3, .int (0 : Int32)), (2, .int x2_2), (0, .ref (qS 0)), (1, .int x1)]) hx hb dX7_weightsOf_10 hl (by decide) rfl (fun ls hl => ?_)
  obtain ⟨n0, h⟩ := h; exact kX7_weightsOf_12 M n0 S x1 x2_2 (0 : Int32) (0 : Int32) H locs ls hw (lv_sub hl [3, 4, 2, 1, 0] rfl) h
abbrev rmX7_whatIs : Room := { frames := 8, cells := 0, slots := 0, locals := 182 }
set_option maxHeartbeats 4000000 in
set_option maxRecDepth 100000 in
theorem kX7_whatIs_27 {p : Program} {l : Launch} {e : Env} {s : State} {m : MethodId} {args : Array Value} {below : List Frame} {meth : Method} {c : Code} {z : KT} {A : Nat → Prop} {qS : Nat → Nat} {Q : Int32 → RT → Prop} (M : Mc p s m args meth c cX7_whatIs 4 (some .int) RX7 z A) : ∀ (S : RT) (x1 : Int32) (x2 : Int32) (t0 : Int32) (H : Heap) (locs : List Loc) (ls : Array Slot), Hw s z A (sW z qS S) H locs → lv_has ls 4 [(0, .ref (qS 0)), (1, .int x1), (2, .int x2)] → bX7_whatIs_27 Q S x1 x2 t0 → W p l e rmX7_whatIs s m args below meth c H locs 0 0 (MQ below (va_Qi (fun (r : Int32) (u : RT) => Q r u) (fun u t => cAt z A ((fun u : RT => (sW z qS u)) u) t) A) args s 0 0 A) (F0 m 27 ls [.int t0]) := by
  obtain ⟨hx, hb, -, -, hown, hts, -, -, -, hN, hsr, -⟩ := id M
  intro S x1 x2 t0 H locs ls hw hl h
  unfold bX7_whatIs_27 at h
  refine lv_istore_n (lv' := [(3, .int t0), (0, .ref (qS 0)), (1, .int x1), (2, .int x2)]) hx hb dX7_whatIs_27 rfl hl (by decide) rfl (fun ls hl => ?_)
  refine lv_iload_n hx hb dX7_whatIs_28 rfl (lv_at hl 0 rfl) ?_
  refine lv_if_eq (tgt := 38) hx hb dX7_whatIs_29 (by decide) (fun c_1 => ?_) (fun c_1 => ?_)
  · replace h := iT c_1 h
    refine lv_iload_n hx hb dX7_whatIs_38 rfl (lv_at hl 3 rfl) ?_
    refine lv_if_ne (tgt := 50) hx hb dX7_whatIs_39 (by decide) (fun c_2 => ?_) (fun c_2 => ?_)
    · replace h := iF c_2 h
      refine lv_aload_n hx hb dX7_whatIs_50 rfl (lv_at hl 1 rfl) ?_
      refine lv_iload_n hx hb dX7_whatIs_51 rfl (lv_at hl 2 rfl) ?_
      refine fr_Vi (wN := fun u : RT => (sW z qS u)) M (m_X7_weightsOf l z qS S x1 _ h) (cwV 1 hts (gdV cd_X7_weightsOf ml_X7_286 im_X7_weightsOf se_X7_weightsOf in_X7) rfl rfl rfl hdV_X7_weightsOf ⟨(Nat.le_of_ble_eq_true rfl), (Nat.le_of_ble_eq_true rfl)⟩) (Cut.self _) (Prm.self _ 17 (fun _ => rfl)) 0 rfl rfl rfl hw rfl hl.1 rfl (Nat.le_of_ble_eq_true rfl) dX7_whatIs_52 (fun r_4 u_ H locs h hw => ?_)
      obtain ⟨S_3, rfl⟩ : ∃ z9 : RT, z9 = u_ := ⟨_, rfl⟩
      have hw : Hw s z A (sW z qS S_3) H locs := hw
      try dsimp only at h
      exact rt_i M S_3 hw h dX7_whatIs_55
    · replace h := iT c_2 h
      refine lv_aload_n hx hb dX7_whatIs_42 rfl (lv_at hl 1 rfl) ?_
      refine lv_iload_n hx hb dX7_whatIs_43 rfl (lv_at hl 2 rfl) ?_
      refine fr_Vi (wN := fun u : RT => (sW z qS u)) M (m_X7_kindsOf l z qS S x1 _ h) (cwV 1 hts (gdV cd_X7_kindsOf ml_X7_283 im_X7_kindsOf se_X7_kindsOf in_X7) rfl rfl rfl hdV_X7_kindsOf ⟨(Nat.le_of_ble_eq_true rfl), (Nat.le_of_ble_eq_true rfl)⟩) (Cut.self _) (Prm.self _ 17 (fun _ => rfl)) 0 rfl rfl rfl hw rfl hl.1 rfl (Nat.le_of_ble_eq_true rfl) dX7_whatIs_44 (fun r_6 u_ H locs h hw => ?_)
      obtain ⟨S_5, rfl⟩ : ∃ z9 : RT, z9 = u_ := ⟨_, rfl⟩
      have hw : Hw s z A (sW z qS S_5) H locs := hw
      try dsimp only at h
      refine lv_goto (tgt := 55) hx hb dX7_whatIs_47 (by decide) ?_
      exact rt_i M S_5 hw h dX7_whatIs_55
  · replace h := iF c_1 h
    refine lv_aload_n hx hb dX7_whatIs_32 rfl (lv_at hl 1 rfl) ?_
    refine lv_iload_n hx hb dX7_whatIs_33 rfl (lv_at hl 0 rfl) ?_
    refine fr_Vi (wN := fun u : RT => (sW z qS u)) M (m_X7_no l z qS S t0 _ h) (cwV 1 hts (gdV cd_X7_no ml_X7_81 im_X7_no se_X7_no in_X7) rfl rfl rfl hdV_X7_no ⟨(Nat.le_of_ble_eq_true rfl), (Nat.le_of_ble_eq_true rfl)⟩) (Cut.self _) (Prm.self _ 17 (fun _ => rfl)) 0 rfl rfl rfl hw rfl hl.1 rfl (Nat.le_of_ble_eq_true rfl) dX7_whatIs_34 (fun r_8 u_ H locs h hw => ?_)
    obtain ⟨S_7, rfl⟩ : ∃ z9 : RT, z9 = u_ := ⟨_, rfl⟩
    have hw : Hw s z A (sW z qS S_7) H locs := hw
    try dsimp only at h
    exact rt_i M S_7 hw h dX7_whatIs_37
set_option maxHeartbeats 4000000 in
set_option maxRecDepth 100000 in
theorem m_X7_whatIs (l : Launch) (z : KT) (qS : Nat → Nat) (S : RT) (x1 : Int32) (x2 : Int32) (Q : Int32 → RT → Prop) (h : wX7_whatIs S x1 x2 Q) : CI l yX7_whatIs cX7_whatIs 4 .int rmX7_whatIs z [.ref (qS 0), .int x1, .int x2] (sW z qS S) (fun u : RT => (sW z qS u)) (fun (r : Int32) (u : RT) => Q r u) := by
  refine CI.of rfl (Nat.le_of_ble_eq_true rfl) ?_
  intro p e s m below meth c A ls M hw hl
  have M : Mc p s m _ meth c cX7_whatIs 4 (some .int) RX7 z A := M
  obtain ⟨hx, hb, -, -, hown, hts, -, -, -, hN, hsr, -⟩ := id M
  have hl : lv_has ls 4 [(0, .ref (qS 0)), (1, .int x1), (2, .int x2)] := hl
  unfold wX7_whatIs at h
  generalize s.heap = H at hw ⊢
  generalize ([] : List Loc) = locs at hw ⊢
  refine lv_aload_n hx hb dX7_whatIs_0 rfl (lv_at hl 0 rfl) ?_
  refine lv_iload_n hx hb dX7_whatIs_1 rfl (lv_at hl 1 rfl) ?_
  refine fr_Vi (wN := fun _ : Unit => (sW z qS S)) M (m_X7_isThing l z qS S x1 _ h) (cwV 1 hts (gdV cd_X7_isThing ml_X7_70 im_X7_isThing se_X7_isThing in_X7) rfl rfl rfl hdV_X7_isThing ⟨(Nat.le_of_ble_eq_true rfl), (Nat.le_of_ble_eq_true rfl)⟩) (Cut.self _) (Prm.self _ 17 (fun _ => rfl)) 0 rfl rfl rfl hw rfl hl.1 rfl (Nat.le_of_ble_eq_true rfl) dX7_whatIs_2 (fun r_1 u_ H locs h hw => ?_)
  have hw : Hw s z A (sW z qS S) H locs := hw
  try dsimp only at h
  refine lv_if_ne (tgt := 12) hx hb dX7_whatIs_5 (by decide) (fun c_2 => ?_) (fun c_2 => ?_)
  · replace h := iF c_2 h
    refine lv_iload_n hx hb dX7_whatIs_12 rfl (lv_at hl 2 rfl) ?_
    refine lv_iconst (v := 0) hx hb dX7_whatIs_13 (by decide) ?_
    refine lv_iconst (v := 1) hx hb dX7_whatIs_14 (by decide) ?_
    refine fr_Si (wN := fun _ : Unit => (sW z qS S)) M (m_X7_isIn l z x2 (0 : Int32) (1 : Int32) _ h) (va_cwS 3 hts (gdS cd_X7_isIn ml_X7_92 st_X7_isIn in_X7) rfl rfl rfl hdS_X7_isIn ⟨(Nat.le_of_ble_eq_true rfl), (Nat.le_of_ble_eq_true rfl)⟩) (Cut.none _) (Prm.none _) hw rfl hl.1 rfl (Nat.le_of_ble_eq_true rfl) dX7_whatIs_15 (fun r_3 u_ H locs h hw => ?_)
    have hw : Hw s z A (sW z qS S) H locs := hw
    try dsimp only at h
    refine lv_if_ne (tgt := 26) hx hb dX7_whatIs_18 (by decide) (fun c_4 => ?_) (fun c_4 => ?_)
    · replace h := iF c_4 h
      refine lv_iconst (v := 0) hx hb dX7_whatIs_26 (by decide) ?_
      exact kX7_whatIs_27 M S x1 x2 (0 : Int32) H locs ls hw (lv_sub hl [0, 1, 2] rfl) h
    · replace h := iT c_4 h
      refine lv_bipush (v := -2) hx hb dX7_whatIs_21 (by decide) ?_
      refine lv_goto (tgt := 27) hx hb dX7_whatIs_23 (by decide) ?_
      exact kX7_whatIs_27 M S x1 x2 (-2 : Int32) H locs ls hw (lv_sub hl [0, 1, 2] rfl) h
  · replace h := iT c_2 h
    refine lv_iconst (v := -1) hx hb dX7_whatIs_8 (by decide) ?_
    refine lv_goto (tgt := 27) hx hb dX7_whatIs_9 (by decide) ?_
    exact kX7_whatIs_27 M S x1 x2 (-1 : Int32) H locs ls hw (lv_sub hl [0, 1, 2] rfl) h
abbrev rmX7_row : Room := { frames := 1, cells := 0, slots := 0, locals := 22 }
set_option maxHeartbeats 4000000 in
set_option maxRecDepth 100000 in
theorem kX7_row_24 {p : Program} {l : Launch} {e : Env} {s : State} {m : MethodId} {args : Array Value} {below : List Frame} {meth : Method} {c : Code} {z : KT} {A : Nat → Prop} {qS : Nat → Nat} {Q : Int32 → RT → Prop} (M : Mc p s m args meth c cX7_row 3 (some .int) RX7 z A) : ∀ (S : RT) (x1 : Int32) (x2 : Int32) (H : Heap) (locs : List Loc) (ls : Array Slot), Hw s z A (sW z qS S) H locs → lv_has ls 3 [(0, .ref (qS 0)), (1, .int x1), (2, .int x2)] → bX7_row_24 Q S x1 x2 → W p l e rmX7_row s m args below meth c H locs 0 0 (MQ below (va_Qi (fun (r : Int32) (u : RT) => Q r u) (fun u t => cAt z A ((fun u : RT => (sW z qS u)) u) t) A) args s 0 0 A) (F0 m 24 ls []) := by
  obtain ⟨hx, hb, -, -, hown, hts, -, -, -, hN, hsr, -⟩ := id M
  intro S x1 x2 H locs ls hw hl h
  unfold bX7_row_24 at h
  refine lv_iload_n hx hb dX7_row_24 rfl (lv_at hl 2 rfl) ?_
  refine lv_if_eq (tgt := 34) hx hb dX7_row_25 (by decide) (fun c_1 => ?_) (fun c_1 => ?_)
  · replace h := iT c_1 h
    refine lv_aload_n hx hb dX7_row_34 rfl (lv_at hl 0 rfl) ?_
    refine gt_f (v := .ref (qS 26)) M inlX7 hw 0 rfl rfl 25 (by decide) fl_X7_59 rfl rfl dX7_row_35 ?_
    refine lv_aload_n hx hb dX7_row_38 rfl (lv_at hl 0 rfl) ?_
    refine gt_f (v := .int (S 30 26)) M inlX7 hw 0 rfl rfl 26 (by decide) fl_X7_277 rfl rfl dX7_row_39 ?_
    refine lv_iload_n hx hb dX7_row_42 rfl (lv_at hl 1 rfl) ?_
    obtain ⟨a_2, h⟩ := h
    refine st_i (P := S) (r := 25) (wN := fun S_3 => (sW z qS S_3)) M hw 16 rfl rfl a_2 dX7_row_43 (fun S_3 H locs eS_3 hw => ?_)
    replace h := h S_3 eS_3
    refine lv_aload_n hx hb dX7_row_44 rfl (lv_at hl 0 rfl) ?_
    refine lv_dup hx hb dX7_row_45 rfl ?_
    refine gt_f (v := .int (S_3 30 26)) M inlX7 hw 0 rfl rfl 26 (by decide) fl_X7_277 rfl rfl dX7_row_46 ?_
    refine lv_iconst (v := 1) hx hb dX7_row_49 (by decide) ?_
    refine lv_iadd hx hb dX7_row_50 ?_
    refine st_f (P := S_3) (r := 30) (j := 26) (wN := fun S_4 => (sW z qS S_4)) M inlX7 tyX7_ok nmX7 hw 0 rfl rfl 26 (by decide) fl_X7_277 rfl rfl rfl rfl rfl (Nat.le_of_ble_eq_true rfl) rfl dX7_row_51 (fun S_4 H locs eS_4 hw => ?_)
    replace h := h S_4 eS_4
    refine lv_aload_n hx hb dX7_row_54 rfl (lv_at hl 0 rfl) ?_
    refine gt_f (v := .int (S_4 30 26)) M inlX7 hw 0 rfl rfl 26 (by decide) fl_X7_277 rfl rfl dX7_row_55 ?_
    exact rt_i M S_4 hw h dX7_row_58
  · replace h := iF c_1 h
    refine lv_aload_n hx hb dX7_row_28 rfl (lv_at hl 0 rfl) ?_
    refine lv_iload_n hx hb dX7_row_29 rfl (lv_at hl 2 rfl) ?_
    refine fr_Vi (wN := fun u : RT => (sW z qS u)) M (m_X7_no l z qS S x2 _ h) (cwV 1 hts (gdV cd_X7_no ml_X7_81 im_X7_no se_X7_no in_X7) rfl rfl rfl hdV_X7_no ⟨(Nat.le_of_ble_eq_true rfl), (Nat.le_of_ble_eq_true rfl)⟩) (Cut.self _) (Prm.self _ 17 (fun _ => rfl)) 0 rfl rfl rfl hw rfl hl.1 rfl (Nat.le_of_ble_eq_true rfl) dX7_row_30 (fun r_6 u_ H locs h hw => ?_)
    obtain ⟨S_5, rfl⟩ : ∃ z9 : RT, z9 = u_ := ⟨_, rfl⟩
    have hw : Hw s z A (sW z qS S_5) H locs := hw
    try dsimp only at h
    exact rt_i M S_5 hw h dX7_row_33
set_option maxHeartbeats 4000000 in
set_option maxRecDepth 100000 in
theorem m_X7_row (l : Launch) (z : KT) (qS : Nat → Nat) (S : RT) (x1 : Int32) (Q : Int32 → RT → Prop) (h : wX7_row S x1 Q) : CI l yX7_row cX7_row 3 .int rmX7_row z [.ref (qS 0), .int x1] (sW z qS S) (fun u : RT => (sW z qS u)) (fun (r : Int32) (u : RT) => Q r u) := by
  refine CI.of rfl (Nat.le_of_ble_eq_true rfl) ?_
  intro p e s m below meth c A ls M hw hl
  have M : Mc p s m _ meth c cX7_row 3 (some .int) RX7 z A := M
  obtain ⟨hx, hb, -, -, hown, hts, -, -, -, hN, hsr, -⟩ := id M
  have hl : lv_has ls 3 [(0, .ref (qS 0)), (1, .int x1)] := hl
  unfold wX7_row at h
  generalize s.heap = H at hw ⊢
  generalize ([] : List Loc) = locs at hw ⊢
  refine lv_iload_n hx hb dX7_row_0 rfl (lv_at hl 1 rfl) ?_
  refine lv_iconst (v := 0) hx hb dX7_row_1 (by decide) ?_
  refine lv_bipush (v := 99) hx hb dX7_row_2 (by decide) ?_
  refine fr_Si (wN := fun _ : Unit => (sW z qS S)) M (m_X7_bound l z x1 (0 : Int32) (99 : Int32) _ h) (va_cwS 3 hts (gdS cd_X7_bound ml_X7_74 st_X7_bound in_X7) rfl rfl rfl hdS_X7_bound ⟨(Nat.le_of_ble_eq_true rfl), (Nat.le_of_ble_eq_true rfl)⟩) (Cut.none _) (Prm.none _) hw rfl hl.1 rfl (Nat.le_of_ble_eq_true rfl) dX7_row_4 (fun r_1 u_ H locs h hw => ?_)
  have hw : Hw s z A (sW z qS S) H locs := hw
  try dsimp only at h
  refine lv_istore_n (lv' := [(2, .int r_1), (0, .ref (qS 0)), (1, .int x1)]) hx hb dX7_row_7 rfl hl (by decide) rfl (fun ls hl => ?_)
  refine lv_iload_n hx hb dX7_row_8 rfl (lv_at hl 0 rfl) ?_
  refine lv_if_ne (tgt := 24) hx hb dX7_row_9 (by decide) (fun c_2 => ?_) (fun c_2 => ?_)
  · replace h := iF c_2 h
    exact kX7_row_24 M S x1 r_1 H locs ls hw (lv_sub hl [1, 2, 0] rfl) h
  · replace h := iT c_2 h
    refine lv_aload_n hx hb dX7_row_12 rfl (lv_at hl 1 rfl) ?_
    refine gt_f (v := .int (S 30 26)) M inlX7 hw 0 rfl rfl 26 (by decide) fl_X7_277 rfl rfl dX7_row_13 ?_
    refine lv_bipush (v := 16) hx hb dX7_row_16 (by decide) ?_
    refine lv_icmp_ne (tgt := 24) hx hb dX7_row_18 (by decide) (fun c_3 => ?_) (fun c_3 => ?_)
    · replace h := iF c_3 h
      exact kX7_row_24 M S x1 r_1 H locs ls hw (lv_sub hl [1, 2, 0] rfl) h
    · replace h := iT c_3 h
      refine lv_bipush (v := -6) hx hb dX7_row_21 (by decide) ?_
      refine lv_istore_n (lv' := [(2, .int (-6 : Int32)), (0, .ref (qS 0)), (1, .int x1)]) hx hb dX7_row_23 rfl hl (by decide) rfl (fun ls hl => ?_)
      exact kX7_row_24 M S x1 (-6 : Int32) H locs ls hw (lv_sub hl [1, 2, 0] rfl) h
abbrev rmX7_judge : Room := { frames := 3, cells := 0, slots := 0, locals := 68 }
set_option maxHeartbeats 4000000 in
set_option maxRecDepth 100000 in
theorem kX7_judge_12 {p : Program} {l : Launch} {e : Env} {s : State} {m : MethodId} {args : Array Value} {below : List Frame} {meth : Method} {c : Code} {z : KT} {A : Nat → Prop} {qS : Nat → Nat} {Q : Int32 → RT → Prop} (M : Mc p s m args meth c cX7_judge 3 (some .int) RX7 z A) : ∀ (n : Nat) (S : RT) (x1 : Int32) (x2 : Int32) (H : Heap) (locs : List Loc) (ls : Array Slot), Hw s z A (sW z qS S) H locs → lv_has ls 3 [(0, .ref (qS 0)), (1, .int x1), (2, .int x2)] → bX7_judge_12 Q n S x1 x2 → W p l e rmX7_judge s m args below meth c H locs 0 0 (MQ below (va_Qi (fun (r : Int32) (u : RT) => Q r u) (fun u t => cAt z A ((fun u : RT => (sW z qS u)) u) t) A) args s 0 0 A) (F0 m 12 ls []) := by
  obtain ⟨hx, hb, -, -, hown, hts, -, -, -, hN, hsr, -⟩ := id M
  intro n
  induction n with
  | zero => intro S x1 x2 H locs ls hw hl h; exact False.elim h
  | succ n ih =>
    intro S x1 x2 H locs ls hw hl h
    rw [bX7_judge_12] at h
    refine lv_iload_n hx hb dX7_judge_12 rfl (lv_at hl 2 rfl) ?_
    refine lv_iload_n hx hb dX7_judge_13 rfl (lv_at hl 1 rfl) ?_
    refine lv_icmp_ge (tgt := 95) hx hb dX7_judge_14 (by decide) (fun c_1 => ?_) (fun c_1 => ?_)
    · replace h := iT c_1 h
      refine lv_bipush (v := -9) hx hb dX7_judge_95 (by decide) ?_
      exact rt_i M S hw h dX7_judge_97
    · replace h := iF c_1 h
      refine lv_iload_n hx hb dX7_judge_17 rfl (lv_at hl 2 rfl) ?_
      refine lv_iconst (v := 1) hx hb dX7_judge_18 (by decide) ?_
      refine lv_iadd hx hb dX7_judge_19 ?_
      refine lv_iload_n hx hb dX7_judge_20 rfl (lv_at hl 1 rfl) ?_
      refine lv_icmp_eq (tgt := 37) hx hb dX7_judge_21 (by decide) (fun c_2 => ?_) (fun c_2 => ?_)
      · replace h := iT c_2 h
        refine lv_iload_n hx hb dX7_judge_37 rfl (lv_at hl 2 rfl) ?_
        exact rt_i M S hw h dX7_judge_38
      · replace h := iF c_2 h
        refine lv_aload_n hx hb dX7_judge_24 rfl (lv_at hl 0 rfl) ?_
        refine lv_aload_n hx hb dX7_judge_25 rfl (lv_at hl 0 rfl) ?_
        refine gt_f (v := .ref (qS 26)) M inlX7 hw 0 rfl rfl 25 (by decide) fl_X7_59 rfl rfl dX7_judge_26 ?_
        refine lv_iload_n hx hb dX7_judge_29 rfl (lv_at hl 2 rfl) ?_
        obtain ⟨a_3, h⟩ := h
        refine ld_i M hw 16 rfl a_3 dX7_judge_30 ?_
        refine fr_Vi (wN := fun _ : Unit => (sW z qS S)) M (m_X7_isThing l z qS S (S 25 (x2).toNatClampNeg) _ h) (cwV 1 hts (gdV cd_X7_isThing ml_X7_70 im_X7_isThing se_X7_isThing in_X7) rfl rfl rfl hdV_X7_isThing ⟨(Nat.le_of_ble_eq_true rfl), (Nat.le_of_ble_eq_true rfl)⟩) (Cut.self _) (Prm.self _ 17 (fun _ => rfl)) 0 rfl rfl rfl hw rfl hl.1 rfl (Nat.le_of_ble_eq_true rfl) dX7_judge_31 (fun r_4 u_ H locs h hw => ?_)
        have hw : Hw s z A (sW z qS S) H locs := hw
        try dsimp only at h
        refine lv_if_ne (tgt := 39) hx hb dX7_judge_34 (by decide) (fun c_5 => ?_) (fun c_5 => ?_)
        · replace h := iF c_5 h
          refine lv_aload_n hx hb dX7_judge_39 rfl (lv_at hl 0 rfl) ?_
          refine lv_aload_n hx hb dX7_judge_40 rfl (lv_at hl 0 rfl) ?_
          refine gt_f (v := .ref (qS 26)) M inlX7 hw 0 rfl rfl 25 (by decide) fl_X7_59 rfl rfl dX7_judge_41 ?_
          refine lv_iload_n hx hb dX7_judge_44 rfl (lv_at hl 2 rfl) ?_
          refine ld_i M hw 16 rfl a_3 dX7_judge_45 ?_
          refine lv_aload_n hx hb dX7_judge_46 rfl (lv_at hl 0 rfl) ?_
          refine gt_f (v := .ref (qS 26)) M inlX7 hw 0 rfl rfl 25 (by decide) fl_X7_59 rfl rfl dX7_judge_47 ?_
          refine lv_iload_n hx hb dX7_judge_50 rfl (lv_at hl 2 rfl) ?_
          refine lv_iconst (v := 1) hx hb dX7_judge_51 (by decide) ?_
          refine lv_iadd hx hb dX7_judge_52 ?_
          obtain ⟨a_6, h⟩ := h
          refine ld_i M hw 16 rfl a_6 dX7_judge_53 ?_
          refine fr_Vi (wN := fun _ : Unit => (sW z qS S)) M (m_X7_areTwo l z qS S (S 25 (x2).toNatClampNeg) (S 25 ((x2 + (1 : Int32))).toNatClampNeg) _ h) (cwV 2 hts (gdV cd_X7_areTwo ml_X7_112 im_X7_areTwo se_X7_areTwo in_X7) rfl rfl rfl hdV_X7_areTwo ⟨(Nat.le_of_ble_eq_true rfl), (Nat.le_of_ble_eq_true rfl)⟩) (Cut.self _) (Prm.self _ 17 (fun _ => rfl)) 0 rfl rfl rfl hw rfl hl.1 rfl (Nat.le_of_ble_eq_true rfl) dX7_judge_54 (fun r_7 u_ H locs h hw => ?_)
          have hw : Hw s z A (sW z qS S) H locs := hw
          try dsimp only at h
          refine lv_if_eq (tgt := 85) hx hb dX7_judge_57 (by decide) (fun c_8 => ?_) (fun c_8 => ?_)
          · replace h := iT c_8 h
            refine lv_iload_n hx hb dX7_judge_85 rfl (lv_at hl 2 rfl) ?_
            refine lv_iconst (v := 1) hx hb dX7_judge_86 (by decide) ?_
            refine lv_iadd hx hb dX7_judge_87 ?_
            exact rt_i M S hw h dX7_judge_88
          · replace h := iF c_8 h
            refine lv_aload_n hx hb dX7_judge_60 rfl (lv_at hl 0 rfl) ?_
            refine lv_aload_n hx hb dX7_judge_61 rfl (lv_at hl 0 rfl) ?_
            refine gt_f (v := .ref (qS 26)) M inlX7 hw 0 rfl rfl 25 (by decide) fl_X7_59 rfl rfl dX7_judge_62 ?_
            refine lv_iload_n hx hb dX7_judge_65 rfl (lv_at hl 2 rfl) ?_
            refine ld_i M hw 16 rfl a_3 dX7_judge_66 ?_
            refine fr_Vi (wN := fun _ : Unit => (sW z qS S)) M (m_X7_heft l z qS S (S 25 (x2).toNatClampNeg) _ h) (cwV 1 hts (gdV cd_X7_heft ml_X7_176 im_X7_heft se_X7_heft in_X7) rfl rfl rfl hdV_X7_heft ⟨(Nat.le_of_ble_eq_true rfl), (Nat.le_of_ble_eq_true rfl)⟩) (Cut.self _) (Prm.self _ 17 (fun _ => rfl)) 0 rfl rfl rfl hw rfl hl.1 rfl (Nat.le_of_ble_eq_true rfl) dX7_judge_67 (fun r_9 u_ H locs h hw => ?_)
            have hw : Hw s z A (sW z qS S) H locs := hw
            try dsimp only at h
            refine lv_aload_n hx hb dX7_judge_70 rfl (lv_at hl 0 rfl) ?_
            refine lv_aload_n hx hb dX7_judge_71 rfl (lv_at hl 0 rfl) ?_
            refine gt_f (v := .ref (qS 26)) M inlX7 hw 0 rfl rfl 25 (by decide) fl_X7_59 rfl rfl dX7_judge_72 ?_
            refine lv_iload_n hx hb dX7_judge_75 rfl (lv_at hl 2 rfl) ?_
            refine lv_iconst (v := 1) hx hb dX7_judge_76 (by decide) ?_
            refine lv_iadd hx hb dX7_judge_77 ?_
            refine ld_i M hw 16 rfl a_6 dX7_judge_78 ?_
            refine fr_Vi (wN := fun _ : Unit => (sW z qS S)) M (m_X7_heft l z qS S (S 25 ((x2 + (1 : Int32))).toNatClampNeg) _ h) (cwV 1 hts (gdV cd_X7_heft ml_X7_176 im_X7_heft se_X7_heft in_X7) rfl rfl rfl hdV_X7_heft ⟨(Nat.le_of_ble_eq_true rfl), (Nat.le_of_ble_eq_true rfl)⟩) (Cut.self _) (Prm.self _ 17 (fun _ => rfl)) 0 rfl rfl rfl hw rfl hl.1 rfl (Nat.le_of_ble_eq_true rfl) dX7_judge_79 (fun r_10 u_ H locs h hw => ?_)
            have hw : Hw s z A (sW z qS S) H locs := hw
            try dsimp only at h
            refine lv_icmp_lt (tgt := 89) hx hb dX7_judge_82 (by decide) (fun c_11 => ?_) (fun c_11 => ?_)
            · replace h := iT c_11 h
              obtain ⟨x2_12, ex2_12⟩ : ∃ y : Int32, y = (x2 + (2 : Int32)) := ⟨_, rfl⟩
              replace h := h x2_12 ex2_12
              refine lv_iinc (v := x2_12) (lv' := [(2, .int x2_12), (0, .ref (qS 0)), (1, .int x1)]) hx hb dX7_judge_89 hl (k := 2) rfl (by rw [ex2_12]; rfl) (by decide) rfl (fun ls hl => ?_)
              refine lv_goto (tgt := 12) hx hb dX7_judge_92 (by decide) ?_
              exact ih S x1 x2_12 H locs ls hw (lv_sub hl [1, 2, 0] rfl) h
            · replace h := iF c_11 h
              refine lv_iload_n hx hb dX7_judge_85 rfl (lv_at hl 2 rfl) ?_
              refine lv_iconst (v := 1) hx hb dX7_judge_86 (by decide) ?_
              refine lv_iadd hx hb dX7_judge_87 ?_
              exact rt_i M S hw h dX7_judge_88
        · replace h := iT c_5 h
          refine lv_iload_n hx hb dX7_judge_37 rfl (lv_at hl 2 rfl) ?_
          exact rt_i M S hw h dX7_judge_38
set_option maxHeartbeats 4000000 in
set_option maxRecDepth 100000 in
theorem m_X7_judge (l : Launch) (z : KT) (qS : Nat → Nat) (S : RT) (Q : Int32 → RT → Prop) (h : wX7_judge S Q) : CI l yX7_judge cX7_judge 3 .int rmX7_judge z [.ref (qS 0)] (sW z qS S) (fun u : RT => (sW z qS u)) (fun (r : Int32) (u : RT) => Q r u) := by
  refine CI.of rfl (Nat.le_of_ble_eq_true rfl) ?_
  intro p e s m below meth c A ls M hw hl
  have M : Mc p s m _ meth c cX7_judge 3 (some .int) RX7 z A := M
  obtain ⟨hx, hb, -, -, hown, hts, -, -, -, hN, hsr, -⟩ := id M
  have hl : lv_has ls 3 [(0, .ref (qS 0))] := hl
  unfold wX7_judge at h
  generalize s.heap = H at hw ⊢
  generalize ([] : List Loc) = locs at hw ⊢
  refine lv_aload_n hx hb dX7_judge_0 rfl (lv_at hl 0 rfl) ?_
  refine gt_f (v := .int (S 30 26)) M inlX7 hw 0 rfl rfl 26 (by decide) fl_X7_277 rfl rfl dX7_judge_1 ?_
  refine lv_topi (fun x1_1 ex1_1 => ?_)
  replace h := h x1_1 ex1_1
  refine lv_istore_n (lv' := [(1, .int x1_1), (0, .ref (qS 0))]) hx hb dX7_judge_4 rfl hl (by decide) rfl (fun ls hl => ?_)
  refine lv_aload_n hx hb dX7_judge_5 rfl (lv_at hl 1 rfl) ?_
  refine lv_iconst (v := 0) hx hb dX7_judge_6 (by decide) ?_
  refine st_f (P := S) (r := 30) (j := 26) (wN := fun S_2 => (sW z qS S_2)) M inlX7 tyX7_ok nmX7 hw 0 rfl rfl 26 (by decide) fl_X7_277 rfl rfl rfl rfl rfl (Nat.le_of_ble_eq_true rfl) rfl dX7_judge_7 (fun S_2 H locs eS_2 hw => ?_)
  replace h := h S_2 eS_2
  refine lv_iconst (v := 0) hx hb dX7_judge_10 (by decide) ?_
  refine lv_istore_n (lv' := [(2, .int (0 : Int32)), (1, .int x1_1), (0, .ref (qS 0))]) hx hb dX7_judge_11 rfl hl (by decide) rfl (fun ls hl => ?_)
  obtain ⟨n0, h⟩ := h; exact kX7_judge_12 M n0 S_2 x1_1 (0 : Int32) H locs ls hw (lv_sub hl [2, 1, 0] rfl) h
abbrev rmX7_clear : Room := { frames := 0, cells := 0, slots := 0, locals := 0 }
set_option maxHeartbeats 4000000 in
set_option maxRecDepth 100000 in
theorem m_X7_clear (l : Launch) (z : KT) (qS : Nat → Nat) (S : RT) (Q : Int32 → RT → Prop) (h : wX7_clear S Q) : CI l yX7_clear cX7_clear 2 .int rmX7_clear z [.ref (qS 0)] (sW z qS S) (fun u : RT => (sW z qS u)) (fun (r : Int32) (u : RT) => Q r u) := by
  refine CI.of rfl (Nat.le_of_ble_eq_true rfl) ?_
  intro p e s m below meth c A ls M hw hl
  have M : Mc p s m _ meth c cX7_clear 2 (some .int) RX7 z A := M
  obtain ⟨hx, hb, -, -, hown, hts, -, -, -, hN, hsr, -⟩ := id M
  have hl : lv_has ls 2 [(0, .ref (qS 0))] := hl
  unfold wX7_clear at h
  generalize s.heap = H at hw ⊢
  generalize ([] : List Loc) = locs at hw ⊢
  refine lv_aload_n hx hb dX7_clear_0 rfl (lv_at hl 0 rfl) ?_
  refine gt_f (v := .int (S 30 26)) M inlX7 hw 0 rfl rfl 26 (by decide) fl_X7_277 rfl rfl dX7_clear_1 ?_
  refine lv_topi (fun x1_1 ex1_1 => ?_)
  replace h := h x1_1 ex1_1
  refine lv_istore_n (lv' := [(1, .int x1_1), (0, .ref (qS 0))]) hx hb dX7_clear_4 rfl hl (by decide) rfl (fun ls hl => ?_)
  refine lv_aload_n hx hb dX7_clear_5 rfl (lv_at hl 1 rfl) ?_
  refine lv_iconst (v := 0) hx hb dX7_clear_6 (by decide) ?_
  refine st_f (P := S) (r := 30) (j := 26) (wN := fun S_2 => (sW z qS S_2)) M inlX7 tyX7_ok nmX7 hw 0 rfl rfl 26 (by decide) fl_X7_277 rfl rfl rfl rfl rfl (Nat.le_of_ble_eq_true rfl) rfl dX7_clear_7 (fun S_2 H locs eS_2 hw => ?_)
  replace h := h S_2 eS_2
  refine lv_iload_n hx hb dX7_clear_10 rfl (lv_at hl 0 rfl) ?_
  exact rt_i M S_2 hw h dX7_clear_11
abbrev rmX7_lots : Room := { frames := 7, cells := 0, slots := 0, locals := 157 }
set_option maxHeartbeats 4000000 in
set_option maxRecDepth 100000 in
theorem kX7_lots_134 {p : Program} {l : Launch} {e : Env} {s : State} {m : MethodId} {args : Array Value} {below : List Frame} {meth : Method} {c : Code} {z : KT} {A : Nat → Prop} {qS : Nat → Nat} {K48 : RT → Int32 → Int32 → Int32 → Int32 → Int32 → Prop} {Q : Int32 → RT → Prop} (M : Mc p s m args meth c cX7_lots 9 (some .int) RX7 z A) (hK48 : ∀ (S : RT) (x1 : Int32) (x3 : Int32) (x5 : Int32) (x6 : Int32) (x7 : Int32) (H : Heap) (locs : List Loc) (ls : Array Slot), Hw s z A (sW z qS S) H locs → lv_has ls 9 [(0, .ref (qS 0)), (1, .int x1), (3, .int x3), (5, .int x5), (6, .int x6), (7, .int x7)] → K48 S x1 x3 x5 x6 x7 → W p l e rmX7_lots s m args below meth c H locs 0 0 (MQ below (va_Qi (fun (r : Int32) (u : RT) => Q r u) (fun u t => cAt z A ((fun u : RT => (sW z qS u)) u) t) A) args s 0 0 A) (F0 m 48 ls [])) : ∀ (S : RT) (x1 : Int32) (x3 : Int32) (x5 : Int32) (x7 : Int32) (t0 : Int32) (t1 : Int32) (H : Heap) (locs : List Loc) (ls : Array Slot), Hw s z A (sW z qS S) H locs → lv_has ls 9 [(0, .ref (qS 0)), (1, .int x1), (3, .int x3), (5, .int x5), (7, .int x7)] → bX7_lots_134 K48 Q S x1 x3 x5 x7 t0 t1 → W p l e rmX7_lots s m args below meth c H locs 0 0 (MQ below (va_Qi (fun (r : Int32) (u : RT) => Q r u) (fun u t => cAt z A ((fun u : RT => (sW z qS u)) u) t) A) args s 0 0 A) (F0 m 134 ls [.int t1, .int t0]) := by
  obtain ⟨hx, hb, -, -, hown, hts, -, -, -, hN, hsr, -⟩ := id M
  intro S x1 x3 x5 x7 t0 t1 H locs ls hw hl h
  unfold bX7_lots_134 at h
  refine lv_iadd hx hb dX7_lots_134 ?_
  refine lv_topi (fun x6_1 ex6_1 => ?_)
  replace h := h x6_1 ex6_1
  refine lv_istore (lv' := [(6, .int x6_1), (0, .ref (qS 0)), (1, .int x1), (3, .int x3), (5, .int x5), (7, .int x7)]) hx hb dX7_lots_135 hl (by decide) rfl (fun ls hl => ?_)
  refine lv_aload_n hx hb dX7_lots_137 rfl (lv_at hl 1 rfl) ?_
  refine fr_Vv (wN := fun u : RT => (sW z qS u)) M (m_X7_forgets l z qS S _ h) (cwV 0 hts (gdV cd_X7_forgets ml_X7_204 im_X7_forgets se_X7_forgets in_X7) rfl rfl rfl hdV_X7_forgets ⟨(Nat.le_of_ble_eq_true rfl), (Nat.le_of_ble_eq_true rfl)⟩) (Cut.self _) (Prm.self _ 17 (fun _ => rfl)) 0 rfl rfl rfl hw rfl hl.1 rfl (Nat.le_of_ble_eq_true rfl) dX7_lots_138 (fun u_ H locs h hw => ?_)
  obtain ⟨S_2, rfl⟩ : ∃ z9 : RT, z9 = u_ := ⟨_, rfl⟩
  have hw : Hw s z A (sW z qS S_2) H locs := hw
  try dsimp only at h
  obtain ⟨x7_3, ex7_3⟩ : ∃ y : Int32, y = (x7 + (1 : Int32)) := ⟨_, rfl⟩
  replace h := h x7_3 ex7_3
  refine lv_iinc (v := x7_3) (lv' := [(7, .int x7_3), (6, .int x6_1), (0, .ref (qS 0)), (1, .int x1), (3, .int x3), (5, .int x5)]) hx hb dX7_lots_141 hl (k := 5) rfl (by rw [ex7_3]; rfl) (by decide) rfl (fun ls hl => ?_)
  refine lv_goto (tgt := 48) hx hb dX7_lots_144 (by decide) ?_
  exact hK48 S_2 x1 x3 x5 x6_1 x7_3 H locs ls hw (lv_sub hl [2, 3, 4, 5, 1, 0] rfl) h
set_option maxHeartbeats 4000000 in
set_option maxRecDepth 100000 in
theorem kX7_lots_61 {p : Program} {l : Launch} {e : Env} {s : State} {m : MethodId} {args : Array Value} {below : List Frame} {meth : Method} {c : Code} {z : KT} {A : Nat → Prop} {qS : Nat → Nat} {K48 : RT → Int32 → Int32 → Int32 → Int32 → Int32 → Prop} {Q : Int32 → RT → Prop} (M : Mc p s m args meth c cX7_lots 9 (some .int) RX7 z A) (hK48 : ∀ (S : RT) (x1 : Int32) (x3 : Int32) (x5 : Int32) (x6 : Int32) (x7 : Int32) (H : Heap) (locs : List Loc) (ls : Array Slot), Hw s z A (sW z qS S) H locs → lv_has ls 9 [(0, .ref (qS 0)), (1, .int x1), (3, .int x3), (5, .int x5), (6, .int x6), (7, .int x7)] → K48 S x1 x3 x5 x6 x7 → W p l e rmX7_lots s m args below meth c H locs 0 0 (MQ below (va_Qi (fun (r : Int32) (u : RT) => Q r u) (fun u t => cAt z A ((fun u : RT => (sW z qS u)) u) t) A) args s 0 0 A) (F0 m 48 ls [])) : ∀ (n : Nat) (S : RT) (x1 : Int32) (x3 : Int32) (x5 : Int32) (x6 : Int32) (x7 : Int32) (x8 : Int32) (H : Heap) (locs : List Loc) (ls : Array Slot), Hw s z A (sW z qS S) H locs → lv_has ls 9 [(0, .ref (qS 0)), (1, .int x1), (3, .int x3), (5, .int x5), (6, .int x6), (7, .int x7), (8, .int x8)] → bX7_lots_61 K48 Q n S x1 x3 x5 x6 x7 x8 → W p l e rmX7_lots s m args below meth c H locs 0 0 (MQ below (va_Qi (fun (r : Int32) (u : RT) => Q r u) (fun u t => cAt z A ((fun u : RT => (sW z qS u)) u) t) A) args s 0 0 A) (F0 m 61 ls []) := by
  obtain ⟨hx, hb, -, -, hown, hts, -, -, -, hN, hsr, -⟩ := id M
  intro n
  induction n with
  | zero => intro S x1 x3 x5 x6 x7 x8 H locs ls hw hl h; exact False.elim h
  | succ n ih =>
    intro S x1 x3 x5 x6 x7 x8 H locs ls hw hl h
    rw [bX7_lots_61] at h
    refine lv_iload hx hb dX7_lots_61 (lv_at hl 6 rfl) ?_
    refine lv_aload_n hx hb dX7_lots_63 rfl (lv_at hl 0 rfl) ?_
    refine gt_f (v := .int (S 30 8)) M inlX7 hw 0 rfl rfl 8 (by decide) fl_X7_62 rfl rfl dX7_lots_64 ?_
    refine lv_icmp_ge (tgt := 108) hx hb dX7_lots_67 (by decide) (fun c_1 => ?_) (fun c_1 => ?_)
    · replace h := iT c_1 h
      refine lv_aload_n hx hb dX7_lots_108 rfl (lv_at hl 0 rfl) ?_
      refine lv_bipush (v := 10) hx hb dX7_lots_109 (by decide) ?_
      refine fr_Vv (wN := fun u : RT => (sW z qS u)) M (m_X7_goes l z qS S (10 : Int32) _ h) (cwV 1 hts (gdV cd_X7_goes ml_X7_122 im_X7_goes se_X7_goes in_X7) rfl rfl rfl hdV_X7_goes ⟨(Nat.le_of_ble_eq_true rfl), (Nat.le_of_ble_eq_true rfl)⟩) (Cut.self _) (Prm.self _ 17 (fun _ => rfl)) 0 rfl rfl rfl hw rfl hl.1 rfl (Nat.le_of_ble_eq_true rfl) dX7_lots_111 (fun u_ H locs h hw => ?_)
      obtain ⟨S_2, rfl⟩ : ∃ z9 : RT, z9 = u_ := ⟨_, rfl⟩
      have hw : Hw s z A (sW z qS S_2) H locs := hw
      try dsimp only at h
      refine lv_iload hx hb dX7_lots_114 (lv_at hl 4 rfl) ?_
      refine lv_iload_n hx hb dX7_lots_116 rfl (lv_at hl 2 rfl) ?_
      refine lv_if_ne (tgt := 127) hx hb dX7_lots_117 (by decide) (fun c_3 => ?_) (fun c_3 => ?_)
      · replace h := iF c_3 h
        refine lv_aload_n hx hb dX7_lots_127 rfl (lv_at hl 0 rfl) ?_
        refine fr_Vi (wN := fun _ : Unit => (sW z qS S_2)) M (m_X7_odd l z qS S_2 _ h) (cwV 0 hts (gdV cd_X7_odd ml_X7_292 im_X7_odd se_X7_odd in_X7) rfl rfl rfl hdV_X7_odd ⟨(Nat.le_of_ble_eq_true rfl), (Nat.le_of_ble_eq_true rfl)⟩) (Cut.self _) (Prm.self _ 17 (fun _ => rfl)) 0 rfl rfl rfl hw rfl hl.1 rfl (Nat.le_of_ble_eq_true rfl) dX7_lots_128 (fun r_4 u_ H locs h hw => ?_)
        have hw : Hw s z A (sW z qS S_2) H locs := hw
        try dsimp only at h
        refine fr_Si (wN := fun _ : Unit => (sW z qS S_2)) M (m_X7_bits l z r_4 _ h) (va_cwS 1 hts (gdS cd_X7_bits ml_X7_246 st_X7_bits in_X7) rfl rfl rfl hdS_X7_bits ⟨(Nat.le_of_ble_eq_true rfl), (Nat.le_of_ble_eq_true rfl)⟩) (Cut.none _) (Prm.none _) hw rfl hl.1 rfl (Nat.le_of_ble_eq_true rfl) dX7_lots_131 (fun r_5 u_ H locs h hw => ?_)
        have hw : Hw s z A (sW z qS S_2) H locs := hw
        try dsimp only at h
        exact kX7_lots_134 M hK48 S_2 x1 x3 x5 x7 x6 r_5 H locs ls hw (lv_sub hl [0, 1, 2, 3, 5] rfl) h
      · replace h := iT c_3 h
        refine lv_aload_n hx hb dX7_lots_120 rfl (lv_at hl 0 rfl) ?_
        refine fr_Vi (wN := fun _ : Unit => (sW z qS S_2)) M (m_X7_allHigh l z qS S_2 _ h) (cwV 0 hts (gdV cd_X7_allHigh ml_X7_195 im_X7_allHigh se_X7_allHigh in_X7) rfl rfl rfl hdV_X7_allHigh ⟨(Nat.le_of_ble_eq_true rfl), (Nat.le_of_ble_eq_true rfl)⟩) (Cut.self _) (Prm.self _ 17 (fun _ => rfl)) 0 rfl rfl rfl hw rfl hl.1 rfl (Nat.le_of_ble_eq_true rfl) dX7_lots_121 (fun r_6 u_ H locs h hw => ?_)
        have hw : Hw s z A (sW z qS S_2) H locs := hw
        try dsimp only at h
        refine lv_goto (tgt := 134) hx hb dX7_lots_124 (by decide) ?_
        exact kX7_lots_134 M hK48 S_2 x1 x3 x5 x7 x6 r_6 H locs ls hw (lv_sub hl [0, 1, 2, 3, 5] rfl) h
    · replace h := iF c_1 h
      refine lv_iload hx hb dX7_lots_70 (lv_at hl 3 rfl) ?_
      refine lv_ldcw hx hb hown (hts _ cn_X7_289) dX7_lots_72 ?_
      refine lv_imul hx hb dX7_lots_75 ?_
      refine lv_ldcw hx hb hown (hts _ cn_X7_290) dX7_lots_76 ?_
      refine lv_iadd hx hb dX7_lots_79 ?_
      refine lv_topi (fun x5_7 ex5_7 => ?_)
      replace h := h x5_7 ex5_7
      refine lv_istore (lv' := [(5, .int x5_7), (0, .ref (qS 0)), (1, .int x1), (3, .int x3), (6, .int x6), (7, .int x7), (8, .int x8)]) hx hb dX7_lots_80 hl (by decide) rfl (fun ls hl => ?_)
      refine lv_aload_n hx hb dX7_lots_82 rfl (lv_at hl 1 rfl) ?_
      refine gt_f (v := .ref (qS 5)) M inlX7 hw 0 rfl rfl 4 (by decide) fl_X7_22 rfl rfl dX7_lots_83 ?_
      refine lv_iload hx hb dX7_lots_86 (lv_at hl 6 rfl) ?_
      refine lv_iload hx hb dX7_lots_88 (lv_at hl 0 rfl) ?_
      refine lv_ldcw hx hb hown (hts _ cn_X7_291) dX7_lots_90 ?_
      refine lv_iand hx hb dX7_lots_93 ?_
      refine lv_sipush (v := 256) hx hb dX7_lots_94 (by decide) ?_
      refine lv_idiv hx hb dX7_lots_97 (by decide) ?_
      refine lv_bipush (v := 10) hx hb dX7_lots_98 (by decide) ?_
      refine lv_irem hx hb dX7_lots_100 (by decide) ?_
      obtain ⟨a_8, h⟩ := h
      refine st_i (P := S) (r := 4) (wN := fun S_9 => (sW z qS S_9)) M hw 5 rfl rfl a_8 dX7_lots_101 (fun S_9 H locs eS_9 hw => ?_)
      replace h := h S_9 eS_9
      obtain ⟨x8_10, ex8_10⟩ : ∃ y : Int32, y = (x8 + (1 : Int32)) := ⟨_, rfl⟩
      replace h := h x8_10 ex8_10
      refine lv_iinc (v := x8_10) (lv' := [(8, .int x8_10), (5, .int x5_7), (0, .ref (qS 0)), (1, .int x1), (3, .int x3), (6, .int x6), (7, .int x7)]) hx hb dX7_lots_102 hl (k := 6) rfl (by rw [ex8_10]; rfl) (by decide) rfl (fun ls hl => ?_)
      refine lv_goto (tgt := 61) hx hb dX7_lots_105 (by decide) ?_
      exact ih S_9 x1 x3 x5_7 x6 x7 x8_10 H locs ls hw (lv_sub hl [2, 3, 4, 1, 5, 6, 0] rfl) h
set_option maxHeartbeats 4000000 in
set_option maxRecDepth 100000 in
theorem kX7_lots_48 {p : Program} {l : Launch} {e : Env} {s : State} {m : MethodId} {args : Array Value} {below : List Frame} {meth : Method} {c : Code} {z : KT} {A : Nat → Prop} {qS : Nat → Nat} {Q : Int32 → RT → Prop} (M : Mc p s m args meth c cX7_lots 9 (some .int) RX7 z A) : ∀ (n : Nat) (S : RT) (x1 : Int32) (x3 : Int32) (x5 : Int32) (x6 : Int32) (x7 : Int32) (H : Heap) (locs : List Loc) (ls : Array Slot), Hw s z A (sW z qS S) H locs → lv_has ls 9 [(0, .ref (qS 0)), (1, .int x1), (3, .int x3), (5, .int x5), (6, .int x6), (7, .int x7)] → bX7_lots_48 Q n S x1 x3 x5 x6 x7 → W p l e rmX7_lots s m args below meth c H locs 0 0 (MQ below (va_Qi (fun (r : Int32) (u : RT) => Q r u) (fun u t => cAt z A ((fun u : RT => (sW z qS u)) u) t) A) args s 0 0 A) (F0 m 48 ls []) := by
  obtain ⟨hx, hb, -, -, hown, hts, -, -, -, hN, hsr, -⟩ := id M
  intro n
  induction n with
  | zero => intro S x1 x3 x5 x6 x7 H locs ls hw hl h; exact False.elim h
  | succ n ih =>
    intro S x1 x3 x5 x6 x7 H locs ls hw hl h
    rw [bX7_lots_48] at h
    refine lv_iload hx hb dX7_lots_48 (lv_at hl 5 rfl) ?_
    refine lv_iload_n hx hb dX7_lots_50 rfl (lv_at hl 1 rfl) ?_
    refine lv_icmp_ge (tgt := 147) hx hb dX7_lots_51 (by decide) (fun c_1 => ?_) (fun c_1 => ?_)
    · replace h := iT c_1 h
      refine lv_iload hx hb dX7_lots_147 (lv_at hl 4 rfl) ?_
      exact rt_i M S hw h dX7_lots_149
    · replace h := iF c_1 h
      refine lv_aload_n hx hb dX7_lots_54 rfl (lv_at hl 0 rfl) ?_
      refine fr_Vv (wN := fun u : RT => (sW z qS u)) M (m_X7_thinks l z qS S _ h) (cwV 0 hts (gdV cd_X7_thinks ml_X7_201 im_X7_thinks se_X7_thinks in_X7) rfl rfl rfl hdV_X7_thinks ⟨(Nat.le_of_ble_eq_true rfl), (Nat.le_of_ble_eq_true rfl)⟩) (Cut.self _) (Prm.self _ 17 (fun _ => rfl)) 0 rfl rfl rfl hw rfl hl.1 rfl (Nat.le_of_ble_eq_true rfl) dX7_lots_55 (fun u_ H locs h hw => ?_)
      obtain ⟨S_2, rfl⟩ : ∃ z9 : RT, z9 = u_ := ⟨_, rfl⟩
      have hw : Hw s z A (sW z qS S_2) H locs := hw
      try dsimp only at h
      refine lv_iconst (v := 0) hx hb dX7_lots_58 (by decide) ?_
      refine lv_istore (lv' := [(8, .int (0 : Int32)), (0, .ref (qS 0)), (1, .int x1), (3, .int x3), (5, .int x5), (6, .int x6), (7, .int x7)]) hx hb dX7_lots_59 hl (by decide) rfl (fun ls hl => ?_)
      obtain ⟨n0, h⟩ := h; exact kX7_lots_61 M ih n0 S_2 x1 x3 x5 x6 x7 (0 : Int32) H locs ls hw (lv_sub hl [1, 2, 3, 4, 5, 6, 0] rfl) h
set_option maxHeartbeats 4000000 in
set_option maxRecDepth 100000 in
theorem kX7_lots_27 {p : Program} {l : Launch} {e : Env} {s : State} {m : MethodId} {args : Array Value} {below : List Frame} {meth : Method} {c : Code} {z : KT} {A : Nat → Prop} {qS : Nat → Nat} {Q : Int32 → RT → Prop} (M : Mc p s m args meth c cX7_lots 9 (some .int) RX7 z A) : ∀ (S : RT) (x1 : Int32) (x2 : Int32) (x3 : Int32) (x4 : Int32) (H : Heap) (locs : List Loc) (ls : Array Slot), Hw s z A (sW z qS S) H locs → lv_has ls 9 [(0, .ref (qS 0)), (1, .int x1), (2, .int x2), (3, .int x3), (4, .int x4)] → bX7_lots_27 Q S x1 x2 x3 x4 → W p l e rmX7_lots s m args below meth c H locs 0 0 (MQ below (va_Qi (fun (r : Int32) (u : RT) => Q r u) (fun u t => cAt z A ((fun u : RT => (sW z qS u)) u) t) A) args s 0 0 A) (F0 m 27 ls []) := by
  obtain ⟨hx, hb, -, -, hown, hts, -, -, -, hN, hsr, -⟩ := id M
  intro S x1 x2 x3 x4 H locs ls hw hl h
  unfold bX7_lots_27 at h
  refine lv_iload hx hb dX7_lots_27 (lv_at hl 4 rfl) ?_
  refine lv_if_eq (tgt := 39) hx hb dX7_lots_29 (by decide) (fun c_1 => ?_) (fun c_1 => ?_)
  · replace h := iT c_1 h
    refine lv_iload_n hx hb dX7_lots_39 rfl (lv_at hl 2 rfl) ?_
    refine lv_istore (lv' := [(5, .int x2), (0, .ref (qS 0)), (1, .int x1), (2, .int x2), (3, .int x3), (4, .int x4)]) hx hb dX7_lots_40 hl (by decide) rfl (fun ls hl => ?_)
    refine lv_iconst (v := 0) hx hb dX7_lots_42 (by decide) ?_
    refine lv_istore (lv' := [(6, .int (0 : Int32)), (5, .int x2), (0, .ref (qS 0)), (1, .int x1), (2, .int x2), (3, .int x3), (4, .int x4)]) hx hb dX7_lots_43 hl (by decide) rfl (fun ls hl => ?_)
    refine lv_iconst (v := 0) hx hb dX7_lots_45 (by decide) ?_
    refine lv_istore (lv' := [(7, .int (0 : Int32)), (6, .int (0 : Int32)), (5, .int x2), (0, .ref (qS 0)), (1, .int x1), (2, .int x2), (3, .int x3), (4, .int x4)]) hx hb dX7_lots_46 hl (by decide) rfl (fun ls hl => ?_)
    obtain ⟨n0, h⟩ := h; exact kX7_lots_48 M n0 S x1 x3 x2 (0 : Int32) (0 : Int32) H locs ls hw (lv_sub hl [3, 4, 6, 2, 1, 0] rfl) h
  · replace h := iF c_1 h
    refine lv_aload_n hx hb dX7_lots_32 rfl (lv_at hl 0 rfl) ?_
    refine lv_iload hx hb dX7_lots_33 (lv_at hl 4 rfl) ?_
    refine fr_Vi (wN := fun u : RT => (sW z qS u)) M (m_X7_no l z qS S x4 _ h) (cwV 1 hts (gdV cd_X7_no ml_X7_81 im_X7_no se_X7_no in_X7) rfl rfl rfl hdV_X7_no ⟨(Nat.le_of_ble_eq_true rfl), (Nat.le_of_ble_eq_true rfl)⟩) (Cut.self _) (Prm.self _ 17 (fun _ => rfl)) 0 rfl rfl rfl hw rfl hl.1 rfl (Nat.le_of_ble_eq_true rfl) dX7_lots_35 (fun r_3 u_ H locs h hw => ?_)
    obtain ⟨S_2, rfl⟩ : ∃ z9 : RT, z9 = u_ := ⟨_, rfl⟩
    have hw : Hw s z A (sW z qS S_2) H locs := hw
    try dsimp only at h
    exact rt_i M S_2 hw h dX7_lots_38
set_option maxHeartbeats 4000000 in
set_option maxRecDepth 100000 in
theorem m_X7_lots (l : Launch) (z : KT) (qS : Nat → Nat) (S : RT) (x1 : Int32) (x2 : Int32) (x3 : Int32) (Q : Int32 → RT → Prop) (h : wX7_lots S x1 x2 x3 Q) : CI l yX7_lots cX7_lots 9 .int rmX7_lots z [.ref (qS 0), .int x1, .int x2, .int x3] (sW z qS S) (fun u : RT => (sW z qS u)) (fun (r : Int32) (u : RT) => Q r u) := by
  refine CI.of rfl (Nat.le_of_ble_eq_true rfl) ?_
  intro p e s m below meth c A ls M hw hl
  have M : Mc p s m _ meth c cX7_lots 9 (some .int) RX7 z A := M
  obtain ⟨hx, hb, -, -, hown, hts, -, -, -, hN, hsr, -⟩ := id M
  have hl : lv_has ls 9 [(0, .ref (qS 0)), (1, .int x1), (2, .int x2), (3, .int x3)] := hl
  unfold wX7_lots at h
  generalize s.heap = H at hw ⊢
  generalize ([] : List Loc) = locs at hw ⊢
  refine lv_iload_n hx hb dX7_lots_0 rfl (lv_at hl 1 rfl) ?_
  refine lv_iconst (v := 1) hx hb dX7_lots_1 (by decide) ?_
  refine lv_bipush (v := 20) hx hb dX7_lots_2 (by decide) ?_
  refine fr_Si (wN := fun _ : Unit => (sW z qS S)) M (m_X7_bound l z x1 (1 : Int32) (20 : Int32) _ h) (va_cwS 3 hts (gdS cd_X7_bound ml_X7_74 st_X7_bound in_X7) rfl rfl rfl hdS_X7_bound ⟨(Nat.le_of_ble_eq_true rfl), (Nat.le_of_ble_eq_true rfl)⟩) (Cut.none _) (Prm.none _) hw rfl hl.1 rfl (Nat.le_of_ble_eq_true rfl) dX7_lots_4 (fun r_1 u_ H locs h hw => ?_)
  have hw : Hw s z A (sW z qS S) H locs := hw
  try dsimp only at h
  refine lv_istore (lv' := [(4, .int r_1), (0, .ref (qS 0)), (1, .int x1), (2, .int x2), (3, .int x3)]) hx hb dX7_lots_7 hl (by decide) rfl (fun ls hl => ?_)
  refine lv_iload hx hb dX7_lots_9 (lv_at hl 0 rfl) ?_
  refine lv_if_ne (tgt := 27) hx hb dX7_lots_11 (by decide) (fun c_2 => ?_) (fun c_2 => ?_)
  · replace h := iF c_2 h
    exact kX7_lots_27 M S x1 x2 x3 r_1 H locs ls hw (lv_sub hl [1, 2, 3, 4, 0] rfl) h
  · replace h := iT c_2 h
    refine lv_iload_n hx hb dX7_lots_14 rfl (lv_at hl 4 rfl) ?_
    refine lv_iconst (v := 0) hx hb dX7_lots_15 (by decide) ?_
    refine lv_iconst (v := 1) hx hb dX7_lots_16 (by decide) ?_
    refine fr_Si (wN := fun _ : Unit => (sW z qS S)) M (m_X7_isIn l z x3 (0 : Int32) (1 : Int32) _ h) (va_cwS 3 hts (gdS cd_X7_isIn ml_X7_92 st_X7_isIn in_X7) rfl rfl rfl hdS_X7_isIn ⟨(Nat.le_of_ble_eq_true rfl), (Nat.le_of_ble_eq_true rfl)⟩) (Cut.none _) (Prm.none _) hw rfl hl.1 rfl (Nat.le_of_ble_eq_true rfl) dX7_lots_17 (fun r_3 u_ H locs h hw => ?_)
    have hw : Hw s z A (sW z qS S) H locs := hw
    try dsimp only at h
    refine lv_if_ne (tgt := 27) hx hb dX7_lots_20 (by decide) (fun c_4 => ?_) (fun c_4 => ?_)
    · replace h := iF c_4 h
      exact kX7_lots_27 M S x1 x2 x3 r_1 H locs ls hw (lv_sub hl [1, 2, 3, 4, 0] rfl) h
    · replace h := iT c_4 h
      refine lv_bipush (v := -2) hx hb dX7_lots_23 (by decide) ?_
      refine lv_istore (lv' := [(4, .int (-2 : Int32)), (0, .ref (qS 0)), (1, .int x1), (2, .int x2), (3, .int x3)]) hx hb dX7_lots_25 hl (by decide) rfl (fun ls hl => ?_)
      exact kX7_lots_27 M S x1 x2 x3 (-2 : Int32) H locs ls hw (lv_sub hl [1, 2, 3, 4, 0] rfl) h
abbrev rmX7_count : Room := { frames := 4, cells := 0, slots := 0, locals := 91 }
set_option maxHeartbeats 4000000 in
set_option maxRecDepth 100000 in
theorem kX7_count_94 {p : Program} {l : Launch} {e : Env} {s : State} {m : MethodId} {args : Array Value} {below : List Frame} {meth : Method} {c : Code} {z : KT} {A : Nat → Prop} {qS : Nat → Nat} {S : RT} {Q : Int32 → Prop} (M : Mc p s m args meth c cX7_count 4 (some .int) RX7 z A) : ∀ (n : Nat) (x2 : Int32) (x3 : Int32) (H : Heap) (locs : List Loc) (ls : Array Slot), Hw s z A (sW z qS S) H locs → lv_has ls 4 [(0, .ref (qS 0)), (2, .int x2), (3, .int x3)] → bX7_count_94 S Q n x2 x3 → W p l e rmX7_count s m args below meth c H locs 0 0 (MQ below (va_Qi (fun (r : Int32) (_ : Unit) => Q r) (fun u t => cAt z A ((fun _ : Unit => (sW z qS S)) u) t) A) args s 0 0 A) (F0 m 94 ls []) := by
  obtain ⟨hx, hb, -, -, hown, hts, -, -, -, hN, hsr, -⟩ := id M
  intro n
  induction n with
  | zero => intro x2 x3 H locs ls hw hl h; exact False.elim h
  | succ n ih =>
    intro x2 x3 H locs ls hw hl h
    rw [bX7_count_94] at h
    refine lv_iload_n hx hb dX7_count_94 rfl (lv_at hl 2 rfl) ?_
    refine lv_aload_n hx hb dX7_count_95 rfl (lv_at hl 0 rfl) ?_
    refine gt_f (v := .int (S 30 8)) M inlX7 hw 0 rfl rfl 8 (by decide) fl_X7_62 rfl rfl dX7_count_96 ?_
    refine lv_icmp_ge (tgt := 117) hx hb dX7_count_99 (by decide) (fun c_1 => ?_) (fun c_1 => ?_)
    · replace h := iT c_1 h
      refine lv_iload_n hx hb dX7_count_117 rfl (lv_at hl 1 rfl) ?_
      exact rt_i M () hw h dX7_count_118
    · replace h := iF c_1 h
      refine lv_iload_n hx hb dX7_count_102 rfl (lv_at hl 1 rfl) ?_
      refine lv_aload_n hx hb dX7_count_103 rfl (lv_at hl 0 rfl) ?_
      refine gt_f (v := .ref (qS 5)) M inlX7 hw 0 rfl rfl 4 (by decide) fl_X7_22 rfl rfl dX7_count_104 ?_
      refine lv_iload_n hx hb dX7_count_107 rfl (lv_at hl 2 rfl) ?_
      obtain ⟨a_2, h⟩ := h
      refine ld_i M hw 5 rfl a_2 dX7_count_108 ?_
      refine lv_iadd hx hb dX7_count_109 ?_
      refine lv_topi (fun x2_3 ex2_3 => ?_)
      replace h := h x2_3 ex2_3
      refine lv_istore_n (lv' := [(2, .int x2_3), (0, .ref (qS 0)), (3, .int x3)]) hx hb dX7_count_110 rfl hl (by decide) rfl (fun ls hl => ?_)
      obtain ⟨x3_4, ex3_4⟩ : ∃ y : Int32, y = (x3 + (1 : Int32)) := ⟨_, rfl⟩
      replace h := h x3_4 ex3_4
      refine lv_iinc (v := x3_4) (lv' := [(3, .int x3_4), (2, .int x2_3), (0, .ref (qS 0))]) hx hb dX7_count_111 hl (k := 2) rfl (by rw [ex3_4]; rfl) (by decide) rfl (fun ls hl => ?_)
      refine lv_goto (tgt := 94) hx hb dX7_count_114 (by decide) ?_
      exact ih x2_3 x3_4 H locs ls hw (lv_sub hl [2, 1, 0] rfl) h
set_option maxHeartbeats 4000000 in
set_option maxRecDepth 100000 in
theorem m_X7_count (l : Launch) (z : KT) (qS : Nat → Nat) (S : RT) (x1 : Int32) (Q : Int32 → Prop) (h : wX7_count S x1 Q) : CI l yX7_count cX7_count 4 .int rmX7_count z [.ref (qS 0), .int x1] (sW z qS S) (fun _ : Unit => (sW z qS S)) (fun (r : Int32) (_ : Unit) => Q r) := by
  refine CI.of rfl (Nat.le_of_ble_eq_true rfl) ?_
  intro p e s m below meth c A ls M hw hl
  have M : Mc p s m _ meth c cX7_count 4 (some .int) RX7 z A := M
  obtain ⟨hx, hb, -, -, hown, hts, -, -, -, hN, hsr, -⟩ := id M
  have hl : lv_has ls 4 [(0, .ref (qS 0)), (1, .int x1)] := hl
  unfold wX7_count at h
  generalize s.heap = H at hw ⊢
  generalize ([] : List Loc) = locs at hw ⊢
  refine lv_iload_n hx hb dX7_count_0 rfl (lv_at hl 1 rfl) ?_
  refine lv_bipush (v := 11) hx hb dX7_count_1 (by decide) ?_
  refine lv_bipush (v := 16) hx hb dX7_count_3 (by decide) ?_
  refine fr_Si (wN := fun _ : Unit => (sW z qS S)) M (m_X7_isIn l z x1 (11 : Int32) (16 : Int32) _ h) (va_cwS 3 hts (gdS cd_X7_isIn ml_X7_92 st_X7_isIn in_X7) rfl rfl rfl hdS_X7_isIn ⟨(Nat.le_of_ble_eq_true rfl), (Nat.le_of_ble_eq_true rfl)⟩) (Cut.none _) (Prm.none _) hw rfl hl.1 rfl (Nat.le_of_ble_eq_true rfl) dX7_count_5 (fun r_1 u_ H locs h hw => ?_)
  have hw : Hw s z A (sW z qS S) H locs := hw
  try dsimp only at h
  refine lv_if_eq (tgt := 21) hx hb dX7_count_8 (by decide) (fun c_2 => ?_) (fun c_2 => ?_)
  · replace h := iT c_2 h
    refine lv_iconst (v := 0) hx hb dX7_count_21 (by decide) ?_
    refine lv_istore_n (lv' := [(2, .int (0 : Int32)), (0, .ref (qS 0)), (1, .int x1)]) hx hb dX7_count_22 rfl hl (by decide) rfl (fun ls hl => ?_)
    refine lv_iload_n hx hb dX7_count_23 rfl (lv_at hl 2 rfl) ?_
    by_cases c_4 : x1 = (0 : Int32)
    · replace h := iT c_4 h
      refine lv_tableIn (tgt := 72) hx hb dX7_count_24 (by rw [c_4]; decide) (by rw [c_4]; decide) (by rw [c_4]; rfl) (by decide) ?_
      refine lv_aload_n hx hb dX7_count_72 rfl (lv_at hl 1 rfl) ?_
      refine gt_f (v := .int (S 30 8)) M inlX7 hw 0 rfl rfl 8 (by decide) fl_X7_62 rfl rfl dX7_count_73 ?_
      exact rt_i M () hw h dX7_count_76
    replace h := iF c_4 h
    by_cases c_5 : x1 = (1 : Int32)
    · replace h := iT c_5 h
      refine lv_tableIn (tgt := 77) hx hb dX7_count_24 (by rw [c_5]; decide) (by rw [c_5]; decide) (by rw [c_5]; rfl) (by decide) ?_
      refine lv_aload_n hx hb dX7_count_77 rfl (lv_at hl 1 rfl) ?_
      refine gt_f (v := .int (S 30 9)) M inlX7 hw 0 rfl rfl 9 (by decide) fl_X7_67 rfl rfl dX7_count_78 ?_
      exact rt_i M () hw h dX7_count_81
    replace h := iF c_5 h
    by_cases c_6 : x1 = (2 : Int32)
    · replace h := iT c_6 h
      refine lv_tableIn (tgt := 82) hx hb dX7_count_24 (by rw [c_6]; decide) (by rw [c_6]; decide) (by rw [c_6]; rfl) (by decide) ?_
      refine lv_aload_n hx hb dX7_count_82 rfl (lv_at hl 1 rfl) ?_
      refine gt_f (v := .int (S 30 10)) M inlX7 hw 0 rfl rfl 10 (by decide) fl_X7_119 rfl rfl dX7_count_83 ?_
      exact rt_i M () hw h dX7_count_86
    replace h := iF c_6 h
    by_cases c_7 : x1 = (3 : Int32)
    · replace h := iT c_7 h
      refine lv_tableIn (tgt := 87) hx hb dX7_count_24 (by rw [c_7]; decide) (by rw [c_7]; decide) (by rw [c_7]; rfl) (by decide) ?_
      refine lv_aload_n hx hb dX7_count_87 rfl (lv_at hl 1 rfl) ?_
      refine fr_Vi (wN := fun _ : Unit => (sW z qS S)) M (m_X7_allHigh l z qS S _ h) (cwV 0 hts (gdV cd_X7_allHigh ml_X7_195 im_X7_allHigh se_X7_allHigh in_X7) rfl rfl rfl hdV_X7_allHigh ⟨(Nat.le_of_ble_eq_true rfl), (Nat.le_of_ble_eq_true rfl)⟩) (Cut.self _) (Prm.self _ 17 (fun _ => rfl)) 0 rfl rfl rfl hw rfl hl.1 rfl (Nat.le_of_ble_eq_true rfl) dX7_count_88 (fun r_8 u_ H locs h hw => ?_)
      have hw : Hw s z A (sW z qS S) H locs := hw
      try dsimp only at h
      exact rt_i M () hw h dX7_count_91
    replace h := iF c_7 h
    by_cases c_9 : x1 = (4 : Int32)
    · replace h := iT c_9 h
      refine lv_tableIn (tgt := 92) hx hb dX7_count_24 (by rw [c_9]; decide) (by rw [c_9]; decide) (by rw [c_9]; rfl) (by decide) ?_
      refine lv_iconst (v := 0) hx hb dX7_count_92 (by decide) ?_
      refine lv_istore_n (lv' := [(3, .int (0 : Int32)), (2, .int (0 : Int32)), (0, .ref (qS 0)), (1, .int x1)]) hx hb dX7_count_93 rfl hl (by decide) rfl (fun ls hl => ?_)
      obtain ⟨n0, h⟩ := h; exact kX7_count_94 M n0 (0 : Int32) (0 : Int32) H locs ls hw (lv_sub hl [2, 1, 0] rfl) h
    replace h := iF c_9 h
    by_cases c_10 : x1 = (5 : Int32)
    · replace h := iT c_10 h
      refine lv_tableIn (tgt := 119) hx hb dX7_count_24 (by rw [c_10]; decide) (by rw [c_10]; decide) (by rw [c_10]; rfl) (by decide) ?_
      refine lv_aload_n hx hb dX7_count_119 rfl (lv_at hl 1 rfl) ?_
      refine lv_iconst (v := 1) hx hb dX7_count_120 (by decide) ?_
      refine lv_aload_n hx hb dX7_count_121 rfl (lv_at hl 1 rfl) ?_
      refine gt_f (v := .int (S 30 8)) M inlX7 hw 0 rfl rfl 8 (by decide) fl_X7_62 rfl rfl dX7_count_122 ?_
      refine lv_ishl hx hb dX7_count_125 ?_
      refine lv_iconst (v := 1) hx hb dX7_count_126 (by decide) ?_
      refine lv_isub hx hb dX7_count_127 ?_
      refine fr_Vi (wN := fun _ : Unit => (sW z qS S)) M (m_X7_heftsOf l z qS S (((1 : Int32) <<< ((S 30 8) &&& 31)) - (1 : Int32)) _ h) (cwV 1 hts (gdV cd_X7_heftsOf ml_X7_249 im_X7_heftsOf se_X7_heftsOf in_X7) rfl rfl rfl hdV_X7_heftsOf ⟨(Nat.le_of_ble_eq_true rfl), (Nat.le_of_ble_eq_true rfl)⟩) (Cut.self _) (Prm.self _ 17 (fun _ => rfl)) 0 rfl rfl rfl hw rfl hl.1 rfl (Nat.le_of_ble_eq_true rfl) dX7_count_128 (fun r_11 u_ H locs h hw => ?_)
      have hw : Hw s z A (sW z qS S) H locs := hw
      try dsimp only at h
      exact rt_i M () hw h dX7_count_131
    replace h := iF c_10 h
    by_cases c_12 : x1 = (6 : Int32)
    · replace h := iT c_12 h
      refine lv_tableIn (tgt := 132) hx hb dX7_count_24 (by rw [c_12]; decide) (by rw [c_12]; decide) (by rw [c_12]; rfl) (by decide) ?_
      refine lv_aload_n hx hb dX7_count_132 rfl (lv_at hl 1 rfl) ?_
      refine gt_f (v := .int (S 30 26)) M inlX7 hw 0 rfl rfl 26 (by decide) fl_X7_277 rfl rfl dX7_count_133 ?_
      exact rt_i M () hw h dX7_count_136
    replace h := iF c_12 h
    by_cases c_13 : x1 = (7 : Int32)
    · replace h := iT c_13 h
      refine lv_tableIn (tgt := 137) hx hb dX7_count_24 (by rw [c_13]; decide) (by rw [c_13]; decide) (by rw [c_13]; rfl) (by decide) ?_
      refine lv_aload_n hx hb dX7_count_137 rfl (lv_at hl 1 rfl) ?_
      refine gt_f (v := .int (S 30 16)) M inlX7 hw 0 rfl rfl 16 (by decide) fl_X7_78 rfl rfl dX7_count_138 ?_
      exact rt_i M () hw h dX7_count_141
    replace h := iF c_13 h
    refine lv_tableOut (tgt := 142) hx hb dX7_count_24 (by have q0 := lv_neT (a := 0) c_4 (by decide); have q1 := lv_neT (a := 1) c_5 (by decide); have q2 := lv_neT (a := 2) c_6 (by decide); have q3 := lv_neT (a := 3) c_7 (by decide); have q4 := lv_neT (a := 4) c_9 (by decide); have q5 := lv_neT (a := 5) c_10 (by decide); have q6 := lv_neT (a := 6) c_12 (by decide); have q7 := lv_neT (a := 7) c_13 (by decide); omega) (by decide) ?_
    refine lv_bipush (v := -9) hx hb dX7_count_142 (by decide) ?_
    exact rt_i M () hw h dX7_count_144
  · replace h := iF c_2 h
    refine lv_aload_n hx hb dX7_count_11 rfl (lv_at hl 0 rfl) ?_
    refine gt_f (v := .ref (qS 1)) M inlX7 hw 0 rfl rfl 0 (by decide) fl_X7_7 rfl rfl dX7_count_12 ?_
    refine lv_iload_n hx hb dX7_count_15 rfl (lv_at hl 1 rfl) ?_
    refine lv_bipush (v := 10) hx hb dX7_count_16 (by decide) ?_
    refine lv_isub hx hb dX7_count_18 ?_
    obtain ⟨a_14, h⟩ := h
    refine ld_i M hw 1 rfl a_14 dX7_count_19 ?_
    exact rt_i M () hw h dX7_count_20
