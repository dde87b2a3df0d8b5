/-! ===== PURE: steps that look and change (laid by wip/whole/p47.py) ===== -/
theorem repX_set0 {P : RT} {p : PT} {d v : Nat} (hr : repX P p) : repX (set2 P 0 d (nI v)) (setN p 0 d v) := by
  obtain ⟨r1, r2, r3, r4, r5⟩ := hr
  refine ⟨r1, r2, r3, fun i hi => ?_, fun j hj => r5 j hj⟩
  obtain ⟨a, b, c, e, f⟩ := r4 i hi
  refine ⟨?_, b, c, e, f⟩
  show (if i = d then nI v else P 0 i) = nI (if i = d then v else p 0 i)
  split
  · rfl
  · exact a
theorem repM_set0 {S : RT} {p : PT} {d v : Nat} (hr : repM S p) : repM (set2 S 1 d (nI v)) (setN p 0 d v) := by
  obtain ⟨r1, r2, r3, r4, r5⟩ := hr
  refine ⟨r1, r2, r3, fun i hi => ?_, fun j hj => r5 j hj⟩
  obtain ⟨a, b, c, e, f⟩ := r4 i hi
  refine ⟨?_, b, c, e, f⟩
  show (if i = d then nI v else S 1 i) = nI (if i = d then v else p 0 i)
  split
  · rfl
  · exact a
theorem okP_set0 {b : Nat} {p : PT} {d v : Nat} (hv : v ≤ 5) (ok : okP b p) : okP b (setN p 0 d v) := by
  obtain ⟨r1, r2, r3, r4, r5⟩ := ok
  refine ⟨r1, r2, r3, fun i hi => ?_, fun j hj => r5 j hj⟩
  obtain ⟨a, b, c, e, f⟩ := r4 i hi
  refine ⟨?_, b, c, e, f⟩
  show (if i = d then v else p 0 i) ≤ 5
  split
  · exact hv
  · exact a
theorem repX_set1 {P : RT} {p : PT} {d v : Nat} (hr : repX P p) : repX (set2 P 1 d (nI v)) (setN p 1 d v) := by
  obtain ⟨r1, r2, r3, r4, r5⟩ := hr
  refine ⟨r1, r2, r3, fun i hi => ?_, fun j hj => r5 j hj⟩
  obtain ⟨a, b, c, e, f⟩ := r4 i hi
  refine ⟨a, ?_, c, e, f⟩
  show (if i = d then nI v else P 1 i) = nI (if i = d then v else p 1 i)
  split
  · rfl
  · exact b
theorem repM_set1 {S : RT} {p : PT} {d v : Nat} (hr : repM S p) : repM (set2 S 2 d (nI v)) (setN p 1 d v) := by
  obtain ⟨r1, r2, r3, r4, r5⟩ := hr
  refine ⟨r1, r2, r3, fun i hi => ?_, fun j hj => r5 j hj⟩
  obtain ⟨a, b, c, e, f⟩ := r4 i hi
  refine ⟨a, ?_, c, e, f⟩
  show (if i = d then nI v else S 2 i) = nI (if i = d then v else p 1 i)
  split
  · rfl
  · exact b
theorem okP_set1 {b : Nat} {p : PT} {d v : Nat} (hv : v ≤ 9) (ok : okP b p) : okP b (setN p 1 d v) := by
  obtain ⟨r1, r2, r3, r4, r5⟩ := ok
  refine ⟨r1, r2, r3, fun i hi => ?_, fun j hj => r5 j hj⟩
  obtain ⟨a, b, c, e, f⟩ := r4 i hi
  refine ⟨a, ?_, c, e, f⟩
  show (if i = d then v else p 1 i) ≤ 9
  split
  · exact hv
  · exact b
theorem repX_set2 {P : RT} {p : PT} {d v : Nat} (hr : repX P p) : repX (set2 P 2 d (nI v)) (setN p 2 d v) := by
  obtain ⟨r1, r2, r3, r4, r5⟩ := hr
  refine ⟨r1, r2, r3, fun i hi => ?_, fun j hj => r5 j hj⟩
  obtain ⟨a, b, c, e, f⟩ := r4 i hi
  refine ⟨a, b, ?_, e, f⟩
  show (if i = d then nI v else P 2 i) = nI (if i = d then v else p 2 i)
  split
  · rfl
  · exact c
theorem repM_set2 {S : RT} {p : PT} {d v : Nat} (hr : repM S p) : repM (set2 S 3 d (nI v)) (setN p 2 d v) := by
  obtain ⟨r1, r2, r3, r4, r5⟩ := hr
  refine ⟨r1, r2, r3, fun i hi => ?_, fun j hj => r5 j hj⟩
  obtain ⟨a, b, c, e, f⟩ := r4 i hi
  refine ⟨a, b, ?_, e, f⟩
  show (if i = d then nI v else S 3 i) = nI (if i = d then v else p 2 i)
  split
  · rfl
  · exact c
theorem okP_set2 {b : Nat} {p : PT} {d v : Nat} (hv : v ≤ 60) (ok : okP b p) : okP b (setN p 2 d v) := by
  obtain ⟨r1, r2, r3, r4, r5⟩ := ok
  refine ⟨r1, r2, r3, fun i hi => ?_, fun j hj => r5 j hj⟩
  obtain ⟨a, b, c, e, f⟩ := r4 i hi
  refine ⟨a, b, ?_, e, f⟩
  show (if i = d then v else p 2 i) ≤ 60
  split
  · exact hv
  · exact c
theorem repX_set3 {P : RT} {p : PT} {d v : Nat} (hr : repX P p) : repX (set2 P 3 d (nI v)) (setN p 3 d v) := by
  obtain ⟨r1, r2, r3, r4, r5⟩ := hr
  refine ⟨r1, r2, r3, fun i hi => ?_, fun j hj => r5 j hj⟩
  obtain ⟨a, b, c, e, f⟩ := r4 i hi
  refine ⟨a, b, c, ?_, f⟩
  show (if i = d then nI v else P 3 i) = nI (if i = d then v else p 3 i)
  split
  · rfl
  · exact e
theorem repM_set3 {S : RT} {p : PT} {d v : Nat} (hr : repM S p) : repM (set2 S 4 d (nI v)) (setN p 3 d v) := by
  obtain ⟨r1, r2, r3, r4, r5⟩ := hr
  refine ⟨r1, r2, r3, fun i hi => ?_, fun j hj => r5 j hj⟩
  obtain ⟨a, b, c, e, f⟩ := r4 i hi
  refine ⟨a, b, c, ?_, f⟩
  show (if i = d then nI v else S 4 i) = nI (if i = d then v else p 3 i)
  split
  · rfl
  · exact e
theorem okP_set3 {b : Nat} {p : PT} {d v : Nat} (hv : v ≤ 9) (ok : okP b p) : okP b (setN p 3 d v) := by
  obtain ⟨r1, r2, r3, r4, r5⟩ := ok
  refine ⟨r1, r2, r3, fun i hi => ?_, fun j hj => r5 j hj⟩
  obtain ⟨a, b, c, e, f⟩ := r4 i hi
  refine ⟨a, b, c, ?_, f⟩
  show (if i = d then v else p 3 i) ≤ 9
  split
  · exact hv
  · exact e
theorem st_stones : St_stones Inv9 := by
  intro F P K G T N L S hI a1 a2
  obtain ⟨p, ok, hx, hm, hq⟩ := hI
  have o1 := ok.1
  unfold wX6_stones wX6_thingFault wX7_stones wX7_becomes_4 bX7_becomes_4_19
  rcases ixc a1 (p 30 0) (by omega) with ⟨t, ht, rfl⟩ | c1
  · refine X_hT hx.1 ht ok.1 ?_
    try dsimp only
    rw [if_neg bz_k]
    refine X_rg ?_
    try dsimp only
    rcases rgc a2 9 (by decide) with ⟨j, hj, rfl, e⟩ | e | e
    · have e : rgf (nI j) 0 9 = 0 := e
      rw [e, if_pos rfl, nI_clamp (by omega)]
      refine ⟨(vin (by omega)).mpr (by omega), ?_⟩
      rintro x rfl P1 rfl
      refine M_iT hm.1 ht ok.1 ?_
      try dsimp only
      rw [if_neg bz_k]
      refine M_bd ?_
      try dsimp only
      rw [e, if_pos rfl]
      refine ⟨(vin (by omega)).mpr (by omega), ?_⟩
      rintro x rfl S1 rfl
      exact ⟨by rw [(hx.2.2.2.1 t ht).2.2.2.1, (hm.2.2.2.1 t ht).2.2.2.1], setN p 3 t j, okP_set3 hj ok, repX_set3 hx, repM_set3 hm, hq.agr (agr.set (by omega))⟩
    · have e : rgf a2 0 9 = -4 := e
      rw [e, if_neg (by decide)]
      refine X_ref 4 (by decide) (by decide) (M_iT hm.1 ht ok.1 ?_)
      try dsimp only
      rw [if_neg bz_k]
      refine M_bd ?_
      try dsimp only
      rw [e, if_neg (by decide)]
      exact M_no 4 (by decide) (by decide) ⟨rfl, Inv9.ref ok hx hm hq 4 G T⟩
    · have e : rgf a2 0 9 = -6 := e
      rw [e, if_neg (by decide)]
      refine X_ref 6 (by decide) (by decide) (M_iT hm.1 ht ok.1 ?_)
      try dsimp only
      rw [if_neg bz_k]
      refine M_bd ?_
      try dsimp only
      rw [e, if_neg (by decide)]
      exact M_no 6 (by decide) (by decide) ⟨rfl, Inv9.ref ok hx hm hq 6 G T⟩
  · refine X_hT_no hx.1 c1 ?_
    try dsimp only
    rw [if_pos rfl, if_neg (by decide)]
    refine X_ref 1 (by decide) (by decide) (M_iT_no hm.1 c1 ?_)
    try dsimp only
    rw [if_pos rfl, if_neg (by decide)]
    exact M_no 1 (by decide) (by decide) ⟨rfl, Inv9.ref ok hx hm hq 1 G T⟩
theorem st_weighs : St_weighs Inv9 := by
  intro F P K G T N L S hI a1 a2
  obtain ⟨p, ok, hx, hm, hq⟩ := hI
  have o1 := ok.1
  unfold wX6_weighs wX6_thingFault wX7_weighs wX7_becomes_3 bX7_becomes_3_19
  rcases ixc a1 (p 30 0) (by omega) with ⟨t, ht, rfl⟩ | c1
  · refine X_hT hx.1 ht ok.1 ?_
    try dsimp only
    rw [if_neg bz_k]
    refine X_rg ?_
    try dsimp only
    rcases rgc a2 60 (by decide) with ⟨j, hj, rfl, e⟩ | e | e
    · have e : rgf (nI j) 0 60 = 0 := e
      rw [e, if_pos rfl, nI_clamp (by omega)]
      refine ⟨(vin (by omega)).mpr (by omega), ?_⟩
      rintro x rfl P1 rfl
      refine M_iT hm.1 ht ok.1 ?_
      try dsimp only
      rw [if_neg bz_k]
      refine M_bd ?_
      try dsimp only
      rw [e, if_pos rfl]
      refine ⟨(vin (by omega)).mpr (by omega), ?_⟩
      rintro x rfl S1 rfl
      exact ⟨by rw [(hx.2.2.2.1 t ht).2.2.1, (hm.2.2.2.1 t ht).2.2.1], setN p 2 t j, okP_set2 hj ok, repX_set2 hx, repM_set2 hm, hq.agr (agr.set (by omega))⟩
    · have e : rgf a2 0 60 = -4 := e
      rw [e, if_neg (by decide)]
      refine X_ref 4 (by decide) (by decide) (M_iT hm.1 ht ok.1 ?_)
      try dsimp only
      rw [if_neg bz_k]
      refine M_bd ?_
      try dsimp only
      rw [e, if_neg (by decide)]
      exact M_no 4 (by decide) (by decide) ⟨rfl, Inv9.ref ok hx hm hq 4 G T⟩
    · have e : rgf a2 0 60 = -6 := e
      rw [e, if_neg (by decide)]
      refine X_ref 6 (by decide) (by decide) (M_iT hm.1 ht ok.1 ?_)
      try dsimp only
      rw [if_neg bz_k]
      refine M_bd ?_
      try dsimp only
      rw [e, if_neg (by decide)]
      exact M_no 6 (by decide) (by decide) ⟨rfl, Inv9.ref ok hx hm hq 6 G T⟩
  · refine X_hT_no hx.1 c1 ?_
    try dsimp only
    rw [if_pos rfl, if_neg (by decide)]
    refine X_ref 1 (by decide) (by decide) (M_iT_no hm.1 c1 ?_)
    try dsimp only
    rw [if_pos rfl, if_neg (by decide)]
    exact M_no 1 (by decide) (by decide) ⟨rfl, Inv9.ref ok hx hm hq 1 G T⟩
theorem st_lifts : St_lifts Inv9 := by
  intro F P K G T N L S hI a1 a2
  obtain ⟨p, ok, hx, hm, hq⟩ := hI
  have o1 := ok.1
  unfold wX6_lifts wX6_thingFault wX7_lifts wX7_becomes_5 bX7_becomes_5_19
  rcases ixc a1 (p 30 0) (by omega) with ⟨t, ht, rfl⟩ | c1
  · refine X_hT hx.1 ht ok.1 ?_
    try dsimp only
    rw [if_neg bz_k]
    refine X_rg ?_
    try dsimp only
    rcases rgc a2 20 (by decide) with ⟨j, hj, rfl, e⟩ | e | e
    · have e : rgf (nI j) 0 20 = 0 := e
      rw [e, if_pos rfl, nI_clamp (by omega)]
      refine ⟨(vin (by omega)).mpr (by omega), ?_⟩
      rintro x rfl P1 rfl
      refine M_iT hm.1 ht ok.1 ?_
      try dsimp only
      rw [if_neg bz_k]
      refine M_bd ?_
      try dsimp only
      rw [e, if_pos rfl]
      refine ⟨(vin (by omega)).mpr (by omega), ?_⟩
      rintro x rfl S1 rfl
      exact ⟨by rw [(hx.2.2.2.1 t ht).2.2.2.2, (hm.2.2.2.1 t ht).2.2.2.2], setN p 4 t j, okP_set4 hj ok, repX_set4 hx, repM_set4 hm, hq.agr (agr.set (by omega))⟩
    · have e : rgf a2 0 20 = -4 := e
      rw [e, if_neg (by decide)]
      refine X_ref 4 (by decide) (by decide) (M_iT hm.1 ht ok.1 ?_)
      try dsimp only
      rw [if_neg bz_k]
      refine M_bd ?_
      try dsimp only
      rw [e, if_neg (by decide)]
      exact M_no 4 (by decide) (by decide) ⟨rfl, Inv9.ref ok hx hm hq 4 G T⟩
    · have e : rgf a2 0 20 = -6 := e
      rw [e, if_neg (by decide)]
      refine X_ref 6 (by decide) (by decide) (M_iT hm.1 ht ok.1 ?_)
      try dsimp only
      rw [if_neg bz_k]
      refine M_bd ?_
      try dsimp only
      rw [e, if_neg (by decide)]
      exact M_no 6 (by decide) (by decide) ⟨rfl, Inv9.ref ok hx hm hq 6 G T⟩
  · refine X_hT_no hx.1 c1 ?_
    try dsimp only
    rw [if_pos rfl, if_neg (by decide)]
    refine X_ref 1 (by decide) (by decide) (M_iT_no hm.1 c1 ?_)
    try dsimp only
    rw [if_pos rfl, if_neg (by decide)]
    exact M_no 1 (by decide) (by decide) ⟨rfl, Inv9.ref ok hx hm hq 1 G T⟩
theorem st_thing : St_thing Inv9 := by
  intro F P K G T N L S hI a1 a2
  obtain ⟨p, ok, hx, hm, hq⟩ := hI
  have o1 := ok.1
  have hI : Inv9 F P K G T N L S := ⟨p, ok, hx, hm, hq⟩
  unfold wX6_thing wX7_thing
  rcases ixc a1 (p 30 0) (by omega) with ⟨t, ht, rfl⟩ | c1
  · refine X_hT hx.1 ht ok.1 ?_
    try dsimp only
    obtain ⟨e0, e1, e2, e3, e4⟩ := hx.2.2.2.1 t ht
    obtain ⟨d0, d1, d2, d3, d4⟩ := hm.2.2.2.1 t ht
    have hv : vp_in (nI t) 8 := (vin (by omega)).mpr (by omega)
    have ct : (nI t).toNatClampNeg = t := nI_clamp (by omega)
    have mt : ∀ {Q : Int32 → Prop}, Q 1 → wX7_isThing S (nI t) Q := fun h => M_iT hm.1 ht ok.1 h
    rw [if_neg bz_k, ct, e0, e1, e2, e3, e4]
    by_cases c : a2 = 0
    · rw [if_pos c]; refine ⟨hv, mt ?_⟩; (try dsimp only); rw [if_neg bz_k, if_pos c, d0]; exact ⟨hv, rfl, hI⟩
    rw [if_neg c]
    by_cases c' : a2 = 1
    · rw [if_pos c']; refine ⟨hv, mt ?_⟩; (try dsimp only); rw [if_neg bz_k, if_neg c, if_pos c', d1]; exact ⟨hv, rfl, hI⟩
    rw [if_neg c']
    by_cases c2 : a2 = 2
    · rw [if_pos c2]; refine ⟨hv, mt ?_⟩; (try dsimp only); rw [if_neg bz_k, if_neg c, if_neg c', if_pos c2, d2]; exact ⟨hv, rfl, hI⟩
    rw [if_neg c2]
    by_cases c3 : a2 = 3
    · rw [if_pos c3]; refine ⟨hv, mt ?_⟩; (try dsimp only); rw [if_neg bz_k, if_neg c, if_neg c', if_neg c2, if_pos c3, d3]; exact ⟨hv, rfl, hI⟩
    rw [if_neg c3]
    by_cases c4 : a2 = 4
    · rw [if_pos c4]; refine ⟨hv, mt ?_⟩; (try dsimp only); rw [if_neg bz_k, if_neg c, if_neg c', if_neg c2, if_neg c3, if_pos c4, d4]; exact ⟨hv, rfl, hI⟩
    rw [if_neg c4]
    by_cases c5 : a2 = 5
    · rw [if_pos c5]; refine X_heft (by decide) ok hx ht (mt ?_); (try dsimp only); rw [if_neg bz_k, if_neg c, if_neg c', if_neg c2, if_neg c3, if_neg c4, if_pos c5]; exact M_heft (by decide) ok hm ht ⟨rfl, hI⟩
    rw [if_neg c5]
    refine X_ref 2 (by decide) (by decide) (mt ?_)
    try dsimp only
    rw [if_neg bz_k, if_neg c, if_neg c', if_neg c2, if_neg c3, if_neg c4, if_neg c5]
    exact M_no 2 (by decide) (by decide) ⟨rfl, Inv9.ref ok hx hm hq 2 G T⟩
  · refine X_hT_no hx.1 c1 ?_
    try dsimp only
    rw [if_pos rfl]
    refine X_ref 1 (by decide) (by decide) (M_iT_no hm.1 c1 ?_)
    try dsimp only
    rw [if_pos rfl]
    exact M_no 1 (by decide) (by decide) ⟨rfl, Inv9.ref ok hx hm hq 1 G T⟩
theorem st_rope : St_rope Inv9 := by
  intro F P K G T N L S hI a1 a2
  obtain ⟨p, ok, hx, hm, hq⟩ := hI
  have o1 := ok.2.1
  have hI : Inv9 F P K G T N L S := ⟨p, ok, hx, hm, hq⟩
  unfold wX6_rope wX7_rope
  rcases ixc a1 (p 30 1) (by omega) with ⟨t, ht, rfl⟩ | c1
  · refine X_hR hx.2.1 ht (by omega) ?_
    try dsimp only
    obtain ⟨e0, e1⟩ := hx.2.2.2.2 t ht
    obtain ⟨d0, d1⟩ := hm.2.2.2.2 t ht
    have hv : vp_in (nI t) 6 := (vin (by omega)).mpr (by omega)
    have ct : (nI t).toNatClampNeg = t := nI_clamp (by omega)
    have mt : ∀ {Q : Int32 → Prop}, Q 1 → wX7_isRope S (nI t) Q := fun h => M_iR hm.2.1 ht (by omega) h
    rw [if_neg bz_k, ct, e0, e1]
    by_cases c : a2 = 0
    · rw [if_pos c]; refine ⟨hv, mt ?_⟩; (try dsimp only); rw [if_neg bz_k, if_pos c, d0]; exact ⟨hv, rfl, hI⟩
    rw [if_neg c]
    by_cases c' : a2 = 1
    · rw [if_pos c']; refine ⟨hv, mt ?_⟩; (try dsimp only); rw [if_neg bz_k, if_neg c, if_pos c', d1]; exact ⟨hv, rfl, hI⟩
    rw [if_neg c']
    by_cases c2 : a2 = 2
    · rw [if_pos c2]; refine X_heavierEnd (by decide) ok hx ht (mt ?_); (try dsimp only); rw [if_neg bz_k, if_neg c, if_neg c', if_pos c2]; exact M_holdsTo (by decide) ok hm ht ⟨rfl, hI⟩
    rw [if_neg c2]
    refine X_ref 2 (by decide) (by decide) (mt ?_)
    try dsimp only
    rw [if_neg bz_k, if_neg c, if_neg c', if_neg c2]
    exact M_no 2 (by decide) (by decide) ⟨rfl, Inv9.ref ok hx hm hq 2 G T⟩
  · refine X_hR_no hx.2.1 c1 ?_
    try dsimp only
    rw [if_pos rfl]
    refine X_ref 1 (by decide) (by decide) (M_iR_no hm.2.1 c1 ?_)
    try dsimp only
    rw [if_pos rfl]
    exact M_no 1 (by decide) (by decide) ⟨rfl, Inv9.ref ok hx hm hq 1 G T⟩
theorem st_turn : St_turn Inv9 := by
  intro F P K G T N L S hI a1 a2 a3
  obtain ⟨p, ok, hx, hm, hq⟩ := hI
  have o1 := ok.1
  unfold wX6_turn bX6_turn_27 wX7_turn bX7_turn_33
  rcases ixc a1 (p 30 0) (by omega) with ⟨t, ht, rfl⟩ | c1
  · refine X_hT hx.1 ht ok.1 ?_
    try dsimp only
    rw [if_neg bz_k]
    have mt : ∀ {Q : Int32 → Prop}, Q 1 → wX7_isThing S (nI t) Q := fun h => M_iT hm.1 ht ok.1 h
    have ct : (nI t).toNatClampNeg = t := nI_clamp (by omega)
    have hv : vp_in (nI t) 8 := (vin (by omega)).mpr (by omega)
    rcases ixc a2 6 (by decide) with ⟨k, hk, rfl⟩ | c2
    · rw [if_neg (nI_pos (by omega)), if_pos (by rw [l6]; exact nI_lt hk (by omega))]
      have e5 : (if (0 : Int32) ≤ nI k ∧ nI k ≤ 5 then (1 : Int32) else 0) = 1 := if_pos ⟨nI_pos' (by omega), by rw [l5]; exact nI_le (by omega) (by omega)⟩
      refine X_rg ?_
      try dsimp only
      rcases rgc a3 9 (by decide) with ⟨j, hj, rfl, e⟩ | e | e
      · have e : rgf (nI j) 0 9 = 0 := e
        rw [e, if_pos rfl, ct]
        refine ⟨hv, ?_⟩
        rintro x rfl P1 rfl P2 rfl
        refine mt ?_
        try dsimp only
        rw [if_neg bz_k]
        refine M_isIn ?_
        try dsimp only
        rw [e5, if_neg bz_k]
        refine M_bd ?_
        try dsimp only
        rw [e, if_pos rfl]
        refine ⟨hv, ?_⟩
        rintro x rfl S1 rfl S2 rfl
        exact ⟨by rw [(hx.2.2.2.1 t ht).1, (hm.2.2.2.1 t ht).1, (hx.2.2.2.1 t ht).2.1, (hm.2.2.2.1 t ht).2.1], setN (setN p 0 t k) 1 t j, okP_set1 hj (okP_set0 (by omega) ok), repX_set1 (repX_set0 hx), repM_set1 (repM_set0 hm), hq.agr ((agr.set (by omega)).tr (agr.set (by omega)))⟩
      · have e : rgf a3 0 9 = -4 := e
        rw [e, if_neg (by decide)]
        refine X_ref 4 (by decide) (by decide) (mt ?_)
        try dsimp only
        rw [if_neg bz_k]
        refine M_isIn ?_
        try dsimp only
        rw [e5, if_neg bz_k]
        refine M_bd ?_
        try dsimp only
        rw [e, if_neg (by decide)]
        exact M_no 4 (by decide) (by decide) ⟨rfl, Inv9.ref ok hx hm hq 4 G T⟩
      · have e : rgf a3 0 9 = -6 := e
        rw [e, if_neg (by decide)]
        refine X_ref 6 (by decide) (by decide) (mt ?_)
        try dsimp only
        rw [if_neg bz_k]
        refine M_isIn ?_
        try dsimp only
        rw [e5, if_neg bz_k]
        refine M_bd ?_
        try dsimp only
        rw [e, if_neg (by decide)]
        exact M_no 6 (by decide) (by decide) ⟨rfl, Inv9.ref ok hx hm hq 6 G T⟩
    · have e5 : (if (0 : Int32) ≤ a2 ∧ a2 ≤ 5 then (1 : Int32) else 0) = 0 := by
        refine if_neg (fun q => ?_)
        rcases c2 with c | c
        · exact (il.mp c) q.1
        · have := Int32.le_iff_toInt_le.mp q.2; have h6 := Int32.le_iff_toInt_le.mp c
          have x5 : (5 : Int32).toInt = 5 := rfl
          have x6 : (nI 6).toInt = 6 := rfl
          omega
      have fin : wX6_refuse F (-2) (fun r_1 F_1 => wX7_isThing S (nI t) fun r_1_1 => if r_1_1 = 0 then (if (-1 : Int32) = 0 then vp_in (nI t) 8 ∧ ∀ (x5_3 : Int32), x5_3 = 10 * S 1 (nI t).toNatClampNeg + S 2 (nI t).toNatClampNeg → ∀ (S_4 : RT), S_4 = set2 S 1 (nI t).toNatClampNeg a2 → ∀ (S_5 : RT), S_5 = set2 S_4 2 (nI t).toNatClampNeg a3 → r_1 = x5_3 ∧ Inv9 F_1 P K G T N L S_5 else wX7_no S (-1) fun r_7 S_6 => r_1 = r_7 ∧ Inv9 F_1 P K G T N L S_6) else wX7_isIn a2 0 5 fun r_3 => if r_3 = 0 then (if (-2 : Int32) = 0 then vp_in (nI t) 8 ∧ ∀ (x5_3 : Int32), x5_3 = 10 * S 1 (nI t).toNatClampNeg + S 2 (nI t).toNatClampNeg → ∀ (S_4 : RT), S_4 = set2 S 1 (nI t).toNatClampNeg a2 → ∀ (S_5 : RT), S_5 = set2 S_4 2 (nI t).toNatClampNeg a3 → r_1 = x5_3 ∧ Inv9 F_1 P K G T N L S_5 else wX7_no S (-2) fun r_7 S_6 => r_1 = r_7 ∧ Inv9 F_1 P K G T N L S_6) else wX7_bound a3 0 9 fun r_5 => if r_5 = 0 then vp_in (nI t) 8 ∧ ∀ (x5_3 : Int32), x5_3 = 10 * S 1 (nI t).toNatClampNeg + S 2 (nI t).toNatClampNeg → ∀ (S_4 : RT), S_4 = set2 S 1 (nI t).toNatClampNeg a2 → ∀ (S_5 : RT), S_5 = set2 S_4 2 (nI t).toNatClampNeg a3 → r_1 = x5_3 ∧ Inv9 F_1 P K G T N L S_5 else wX7_no S r_5 fun r_7 S_6 => r_1 = r_7 ∧ Inv9 F_1 P K G T N L S_6) := by
        refine X_ref 2 (by decide) (by decide) (mt ?_)
        try dsimp only
        rw [if_neg bz_k]
        refine M_isIn ?_
        try dsimp only
        rw [e5, if_pos rfl, if_neg (by decide)]
        exact M_no 2 (by decide) (by decide) ⟨rfl, Inv9.ref ok hx hm hq 2 G T⟩
      by_cases c : a2 < 0
      · rw [if_pos c]; exact fin
      · rw [if_neg c, if_neg (show ¬ a2 < 6 from fun q => (il.mp q) (c2.resolve_left c))]; exact fin
  · refine X_hT_no hx.1 c1 ?_
    try dsimp only
    rw [if_pos rfl]
    refine X_ref 1 (by decide) (by decide) (M_iT_no hm.1 c1 ?_)
    try dsimp only
    rw [if_pos rfl, if_neg (by decide)]
    exact M_no 1 (by decide) (by decide) ⟨rfl, Inv9.ref ok hx hm hq 1 G T⟩
