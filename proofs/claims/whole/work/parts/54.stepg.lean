/-! ===== PURE: balance, sides, count ===== -/
theorem gm_lt {c : Nat → Bool} {d : Nat → Nat} {st B : Nat} : ∀ (n j : Nat) (o : Option Nat), (∀ u, o = some u → u < B) → (∀ i, i < n → j + st * i < B) → ∀ u, gm c d st n j o = some u → u < B := by
  intro n
  induction n with
  | zero => intro j o ho hj u e; exact ho u e
  | succ n ih =>
    intro j o ho hj u e
    refine ih (j + st) (gmS c d o j) (fun v hv => ?_) (fun i hi => ?_) u e
    · have hj0 := hj 0 (by omega)
      rw [Nat.mul_zero, Nat.add_zero] at hj0
      unfold gmS at hv
      by_cases cc : c j = true
      · rw [if_pos cc] at hv
        cases o with
        | none => cases hv; exact hj0
        | some w =>
          have hv : (if d j < d w then some j else some w) = some v := hv
          by_cases q : d j < d w
          · rw [if_pos q] at hv; rw [← Option.some.inj hv]; exact hj0
          · rw [if_neg q] at hv; rw [← Option.some.inj hv]; exact ho w rfl
      · rw [if_neg cc] at hv; exact ho v hv
    · have := hj (i + 1) (by omega)
      rw [Nat.mul_succ] at this
      omega
theorem gmS_ns {c : Nat → Bool} {d : Nat → Nat} {o : Option Nat} {j : Nat} (h : c j = true) : gmS c d o j ≠ none := by
  unfold gmS
  rw [if_pos h]
  cases o with
  | none => intro e; cases e
  | some w =>
    show (if d j < d w then some j else some w) ≠ none
    by_cases q : d j < d w
    · rw [if_pos q]; intro e; cases e
    · rw [if_neg q]; intro e; cases e
theorem gm_ns {c : Nat → Bool} {d : Nat → Nat} {st : Nat} (hc : ∀ j, c j = true) : ∀ (n j : Nat) (o : Option Nat), o ≠ none → gm c d st n j o ≠ none := by
  intro n
  induction n with
  | zero => intro j o h; exact h
  | succ n ih => intro j o h; exact ih (j + st) _ (gmS_ns (hc j))
theorem p2le : ∀ n, n ≤ 8 → 2 ^ n ≤ 256 := by decide
def cBa (p : PT) (t : Nat) : Nat → Bool := fun s => !s.testBit t && decide (hsB p s (p 30 0) = heft p t)
theorem cBa_y {p : PT} {t s : Nat} (h1 : ¬ s.testBit t = true) (h2 : hsB p s (p 30 0) = heft p t) : cBa p t s = true := by
  unfold cBa; rw [decide_eq_true h2, show s.testBit t = false by simpa using h1]; rfl
theorem cBa_b {p : PT} {t s : Nat} (h1 : s.testBit t = true) : cBa p t s = false := by unfold cBa; rw [h1]; rfl
theorem cBa_h {p : PT} {t s : Nat} (h2 : ¬ hsB p s (p 30 0) = heft p t) : cBa p t s = false := by unfold cBa; rw [decide_eq_false h2, Bool.and_false]
theorem X_balL {b : Nat} {P : RT} {p : PT} (hb : b < 2000) (ok : okP b p) (hr : repX P p) {t : Nat} (ht : t < p 30 0) {Q : Int32 → Prop} : ∀ (n j : Nat) (o : Option Nat), j + n = 2 ^ p 30 0 → Q (oI (gm (cBa p t) pc 1 n j o)) → bX4_counterweight_16 P Q (n + 1) (nI t) (nI (heft p t)) (oI o) (nI (oM 9 pc o)) (nI j) := by
  have o1 := ok.1
  have o3 := p2le _ o1
  have ht1 := heft_le ok ht
  intro n
  induction n with
  | zero =>
    intro j o hj h
    rw [bX4_counterweight_16, hr.1, sh1 _ (by omega), if_pos (nI_le (by omega) (by omega))]
    exact h
  | succ n ih =>
    intro j o hj h
    have hp := pc_le j
    have hh := hsB_le ok j (Nat.le_refl (p 30 0))
    rw [bX4_counterweight_16, hr.1, sh1 _ (by omega), if_neg (nI_ge (by omega) (by omega))]
    unfold bX4_counterweight_67
    refine X_bitCount (by omega) ?_
    try dsimp only
    rw [gm] at h
    rw [nI_1]
    have skip : gmS (cBa p t) pc o j = o → ∀ x : Int32, x = nI (j + 1) → bX4_counterweight_16 P Q (n + 1) (nI t) (nI (heft p t)) (oI o) (nI (oM 9 pc o)) x := by
      intro e
      rw [e] at h
      rintro x rfl
      exact ih (j + 1) o (by omega) h
    have take : gmS (cBa p t) pc o j = some j → ∀ x : Int32, x = nI (j + 1) → bX4_counterweight_16 P Q (n + 1) (nI t) (nI (heft p t)) (nI j) (nI (pc j)) x := by
      intro e
      rw [e] at h
      rintro x rfl
      exact ih (j + 1) (some j) (by omega) h
    have mid : (∀ (_ : cBa p t j = true), gmS (cBa p t) pc o j = some j) → ¬ (nI (oM 9 pc o) ≤ nI (pc j)) → (if nI (oM 9 pc o) ≤ nI (pc j) then ∀ x : Int32, x = nI (j + 1) → bX4_counterweight_16 P Q (n + 1) (nI t) (nI (heft p t)) (oI o) (nI (oM 9 pc o)) x else wX6_hasBit (nI j) (nI t) (fun r_4 => if r_4 = 0 then wX4_heftTogether P (nI j) (fun r_6 => if r_6 = nI (heft p t) then ∀ x : Int32, x = nI (j + 1) → bX4_counterweight_16 P Q (n + 1) (nI t) (nI (heft p t)) (nI j) (nI (pc j)) x else ∀ x : Int32, x = nI (j + 1) → bX4_counterweight_16 P Q (n + 1) (nI t) (nI (heft p t)) (oI o) (nI (oM 9 pc o)) x) else ∀ x : Int32, x = nI (j + 1) → bX4_counterweight_16 P Q (n + 1) (nI t) (nI (heft p t)) (oI o) (nI (oM 9 pc o)) x)) := by
      intro g1 g2
      rw [if_neg g2]
      refine X_hb (by omega) (by omega) ?_
      try dsimp only
      by_cases c1 : j.testBit t = true
      · rw [if_pos c1, if_neg bz_k]
        exact skip (gmS_no (cBa_b c1))
      · rw [if_neg c1, if_pos rfl]
        refine X_together hb ok hr (by omega) ?_
        try dsimp only
        by_cases c2 : hsB p j (p 30 0) = heft p t
        · rw [if_pos (by rw [c2])]
          exact take (g1 (cBa_y c1 c2))
        · rw [if_neg (fun e => c2 ((nI_eq (by omega) (by omega)).mp e))]
          exact skip (gmS_no (cBa_h c2))
    cases o with
    | none => exact mid (fun q => gmS_0 q) (show ¬ nI 9 ≤ nI (pc j) from nI_ge (by omega) (by omega))
    | some u =>
      have hu := pc_le u
      by_cases c : pc j < pc u
      · exact mid (fun q => gmS_lt q c) (show ¬ nI (pc u) ≤ nI (pc j) from nI_ge (by omega) (by omega))
      · rw [if_pos (show nI (oM 9 pc (some u)) ≤ nI (pc j) from nI_le (a := pc u) (by omega) (by omega))]
        exact skip (gmS_ge c)
theorem M_balL {b : Nat} {S : RT} {p : PT} (hb : b < 2000) (ok : okP b p) (hr : repM S p) {t : Nat} (ht : t < p 30 0) {Q : Int32 → RT → Prop} : ∀ (n j : Nat) (o : Option Nat), j + n = 2 ^ p 30 0 → (∀ u, o = some u → u < 256) → Q (oI (gm (cBa p t) pc 1 n j o)) S → bX7_balance_19 Q (n + 1) S (nI t) (oI o) (nI j) := by
  have o1 := ok.1
  have o3 := p2le _ o1
  have ht1 := heft_le ok ht
  intro n
  induction n with
  | zero =>
    intro j o hj ho h
    rw [bX7_balance_19, hr.1, sh1 _ (by omega), if_pos (nI_le (by omega) (by omega))]
    exact h
  | succ n ih =>
    intro j o hj ho h
    have hp := pc_le j
    have hh := hsB_le ok j (Nat.le_refl (p 30 0))
    rw [bX7_balance_19, hr.1, sh1 _ (by omega), if_neg (nI_ge (by omega) (by omega))]
    unfold bX7_balance_55 bX7_balance_70
    refine M_has (by omega) (by omega) ?_
    try dsimp only
    rw [gm] at h
    rw [nI_1]
    have skip : gmS (cBa p t) pc o j = o → ∀ x : Int32, x = nI (j + 1) → bX7_balance_19 Q (n + 1) S (nI t) (oI o) x := by
      intro e
      rw [e] at h
      rintro x rfl
      exact ih (j + 1) o (by omega) ho h
    have take : gmS (cBa p t) pc o j = some j → ∀ x : Int32, x = nI (j + 1) → bX7_balance_19 Q (n + 1) S (nI t) (nI j) x := by
      intro e
      rw [e] at h
      rintro x rfl
      exact ih (j + 1) (some j) (by omega) (fun u e => by cases e; omega) h
    by_cases c1 : j.testBit t = true
    · rw [if_pos c1, if_neg bz_k]
      exact skip (gmS_no (cBa_b c1))
    · rw [if_neg c1, if_pos rfl]
      have mid : (∀ (_ : cBa p t j = true), gmS (cBa p t) pc o j = some j) → wX7_heftsOf S (nI j) (fun r_1 => wX7_heft S (nI t) (fun r_2 => if r_1 = r_2 then ∀ x : Int32, x = nI (j + 1) → bX7_balance_19 Q (n + 1) S (nI t) (nI j) x else ∀ x : Int32, x = nI (j + 1) → bX7_balance_19 Q (n + 1) S (nI t) (oI o) x)) := by
        intro g1
        refine M_hefts hb ok hr (by omega) ?_
        try dsimp only
        refine M_heft hb ok hr ht ?_
        try dsimp only
        by_cases c2 : hsB p j (p 30 0) = heft p t
        · rw [if_pos (by rw [c2])]
          exact take (g1 (cBa_y c1 c2))
        · rw [if_neg (fun e => c2 ((nI_eq (by omega) (by omega)).mp e))]
          exact skip (gmS_no (cBa_h c2))
      cases o with
      | none =>
        rw [if_pos (show oI none < 0 by decide)]
        exact mid (fun q => gmS_0 q)
      | some u =>
        have hu := pc_le u
        have hu2 := ho u rfl
        rw [if_neg (show ¬ oI (some u) < 0 from nI_pos (by omega))]
        refine M_bits (by omega) ?_
        try dsimp only
        refine M_bits (s := u) hu2 ?_
        try dsimp only
        by_cases c : pc j < pc u
        · rw [if_pos (nI_lt c (by omega))]
          exact mid (fun q => gmS_lt q c)
        · rw [if_neg (nI_nlt (by omega) (by omega))]
          exact skip (gmS_ge c)
theorem st_balance : St_balance Inv9 := by
  intro F P K G T N L S hI a1
  have hI2 := hI
  obtain ⟨p, ok, hx, hm, hq⟩ := hI
  have o1 := ok.1
  unfold wX6_balance wX7_balance wX4_counterweight
  rcases ixc a1 (p 30 0) (by omega) with ⟨t, ht, rfl⟩ | c1
  · refine X_hT hx.1 ht ok.1 ?_
    try dsimp only
    rw [if_neg bz_k]
    refine X_heft (b := 999) (by decide) ok hx ht ?_
    try dsimp only
    refine ⟨_, X_balL (b := 999) (by decide) ok hx ht (2 ^ p 30 0) 0 none (by omega) ?_⟩
    refine M_iT hm.1 ht ok.1 ?_
    try dsimp only
    rw [if_neg bz_k]
    exact ⟨_, M_balL (b := 999) (by decide) ok hm ht (2 ^ p 30 0) 0 none (by omega) (fun u e => by cases e) ⟨rfl, hI2⟩⟩
  · refine X_hT_no hx.1 c1 ?_
    try dsimp only
    rw [if_pos rfl]
    refine X_ref 1 (by decide) (by decide) (M_iT_no hm.1 c1 ?_)
    try dsimp only
    rw [if_pos rfl]
    exact M_no 1 (by decide) (by decide) ⟨rfl, Inv9.ref ok hx hm hq 1 G T⟩
/-- how far the sides are apart -/
def dSd (p : PT) : Nat → Nat := fun s => far (2 * hsB p s (p 30 0)) (sumN (heft p) (p 30 0))
theorem sHf_le {b : Nat} {p : PT} (ok : okP b p) : sumN (heft p) (p 30 0) ≤ 856 := by
  have h1 := sumN_le (f := heft p) (c := 107) (n := p 30 0) (fun i hi => heft_le ok hi)
  have := ok.1
  omega
theorem dSd_le {b : Nat} {p : PT} (ok : okP b p) (s : Nat) : dSd p s ≤ 4000 := by
  have h1 := sHf_le ok
  have h2 := hsB_le ok s (Nat.le_refl (p 30 0))
  unfold dSd far
  omega
theorem X_apart {b : Nat} {P : RT} {p : PT} (hb : b < 2000) (ok : okP b p) (hr : repX P p) {s : Nat} (hs : s < 256) {Q : Int32 → Prop} (h : Q (nI (dSd p s))) : wX4_apart P (nI s) Q := by
  have h1 := sHf_le ok
  have h2 := hsB_le ok s (Nat.le_refl (p 30 0))
  unfold wX4_apart
  refine X_together hb ok hr hs ?_
  try dsimp only
  refine X_allHeft hb ok hr ?_
  try dsimp only
  rw [l2, pk_mul, absI (by omega) (by omega)]
  exact h
theorem X_sideL {b : Nat} {P : RT} {p : PT} (hb : b < 2000) (ok : okP b p) (hr : repX P p) {Q : Int32 → Prop} : ∀ (n j : Nat) (o : Option Nat), j + 2 * n ≤ 2 ^ p 30 0 + 1 → 2 ^ p 30 0 ≤ j + 2 * n → Q (oI (gm (fun _ => true) (dSd p) 2 n j o)) → bX4_firstSide_8 P Q (n + 1) (oI o) (nI (oM 1000000 (dSd p) o)) (nI j) := by
  have o1 := ok.1
  have o3 := p2le _ o1
  intro n
  induction n with
  | zero =>
    intro j o hj hj2 h
    rw [bX4_firstSide_8, hr.1, sh1 _ (by omega), if_pos (nI_le (by omega) (by omega))]
    exact h
  | succ n ih =>
    intro j o hj hj2 h
    have hd := dSd_le ok j
    rw [bX4_firstSide_8, hr.1, sh1 _ (by omega), if_neg (nI_ge (by omega) (by omega))]
    unfold bX4_firstSide_36
    refine X_apart hb ok hr (by omega) ?_
    try dsimp only
    rw [gm] at h
    rw [l2, nI_add]
    cases o with
    | none =>
      rw [gmS_0 rfl] at h
      rw [if_neg (show ¬ nI (oM 1000000 (dSd p) none) ≤ nI (dSd p j) from nI_ge (b := 1000000) (by omega) (by omega))]
      rintro x rfl
      exact ih (j + 2) (some j) (by omega) (by omega) h
    | some u =>
      have hu := dSd_le ok u
      by_cases c2 : dSd p j < dSd p u
      · rw [gmS_lt rfl c2] at h
        rw [if_neg (show ¬ nI (oM 1000000 (dSd p) (some u)) ≤ nI (dSd p j) from nI_ge (b := dSd p u) (by omega) (by omega))]
        rintro x rfl
        exact ih (j + 2) (some j) (by omega) (by omega) h
      · rw [gmS_ge c2] at h
        rw [if_pos (show nI (oM 1000000 (dSd p) (some u)) ≤ nI (dSd p j) from nI_le (a := dSd p u) (by omega) (by omega))]
        rintro x rfl
        exact ih (j + 2) (some u) (by omega) (by omega) h
theorem M_sideL {b : Nat} {S : RT} {p : PT} (hb : b < 2000) (ok : okP b p) (hr : repM S p) {a1 : Int32} {Q : Int32 → RT → Prop} : ∀ (n j : Nat) (o : Option Nat), (∀ u, o = some u → u < 256) → j + 2 * n ≤ 2 ^ p 30 0 + 1 → 2 ^ p 30 0 ≤ j + 2 * n → Q (if a1 = 0 then oI (gm (fun _ => true) (dSd p) 2 n j o) else nI (oM 0 (dSd p) (gm (fun _ => true) (dSd p) 2 n j o))) S → bX7_sides_48 Q (n + 1) S a1 (nI (sumN (heft p) (p 30 0))) (oI o) (nI (oM 0 (dSd p) o)) (nI j) := by
  have o1 := ok.1
  have o3 := p2le _ o1
  have h1 := sHf_le ok
  intro n
  induction n with
  | zero =>
    intro j o ho hj hj2 h
    rw [bX7_sides_48, hr.1, sh1 _ (by omega), if_pos (nI_le (by omega) (by omega))]
    by_cases c : a1 = 0
    · rw [if_pos c] at h ⊢; exact h
    · rw [if_neg c] at h ⊢; exact h
  | succ n ih =>
    intro j o ho hj hj2 h
    have hd := dSd_le ok j
    have h2 := hsB_le ok j (Nat.le_refl (p 30 0))
    rw [bX7_sides_48, hr.1, sh1 _ (by omega), if_neg (nI_ge (by omega) (by omega))]
    unfold bX7_sides_87 bX7_sides_94
    refine M_hefts hb ok hr (by omega) ?_
    try dsimp only
    rw [l2, pk_mul, nI_add]
    refine M_far (by omega) (by omega) ?_
    try dsimp only
    rw [gm] at h
    cases o with
    | none =>
      rw [gmS_0 rfl] at h
      rw [if_pos (show oI none < 0 by decide)]
      rintro x rfl
      exact ih (j + 2) (some j) (fun u e => by cases e; omega) (by omega) (by omega) h
    | some u =>
      have hu := dSd_le ok u
      have hu2 := ho u rfl
      rw [if_neg (show ¬ oI (some u) < 0 from nI_pos (by omega))]
      by_cases c2 : dSd p j < dSd p u
      · rw [gmS_lt rfl c2] at h
        rw [if_pos (show nI (far (2 * hsB p j (p 30 0)) (sumN (heft p) (p 30 0))) < nI (oM 0 (dSd p) (some u)) from nI_lt (a := dSd p j) (b := dSd p u) c2 (by omega))]
        rintro x rfl
        exact ih (j + 2) (some j) (fun u e => by cases e; omega) (by omega) (by omega) h
      · rw [gmS_ge c2] at h
        rw [if_neg (show ¬ nI (far (2 * hsB p j (p 30 0)) (sumN (heft p) (p 30 0))) < nI (oM 0 (dSd p) (some u)) from nI_nlt (a := dSd p j) (b := dSd p u) (by omega) (by omega))]
        rintro x rfl
        exact ih (j + 2) (some u) ho (by omega) (by omega) h
theorem st_sides : St_sides Inv9 := by
  intro F P K G T N L S hI a1
  have hI2 := hI
  obtain ⟨p, ok, hx, hm, hq⟩ := hI
  have o1 := ok.1
  have o3 := p2le _ o1
  unfold wX6_sides wX7_sides
  have main : a1 = 0 ∨ a1 = 1 → bX6_sides_16 P K G T N L (fun r_1 F_1 => wX7_sides S a1 (fun r_2 S_2 => r_1 = r_2 ∧ Inv9 F_1 P K G T N L S_2)) F a1 := by
    intro ha
    unfold bX6_sides_16 wX4_firstSide wX7_sides
    have hin : (if 0 ≤ a1 ∧ a1 ≤ 1 then (1 : Int32) else 0) = 1 := by
      rcases ha with rfl | rfl
      · decide
      · decide
    by_cases hz : p 30 0 = 0
    · refine ⟨_, X_sideL (b := 999) (by decide) ok hx 0 1 none (by rw [hz]; decide) (by rw [hz]; decide) ?_⟩
      have fin : wX7_isIn a1 0 1 (fun r_1 => if r_1 = 0 then wX7_no S (-2) (fun r_6 S_5 => (-9 : Int32) = r_6 ∧ Inv9 F P K G T N L S_5) else if S 30 8 = 0 then (-9 : Int32) = -9 ∧ Inv9 F P K G T N L S else wX7_heftsOf S (((1 : Int32) <<< (S 30 8 &&& 31)) - 1) (fun r_4 => ∃ j : Nat, bX7_sides_48 (fun r_2 S_2 => (-9 : Int32) = r_2 ∧ Inv9 F P K G T N L S_2) j S a1 r_4 (-9) 0 1)) := by
        refine M_isIn ?_
        try dsimp only
        rw [hin, if_neg bz_k, hm.1, hz, if_pos (show nI 0 = 0 from rfl)]
        exact ⟨rfl, hI2⟩
      by_cases c : a1 = 0
      · rw [if_pos c]; exact fin
      · rw [if_neg c, if_pos (show oI (gm (fun _ => true) (dSd p) 2 0 1 none) = -9 from rfl)]; exact fin
    · obtain ⟨m, hm8⟩ : ∃ m, p 30 0 = m + 1 := ⟨p 30 0 - 1, by omega⟩
      have e2 : (2 : Nat) ^ p 30 0 = 2 ^ m * 2 := by rw [hm8]; exact Nat.pow_succ ..
      have ne : gm (fun _ => true) (dSd p) 2 (2 ^ m) 1 none ≠ none := by
        obtain ⟨q, hq⟩ : ∃ q, 2 ^ m = q + 1 := ⟨2 ^ m - 1, by have := Nat.one_le_two_pow (n := m); omega⟩
        rw [hq]
        exact gm_ns (fun _ => rfl) q _ _ (gmS_ns rfl)
      refine ⟨_, X_sideL (b := 999) (by decide) ok hx (2 ^ m) 1 none (by omega) (by omega) ?_⟩
      have MS : ∀ {Q : Int32 → RT → Prop}, Q (if a1 = 0 then oI (gm (fun _ => true) (dSd p) 2 (2 ^ m) 1 none) else nI (oM 0 (dSd p) (gm (fun _ => true) (dSd p) 2 (2 ^ m) 1 none))) S → wX7_isIn a1 0 1 (fun r_1 => if r_1 = 0 then wX7_no S (-2) (fun r_6 S_5 => Q r_6 S_5) else if S 30 8 = 0 then Q (-9) S else wX7_heftsOf S (((1 : Int32) <<< (S 30 8 &&& 31)) - 1) (fun r_4 => ∃ j : Nat, bX7_sides_48 Q j S a1 r_4 (-9) 0 1)) := by
        intro Q h
        refine M_isIn ?_
        try dsimp only
        rw [hin, if_neg bz_k, hm.1, if_neg (show ¬ nI (p 30 0) = 0 from fun e => hz ((nI_eq (b := 0) (by omega) (by omega)).mp e)), sh1m o1]
        refine M_hefts (b := 999) (by decide) ok hm (full_lt _ o1) ?_
        try dsimp only
        rw [hsB_full o1]
        exact ⟨_, M_sideL (b := 999) (by decide) ok hm (2 ^ m) 1 none (fun u e => by cases e) (by omega) (by omega) h⟩
      have lt : ∀ u, gm (fun _ => true) (dSd p) 2 (2 ^ m) 1 none = some u → u < 256 := gm_lt (2 ^ m) 1 none (fun u e => by cases e) (fun i hi => by omega)
      generalize hg : gm (fun _ => true) (dSd p) 2 (2 ^ m) 1 none = o at MS ne lt
      by_cases c : a1 = 0
      · rw [if_pos c]
        refine MS ?_
        rw [if_pos c]
        exact ⟨rfl, hI2⟩
      · rw [if_neg c]
        cases o with
        | none => exact absurd rfl ne
        | some u =>
          have hu := lt u rfl
          rw [if_neg (show ¬ oI (some u) = -9 from nI_ne9 (by omega))]
          refine X_apart (b := 999) (s := u) (by decide) ok hx hu ?_
          try dsimp only
          refine MS ?_
          rw [if_neg c]
          exact ⟨rfl, hI2⟩
  unfold wX7_sides at main
  by_cases c0 : a1 = 0
  · rw [if_pos c0]; exact main (Or.inl c0)
  · rw [if_neg c0]
    by_cases c1 : a1 = 1
    · rw [if_pos c1]; exact main (Or.inr c1)
    · rw [if_neg c1]
      have hn : ¬ (0 ≤ a1 ∧ a1 ≤ 1) := by
        rintro ⟨q1, q2⟩
        obtain ⟨j, hj, e⟩ := nI_of2 (M := 1) (n := 1) rfl (fun q => (il.mp q) q1) q2
        have : j = 0 ∨ j = 1 := by omega
        rcases this with rfl | rfl
        · exact c0 e
        · exact c1 e
      refine X_ref 2 (by decide) (by decide) (M_isIn ?_)
      try dsimp only
      rw [if_pos (if_neg hn)]
      exact M_no 2 (by decide) (by decide) ⟨rfl, Inv9.ref ok hx hm hq 2 G T⟩
theorem st_count : St_count Inv9 := by
  intro F P K G T N L S hI a1
  have hI2 := hI
  obtain ⟨p, ok, hx, hm, hq⟩ := hI
  have o1 := ok.1
  unfold wX6_count wX7_count
  obtain ⟨q0, q1, ⟨kn, k1, k2, k3, _⟩, ⟨kl, k4, k5, k6, _⟩, _⟩ := hq
  by_cases c0 : a1 = 0
  · rw [if_pos c0]; subst c0
    refine M_isIn ?_
    try dsimp only
    rw [if_pos (by decide), if_pos rfl, hx.1, hm.1]
    exact ⟨rfl, hI2⟩
  rw [if_neg c0]
  by_cases c1 : a1 = 1
  · rw [if_pos c1]; subst c1
    refine M_isIn ?_
    try dsimp only
    rw [if_pos (by decide), if_neg (by decide), if_pos rfl, hx.2.1, hm.2.1]
    exact ⟨rfl, hI2⟩
  rw [if_neg c1]
  by_cases c2 : a1 = 2
  · rw [if_pos c2]; subst c2
    refine M_isIn ?_
    try dsimp only
    rw [if_pos (by decide), if_neg (by decide), if_neg (by decide), if_pos rfl, hx.2.2.1, hm.2.2.1]
    exact ⟨rfl, hI2⟩
  rw [if_neg c2]
  by_cases c3 : a1 = 3
  · rw [if_pos c3]; subst c3
    refine X_allHeights o1 hx ?_
    try dsimp only
    refine M_isIn ?_
    try dsimp only
    rw [if_pos (by decide), if_neg (by decide), if_neg (by decide), if_neg (by decide), if_pos rfl]
    exact M_allHigh o1 hm ⟨rfl, hI2⟩
  rw [if_neg c3]
  by_cases c4 : a1 = 4
  · rw [if_pos c4]; subst c4
    refine X_allStones o1 hx ?_
    try dsimp only
    refine M_isIn ?_
    try dsimp only
    rw [if_pos (by decide), if_neg (by decide), if_neg (by decide), if_neg (by decide), if_neg (by decide), if_pos rfl]
    exact ⟨_, M_allStL o1 hm ⟨rfl, hI2⟩ (p 30 0) 0 (by omega)⟩
  rw [if_neg c4]
  by_cases c5 : a1 = 5
  · rw [if_pos c5]; subst c5
    refine X_allHeft (b := 999) (by decide) ok hx ?_
    try dsimp only
    refine M_isIn ?_
    try dsimp only
    rw [if_pos (by decide), if_neg (by decide), if_neg (by decide), if_neg (by decide), if_neg (by decide), if_neg (by decide), if_pos rfl, hm.1, sh1m o1]
    refine M_hefts (b := 999) (by decide) ok hm (full_lt _ o1) ?_
    try dsimp only
    rw [hsB_full o1]
    exact ⟨rfl, hI2⟩
  rw [if_neg c5]
  by_cases c6 : a1 = 6
  · rw [if_pos c6]; subst c6
    refine M_isIn ?_
    try dsimp only
    rw [if_pos (by decide), if_neg (by decide), if_neg (by decide), if_neg (by decide), if_neg (by decide), if_neg (by decide), if_neg (by decide), if_pos rfl, k2, k3]
    exact ⟨rfl, hI2⟩
  rw [if_neg c6]
  by_cases c7 : a1 = 7
  · rw [if_pos c7]; subst c7
    refine M_isIn ?_
    try dsimp only
    rw [if_pos (by decide), if_neg (by decide), if_neg (by decide), if_neg (by decide), if_neg (by decide), if_neg (by decide), if_neg (by decide), if_neg (by decide), if_pos rfl, k5, k6]
    exact ⟨rfl, hI2⟩
  rw [if_neg c7]
  have rest : ¬ (11 ≤ a1 ∧ a1 ≤ 16) → wX7_isIn a1 11 16 (fun r_1 => if r_1 = 0 then (if a1 = 0 then (-9 : Int32) = S 30 8 ∧ Inv9 F P K G T N L S else if a1 = 1 then (-9 : Int32) = S 30 9 ∧ Inv9 F P K G T N L S else if a1 = 2 then (-9 : Int32) = S 30 10 ∧ Inv9 F P K G T N L S else if a1 = 3 then wX7_allHigh S (fun r_8 => (-9 : Int32) = r_8 ∧ Inv9 F P K G T N L S) else if a1 = 4 then ∃ j : Nat, bX7_count_94 S (fun r_2 => (-9 : Int32) = r_2 ∧ Inv9 F P K G T N L S) j 0 0 else if a1 = 5 then wX7_heftsOf S (((1 : Int32) <<< (S 30 8 &&& 31)) - 1) (fun r_11 => (-9 : Int32) = r_11 ∧ Inv9 F P K G T N L S) else if a1 = 6 then (-9 : Int32) = S 30 26 ∧ Inv9 F P K G T N L S else if a1 = 7 then (-9 : Int32) = S 30 16 ∧ Inv9 F P K G T N L S else (-9 : Int32) = -9 ∧ Inv9 F P K G T N L S) else (vp_in (a1 - 10) 7 ∧ ((-9 : Int32) = S 0 (a1 - 10).toNatClampNeg ∧ Inv9 F P K G T N L S))) := by
    intro hn
    refine M_isIn ?_
    try dsimp only
    rw [if_pos (if_neg hn), if_neg c0, if_neg c1, if_neg c2, if_neg c3, if_neg c4, if_neg c5, if_neg c6, if_neg c7]
    exact ⟨rfl, hI2⟩
  by_cases c8 : a1 ≤ 10
  · rw [if_pos c8]
    exact rest (fun q => by have := Int32.le_iff_toInt_le.mp c8; have := Int32.le_iff_toInt_le.mp q.1; have e1 : (10 : Int32).toInt = 10 := rfl; have e2 : (11 : Int32).toInt = 11 := rfl; omega)
  rw [if_neg c8]
  by_cases c9 : 16 < a1
  · rw [if_pos c9]
    exact rest (fun q => il.mp c9 q.2)
  rw [if_neg c9]
  have h16 : a1 ≤ 16 := Classical.not_not.mp (fun q => c9 (il.mpr q))
  have hpos : ¬ a1 < 0 := fun q => by have := Int32.lt_iff_toInt_lt.mp q; have h := Int32.lt_iff_toInt_lt.mp (il.mpr c8); have e1 : (10 : Int32).toInt = 10 := rfl; have e2 : (0 : Int32).toInt = 0 := rfl; omega
  obtain ⟨j, hj, e⟩ := nI_of2 (M := 16) (n := 16) rfl hpos h16
  subst e
  have hj2 : ¬ j ≤ 10 := fun q => c8 (show nI j ≤ nI 10 from nI_le q (by omega))
  have e10 : nI j - 10 = nI (j - 10) := nS (show 10 ≤ j by omega)
  rw [e10, nI_clamp (by omega)]
  refine ⟨(vin (by omega)).mpr (by omega), ?_⟩
  refine M_isIn ?_
  try dsimp only
  rw [if_pos (show (11 : Int32) ≤ nI j ∧ nI j ≤ 16 from ⟨nI_le (a := 11) (by omega) (by omega), h16⟩), if_neg bz_k]
  exact ⟨(vin (by omega)).mpr (by omega), q1 (j - 10) (by omega), hI2⟩
