/-! ===== PURE: an hour of the reference ===== -/
/-- only heights and the hour have changed -/
def FrH (S S' : RT) : Prop := (∀ r, r ≠ 5 → r ≠ 30 → S' r = S r) ∧ ∀ k, k ≠ 10 → S' 30 k = S 30 k
theorem FrH.rf {S : RT} : FrH S S := ⟨fun _ _ _ => rfl, fun _ _ => rfl⟩
theorem FrH.tr {S S1 S2 : RT} (h : FrH S S1) (h2 : FrH S1 S2) : FrH S S2 := ⟨fun r a b => (h2.1 r a b).trans (h.1 r a b), fun k a => (h2.2 k a).trans (h.2 k a)⟩
theorem FrH.s5 {S : RT} {i : Nat} {v : Int32} : FrH S (set2 S 5 i v) := ⟨fun r a b => by funext j; simp [set2, a], fun k a => rfl⟩
theorem FrH.s10 {S : RT} {v : Int32} : FrH S (set2 S 30 10 v) := ⟨fun r a b => by funext j; simp [set2, b], fun k a => by simp [set2, a]⟩
theorem nI_ne9 {a : Nat} (h : a < 2 ^ 31) : ¬ nI a = -9 := by
  intro q
  have h1 := congrArg Int32.toInt q
  rw [nI_toInt h] at h1
  have h2 : ((-9 : Int32)).toInt = -9 := rfl
  rw [h2] at h1
  omega
theorem n9_neg : ¬ (0 : Int32) ≤ -9 := by decide
/-- to whom a rope holds -/
def holds (p : PT) (r : Nat) : Int32 := if heft p (p 5 r) = heft p (p 6 r) then -9 else if heft p (p 6 r) < heft p (p 5 r) then nI (p 5 r) else nI (p 6 r)
theorem M_holdsTo {b : Nat} {S : RT} {p : PT} (hb : b < 2000) (ok : okP b p) (hr : repM S p) {r : Nat} (hrr : r < p 30 1) {Q : Int32 → Prop} (h : Q (holds p r)) : wX7_holdsTo S (nI r) Q := by
  obtain ⟨g1, g2, g3⟩ := ok.2.2.2.2 r hrr
  obtain ⟨e5, e6⟩ := hr.2.2.2.2 r hrr
  have o2 := ok.2.1
  have a1 := heft_le ok g1
  have a2 := heft_le ok g2
  unfold wX7_holdsTo
  rw [nI_clamp (by omega), e5, e6]
  refine ⟨(vin (by omega)).mpr (by omega), M_heft hb ok hr g1 (M_heft hb ok hr g2 ?_)⟩
  simp (disch := omega) only [nsub_le, nsub_ge, forall_eq]
  unfold holds at h
  by_cases q1 : heft p (p 5 r) ≤ heft p (p 6 r)
  · rw [if_pos q1]
    by_cases q2 : heft p (p 6 r) ≤ heft p (p 5 r)
    · rw [if_pos q2]; rw [if_pos (by omega)] at h; exact h
    · rw [if_neg q2]; rw [if_neg (by omega), if_neg (by omega)] at h; exact h
  · rw [if_neg q1]; rw [if_neg (by omega), if_pos (by omega)] at h; exact h
theorem X_heavierEnd {b : Nat} {P : RT} {p : PT} (hb : b < 2000) (ok : okP b p) (hr : repX P p) {r : Nat} (hrr : r < p 30 1) {Q : Int32 → Prop} (h : Q (holds p r)) : wX3_heavierEnd P (nI r) Q := by
  obtain ⟨g1, g2, g3⟩ := ok.2.2.2.2 r hrr
  obtain ⟨e5, e6⟩ := hr.2.2.2.2 r hrr
  have o2 := ok.2.1
  have a1 := heft_le ok g1
  have a2 := heft_le ok g2
  unfold wX3_heavierEnd
  rw [nI_clamp (by omega), e5, e6]
  refine ⟨(vin (by omega)).mpr (by omega), X_heft hb ok hr g1 (X_heft hb ok hr g2 ?_)⟩
  simp (disch := omega) only [nsub_le, nsub_eq, forall_eq]
  unfold holds at h
  by_cases q1 : heft p (p 5 r) = heft p (p 6 r)
  · rw [if_pos q1]; rw [if_pos q1] at h; exact h
  · rw [if_neg q1]; rw [if_neg q1] at h
    by_cases q2 : heft p (p 5 r) ≤ heft p (p 6 r)
    · rw [if_pos q2]; rw [if_neg (by omega)] at h; exact h
    · rw [if_neg q2]; rw [if_pos (by omega)] at h; exact h
theorem M_held_dec {a : Nat} (h : a ≤ 100) (h2 : a ≤ 20) {Q : Int32 → Prop} (hq : Q (nI (a - 1))) : wX7_held (nI a - 1) 0 20 Q := by
  unfold wX7_held
  rcases Nat.eq_zero_or_pos a with rfl | ha
  · rw [if_neg (by decide)]; exact hq
  · rw [l1, nS ha, l0, l20, if_pos (nI_le (by omega) (by omega)), if_pos (nI_le (by omega) (by omega))]; exact hq
theorem M_held_inc {a : Nat} (h : a ≤ 100) {Q : Int32 → Prop} (hq : Q (nI (min 20 (a + 1)))) : wX7_held (nI a + 1) 0 20 Q := by
  unfold wX7_held
  rw [l1, nI_add, l0, l20, if_pos (nI_le (by omega) (by omega))]
  by_cases q : a + 1 ≤ 20
  · rw [if_pos (nI_le q (by omega))]; rw [show min 20 (a + 1) = a + 1 by omega] at hq; exact hq
  · rw [if_neg (nI_ge (by omega) (by omega))]; rw [show min 20 (a + 1) = 20 by omega] at hq; exact hq
theorem M_b64 {b : Nat} {S : RT} {p : PT} (ok : okP b p) (hr : repM S p) {d u : Nat} (hd : d < p 30 0) (hu : u < p 30 0) {Q : RT → Prop} (h : ∀ S', repM S' (shiftP p d u) → FrH S S' → Q S') : bX7_pulls_64 Q S (nI d) (nI u) := by
  have o1 := ok.1
  have e1 := (hr.2.2.2.1 d hd).2.2.2.2
  have k1 := (ok.2.2.2.1 d hd).2.2.2.2
  unfold bX7_pulls_64
  rw [nI_clamp (by omega), nI_clamp (by omega)]
  refine ⟨(vin (by omega)).mpr (by omega), ?_⟩
  rw [e1]
  refine M_held_dec (by omega) (by omega) ?_
  rintro S2 rfl
  have hr2 := repM_set4 (d := d) (v := p 4 d - 1) hr
  have ok2 : okP b (setN p 4 d (p 4 d - 1)) := okP_set4 (by omega) ok
  have e2 := (hr2.2.2.2.1 u hu).2.2.2.2
  have k2 := (ok2.2.2.2.1 u hu).2.2.2.2
  refine ⟨(vin (by omega)).mpr (by omega), ?_⟩
  rw [e2]
  refine M_held_inc (by omega) ?_
  rintro S4 rfl
  exact h _ (repM_set4 hr2) (FrH.tr FrH.s5 FrH.s5)
theorem shift_stay {p : PT} {d u : Nat} (hn : d ≠ u) (h1 : p 4 d = 0) (h2 : p 4 u = 20) : shiftP p d u = p := by
  funext a i
  by_cases ha : a = 4
  · subst ha
    unfold shiftP setN
    by_cases hi : i = u
    · subst hi; simp [Ne.symm hn, h2]
    · by_cases hj : i = d
      · subst hj; simp [hi, h1]
      · simp [hi, hj]
  · rw [shiftP_ne ha]
theorem M_b43 {b : Nat} {S : RT} {p : PT} (ok : okP b p) (hr : repM S p) {d u : Nat} (hd : d < p 30 0) (hu : u < p 30 0) (hn : d ≠ u) {Q : RT → Prop} (h : ∀ S', repM S' (shiftP p d u) → FrH S S' → Q S') : bX7_pulls_43 Q S (nI d) (nI u) := by
  have o1 := ok.1
  have e1 := (hr.2.2.2.1 d hd).2.2.2.2
  have k1 := (ok.2.2.2.1 d hd).2.2.2.2
  have e2 := (hr.2.2.2.1 u hu).2.2.2.2
  have k2 := (ok.2.2.2.1 u hu).2.2.2.2
  unfold bX7_pulls_43
  rw [nI_clamp (by omega), nI_clamp (by omega), e1, e2]
  refine ⟨(vin (by omega)).mpr (by omega), ?_⟩
  simp (disch := omega) only [l0, l20, nI_eq]
  split
  · rename_i q1
    refine ⟨(vin (by omega)).mpr (by omega), ?_⟩
    split
    · rename_i q2
      exact h S (by rw [shift_stay hn q1 q2]; exact hr) FrH.rf
    · exact M_b64 ok hr hd hu h
  · exact M_b64 ok hr hd hu h
theorem M_pulls {b : Nat} {S : RT} {p : PT} (hb : b < 2000) (ok : okP b p) (hr : repM S p) {w : Int32} (hw : S 30 11 = w) {r : Nat} (hrr : r < p 30 1) {Q : RT → Prop} (h : ∀ S', repM S' (pull w p r) → FrH S S' → Q S') : wX7_pulls S (nI r) Q := by
  obtain ⟨g1, g2, g3⟩ := ok.2.2.2.2 r hrr
  obtain ⟨e5, e6⟩ := hr.2.2.2.2 r hrr
  have o1 := ok.1
  have o2 := ok.2.1
  unfold wX7_pulls
  rw [nI_clamp (by omega), e5, e6, hw]
  refine M_holdsTo hb ok hr hrr ?_
  unfold pull at h
  unfold holds
  have hv : vp_in (nI r) 6 := (vin (by omega)).mpr (by omega)
  by_cases q1 : heft p (p 5 r) = heft p (p 6 r)
  · rw [if_pos q1]; rw [if_pos q1] at h
    rw [if_neg n9_neg]; exact h S hr FrH.rf
  · rw [if_neg q1]; rw [if_neg q1] at h
    by_cases q2 : heft p (p 6 r) < heft p (p 5 r)
    · rw [if_pos q2]
      rw [if_pos (nI_pos' (by omega)), nI_add, nS (by omega), show p 5 r + p 6 r - p 5 r = p 6 r by omega]
      refine ⟨hv, ?_⟩
      simp only [forall_eq]
      by_cases qw : nI r = w
      · rw [if_pos qw]; rw [if_neg (by simp [q2, qw])] at h
        exact M_b43 ok hr g2 g1 (Ne.symm g3) h
      · rw [if_neg qw]; rw [if_pos (by simp [q2, qw])] at h
        exact M_b43 ok hr g1 g2 g3 h
    · rw [if_neg q2]
      rw [if_pos (nI_pos' (by omega)), nI_add, nS (by omega), show p 5 r + p 6 r - p 6 r = p 5 r by omega]
      refine ⟨hv, ?_⟩
      simp only [forall_eq]
      by_cases qw : nI r = w
      · rw [if_pos qw]; rw [if_pos (by simp [q2, qw])] at h
        exact M_b43 ok hr g1 g2 g3 h
      · rw [if_neg qw]; rw [if_neg (by simp [q2, qw])] at h
        exact M_b43 ok hr g2 g1 (Ne.symm g3) h
theorem M_b12 {b : Nat} {p : PT} (hb : b < 2000) (ok : okP b p) {w : Int32} {S0 : RT} (hw : S0 30 11 = w) {Q : RT → Prop} (h : ∀ S', repM S' (pullN w p (p 30 1)) → FrH S0 S' → Q S') : ∀ (n k : Nat) (S : RT), k + n = p 30 1 → repM S (pullN w p k) → FrH S0 S → bX7_goesHour_12 Q (n + 1) S (nI k) := by
  have o2 := ok.2.1
  intro n
  induction n with
  | zero =>
    intro k S hk hr hf
    rw [bX7_goesHour_12, hr.2.1, pullN_ne (by decide), if_pos (nI_le (by omega) (by omega))]
    rw [← hk] at h
    exact h S hr hf
  | succ n ih =>
    intro k S hk hr hf
    have ok' := okP_pullN (w := w) ok k (by omega)
    have hm : pullN w p k 30 1 = p 30 1 := by rw [pullN_ne (by decide)]
    rw [bX7_goesHour_12, hr.2.1, hm, if_neg (nI_ge (by omega) (by omega))]
    refine M_pulls (w := w) hb ok' hr (by rw [hf.2 11 (by decide)]; exact hw) (by rw [hm]; omega) (fun S' h1 h2 => ?_)
    rw [nI_1]
    rintro x rfl
    exact ih (k + 1) S' (by omega) h1 (hf.tr h2)
theorem M_goesHour {b : Nat} {S : RT} {p : PT} (hb : b < 1999) (ok : okP b p) (hr : repM S p) {w : Int32} (hw : S 30 11 = w) {Q : RT → Prop} (h : ∀ S', repM S' (hourP w p) → FrH S S' → Q S') : wX7_goesHour S Q := by
  unfold wX7_goesHour
  rintro S1 rfl
  exact ⟨_, M_b12 (S0 := S) (by omega) (okP_tick ok) hw h (p 30 1) 0 _ (by show 0 + p 30 1 = p 30 1; omega) (repM_tick hr) FrH.s10⟩
theorem M_goesL {b N : Nat} {p : PT} (hN : N ≤ 100) (hb : b < 1800) (ok : okP b p) {S0 : RT} (hw : S0 30 11 = -9) {Q : RT → Prop} (h : ∀ S', repM S' (hoursP p N) → FrH S0 S' → Q S') : ∀ (n k : Nat) (S : RT), k + n = N → repM S (hoursP p k) → FrH S0 S → bX7_goes_2 Q (n + 1) S (nI N) (nI k) := by
  intro n
  induction n with
  | zero =>
    intro k S hk hr hf
    rw [bX7_goes_2, if_pos (nI_le (by omega) (by omega))]
    have : k = N := by omega
    subst this
    exact h S hr hf
  | succ n ih =>
    intro k S hk hr hf
    rw [bX7_goes_2, if_neg (nI_ge (by omega) (by omega))]
    refine M_goesHour (w := -9) (b := b + k) (by omega) (okP_hours ok k) hr (by rw [hf.2 11 (by decide)]; exact hw) (fun S' h1 h2 => ?_)
    rw [nI_1]
    rintro x rfl
    exact ih (k + 1) S' (by omega) h1 (hf.tr h2)
theorem M_goes {b N : Nat} {S : RT} {p : PT} (hN : N ≤ 100) (hb : b < 1800) (ok : okP b p) (hr : repM S p) (hw : S 30 11 = -9) {Q : RT → Prop} (h : ∀ S', repM S' (hoursP p N) → FrH S S' → Q S') : wX7_goes S (nI N) Q :=
  ⟨_, M_goesL hN hb ok hw h N 0 S (by omega) hr FrH.rf⟩
