/-! ===== PURE: an hour ===== -/
def setN (p : PT) (r i v : Nat) : PT := fun a b => if a = r then (if b = i then v else p a b) else p a b
theorem setN_ne {p : PT} {r i v a : Nat} (h : a ≠ r) : setN p r i v a = p a := by funext b; simp [setN, h]
theorem repX_set4 {P : RT} {p : PT} {d v : Nat} (hr : repX P p) : repX (set2 P 4 d (nI v)) (setN p 4 d v) := by
  obtain ⟨r1, r2, r3, r4, r5⟩ := hr
  refine ⟨r1, r2, r3, fun i hi => ?_, fun j hj => r5 j hj⟩
  obtain ⟨a, b, c, e, f⟩ := r4 i hi
  refine ⟨a, b, c, e, ?_⟩
  show (if i = d then nI v else P 4 i) = nI (if i = d then v else p 4 i)
  split
  · rfl
  · exact f
theorem repM_set4 {S : RT} {p : PT} {d v : Nat} (hr : repM S p) : repM (set2 S 5 d (nI v)) (setN p 4 d v) := by
  obtain ⟨r1, r2, r3, r4, r5⟩ := hr
  refine ⟨r1, r2, r3, fun i hi => ?_, fun j hj => r5 j hj⟩
  obtain ⟨a, b, c, e, f⟩ := r4 i hi
  refine ⟨a, b, c, e, ?_⟩
  show (if i = d then nI v else S 5 i) = nI (if i = d then v else p 4 i)
  split
  · rfl
  · exact f
theorem okP_set4 {b : Nat} {p : PT} {d v : Nat} (hv : v ≤ 20) (ok : okP b p) : okP b (setN p 4 d v) := by
  obtain ⟨r1, r2, r3, r4, r5⟩ := ok
  refine ⟨r1, r2, r3, fun i hi => ?_, fun j hj => r5 j hj⟩
  obtain ⟨a, b, c, e, f⟩ := r4 i hi
  refine ⟨a, b, c, e, ?_⟩
  show (if i = d then v else p 4 i) ≤ 20
  split
  · exact hv
  · exact f
def shiftP (p : PT) (d u : Nat) : PT := setN (setN p 4 d (p 4 d - 1)) 4 u (min 20 (setN p 4 d (p 4 d - 1) 4 u + 1))
theorem okP_shift {b : Nat} {p : PT} {d u : Nat} (ok : okP b p) (hd : d < p 30 0) : okP b (shiftP p d u) :=
  okP_set4 (by omega) (okP_set4 (by have := (ok.2.2.2.1 d hd).2.2.2.2; omega) ok)
theorem setN_id {P : RT} {p : PT} {d : Nat} (hr : repX P p) {v : Nat} (e : v = p 4 d) : repX P (setN p 4 d v) := by
  have h : setN p 4 d v = p := by
    funext a b
    simp only [setN]
    split
    · split
      · subst_vars; rfl
      · rfl
    · rfl
  rw [h]; exact hr
theorem X_shift19 {b : Nat} {P : RT} {p : PT} (ok : okP b p) (hr : repX P p) {u : Nat} (hu : u < p 30 0) {Q : RT → Prop} (h : ∀ P', repX P' (setN p 4 u (min 20 (p 4 u + 1))) → Q P') : bX3_shift_19 Q P (nI u) := by
  have o1 := ok.1
  have e1 := (hr.2.2.2.1 u hu).2.2.2.2
  have k1 := (ok.2.2.2.1 u hu).2.2.2.2
  unfold bX3_shift_19
  rw [nI_clamp (by omega)]
  refine ⟨(vin (by omega)).mpr (by omega), ?_⟩
  rw [e1, l20]
  by_cases hx : 20 ≤ p 4 u
  · rw [if_pos ((nI_leI (by omega) (by omega)).mpr hx)]
    exact h _ (setN_id hr (by omega))
  · rw [if_neg (fun q => hx ((nI_leI (by omega) (by omega)).mp q)), l1, nI_add]
    rintro P3 rfl
    have hv : min 20 (p 4 u + 1) = p 4 u + 1 := by omega
    refine h _ ?_
    rw [hv]
    exact repX_set4 hr
theorem X_shift {b : Nat} {P : RT} {p : PT} (ok : okP b p) (hr : repX P p) {d u : Nat} (hd : d < p 30 0) (hu : u < p 30 0) {Q : RT → Prop} (h : ∀ P', repX P' (shiftP p d u) → Q P') : wX3_shift P (nI d) (nI u) Q := by
  have o1 := ok.1
  have e1 := (hr.2.2.2.1 d hd).2.2.2.2
  have k1 := (ok.2.2.2.1 d hd).2.2.2.2
  unfold wX3_shift
  rw [nI_clamp (by omega)]
  refine ⟨(vin (by omega)).mpr (by omega), ?_⟩
  have ok2 : okP b (setN p 4 d (p 4 d - 1)) := okP_set4 (by omega) ok
  rw [e1, l0]
  by_cases hx : p 4 d ≤ 0
  · rw [if_pos ((nI_leI (by omega) (by omega)).mpr hx)]
    exact X_shift19 ok2 (setN_id hr (by omega)) hu h
  · rw [if_neg (fun q => hx ((nI_leI (by omega) (by omega)).mp q)), l1, nS (by omega)]
    rintro P3 rfl
    exact X_shift19 ok2 (repX_set4 hr) hu h
/-- one rope pulls; the wet one the other way -/
def pull (w : Int32) (p : PT) (r : Nat) : PT := if heft p (p 5 r) = heft p (p 6 r) then p else if (heft p (p 6 r) < heft p (p 5 r) ↔ ¬ nI r = w) then shiftP p (p 5 r) (p 6 r) else shiftP p (p 6 r) (p 5 r)
def pullN (w : Int32) (p : PT) : Nat → PT
  | 0 => p
  | k + 1 => pull w (pullN w p k) k
def hourP (w : Int32) (p : PT) : PT := pullN w (setN p 30 2 (p 30 2 + 1)) (p 30 1)
def hoursP (p : PT) : Nat → PT
  | 0 => p
  | k + 1 => hourP (-9) (hoursP p k)
theorem shiftP_ne {p : PT} {d u a : Nat} (h : a ≠ 4) : shiftP p d u a = p a := by rw [shiftP, setN_ne h, setN_ne h]
theorem pull_ne {w : Int32} {p : PT} {r a : Nat} (h : a ≠ 4) : pull w p r a = p a := by
  unfold pull
  split
  · rfl
  · split <;> exact shiftP_ne h
theorem pullN_ne {w : Int32} {p : PT} {a : Nat} (h : a ≠ 4) : ∀ k, pullN w p k a = p a
  | 0 => rfl
  | k + 1 => by rw [pullN, pull_ne h, pullN_ne h k]
theorem okP_pull {b : Nat} {w : Int32} {p : PT} {r : Nat} (ok : okP b p) (hr : r < p 30 1) : okP b (pull w p r) := by
  obtain ⟨h1, h2, -⟩ := ok.2.2.2.2 r hr
  unfold pull
  split
  · exact ok
  · split
    · exact okP_shift ok h1
    · exact okP_shift ok h2
theorem okP_pullN {b : Nat} {w : Int32} {p : PT} (ok : okP b p) : ∀ k, k ≤ p 30 1 → okP b (pullN w p k)
  | 0, _ => ok
  | k + 1, h => okP_pull (okP_pullN ok k (by omega)) (by rw [pullN_ne (by decide)]; omega)
theorem okP_tick {b : Nat} {p : PT} (ok : okP b p) : okP (b + 1) (setN p 30 2 (p 30 2 + 1)) := by
  obtain ⟨r1, r2, r3, r4, r5⟩ := ok
  refine ⟨r1, r2, ?_, fun i hi => r4 i hi, fun j hj => r5 j hj⟩
  show p 30 2 + 1 ≤ b + 1
  omega
theorem repX_tick {P : RT} {p : PT} (hr : repX P p) : repX (set2 P 30 9 (P 30 9 + 1)) (setN p 30 2 (p 30 2 + 1)) := by
  obtain ⟨r1, r2, r3, r4, r5⟩ := hr
  refine ⟨r1, r2, ?_, fun i hi => r4 i hi, fun j hj => r5 j hj⟩
  show P 30 9 + 1 = nI (p 30 2 + 1)
  rw [r3, nI_1]
theorem repM_tick {S : RT} {p : PT} (hr : repM S p) : repM (set2 S 30 10 (S 30 10 + 1)) (setN p 30 2 (p 30 2 + 1)) := by
  obtain ⟨r1, r2, r3, r4, r5⟩ := hr
  refine ⟨r1, r2, ?_, fun i hi => r4 i hi, fun j hj => r5 j hj⟩
  show S 30 10 + 1 = nI (p 30 2 + 1)
  rw [r3, nI_1]
theorem okP_hour {b : Nat} {w : Int32} {p : PT} (ok : okP b p) : okP (b + 1) (hourP w p) := okP_pullN (okP_tick ok) _ (Nat.le_refl _)
theorem okP_hours {b : Nat} {p : PT} (ok : okP b p) : ∀ k, okP (b + k) (hoursP p k)
  | 0 => ok
  | k + 1 => okP_hour (okP_hours ok k)
theorem hourP_ne {w : Int32} {p : PT} {a : Nat} (h : a ≠ 4) (h2 : a ≠ 30) : hourP w p a = p a := by rw [hourP, pullN_ne h, setN_ne h2]
theorem hourP_n {w : Int32} {p : PT} : hourP w p 30 0 = p 30 0 := by rw [hourP, pullN_ne (by decide)]; rfl
theorem hourP_m {w : Int32} {p : PT} : hourP w p 30 1 = p 30 1 := by rw [hourP, pullN_ne (by decide)]; rfl
theorem hoursP_ne {p : PT} {a : Nat} (h : a ≠ 4) (h2 : a ≠ 30) : ∀ k, hoursP p k a = p a
  | 0 => rfl
  | k + 1 => by rw [hoursP, hourP_ne h h2, hoursP_ne h h2 k]
theorem hoursP_n {p : PT} : ∀ k, hoursP p k 30 0 = p 30 0
  | 0 => rfl
  | k + 1 => by rw [hoursP, hourP_n, hoursP_n k]
theorem hoursP_m {p : PT} : ∀ k, hoursP p k 30 1 = p 30 1
  | 0 => rfl
  | k + 1 => by rw [hoursP, hourP_m, hoursP_m k]
theorem nneg (a b : Int32) : -(a - b) = b - a := by
  apply Int32.toBitVec_inj.mp
  simp
theorem X_b50 {b : Nat} {P : RT} {p : PT} (hb : b < 2000) (ok : okP b p) (hr : repX P p) {w : Int32} {r : Nat} (hrr : r < p 30 1) {K : RT → Int32 → Int32 → Prop} {Q : RT → Prop} (h : ∀ P', repX P' (pull w p r) → K P' w (nI (r + 1))) : (if nI r = w then bX3_goHour_50 K Q P w (nI r) (-(nI (heft p (p 5 r)) - nI (heft p (p 6 r)))) else bX3_goHour_50 K Q P w (nI r) (nI (heft p (p 5 r)) - nI (heft p (p 6 r)))) := by
  obtain ⟨g1, g2, g3⟩ := ok.2.2.2.2 r hrr
  obtain ⟨e5, e6⟩ := hr.2.2.2.2 r hrr
  have o2 := ok.2.1
  have a1 := heft_le ok g1
  have a2 := heft_le ok g2
  have hv : vp_in (nI r) 6 := (vin (by omega)).mpr (by omega)
  have hn : nI r + 1 = nI (r + 1) := nI_1 r
  unfold pull at h
  unfold bX3_goHour_50 bX3_goHour_93
  rw [nneg, nI_clamp (by omega), e5, e6]
  simp (disch := omega) only [nsub_le, nsub_ge, forall_eq, hn]
  split
  · rename_i hw
    by_cases q1 : heft p (p 6 r) ≤ heft p (p 5 r)
    · rw [if_pos q1]
      by_cases q2 : heft p (p 5 r) ≤ heft p (p 6 r)
      · rw [if_pos q2]; rw [if_pos (by omega)] at h; exact h _ hr
      · rw [if_neg q2]; rw [if_neg (by omega), if_neg (by simp only [hw, not_true_eq_false, iff_false]; omega)] at h
        exact ⟨hv, X_shift ok hr g2 g1 h⟩
    · rw [if_neg q1]; rw [if_neg (by omega), if_pos (by simp only [hw, not_true_eq_false, iff_false]; omega)] at h
      exact ⟨hv, X_shift ok hr g1 g2 h⟩
  · rename_i hw
    by_cases q1 : heft p (p 5 r) ≤ heft p (p 6 r)
    · rw [if_pos q1]
      by_cases q2 : heft p (p 6 r) ≤ heft p (p 5 r)
      · rw [if_pos q2]; rw [if_pos (by omega)] at h; exact h _ hr
      · rw [if_neg q2]; rw [if_neg (by omega), if_neg (by simp only [hw, not_false_eq_true, iff_true]; omega)] at h
        exact ⟨hv, X_shift ok hr g2 g1 h⟩
    · rw [if_neg q1]; rw [if_neg (by omega), if_pos (by simp only [hw, not_false_eq_true, iff_true]; omega)] at h
      exact ⟨hv, X_shift ok hr g1 g2 h⟩
theorem X_b12 {b : Nat} {p : PT} (hb : b < 2000) (ok : okP b p) {w : Int32} {Q : RT → Prop} (h : ∀ P', repX P' (pullN w p (p 30 1)) → Q P') : ∀ (n k : Nat) (P : RT), k + n = p 30 1 → repX P (pullN w p k) → bX3_goHour_12 Q (n + 1) P w (nI k) := by
  have o2 := ok.2.1
  intro n
  induction n with
  | zero =>
    intro k P hk hr
    rw [bX3_goHour_12, hr.2.1, pullN_ne (by decide), if_pos (nI_le (by omega) (by omega))]
    rw [← hk] at h
    exact h P hr
  | succ n ih =>
    intro k P hk hr
    have ok' := okP_pullN (w := w) ok k (by omega)
    have hm : pullN w p k 30 1 = p 30 1 := by rw [pullN_ne (by decide)]
    have hkr : k < pullN w p k 30 1 := by rw [hm]; omega
    obtain ⟨g1, g2, g3⟩ := ok'.2.2.2.2 k hkr
    obtain ⟨e5, e6⟩ := hr.2.2.2.2 k hkr
    rw [bX3_goHour_12, hr.2.1, hm, if_neg (nI_ge (by omega) (by omega)), nI_clamp (by omega), e5, e6]
    refine ⟨(vin (by omega)).mpr (by omega), X_heft hb ok' hr g1 (X_heft hb ok' hr g2 ?_)⟩
    simp only [forall_eq]
    exact X_b50 hb ok' hr hkr (fun P' hP' => ih (k + 1) P' (by omega) hP')
theorem X_goHour {b : Nat} {P : RT} {p : PT} (hb : b < 1999) (ok : okP b p) (hr : repX P p) {w : Int32} {Q : RT → Prop} (h : ∀ P', repX P' (hourP w p) → Q P') : wX3_goHour P w Q := by
  unfold wX3_goHour
  rintro P1 rfl
  exact ⟨_, X_b12 (by omega) (okP_tick ok) h (p 30 1) 0 _ (by show 0 + p 30 1 = p 30 1; omega) (repX_tick hr)⟩
theorem X_goHoursL {b N : Nat} {p : PT} (hN : N ≤ 100) (hb : b < 1800) (ok : okP b p) {Q : RT → Prop} (h : ∀ P', repX P' (hoursP p N) → Q P') : ∀ (n k : Nat) (P : RT), k + n = N → repX P (hoursP p k) → bX3_goHours_2 Q (n + 1) P (nI N) (nI k) := by
  intro n
  induction n with
  | zero =>
    intro k P hk hr
    rw [bX3_goHours_2, if_pos (nI_le (by omega) (by omega))]
    have : k = N := by omega
    subst this
    exact h P hr
  | succ n ih =>
    intro k P hk hr
    rw [bX3_goHours_2, if_neg (nI_ge (by omega) (by omega))]
    refine X_goHour (b := b + k) (by omega) (okP_hours ok k) hr (fun P' hP' => ?_)
    rw [nI_1]
    rintro x rfl
    exact ih (k + 1) P' (by omega) hP'
theorem X_goHours {b N : Nat} {P : RT} {p : PT} (hN : N ≤ 100) (hb : b < 1800) (ok : okP b p) (hr : repX P p) {Q : RT → Prop} (h : ∀ P', repX P' (hoursP p N) → Q P') : wX3_goHours P (nI N) Q :=
  ⟨_, X_goHoursL hN hb ok h N 0 P (by omega) hr⟩
