/-! ===== PURE: who is up first, when all rests ===== -/
theorem fnd_s (c : Nat → Bool) : ∀ n k, (fnd c n k = -9 ∧ ∀ i, k ≤ i → i < k + n → c i = false) ∨ ∃ i, k ≤ i ∧ i < k + n ∧ fnd c n k = nI i ∧ c i = true ∧ ∀ j, k ≤ j → j < i → c j = false
  | 0, k => Or.inl ⟨rfl, fun i h1 h2 => by omega⟩
  | n + 1, k => by
    by_cases h : c k = true
    · exact Or.inr ⟨k, Nat.le_refl _, by omega, by rw [fnd, if_pos h], h, fun j h1 h2 => by omega⟩
    · have e : fnd c (n + 1) k = fnd c n (k + 1) := by rw [fnd, if_neg h]
      have hf : c k = false := by simpa using h
      rcases fnd_s c n (k + 1) with ⟨a, b⟩ | ⟨i, a1, a2, a3, a4, a5⟩
      · refine Or.inl ⟨e.trans a, fun i h1 h2 => ?_⟩
        by_cases hi : i = k
        · rw [hi]; exact hf
        · exact b i (by omega) (by omega)
      · refine Or.inr ⟨i, by omega, by omega, e.trans a3, a4, fun j h1 h2 => ?_⟩
        by_cases hi : j = k
        · rw [hi]; exact hf
        · exact a5 j (by omega) h2
/-- who is first and when -/
def FS (c : Nat → Nat → Bool) (n : Nat) (b w : Int32) : Prop := (b = -9 ∧ w = -9 ∧ ∀ t, t < n → ∀ k, k < 100 → c t k = false) ∨ ∃ t k, t < n ∧ k < 100 ∧ b = nI t ∧ w = nI k ∧ c t k = true ∧ (∀ t', t' < n → ∀ k', k' < k → c t' k' = false) ∧ ∀ t', t' < t → c t' k = false
theorem FS.uq {c : Nat → Nat → Bool} {n : Nat} {b w b' w' : Int32} (h : FS c n b w) (g : FS c n b' w') : b = b' ∧ w = w' := by
  rcases h with ⟨h1, h2, h3⟩ | ⟨t, k, h1, h2, h3, h4, h5, h6, h7⟩
  · rcases g with ⟨g1, g2, g3⟩ | ⟨u, l, g1, g2, g3, g4, g5, g6, g7⟩
    · exact ⟨h1.trans g1.symm, h2.trans g2.symm⟩
    · rw [h3 u g1 l g2] at g5; cases g5
  · rcases g with ⟨g1, g2, g3⟩ | ⟨u, l, g1, g2, g3, g4, g5, g6, g7⟩
    · rw [g3 t h1 k h2] at h5; cases h5
    · have e1 : k = l := by
        rcases Nat.lt_trichotomy k l with q | q | q
        · have := g6 t h1 k q; rw [this] at h5; cases h5
        · exact q
        · have := h6 u g1 l q; rw [this] at g5; cases g5
      subst e1
      have e2 : t = u := by
        rcases Nat.lt_trichotomy t u with q | q | q
        · have := g7 t q; rw [this] at h5; cases h5
        · exact q
        · have := h7 u q; rw [this] at g5; cases g5
      subst e2
      exact ⟨h3.trans g3.symm, h4.trans g4.symm⟩
theorem X_leastTopL {G T : RT} {q : PT} (hn : q 30 0 ≤ 8) (h20 : ∀ i, i < q 30 0 → q 4 i ≤ 20) (hr : repX T q) {Q : Int32 → Prop} : ∀ (n k : Nat), k + n = q 30 0 → Q (fnd (fun t => decide (20 ≤ q 4 t)) n k) → bX1_leastAtTop_2 G T Q (n + 1) (nI k) := by
  intro n
  induction n with
  | zero =>
    intro k hk h
    rw [bX1_leastAtTop_2, hr.1, if_pos (nI_le (by omega) (by omega))]
    exact h
  | succ n ih =>
    intro k hk h
    have hh := h20 k (by omega)
    rw [bX1_leastAtTop_2, hr.1, if_neg (nI_ge (by omega) (by omega)), nI_clamp (by omega), (hr.2.2.2.1 k (by omega)).2.2.2.2, l20]
    refine ⟨(vin (by omega)).mpr (by omega), ?_⟩
    by_cases c : 20 ≤ q 4 k
    · rw [if_pos (by rw [show q 4 k = 20 by omega])]
      rw [fnd, decide_eq_true c, if_pos rfl] at h
      exact h
    · rw [if_neg (fun e => by have := (nI_eq (by omega) (by omega)).mp e; omega), nI_1]
      rintro x rfl
      refine ih (k + 1) (by omega) ?_
      rw [fnd, if_neg (by rw [decide_eq_false c]; decide)] at h
      exact h
theorem X_leastTop {G T : RT} {q : PT} (hn : q 30 0 ≤ 8) (h20 : ∀ i, i < q 30 0 → q 4 i ≤ 20) (hr : repX T q) {Q : Int32 → Prop} (h : Q (fnd (fun t => decide (20 ≤ q 4 t)) (q 30 0) 0)) : wX1_leastAtTop G T Q := ⟨_, X_leastTopL hn h20 hr (q 30 0) 0 (by omega) h⟩
def c20 (p : PT) : Nat → Nat → Bool := fun t k => decide (20 ≤ hoursP p k 4 t)
theorem X_whenFirstL {b : Nat} {p : PT} (hb : b < 1800) (ok : okP b p) {G P : RT} {Q : Int32 → RT → Prop} (h1 : ∀ T', (∀ t, t < p 30 0 → ∀ k, k < 100 → c20 p t k = false) → Q (-9) T') (h2 : ∀ T' k t, k < 100 → repX T' (hoursP p k) → t < p 30 0 → (∀ t', t' < p 30 0 → ∀ k', k' < k → c20 p t' k' = false) → c20 p t k = true → (∀ t', t' < t → c20 p t' k = false) → Q (nI k) T') : ∀ (n k : Nat) (T : RT), k + n = 100 → repX T (hoursP p k) → (∀ t', t' < p 30 0 → ∀ k', k' < k → c20 p t' k' = false) → bX1_whenFirst_8 G P Q (n + 1) T (nI k) := by
  have o1 := ok.1
  intro n
  induction n with
  | zero =>
    intro k T hk hr hf
    have : k = 100 := by omega
    subst this
    rw [bX1_whenFirst_8, if_pos k100]
    exact h1 T hf
  | succ n ih =>
    intro k T hk hr hf
    have okk := okP_hours ok k
    rw [bX1_whenFirst_8, if_neg (k99 (by omega))]
    refine X_leastTop okk.1 (fun i hi => (okk.2.2.2.1 i hi).2.2.2.2) hr ?_
    try dsimp only
    rcases fnd_s (fun t => decide (20 ≤ hoursP p k 4 t)) (hoursP p k 30 0) 0 with ⟨a, b1⟩ | ⟨i, a1, a2, a3, a4, a5⟩
    · rw [a, if_pos rfl]
      refine X_goHour (b := b + k) (by omega) okk hr (fun T' hT' => ?_)
      try dsimp only
      rw [nI_1]
      rintro x rfl
      refine ih (k + 1) T' (by omega) hT' (fun t' g1 k' g2 => ?_)
      by_cases e : k' = k
      · rw [e]; exact b1 t' (by omega) (by rw [hoursP_n]; omega)
      · exact hf t' g1 k' (by omega)
    · rw [hoursP_n] at a2
      rw [a3, if_neg (nI_ne9 (by omega))]
      exact h2 T k i (by omega) hr (by omega) hf a4 (fun t' g => a5 t' (by omega) g)
theorem FI_s {c : Nat → Nat → Bool} {j : Nat} {b w : Int32} (hj : j < 2 ^ 31) (h : FS c j b w) {i : Nat} (hi : i < 100) (g1 : c j i = true) (g2 : ∀ k, k < i → c j k = false) : (b < 0 ∧ FS c (j + 1) (nI j) (nI i)) ∨ (¬ b < 0 ∧ ((nI i < w ∧ FS c (j + 1) (nI j) (nI i)) ∨ (¬ nI i < w ∧ FS c (j + 1) b w))) := by
  rcases h with ⟨h1, h2, h3⟩ | ⟨t, k, h1, h2, h3, h4, h5, h6, h7⟩
  · refine Or.inl ⟨by rw [h1]; decide, Or.inr ⟨j, i, by omega, hi, rfl, rfl, g1, fun t' q1 k' q2 => ?_, fun t' q => h3 t' q i hi⟩⟩
    by_cases e : t' = j
    · rw [e]; exact g2 k' q2
    · exact h3 t' (by omega) k' (by omega)
  · refine Or.inr ⟨by rw [h3]; exact nI_pos (by omega), ?_⟩
    rw [h4]
    by_cases q : i < k
    · refine Or.inl ⟨nI_lt q (by omega), Or.inr ⟨j, i, by omega, hi, rfl, rfl, g1, fun t' q1 k' q2 => ?_, fun t' q' => h6 t' q' i q⟩⟩
      by_cases e : t' = j
      · rw [e]; exact g2 k' q2
      · exact h6 t' (by omega) k' (by omega)
    · refine Or.inr ⟨nI_nlt (by omega) (by omega), Or.inr ⟨t, k, by omega, h2, h3, rfl, h5, fun t' q1 k' q2 => ?_, h7⟩⟩
      by_cases e : t' = j
      · rw [e]; exact g2 k' (by omega)
      · exact h6 t' (by omega) k' (by omega)
theorem FI_n {c : Nat → Nat → Bool} {j : Nat} {b w : Int32} (h : FS c j b w) (g2 : ∀ k, k < 100 → c j k = false) : FS c (j + 1) b w := by
  rcases h with ⟨h1, h2, h3⟩ | ⟨t, k, h1, h2, h3, h4, h5, h6, h7⟩
  · refine Or.inl ⟨h1, h2, fun t' q k q2 => ?_⟩
    by_cases e : t' = j
    · rw [e]; exact g2 k q2
    · exact h3 t' (by omega) k q2
  · refine Or.inr ⟨t, k, by omega, h2, h3, h4, h5, fun t' q1 k' q2 => ?_, h7⟩
    by_cases e : t' = j
    · rw [e]; exact g2 k' (by omega)
    · exact h6 t' (by omega) k' q2
theorem M_firstL {b : Nat} {p : PT} (hb : b < 1800) (ok : okP b p) {S0 : RT} (hw : S0 30 11 = -9) {a1 : Int32} {Q : Int32 → RT → Prop} (h : ∀ b w S', FS (c20 p) (p 30 0) b w → repM S' p → agr 110 S0 S' → Q (if a1 = 0 then b else w) S') : ∀ (n j : Nat) (S : RT) (bs w : Int32), j + n = p 30 0 → repM S p → agr 110 S0 S → FS (c20 p) j bs w → bX7_first_35 Q (n + 1) S a1 bs w (nI j) := by
  have o1 := ok.1
  intro n
  induction n with
  | zero =>
    intro j S bs w hj hr hg hF
    have : j = p 30 0 := by omega
    subst this
    rw [bX7_first_35, hr.1, if_pos (nI_le (by omega) (by omega))]
    have := h bs w S hF hr hg
    by_cases c : a1 = 0
    · rw [if_pos c] at this ⊢; exact this
    · rw [if_neg c] at this ⊢; exact this
  | succ n ih =>
    intro j S bs w hj hr hg hF
    rw [bX7_first_35, hr.1, if_neg (nI_ge (by omega) (by omega)), l20]
    refine M_upAt (b := b) (by omega) ok hr (by rw [hg.2.2.2.2.2.2.1]; exact hw) (show j < p 30 0 by omega) (Nat.le_refl _) (fun S' h1 h2 => ?_)
    try dsimp only
    unfold bX7_first_72 bX7_first_78
    rw [nI_1]
    rcases fnd_s (cUp p j 20) 100 0 with ⟨a, b1⟩ | ⟨i, a1, a2, a3, a4, a5⟩
    · rw [a, if_pos (by decide)]
      rintro x rfl
      exact ih (j + 1) S' bs w (by omega) h1 (hg.tr h2) (FI_n hF (fun k hk => b1 k (by omega) (by omega)))
    · rw [a3, if_neg (nI_pos (by omega))]
      rcases FI_s (by omega) hF (by omega) a4 (fun k hk => a5 k (by omega) hk) with ⟨q1, q2⟩ | ⟨q1, ⟨q2, q3⟩ | ⟨q2, q3⟩⟩
      · rw [if_pos q1]
        rintro x rfl
        exact ih (j + 1) S' _ _ (by omega) h1 (hg.tr h2) q2
      · rw [if_neg q1, if_pos q2]
        rintro x rfl
        exact ih (j + 1) S' _ _ (by omega) h1 (hg.tr h2) q3
      · rw [if_neg q1, if_neg q2]
        rintro x rfl
        exact ih (j + 1) S' _ _ (by omega) h1 (hg.tr h2) q3
/-- at rest at hour k -/
def cRs (p : PT) : Nat → Bool := fun k => decide (∀ i, i < p 30 0 → hoursP p (k + 1) 4 i = hoursP p k 4 i)
theorem X_asBeforeL {G T : RT} {q : PT} {g : Nat → Nat} (hn : q 30 0 ≤ 8) (h20 : ∀ i, i < q 30 0 → q 4 i ≤ 20 ∧ g i ≤ 20) (hr : repX T q) (hG : ∀ i, i < q 30 0 → G 1 i = nI (g i)) {Q : Int32 → Prop} (y : (∀ i, i < q 30 0 → q 4 i = g i) → Q 1) (z : (¬ ∀ i, i < q 30 0 → q 4 i = g i) → Q 0) : ∀ (n k : Nat), k + n = q 30 0 → (∀ i, i < k → q 4 i = g i) → bX1_isAsBefore_2 G T Q (n + 1) (nI k) := by
  intro n
  induction n with
  | zero =>
    intro k hk h
    rw [bX1_isAsBefore_2, hr.1, if_pos (nI_le (by omega) (by omega))]
    exact y (fun i hi => h i (by omega))
  | succ n ih =>
    intro k hk h
    have hh := h20 k (by omega)
    rw [bX1_isAsBefore_2, hr.1, if_neg (nI_ge (by omega) (by omega)), nI_clamp (by omega), (hr.2.2.2.1 k (by omega)).2.2.2.2, hG k (by omega)]
    refine ⟨(vin (by omega)).mpr (by omega), ?_⟩
    by_cases c : q 4 k = g k
    · rw [if_pos (by rw [c]), nI_1]
      rintro x rfl
      refine ih (k + 1) (by omega) (fun i hi => ?_)
      by_cases e : i = k
      · rw [e]; exact c
      · exact h i (by omega)
    · rw [if_neg (fun e => c ((nI_eq (by omega) (by omega)).mp e))]
      exact z (fun e => c (e k (by omega)))
theorem X_restL {b : Nat} {p : PT} (hb : b < 1800) (ok : okP b p) {P : RT} {Q : Int32 → RT → RT → Prop} : ∀ (n k : Nat) (G T : RT), k + n = 100 → repX T (hoursP p k) → (∀ G' T', Q (fnd (cRs p) n k) G' T') → bX1_whenRest_8 P Q (n + 1) G T (nI k) := by
  have o1 := ok.1
  intro n
  induction n with
  | zero =>
    intro k G T hk hr h
    have : k = 100 := by omega
    subst this
    rw [bX1_whenRest_8, if_pos k100]
    exact h G T
  | succ n ih =>
    intro k G T hk hr h
    have okk := okP_hours ok k
    have ok1 := okP_hours ok (k + 1)
    rw [bX1_whenRest_8, if_neg (k99 (by omega)), hr.1, hoursP_n, nI_clamp (by omega)]
    refine ⟨⟨nI_pos (by omega), o1, o1⟩, ?_⟩
    rintro G3 rfl
    refine X_goHour (b := b + k) (by omega) okk hr (fun T' hT' => ?_)
    try dsimp only
    have e0 : hoursP p (k + 1) 30 0 = p 30 0 := hoursP_n _
    have e1 : hoursP p k 30 0 = p 30 0 := hoursP_n _
    refine ⟨_, X_asBeforeL (q := hoursP p (k + 1)) (g := hoursP p k 4) ok1.1 (fun i hi => ⟨(ok1.2.2.2.1 i hi).2.2.2.2, (okk.2.2.2.1 i (by omega)).2.2.2.2⟩) hT' (fun i hi => ?_) (fun y => ?_) (fun y => ?_) (hoursP p (k + 1) 30 0) 0 (by omega) (fun i hi => by omega)⟩
    · rw [cpy2_in (by omega)]; exact (hr.2.2.2.1 i (by omega)).2.2.2.2
    · rw [if_neg bz_k]
      rw [fnd, cRs, decide_eq_true (fun i hi => y i (by omega)), if_pos rfl] at h
      exact h _ _
    · rw [if_pos rfl, nI_1]
      rintro x rfl
      refine ih (k + 1) _ T' (by omega) hT' ?_
      rw [fnd, if_neg (by rw [cRs, decide_eq_false (fun q => y (fun i hi => q i (by omega)))]; decide)] at h
      exact h
theorem M_rest34 {S : RT} {q : PT} {g : Nat → Nat} (hn : q 30 0 ≤ 8) (h20 : ∀ i, i < q 30 0 → q 4 i ≤ 20 ∧ g i ≤ 20) (hr : repM S q) (hG : ∀ i, i < q 30 0 → S 23 i = nI (g i)) {Q : Int32 → RT → Prop} (y : (∀ i, i < q 30 0 → q 4 i = g i) → Q 1 S) (z : (¬ ∀ i, i < q 30 0 → q 4 i = g i) → Q 0 S) : ∀ (n k : Nat), k + n = q 30 0 → (∀ i, i < k → q 4 i = g i) → bX7_isAtRest_34 Q (n + 1) S (nI k) := by
  intro n
  induction n with
  | zero =>
    intro k hk h
    rw [bX7_isAtRest_34, hr.1, if_pos (nI_le (by omega) (by omega))]
    exact y (fun i hi => h i (by omega))
  | succ n ih =>
    intro k hk h
    have hh := h20 k (by omega)
    rw [bX7_isAtRest_34, hr.1, if_neg (nI_ge (by omega) (by omega)), nI_clamp (by omega), (hr.2.2.2.1 k (by omega)).2.2.2.2, hG k (by omega)]
    refine ⟨(vin (by omega)).mpr (by omega), ?_⟩
    by_cases c : q 4 k = g k
    · rw [if_pos (by rw [c]), nI_1]
      rintro x rfl
      refine ih (k + 1) (by omega) (fun i hi => ?_)
      by_cases e : i = k
      · rw [e]; exact c
      · exact h i (by omega)
    · rw [if_neg (fun e => c ((nI_eq (by omega) (by omega)).mp e).symm)]
      exact z (fun e => c (e k (by omega)))
theorem M_rest2 {q : PT} (hn : q 30 0 ≤ 8) {S0 : RT} {Q : Int32 → RT → Prop} (h : ∀ S', repM S' q → (∀ i, i < q 30 0 → S' 23 i = nI (q 4 i)) → (∀ r, r ≠ 23 → S' r = S0 r) → wX7_goesHour S' (fun S_2 => ∃ j, bX7_isAtRest_34 Q j S_2 0)) : ∀ (n k : Nat) (S : RT), k + n = q 30 0 → repM S q → (∀ i, i < k → S 23 i = nI (q 4 i)) → (∀ r, r ≠ 23 → S r = S0 r) → bX7_isAtRest_2 Q (n + 1) S (nI k) := by
  intro n
  induction n with
  | zero =>
    intro k S hk hr g1 g2
    rw [bX7_isAtRest_2, hr.1, if_pos (nI_le (by omega) (by omega))]
    exact h S hr (fun i hi => g1 i (by omega)) g2
  | succ n ih =>
    intro k S hk hr g1 g2
    rw [bX7_isAtRest_2, hr.1, if_neg (nI_ge (by omega) (by omega)), nI_clamp (by omega), (hr.2.2.2.1 k (by omega)).2.2.2.2, nI_1]
    refine ⟨(vin (by omega)).mpr (by omega), ?_⟩
    rintro S4 rfl x rfl
    refine ih (k + 1) _ (by omega) (hr.st (by decide) (by decide)) (fun i hi => ?_) (fun r h => by rw [set2_a h]; exact g2 r h)
    by_cases e : i = k
    · rw [e, set2_s]
    · rw [set2_b e]; exact g1 i (by omega)
theorem M_restL {b : Nat} {p : PT} (hb : b < 1800) (ok : okP b p) {S0 : RT} (hw : S0 30 11 = -9) {Q : Int32 → RT → Prop} : ∀ (n k : Nat) (S : RT), k + n = 100 → repM S (hoursP p k) → svM S 2 p → agr 110 S0 S → (∀ S', repM S' p → agr 110 S0 S' → Q (fnd (cRs p) n k) S') → bX7_restsAt_9 Q (n + 2) S (-9) (nI k) := by
  have o1 := ok.1
  have o2 := ok.2.1
  intro n
  induction n with
  | zero =>
    intro k S hk hr hs hg h
    have : k = 100 := by omega
    subst this
    rw [bX7_restsAt_9, if_pos k100, bX7_restsAt_39]
    exact M_end o1 o2 hs hg h
  | succ n ih =>
    intro k S hk hr hs hg h
    have okk := okP_hours ok k
    have ok1 := okP_hours ok (k + 1)
    have e0 : hoursP p (k + 1) 30 0 = p 30 0 := hoursP_n _
    have e1 : hoursP p k 30 0 = p 30 0 := hoursP_n _
    rw [bX7_restsAt_9, if_neg (k99 (by omega)), if_neg n9_neg]
    refine ⟨_, M_rest2 (q := hoursP p k) okk.1 (S0 := S) (fun S1 g1 g2 g3 => ?_) (hoursP p k 30 0) 0 S (by omega) hr (fun i hi => by omega) (fun r _ => rfl)⟩
    have a1 : agr 165 S S1 := ⟨g3 0 (by decide), g3 12 (by decide), g3 25 (by decide), by rw [g3 30 (by decide)], by rw [g3 30 (by decide)], by rw [g3 30 (by decide)], by rw [g3 30 (by decide)], fun b _ => by rw [g3 19 (by decide)]⟩
    refine M_goesHour (w := -9) (b := b + k) (by omega) okk g1 (by rw [a1.2.2.2.2.2.2.1, hg.2.2.2.2.2.2.1]; exact hw) (fun S' h1 h2 => ?_)
    try dsimp only
    have hs' := sv_go o1 o2 (agr.sv a1 (by decide) o1 o2 hs) h2
    have hg' := (hg.tr (a1.lo (by decide))).tr (h2.agr.lo (show 110 ≤ 165 by decide))
    refine ⟨_, M_rest34 (q := hoursP p (k + 1)) (g := hoursP p k 4) ok1.1 (fun i hi => ⟨(ok1.2.2.2.1 i hi).2.2.2.2, (okk.2.2.2.1 i (by omega)).2.2.2.2⟩) h1 (fun i hi => ?_) (fun y => ?_) (fun y => ?_) (hoursP p (k + 1) 30 0) 0 (by omega) (fun i hi => by omega)⟩
    · rw [h2.1 23 (by decide) (by decide)]; exact g2 i (by omega)
    · rw [if_neg bz_k]
      unfold bX7_restsAt_32
      rw [nI_1]
      rintro x rfl
      rw [fnd, cRs, decide_eq_true (fun i hi => y i (by omega)), if_pos rfl] at h
      have fin : wX7_forgets S' (fun S_1 => Q (nI k) S_1) := M_end o1 o2 hs' hg' h
      rw [bX7_restsAt_9, bX7_restsAt_39, if_pos (nI_pos' (by omega))]
      split
      · exact fin
      · exact fin
    · rw [if_pos rfl]
      unfold bX7_restsAt_32
      rw [nI_1]
      rintro x rfl
      refine ih (k + 1) S' (by omega) h1 hs' hg' ?_
      rw [fnd, if_neg (by rw [cRs, decide_eq_false (fun q => y (fun i hi => q i (by omega)))]; decide)] at h
      exact h
theorem st_first : St_first Inv9 := by
  intro F P K G T N L S hI a1
  obtain ⟨p, ok, hx, hm, hq⟩ := hI
  have o1 := ok.1
  have o2 := ok.2.1
  have ML : ∀ {a1 : Int32} {Q : Int32 → RT → Prop}, (∀ b w S', FS (c20 p) (p 30 0) b w → repM S' p → agr 110 S S' → Q (if a1 = 0 then b else w) S') → ∃ j, bX7_first_35 Q j S a1 (-9) (-9) 0 := fun h => ⟨_, M_firstL (b := 999) (by decide) ok hq.1 h (p 30 0) 0 S (-9) (-9) (by omega) hm agr.rf (Or.inl ⟨rfl, rfl, fun t ht => by omega⟩)⟩
  unfold wX6_first wX7_first
  by_cases c0 : a1 = 0
  · subst c0
    rw [if_pos rfl]
    unfold wX1_whoFirst wX1_whenFirst
    refine X_begin o1 o2 hx (fun T1 h1 => ?_)
    try dsimp only
    refine ⟨_, X_whenFirstL (b := 999) (by decide) ok (fun T' g => ?_) (fun T' k t g1 g2 g3 g4 g5 g6 => ?_) 100 0 T1 rfl h1 (fun _ _ _ _ => by omega)⟩
    · rw [if_pos rfl]
      refine M_isIn ?_
      try dsimp only
      rw [if_neg (by decide), if_neg (by decide)]
      refine ML (fun b w S' q1 q2 q3 => ?_)
      exact ⟨(FS.uq (Or.inl ⟨rfl, rfl, g⟩) q1).1, Inv9.ag ok hx hq q2 q3 _ _⟩
    · have okk := okP_hours ok k
      rw [if_neg (nI_ne9 (by omega))]
      refine X_leastTop okk.1 (fun i hi => (okk.2.2.2.1 i hi).2.2.2.2) g2 ?_
      try dsimp only
      have e : fnd (fun t => decide (20 ≤ hoursP p k 4 t)) (hoursP p k 30 0) 0 = nI t := by
        rcases fnd_s (fun t => decide (20 ≤ hoursP p k 4 t)) (hoursP p k 30 0) 0 with ⟨a, b1⟩ | ⟨i, a1, a2, a3, a4, a5⟩
        · have := b1 t (by omega) (by rw [hoursP_n]; omega)
          rw [show decide (20 ≤ hoursP p k 4 t) = true from g5] at this; cases this
        · rw [a3]
          rcases Nat.lt_trichotomy i t with q | q | q
          · have := g6 i q; rw [show c20 p i k = true from a4] at this; cases this
          · rw [q]
          · have := a5 t (by omega) q; rw [show decide (20 ≤ hoursP p k 4 t) = true from g5] at this; cases this
      rw [e]
      refine M_isIn ?_
      try dsimp only
      rw [if_neg (by decide), if_neg (by decide)]
      refine ML (fun b w S' q1 q2 q3 => ?_)
      exact ⟨(FS.uq (Or.inr ⟨t, k, g3, g1, rfl, rfl, g5, g4, g6⟩) q1).1, Inv9.ag ok hx hq q2 q3 _ _⟩
  rw [if_neg c0]
  by_cases c1 : a1 = 1
  · subst c1
    rw [if_pos rfl]
    unfold wX1_whenFirst
    refine X_begin o1 o2 hx (fun T1 h1 => ?_)
    try dsimp only
    refine ⟨_, X_whenFirstL (b := 999) (by decide) ok (fun T' g => ?_) (fun T' k t g1 g2 g3 g4 g5 g6 => ?_) 100 0 T1 rfl h1 (fun _ _ _ _ => by omega)⟩
    · refine M_isIn ?_
      try dsimp only
      rw [if_neg (by decide), if_neg (by decide)]
      refine ML (fun b w S' q1 q2 q3 => ?_)
      exact ⟨(FS.uq (Or.inl ⟨rfl, rfl, g⟩) q1).2, Inv9.ag ok hx hq q2 q3 _ _⟩
    · refine M_isIn ?_
      try dsimp only
      rw [if_neg (by decide), if_neg (by decide)]
      refine ML (fun b w S' q1 q2 q3 => ?_)
      exact ⟨(FS.uq (Or.inr ⟨t, k, g3, g1, rfl, rfl, g5, g4, g6⟩) q1).2, Inv9.ag ok hx hq q2 q3 _ _⟩
  rw [if_neg c1]
  by_cases c2 : a1 = 2
  · subst c2
    rw [if_pos rfl]
    unfold wX1_whenRest
    refine X_begin o1 o2 hx (fun T1 h1 => ?_)
    try dsimp only
    refine ⟨_, X_restL (b := 999) (by decide) ok 100 0 G T1 rfl h1 (fun G' T' => ?_)⟩
    refine M_isIn ?_
    try dsimp only
    rw [if_neg (by decide), if_pos rfl]
    unfold wX7_restsAt
    exact M_thinks o1 o2 hm (fun S1 h1 h2 h3 => ⟨_, M_restL (b := 999) (by decide) ok hq.1 100 0 S1 rfl h1 h2 h3 (fun S' h6 h7 => ⟨rfl, Inv9.ag ok hx hq h6 h7 _ _⟩)⟩)
  · rw [if_neg c2]
    have hn : ¬ (0 ≤ a1 ∧ a1 ≤ 2) := by
      rintro ⟨q1, q2⟩
      obtain ⟨j, hj, e⟩ := nI_of2 (M := 2) (n := 2) rfl (fun q => (il.mp q) q1) q2
      have : j = 0 ∨ j = 1 ∨ j = 2 := by omega
      rcases this with rfl | rfl | rfl
      · exact c0 e
      · exact c1 e
      · exact c2 e
    refine X_ref 2 (by decide) (by decide) (M_isIn ?_)
    try dsimp only
    rw [if_pos (if_neg hn)]
    exact M_no 2 (by decide) (by decide) ⟨rfl, Inv9.ref ok hx hm hq 2 G T⟩
