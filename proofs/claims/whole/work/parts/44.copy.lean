/-! ===== PURE: copies (laid by wip/whole/copy.py) ===== -/
def putK (S : RT) (r c n : Nat) : RT := fun a b => if a = 19 then (if c ≤ b ∧ b < c + n then S r (b - c) else S 19 b) else if a = 30 then (if b = 22 then nI (c + n) else S 30 b) else S a b
def getK (S : RT) (r c n : Nat) : RT := fun a b => if a = r then (if b < n then S 19 (c + b) else S r b) else if a = 30 then (if b = 22 then nI (c + n) else S 30 b) else S a b
theorem putK_0 {S : RT} {r c : Nat} (h : S 30 22 = nI c) : putK S r c 0 = S := by
  funext a b
  unfold putK
  by_cases ha : a = 19
  · subst ha; rw [if_pos rfl, if_neg (by omega)]
  · rw [if_neg ha]
    by_cases hb : a = 30
    · subst hb; rw [if_pos rfl]
      by_cases hc : b = 22
      · subst hc; rw [if_pos rfl, h]; rfl
      · rw [if_neg hc]
    · rw [if_neg hb]
theorem getK_0 {S : RT} {r c : Nat} (h : S 30 22 = nI c) : getK S r c 0 = S := by
  funext a b
  unfold getK
  by_cases ha : a = r
  · subst ha; rw [if_pos rfl, if_neg (by omega)]
  · rw [if_neg ha]
    by_cases hb : a = 30
    · subst hb; rw [if_pos rfl]
      by_cases hc : b = 22
      · subst hc; rw [if_pos rfl, h]; rfl
      · rw [if_neg hc]
    · rw [if_neg hb]
theorem putK_s {S : RT} {r c k : Nat} (hr : r ≠ 19) (hr2 : r ≠ 30) : set2 (set2 (putK S r c k) 19 (c + k) (putK S r c k r k)) 30 22 (nI (c + k) + 1) = putK S r c (k + 1) := by
  have e : putK S r c k r k = S r k := by unfold putK; rw [if_neg hr, if_neg hr2]
  rw [e]
  funext a b
  unfold set2 putK
  by_cases ha : a = 19
  · subst ha
    simp only [if_neg (show ¬ (19 : Nat) = 30 by decide), if_true]
    by_cases hb : b = c + k
    · subst hb; rw [if_pos rfl, if_pos (by omega)]; congr 1; omega
    · rw [if_neg hb]
      by_cases hc : c ≤ b ∧ b < c + k
      · rw [if_pos hc, if_pos (by omega)]
      · rw [if_neg hc, if_neg (by omega)]
  · by_cases hb : a = 30
    · subst hb
      simp only [if_neg (show ¬ (30 : Nat) = 19 by decide), if_true]
      by_cases hc : b = 22
      · rw [if_pos hc, if_pos hc, nI_1]; rfl
      · rw [if_neg hc, if_neg hc, if_neg hc]
    · simp only [if_neg ha, if_neg hb]
theorem getK_s {S : RT} {r c k : Nat} (hr : r ≠ 19) (hr2 : r ≠ 30) : set2 (set2 (getK S r c k) r k (getK S r c k 19 (c + k))) 30 22 (nI (c + k) + 1) = getK S r c (k + 1) := by
  have e : getK S r c k 19 (c + k) = S 19 (c + k) := by unfold getK; rw [if_neg (Ne.symm hr), if_neg (by decide)]
  rw [e]
  funext a b
  unfold set2 getK
  by_cases ha : a = r
  · subst ha
    simp only [if_neg hr2, if_true]
    by_cases hb : b = k
    · subst hb; rw [if_pos rfl, if_pos (by omega)]
    · rw [if_neg hb]
      by_cases hc : b < k
      · rw [if_pos hc, if_pos (by omega)]
      · rw [if_neg hc, if_neg (by omega)]
  · by_cases hb : a = 30
    · subst hb
      simp only [if_neg ha, if_true]
      by_cases hc : b = 22
      · rw [if_pos hc, if_pos hc, nI_1]; rfl
      · rw [if_neg hc, if_neg hc, if_neg hc]
    · simp only [if_neg ha, if_neg hb]
theorem putK_21 {S : RT} {r c k j : Nat} (h : j ≠ 22) : putK S r c k 30 j = S 30 j := by unfold putK; rw [if_neg (by decide), if_pos rfl, if_neg h]
theorem putK_22 {S : RT} {r c k : Nat} : putK S r c k 30 22 = nI (c + k) := by unfold putK; rw [if_neg (by decide), if_pos rfl, if_pos rfl]
theorem putK_a {S : RT} {r c k a : Nat} (h : a ≠ 19) (h2 : a ≠ 30) : putK S r c k a = S a := by funext b; unfold putK; rw [if_neg h, if_neg h2]
theorem putK_in {S : RT} {r c k b : Nat} (h : c ≤ b ∧ b < c + k) : putK S r c k 19 b = S r (b - c) := by unfold putK; rw [if_pos rfl, if_pos h]
theorem putK_out {S : RT} {r c k b : Nat} (h : ¬ (c ≤ b ∧ b < c + k)) : putK S r c k 19 b = S 19 b := by unfold putK; rw [if_pos rfl, if_neg h]
theorem getK_21 {S : RT} {r c k j : Nat} (hr : 30 ≠ r) (h : j ≠ 22) : getK S r c k 30 j = S 30 j := by unfold getK; rw [if_neg hr, if_pos rfl, if_neg h]
theorem getK_22 {S : RT} {r c k : Nat} (hr : 30 ≠ r) : getK S r c k 30 22 = nI (c + k) := by unfold getK; rw [if_neg hr, if_pos rfl, if_pos rfl]
theorem getK_a {S : RT} {r c k a : Nat} (h : a ≠ r) (h2 : a ≠ 30) : getK S r c k a = S a := by funext b; unfold getK; rw [if_neg h, if_neg h2]
theorem getK_in {S : RT} {r c k b : Nat} (h : b < k) : getK S r c k r b = S 19 (c + b) := by unfold getK; rw [if_pos rfl, if_pos h]
theorem set2_a {S : RT} {r i a : Nat} {v : Int32} (h : a ≠ r) : set2 S r i v a = S a := by funext b; unfold set2; rw [if_neg h]
theorem set2_b {S : RT} {r i b : Nat} {v : Int32} (h : b ≠ i) : set2 S r i v r b = S r b := by unfold set2; rw [if_pos rfl, if_neg h]
theorem set2_s {S : RT} {r i : Nat} {v : Int32} : set2 S r i v r i = v := by unfold set2; rw [if_pos rfl, if_pos rfl]
theorem bz_k : ¬ (1 : Int32) = 0 := by decide
theorem M_keepL_1 {S : RT} {c : Nat} (h21 : S 30 21 = 1) (hc : c + 8 ≤ 165) {Q : RT → Prop} (h : Q (putK S 1 c 8)) : ∀ (n k : Nat), k + n = 8 → bX7_passes_1_2 Q (n + 1) (putK S 1 c k) (nI k) := by
  intro n
  induction n with
  | zero =>
    intro k hk
    rw [bX7_passes_1_2, l8, if_pos (nI_le (by omega) (by omega))]
    have : k = 8 := by omega
    subst this
    exact h
  | succ n ih =>
    intro k hk
    rw [bX7_passes_1_2, l8, if_neg (nI_ge (by omega) (by omega)), putK_21 (by decide), h21, if_neg bz_k, putK_22, nI_clamp (by omega), nI_clamp (by omega)]
    refine ⟨(vin (by omega)).mpr (by omega), (vin (by omega)).mpr (by omega), ?_⟩
    rintro S5 rfl
    unfold bX7_passes_1_42
    rw [set2_a (by decide), putK_22, putK_s (by decide) (by decide), nI_1]
    rintro S6 rfl x rfl
    exact ih (k + 1) (by omega)
theorem M_keep_1 {S : RT} {c : Nat} (h21 : S 30 21 = 1) (h22 : S 30 22 = nI c) (hc : c + 8 ≤ 165) {Q : RT → Prop} (h : Q (putK S 1 c 8)) : wX7_passes_1 S Q := by
  have := M_keepL_1 h21 hc h 8 0 rfl
  rw [putK_0 h22] at this
  exact ⟨_, this⟩
theorem M_backL_1 {S : RT} {c : Nat} (h21 : S 30 21 = 0) (hc : c + 8 ≤ 165) {Q : RT → Prop} (h : Q (getK S 1 c 8)) : ∀ (n k : Nat), k + n = 8 → bX7_passes_1_2 Q (n + 1) (getK S 1 c k) (nI k) := by
  intro n
  induction n with
  | zero =>
    intro k hk
    rw [bX7_passes_1_2, l8, if_pos (nI_le (by omega) (by omega))]
    have : k = 8 := by omega
    subst this
    exact h
  | succ n ih =>
    intro k hk
    rw [bX7_passes_1_2, l8, if_neg (nI_ge (by omega) (by omega)), getK_21 (by decide) (by decide), h21, if_pos rfl, getK_22 (by decide), nI_clamp (by omega), nI_clamp (by omega)]
    refine ⟨(vin (by omega)).mpr (by omega), (vin (by omega)).mpr (by omega), ?_⟩
    rintro S5 rfl
    unfold bX7_passes_1_42
    rw [set2_a (by decide), getK_22 (by decide), getK_s (by decide) (by decide), nI_1]
    rintro S6 rfl x rfl
    exact ih (k + 1) (by omega)
theorem M_back_1 {S : RT} {c : Nat} (h21 : S 30 21 = 0) (h22 : S 30 22 = nI c) (hc : c + 8 ≤ 165) {Q : RT → Prop} (h : Q (getK S 1 c 8)) : wX7_passes_1 S Q := by
  have := M_backL_1 h21 hc h 8 0 rfl
  rw [getK_0 h22] at this
  exact ⟨_, this⟩
theorem M_keepL_2 {S : RT} {c : Nat} (h21 : S 30 21 = 1) (hc : c + 8 ≤ 165) {Q : RT → Prop} (h : Q (putK S 2 c 8)) : ∀ (n k : Nat), k + n = 8 → bX7_passes_2_2 Q (n + 1) (putK S 2 c k) (nI k) := by
  intro n
  induction n with
  | zero =>
    intro k hk
    rw [bX7_passes_2_2, l8, if_pos (nI_le (by omega) (by omega))]
    have : k = 8 := by omega
    subst this
    exact h
  | succ n ih =>
    intro k hk
    rw [bX7_passes_2_2, l8, if_neg (nI_ge (by omega) (by omega)), putK_21 (by decide), h21, if_neg bz_k, putK_22, nI_clamp (by omega), nI_clamp (by omega)]
    refine ⟨(vin (by omega)).mpr (by omega), (vin (by omega)).mpr (by omega), ?_⟩
    rintro S5 rfl
    unfold bX7_passes_2_42
    rw [set2_a (by decide), putK_22, putK_s (by decide) (by decide), nI_1]
    rintro S6 rfl x rfl
    exact ih (k + 1) (by omega)
theorem M_keep_2 {S : RT} {c : Nat} (h21 : S 30 21 = 1) (h22 : S 30 22 = nI c) (hc : c + 8 ≤ 165) {Q : RT → Prop} (h : Q (putK S 2 c 8)) : wX7_passes_2 S Q := by
  have := M_keepL_2 h21 hc h 8 0 rfl
  rw [putK_0 h22] at this
  exact ⟨_, this⟩
theorem M_backL_2 {S : RT} {c : Nat} (h21 : S 30 21 = 0) (hc : c + 8 ≤ 165) {Q : RT → Prop} (h : Q (getK S 2 c 8)) : ∀ (n k : Nat), k + n = 8 → bX7_passes_2_2 Q (n + 1) (getK S 2 c k) (nI k) := by
  intro n
  induction n with
  | zero =>
    intro k hk
    rw [bX7_passes_2_2, l8, if_pos (nI_le (by omega) (by omega))]
    have : k = 8 := by omega
    subst this
    exact h
  | succ n ih =>
    intro k hk
    rw [bX7_passes_2_2, l8, if_neg (nI_ge (by omega) (by omega)), getK_21 (by decide) (by decide), h21, if_pos rfl, getK_22 (by decide), nI_clamp (by omega), nI_clamp (by omega)]
    refine ⟨(vin (by omega)).mpr (by omega), (vin (by omega)).mpr (by omega), ?_⟩
    rintro S5 rfl
    unfold bX7_passes_2_42
    rw [set2_a (by decide), getK_22 (by decide), getK_s (by decide) (by decide), nI_1]
    rintro S6 rfl x rfl
    exact ih (k + 1) (by omega)
theorem M_back_2 {S : RT} {c : Nat} (h21 : S 30 21 = 0) (h22 : S 30 22 = nI c) (hc : c + 8 ≤ 165) {Q : RT → Prop} (h : Q (getK S 2 c 8)) : wX7_passes_2 S Q := by
  have := M_backL_2 h21 hc h 8 0 rfl
  rw [getK_0 h22] at this
  exact ⟨_, this⟩
theorem M_keepL_3 {S : RT} {c : Nat} (h21 : S 30 21 = 1) (hc : c + 8 ≤ 165) {Q : RT → Prop} (h : Q (putK S 3 c 8)) : ∀ (n k : Nat), k + n = 8 → bX7_passes_3_2 Q (n + 1) (putK S 3 c k) (nI k) := by
  intro n
  induction n with
  | zero =>
    intro k hk
    rw [bX7_passes_3_2, l8, if_pos (nI_le (by omega) (by omega))]
    have : k = 8 := by omega
    subst this
    exact h
  | succ n ih =>
    intro k hk
    rw [bX7_passes_3_2, l8, if_neg (nI_ge (by omega) (by omega)), putK_21 (by decide), h21, if_neg bz_k, putK_22, nI_clamp (by omega), nI_clamp (by omega)]
    refine ⟨(vin (by omega)).mpr (by omega), (vin (by omega)).mpr (by omega), ?_⟩
    rintro S5 rfl
    unfold bX7_passes_3_42
    rw [set2_a (by decide), putK_22, putK_s (by decide) (by decide), nI_1]
    rintro S6 rfl x rfl
    exact ih (k + 1) (by omega)
theorem M_keep_3 {S : RT} {c : Nat} (h21 : S 30 21 = 1) (h22 : S 30 22 = nI c) (hc : c + 8 ≤ 165) {Q : RT → Prop} (h : Q (putK S 3 c 8)) : wX7_passes_3 S Q := by
  have := M_keepL_3 h21 hc h 8 0 rfl
  rw [putK_0 h22] at this
  exact ⟨_, this⟩
theorem M_backL_3 {S : RT} {c : Nat} (h21 : S 30 21 = 0) (hc : c + 8 ≤ 165) {Q : RT → Prop} (h : Q (getK S 3 c 8)) : ∀ (n k : Nat), k + n = 8 → bX7_passes_3_2 Q (n + 1) (getK S 3 c k) (nI k) := by
  intro n
  induction n with
  | zero =>
    intro k hk
    rw [bX7_passes_3_2, l8, if_pos (nI_le (by omega) (by omega))]
    have : k = 8 := by omega
    subst this
    exact h
  | succ n ih =>
    intro k hk
    rw [bX7_passes_3_2, l8, if_neg (nI_ge (by omega) (by omega)), getK_21 (by decide) (by decide), h21, if_pos rfl, getK_22 (by decide), nI_clamp (by omega), nI_clamp (by omega)]
    refine ⟨(vin (by omega)).mpr (by omega), (vin (by omega)).mpr (by omega), ?_⟩
    rintro S5 rfl
    unfold bX7_passes_3_42
    rw [set2_a (by decide), getK_22 (by decide), getK_s (by decide) (by decide), nI_1]
    rintro S6 rfl x rfl
    exact ih (k + 1) (by omega)
theorem M_back_3 {S : RT} {c : Nat} (h21 : S 30 21 = 0) (h22 : S 30 22 = nI c) (hc : c + 8 ≤ 165) {Q : RT → Prop} (h : Q (getK S 3 c 8)) : wX7_passes_3 S Q := by
  have := M_backL_3 h21 hc h 8 0 rfl
  rw [getK_0 h22] at this
  exact ⟨_, this⟩
theorem M_keepL_4 {S : RT} {c : Nat} (h21 : S 30 21 = 1) (hc : c + 8 ≤ 165) {Q : RT → Prop} (h : Q (putK S 4 c 8)) : ∀ (n k : Nat), k + n = 8 → bX7_passes_4_2 Q (n + 1) (putK S 4 c k) (nI k) := by
  intro n
  induction n with
  | zero =>
    intro k hk
    rw [bX7_passes_4_2, l8, if_pos (nI_le (by omega) (by omega))]
    have : k = 8 := by omega
    subst this
    exact h
  | succ n ih =>
    intro k hk
    rw [bX7_passes_4_2, l8, if_neg (nI_ge (by omega) (by omega)), putK_21 (by decide), h21, if_neg bz_k, putK_22, nI_clamp (by omega), nI_clamp (by omega)]
    refine ⟨(vin (by omega)).mpr (by omega), (vin (by omega)).mpr (by omega), ?_⟩
    rintro S5 rfl
    unfold bX7_passes_4_42
    rw [set2_a (by decide), putK_22, putK_s (by decide) (by decide), nI_1]
    rintro S6 rfl x rfl
    exact ih (k + 1) (by omega)
theorem M_keep_4 {S : RT} {c : Nat} (h21 : S 30 21 = 1) (h22 : S 30 22 = nI c) (hc : c + 8 ≤ 165) {Q : RT → Prop} (h : Q (putK S 4 c 8)) : wX7_passes_4 S Q := by
  have := M_keepL_4 h21 hc h 8 0 rfl
  rw [putK_0 h22] at this
  exact ⟨_, this⟩
theorem M_backL_4 {S : RT} {c : Nat} (h21 : S 30 21 = 0) (hc : c + 8 ≤ 165) {Q : RT → Prop} (h : Q (getK S 4 c 8)) : ∀ (n k : Nat), k + n = 8 → bX7_passes_4_2 Q (n + 1) (getK S 4 c k) (nI k) := by
  intro n
  induction n with
  | zero =>
    intro k hk
    rw [bX7_passes_4_2, l8, if_pos (nI_le (by omega) (by omega))]
    have : k = 8 := by omega
    subst this
    exact h
  | succ n ih =>
    intro k hk
    rw [bX7_passes_4_2, l8, if_neg (nI_ge (by omega) (by omega)), getK_21 (by decide) (by decide), h21, if_pos rfl, getK_22 (by decide), nI_clamp (by omega), nI_clamp (by omega)]
    refine ⟨(vin (by omega)).mpr (by omega), (vin (by omega)).mpr (by omega), ?_⟩
    rintro S5 rfl
    unfold bX7_passes_4_42
    rw [set2_a (by decide), getK_22 (by decide), getK_s (by decide) (by decide), nI_1]
    rintro S6 rfl x rfl
    exact ih (k + 1) (by omega)
theorem M_back_4 {S : RT} {c : Nat} (h21 : S 30 21 = 0) (h22 : S 30 22 = nI c) (hc : c + 8 ≤ 165) {Q : RT → Prop} (h : Q (getK S 4 c 8)) : wX7_passes_4 S Q := by
  have := M_backL_4 h21 hc h 8 0 rfl
  rw [getK_0 h22] at this
  exact ⟨_, this⟩
theorem M_keepL_5 {S : RT} {c : Nat} (h21 : S 30 21 = 1) (hc : c + 8 ≤ 165) {Q : RT → Prop} (h : Q (putK S 5 c 8)) : ∀ (n k : Nat), k + n = 8 → bX7_passes_5_2 Q (n + 1) (putK S 5 c k) (nI k) := by
  intro n
  induction n with
  | zero =>
    intro k hk
    rw [bX7_passes_5_2, l8, if_pos (nI_le (by omega) (by omega))]
    have : k = 8 := by omega
    subst this
    exact h
  | succ n ih =>
    intro k hk
    rw [bX7_passes_5_2, l8, if_neg (nI_ge (by omega) (by omega)), putK_21 (by decide), h21, if_neg bz_k, putK_22, nI_clamp (by omega), nI_clamp (by omega)]
    refine ⟨(vin (by omega)).mpr (by omega), (vin (by omega)).mpr (by omega), ?_⟩
    rintro S5 rfl
    unfold bX7_passes_5_42
    rw [set2_a (by decide), putK_22, putK_s (by decide) (by decide), nI_1]
    rintro S6 rfl x rfl
    exact ih (k + 1) (by omega)
theorem M_keep_5 {S : RT} {c : Nat} (h21 : S 30 21 = 1) (h22 : S 30 22 = nI c) (hc : c + 8 ≤ 165) {Q : RT → Prop} (h : Q (putK S 5 c 8)) : wX7_passes_5 S Q := by
  have := M_keepL_5 h21 hc h 8 0 rfl
  rw [putK_0 h22] at this
  exact ⟨_, this⟩
theorem M_backL_5 {S : RT} {c : Nat} (h21 : S 30 21 = 0) (hc : c + 8 ≤ 165) {Q : RT → Prop} (h : Q (getK S 5 c 8)) : ∀ (n k : Nat), k + n = 8 → bX7_passes_5_2 Q (n + 1) (getK S 5 c k) (nI k) := by
  intro n
  induction n with
  | zero =>
    intro k hk
    rw [bX7_passes_5_2, l8, if_pos (nI_le (by omega) (by omega))]
    have : k = 8 := by omega
    subst this
    exact h
  | succ n ih =>
    intro k hk
    rw [bX7_passes_5_2, l8, if_neg (nI_ge (by omega) (by omega)), getK_21 (by decide) (by decide), h21, if_pos rfl, getK_22 (by decide), nI_clamp (by omega), nI_clamp (by omega)]
    refine ⟨(vin (by omega)).mpr (by omega), (vin (by omega)).mpr (by omega), ?_⟩
    rintro S5 rfl
    unfold bX7_passes_5_42
    rw [set2_a (by decide), getK_22 (by decide), getK_s (by decide) (by decide), nI_1]
    rintro S6 rfl x rfl
    exact ih (k + 1) (by omega)
theorem M_back_5 {S : RT} {c : Nat} (h21 : S 30 21 = 0) (h22 : S 30 22 = nI c) (hc : c + 8 ≤ 165) {Q : RT → Prop} (h : Q (getK S 5 c 8)) : wX7_passes_5 S Q := by
  have := M_backL_5 h21 hc h 8 0 rfl
  rw [getK_0 h22] at this
  exact ⟨_, this⟩
theorem M_keepL_6 {S : RT} {c : Nat} (h21 : S 30 21 = 1) (hc : c + 6 ≤ 165) {Q : RT → Prop} (h : Q (putK S 6 c 6)) : ∀ (n k : Nat), k + n = 6 → bX7_passes_6_2 Q (n + 1) (putK S 6 c k) (nI k) := by
  intro n
  induction n with
  | zero =>
    intro k hk
    rw [bX7_passes_6_2, l6, if_pos (nI_le (by omega) (by omega))]
    have : k = 6 := by omega
    subst this
    exact h
  | succ n ih =>
    intro k hk
    rw [bX7_passes_6_2, l6, if_neg (nI_ge (by omega) (by omega)), putK_21 (by decide), h21, if_neg bz_k, putK_22, nI_clamp (by omega), nI_clamp (by omega)]
    refine ⟨(vin (by omega)).mpr (by omega), (vin (by omega)).mpr (by omega), ?_⟩
    rintro S5 rfl
    unfold bX7_passes_6_42
    rw [set2_a (by decide), putK_22, putK_s (by decide) (by decide), nI_1]
    rintro S6 rfl x rfl
    exact ih (k + 1) (by omega)
theorem M_keep_6 {S : RT} {c : Nat} (h21 : S 30 21 = 1) (h22 : S 30 22 = nI c) (hc : c + 6 ≤ 165) {Q : RT → Prop} (h : Q (putK S 6 c 6)) : wX7_passes_6 S Q := by
  have := M_keepL_6 h21 hc h 6 0 rfl
  rw [putK_0 h22] at this
  exact ⟨_, this⟩
theorem M_backL_6 {S : RT} {c : Nat} (h21 : S 30 21 = 0) (hc : c + 6 ≤ 165) {Q : RT → Prop} (h : Q (getK S 6 c 6)) : ∀ (n k : Nat), k + n = 6 → bX7_passes_6_2 Q (n + 1) (getK S 6 c k) (nI k) := by
  intro n
  induction n with
  | zero =>
    intro k hk
    rw [bX7_passes_6_2, l6, if_pos (nI_le (by omega) (by omega))]
    have : k = 6 := by omega
    subst this
    exact h
  | succ n ih =>
    intro k hk
    rw [bX7_passes_6_2, l6, if_neg (nI_ge (by omega) (by omega)), getK_21 (by decide) (by decide), h21, if_pos rfl, getK_22 (by decide), nI_clamp (by omega), nI_clamp (by omega)]
    refine ⟨(vin (by omega)).mpr (by omega), (vin (by omega)).mpr (by omega), ?_⟩
    rintro S5 rfl
    unfold bX7_passes_6_42
    rw [set2_a (by decide), getK_22 (by decide), getK_s (by decide) (by decide), nI_1]
    rintro S6 rfl x rfl
    exact ih (k + 1) (by omega)
theorem M_back_6 {S : RT} {c : Nat} (h21 : S 30 21 = 0) (h22 : S 30 22 = nI c) (hc : c + 6 ≤ 165) {Q : RT → Prop} (h : Q (getK S 6 c 6)) : wX7_passes_6 S Q := by
  have := M_backL_6 h21 hc h 6 0 rfl
  rw [getK_0 h22] at this
  exact ⟨_, this⟩
theorem M_keepL_7 {S : RT} {c : Nat} (h21 : S 30 21 = 1) (hc : c + 6 ≤ 165) {Q : RT → Prop} (h : Q (putK S 7 c 6)) : ∀ (n k : Nat), k + n = 6 → bX7_passes_7_2 Q (n + 1) (putK S 7 c k) (nI k) := by
  intro n
  induction n with
  | zero =>
    intro k hk
    rw [bX7_passes_7_2, l6, if_pos (nI_le (by omega) (by omega))]
    have : k = 6 := by omega
    subst this
    exact h
  | succ n ih =>
    intro k hk
    rw [bX7_passes_7_2, l6, if_neg (nI_ge (by omega) (by omega)), putK_21 (by decide), h21, if_neg bz_k, putK_22, nI_clamp (by omega), nI_clamp (by omega)]
    refine ⟨(vin (by omega)).mpr (by omega), (vin (by omega)).mpr (by omega), ?_⟩
    rintro S5 rfl
    unfold bX7_passes_7_42
    rw [set2_a (by decide), putK_22, putK_s (by decide) (by decide), nI_1]
    rintro S6 rfl x rfl
    exact ih (k + 1) (by omega)
theorem M_keep_7 {S : RT} {c : Nat} (h21 : S 30 21 = 1) (h22 : S 30 22 = nI c) (hc : c + 6 ≤ 165) {Q : RT → Prop} (h : Q (putK S 7 c 6)) : wX7_passes_7 S Q := by
  have := M_keepL_7 h21 hc h 6 0 rfl
  rw [putK_0 h22] at this
  exact ⟨_, this⟩
theorem M_backL_7 {S : RT} {c : Nat} (h21 : S 30 21 = 0) (hc : c + 6 ≤ 165) {Q : RT → Prop} (h : Q (getK S 7 c 6)) : ∀ (n k : Nat), k + n = 6 → bX7_passes_7_2 Q (n + 1) (getK S 7 c k) (nI k) := by
  intro n
  induction n with
  | zero =>
    intro k hk
    rw [bX7_passes_7_2, l6, if_pos (nI_le (by omega) (by omega))]
    have : k = 6 := by omega
    subst this
    exact h
  | succ n ih =>
    intro k hk
    rw [bX7_passes_7_2, l6, if_neg (nI_ge (by omega) (by omega)), getK_21 (by decide) (by decide), h21, if_pos rfl, getK_22 (by decide), nI_clamp (by omega), nI_clamp (by omega)]
    refine ⟨(vin (by omega)).mpr (by omega), (vin (by omega)).mpr (by omega), ?_⟩
    rintro S5 rfl
    unfold bX7_passes_7_42
    rw [set2_a (by decide), getK_22 (by decide), getK_s (by decide) (by decide), nI_1]
    rintro S6 rfl x rfl
    exact ih (k + 1) (by omega)
theorem M_back_7 {S : RT} {c : Nat} (h21 : S 30 21 = 0) (h22 : S 30 22 = nI c) (hc : c + 6 ≤ 165) {Q : RT → Prop} (h : Q (getK S 7 c 6)) : wX7_passes_7 S Q := by
  have := M_backL_7 h21 hc h 6 0 rfl
  rw [getK_0 h22] at this
  exact ⟨_, this⟩
