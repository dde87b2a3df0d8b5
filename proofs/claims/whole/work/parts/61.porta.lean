/-! ===== PURE: the letters: shapes and bad places, the class (laid by wip/whole/p61.py) ===== -/
def zkx (ch : Nat) : Nat := if ch = 116 then 0 else if ch = 112 then 1 else if ch = 98 then 2 else if ch = 115 then 3 else if ch = 102 then 4 else if ch = 105 then 5 else 6
def zsh (ch : Nat) : Nat := if ch = 116 then 0 else if ch = 114 then 1 else if ch = 99 then 2 else if ch = 115 then 3 else if ch = 117 then 4 else if ch = 104 then 5 else 6
def zln (ch : Nat) : Nat := if ch = 116 then 6 else if ch = 114 then 4 else if ch = 99 then 3 else if ch = 115 then 4 else if ch = 117 then 5 else if ch = 104 then 4 else 0
def zfm (ch i : Nat) : Nat := if i + 1 = zln ch then 59 else if ch = 116 ∧ i = 1 then 107 else 48
def zft (x f : Nat) : Bool := if f = 48 then decide (48 ≤ x ∧ x ≤ 57) else if f = 107 then decide (zkx x < 6) else decide (x = f)
theorem let6 (ch : Nat) : ch = 116 ∨ ch = 114 ∨ ch = 99 ∨ ch = 115 ∨ ch = 117 ∨ ch = 104 ∨ (zln ch = 0 ∧ zsh ch = 6 ∧ ch ≠ 116 ∧ ch ≠ 114 ∧ ch ≠ 99 ∧ ch ≠ 115 ∧ ch ≠ 117 ∧ ch ≠ 104) := by
  by_cases h1 : ch = 116
  · exact Or.inl h1
  by_cases h2 : ch = 114
  · exact Or.inr (Or.inl h2)
  by_cases h3 : ch = 99
  · exact Or.inr (Or.inr (Or.inl h3))
  by_cases h4 : ch = 115
  · exact Or.inr (Or.inr (Or.inr (Or.inl h4)))
  by_cases h5 : ch = 117
  · exact Or.inr (Or.inr (Or.inr (Or.inr (Or.inl h5))))
  by_cases h6 : ch = 104
  · exact Or.inr (Or.inr (Or.inr (Or.inr (Or.inr (Or.inl h6)))))
  refine Or.inr (Or.inr (Or.inr (Or.inr (Or.inr (Or.inr ⟨?_, ?_, h1, h2, h3, h4, h5, h6⟩)))))
  · unfold zln; rw [if_neg h1, if_neg h2, if_neg h3, if_neg h4, if_neg h5, if_neg h6]
  · unfold zsh; rw [if_neg h1, if_neg h2, if_neg h3, if_neg h4, if_neg h5, if_neg h6]
theorem zln_c (ch : Nat) : zln ch = 0 ∨ (3 ≤ zln ch ∧ zln ch ≤ 6) := by
  rcases let6 ch with h | h | h | h | h | h | h
  · rw [h]; exact Or.inr (by decide)
  · rw [h]; exact Or.inr (by decide)
  · rw [h]; exact Or.inr (by decide)
  · rw [h]; exact Or.inr (by decide)
  · rw [h]; exact Or.inr (by decide)
  · rw [h]; exact Or.inr (by decide)
  · exact Or.inl h.1
theorem zsh_f (ch : Nat) : zsh ch < 8 ∧ sLen.getD (zsh ch) 0 = zln ch ∧ ∀ i, i < zln ch → 1 ≤ i → sCh (zsh ch) (nI i) = nI (zfm ch i) := by
  rcases let6 ch with h | h | h | h | h | h | h
  · subst h; decide
  · subst h; decide
  · subst h; decide
  · subst h; decide
  · subst h; decide
  · subst h; decide
  · rw [h.1, h.2.1]; exact ⟨by decide, by decide, fun i hi => by omega⟩
theorem X_shape {ch : Nat} (hc : ch ≤ 255) {Q : Nat → Prop} (h : Q (zsh ch)) : wX0_shapeOf (nI ch) Q := by
  unfold wX0_shapeOf
  have ne : ∀ v, v ≤ 255 → ¬ ch = v → ¬ nI ch = nI v := fun v hv q e => q ((nI_eq (by omega) (by omega)).mp e)
  by_cases q99 : ch = 99
  · rw [q99] at h ⊢
    rw [if_pos (show nI 99 = 99 from rfl)]
    exact h
  rw [if_neg (show ¬ nI ch = 99 from ne 99 (by decide) q99)]
  by_cases q100 : ch = 100
  · rw [q100] at h ⊢
    rw [if_pos (show nI 100 = 100 from rfl)]
    exact h
  rw [if_neg (show ¬ nI ch = 100 from ne 100 (by decide) q100)]
  by_cases q101 : ch = 101
  · rw [q101] at h ⊢
    rw [if_pos (show nI 101 = 101 from rfl)]
    exact h
  rw [if_neg (show ¬ nI ch = 101 from ne 101 (by decide) q101)]
  by_cases q102 : ch = 102
  · rw [q102] at h ⊢
    rw [if_pos (show nI 102 = 102 from rfl)]
    exact h
  rw [if_neg (show ¬ nI ch = 102 from ne 102 (by decide) q102)]
  by_cases q103 : ch = 103
  · rw [q103] at h ⊢
    rw [if_pos (show nI 103 = 103 from rfl)]
    exact h
  rw [if_neg (show ¬ nI ch = 103 from ne 103 (by decide) q103)]
  by_cases q104 : ch = 104
  · rw [q104] at h ⊢
    rw [if_pos (show nI 104 = 104 from rfl)]
    exact h
  rw [if_neg (show ¬ nI ch = 104 from ne 104 (by decide) q104)]
  by_cases q105 : ch = 105
  · rw [q105] at h ⊢
    rw [if_pos (show nI 105 = 105 from rfl)]
    exact h
  rw [if_neg (show ¬ nI ch = 105 from ne 105 (by decide) q105)]
  by_cases q106 : ch = 106
  · rw [q106] at h ⊢
    rw [if_pos (show nI 106 = 106 from rfl)]
    exact h
  rw [if_neg (show ¬ nI ch = 106 from ne 106 (by decide) q106)]
  by_cases q107 : ch = 107
  · rw [q107] at h ⊢
    rw [if_pos (show nI 107 = 107 from rfl)]
    exact h
  rw [if_neg (show ¬ nI ch = 107 from ne 107 (by decide) q107)]
  by_cases q108 : ch = 108
  · rw [q108] at h ⊢
    rw [if_pos (show nI 108 = 108 from rfl)]
    exact h
  rw [if_neg (show ¬ nI ch = 108 from ne 108 (by decide) q108)]
  by_cases q109 : ch = 109
  · rw [q109] at h ⊢
    rw [if_pos (show nI 109 = 109 from rfl)]
    exact h
  rw [if_neg (show ¬ nI ch = 109 from ne 109 (by decide) q109)]
  by_cases q110 : ch = 110
  · rw [q110] at h ⊢
    rw [if_pos (show nI 110 = 110 from rfl)]
    exact h
  rw [if_neg (show ¬ nI ch = 110 from ne 110 (by decide) q110)]
  by_cases q111 : ch = 111
  · rw [q111] at h ⊢
    rw [if_pos (show nI 111 = 111 from rfl)]
    exact h
  rw [if_neg (show ¬ nI ch = 111 from ne 111 (by decide) q111)]
  by_cases q112 : ch = 112
  · rw [q112] at h ⊢
    rw [if_pos (show nI 112 = 112 from rfl)]
    exact h
  rw [if_neg (show ¬ nI ch = 112 from ne 112 (by decide) q112)]
  by_cases q113 : ch = 113
  · rw [q113] at h ⊢
    rw [if_pos (show nI 113 = 113 from rfl)]
    exact h
  rw [if_neg (show ¬ nI ch = 113 from ne 113 (by decide) q113)]
  by_cases q114 : ch = 114
  · rw [q114] at h ⊢
    rw [if_pos (show nI 114 = 114 from rfl)]
    exact h
  rw [if_neg (show ¬ nI ch = 114 from ne 114 (by decide) q114)]
  by_cases q115 : ch = 115
  · rw [q115] at h ⊢
    rw [if_pos (show nI 115 = 115 from rfl)]
    exact h
  rw [if_neg (show ¬ nI ch = 115 from ne 115 (by decide) q115)]
  by_cases q116 : ch = 116
  · rw [q116] at h ⊢
    rw [if_pos (show nI 116 = 116 from rfl)]
    exact h
  rw [if_neg (show ¬ nI ch = 116 from ne 116 (by decide) q116)]
  by_cases q117 : ch = 117
  · rw [q117] at h ⊢
    rw [if_pos (show nI 117 = 117 from rfl)]
    exact h
  rw [if_neg (show ¬ nI ch = 117 from ne 117 (by decide) q117)]
  unfold zsh at h
  rw [if_neg q116, if_neg q114, if_neg q99, if_neg q115, if_neg q117, if_neg q104] at h
  exact h
def zkl (i : Nat) : Nat := if i = 0 then 116 else if i = 1 then 112 else if i = 2 then 98 else if i = 3 then 115 else if i = 4 then 102 else 105
theorem zkl_s : ∀ i, i < 6 → sCh 7 (nI i) = nI (zkl i) ∧ zkx (zkl i) = i ∧ zkl i ≤ 255 := by decide
theorem X_kindL {ch : Nat} (hc : ch ≤ 255) {Q : Int32 → Prop} (h : Q (if zkx ch < 6 then nI (zkx ch) else -9)) : ∀ (m i : Nat), i + m = 6 → (∀ j, j < i → zkl j ≠ ch) → bX0_kindOf_2 Q (m + 1) (nI ch) (nI i) := by
  intro m
  induction m with
  | zero =>
    intro i hi hj
    have e : i = 6 := by omega
    subst e
    rw [bX0_kindOf_2, if_pos (by decide)]
    have n0 : ¬ ch = 116 := fun q => hj 0 (by omega) q.symm
    have n1 : ¬ ch = 112 := fun q => hj 1 (by omega) q.symm
    have n2 : ¬ ch = 98 := fun q => hj 2 (by omega) q.symm
    have n3 : ¬ ch = 115 := fun q => hj 3 (by omega) q.symm
    have n4 : ¬ ch = 102 := fun q => hj 4 (by omega) q.symm
    have n5 : ¬ ch = 105 := fun q => hj 5 (by omega) q.symm
    have e6 : zkx ch = 6 := by unfold zkx; rw [if_neg n0, if_neg n1, if_neg n2, if_neg n3, if_neg n4, if_neg n5]
    rw [e6, if_neg (by decide)] at h
    exact h
  | succ m ih =>
    intro i hi hj
    have hz := zkl_s i (by omega)
    rw [bX0_kindOf_2, l6, if_neg (nI_ge (by omega) (by omega))]
    refine ⟨by decide, ⟨nI_pos (by omega), show nI i < nI 6 from nI_lt (by omega) (by omega)⟩, ?_⟩
    rintro r rfl
    rw [hz.1]
    by_cases c : zkl i = ch
    · rw [if_pos (by rw [c])]
      rw [← c, hz.2.1, if_pos (by omega)] at h
      exact h
    · rw [if_neg (fun e => c ((nI_eq (by omega) (by omega)).mp e)), nI_1]
      rintro x rfl
      refine ih (i + 1) (by omega) (fun j q => ?_)
      by_cases e : j = i
      · rw [e]; exact c
      · exact hj j (by omega)
theorem X_kind {ch : Nat} (hc : ch ≤ 255) {Q : Int32 → Prop} (h : Q (if zkx ch < 6 then nI (zkx ch) else -9)) : wX0_kindOf (nI ch) Q := ⟨_, X_kindL hc h 6 0 rfl (fun j q => by omega)⟩
theorem X_fits {x f : Nat} (hx : x ≤ 255) (hf : f ≤ 255) {Q : Int32 → Prop} (h : Q (if zft x f = true then 1 else 0)) : wX0_fits (nI x) (nI f) Q := by
  unfold wX0_fits
  unfold zft at h
  by_cases c1 : f = 48
  · subst c1
    rw [if_pos rfl] at h
    rw [if_pos (show nI 48 = 48 from rfl), l48, l57]
    by_cases d1 : x < 48
    · rw [if_neg (by rw [decide_eq_false (by omega)]; decide)] at h
      rw [if_pos (nI_lt d1 (by omega))]; exact h
    · rw [if_neg (nI_nlt (by omega) (by omega))]
      by_cases d2 : 57 < x
      · rw [if_neg (by rw [decide_eq_false (by omega)]; decide)] at h
        rw [if_pos (nI_lt d2 (by omega))]; exact h
      · rw [if_pos (decide_eq_true (by omega))] at h
        rw [if_neg (nI_nlt (by omega) (by omega))]; exact h
  · rw [if_neg c1] at h
    rw [if_neg (show ¬ nI f = 48 from fun e => c1 ((nI_eq (b := 48) (by omega) (by omega)).mp e))]
    by_cases c2 : f = 107
    · subst c2
      rw [if_pos rfl] at h
      rw [if_pos (show nI 107 = 107 from rfl)]
      refine X_kind hx ?_
      try dsimp only
      by_cases d : zkx x < 6
      · rw [if_pos (decide_eq_true d)] at h
        rw [if_pos d, if_neg (nI_pos (by omega))]; exact h
      · rw [if_neg (by rw [decide_eq_false d]; decide)] at h
        rw [if_neg d, if_pos (by decide)]; exact h
    · rw [if_neg c2] at h
      rw [if_neg (show ¬ nI f = 107 from fun e => c2 ((nI_eq (b := 107) (by omega) (by omega)).mp e))]
      by_cases d : x = f
      · rw [if_pos (decide_eq_true d)] at h
        rw [if_pos (by rw [d])]; exact h
      · rw [if_neg (by rw [decide_eq_false d]; decide)] at h
        rw [if_neg (fun e => d ((nI_eq (by omega) (by omega)).mp e))]; exact h
/-- the place at which a statement is bad -/
def gdb (c : Nat → Nat) (n a i : Nat) : Bool := decide (a + i < n) && zft (c (a + i)) (zfm (c a) i)
def bpl (c : Nat → Nat) (n a : Nat) : Nat → Nat → Option Nat
  | 0, _ => none
  | m + 1, i => if gdb c n a i = true then bpl c n a m (i + 1) else some (a + i)
def bp (c : Nat → Nat) (n a : Nat) : Option Nat := if zln (c a) = 0 then some a else bpl c n a (zln (c a) - 1) 1
theorem bpl_all {c : Nat → Nat} {n a : Nat} : ∀ m i, bpl c n a m i = none → ∀ j, i ≤ j → j < i + m → gdb c n a j = true
  | 0, i, _, j, h1, h2 => by omega
  | m + 1, i, h, j, h1, h2 => by
    rw [bpl] at h
    by_cases g : gdb c n a i = true
    · rw [if_pos g] at h
      by_cases e : j = i
      · rw [e]; exact g
      · exact bpl_all m (i + 1) h j (by omega) (by omega)
    · rw [if_neg g] at h; cases h
theorem bpl_g {c : Nat → Nat} {n a : Nat} : ∀ m i, (∀ j, i ≤ j → j < i + m → gdb c n a j = true) → bpl c n a m i = none
  | 0, _, _ => rfl
  | m + 1, i, h => by
    rw [bpl, if_pos (h i (by omega) (by omega))]
    exact bpl_g m (i + 1) (fun j h1 h2 => h j (by omega) (by omega))
theorem bpl_f {c : Nat → Nat} {n a k : Nat} (hk : ¬ gdb c n a k = true) : ∀ m i, i ≤ k → k < i + m → (∀ j, i ≤ j → j < k → gdb c n a j = true) → bpl c n a m i = some (a + k)
  | 0, i, h1, h2, _ => by omega
  | m + 1, i, h1, h2, h => by
    rw [bpl]
    by_cases e : i = k
    · subst e; rw [if_neg hk]
    · rw [if_pos (h i (by omega) (by omega))]
      exact bpl_f hk m (i + 1) (by omega) (by omega) (fun j h1 h2 => h j (by omega) h2)
theorem bp_all {c : Nat → Nat} {n a : Nat} (h : bp c n a = none) : 3 ≤ zln (c a) ∧ zln (c a) ≤ 6 ∧ ∀ j, 1 ≤ j → j < zln (c a) → gdb c n a j = true := by
  unfold bp at h
  rcases zln_c (c a) with q | q
  · rw [if_pos q] at h; cases h
  · rw [if_neg (by omega)] at h
    exact ⟨q.1, q.2, fun j h1 h2 => bpl_all _ _ h j h1 (by omega)⟩
theorem gd_lt {c : Nat → Nat} {n a i : Nat} (h : gdb c n a i = true) : a + i < n := by
  unfold gdb at h
  rw [Bool.and_eq_true] at h
  exact of_decide_eq_true h.1
theorem bp_le {c : Nat → Nat} {n a : Nat} (h : bp c n a = none) : a + zln (c a) ≤ n := by
  obtain ⟨h1, h2, h3⟩ := bp_all h
  have := gd_lt (h3 (zln (c a) - 1) (by omega) (by omega))
  omega
def sta (c : Nat → Nat) : Nat → Nat
  | 0 => 0
  | k + 1 => sta c k + zln (c (sta c k))
def gds (c : Nat → Nat) (n k : Nat) : Prop := ∀ i, i < k → sta c i < n ∧ bp c n (sta c i) = none
theorem gds_s {c : Nat → Nat} {n k : Nat} (h : gds c n k) (h1 : sta c k < n) (h2 : bp c n (sta c k) = none) : gds c n (k + 1) := fun i hi => by
  by_cases e : i = k
  · rw [e]; exact ⟨h1, h2⟩
  · exact h i (by omega)
theorem gds_le {c : Nat → Nat} {n : Nat} : ∀ k, gds c n k → 3 * k ≤ sta c k ∧ sta c k ≤ n
  | 0, _ => ⟨by show 0 ≤ 0; omega, by show 0 ≤ n; omega⟩
  | k + 1, h => by
    have ih := gds_le k (fun i hi => h i (by omega))
    have hk := h k (by omega)
    have h1 := bp_all hk.2
    have h2 := bp_le hk.2
    rw [sta]
    omega
theorem ph3 {c : Nat → Nat} {n : Nat} : ∀ N k, gds c n k → n ≤ sta c k + N → (∃ M, gds c n M ∧ sta c M = n) ∨ ∃ k x, gds c n k ∧ sta c k < n ∧ bp c n (sta c k) = some x := by
  intro N
  induction N with
  | zero =>
    intro k hg hN
    have := (gds_le k hg).2
    exact Or.inl ⟨k, hg, by omega⟩
  | succ N ih =>
    intro k hg hN
    have hle := (gds_le k hg).2
    by_cases e : sta c k = n
    · exact Or.inl ⟨k, hg, e⟩
    · have hlt : sta c k < n := by omega
      cases hb : bp c n (sta c k) with
      | some x => exact Or.inr ⟨k, x, hg, hlt, hb⟩
      | none =>
        have h1 := bp_all hb
        exact ih (k + 1) (gds_s hg hlt hb) (by rw [sta]; omega)
theorem zfm_le (ch i : Nat) : zfm ch i ≤ 255 := by
  unfold zfm
  split
  · omega
  · split <;> omega
theorem X_bad43 {L : RT} {c : Nat → Nat} {n a : Nat} (hn : n ≤ 96) (hL : L 30 1 = nI n) (hc : ∀ i, i < n → c i ≤ 255 ∧ L 0 i = nI (c i)) (ha : a < n) {K4 : Int32 → Prop} {Q : Int32 → Prop} : ∀ (m i : Nat), 1 ≤ i → i + m = zln (c a) → (bpl c n a m i = none → K4 (nI (a + zln (c a)))) → (∀ x, bpl c n a m i = some x → Q (nI x)) → bX0_firstBadPlace_43 K4 L Q (m + 1) (nI (zln (c a))) (nI a) (zsh (c a)) (nI i) := by
  have h6 := zln_c (c a)
  have hz := zsh_f (c a)
  intro m
  induction m with
  | zero =>
    intro i h1 hi y z
    rw [bX0_firstBadPlace_43, if_pos (nI_le (by omega) (by omega)), nI_add]
    rintro x rfl
    exact y rfl
  | succ m ih =>
    intro i h1 hi y z
    rw [bX0_firstBadPlace_43, if_neg (nI_ge (by omega) (by omega)), hL, nI_add]
    rw [bpl] at y z
    by_cases d : a + i < n
    · have hci := hc (a + i) d
      rw [if_neg (nI_ge (by omega) (by omega)), nI_clamp (by omega), hci.2, hz.2.2 i (by omega) h1, hz.2.1]
      refine ⟨(vin (by omega)).mpr (by omega), hz.1, ⟨nI_pos (by omega), nI_lt (by omega) (by omega)⟩, ?_⟩
      rintro r rfl
      refine X_fits hci.1 (zfm_le _ _) ?_
      try dsimp only
      by_cases g : zft (c (a + i)) (zfm (c a) i) = true
      · have gg : gdb c n a i = true := by unfold gdb; rw [decide_eq_true d, g]; rfl
        rw [if_pos gg] at y z
        rw [if_pos g, if_neg bz_k, nI_1]
        rintro x rfl
        exact ih (i + 1) (by omega) (by omega) y z
      · have gg : ¬ gdb c n a i = true := by unfold gdb; rw [show zft (c (a + i)) (zfm (c a) i) = false by simpa using g, Bool.and_false]; decide
        rw [if_neg gg] at z
        rw [if_neg g, if_pos rfl]
        exact z _ rfl
    · have gg : ¬ gdb c n a i = true := fun q => d (gd_lt q)
      rw [if_neg gg] at z
      rw [if_pos (nI_le (by omega) (by omega))]
      exact z _ rfl
theorem X_bad4 {L : RT} {c : Nat → Nat} {n a : Nat} (hn : n ≤ 96) (hL : L 30 1 = nI n) (hc : ∀ i, i < n → c i ≤ 255 ∧ L 0 i = nI (c i)) (ha : a < n) {Q : Int32 → Prop} {m : Nat} (y : bp c n a = none → bX0_firstBadPlace_4 L Q m (nI (a + zln (c a)))) (z : ∀ x, bp c n a = some x → Q (nI x)) : bX0_firstBadPlace_4 L Q (m + 1) (nI a) := by
  have h6 := zln_c (c a)
  have hz := zsh_f (c a)
  rw [bX0_firstBadPlace_4, hL, if_neg (nI_ge (by omega) (by omega)), nI_clamp (by omega), (hc a ha).2]
  refine ⟨(vin (by omega)).mpr (by omega), ?_⟩
  refine X_shape (hc a ha).1 ?_
  try dsimp only
  rw [hz.2.1]
  refine ⟨hz.1, ?_⟩
  unfold bp at y z
  rintro r rfl x1 hx1 
  refine ⟨hz.1, ?_⟩
  rintro r9 rfl
  by_cases e : zln (c a) = 0
  · rw [if_pos e] at z
    rw [e, if_pos (show nI 0 = 0 from rfl), if_neg bz_k]
    exact z a rfl
  · rw [if_neg e] at y z
    rw [if_neg (show ¬ nI (zln (c a)) = 0 from fun q => e ((nI_eq (b := 0) (by omega) (by omega)).mp q)), if_pos rfl]
    have e1 : x1 = nI (zln (c a)) := by rw [hx1, if_pos (show (1 : Int32) < nI (zln (c a)) from nI_lt (a := 1) (by omega) (by omega))]
    rw [e1]
    exact ⟨_, X_bad43 hn hL hc ha (zln (c a) - 1) 1 (by omega) (by omega) y z⟩
theorem X_badA {L : RT} {c : Nat → Nat} {n M : Nat} (hn : n ≤ 96) (h0 : n ≠ 0) (hL : L 30 1 = nI n) (hc : ∀ i, i < n → c i ≤ 255 ∧ L 0 i = nI (c i)) (hg : gds c n M) (hM : sta c M = n) {Q : Int32 → Prop} (h : Q (-9)) : ∀ (m k : Nat), k + m = M → bX0_firstBadPlace_4 L Q (m + 1) (nI (sta c k)) := by
  intro m
  induction m with
  | zero =>
    intro k hk
    rw [bX0_firstBadPlace_4, hL, show k = M by omega, hM, if_pos (nI_le (by omega) (by omega)), if_neg (show ¬ nI n = 0 from fun q => h0 ((nI_eq (b := 0) (by omega) (by omega)).mp q))]
    exact h
  | succ m ih =>
    intro k hk
    have gk := hg k (by omega)
    exact X_bad4 hn hL hc gk.1 (fun _ => ih (k + 1) (by omega)) (fun x e => by rw [gk.2] at e; cases e)
theorem X_badB {L : RT} {c : Nat → Nat} {n M x : Nat} (hn : n ≤ 96) (hL : L 30 1 = nI n) (hc : ∀ i, i < n → c i ≤ 255 ∧ L 0 i = nI (c i)) (hg : gds c n M) (hM : sta c M < n) (hb : bp c n (sta c M) = some x) {Q : Int32 → Prop} (h : Q (nI x)) : ∀ (m k : Nat), k + m = M → bX0_firstBadPlace_4 L Q (m + 1) (nI (sta c k)) := by
  intro m
  induction m with
  | zero =>
    intro k hk
    rw [show k = M by omega]
    exact X_bad4 hn hL hc hM (fun e => by rw [hb] at e; cases e) (fun x' e => by rw [hb] at e; cases e; exact h)
  | succ m ih =>
    intro k hk
    have gk := hg k (by omega)
    exact X_bad4 hn hL hc gk.1 (fun _ => ih (k + 1) (by omega)) (fun x e => by rw [gk.2] at e; cases e)
