/-! ===== PURE: bits, counts of bits, hefts together ===== -/
theorem nx_and (a b : Nat) : nI a &&& nI b = nI (a &&& b) := by
  apply Int32.toBitVec_inj.1
  show BitVec.ofNat 32 a &&& BitVec.ofNat 32 b = BitVec.ofNat 32 (a &&& b)
  apply BitVec.eq_of_getLsbD_eq
  intro i hi
  simp [hi]
theorem nx_or (a b : Nat) : nI a ||| nI b = nI (a ||| b) := by
  apply Int32.toBitVec_inj.1
  show BitVec.ofNat 32 a ||| BitVec.ofNat 32 b = BitVec.ofNat 32 (a ||| b)
  apply BitVec.eq_of_getLsbD_eq
  intro i hi
  simp [hi]
theorem sh1 : ∀ k, k < 31 → (1 : Int32) <<< (nI k &&& 31) = nI (2 ^ k) := by decide +kernel
theorem hb_d : ∀ s, s < 256 → ∀ k, k < 8 → ((nI s &&& ((1 : Int32) <<< (nI k &&& 31))) = 0 ↔ s.testBit k = false) := by decide +kernel
theorem hs_d : ∀ s, s < 256 → ∀ k, k < 8 → (((nI s >>> (nI k &&& 31)) &&& 1) = 1 ↔ s.testBit k = true) := by decide +kernel
theorem hs2_d : ∀ s, s < 256 → ∀ k, k < 8 → ((nI s >>> (nI k &&& 31)) &&& 1) = if s.testBit k then 1 else 0 := by decide +kernel
theorem X_hb {s k : Nat} (hs : s < 256) (hk : k < 8) {Q : Int32 → Prop} (h : Q (if s.testBit k = true then 1 else 0)) : wX6_hasBit (nI s) (nI k) Q := by
  unfold wX6_hasBit
  by_cases c : s.testBit k = true
  · rw [if_neg (fun q => by rw [(hb_d s hs k hk).mp q] at c; cases c)]
    rw [if_pos c] at h; exact h
  · rw [if_pos ((hb_d s hs k hk).mpr (by simpa using c))]
    rw [if_neg c] at h; exact h
theorem M_has {s k : Nat} (hs : s < 256) (hk : k < 8) {Q : Int32 → Prop} (h : Q (if s.testBit k = true then 1 else 0)) : wX7_has (nI s) (nI k) Q := by
  unfold wX7_has
  by_cases c : s.testBit k = true
  · rw [if_pos ((hs_d s hs k hk).mpr c)]
    rw [if_pos c] at h; exact h
  · rw [if_neg (fun q => c ((hs_d s hs k hk).mp q))]
    rw [if_neg c] at h; exact h
/-- how many bits -/
def pc (s : Nat) : Nat := s % 2 + s / 2 % 2 + s / 4 % 2 + s / 8 % 2 + s / 16 % 2 + s / 32 % 2 + s / 64 % 2 + s / 128 % 2
theorem pc_le (s : Nat) : pc s ≤ 8 := by unfold pc; omega
def bcE (x0 : Int32) : Int32 :=
  let x1 := x0 - ((((x0).toUInt32 >>> ((1 : Int32).toUInt32 &&& Int32.toUInt32 31)).toInt32) &&& 1431655765)
  let x2 := (x1 &&& 858993459) + ((((x1).toUInt32 >>> ((2 : Int32).toUInt32 &&& Int32.toUInt32 31)).toInt32) &&& 858993459)
  let x3 := (x2 + (((x2).toUInt32 >>> ((4 : Int32).toUInt32 &&& Int32.toUInt32 31)).toInt32)) &&& 252645135
  let x4 := x3 + (((x3).toUInt32 >>> ((8 : Int32).toUInt32 &&& Int32.toUInt32 31)).toInt32)
  let x5 := x4 + (((x4).toUInt32 >>> ((16 : Int32).toUInt32 &&& Int32.toUInt32 31)).toInt32)
  x5 &&& 63
theorem bc_d : ∀ s, s < 256 → bcE (nI s) = nI (pc s) := by decide +kernel
theorem X_bitCount {s : Nat} (hs : s < 256) {Q : Int32 → Prop} (h : Q (nI (pc s))) : wJ6_bitCount (nI s) Q := by
  unfold wJ6_bitCount
  rintro x rfl x rfl x rfl x rfl x rfl
  rw [← bc_d s hs] at h
  exact h
def bM (s : Nat) : Nat → Int32 → Nat → Int32
  | 0, a, _ => a
  | n + 1, a, k => bM s n (a + ((nI s >>> (nI k &&& 31)) &&& 1)) (k + 1)
theorem bM_d : ∀ s, s < 256 → bM s 31 0 0 = nI (pc s) := by decide +kernel
theorem M_bitsL {s : Nat} {Q : Int32 → Prop} : ∀ (n k : Nat) (a : Int32), k + n = 31 → Q (bM s n a k) → bX7_bits_4 Q (n + 1) (nI s) a (nI k) := by
  intro n
  induction n with
  | zero =>
    intro k a hk h
    rw [bX7_bits_4, if_pos (by rw [show k = 31 by omega]; decide)]
    exact h
  | succ n ih =>
    intro k a hk h
    rw [bX7_bits_4, if_neg (show ¬ (31 : Int32) ≤ nI k from nI_ge (b := 31) (a := k) (by omega) (by omega)), nI_1]
    rintro x rfl y rfl
    exact ih (k + 1) _ (by omega) h
theorem M_bits {s : Nat} (hs : s < 256) {Q : Int32 → Prop} (h : Q (nI (pc s))) : wX7_bits (nI s) Q := ⟨_, M_bitsL 31 0 0 rfl (by rw [bM_d s hs]; exact h)⟩
/-- hefts together -/
def hsB (p : PT) (s : Nat) : Nat → Nat := sumN (fun t => if s.testBit t = true then heft p t else 0)
theorem hsB_le {b : Nat} {p : PT} (ok : okP b p) (s : Nat) {n : Nat} (hn : n ≤ p 30 0) : hsB p s n ≤ 856 := by
  have h1 := sumN_le (f := fun t => if s.testBit t = true then heft p t else 0) (c := 107) (n := n) (fun i hi => by
    show (if s.testBit i = true then heft p i else 0) ≤ 107
    have := heft_le ok (show i < p 30 0 by omega)
    split <;> omega)
  have := ok.1
  unfold hsB
  omega
theorem hsB_s {p : PT} {s k : Nat} : hsB p s (k + 1) = hsB p s k + (if s.testBit k = true then heft p k else 0) := rfl
theorem X_togetherL {b : Nat} {P : RT} {p : PT} (hb : b < 2000) (ok : okP b p) (hr : repX P p) {s : Nat} (hs : s < 256) {Q : Int32 → Prop} (h : Q (nI (hsB p s (p 30 0)))) : ∀ (n k : Nat), k + n = p 30 0 → bX4_heftTogether_4 P Q (n + 1) (nI s) (nI (hsB p s k)) (nI k) := by
  have o1 := ok.1
  intro n
  induction n with
  | zero =>
    intro k hk
    rw [bX4_heftTogether_4, hr.1, if_pos (nI_le (by omega) (by omega))]
    have : k = p 30 0 := by omega
    rw [this]
    exact h
  | succ n ih =>
    intro k hk
    rw [bX4_heftTogether_4, hr.1, if_neg (nI_ge (by omega) (by omega))]
    unfold bX4_heftTogether_28
    refine X_hb hs (by omega) ?_
    try dsimp only
    have := ih (k + 1) (by omega)
    rw [hsB_s] at this
    by_cases c : s.testBit k = true
    · rw [if_pos c] at this ⊢
      rw [if_neg bz_k]
      refine X_heft hb ok hr (by omega) ?_
      try dsimp only
      rw [nI_add, nI_1]
      rintro x rfl y rfl
      exact this
    · rw [if_neg c] at this ⊢
      rw [if_pos rfl, nI_1]
      rintro y rfl
      exact this
theorem X_together {b : Nat} {P : RT} {p : PT} (hb : b < 2000) (ok : okP b p) (hr : repX P p) {s : Nat} (hs : s < 256) {Q : Int32 → Prop} (h : Q (nI (hsB p s (p 30 0)))) : wX4_heftTogether P (nI s) Q := ⟨_, X_togetherL hb ok hr hs h (p 30 0) 0 (by omega)⟩
theorem M_heftsL {b : Nat} {S : RT} {p : PT} (hb : b < 2000) (ok : okP b p) (hr : repM S p) {s : Nat} (hs : s < 256) {Q : Int32 → Prop} (h : Q (nI (hsB p s (p 30 0)))) : ∀ (n k : Nat), k + n = p 30 0 → bX7_heftsOf_4 S Q (n + 1) (nI s) (nI (hsB p s k)) (nI k) := by
  have o1 := ok.1
  intro n
  induction n with
  | zero =>
    intro k hk
    rw [bX7_heftsOf_4, hr.1, if_pos (nI_le (by omega) (by omega))]
    have : k = p 30 0 := by omega
    rw [this]
    exact h
  | succ n ih =>
    intro k hk
    rw [bX7_heftsOf_4, hr.1, if_neg (nI_ge (by omega) (by omega))]
    unfold bX7_heftsOf_30
    refine M_has hs (by omega) ?_
    try dsimp only
    have := ih (k + 1) (by omega)
    rw [hsB_s] at this
    by_cases c : s.testBit k = true
    · rw [if_pos c] at this ⊢
      rw [if_neg bz_k]
      refine M_heft hb ok hr (by omega) ?_
      try dsimp only
      rw [nI_add, nI_1]
      rintro x rfl y rfl
      exact this
    · rw [if_neg c] at this ⊢
      rw [if_pos rfl, l0, nI_add, nI_1]
      rintro x rfl y rfl
      exact this
theorem M_hefts {b : Nat} {S : RT} {p : PT} (hb : b < 2000) (ok : okP b p) (hr : repM S p) {s : Nat} (hs : s < 256) {Q : Int32 → Prop} (h : Q (nI (hsB p s (p 30 0)))) : wX7_heftsOf S (nI s) Q := ⟨_, M_heftsL hb ok hr hs h (p 30 0) 0 (by omega)⟩
theorem X_allHeftL {b : Nat} {P : RT} {p : PT} (hb : b < 2000) (ok : okP b p) (hr : repX P p) {Q : Int32 → Prop} (h : Q (nI (sumN (heft p) (p 30 0)))) : ∀ (n k : Nat), k + n = p 30 0 → bX3_allHeft_4 P Q (n + 1) (nI (sumN (heft p) k)) (nI k) := by
  have o1 := ok.1
  intro n
  induction n with
  | zero =>
    intro k hk
    rw [bX3_allHeft_4, hr.1, if_pos (nI_le (by omega) (by omega))]
    have : k = p 30 0 := by omega
    rw [this]
    exact h
  | succ n ih =>
    intro k hk
    rw [bX3_allHeft_4, hr.1, if_neg (nI_ge (by omega) (by omega))]
    refine X_heft hb ok hr (by omega) ?_
    try dsimp only
    rw [nI_add, nI_1]
    rintro x rfl y rfl
    exact ih (k + 1) (by omega)
theorem X_allHeft {b : Nat} {P : RT} {p : PT} (hb : b < 2000) (ok : okP b p) (hr : repX P p) {Q : Int32 → Prop} (h : Q (nI (sumN (heft p) (p 30 0)))) : wX3_allHeft P Q := ⟨_, X_allHeftL hb ok hr h (p 30 0) 0 (by omega)⟩
theorem full_tb : ∀ n, n ≤ 8 → ∀ k, k < n → (2 ^ n - 1).testBit k = true := by decide +kernel
theorem full_lt : ∀ n, n ≤ 8 → 2 ^ n - 1 < 256 := by decide +kernel
theorem hsB_full {p : PT} {n : Nat} (hn : n ≤ 8) : hsB p (2 ^ n - 1) n = sumN (heft p) n := sumN_c (fun i hi => by show (if (2 ^ n - 1).testBit i = true then heft p i else 0) = heft p i; rw [if_pos (full_tb n hn i hi)])
theorem sh1m {n : Nat} (hn : n ≤ 8) : ((1 : Int32) <<< (nI n &&& 31)) - 1 = nI (2 ^ n - 1) := by
  rw [sh1 n (by omega), l1, nS (Nat.one_le_two_pow)]
/-- the loose ropes -/
def lsN (p : PT) : Nat → Nat
  | 0 => 0
  | r + 1 => if heft p (p 5 r) = heft p (p 6 r) then lsN p r ||| 2 ^ r else lsN p r
theorem lsN_lt {p : PT} : ∀ r, lsN p r < 2 ^ r
  | 0 => by show 0 < 1; omega
  | r + 1 => by
    have h := lsN_lt (p := p) r
    have e : (2 : Nat) ^ (r + 1) = 2 ^ r * 2 := Nat.pow_succ ..
    rw [lsN]
    split
    · exact Nat.or_lt_two_pow (by omega) (by omega)
    · omega
theorem holds_9 {b : Nat} {p : PT} (ok : okP b p) {r : Nat} (hr : r < p 30 1) : (heft p (p 5 r) = heft p (p 6 r) ∧ holds p r = -9) ∨ (¬ heft p (p 5 r) = heft p (p 6 r) ∧ ∃ k, k < p 30 0 ∧ holds p r = nI k ∧ ((k = p 5 r ∧ heft p (p 6 r) < heft p (p 5 r)) ∨ (k = p 6 r ∧ heft p (p 5 r) < heft p (p 6 r)))) := by
  have h := ok.2.2.2.2 r hr
  unfold holds
  by_cases c : heft p (p 5 r) = heft p (p 6 r)
  · exact Or.inl ⟨c, by rw [if_pos c]⟩
  · refine Or.inr ⟨c, ?_⟩
    rw [if_neg c]
    by_cases d : heft p (p 6 r) < heft p (p 5 r)
    · exact ⟨p 5 r, h.1, by rw [if_pos d], Or.inl ⟨rfl, d⟩⟩
    · exact ⟨p 6 r, h.2.1, by rw [if_neg d], Or.inr ⟨rfl, by omega⟩⟩
theorem X_looseL {b : Nat} {P : RT} {p : PT} (hb : b < 2000) (ok : okP b p) (hr : repX P p) {Q : Int32 → Prop} (h : Q (nI (lsN p (p 30 1)))) : ∀ (n k : Nat), k + n = p 30 1 → bX3_looseRopes_4 P Q (n + 1) (nI (lsN p k)) (nI k) := by
  have o1 := ok.1
  have o2 := ok.2.1
  intro n
  induction n with
  | zero =>
    intro k hk
    rw [bX3_looseRopes_4, hr.2.1, if_pos (nI_le (by omega) (by omega))]
    have : k = p 30 1 := by omega
    rw [this]
    exact h
  | succ n ih =>
    intro k hk
    rw [bX3_looseRopes_4, hr.2.1, if_neg (nI_ge (by omega) (by omega))]
    unfold bX3_looseRopes_28
    refine X_heavierEnd hb ok hr (by omega) ?_
    try dsimp only
    have := ih (k + 1) (by omega)
    rcases holds_9 ok (show k < p 30 1 by omega) with ⟨c, e⟩ | ⟨c, u, hu, e, _⟩
    · rw [lsN, if_pos c] at this
      rw [e, if_pos rfl, sh1 k (by omega), nx_or, nI_1]
      rintro x rfl y rfl
      exact this
    · rw [lsN, if_neg c] at this
      rw [e, if_neg (nI_ne9 (by omega)), nI_1]
      rintro y rfl
      exact this
theorem X_loose {b : Nat} {P : RT} {p : PT} (hb : b < 2000) (ok : okP b p) (hr : repX P p) {Q : Int32 → Prop} (h : Q (nI (lsN p (p 30 1)))) : wX3_looseRopes P Q := ⟨_, X_looseL hb ok hr h (p 30 1) 0 (by omega)⟩
theorem M_oddL {b : Nat} {S : RT} {p : PT} (hb : b < 2000) (ok : okP b p) (hr : repM S p) {Q : Int32 → Prop} (h : Q (nI (lsN p (p 30 1)))) : ∀ (n k : Nat), k + n = p 30 1 → bX7_odd_4 S Q (n + 1) (nI (lsN p k)) (nI k) := by
  have o1 := ok.1
  have o2 := ok.2.1
  intro n
  induction n with
  | zero =>
    intro k hk
    rw [bX7_odd_4, hr.2.1, if_pos (nI_le (by omega) (by omega))]
    have : k = p 30 1 := by omega
    rw [this]
    exact h
  | succ n ih =>
    intro k hk
    rw [bX7_odd_4, hr.2.1, if_neg (nI_ge (by omega) (by omega))]
    unfold bX7_odd_28
    refine M_holdsTo hb ok hr (by omega) ?_
    try dsimp only
    have := ih (k + 1) (by omega)
    rcases holds_9 ok (show k < p 30 1 by omega) with ⟨c, e⟩ | ⟨c, u, hu, e, _⟩
    · rw [lsN, if_pos c] at this
      rw [e, if_neg n9_neg, sh1 k (by omega), nx_or, nI_1]
      rintro x rfl y rfl
      exact this
    · rw [lsN, if_neg c] at this
      rw [e, if_pos (nI_pos' (by omega)), l0, nx_or, nI_1, Nat.or_zero]
      rintro x rfl y rfl
      exact this
theorem M_odd {b : Nat} {S : RT} {p : PT} (hb : b < 2000) (ok : okP b p) (hr : repM S p) {Q : Int32 → Prop} (h : Q (nI (lsN p (p 30 1)))) : wX7_odd S Q := ⟨_, M_oddL hb ok hr h (p 30 1) 0 (by omega)⟩
theorem st_odd : St_odd Inv9 := by
  intro F P K G T N L S hI
  have hI2 := hI
  obtain ⟨p, ok, hx, hm, hq⟩ := hI
  unfold wX6_odd
  refine X_loose (b := 999) (by decide) ok hx ?_
  try dsimp only
  exact M_odd (b := 999) (by decide) ok hm ⟨rfl, hI2⟩
