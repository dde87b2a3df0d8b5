/-! ===== PURE: rows, between, nearest ===== -/
def rk (p : PT) (t : Nat) : Nat → Nat := sumN (fun u => if heft p t < heft p u ∨ (heft p u = heft p t ∧ u < t) then 1 else 0)
theorem rk_s {p : PT} {t k : Nat} : rk p t (k + 1) = rk p t k + (if heft p t < heft p k ∨ (heft p k = heft p t ∧ k < t) then 1 else 0) := rfl
theorem X_rankL {b : Nat} {P : RT} {p : PT} (hb : b < 2000) (ok : okP b p) (hr : repX P p) {t : Nat} (ht : t < p 30 0) {Q : Int32 → Prop} (h : Q (nI (rk p t (p 30 0)))) : ∀ (n k : Nat), k + n = p 30 0 → bX4_rankOf_11 P Q (n + 1) (nI t) (nI (heft p t)) (nI (rk p t k)) (nI k) := by
  have o1 := ok.1
  have ht1 := heft_le ok ht
  intro n
  induction n with
  | zero =>
    intro k hk
    rw [bX4_rankOf_11, hr.1, if_pos (nI_le (by omega) (by omega))]
    have : k = p 30 0 := by omega
    rw [this]
    exact h
  | succ n ih =>
    intro k hk
    have hk1 := heft_le ok (show k < p 30 0 by omega)
    rw [bX4_rankOf_11, hr.1, if_neg (nI_ge (by omega) (by omega))]
    unfold bX4_rankOf_46 bX4_rankOf_49
    refine X_heft hb ok hr (by omega) ?_
    try dsimp only
    have := ih (k + 1) (by omega)
    rw [rk_s] at this
    by_cases c1 : heft p t < heft p k
    · rw [if_pos (Or.inl c1)] at this
      rw [if_pos (nI_lt c1 (by omega)), nI_1, nI_1]
      rintro x rfl y rfl
      exact this
    · rw [if_neg (nI_nlt (by omega) (by omega))]
      by_cases c2 : heft p k = heft p t
      · rw [if_pos (by rw [c2])]
        by_cases c3 : k < t
        · rw [if_pos (Or.inr ⟨c2, c3⟩)] at this
          rw [if_neg (nI_ge c3 (by omega)), nI_1, nI_1]
          rintro x rfl y rfl
          exact this
        · rw [if_neg (by omega)] at this
          rw [if_pos (nI_le (by omega) (by omega)), nI_1]
          rintro y rfl
          exact this
      · rw [if_neg (by omega)] at this
        rw [if_neg (fun e => c2 ((nI_eq (by omega) (by omega)).mp e)), nI_1]
        rintro y rfl
        exact this
theorem X_rank {b : Nat} {P : RT} {p : PT} (hb : b < 2000) (ok : okP b p) (hr : repX P p) {t : Nat} (ht : t < p 30 0) {Q : Int32 → Prop} (h : Q (nI (rk p t (p 30 0)))) : wX4_rankOf P (nI t) Q := by
  unfold wX4_rankOf
  exact X_heft hb ok hr ht ⟨_, X_rankL hb ok hr ht h (p 30 0) 0 (by omega)⟩
theorem M_rankL {b : Nat} {S : RT} {p : PT} (hb : b < 2000) (ok : okP b p) (hr : repM S p) {t : Nat} (ht : t < p 30 0) {Q : Int32 → Prop} (h : Q (nI (rk p t (p 30 0)))) : ∀ (n k : Nat), k + n = p 30 0 → bX7_aheadOf_4 S Q (n + 1) (nI t) (nI (rk p t k)) (nI k) := by
  have o1 := ok.1
  have ht1 := heft_le ok ht
  intro n
  induction n with
  | zero =>
    intro k hk
    rw [bX7_aheadOf_4, hr.1, if_pos (nI_le (by omega) (by omega))]
    have : k = p 30 0 := by omega
    rw [this]
    exact h
  | succ n ih =>
    intro k hk
    have hk0 : k < p 30 0 := by omega
    have hk1 := heft_le ok hk0
    rw [bX7_aheadOf_4, hr.1, if_neg (nI_ge (by omega) (by omega))]
    unfold bX7_aheadOf_44 bX7_aheadOf_48 bX7_aheadOf_49
    refine M_heft hb ok hr hk0 ?_
    try dsimp only
    refine M_heft hb ok hr ht ?_
    try dsimp only
    have := ih (k + 1) (by omega)
    rw [rk_s] at this
    by_cases c1 : heft p t < heft p k
    · rw [if_pos (Or.inl c1)] at this
      rw [if_pos (nI_lt c1 (by omega)), nI_1, nI_1]
      rintro x rfl y rfl
      exact this
    · rw [if_neg (nI_nlt (by omega) (by omega))]
      refine M_heft hb ok hr hk0 ?_
      try dsimp only
      refine M_heft hb ok hr ht ?_
      try dsimp only
      by_cases c2 : heft p k = heft p t
      · rw [if_pos (by rw [c2])]
        by_cases c3 : k < t
        · rw [if_pos (Or.inr ⟨c2, c3⟩)] at this
          rw [if_neg (nI_ge c3 (by omega)), nI_1, nI_1]
          rintro x rfl y rfl
          exact this
        · rw [if_neg (by omega)] at this
          rw [if_pos (nI_le (by omega) (by omega)), nI_1, l0, nI_add]
          rintro x rfl y rfl
          exact this
      · rw [if_neg (by omega)] at this
        rw [if_neg (fun e => c2 ((nI_eq (by omega) (by omega)).mp e)), nI_1, l0, nI_add]
        rintro x rfl y rfl
        exact this
theorem M_rank {b : Nat} {S : RT} {p : PT} (hb : b < 2000) (ok : okP b p) (hr : repM S p) {t : Nat} (ht : t < p 30 0) {Q : Int32 → Prop} (h : Q (nI (rk p t (p 30 0)))) : wX7_aheadOf S (nI t) Q := ⟨_, M_rankL hb ok hr ht h (p 30 0) 0 (by omega)⟩
def cRk (p : PT) (a : Int32) : Nat → Bool := fun t => decide (nI (rk p t (p 30 0)) = a)
theorem X_rankedL {b : Nat} {P : RT} {p : PT} (hb : b < 2000) (ok : okP b p) (hr : repX P p) {a : Int32} {Q : Int32 → Prop} : ∀ (n k : Nat), k + n = p 30 0 → Q (fnd (cRk p a) n k) → bX4_ranked_2 P Q (n + 1) a (nI k) := by
  have o1 := ok.1
  intro n
  induction n with
  | zero =>
    intro k hk h
    rw [bX4_ranked_2, hr.1, if_pos (nI_le (by omega) (by omega))]
    exact h
  | succ n ih =>
    intro k hk h
    rw [bX4_ranked_2, hr.1, if_neg (nI_ge (by omega) (by omega))]
    refine X_rank hb ok hr (by omega) ?_
    try dsimp only
    by_cases c : nI (rk p k (p 30 0)) = a
    · rw [if_pos c]
      rw [fnd, cRk, decide_eq_true c, if_pos rfl] at h
      exact h
    · rw [if_neg c, nI_1]
      rintro x rfl
      refine ih (k + 1) (by omega) ?_
      rw [fnd, if_neg (by rw [cRk, decide_eq_false c]; decide)] at h
      exact h
theorem M_rowsL {b : Nat} {S : RT} {p : PT} (hb : b < 2000) (ok : okP b p) (hr : repM S p) {a : Int32} {Q : Int32 → RT → Prop} : ∀ (n k : Nat), k + n = p 30 0 → Q (fnd (cRk p a) n k) S → bX7_rows_13 Q (n + 1) S a (nI k) := by
  have o1 := ok.1
  intro n
  induction n with
  | zero =>
    intro k hk h
    rw [bX7_rows_13, hr.1, if_pos (nI_le (by omega) (by omega))]
    exact h
  | succ n ih =>
    intro k hk h
    rw [bX7_rows_13, hr.1, if_neg (nI_ge (by omega) (by omega))]
    refine M_rank hb ok hr (by omega) ?_
    try dsimp only
    by_cases c : nI (rk p k (p 30 0)) = a
    · rw [if_pos c]
      rw [fnd, cRk, decide_eq_true c, if_pos rfl] at h
      exact h
    · rw [if_neg c, nI_1]
      rintro x rfl
      refine ih (k + 1) (by omega) ?_
      rw [fnd, if_neg (by rw [cRk, decide_eq_false c]; decide)] at h
      exact h
theorem st_rows : St_rows Inv9 := by
  intro F P K G T N L S hI a1
  have hI2 := hI
  obtain ⟨p, ok, hx, hm, hq⟩ := hI
  have o1 := ok.1
  unfold wX6_rows wX7_rows wX4_ranked
  by_cases c : 0 ≤ a1
  · rw [if_pos c]
    refine ⟨_, X_rankedL (b := 999) (by decide) ok hx (p 30 0) 0 (by omega) ?_⟩
    try dsimp only
    rw [if_pos c]
    exact ⟨_, M_rowsL (b := 999) (by decide) ok hm (p 30 0) 0 (by omega) ⟨rfl, hI2⟩⟩
  · rw [if_neg c]
    refine X_ref 4 (by decide) (by decide) ?_
    try dsimp only
    rw [if_neg c]
    exact M_no 4 (by decide) (by decide) ⟨rfl, Inv9.ref ok hx hm hq 4 G T⟩
/-- between two hefts -/
def ins (p : PT) (a b : Nat) : Nat → Nat := sumN (fun u => if (a < heft p u ∧ heft p u < b) ∨ (b < heft p u ∧ heft p u < a) then 1 else 0)
theorem ins_s {p : PT} {a b k : Nat} : ins p a b (k + 1) = ins p a b k + (if (a < heft p k ∧ heft p k < b) ∨ (b < heft p k ∧ heft p k < a) then 1 else 0) := rfl
theorem X_insL {B : Nat} {P : RT} {p : PT} (hb : B < 2000) (ok : okP B p) (hr : repX P p) {a b : Nat} (ha : a ≤ 107) (hb2 : b ≤ 107) {Q : Int32 → Prop} (h : Q (nI (ins p a b (p 30 0)))) : ∀ (n k : Nat), k + n = p 30 0 → bX4_countInside_35 P Q (n + 1) (nI (min a b)) (nI (max a b)) (nI (ins p a b k)) (nI k) := by
  have o1 := ok.1
  intro n
  induction n with
  | zero =>
    intro k hk
    rw [bX4_countInside_35, hr.1, if_pos (nI_le (by omega) (by omega))]
    have : k = p 30 0 := by omega
    rw [this]
    exact h
  | succ n ih =>
    intro k hk
    have hk1 := heft_le ok (show k < p 30 0 by omega)
    rw [bX4_countInside_35, hr.1, if_neg (nI_ge (by omega) (by omega))]
    unfold bX4_countInside_68
    refine X_heft hb ok hr (by omega) ?_
    try dsimp only
    have := ih (k + 1) (by omega)
    rw [ins_s] at this
    by_cases c1 : heft p k ≤ min a b
    · rw [if_neg (by omega)] at this
      rw [if_pos (nI_le c1 (by omega)), nI_1]
      rintro y rfl
      exact this
    · rw [if_neg (nI_ge (by omega) (by omega))]
      by_cases c2 : max a b ≤ heft p k
      · rw [if_neg (by omega)] at this
        rw [if_pos (nI_le c2 (by omega)), nI_1]
        rintro y rfl
        exact this
      · rw [if_pos (by omega)] at this
        rw [if_neg (nI_ge (by omega) (by omega)), nI_1, nI_1]
        rintro x rfl y rfl
        exact this
theorem mnI {a b : Nat} (ha : a < 2 ^ 31) (hb : b < 2 ^ 31) : (if nI b < nI a then nI b else nI a) = nI (min a b) := by
  by_cases c : b < a
  · rw [if_pos (nI_lt c (by omega)), Nat.min_eq_right (by omega)]
  · rw [if_neg (nI_nlt (by omega) (by omega)), Nat.min_eq_left (by omega)]
theorem mxI {a b : Nat} (ha : a < 2 ^ 31) (hb : b < 2 ^ 31) : (if nI a < nI b then nI b else nI a) = nI (max a b) := by
  by_cases c : a < b
  · rw [if_pos (nI_lt c (by omega)), Nat.max_eq_right (by omega)]
  · rw [if_neg (nI_nlt (by omega) (by omega)), Nat.max_eq_left (by omega)]
theorem M_insL {B : Nat} {S : RT} {p : PT} (hb : B < 2000) (ok : okP B p) (hr : repM S p) {a b : Nat} (ha : a ≤ 107) (hb2 : b ≤ 107) {Q : Int32 → RT → Prop} (h : Q (nI (ins p a b (p 30 0))) S) : ∀ (n k : Nat), k + n = p 30 0 → bX7_between_34 Q (n + 1) S (nI a) (nI b) (nI (ins p a b k)) (nI k) := by
  have o1 := ok.1
  intro n
  induction n with
  | zero =>
    intro k hk
    rw [bX7_between_34, hr.1, if_pos (nI_le (by omega) (by omega))]
    have : k = p 30 0 := by omega
    rw [this]
    exact h
  | succ n ih =>
    intro k hk
    have hk0 : k < p 30 0 := by omega
    have hk1 := heft_le ok hk0
    have hh : ∀ {Q : Int32 → Prop}, Q (nI (heft p k)) → wX7_heft S (nI k) Q := fun h => M_heft hb ok hr hk0 h
    rw [bX7_between_34, hr.1, if_neg (nI_ge (by omega) (by omega))]
    unfold bX7_between_66 bX7_between_87 bX7_between_91 bX7_between_92
    have := ih (k + 1) (by omega)
    rw [ins_s] at this
    have y : ((a < heft p k ∧ heft p k < b) ∨ (b < heft p k ∧ heft p k < a)) → ∀ x2 : Int32, x2 = nI (ins p a b k) + 1 → ∀ x3 : Int32, x3 = nI k + 1 → bX7_between_34 Q (n + 1) S (nI a) (nI b) x2 x3 := by
      intro q
      rw [if_pos q] at this
      rw [nI_1, nI_1]
      rintro x rfl y rfl
      exact this
    have z : ¬ ((a < heft p k ∧ heft p k < b) ∨ (b < heft p k ∧ heft p k < a)) → ∀ x2 : Int32, x2 = nI (ins p a b k) + 0 → ∀ x3 : Int32, x3 = nI k + 1 → bX7_between_34 Q (n + 1) S (nI a) (nI b) x2 x3 := by
      intro q
      rw [if_neg q] at this
      rw [l0, nI_add, nI_1]
      rintro x rfl y rfl
      exact this
    refine hh ?_
    try dsimp only
    by_cases c1 : heft p k ≤ a
    · rw [if_pos (nI_le c1 (by omega))]
      refine hh ?_
      try dsimp only
      by_cases c2 : heft p k ≤ b
      · rw [if_pos (nI_le c2 (by omega))]; exact z (by omega)
      · rw [if_neg (nI_ge (by omega) (by omega))]
        refine hh ?_
        try dsimp only
        by_cases c3 : a ≤ heft p k
        · rw [if_pos (nI_le c3 (by omega))]; exact z (by omega)
        · rw [if_neg (nI_ge (by omega) (by omega))]; exact y (by omega)
    · rw [if_neg (nI_ge (by omega) (by omega))]
      refine hh ?_
      try dsimp only
      by_cases c2 : heft p k < b
      · rw [if_pos (nI_lt c2 (by omega))]; exact y (by omega)
      · rw [if_neg (nI_nlt (by omega) (by omega))]
        refine hh ?_
        try dsimp only
        by_cases c3 : heft p k ≤ b
        · rw [if_pos (nI_le c3 (by omega))]; exact z (by omega)
        · rw [if_neg (nI_ge (by omega) (by omega))]
          refine hh ?_
          try dsimp only
          rw [if_pos (nI_le (show a ≤ heft p k by omega) (by omega))]; exact z (by omega)
theorem st_between : St_between Inv9 := by
  intro F P K G T N L S hI a1 a2
  have hI2 := hI
  obtain ⟨p, ok, hx, hm, hq⟩ := hI
  have o1 := ok.1
  unfold wX6_between wX7_between wX4_countInside
  rcases prc a1 a2 (p 30 0) (by omega) with ⟨a, b, ha, hb, hab, rfl, rfl⟩ | c
  · have h1 := heft_le ok ha
    have h2 := heft_le ok hb
    refine X_hP o1 hx.1 ha hb hab ?_
    try dsimp only
    rw [if_neg bz_k]
    refine X_heft (b := 999) (by decide) ok hx ha ?_
    try dsimp only
    refine X_heft (b := 999) (by decide) ok hx hb ?_
    try dsimp only
    rw [mnI (by omega) (by omega)]
    rintro x rfl
    refine X_heft (b := 999) (by decide) ok hx ha ?_
    try dsimp only
    refine X_heft (b := 999) (by decide) ok hx hb ?_
    try dsimp only
    rw [mxI (by omega) (by omega)]
    rintro x rfl
    refine ⟨_, X_insL (B := 999) (by decide) ok hx h1 h2 ?_ (p 30 0) 0 (by omega)⟩
    refine M_aT o1 hm.1 ha hb hab ?_
    try dsimp only
    rw [if_neg bz_k]
    refine M_heft (b := 999) (by decide) ok hm ha ?_
    try dsimp only
    refine M_heft (b := 999) (by decide) ok hm hb ?_
    try dsimp only
    exact ⟨_, M_insL (B := 999) (by decide) ok hm h1 h2 ⟨rfl, hI2⟩ (p 30 0) 0 (by omega)⟩
  · refine X_hP_no o1 hx.1 c ?_
    try dsimp only
    rw [if_pos rfl]
    refine X_ref 1 (by decide) (by decide) ?_
    try dsimp only
    refine M_aT_no o1 hm.1 c ?_
    try dsimp only
    rw [if_pos rfl]
    exact M_no 1 (by decide) (by decide) ⟨rfl, Inv9.ref ok hx hm hq 1 G T⟩
/-- the first with the least, of those that may be -/
def gmS (c : Nat → Bool) (d : Nat → Nat) (o : Option Nat) (j : Nat) : Option Nat :=
  if c j = true then (match o with | none => some j | some u => if d j < d u then some j else some u) else o
def gm (c : Nat → Bool) (d : Nat → Nat) (st : Nat) : Nat → Nat → Option Nat → Option Nat
  | 0, _, o => o
  | n + 1, j, o => gm c d st n (j + st) (gmS c d o j)
def oI (o : Option Nat) : Int32 := match o with | none => -9 | some u => nI u
def oM (big : Nat) (d : Nat → Nat) (o : Option Nat) : Nat := match o with | none => big | some u => d u
theorem gmS_no {c : Nat → Bool} {d : Nat → Nat} {o : Option Nat} {j : Nat} (h : c j = false) : gmS c d o j = o := by unfold gmS; rw [if_neg (by rw [h]; decide)]
theorem gmS_0 {c : Nat → Bool} {d : Nat → Nat} {j : Nat} (h : c j = true) : gmS c d none j = some j := by unfold gmS; rw [if_pos h]
theorem gmS_lt {c : Nat → Bool} {d : Nat → Nat} {j u : Nat} (h : c j = true) (h2 : d j < d u) : gmS c d (some u) j = some j := by unfold gmS; rw [if_pos h]; show (if d j < d u then some j else some u) = _; rw [if_pos h2]
theorem gmS_ge {c : Nat → Bool} {d : Nat → Nat} {j u : Nat} (h2 : ¬ d j < d u) : gmS c d (some u) j = some u := by
  unfold gmS
  by_cases h : c j = true
  · rw [if_pos h]; show (if d j < d u then some j else some u) = _; rw [if_neg h2]
  · rw [if_neg h]
def far (a b : Nat) : Nat := (a - b) + (b - a)
theorem absI {a b : Nat} (ha : a < 2 ^ 30) (hb : b < 2 ^ 30) : (if 0 ≤ nI a - nI b then nI a - nI b else 0 - (nI a - nI b)) = nI (far a b) := by
  unfold far
  by_cases c : b ≤ a
  · rw [if_pos ((nsub_ge ha hb).mpr c), nS c, Nat.sub_eq_zero_of_le c, Nat.add_zero]
  · rw [if_neg (fun q => c ((nsub_ge ha hb).mp q)), Int32.zero_sub, nneg, nS (by omega), Nat.sub_eq_zero_of_le (show a ≤ b by omega), Nat.zero_add]
theorem M_far {a b : Nat} (ha : a < 2 ^ 30) (hb : b < 2 ^ 30) {Q : Int32 → Prop} (h : Q (nI (far a b))) : wX7_far (nI a) (nI b) Q := by
  unfold wX7_far
  unfold far at h
  by_cases c : a ≤ b
  · rw [if_pos (nI_le c (by omega)), nS c]
    rw [Nat.sub_eq_zero_of_le c, Nat.zero_add] at h; exact h
  · rw [if_neg (nI_ge (by omega) (by omega)), nS (by omega)]
    rw [Nat.sub_eq_zero_of_le (show b ≤ a by omega), Nat.add_zero] at h; exact h
def cNr (t : Nat) : Nat → Bool := fun j => decide (j ≠ t)
def dNr (p : PT) (t : Nat) : Nat → Nat := fun j => far (heft p j) (heft p t)
theorem dNr_le {b : Nat} {p : PT} (ok : okP b p) {t j : Nat} (ht : t < p 30 0) (hj : j < p 30 0) : dNr p t j ≤ 107 := by
  have h1 := heft_le ok ht
  have h2 := heft_le ok hj
  unfold dNr far
  omega
theorem X_nearL {b : Nat} {P : RT} {p : PT} (hb : b < 2000) (ok : okP b p) (hr : repX P p) {t : Nat} (ht : t < p 30 0) {Q : Int32 → Prop} : ∀ (n j : Nat) (o : Option Nat), j + n = p 30 0 → (∀ u, o = some u → u < p 30 0) → Q (oI (gm (cNr t) (dNr p t) 1 n j o)) → bX4_mostAlike_16 P Q (n + 1) (nI t) (nI (heft p t)) (oI o) (nI (oM 1000000 (dNr p t) o)) (nI j) := by
  have o1 := ok.1
  have ht1 := heft_le ok ht
  intro n
  induction n with
  | zero =>
    intro j o hj ho h
    rw [bX4_mostAlike_16, hr.1, if_pos (nI_le (by omega) (by omega))]
    exact h
  | succ n ih =>
    intro j o hj ho h
    have hj0 : j < p 30 0 := by omega
    have hj1 := heft_le ok hj0
    have hd := dNr_le ok ht hj0
    rw [bX4_mostAlike_16, hr.1, if_neg (nI_ge (by omega) (by omega))]
    unfold bX4_mostAlike_58
    refine X_heft hb ok hr hj0 ?_
    try dsimp only
    rw [absI (by omega) (by omega), nI_1]
    rintro x rfl
    rw [gm] at h
    by_cases c : j = t
    · rw [if_pos (by rw [c])]
      rintro y rfl
      rw [gmS_no (by rw [cNr, decide_eq_false (by omega)])] at h
      exact ih (j + 1) o (by omega) ho h
    · have cj : cNr t j = true := decide_eq_true c
      rw [if_neg (fun e => c ((nI_eq (by omega) (by omega)).mp e))]
      cases o with
      | none =>
        rw [gmS_0 cj] at h
        rw [if_neg (show ¬ nI (oM 1000000 (dNr p t) none) ≤ nI (far (heft p j) (heft p t)) from nI_ge (b := 1000000) (a := dNr p t j) (by omega) (by omega))]
        rintro y rfl
        exact ih (j + 1) (some j) (by omega) (fun u e => by cases e; exact hj0) h
      | some u =>
        have hu := dNr_le ok ht (ho u rfl)
        by_cases c2 : dNr p t j < dNr p t u
        · rw [gmS_lt cj c2] at h
          rw [if_neg (show ¬ nI (oM 1000000 (dNr p t) (some u)) ≤ nI (far (heft p j) (heft p t)) from nI_ge (b := dNr p t u) (a := dNr p t j) (by omega) (by omega))]
          rintro y rfl
          exact ih (j + 1) (some j) (by omega) (fun u e => by cases e; exact hj0) h
        · rw [gmS_ge c2] at h
          rw [if_pos (show nI (oM 1000000 (dNr p t) (some u)) ≤ nI (far (heft p j) (heft p t)) from nI_le (a := dNr p t u) (b := dNr p t j) (by omega) (by omega))]
          rintro y rfl
          exact ih (j + 1) (some u) (by omega) ho h
theorem M_nearL {b : Nat} {S : RT} {p : PT} (hb : b < 2000) (ok : okP b p) (hr : repM S p) {t : Nat} (ht : t < p 30 0) {Q : Int32 → RT → Prop} : ∀ (n j : Nat) (o : Option Nat), j + n = p 30 0 → (∀ u, o = some u → u < p 30 0) → Q (oI (gm (cNr t) (dNr p t) 1 n j o)) S → bX7_nearest_19 Q (n + 1) S (nI t) (oI o) (nI j) := by
  have o1 := ok.1
  have ht1 := heft_le ok ht
  intro n
  induction n with
  | zero =>
    intro j o hj ho h
    rw [bX7_nearest_19, hr.1, if_pos (nI_le (by omega) (by omega))]
    exact h
  | succ n ih =>
    intro j o hj ho h
    have hj0 : j < p 30 0 := by omega
    have hj1 := heft_le ok hj0
    have hd := dNr_le ok ht hj0
    rw [bX7_nearest_19, hr.1, if_neg (nI_ge (by omega) (by omega))]
    unfold bX7_nearest_65 bX7_nearest_67
    rw [nI_1]
    rw [gm] at h
    by_cases c : j = t
    · rw [if_pos (by rw [c])]
      rintro y rfl
      rw [gmS_no (by rw [cNr, decide_eq_false (by omega)])] at h
      exact ih (j + 1) o (by omega) ho h
    · have cj : cNr t j = true := decide_eq_true c
      rw [if_neg (fun e => c ((nI_eq (by omega) (by omega)).mp e))]
      cases o with
      | none =>
        rw [gmS_0 cj] at h
        rw [if_pos (show oI none < 0 by decide)]
        rintro y rfl
        exact ih (j + 1) (some j) (by omega) (fun u e => by cases e; exact hj0) h
      | some u =>
        have hu0 := ho u rfl
        have hu := dNr_le ok ht hu0
        have hu1 := heft_le ok hu0
        rw [if_neg (show ¬ oI (some u) < 0 from nI_pos (by omega))]
        refine M_heft hb ok hr hj0 ?_
        try dsimp only
        refine M_heft hb ok hr ht ?_
        try dsimp only
        refine M_far (by omega) (by omega) ?_
        try dsimp only
        refine M_heft (t := u) hb ok hr hu0 ?_
        try dsimp only
        refine M_heft hb ok hr ht ?_
        try dsimp only
        refine M_far (by omega) (by omega) ?_
        try dsimp only
        by_cases c2 : dNr p t j < dNr p t u
        · rw [gmS_lt cj c2] at h
          rw [if_neg (show ¬ nI (far (heft p u) (heft p t)) ≤ nI (far (heft p j) (heft p t)) from nI_ge (b := dNr p t u) (a := dNr p t j) (by omega) (by omega))]
          rintro y rfl
          exact ih (j + 1) (some j) (by omega) (fun u e => by cases e; exact hj0) h
        · rw [gmS_ge c2] at h
          rw [if_pos (show nI (far (heft p u) (heft p t)) ≤ nI (far (heft p j) (heft p t)) from nI_le (a := dNr p t u) (b := dNr p t j) (by omega) (by omega))]
          rintro y rfl
          exact ih (j + 1) (some u) (by omega) ho h
theorem st_nearest : St_nearest Inv9 := by
  intro F P K G T N L S hI a1
  have hI2 := hI
  obtain ⟨p, ok, hx, hm, hq⟩ := hI
  have o1 := ok.1
  unfold wX6_nearest wX7_nearest wX4_mostAlike
  rcases ixc a1 (p 30 0) (by omega) with ⟨t, ht, rfl⟩ | c1
  · refine X_hT hx.1 ht ok.1 ?_
    try dsimp only
    rw [if_neg bz_k]
    refine X_heft (b := 999) (by decide) ok hx ht ?_
    try dsimp only
    refine ⟨_, X_nearL (b := 999) (by decide) ok hx ht (p 30 0) 0 none (by omega) (fun u e => by cases e) ?_⟩
    refine M_iT hm.1 ht ok.1 ?_
    try dsimp only
    rw [if_neg bz_k]
    exact ⟨_, M_nearL (b := 999) (by decide) ok hm ht (p 30 0) 0 none (by omega) (fun u e => by cases e) ⟨rfl, hI2⟩⟩
  · refine X_hT_no hx.1 c1 ?_
    try dsimp only
    rw [if_pos rfl]
    refine X_ref 1 (by decide) (by decide) (M_iT_no hm.1 c1 ?_)
    try dsimp only
    rw [if_pos rfl]
    exact M_no 1 (by decide) (by decide) ⟨rfl, Inv9.ref ok hx hm hq 1 G T⟩
