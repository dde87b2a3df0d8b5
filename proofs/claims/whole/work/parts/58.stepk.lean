/-! ===== PURE: least terms, the mean ===== -/
theorem yN_mul (a b : Nat) : lN a * lN b = lN (a * b) := (Int64.ofNat_mul a b).symm
theorem yN_add (a b : Nat) : lN a + lN b = lN (a + b) := (Int64.ofNat_add a b).symm
theorem yN_sub {a b : Nat} (h : b ≤ a) : lN a - lN b = lN (a - b) := (Int64.ofNat_sub a b h).symm
theorem yN_div {a b : Nat} (ha : a < 2 ^ 63) (hb : b < 2 ^ 63) : lN a / lN b = lN (a / b) := (Int64.ofNat_div ha hb).symm
theorem yN_I {a : Nat} (h : a < 2 ^ 63) : (lN a).toInt = (a : Int) := lg_ofNat_toInt h
theorem yN_eq {a b : Nat} (ha : a < 2 ^ 63) (hb : b < 2 ^ 63) : lN a = lN b ↔ a = b := by
  rw [← Int64.toInt_inj, yN_I ha, yN_I hb]; omega
theorem nI_64 {s : Nat} (h : s < 2 ^ 31) : (nI s).toInt64 = lN s := by
  apply Int64.toInt_inj.mp
  rw [Int32.toInt_toInt64, nI_toInt h]
  exact (lg_ofNat_toInt (by omega)).symm
theorem cmp0 {a : Nat} (ha : a < 2 ^ 63) : lg_cmp (lN a) (0 : Int64) = 0 ↔ a = 0 := by
  unfold lg_cmp
  by_cases c : a = 0
  · subst c
    constructor
    · intro _; rfl
    · intro _; decide
  · have h1 : ¬ lN a = 0 := fun q => c ((yN_eq (b := 0) ha (by decide)).mp q)
    constructor
    · intro q
      exfalso
      by_cases d : lN a > (0 : Int64)
      · rw [if_pos d] at q; exact absurd q (by decide)
      · rw [if_neg d, if_neg h1] at q; exact absurd q (by decide)
    · intro q; exact absurd q c
theorem yN_ne0 {a : Nat} (ha : a < 2 ^ 63) (h : a ≠ 0) : ¬ lN a = 0 := fun q => h ((yN_eq (b := 0) ha (by decide)).mp q)
theorem yN_mod {a b : Nat} (ha : a < 2 ^ 63) (hb : b < 2 ^ 63) : lN a - lN a / lN b * lN b = lN (a % b) := by
  have h : a / b * b ≤ a := Nat.div_mul_le_self a b
  rw [yN_div ha hb, yN_mul, yN_sub h]
  have := Nat.div_add_mod a b
  rw [Nat.mul_comm] at this
  rw [show a - a / b * b = a % b by omega]
theorem gcd_st (d r : Nat) : Nat.gcd d r = Nat.gcd r (d % r) := by
  rw [Nat.gcd_comm d r, Nat.gcd_rec r d, Nat.gcd_comm]
theorem mod_half {r q : Nat} (h : q < r) (h0 : 0 < q) {k : Nat} (hr : r < 2 ^ (k + 1)) : r % q < 2 ^ k := by
  have h1 : r % q < q := Nat.mod_lt _ h0
  have h2 := Nat.div_add_mod r q
  have h3 : 1 ≤ r / q := (Nat.le_div_iff_mul_le h0).mpr (by omega)
  have h4 : q * 1 ≤ q * (r / q) := Nat.mul_le_mul_left q h3
  have e : (2 : Nat) ^ (k + 1) = 2 ^ k * 2 := Nat.pow_succ ..
  omega
theorem X_leastL {y0 y2 : Int64} {x4 : Int32} {Q : Int64 → Prop} : ∀ (k d r i : Nat), d < 2 ^ 63 → r < 2 ^ k → r < 2 ^ 63 → i + 2 * k ≤ 90 → bX6_inLeastTerms_44 Q y0 y2 x4 (lN (Nat.gcd d r)) → ∃ j, bX6_inLeastTerms_9 Q j y0 y2 x4 (lN d) (lN r) (nI i) := by
  have hi : ∀ i, i < 100 → ¬ (100 : Int32) ≤ nI i := fun i h => by rw [l100]; exact nI_ge h (by omega)
  intro k
  induction k with
  | zero =>
    intro d r i hd hr hr2 hk h
    have : r = 0 := by have : (2 : Nat) ^ 0 = 1 := rfl; omega
    subst this
    rw [Nat.gcd_zero_right] at h
    refine ⟨1, ?_⟩
    rw [bX6_inLeastTerms_9, if_neg (hi i (by omega)), if_pos ((cmp0 (by decide)).mpr rfl)]
    exact h
  | succ k ih =>
    intro d r i hd hr hr2 hk h
    by_cases c : r = 0
    · subst c
      rw [Nat.gcd_zero_right] at h
      refine ⟨1, ?_⟩
      rw [bX6_inLeastTerms_9, if_neg (hi i (by omega)), if_pos ((cmp0 (by decide)).mpr rfl)]
      exact h
    · have hq : d % r < r := Nat.mod_lt _ (by omega)
      rw [gcd_st] at h
      by_cases c2 : d % r = 0
      · rw [c2, Nat.gcd_zero_right] at h
        refine ⟨2, ?_⟩
        rw [bX6_inLeastTerms_9, if_neg (hi i (by omega)), if_neg (fun q => c ((cmp0 hr2).mp q)), yN_mod hd hr2, nI_1]
        refine ⟨yN_ne0 hr2 c, ?_⟩
        rintro x rfl y rfl
        rw [bX6_inLeastTerms_9, if_neg (hi _ (by omega)), if_pos ((cmp0 (by omega)).mpr c2)]
        exact h
      · have h2 := mod_half hq (by omega) hr
        rw [gcd_st] at h
        obtain ⟨j, hj⟩ := ih (d % r) (r % (d % r)) (i + 2) (by omega) h2 (by have := Nat.mod_lt r (show 0 < d % r by omega); omega) (by omega) h
        refine ⟨j + 2, ?_⟩
        rw [bX6_inLeastTerms_9, if_neg (hi i (by omega)), if_neg (fun q => c ((cmp0 hr2).mp q)), yN_mod hd hr2, nI_1]
        refine ⟨yN_ne0 hr2 c, ?_⟩
        rintro x rfl y rfl
        rw [bX6_inLeastTerms_9, if_neg (hi _ (by omega)), if_neg (fun q => c2 ((cmp0 (by omega)).mp q)), yN_mod hr2 (by omega), nI_1]
        refine ⟨yN_ne0 (by omega) c2, ?_⟩
        rintro x rfl y rfl
        exact hj
/-- a part in least terms -/
def lt2 (up dn : Nat) (part : Int32) : Int64 := (if part = 0 then lN up else lN dn) / lN (Nat.gcd up dn)
theorem X_least {up dn : Nat} (h1 : up < 2 ^ 40) (h2 : dn < 2 ^ 40) (h0 : 0 < dn) {part : Int32} {Q : Int64 → Prop} (h : Q (lt2 up dn part)) : wX6_inLeastTerms (lN up) (lN dn) part Q := by
  unfold wX6_inLeastTerms
  refine X_leastL 40 dn up 0 (by omega) h1 (by omega) (by omega) ?_
  try dsimp only
  have hg : 0 < Nat.gcd dn up := Nat.gcd_pos_of_pos_left _ h0
  have hl : Nat.gcd dn up ≤ dn := Nat.gcd_le_left _ h0
  unfold bX6_inLeastTerms_44
  rw [if_neg (fun q => by have := (cmp0 (by omega)).mp q; omega)]
  unfold lt2 at h
  rw [Nat.gcd_comm up dn] at h
  by_cases c : part = 0
  · rw [if_pos c] at h ⊢
    exact ⟨yN_ne0 (by omega) (by omega), h⟩
  · rw [if_neg c] at h ⊢
    exact ⟨yN_ne0 (by omega) (by omega), h⟩
theorem M_divL {Q : Int64 → Prop} : ∀ (m x y : Nat), y ≤ m → x < 2 ^ 63 → y < 2 ^ 63 → Q (lN (Nat.gcd x y)) → ∃ j, bX7_divisor_6 Q j (lN x) (lN y) := by
  intro m
  induction m with
  | zero =>
    intro x y hm hx hy h
    have : y = 0 := by omega
    subst this
    rw [Nat.gcd_zero_right] at h
    refine ⟨1, ?_⟩
    rw [bX7_divisor_6, if_pos ((cmp0 (by decide)).mpr rfl)]
    exact h
  | succ m ih =>
    intro x y hm hx hy h
    by_cases c : y = 0
    · subst c
      rw [Nat.gcd_zero_right] at h
      refine ⟨1, ?_⟩
      rw [bX7_divisor_6, if_pos ((cmp0 (by decide)).mpr rfl)]
      exact h
    · have hq : x % y < y := Nat.mod_lt _ (by omega)
      rw [gcd_st] at h
      obtain ⟨j, hj⟩ := ih y (x % y) (by omega) hy (by omega) h
      refine ⟨j + 1, ?_⟩
      rw [bX7_divisor_6, if_neg (fun q => c ((cmp0 hy).mp q)), yN_mod hx hy]
      refine ⟨yN_ne0 hy c, ?_⟩
      rintro x rfl
      exact hj
theorem M_part {up dn : Nat} (h1 : up < 2 ^ 40) (h2 : dn < 2 ^ 40) (h0 : 0 < dn) {part : Int32} {Q : Int64 → Prop} (h : Q (lt2 up dn part)) : wX7_partOf (lN up) (lN dn) part Q := by
  have hg : 0 < Nat.gcd up dn := Nat.gcd_pos_of_pos_right _ h0
  have hl : Nat.gcd up dn ≤ dn := Nat.gcd_le_right _ h0
  have hne : ¬ lN (Nat.gcd up dn) = 0 := yN_ne0 (by omega) (by omega)
  unfold wX7_partOf bX7_partOf_10 wX7_divisor
  unfold lt2 at h
  by_cases c : part = 0
  · rw [if_pos c] at h ⊢
    exact M_divL dn up dn (Nat.le_refl _) (by omega) (by omega) ⟨hne, h⟩
  · rw [if_neg c] at h ⊢
    exact M_divL dn up dn (Nat.le_refl _) (by omega) (by omega) ⟨hne, h⟩
theorem X_refL {F : RT} {x : Int32} (k : Nat) {Q : Int64 → RT → Prop} (hk : k < 7) (e : -x = nI k) (h : Q ((4000000000000000000 : Int64) - x.toInt64) (set2 F 6 k (F 6 k + 1))) : wX6_refuseLong F x Q := by
  unfold wX6_refuseLong
  exact X_ref k hk e h
theorem M_lowest {S : RT} {x : Int32} (k : Nat) {Q : Int64 → RT → Prop} (hk : k < 7) (e : -x = nI k) (h : Q ((4000000000000000000 : Int64) - x.toInt64) (set2 S 0 k (S 0 k + 1))) : wX7_lowest S x Q := by
  unfold wX7_lowest
  rw [e, nI_clamp (by omega)]
  refine ⟨(vin (by omega)).mpr (by omega), ?_⟩
  rintro S2 rfl
  exact h
theorem in01 {a : Int32} (h0 : ¬ a = 0) (h1 : ¬ a = 1) : ¬ (0 ≤ a ∧ a ≤ 1) := by
  rintro ⟨q1, q2⟩
  obtain ⟨j, hj, e⟩ := nI_of2 (M := 1) (n := 1) rfl (fun q => (il.mp q) q1) q2
  have : j = 0 ∨ j = 1 := by omega
  rcases this with rfl | rfl
  · exact h0 e
  · exact h1 e
theorem in01y {a : Int32} (h : a = 0 ∨ a = 1) : (if 0 ≤ a ∧ a ≤ 1 then (1 : Int32) else 0) = 1 := by
  rcases h with rfl | rfl
  · decide
  · decide
theorem st_mean : St_mean Inv9 := by
  intro F P K G T N L S hI a1
  have hI2 := hI
  obtain ⟨p, ok, hx, hm, hq⟩ := hI
  have o1 := ok.1
  have hs : sumN (p 4) (p 30 0) ≤ 160 := by
    have h1 := sumN_le (f := p 4) (c := 20) (n := p 30 0) (fun i hi => (ok.2.2.2.1 i hi).2.2.2.2)
    omega
  unfold wX6_mean wX7_mean
  have main : a1 = 0 ∨ a1 = 1 → bX6_mean_16 P K G T N L (fun r_1 F_1 => wX7_mean S a1 (fun r_2 S_2 => r_1 = r_2 ∧ Inv9 F_1 P K G T N L S_2)) F a1 := by
    intro ha
    unfold bX6_mean_16 wX7_mean
    refine X_allHeights o1 hx ?_
    try dsimp only
    rw [hx.1, show (if (1 : Int32) < nI (p 30 0) then nI (p 30 0) else 1) = nI (max 1 (p 30 0)) from mxI (a := 1) (by omega) (by omega), nI_64 (by omega), nI_64 (by omega)]
    refine X_least (by omega) (by omega) (by omega) ?_
    try dsimp only
    refine M_isIn ?_
    try dsimp only
    rw [in01y ha, if_neg bz_k, hm.1]
    by_cases c : p 30 0 = 0
    · rw [c, if_pos (show nI 0 = 0 from rfl)]
      refine ⟨?_, hI2⟩
      rcases ha with rfl | rfl
      · show lt2 0 1 0 = _; decide
      · show lt2 0 1 1 = _; decide
    · rw [if_neg (show ¬ nI (p 30 0) = 0 from fun q => c ((nI_eq (b := 0) (by omega) (by omega)).mp q))]
      refine M_allHigh o1 hm ?_
      try dsimp only
      rw [nI_64 (by omega), nI_64 (by omega), Nat.max_eq_right (by omega)]
      exact M_part (by omega) (by omega) (by omega) ⟨rfl, hI2⟩
  unfold wX7_mean at main
  by_cases c0 : a1 = 0
  · rw [if_pos c0]; exact main (Or.inl c0)
  rw [if_neg c0]
  by_cases c1 : a1 = 1
  · rw [if_pos c1]; exact main (Or.inr c1)
  rw [if_neg c1]
  refine X_refL 2 (by decide) (by decide) (M_isIn ?_)
  try dsimp only
  rw [if_pos (if_neg (in01 c0 c1))]
  exact M_lowest 2 (by decide) (by decide) ⟨rfl, Inv9.ref ok hx hm hq 2 G T⟩
