/-! ===== PURE: hauled, top ===== -/
def hvy (p : PT) (r : Nat) : Nat := if heft p (p 6 r) < heft p (p 5 r) then p 5 r else p 6 r
def lgt (p : PT) (r : Nat) : Nat := if heft p (p 6 r) < heft p (p 5 r) then p 6 r else p 5 r
def eH (p : PT) (r : Nat) : Nat := 2 ^ hvy p r
def gH (p : PT) (r s : Nat) : Bool := decide (¬ heft p (p 5 r) = heft p (p 6 r)) && s.testBit (lgt p r)
def gT (p : PT) (t r s : Nat) : Bool := decide (¬ heft p (p 5 r) = heft p (p 6 r)) && (decide (lgt p r = t) || s.testBit (lgt p r))
def hld (p : PT) (t : Nat) : Nat := itr (gT p t) (eH p) (p 30 1) 8 0
theorem hvy_lt {b : Nat} {p : PT} (ok : okP b p) {r : Nat} (hr : r < p 30 1) : hvy p r < p 30 0 ∧ lgt p r < p 30 0 := by
  have h := ok.2.2.2.2 r hr
  unfold hvy lgt
  by_cases c : heft p (p 6 r) < heft p (p 5 r)
  · rw [if_pos c, if_pos c]; exact ⟨h.1, h.2.1⟩
  · rw [if_neg c, if_neg c]; exact ⟨h.2.1, h.1⟩
theorem hvy_gt {p : PT} {r : Nat} (h : ¬ heft p (p 5 r) = heft p (p 6 r)) : heft p (lgt p r) < heft p (hvy p r) := by
  unfold hvy lgt
  by_cases c : heft p (p 6 r) < heft p (p 5 r)
  · rw [if_pos c, if_pos c]; exact c
  · rw [if_neg c, if_neg c]; omega
theorem holds_h {b : Nat} {p : PT} (ok : okP b p) {r : Nat} (hr : r < p 30 1) (h : ¬ heft p (p 5 r) = heft p (p 6 r)) : holds p r = nI (hvy p r) := by
  unfold holds hvy
  rw [if_neg h]
  by_cases c : heft p (p 6 r) < heft p (p 5 r)
  · rw [if_pos c, if_pos c]
  · rw [if_neg c, if_neg c]
theorem holds_e {p : PT} {r : Nat} (h : heft p (p 5 r) = heft p (p 6 r)) : holds p r = -9 := by unfold holds; rw [if_pos h]
theorem eH_lt {b : Nat} {p : PT} (ok : okP b p) {r : Nat} (hr : r < p 30 1) : eH p r < 256 := by
  have := hvy_lt ok hr
  have := ok.1
  exact p2lt _ (by omega)
/-- the thing itself beside -/
theorem gH_t {p : PT} {t r s : Nat} (ht : t < 8) (hl : lgt p r < 8) : gH p r (s ||| 2 ^ t) = gT p t r s := by
  unfold gH gT
  rw [Nat.testBit_or]
  have : (2 ^ t).testBit (lgt p r) = decide (lgt p r = t) := by
    rw [Nat.testBit_two_pow]
    by_cases c : t = lgt p r
    · rw [decide_eq_true c, decide_eq_true c.symm]
    · rw [decide_eq_false c, decide_eq_false (fun q => c q.symm)]
  rw [this, Bool.or_comm (s.testBit (lgt p r))]
theorem rnd_t {b : Nat} {p : PT} (ok : okP b p) {t s : Nat} (ht : t < 8) : ∀ k, k ≤ p 30 1 → rnd (gH p) (eH p) k (s ||| 2 ^ t) = rnd (gT p t) (eH p) k s ||| 2 ^ t
  | 0, _ => rfl
  | k + 1, hk => by
    have := hvy_lt ok (show k < p 30 1 by omega)
    have := ok.1
    rw [rnd, rnd_t ok ht k (by omega), rnd]
    unfold stp
    rw [gH_t ht (by omega)]
    by_cases c : gT p t k (rnd (gT p t) (eH p) k s) = true
    · rw [if_pos c, if_pos c, Nat.or_assoc, Nat.or_comm (2 ^ t), ← Nat.or_assoc]
    · rw [if_neg c, if_neg c]
theorem itr_t {b : Nat} {p : PT} (ok : okP b p) {t s : Nat} (ht : t < 8) : ∀ k, itr (gH p) (eH p) (p 30 1) k (s ||| 2 ^ t) = itr (gT p t) (eH p) (p 30 1) k s ||| 2 ^ t
  | 0 => rfl
  | k + 1 => by rw [itr, itr_t ok ht k, rnd_t ok ht _ (Nat.le_refl _), itr]
/-- all that is reached is heavier -/
def HV (p : PT) (t s : Nat) : Prop := ∀ u, s.testBit u = true → u < p 30 0 ∧ heft p t < heft p u
theorem HV_r {b : Nat} {p : PT} (ok : okP b p) {t s : Nat} (h : HV p t s) : ∀ k, k ≤ p 30 1 → HV p t (rnd (gT p t) (eH p) k s)
  | 0, _ => h
  | k + 1, hk => by
    have ih := HV_r ok h k (by omega)
    have hl := hvy_lt ok (show k < p 30 1 by omega)
    rw [rnd]
    unfold stp
    by_cases c : gT p t k (rnd (gT p t) (eH p) k s) = true
    · rw [if_pos c]
      unfold gT at c
      rw [Bool.and_eq_true] at c
      have c1 := of_decide_eq_true c.1
      have gt := hvy_gt c1
      intro u hu
      rw [Nat.testBit_or, Bool.or_eq_true] at hu
      rcases hu with hu | hu
      · exact ih u hu
      · have e : u = hvy p k := by
          unfold eH at hu
          rw [Nat.testBit_two_pow] at hu
          exact (of_decide_eq_true hu).symm
        subst e
        refine ⟨hl.1, ?_⟩
        have c2 := c.2
        rw [Bool.or_eq_true] at c2
        rcases c2 with c2 | c2
        · rw [of_decide_eq_true c2] at gt; exact gt
        · have := (ih _ c2).2
          omega
    · rw [if_neg c]; exact ih
theorem HV_i {b : Nat} {p : PT} (ok : okP b p) {t s : Nat} (h : HV p t s) : ∀ k, HV p t (itr (gT p t) (eH p) (p 30 1) k s)
  | 0 => h
  | k + 1 => HV_r ok (HV_i ok h k) _ (Nat.le_refl _)
theorem hld_HV {b : Nat} {p : PT} (ok : okP b p) {t : Nat} : HV p t (hld p t) := HV_i ok (fun u hu => by rw [Nat.zero_testBit] at hu; cases hu) 8
theorem hld_lt {b : Nat} {p : PT} (ok : okP b p) {t : Nat} : hld p t < 256 := itr_lt (by decide) (fun r hr => eH_lt ok hr) 8
theorem hld_t {b : Nat} {p : PT} (ok : okP b p) {t : Nat} : (hld p t).testBit t = false := by
  by_cases c : (hld p t).testBit t = true
  · have := (hld_HV ok t c).2; omega
  · simpa using c
theorem off_d : ∀ t, t < 8 → ∀ s, s < 256 → s.testBit t = false → (nI (s ||| 2 ^ t) &&& (nI (2 ^ t) ^^^ (-1))) = nI s := by decide +kernel
theorem X_haulI {b : Nat} {P : RT} {p : PT} (hb : b < 2000) (ok : okP b p) (hr : repX P p) {x1 : Int32} {s i : Nat} (hs : s < 256) {Q : Int32 → Prop} {K6 : Int32 → Int32 → Int32 → Prop} (h : K6 x1 (nI (rnd (gH p) (eH p) (p 30 1) s)) (nI (i + 1))) : ∀ (n k : Nat), k + n = p 30 1 → bX2_heavierThan_17 K6 P Q (n + 1) x1 (nI (rnd (gH p) (eH p) k s)) (nI i) (nI k) := by
  have o1 := ok.1
  have o2 := ok.2.1
  intro n
  induction n with
  | zero =>
    intro k hk
    rw [bX2_heavierThan_17, hr.2.1, if_pos (nI_le (by omega) (by omega)), nI_1]
    have : k = p 30 1 := by omega
    rw [this]
    rintro x rfl
    exact h
  | succ n ih =>
    intro k hk
    have hk0 : k < p 30 1 := by omega
    have o5 := ok.2.2.2.2 k hk0
    have hl := rnd_lt (g := gH p) hs (fun r hr => eH_lt ok hr) k (by omega)
    have hh := hvy_lt ok hk0
    rw [bX2_heavierThan_17, hr.2.1, if_neg (nI_ge (by omega) (by omega))]
    unfold bX2_heavierThan_63
    refine X_heavierEnd hb ok hr hk0 ?_
    try dsimp only
    have := ih (k + 1) (by omega)
    rw [rnd] at this
    unfold stp at this
    rw [nI_1]
    by_cases c : heft p (p 5 k) = heft p (p 6 k)
    · rw [if_neg (show ¬ gH p k (rnd (gH p) (eH p) k s) = true by rw [gH, decide_eq_false (fun q => q c), Bool.false_and]; decide)] at this
      rw [holds_e c, if_pos rfl]
      rintro x rfl
      exact this
    · rw [holds_h ok hk0 c, if_neg (nI_ne9 (by omega))]
      unfold wX3_farEnd
      rw [nI_clamp (by omega), (hr.2.2.2.2 k hk0).1, (hr.2.2.2.2 k hk0).2]
      refine ⟨(vin (by omega)).mpr (by omega), ?_⟩
      have far1 : ∀ {Q : Int32 → Prop}, Q (nI (lgt p k)) → (if nI (p 5 k) = nI (hvy p k) then Q (nI (p 6 k)) else Q (nI (p 5 k))) := by
        intro Q hQ
        unfold lgt at hQ
        unfold hvy
        by_cases d : heft p (p 6 k) < heft p (p 5 k)
        · rw [if_pos d] at hQ
          rw [if_pos d, if_pos rfl]; exact hQ
        · rw [if_neg d] at hQ
          rw [if_neg d, if_neg (fun q => o5.2.2 ((nI_eq (by omega) (by omega)).mp q))]; exact hQ
      refine far1 (Q := fun r_5 => wX6_hasBit (nI (rnd (gH p) (eH p) k s)) r_5 _) ?_
      try dsimp only
      refine X_hb hl (by omega) ?_
      try dsimp only
      rw [sh1 _ (by omega), nx_or]
      by_cases d : (rnd (gH p) (eH p) k s).testBit (lgt p k) = true
      · rw [if_pos (show gH p k (rnd (gH p) (eH p) k s) = true by rw [gH, decide_eq_true c, d]; rfl)] at this
        rw [if_pos d, if_neg bz_k]
        rintro x rfl y rfl
        exact this
      · rw [if_neg (show ¬ gH p k (rnd (gH p) (eH p) k s) = true by rw [gH, show (rnd (gH p) (eH p) k s).testBit (lgt p k) = false by simpa using d, Bool.and_false]; decide)] at this
        rw [if_neg d, if_pos rfl]
        rintro x rfl
        exact this
theorem X_haulL {b : Nat} {P : RT} {p : PT} (hb : b < 2000) (ok : okP b p) (hr : repX P p) {t s : Nat} (hs : s < 256) {Q : Int32 → Prop} (h : Q (nI (itr (gH p) (eH p) (p 30 1) (p 30 1) s) &&& (((1 : Int32) <<< (nI t &&& 31)) ^^^ (-1)))) : ∀ (n i : Nat), i + n = p 30 1 → bX2_heavierThan_6 P Q (n + 1) (nI t) (nI (itr (gH p) (eH p) (p 30 1) i s)) (nI i) := by
  have o2 := ok.2.1
  intro n
  induction n with
  | zero =>
    intro i hi
    rw [bX2_heavierThan_6, hr.2.1, if_pos (nI_le (by omega) (by omega))]
    have : i = p 30 1 := by omega
    rw [this]
    exact h
  | succ n ih =>
    intro i hi
    rw [bX2_heavierThan_6, hr.2.1, if_neg (nI_ge (by omega) (by omega))]
    exact ⟨_, X_haulI hb ok hr (itr_lt hs (fun r hr => eH_lt ok hr) i) (ih (i + 1) (by omega)) (p 30 1) 0 (by omega)⟩
theorem X_haul {b : Nat} {P : RT} {p : PT} (hb : b < 2000) (ok : okP b p) (hr : repX P p) {t : Nat} (ht : t < p 30 0) {Q : Int32 → Prop} (h : Q (nI (hld p t))) : wX2_heavierThan P (nI t) Q := by
  have o1 := ok.1
  have o2 := ok.2.1
  unfold wX2_heavierThan
  rw [sh1 _ (by omega)]
  rintro x rfl
  refine ⟨_, X_haulL hb ok hr (p2lt _ (by omega)) ?_ (p 30 1) 0 (by omega)⟩
  have e := itr_t ok (t := t) (s := 0) (by omega) 8
  rw [Nat.zero_or] at e
  rw [← itr_8 (by omega), e, sh1 _ (by omega), show itr (gT p t) (eH p) (p 30 1) 8 0 = hld p t from rfl, off_d t (by omega) _ (hld_lt ok) (hld_t ok)]
  exact h
theorem M_haulI {b : Nat} {S : RT} {p : PT} (hb : b < 2000) (ok : okP b p) (hr : repM S p) {t s i : Nat} (ht : t < p 30 0) (hs : s < 256) {Q : Int32 → Prop} {K4 : Int32 → Int32 → Int32 → Prop} (h : K4 (nI t) (nI (rnd (gT p t) (eH p) (p 30 1) s)) (nI (i + 1))) : ∀ (n k : Nat), k + n = p 30 1 → bX7_hauledFrom_13 K4 S Q (n + 1) (nI t) (nI (rnd (gT p t) (eH p) k s)) (nI i) (nI k) := by
  have o1 := ok.1
  have o2 := ok.2.1
  intro n
  induction n with
  | zero =>
    intro k hk
    rw [bX7_hauledFrom_13, hr.2.1, if_pos (nI_le (by omega) (by omega)), nI_1]
    have : k = p 30 1 := by omega
    rw [this]
    rintro x rfl
    exact h
  | succ n ih =>
    intro k hk
    have hk0 : k < p 30 1 := by omega
    have o5 := ok.2.2.2.2 k hk0
    have hl := rnd_lt (g := gT p t) hs (fun r hr => eH_lt ok hr) k (by omega)
    have hh := hvy_lt ok hk0
    rw [bX7_hauledFrom_13, hr.2.1, if_neg (nI_ge (by omega) (by omega))]
    unfold bX7_hauledFrom_70 bX7_hauledFrom_77
    refine M_holdsTo hb ok hr hk0 ?_
    try dsimp only
    rw [nI_clamp (by omega), (hr.2.2.2.2 k hk0).1, (hr.2.2.2.2 k hk0).2]
    refine ⟨(vin (by omega)).mpr (by omega), ?_⟩
    have := ih (k + 1) (by omega)
    rw [rnd] at this
    unfold stp at this
    rw [nI_1]
    by_cases c : heft p (p 5 k) = heft p (p 6 k)
    · rw [if_neg (show ¬ gT p t k (rnd (gT p t) (eH p) k s) = true by rw [gT, decide_eq_false (fun q => q c), Bool.false_and]; decide)] at this
      rw [holds_e c]
      rintro x rfl
      rw [if_pos (by decide)]
      rintro y rfl
      exact this
    · have e : (nI (p 5 k) + nI (p 6 k)) - nI (hvy p k) = nI (lgt p k) := by
        unfold hvy lgt
        by_cases d : heft p (p 6 k) < heft p (p 5 k)
        · rw [if_pos d, if_pos d, nI_add, nS (by omega), Nat.add_sub_cancel_left]
        · rw [if_neg d, if_neg d, nI_add, nS (by omega), Nat.add_sub_cancel]
      rw [holds_h ok hk0 c, e, sh1 _ (by omega), nx_or]
      rintro x rfl
      rw [if_neg (nI_pos (by omega))]
      by_cases d1 : lgt p k = t
      · rw [if_pos (show gT p t k (rnd (gT p t) (eH p) k s) = true by rw [gT, decide_eq_true c, decide_eq_true d1]; rfl)] at this
        rw [if_pos (by rw [d1])]
        rintro x rfl y rfl
        exact this
      · rw [if_neg (fun q => d1 ((nI_eq (by omega) (by omega)).mp q))]
        refine M_has hl (by omega) ?_
        try dsimp only
        by_cases d : (rnd (gT p t) (eH p) k s).testBit (lgt p k) = true
        · rw [if_pos (show gT p t k (rnd (gT p t) (eH p) k s) = true by rw [gT, decide_eq_true c, d, Bool.or_true]; rfl)] at this
          rw [if_pos d, if_neg bz_k]
          rintro x rfl y rfl
          exact this
        · rw [if_neg (show ¬ gT p t k (rnd (gT p t) (eH p) k s) = true by rw [gT, decide_eq_false d1, show (rnd (gT p t) (eH p) k s).testBit (lgt p k) = false by simpa using d, Bool.or_false, Bool.and_false]; decide)] at this
          rw [if_neg d, if_pos rfl]
          rintro x rfl
          exact this
theorem M_haulL {b : Nat} {S : RT} {p : PT} (hb : b < 2000) (ok : okP b p) (hr : repM S p) {t : Nat} (ht : t < p 30 0) {Q : Int32 → Prop} (h : Q (nI (hld p t))) : ∀ (n i : Nat), i + n = 8 → bX7_hauledFrom_4 S Q (n + 1) (nI t) (nI (itr (gT p t) (eH p) (p 30 1) i 0)) (nI i) := by
  have o2 := ok.2.1
  intro n
  induction n with
  | zero =>
    intro i hi
    have : i = 8 := by omega
    subst this
    rw [bX7_hauledFrom_4, if_pos (by decide)]
    exact h
  | succ n ih =>
    intro i hi
    rw [bX7_hauledFrom_4, l8, if_neg (nI_ge (by omega) (by omega))]
    exact ⟨_, M_haulI hb ok hr ht (itr_lt (by decide) (fun r hr => eH_lt ok hr) i) (ih (i + 1) (by omega)) (p 30 1) 0 (by omega)⟩
theorem M_haul {b : Nat} {S : RT} {p : PT} (hb : b < 2000) (ok : okP b p) (hr : repM S p) {t : Nat} (ht : t < p 30 0) {Q : Int32 → Prop} (h : Q (nI (hld p t))) : wX7_hauledFrom S (nI t) Q := ⟨_, M_haulL hb ok hr ht h 8 0 rfl⟩
theorem st_hauled : St_hauled Inv9 := by
  intro F P K G T N L S hI a1 a2
  have hI2 := hI
  obtain ⟨p, ok, hx, hm, hq⟩ := hI
  have o1 := ok.1
  unfold wX6_hauled wX7_hauled
  rcases prc a1 a2 (p 30 0) (by omega) with ⟨a, b, ha, hb, hab, rfl, rfl⟩ | c
  · refine X_hP o1 hx.1 ha hb hab ?_
    try dsimp only
    rw [if_neg bz_k]
    refine X_haul (b := 999) (by decide) ok hx ha ?_
    try dsimp only
    refine X_hb (hld_lt ok) (by omega) ?_
    try dsimp only
    by_cases d : (hld p a).testBit b = true
    · rw [if_pos d, if_neg bz_k]
      refine M_aT o1 hm.1 ha hb hab ?_
      try dsimp only
      rw [if_neg bz_k]
      refine M_haul (b := 999) (by decide) ok hm ha ?_
      try dsimp only
      rw [hs2_d _ (hld_lt ok) b (by omega), d]
      exact ⟨rfl, hI2⟩
    · rw [if_neg d, if_pos rfl]
      refine M_aT o1 hm.1 ha hb hab ?_
      try dsimp only
      rw [if_neg bz_k]
      refine M_haul (b := 999) (by decide) ok hm ha ?_
      try dsimp only
      rw [hs2_d _ (hld_lt ok) b (by omega), if_neg d]
      exact ⟨rfl, hI2⟩
  · refine X_hP_no o1 hx.1 c ?_
    try dsimp only
    rw [if_pos rfl]
    refine X_ref 1 (by decide) (by decide) ?_
    try dsimp only
    refine M_aT_no o1 hm.1 c ?_
    try dsimp only
    rw [if_pos rfl]
    exact M_no 1 (by decide) (by decide) ⟨rfl, Inv9.ref ok hx hm hq 1 G T⟩
/-- the heaviest above, from below and from above -/
def TU (p : PT) (s t k u : Nat) : Prop := (u = t ∧ ∀ v, v < k → s.testBit v = false) ∨ (u < k ∧ s.testBit u = true ∧ (∀ v, v < k → s.testBit v = true → heft p v ≤ heft p u) ∧ ∀ v, v < u → s.testBit v = true → heft p v < heft p u)
def TD (p : PT) (s t j u : Nat) : Prop := (u = t ∧ ∀ v, j ≤ v → s.testBit v = false) ∨ (j ≤ u ∧ s.testBit u = true ∧ (∀ v, j ≤ v → s.testBit v = true → heft p v ≤ heft p u) ∧ ∀ v, j ≤ v → v < u → s.testBit v = true → heft p v < heft p u)
theorem T_uq {p : PT} {s t n u w : Nat} (hn : ∀ v, s.testBit v = true → v < n) (h : TU p s t n u) (g : TD p s t 0 w) : u = w := by
  rcases h with ⟨h1, h2⟩ | ⟨h1, h2, h3, h4⟩
  · rcases g with ⟨g1, g2⟩ | ⟨g1, g2, g3, g4⟩
    · rw [h1, g1]
    · have := h2 w (hn w g2); rw [g2] at this; cases this
  · rcases g with ⟨g1, g2⟩ | ⟨g1, g2, g3, g4⟩
    · have := g2 u (by omega); rw [h2] at this; cases this
    · have a1 := h3 w (hn w g2) g2
      have a2 := g3 u (by omega) h2
      rcases Nat.lt_trichotomy u w with q | q | q
      · have := g4 u (by omega) q h2; omega
      · exact q
      · have := h4 w q g2; omega
theorem X_topL {b : Nat} {P : RT} {p : PT} (hb : b < 2000) (ok : okP b p) (hr : repX P p) {s t : Nat} (hs : s < 256) (hv : HV p t s) (ht : t < p 30 0) {Q : Int32 → Prop} (h : ∀ u, TU p s t (p 30 0) u → Q (nI u)) : ∀ (n k u : Nat), k + n = p 30 0 → u < p 30 0 → TU p s t k u → bX2_heaviestAbove_18 P Q (n + 1) (nI s) (nI u) (nI (heft p u)) (nI k) := by
  have o1 := ok.1
  intro n
  induction n with
  | zero =>
    intro k u hk hu hT
    rw [bX2_heaviestAbove_18, hr.1, if_pos (nI_le (by omega) (by omega))]
    have : k = p 30 0 := by omega
    rw [this] at hT
    exact h u hT
  | succ n ih =>
    intro k u hk hu hT
    have hk0 : k < p 30 0 := by omega
    have h1 := heft_le ok hk0
    have h2 := heft_le ok hu
    rw [bX2_heaviestAbove_18, hr.1, if_neg (nI_ge (by omega) (by omega))]
    unfold bX2_heaviestAbove_58
    refine X_hb hs (by omega) ?_
    try dsimp only
    rw [nI_1]
    by_cases c : s.testBit k = true
    · rw [if_pos c, if_neg bz_k]
      refine X_heft hb ok hr hk0 ?_
      try dsimp only
      by_cases d : heft p k ≤ heft p u
      · rw [if_pos (nI_le d (by omega))]
        rintro x rfl
        refine ih (k + 1) u (by omega) hu ?_
        rcases hT with ⟨t1, t2⟩ | ⟨t1, t2, t3, t4⟩
        · have := (hv k c).2
          rw [t1] at d
          omega
        · refine Or.inr ⟨by omega, t2, fun v q1 q2 => ?_, t4⟩
          by_cases e : v = k
          · rw [e]; exact d
          · exact t3 v (by omega) q2
      · rw [if_neg (nI_ge (by omega) (by omega))]
        refine X_heft hb ok hr hk0 ?_
        try dsimp only
        rintro x rfl
        refine ih (k + 1) k (by omega) hk0 (Or.inr ⟨by omega, c, fun v q1 q2 => ?_, fun v q1 q2 => ?_⟩)
        · by_cases e : v = k
          · rw [e]; exact Nat.le_refl _
          · rcases hT with ⟨t1, t2⟩ | ⟨t1, t2, t3, t4⟩
            · have := t2 v (by omega); rw [q2] at this; cases this
            · have := t3 v (by omega) q2; omega
        · rcases hT with ⟨t1, t2⟩ | ⟨t1, t2, t3, t4⟩
          · have := t2 v (by omega); rw [q2] at this; cases this
          · have := t3 v (by omega) q2; omega
    · have cf : s.testBit k = false := by simpa using c
      rw [if_neg c, if_pos rfl]
      rintro x rfl
      refine ih (k + 1) u (by omega) hu ?_
      rcases hT with ⟨t1, t2⟩ | ⟨t1, t2, t3, t4⟩
      · refine Or.inl ⟨t1, fun v q => ?_⟩
        by_cases e : v = k
        · rw [e]; exact cf
        · exact t2 v (by omega)
      · refine Or.inr ⟨by omega, t2, fun v q1 q2 => ?_, t4⟩
        by_cases e : v = k
        · rw [e, cf] at q2; cases q2
        · exact t3 v (by omega) q2
def dwn : Nat → Int32
  | 0 => -1
  | j + 1 => nI j
theorem dwn_s {j : Nat} : nI j + (-1) = dwn j := by
  cases j with
  | zero => rfl
  | succ j => rw [← Int32.sub_eq_add_neg]; exact nI_pred j
theorem M_topL {b : Nat} {S : RT} {p : PT} (hb : b < 2000) (ok : okP b p) (hr : repM S p) {s t : Nat} (hs : s < 256) (hv : HV p t s) (ht : t < p 30 0) {Q : Int32 → RT → Prop} (h : ∀ u, TD p s t 0 u → Q (nI u) S) : ∀ (j u : Nat), j ≤ 8 → u < p 30 0 → TD p s t j u → bX7_top_26 Q (j + 1) S (nI s) (nI u) (dwn j) := by
  have o1 := ok.1
  intro j
  induction j with
  | zero =>
    intro u hj hu hT
    rw [bX7_top_26, if_pos (show dwn 0 < 0 by decide)]
    exact h u hT
  | succ j ih =>
    intro u hj hu hT
    rw [bX7_top_26, if_neg (show ¬ dwn (j + 1) < 0 from nI_pos (by omega))]
    unfold bX7_top_59 bX7_top_60
    rw [show dwn (j + 1) = nI j from rfl, dwn_s]
    refine M_has hs (by omega) ?_
    try dsimp only
    by_cases c : s.testBit j = true
    · have hk0 := (hv j c).1
      have h1 := heft_le ok hk0
      have h2 := heft_le ok hu
      rw [if_pos c, if_neg bz_k]
      refine M_heft hb ok hr hk0 ?_
      try dsimp only
      refine M_heft hb ok hr hu ?_
      try dsimp only
      by_cases d : heft p j < heft p u
      · rw [if_pos (nI_lt d (by omega))]
        rintro x rfl
        refine ih u (by omega) hu ?_
        rcases hT with ⟨t1, t2⟩ | ⟨t1, t2, t3, t4⟩
        · have := (hv j c).2
          rw [t1] at d
          omega
        · refine Or.inr ⟨by omega, t2, fun v q1 q2 => ?_, fun v q1 q2 q3 => ?_⟩
          · by_cases e : v = j
            · rw [e]; omega
            · exact t3 v (by omega) q2
          · by_cases e : v = j
            · rw [e]; exact d
            · exact t4 v (by omega) q2 q3
      · rw [if_neg (nI_nlt (by omega) (by omega))]
        rintro x rfl
        refine ih j (by omega) hk0 (Or.inr ⟨by omega, c, fun v q1 q2 => ?_, fun v q1 q2 q3 => by omega⟩)
        by_cases e : v = j
        · rw [e]; exact Nat.le_refl _
        · rcases hT with ⟨t1, t2⟩ | ⟨t1, t2, t3, t4⟩
          · have := t2 v (by omega); rw [q2] at this; cases this
          · have := t3 v (by omega) q2; omega
    · have cf : s.testBit j = false := by simpa using c
      rw [if_neg c, if_pos rfl]
      rintro x rfl
      refine ih u (by omega) hu ?_
      rcases hT with ⟨t1, t2⟩ | ⟨t1, t2, t3, t4⟩
      · refine Or.inl ⟨t1, fun v q => ?_⟩
        by_cases e : v = j
        · rw [e]; exact cf
        · exact t2 v (by omega)
      · refine Or.inr ⟨by omega, t2, fun v q1 q2 => ?_, fun v q1 q2 q3 => ?_⟩
        · by_cases e : v = j
          · rw [e, cf] at q2; cases q2
          · exact t3 v (by omega) q2
        · by_cases e : v = j
          · rw [e, cf] at q3; cases q3
          · exact t4 v (by omega) q2 q3
theorem st_top : St_top Inv9 := by
  intro F P K G T N L S hI a1
  have hI2 := hI
  obtain ⟨p, ok, hx, hm, hq⟩ := hI
  have o1 := ok.1
  unfold wX6_top wX7_top wX2_heaviestAbove
  rcases ixc a1 (p 30 0) (by omega) with ⟨t, ht, rfl⟩ | c1
  · have hv := hld_HV ok (t := t)
    have hs := hld_lt ok (t := t)
    refine X_hT hx.1 ht ok.1 ?_
    try dsimp only
    rw [if_neg bz_k]
    refine X_haul (b := 999) (by decide) ok hx ht ?_
    try dsimp only
    refine X_heft (b := 999) (by decide) ok hx ht ?_
    try dsimp only
    refine ⟨_, X_topL (b := 999) (by decide) ok hx hs hv ht (fun u hu => ?_) (p 30 0) 0 t (by omega) ht (Or.inl ⟨rfl, fun v q => by omega⟩)⟩
    refine M_iT hm.1 ht ok.1 ?_
    try dsimp only
    rw [if_neg bz_k]
    refine M_haul (b := 999) (by decide) ok hm ht ?_
    try dsimp only
    refine ⟨_, M_topL (b := 999) (by decide) ok hm hs hv ht (fun w hw => ?_) 8 t (by omega) ht (Or.inl ⟨rfl, fun v q => ?_⟩)⟩
    · rw [T_uq (fun v q => (hv v q).1) hu hw]; exact ⟨rfl, hI2⟩
    · by_cases e : (hld p t).testBit v = true
      · have := (hv v e).1; omega
      · simpa using e
  · refine X_hT_no hx.1 c1 ?_
    try dsimp only
    rw [if_pos rfl]
    refine X_ref 1 (by decide) (by decide) (M_iT_no hm.1 c1 ?_)
    try dsimp only
    rw [if_pos rfl]
    exact M_no 1 (by decide) (by decide) ⟨rfl, Inv9.ref ok hx hm hq 1 G T⟩
