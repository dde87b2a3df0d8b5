/-! ===== PURE: two who eat or not; the mean ===== -/
theorem setN_self {p : PT} {r i : Nat} : setN p r i (p r i) = p := by
  funext a b
  unfold setN
  by_cases h : a = r
  · subst h; by_cases h2 : b = i
    · subst h2; simp
    · simp [h2]
  · simp [h]
theorem min9 {a : Nat} (ha : a ≤ 100) : (if nI a < 9 then nI a else 9) = nI (min 9 a) := by
  rw [l9]
  by_cases c : a < 9
  · rw [if_pos (nI_lt c (by omega)), Nat.min_eq_right (by omega)]
  · rw [if_neg (nI_nlt (by omega) (by omega)), Nat.min_eq_left (by omega)]
theorem M_held9 {a : Nat} (ha : a ≤ 100) {Q : Int32 → Prop} (h : Q (nI (min 9 a))) : wX7_held (nI a) 0 9 Q := by
  unfold wX7_held
  rw [if_pos (nI_pos' (by omega)), l9]
  by_cases c : a ≤ 9
  · rw [if_pos (nI_le c (by omega))]; rw [Nat.min_eq_right c] at h; exact h
  · rw [if_neg (nI_ge (by omega) (by omega))]; rw [Nat.min_eq_left (by omega)] at h; exact h
/-- the port in which one eats (2) and the other (1) -/
def eat (p : PT) (a b k : Nat) : PT := setN (setN p 3 a (min 9 (p 3 a + 2 * (k / 2)))) 3 b (min 9 (p 3 b + 2 * (k % 2)))
theorem okP_eat {B : Nat} {p : PT} {a b k : Nat} (ok : okP B p) : okP B (eat p a b k) := okP_set3 (by omega) (okP_set3 (by omega) ok)
def ld (p : PT) (a b N k : Nat) : Int32 := nI (hoursP (eat p a b k) N 4 a) - nI (hoursP (eat p a b k) N 4 b)
theorem e_1 : ∀ k, k < 4 → (k.testBit 1 = true ∧ k / 2 = 1) ∨ (¬ k.testBit 1 = true ∧ k / 2 = 0) := by decide
theorem e_0 : ∀ k, k < 4 → (k.testBit 0 = true ∧ k % 2 = 1) ∨ (¬ k.testBit 0 = true ∧ k % 2 = 0) := by decide
theorem X_lead74 {B N : Nat} {G T P : RT} {p : PT} {a b k : Nat} (hN : N ≤ 100) (hB : B < 1800) (ok : okP B p) (hr : repX T (eat p a b k)) (ha : a < p 30 0) (hb : b < p 30 0) {Q : Int32 → RT → Prop} (h : ∀ T', Q (ld p a b N k) T') : bX1_leadBy_74 G P Q T (nI a) (nI b) (nI N) := by
  have o1 := ok.1
  have ok4 := okP_eat (a := a) (b := b) (k := k) ok
  unfold bX1_leadBy_74
  refine X_goHours hN hB ok4 hr (fun T1 h1 => ?_)
  try dsimp only
  have e0 : hoursP (eat p a b k) N 30 0 = p 30 0 := hoursP_n _
  rw [nI_clamp (by omega), nI_clamp (by omega), (h1.2.2.2.1 a (by omega)).2.2.2.2, (h1.2.2.2.1 b (by omega)).2.2.2.2]
  exact ⟨(vin (by omega)).mpr (by omega), (vin (by omega)).mpr (by omega), h T1⟩
theorem X_leadBy {B N : Nat} {G T P : RT} {p : PT} {a b k : Nat} (hN : N ≤ 100) (hB : B < 1800) (ok : okP B p) (hr : repX P p) (ha : a < p 30 0) (hb : b < p 30 0) (hab : a ≠ b) (hk : k < 4) {Q : Int32 → RT → Prop} (h : ∀ T', Q (ld p a b N k) T') : wX1_leadBy G T P (nI k) (nI a) (nI b) (nI N) Q := by
  have o1 := ok.1
  have oa := (ok.2.2.2.1 a ha).2.2.2.1
  have ob := (ok.2.2.2.1 b hb).2.2.2.1
  have s3 : ∀ v, setN p 3 a v 3 b = p 3 b := fun v => by unfold setN; rw [if_pos rfl, if_neg (Ne.symm hab)]
  have last : ∀ T1, repX T1 (setN p 3 a (min 9 (p 3 a + 2 * (k / 2)))) → bX1_leadBy_39 G P Q T1 (nI k) (nI a) (nI b) (nI N) := by
    intro T1 h1
    unfold bX1_leadBy_39
    refine X_hb (k := 0) (by omega) (by decide) ?_
    try dsimp only
    rcases e_0 k hk with ⟨q1, q2⟩ | ⟨q1, q2⟩
    · rw [if_pos q1, if_neg bz_k, nI_clamp (by omega), (h1.2.2.2.1 b hb).2.2.2.1, s3, l2, nI_add, min9 (by omega)]
      refine ⟨(vin (by omega)).mpr (by omega), ?_⟩
      rintro T4 rfl
      refine X_lead74 hN hB ok (k := k) ?_ ha hb h
      unfold eat
      rw [q2]
      exact repX_set3 h1
    · rw [if_neg q1, if_pos rfl]
      refine X_lead74 hN hB ok (k := k) ?_ ha hb h
      unfold eat
      rw [q2]
      have e : setN (setN p 3 a (min 9 (p 3 a + 2 * (k / 2)))) 3 b (min 9 (p 3 b + 2 * 0)) = setN p 3 a (min 9 (p 3 a + 2 * (k / 2))) := by
        have := setN_self (p := setN p 3 a (min 9 (p 3 a + 2 * (k / 2)))) (r := 3) (i := b)
        rw [s3] at this
        rw [show min 9 (p 3 b + 2 * 0) = p 3 b by omega]
        exact this
      rw [e]
      exact h1
  unfold wX1_leadBy
  refine X_begin o1 ok.2.1 hr (fun T1 h1 => ?_)
  try dsimp only
  refine X_hb (k := 1) (by omega) (by decide) ?_
  try dsimp only
  rcases e_1 k hk with ⟨q1, q2⟩ | ⟨q1, q2⟩
  · rw [if_pos q1, if_neg bz_k, nI_clamp (by omega), (h1.2.2.2.1 a ha).2.2.2.1, l2, nI_add, min9 (by omega)]
    refine ⟨(vin (by omega)).mpr (by omega), ?_⟩
    rintro T4 rfl
    refine last _ ?_
    rw [q2]
    exact repX_set3 h1
  · rw [if_neg q1, if_pos rfl]
    refine last _ ?_
    rw [q2, show min 9 (p 3 a + 2 * 0) = p 3 a by omega, setN_self]
    exact h1
/-- the first pair that is steady -/
def tw (f : Nat → Int32) : Nat → Nat → Int32
  | 0, _ => -9
  | n + 1, k => if f k < f (k ^^^ 2) then tw f n (k + 1) else if f (k ^^^ 1) < f k then tw f n (k + 1) else (10 * (nI k / 2)) + (nI k - nI k / 2 * 2)
theorem x2_lt : ∀ k, k < 4 → k ^^^ 2 < 4 := by decide
theorem x1_lt : ∀ k, k < 4 → k ^^^ 1 < 4 := by decide
theorem x2_I : ∀ k, k < 4 → nI k ^^^ 2 = nI (k ^^^ 2) := by decide
theorem x1_I : ∀ k, k < 4 → nI k ^^^ 1 = nI (k ^^^ 1) := by decide
theorem X_twL {P G T : RT} {f : Nat → Int32} {Q : Int32 → RT → RT → Prop} (hG : ∀ i, i < 4 → G 2 i = f i) : ∀ (n k : Nat), k + n = 4 → Q (tw f n k) G T → bX1_steadyPair_36 P Q (n + 1) G T (nI k) := by
  intro n
  induction n with
  | zero =>
    intro k hk h
    rw [bX1_steadyPair_36, if_pos (by rw [show k = 4 by omega]; decide)]
    exact h
  | succ n ih =>
    intro k hk h
    have a1 := x1_lt k (by omega)
    have a2 := x2_lt k (by omega)
    rw [bX1_steadyPair_36, l4, if_neg (nI_ge (by omega) (by omega)), x2_I k (by omega), x1_I k (by omega), nI_clamp (by omega), nI_clamp (by omega), nI_clamp (by omega), hG k (by omega), hG _ a1, hG _ a2]
    unfold bX1_steadyPair_93
    refine ⟨(vin (by omega)).mpr (by omega), (vin (by omega)).mpr (by omega), ?_⟩
    rw [tw] at h
    rw [nI_1]
    by_cases c1 : f k < f (k ^^^ 2)
    · rw [if_pos c1] at h ⊢
      rintro x rfl
      exact ih (k + 1) (by omega) h
    · rw [if_neg c1] at h ⊢
      refine ⟨(vin (by omega)).mpr (by omega), ?_⟩
      by_cases c2 : f (k ^^^ 1) < f k
      · rw [if_pos c2] at h ⊢
        rintro x rfl
        exact ih (k + 1) (by omega) h
      · rw [if_neg c2] at h ⊢
        exact h
theorem M_twL {S : RT} {f : Nat → Int32} {Q : Int32 → RT → Prop} (hG : ∀ i, i < 4 → S 24 i = f i) : ∀ (n k : Nat), k + n = 4 → Q (tw f n k) S → bX7_two_44 Q (n + 1) S (nI k) := by
  intro n
  induction n with
  | zero =>
    intro k hk h
    rw [bX7_two_44, if_pos (by rw [show k = 4 by omega]; decide)]
    exact h
  | succ n ih =>
    intro k hk h
    have a1 := x1_lt k (by omega)
    have a2 := x2_lt k (by omega)
    rw [bX7_two_44, l4, if_neg (nI_ge (by omega) (by omega)), x2_I k (by omega), x1_I k (by omega), nI_clamp (by omega), nI_clamp (by omega), nI_clamp (by omega), hG k (by omega), hG _ a1, hG _ a2]
    unfold bX7_two_101
    refine ⟨(vin (by omega)).mpr (by omega), (vin (by omega)).mpr (by omega), ?_⟩
    rw [tw] at h
    rw [nI_1]
    by_cases c1 : f k < f (k ^^^ 2)
    · rw [if_pos c1] at h ⊢
      rintro x rfl
      exact ih (k + 1) (by omega) h
    · rw [if_neg c1] at h ⊢
      refine ⟨(vin (by omega)).mpr (by omega), ?_⟩
      by_cases c2 : f (k ^^^ 1) < f k
      · rw [if_pos c2] at h ⊢
        rintro x rfl
        exact ih (k + 1) (by omega) h
      · rw [if_neg c2] at h ⊢
        exact h
theorem X_steadyL {B N : Nat} {P : RT} {p : PT} {a b : Nat} (hN : N ≤ 100) (hB : B < 1800) (ok : okP B p) (hr : repX P p) (ha : a < p 30 0) (hb : b < p 30 0) (hab : a ≠ b) {Q : Int32 → RT → RT → Prop} (h : ∀ G' T', Q (tw (ld p a b N) 4 0) G' T') : ∀ (n k : Nat) (G T : RT), k + n = 4 → (∀ i, i < k → G 2 i = ld p a b N i) → bX1_steadyPair_3 P Q (n + 1) G T (nI a) (nI b) (nI N) (nI k) := by
  intro n
  induction n with
  | zero =>
    intro k G T hk hG
    rw [bX1_steadyPair_3, if_pos (by rw [show k = 4 by omega]; decide)]
    exact ⟨_, X_twL (fun i hi => hG i (by omega)) 4 0 rfl (h G T)⟩
  | succ n ih =>
    intro k G T hk hG
    rw [bX1_steadyPair_3, l4, if_neg (nI_ge (by omega) (by omega))]
    refine X_leadBy hN hB ok hr ha hb hab (by omega) (fun T' => ?_)
    try dsimp only
    rw [nI_clamp (by omega), nI_1]
    refine ⟨(vin (by omega)).mpr (by omega), ?_⟩
    rintro G5 rfl x rfl
    refine ih (k + 1) _ T' (by omega) (fun i hi => ?_)
    by_cases e : i = k
    · rw [e, set2_s]
    · rw [set2_b e]; exact hG i (by omega)
theorem M_findL {B N : Nat} {p : PT} {a b : Nat} (hN : N ≤ 100) (hB : B < 1800) (ok : okP B p) {S0 : RT} (hw : S0 30 11 = -9) (ha : a < p 30 0) (hb : b < p 30 0) (hab : a ≠ b) {Q : RT → Prop} (h : ∀ S', repM S' p → agr 110 S0 S' → (∀ i, i < 4 → S' 24 i = ld p a b N i) → Q S') : ∀ (n k : Nat) (S : RT), k + n = 4 → repM S p → agr 110 S0 S → (∀ i, i < k → S 24 i = ld p a b N i) → bX7_findHigher_3 Q (n + 1) S (nI a) (nI b) (nI N) (nI k) := by
  have o1 := ok.1
  have o2 := ok.2.1
  have oa := (ok.2.2.2.1 a ha).2.2.2.1
  have ob := (ok.2.2.2.1 b hb).2.2.2.1
  have s3 : ∀ v, setN p 3 a v 3 b = p 3 b := fun v => by unfold setN; rw [if_pos rfl, if_neg (Ne.symm hab)]
  intro n
  induction n with
  | zero =>
    intro k S hk hr hg hG
    rw [bX7_findHigher_3, if_pos (by rw [show k = 4 by omega]; decide)]
    exact h S hr hg (fun i hi => hG i (by omega))
  | succ n ih =>
    intro k S hk hr hg hG
    rw [bX7_findHigher_3, l4, if_neg (nI_ge (by omega) (by omega))]
    unfold wX7_thinks wX7_forgets
    refine M_keepAll (w := 2) (by decide) o1 o2 hr (fun S2 h1 h2 h3 => ?_)
    try dsimp only
    rw [nI_clamp (by omega), (h1.2.2.2.1 a ha).2.2.2.1, l2, pk_div (by omega) (by decide) (by decide), pk_mul, nI_add, pk_mul, nS (by omega), pk_mul, nI_1]
    refine ⟨(vin (by omega)).mpr (by omega), ?_⟩
    refine M_held9 (by omega) ?_
    try dsimp only
    rintro S5 rfl
    rw [nI_clamp (by omega)]
    have h5 := repM_set3 (d := a) (v := min 9 (p 3 a + 2 * (k / 2))) h1
    rw [(h5.2.2.2.1 b hb).2.2.2.1, s3, nI_add]
    refine ⟨(vin (by omega)).mpr (by omega), ?_⟩
    refine M_held9 (by omega) ?_
    try dsimp only
    rintro S8 rfl
    have e8 : k - k / 2 * 2 = k % 2 := by omega
    have h8 := repM_set3 (d := b) (v := min 9 (p 3 b + 2 * (k % 2))) h5
    rw [e8]
    have ok4 := okP_eat (a := a) (b := b) (k := k) ok
    have w8 : set2 (set2 S2 4 a (nI (min 9 (p 3 a + 2 * (k / 2))))) 4 b (nI (min 9 (p 3 b + 2 * (k % 2)))) 30 11 = -9 := by
      rw [set2_a (by decide), set2_a (by decide), h3.2.1 11 (by decide) (by decide), hg.2.2.2.2.2.2.1]; exact hw
    refine M_goes hN hB ok4 h8 w8 (fun S9 g1 g2 => ?_)
    try dsimp only
    have e0 : hoursP (eat p a b k) N 30 0 = p 30 0 := hoursP_n _
    rw [nI_clamp (by omega), (g1.2.2.2.1 a (by omega)).2.2.2.2, (g1.2.2.2.1 b (by omega)).2.2.2.2]
    refine ⟨(vin (by omega)).mpr (by omega), ?_⟩
    rintro S11 rfl
    have a1 : agr 110 S S2 := h3.agr.lo (by decide)
    have a2 : agr 165 S2 S9 := ((agr.set (by omega)).tr (agr.set (by omega))).tr g2.agr
    have a3 : agr 165 S9 (set2 S9 24 k (nI (hoursP (eat p a b k) N 4 a) - nI (hoursP (eat p a b k) N 4 b))) := agr.set (by omega)
    refine M_backAll (w := 2) (by decide) o1 o2 (agr.sv (a2.tr a3) (by decide) o1 o2 h2) (fun S12 g3 g4 => ?_)
    try dsimp only
    rintro x rfl
    refine ih (k + 1) S12 (by omega) g3 (((hg.tr a1).tr ((a2.tr a3).lo (by decide))).tr (g4.agr.lo (by decide))) (fun i hi => ?_)
    rw [g4.2.1 24 (by decide) (by decide)]
    by_cases e : i = k
    · rw [e, set2_s]; rfl
    · rw [set2_b e, g2.1 24 (by decide) (by decide), set2_a (by decide), set2_a (by decide), h3.1 24 (by decide) (by decide)]; exact hG i (by omega)
theorem st_two : St_two Inv9 := by
  intro F P K G T N L S hI a1 a2 a3
  obtain ⟨p, ok, hx, hm, hq⟩ := hI
  have o1 := ok.1
  unfold wX6_two wX7_two
  rcases prc a1 a2 (p 30 0) (by omega) with ⟨a, b, ha, hb, hab, rfl, rfl⟩ | c
  · refine X_hP o1 hx.1 ha hb hab ?_
    try dsimp only
    rw [if_neg bz_k]
    refine X_rg ?_
    try dsimp only
    have mt : ∀ {Q : Int32 → Prop}, Q 1 → wX7_areTwo S (nI a) (nI b) Q := fun h => M_aT o1 hm.1 ha hb hab h
    rcases rgc a3 30 (by decide) with ⟨j, hj, rfl, e⟩ | e | e
    · have e : rgf (nI j) 0 30 = 0 := e
      rw [e, if_pos rfl]
      refine ⟨_, X_steadyL (B := 999) (by omega) (by decide) ok hx ha hb hab (fun G' T' => ?_) 4 0 G T rfl (fun i hi => by omega)⟩
      refine mt ?_
      try dsimp only
      rw [if_neg bz_k]
      refine M_bd ?_
      try dsimp only
      rw [e]
      unfold bX7_two_20
      rw [if_pos rfl]
      refine ⟨_, M_findL (B := 999) (by omega) (by decide) ok hq.1 ha hb hab (fun S' h6 h7 h8 => ?_) 4 0 S rfl hm agr.rf (fun i hi => by omega)⟩
      exact ⟨_, M_twL h8 4 0 rfl ⟨rfl, Inv9.ag ok hx hq h6 h7 _ _⟩⟩
    · have e : rgf a3 0 30 = -4 := e
      rw [e, if_neg (by decide)]
      refine X_ref 4 (by decide) (by decide) (mt ?_)
      try dsimp only
      rw [if_neg bz_k]
      refine M_bd ?_
      try dsimp only
      rw [e]
      unfold bX7_two_20
      rw [if_neg (by decide)]
      exact M_no 4 (by decide) (by decide) ⟨rfl, Inv9.ref ok hx hm hq 4 G T⟩
    · have e : rgf a3 0 30 = -6 := e
      rw [e, if_neg (by decide)]
      refine X_ref 6 (by decide) (by decide) (mt ?_)
      try dsimp only
      rw [if_neg bz_k]
      refine M_bd ?_
      try dsimp only
      rw [e]
      unfold bX7_two_20
      rw [if_neg (by decide)]
      exact M_no 6 (by decide) (by decide) ⟨rfl, Inv9.ref ok hx hm hq 6 G T⟩
  · refine X_hP_no o1 hx.1 c ?_
    try dsimp only
    rw [if_pos rfl]
    refine X_ref 1 (by decide) (by decide) ?_
    try dsimp only
    refine M_aT_no o1 hm.1 c ?_
    try dsimp only
    rw [if_pos rfl]
    unfold bX7_two_20
    rw [if_neg (by decide)]
    exact M_no 1 (by decide) (by decide) ⟨rfl, Inv9.ref ok hx hm hq 1 G T⟩
