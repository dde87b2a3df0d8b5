/-! ===== PURE: the fewest stones, the best tie, cut, stone (laid by wip/whole/p50.py) ===== -/
/-- the fault of a thing and a number -/
def tfv (n : Nat) (a1 a2 m : Int32) : Int32 := if a1 < 0 then -1 else if nI n ≤ a1 then -1 else rgf a2 0 m
theorem X_tF {F P : RT} {n : Nat} {a1 a2 m : Int32} (e : P 30 7 = nI n) {Q : Int32 → Prop} (h : Q (tfv n a1 a2 m)) : wX6_thingFault F P a1 a2 m Q := by
  unfold wX6_thingFault wX3_hasThing; rw [e]; unfold tfv at h
  dsimp only
  by_cases c1 : a1 < 0
  · rw [if_pos c1, if_pos rfl]; rw [if_pos c1] at h; exact h
  · rw [if_neg c1]; rw [if_neg c1] at h
    by_cases c2 : nI n ≤ a1
    · rw [if_pos c2, if_pos rfl]; rw [if_pos c2] at h; exact h
    · rw [if_neg c2, if_neg bz_k]; rw [if_neg c2] at h; exact X_rg h
theorem M_tF {S : RT} {n : Nat} {a1 a2 m : Int32} (e : S 30 8 = nI n) {Q : Int32 → Prop} (h : Q (tfv n a1 a2 m)) : wX7_isThing S a1 (fun r => if r = 0 then Q (-1) else wX7_bound a2 0 m Q) := by
  unfold wX7_isThing; rw [e]; unfold tfv at h
  dsimp only
  by_cases c1 : a1 < 0
  · rw [if_pos c1, if_pos rfl]; rw [if_pos c1] at h; exact h
  · rw [if_neg c1]; rw [if_neg c1] at h
    by_cases c2 : nI n ≤ a1
    · rw [if_pos c2, if_pos rfl]; rw [if_pos c2] at h; exact h
    · rw [if_neg c2, if_neg bz_k]; rw [if_neg c2] at h; exact M_bd h
theorem tfc (n : Nat) (hn : n < 2 ^ 31) (a1 a2 : Int32) (N : Nat) (hN : N < 2 ^ 31) : (∃ t j, t < n ∧ j ≤ N ∧ a1 = nI t ∧ a2 = nI j ∧ tfv n a1 a2 (nI N) = 0) ∨ tfv n a1 a2 (nI N) = -1 ∨ tfv n a1 a2 (nI N) = -4 ∨ tfv n a1 a2 (nI N) = -6 := by
  rcases ixc a1 n hn with ⟨t, ht, e⟩ | h
  · have e1 : tfv n a1 a2 (nI N) = rgf a2 0 (nI N) := by unfold tfv; rw [e, if_neg (nI_pos (by omega)), if_neg (nI_ge ht (by omega))]
    rw [e1]
    rcases rgc a2 N hN with ⟨j, hj, e2, e3⟩ | e3 | e3
    · exact Or.inl ⟨t, j, ht, hj, e, e2, e3⟩
    · exact Or.inr (Or.inr (Or.inl e3))
    · exact Or.inr (Or.inr (Or.inr e3))
  · refine Or.inr (Or.inl ?_)
    unfold tfv
    by_cases c : a1 < 0
    · rw [if_pos c]
    · rw [if_neg c, if_pos (h.resolve_left c)]
/-- the fault of an aim -/
def afv (n : Nat) (a1 v w : Int32) : Int32 := if a1 < 0 then -1 else if nI n ≤ a1 then -1 else if v < 0 then -4 else if 0 ≤ w then (if 20 < v then -6 else if w ≤ 30 then 0 else -6) else -4
theorem X_aF {F P : RT} {n : Nat} {a1 v w : Int32} (e : P 30 7 = nI n) {Q : Int32 → Prop} (h : Q (afv n a1 v w)) : wX6_aimFault F P a1 v w Q := by
  unfold wX6_aimFault wX3_hasThing; rw [e]; unfold afv at h
  dsimp only
  by_cases c1 : a1 < 0
  · rw [if_pos c1, if_pos rfl]; rw [if_pos c1] at h; exact h
  rw [if_neg c1]; rw [if_neg c1] at h
  by_cases c2 : nI n ≤ a1
  · rw [if_pos c2, if_pos rfl]; rw [if_pos c2] at h; exact h
  rw [if_neg c2, if_neg bz_k]; rw [if_neg c2] at h
  by_cases c3 : v < 0
  · rw [if_pos c3]; rw [if_pos c3] at h; exact h
  rw [if_neg c3]; rw [if_neg c3] at h
  by_cases c4 : 0 ≤ w
  · rw [if_pos c4]; rw [if_pos c4] at h
    by_cases c5 : 20 < v
    · rw [if_pos c5]; rw [if_pos c5] at h; exact h
    rw [if_neg c5]; rw [if_neg c5] at h
    by_cases c6 : w ≤ 30
    · rw [if_pos c6]; rw [if_pos c6] at h; exact h
    · rw [if_neg c6]; rw [if_neg c6] at h; exact h
  · rw [if_neg c4]; rw [if_neg c4] at h; exact h
theorem M_aF {S : RT} {n : Nat} {a1 v w : Int32} (e : S 30 8 = nI n) {Q : Int32 → Prop} (h : Q (afv n a1 v w)) : wX7_notGoal S a1 v w Q := by
  unfold wX7_notGoal wX7_isThing; rw [e]; unfold afv at h
  dsimp only
  by_cases c1 : a1 < 0
  · rw [if_pos c1, if_pos rfl]; rw [if_pos c1] at h; exact h
  rw [if_neg c1]; rw [if_neg c1] at h
  by_cases c2 : nI n ≤ a1
  · rw [if_pos c2, if_pos rfl]; rw [if_pos c2] at h; exact h
  rw [if_neg c2, if_neg bz_k]; rw [if_neg c2] at h
  by_cases c3 : v < 0
  · rw [if_pos c3]; rw [if_pos c3] at h; exact h
  rw [if_neg c3]; rw [if_neg c3] at h
  by_cases c4 : 0 ≤ w
  · rw [if_pos c4]; rw [if_pos c4] at h
    by_cases c5 : 20 < v
    · rw [if_pos c5]; rw [if_pos c5] at h; exact h
    rw [if_neg c5]; rw [if_neg c5] at h
    by_cases c6 : w ≤ 30
    · rw [if_pos c6]; rw [if_pos c6] at h; exact h
    · rw [if_neg c6]; rw [if_neg c6] at h; exact h
  · rw [if_neg c4]; rw [if_neg c4] at h; exact h
theorem afc (n : Nat) (hn : n < 2 ^ 31) (a1 v w : Int32) : (∃ t j k, t < n ∧ j ≤ 20 ∧ k ≤ 30 ∧ a1 = nI t ∧ v = nI j ∧ w = nI k ∧ afv n a1 v w = 0) ∨ afv n a1 v w = -1 ∨ afv n a1 v w = -4 ∨ afv n a1 v w = -6 := by
  unfold afv
  by_cases c1 : a1 < 0
  · rw [if_pos c1]; exact Or.inr (Or.inl rfl)
  rw [if_neg c1]
  by_cases c2 : nI n ≤ a1
  · rw [if_pos c2]; exact Or.inr (Or.inl rfl)
  rw [if_neg c2]
  by_cases c3 : v < 0
  · rw [if_pos c3]; exact Or.inr (Or.inr (Or.inl rfl))
  rw [if_neg c3]
  by_cases c4 : 0 ≤ w
  · rw [if_pos c4]
    by_cases c5 : 20 < v
    · rw [if_pos c5]; exact Or.inr (Or.inr (Or.inr rfl))
    rw [if_neg c5]
    by_cases c6 : w ≤ 30
    · rw [if_pos c6]
      rcases ixc a1 n hn with ⟨t, ht, e⟩ | h
      · obtain ⟨j, hj, ej⟩ := nI_of2 (M := 20) (n := 20) rfl c3 (Classical.not_not.mp (fun q => c5 (il.mpr q)))
        obtain ⟨k, hk, ek⟩ := nI_of2 (M := 30) (n := 30) rfl (fun q => (il.mp q) c4) c6
        exact Or.inl ⟨t, j, k, ht, hj, hk, e, ej, ek, rfl⟩
      · rcases h with h | h
        · exact absurd h c1
        · exact absurd h c2
    · rw [if_neg c6]; exact Or.inr (Or.inr (Or.inr rfl))
  · rw [if_neg c4]; exact Or.inr (Or.inr (Or.inl rfl))
theorem setN_back {p : PT} {r i v : Nat} : setN (setN p r i v) r i (p r i) = p := by
  funext a b
  unfold setN
  by_cases h : a = r
  · subst h; by_cases h2 : b = i
    · subst h2; simp
    · simp [h2]
  · simp [h]
theorem M_highIn {b N : Nat} {S : RT} {p : PT} (hN : N ≤ 100) (hb : b < 1800) (ok : okP b p) (hm : repM S p) (hw : S 30 11 = -9) {t : Nat} (ht : t < p 30 0) {Q : Int32 → RT → Prop} (h : ∀ S', repM S' p → agr 110 S S' → Q (nI (hoursP p N 4 t)) S') : wX7_highIn S (nI t) (nI N) Q := by
  have o1 := ok.1
  have htN : t < hoursP p N 30 0 := by rw [hoursP_n]; exact ht
  unfold wX7_highIn
  refine M_thinks o1 ok.2.1 hm (fun S1 h1 h2 h3 => ?_)
  try dsimp only
  refine M_goes hN hb ok h1 (by rw [h3.2.2.2.2.2.2.1]; exact hw) (fun S2 h4 h5 => ?_)
  try dsimp only
  rw [nI_clamp (by omega), (h4.2.2.2.1 t htN).2.2.2.2]
  refine ⟨(vin (by omega)).mpr (by omega), ?_⟩
  rintro x rfl
  exact M_end o1 ok.2.1 (sv_go o1 ok.2.1 h2 h5) (h3.tr (h5.agr.lo (by decide))) h
theorem M_highWith {b N m : Nat} {S : RT} {p : PT} (hN : N ≤ 100) (hb : b < 1800) (ok : okP b p) (hm : repM S p) (hw : S 30 11 = -9) {t : Nat} (ht : t < p 30 0) (hm9 : m ≤ 9) {Q : Int32 → RT → Prop} (h : ∀ S', repM S' p → agr 110 S S' → Q (nI (hoursP (setN p 3 t m) N 4 t)) S') : wX7_highWith S (nI t) (nI m) (nI N) Q := by
  have o1 := ok.1
  unfold wX7_highWith
  rw [nI_clamp (by omega), (hm.2.2.2.1 t ht).2.2.2.1]
  refine ⟨(vin (by omega)).mpr (by omega), ?_⟩
  rintro x rfl S3 rfl
  refine M_highIn hN hb (okP_set3 hm9 ok) (repM_set3 hm) (by rw [set2_a (by decide)]; exact hw) ht (fun S4 h1 h2 => ?_)
  try dsimp only
  rintro S6 rfl
  refine h _ ?_ (((agr.set (by omega)).tr h2).tr (agr.set (by omega)))
  have := repM_set3 (d := t) (v := p 3 t) h1
  rw [setN_back] at this
  exact this
theorem X_heightByStones {b N m : Nat} {G T P : RT} {p : PT} (hN : N ≤ 100) (hb : b < 1800) (ok : okP b p) (hx : repX P p) {t : Nat} (ht : t < p 30 0) (hm9 : m ≤ 9) {Q : Int32 → RT → Prop} (h : ∀ T', Q (nI (hoursP (setN p 3 t m) N 4 t)) T') : wX1_heightByStones G T P (nI t) (nI m) (nI N) Q := by
  have o1 := ok.1
  unfold wX1_heightByStones
  refine X_begin o1 ok.2.1 hx (fun T1 h1 => ?_)
  try dsimp only
  rw [nI_clamp (by omega)]
  refine ⟨(vin (by omega)).mpr (by omega), ?_⟩
  rintro T3 rfl
  refine X_goHours hN hb (okP_set3 hm9 ok) (repX_set3 h1) (fun T4 h4 => ?_)
  try dsimp only
  have htN : t < hoursP (setN p 3 t m) N 30 0 := by rw [hoursP_n]; exact ht
  rw [(h4.2.2.2.1 t htN).2.2.2.2]
  exact h T4
def cthrowsDown (p : PT) (t v N : Nat) : Nat → Bool := fun k => decide (v ≤ hoursP (setN p 3 t (p 3 t - k)) N 4 t)
theorem X_throwsDownL {b N : Nat} {p : PT} (hN : N ≤ 100) (hb : b < 1800) (ok : okP b p) {G P : RT} (hx : repX P p) {t v : Nat} (ht : t < p 30 0) (hv : v ≤ 20) {Q : Int32 → RT → Prop} : ∀ (n k : Nat) (T : RT), k + n = p 3 t + 1 → (∀ T', Q (fnd (cthrowsDown p t v N) n k) T') → bX1_fewestLess_3 G P Q (n + 1) T (nI t) (nI v) (nI N) (nI k) := by
  have o1 := ok.1
  have o9 := (ok.2.2.2.1 t ht).2.2.2.1
  have hV : vp_in (nI t) 8 := (vin (by omega)).mpr (by omega)
  intro n
  induction n with
  | zero =>
    intro k T hk h
    rw [bX1_fewestLess_3, nI_clamp (by omega), (hx.2.2.2.1 t ht).2.2.2.1]
    refine ⟨hV, ?_⟩
    rw [if_pos (nI_lt (by omega) (by omega))]
    exact h T
  | succ n ih =>
    intro k T hk h
    rw [bX1_fewestLess_3, nI_clamp (by omega), (hx.2.2.2.1 t ht).2.2.2.1]
    refine ⟨hV, ?_⟩
    rw [if_neg (nI_nlt (by omega) (by omega)), nS (by omega)]
    refine X_heightByStones hN hb ok hx ht (by omega) (fun T' => ?_)
    try dsimp only
    have ok2 := okP_hours (okP_set3 (d := t) (v := p 3 t - k) (by omega) ok) N
    have hh := (ok2.2.2.2.1 t (by rw [hoursP_n]; exact ht)).2.2.2.2
    by_cases c : v ≤ hoursP (setN p 3 t (p 3 t - k)) N 4 t
    · rw [if_neg (nI_nlt c (by omega))]
      rw [fnd, cthrowsDown, decide_eq_true c, if_pos rfl] at h
      exact h T'
    · rw [if_pos (nI_lt (by omega) (by omega))]
      rw [nI_1]
      rintro x rfl
      refine ih (k + 1) T' (by omega) ?_
      rw [fnd, if_neg (by rw [cthrowsDown, decide_eq_false c]; decide)] at h
      exact h
theorem M_throwsDownL {b N : Nat} {p : PT} (hN : N ≤ 100) (hb : b < 1800) (ok : okP b p) {S0 : RT} (hw : S0 30 11 = -9) {t v : Nat} (ht : t < p 30 0) (hv : v ≤ 20) {Q : Int32 → RT → Prop} : ∀ (n k : Nat) (S : RT), k + n = p 3 t + 1 → repM S p → agr 110 S0 S → (∀ S', repM S' p → agr 110 S0 S' → Q (fnd (cthrowsDown p t v N) n k) S') → bX7_throwsDown_24 Q (n + 1) S (nI t) (nI v) (nI N) (nI k) := by
  have o1 := ok.1
  have o9 := (ok.2.2.2.1 t ht).2.2.2.1
  have hV : vp_in (nI t) 8 := (vin (by omega)).mpr (by omega)
  intro n
  induction n with
  | zero =>
    intro k S hk hm hg h
    rw [bX7_throwsDown_24, nI_clamp (by omega), (hm.2.2.2.1 t ht).2.2.2.1]
    refine ⟨hV, ?_⟩
    rw [if_pos (nI_lt (by omega) (by omega))]
    exact h S hm hg
  | succ n ih =>
    intro k S hk hm hg h
    rw [bX7_throwsDown_24, nI_clamp (by omega), (hm.2.2.2.1 t ht).2.2.2.1]
    refine ⟨hV, ?_⟩
    rw [if_neg (nI_nlt (by omega) (by omega)), nS (by omega)]
    refine M_highWith hN hb ok hm (by rw [hg.2.2.2.2.2.2.1]; exact hw) ht (by omega) (fun S' h1 h2 => ?_)
    try dsimp only
    have ok2 := okP_hours (okP_set3 (d := t) (v := p 3 t - k) (by omega) ok) N
    have hh := (ok2.2.2.2.1 t (by rw [hoursP_n]; exact ht)).2.2.2.2
    by_cases c : v ≤ hoursP (setN p 3 t (p 3 t - k)) N 4 t
    · rw [if_neg (nI_nlt c (by omega))]
      rw [fnd, cthrowsDown, decide_eq_true c, if_pos rfl] at h
      exact h S' h1 (hg.tr h2)
    · rw [if_pos (nI_lt (by omega) (by omega))]
      rw [nI_1]
      rintro x rfl
      refine ih (k + 1) S' (by omega) h1 (hg.tr h2) ?_
      rw [fnd, if_neg (by rw [cthrowsDown, decide_eq_false c]; decide)] at h
      exact h
theorem st_throwsDown : St_throwsDown Inv9 := by
  intro F P K G T N L S hI a1 a2 a3
  obtain ⟨p, ok, hx, hm, hq⟩ := hI
  have o1 := ok.1
  unfold wX6_throwsDown wX1_fewestLess wX7_throwsDown
  rcases afc (p 30 0) (by omega) a1 a2 a3 with ⟨t, j, k, ht, hj, hk, rfl, rfl, rfl, e⟩ | e | e | e
  · have o9 := (ok.2.2.2.1 t ht).2.2.2.1
    refine X_aF hx.1 ?_
    try dsimp only
    rw [e, if_pos rfl]
    refine ⟨_, X_throwsDownL (b := 999) (by omega) (by decide) ok hx ht hj (p 3 t + 1) 0 T (by omega) (fun T' => ?_)⟩
    refine M_aF hm.1 ?_
    try dsimp only
    rw [e, if_pos rfl]
    exact ⟨_, M_throwsDownL (b := 999) (by omega) (by decide) ok hq.1 ht hj (p 3 t + 1) 0 S (by omega) hm agr.rf (fun S' h6 h7 => ⟨rfl, Inv9.ag ok hx hq h6 h7 _ _⟩)⟩
  · refine X_aF hx.1 ?_
    try dsimp only
    rw [e, if_neg (by decide)]
    refine X_ref 1 (by decide) (by decide) ?_
    try dsimp only
    refine M_aF hm.1 ?_
    try dsimp only
    rw [e, if_neg (by decide)]
    exact M_no 1 (by decide) (by decide) ⟨rfl, Inv9.ref ok hx hm hq 1 G T⟩
  · refine X_aF hx.1 ?_
    try dsimp only
    rw [e, if_neg (by decide)]
    refine X_ref 4 (by decide) (by decide) ?_
    try dsimp only
    refine M_aF hm.1 ?_
    try dsimp only
    rw [e, if_neg (by decide)]
    exact M_no 4 (by decide) (by decide) ⟨rfl, Inv9.ref ok hx hm hq 4 G T⟩
  · refine X_aF hx.1 ?_
    try dsimp only
    rw [e, if_neg (by decide)]
    refine X_ref 6 (by decide) (by decide) ?_
    try dsimp only
    refine M_aF hm.1 ?_
    try dsimp only
    rw [e, if_neg (by decide)]
    exact M_no 6 (by decide) (by decide) ⟨rfl, Inv9.ref ok hx hm hq 6 G T⟩
def ctakesUp (p : PT) (t v N : Nat) : Nat → Bool := fun k => decide (hoursP (setN p 3 t (p 3 t + k)) N 4 t ≤ v)
theorem X_takesUpL {b N : Nat} {p : PT} (hN : N ≤ 100) (hb : b < 1800) (ok : okP b p) {G P : RT} (hx : repX P p) {t v : Nat} (ht : t < p 30 0) (hv : v ≤ 20) {Q : Int32 → RT → Prop} : ∀ (n k : Nat) (T : RT), k + n = 9 - p 3 t + 1 → (∀ T', Q (fnd (ctakesUp p t v N) n k) T') → bX1_fewestMore_3 G P Q (n + 1) T (nI t) (nI v) (nI N) (nI k) := by
  have o1 := ok.1
  have o9 := (ok.2.2.2.1 t ht).2.2.2.1
  have hV : vp_in (nI t) 8 := (vin (by omega)).mpr (by omega)
  intro n
  induction n with
  | zero =>
    intro k T hk h
    rw [bX1_fewestMore_3, nI_clamp (by omega), (hx.2.2.2.1 t ht).2.2.2.1]
    refine ⟨hV, ?_⟩
    rw [nI_add, l9, if_pos (nI_lt (by omega) (by omega))]
    exact h T
  | succ n ih =>
    intro k T hk h
    rw [bX1_fewestMore_3, nI_clamp (by omega), (hx.2.2.2.1 t ht).2.2.2.1]
    refine ⟨hV, ?_⟩
    rw [nI_add, l9, if_neg (nI_nlt (by omega) (by omega))]
    refine X_heightByStones hN hb ok hx ht (by omega) (fun T' => ?_)
    try dsimp only
    have ok2 := okP_hours (okP_set3 (d := t) (v := p 3 t + k) (by omega) ok) N
    have hh := (ok2.2.2.2.1 t (by rw [hoursP_n]; exact ht)).2.2.2.2
    by_cases c : hoursP (setN p 3 t (p 3 t + k)) N 4 t ≤ v
    · rw [if_neg (nI_nlt c (by omega))]
      rw [fnd, ctakesUp, decide_eq_true c, if_pos rfl] at h
      exact h T'
    · rw [if_pos (nI_lt (by omega) (by omega))]
      rw [nI_1]
      rintro x rfl
      refine ih (k + 1) T' (by omega) ?_
      rw [fnd, if_neg (by rw [ctakesUp, decide_eq_false c]; decide)] at h
      exact h
theorem M_takesUpL {b N : Nat} {p : PT} (hN : N ≤ 100) (hb : b < 1800) (ok : okP b p) {S0 : RT} (hw : S0 30 11 = -9) {t v : Nat} (ht : t < p 30 0) (hv : v ≤ 20) {Q : Int32 → RT → Prop} : ∀ (n k : Nat) (S : RT), k + n = 9 - p 3 t + 1 → repM S p → agr 110 S0 S → (∀ S', repM S' p → agr 110 S0 S' → Q (fnd (ctakesUp p t v N) n k) S') → bX7_takesUp_24 Q (n + 1) S (nI t) (nI v) (nI N) (nI k) := by
  have o1 := ok.1
  have o9 := (ok.2.2.2.1 t ht).2.2.2.1
  have hV : vp_in (nI t) 8 := (vin (by omega)).mpr (by omega)
  intro n
  induction n with
  | zero =>
    intro k S hk hm hg h
    rw [bX7_takesUp_24, nI_clamp (by omega), (hm.2.2.2.1 t ht).2.2.2.1]
    refine ⟨hV, ?_⟩
    rw [l9, nS (by omega), if_pos (nI_lt (by omega) (by omega))]
    exact h S hm hg
  | succ n ih =>
    intro k S hk hm hg h
    rw [bX7_takesUp_24, nI_clamp (by omega), (hm.2.2.2.1 t ht).2.2.2.1]
    refine ⟨hV, ?_⟩
    rw [l9, nS (by omega), if_neg (nI_nlt (by omega) (by omega)), nI_add]
    refine M_highWith hN hb ok hm (by rw [hg.2.2.2.2.2.2.1]; exact hw) ht (by omega) (fun S' h1 h2 => ?_)
    try dsimp only
    have ok2 := okP_hours (okP_set3 (d := t) (v := p 3 t + k) (by omega) ok) N
    have hh := (ok2.2.2.2.1 t (by rw [hoursP_n]; exact ht)).2.2.2.2
    by_cases c : hoursP (setN p 3 t (p 3 t + k)) N 4 t ≤ v
    · rw [if_neg (nI_nlt c (by omega))]
      rw [fnd, ctakesUp, decide_eq_true c, if_pos rfl] at h
      exact h S' h1 (hg.tr h2)
    · rw [if_pos (nI_lt (by omega) (by omega))]
      rw [nI_1]
      rintro x rfl
      refine ih (k + 1) S' (by omega) h1 (hg.tr h2) ?_
      rw [fnd, if_neg (by rw [ctakesUp, decide_eq_false c]; decide)] at h
      exact h
theorem st_takesUp : St_takesUp Inv9 := by
  intro F P K G T N L S hI a1 a2 a3
  obtain ⟨p, ok, hx, hm, hq⟩ := hI
  have o1 := ok.1
  unfold wX6_takesUp wX1_fewestMore wX7_takesUp
  rcases afc (p 30 0) (by omega) a1 a2 a3 with ⟨t, j, k, ht, hj, hk, rfl, rfl, rfl, e⟩ | e | e | e
  · have o9 := (ok.2.2.2.1 t ht).2.2.2.1
    refine X_aF hx.1 ?_
    try dsimp only
    rw [e, if_pos rfl]
    refine ⟨_, X_takesUpL (b := 999) (by omega) (by decide) ok hx ht hj (9 - p 3 t + 1) 0 T (by omega) (fun T' => ?_)⟩
    refine M_aF hm.1 ?_
    try dsimp only
    rw [e, if_pos rfl]
    exact ⟨_, M_takesUpL (b := 999) (by omega) (by decide) ok hq.1 ht hj (9 - p 3 t + 1) 0 S (by omega) hm agr.rf (fun S' h6 h7 => ⟨rfl, Inv9.ag ok hx hq h6 h7 _ _⟩)⟩
  · refine X_aF hx.1 ?_
    try dsimp only
    rw [e, if_neg (by decide)]
    refine X_ref 1 (by decide) (by decide) ?_
    try dsimp only
    refine M_aF hm.1 ?_
    try dsimp only
    rw [e, if_neg (by decide)]
    exact M_no 1 (by decide) (by decide) ⟨rfl, Inv9.ref ok hx hm hq 1 G T⟩
  · refine X_aF hx.1 ?_
    try dsimp only
    rw [e, if_neg (by decide)]
    refine X_ref 4 (by decide) (by decide) ?_
    try dsimp only
    refine M_aF hm.1 ?_
    try dsimp only
    rw [e, if_neg (by decide)]
    exact M_no 4 (by decide) (by decide) ⟨rfl, Inv9.ref ok hx hm hq 4 G T⟩
  · refine X_aF hx.1 ?_
    try dsimp only
    rw [e, if_neg (by decide)]
    refine X_ref 6 (by decide) (by decide) ?_
    try dsimp only
    refine M_aF hm.1 ?_
    try dsimp only
    rw [e, if_neg (by decide)]
    exact M_no 6 (by decide) (by decide) ⟨rfl, Inv9.ref ok hx hm hq 6 G T⟩
/-- the best of many: the first whose value is the greatest, above m -/
def bst (val : Nat → Nat) (c : Nat → Bool) : Nat → Nat → Int32 → Nat → Int32
  | 0, _, b, _ => b
  | n + 1, j, b, m => if c j && decide (m < val j) then bst val c n (j + 1) (nI j) (val j) else bst val c n (j + 1) b m
theorem bst_y {val : Nat → Nat} {c : Nat → Bool} {n j m : Nat} {b : Int32} (h1 : c j = true) (h2 : m < val j) : bst val c (n + 1) j b m = bst val c n (j + 1) (nI j) (val j) := by rw [bst, h1, decide_eq_true h2]; rfl
theorem bst_n {val : Nat → Nat} {c : Nat → Bool} {n j m : Nat} {b : Int32} (h1 : c j = false ∨ ¬ m < val j) : bst val c (n + 1) j b m = bst val c n (j + 1) b m := by
  rw [bst]
  rcases h1 with h | h
  · rw [h]; rfl
  · rw [decide_eq_false h, Bool.and_false]; rfl
def vTie (p : PT) (t N : Nat) : Nat → Nat := fun u => hoursP (addP p t u) N 4 t
def vCut (p : PT) (t N : Nat) : Nat → Nat := fun r => hoursP (dropP p r) N 4 t
def vStone (p : PT) (N : Nat) : Nat → Nat := fun u => sumN (hoursP (setN p 3 u (p 3 u + 1)) N 4) (p 30 0)
theorem X_tieL {b N : Nat} {p : PT} (hN : N ≤ 100) (hb : b < 1800) (ok : okP b p) {G P : RT} (hx : repX P p) {t : Nat} (ht : t < p 30 0) (hm6 : p 30 1 < 6) {Q : Int32 → RT → Prop} : ∀ (n j : Nat) (T : RT) (bs : Int32) (m : Nat), j + n = p 30 0 → m ≤ 20 → (∀ T', Q (bst (vTie p t N) (fun u => decide (u ≠ t)) n j bs m) T') → bX1_highestByTie_32 G P Q (n + 1) T (nI t) (nI N) bs (nI m) (nI j) := by
  have o1 := ok.1
  have hV : vp_in (nI t) 8 := (vin (by omega)).mpr (by omega)
  intro n
  induction n with
  | zero =>
    intro j T bs m hj hm h
    rw [bX1_highestByTie_32, hx.1, if_pos (nI_le (by omega) (by omega))]
    exact h T
  | succ n ih =>
    intro j T bs m hj hm h
    rw [bX1_highestByTie_32, hx.1, if_neg (nI_ge (by omega) (by omega))]
    unfold bX1_highestByTie_101
    by_cases c : j = t
    · subst c
      rw [if_pos rfl, nI_1]
      rintro x rfl
      exact ih (j + 1) T bs m (by omega) hm (by rw [bst_n (Or.inl (by simp))] at h; exact h)
    · rw [if_neg (fun q => c ((nI_eq (by omega) (by omega)).mp q))]
      refine X_begin o1 ok.2.1 hx (fun T3 h3 => ?_)
      try dsimp only
      refine X_addRope hm6 h3 (fun T4 h4 => ?_)
      try dsimp only
      have ok4 := okP_add ok hm6 ht (show j < p 30 0 by omega) (Ne.symm c)
      refine X_goHours hN hb ok4 h4 (fun T6 h6 => ?_)
      try dsimp only
      have htN : t < hoursP (addP p t j) N 30 0 := by rw [hoursP_n]; exact ht
      have hh := ((okP_hours ok4 N).2.2.2.1 t htN).2.2.2.2
      rw [nI_clamp (by omega), (h6.2.2.2.1 t htN).2.2.2.2, nI_1]
      refine ⟨hV, ?_⟩
      by_cases c2 : m < vTie p t N j
      · rw [if_neg (show ¬ nI (hoursP (addP p t j) N 4 t) ≤ nI m from nI_ge c2 (by omega))]
        rintro y rfl x rfl
        exact ih (j + 1) T6 (nI j) (vTie p t N j) (by omega) hh (by rw [bst_y (by simp [c]) c2] at h; exact h)
      · rw [if_pos (nI_le (show hoursP (addP p t j) N 4 t ≤ m by unfold vTie at c2; omega) (by omega))]
        rintro x rfl
        exact ih (j + 1) T6 bs m (by omega) hm (by rw [bst_n (Or.inr c2)] at h; exact h)
theorem M_highTied {b N : Nat} {S : RT} {p : PT} (hN : N ≤ 100) (hb : b < 1800) (ok : okP b p) (hm : repM S p) (hw : S 30 11 = -9) {t u : Nat} (ht : t < p 30 0) (hu : u < p 30 0) (htu : t ≠ u) (hm6 : p 30 1 < 6) {Q : Int32 → RT → Prop} (h : ∀ S', repM S' p → agr 110 S S' → Q (nI (vTie p t N u)) S') : wX7_highTied S (nI t) (nI u) (nI N) Q := by
  unfold wX7_highTied
  refine M_adds hm6 hm (fun S1 h1 h2 _ _ _ => ?_)
  try dsimp only
  refine M_highIn hN hb (okP_add ok hm6 ht hu htu) h1 (by rw [h2.2.2.2.2.2.2.1]; exact hw) ht (fun S2 h3 h4 => ?_)
  try dsimp only
  rw [h3.2.1, show nI (addP p t u 30 1) - 1 = nI (p 30 1) from nI_pred _]
  rintro S4 rfl
  refine h _ ?_ (((h2.lo (by decide)).tr h4).tr (agr.sc (by omega)))
  obtain ⟨r1, r2, r3, r4, r5⟩ := h3
  refine ⟨r1, rfl, r3, fun i hi => r4 i hi, fun j hj => ?_⟩
  have := r5 j (show j < p 30 1 + 1 by omega)
  have e5 : addP p t u 5 j = p 5 j := by show (if j = p 30 1 then t else p 5 j) = p 5 j; rw [if_neg (by omega)]
  have e6 : addP p t u 6 j = p 6 j := by show (if j = p 30 1 then u else p 6 j) = p 6 j; rw [if_neg (by omega)]
  rw [e5, e6] at this
  exact this
theorem M_tieL {b N : Nat} {p : PT} (hN : N ≤ 100) (hb : b < 1800) (ok : okP b p) {S0 : RT} (hw : S0 30 11 = -9) {t : Nat} (ht : t < p 30 0) (hm6 : p 30 1 < 6) {Q : Int32 → RT → Prop} : ∀ (n j : Nat) (S : RT) (bs : Int32) (m : Nat), j + n = p 30 0 → m ≤ 20 → repM S p → agr 110 S0 S → (∀ S', repM S' p → agr 110 S0 S' → Q (bst (vTie p t N) (fun u => decide (u ≠ t)) n j bs m) S') → bX7_bestTie_45 Q (n + 1) S (nI t) (nI N) bs (nI m) (nI j) := by
  have o1 := ok.1
  intro n
  induction n with
  | zero =>
    intro j S bs m hj hm hr hg h
    rw [bX7_bestTie_45, hr.1, if_pos (nI_le (by omega) (by omega))]
    exact h S hr hg
  | succ n ih =>
    intro j S bs m hj hm hr hg h
    rw [bX7_bestTie_45, hr.1, if_neg (nI_ge (by omega) (by omega)), hr.2.1, l6, if_neg (nI_ge (by omega) (by omega))]
    unfold bX7_bestTie_82 bX7_bestTie_102
    by_cases c : j = t
    · subst c
      rw [if_pos rfl, if_neg (show ¬ nI m < -9 from fun q => absurd (Int32.lt_iff_toInt_lt.mp q) (by rw [nI_toInt (by omega)]; show ¬ (m : Int) < -9; omega)), nI_1]
      rintro x rfl
      exact ih (j + 1) S bs m (by omega) hm hr hg (by rw [bst_n (Or.inl (by simp))] at h; exact h)
    · rw [if_neg (fun q => c ((nI_eq (by omega) (by omega)).mp q))]
      refine M_highTied hN hb ok hr (by rw [hg.2.2.2.2.2.2.1]; exact hw) ht (by omega) (Ne.symm c) hm6 (fun S' h1 h2 => ?_)
      try dsimp only
      have ok4 := okP_add ok hm6 ht (show j < p 30 0 by omega) (Ne.symm c)
      have hh : vTie p t N j ≤ 20 := ((okP_hours ok4 N).2.2.2.1 t (by rw [hoursP_n]; exact ht)).2.2.2.2
      rw [nI_1]
      by_cases c2 : m < vTie p t N j
      · rw [if_pos (nI_lt c2 (by omega))]
        rintro x rfl
        exact ih (j + 1) S' (nI j) (vTie p t N j) (by omega) hh h1 (hg.tr h2) (by rw [bst_y (by simp [c]) c2] at h; exact h)
      · rw [if_neg (nI_nlt (by omega) (by omega))]
        rintro x rfl
        exact ih (j + 1) S' bs m (by omega) hm h1 (hg.tr h2) (by rw [bst_n (Or.inr c2)] at h; exact h)
theorem hh_le {b N t : Nat} {p : PT} (ok : okP b p) (ht : t < p 30 0) : hoursP p N 4 t ≤ 20 := ((okP_hours ok N).2.2.2.1 t (by rw [hoursP_n]; exact ht)).2.2.2.2
theorem st_bestTie : St_bestTie Inv9 := by
  intro F P K G T N L S hI a1 a2
  obtain ⟨p, ok, hx, hm, hq⟩ := hI
  have o1 := ok.1
  have o2 := ok.2.1
  unfold wX6_bestTie wX1_highestByTie wX7_bestTie bX7_bestTie_19
  rcases tfc (p 30 0) (by omega) a1 a2 30 (by decide) with ⟨t, j, ht, hj, rfl, rfl, e⟩ | e | e | e
  · have hh := hh_le (N := j) ok ht
    refine X_tF hx.1 ?_
    try dsimp only
    rw [show (30 : Int32) = nI 30 from rfl, e, if_pos rfl, hx.2.1, l6]
    by_cases c : p 30 1 < 6
    · rw [if_pos (nI_lt c (by omega))]
      refine X_behind (b := 999) (by omega) (by decide) ok hx (fun T' hT' => ?_)
      try dsimp only
      rw [nI_clamp (by omega), (hT'.2.2.2.1 t (by rw [hoursP_n]; exact ht)).2.2.2.2]
      refine ⟨(vin (by omega)).mpr (by omega), ?_⟩
      rintro y rfl
      refine ⟨_, X_tieL (b := 999) (by omega) (by decide) ok hx ht c (p 30 0) 0 T' (-9) _ (by omega) hh (fun T'' => ?_)⟩
      refine M_tF hm.1 ?_
      try dsimp only
      rw [e, if_pos rfl]
      refine M_highIn (b := 999) (by omega) (by decide) ok hm hq.1 ht (fun S1 h1 h2 => ?_)
      try dsimp only
      exact ⟨_, M_tieL (b := 999) (by omega) (by decide) ok hq.1 ht c (p 30 0) 0 S1 (-9) _ (by omega) hh h1 h2 (fun S' h6 h7 => ⟨rfl, Inv9.ag ok hx hq h6 h7 _ _⟩)⟩
    · rw [if_neg (nI_nlt (by omega) (by omega))]
      refine M_tF hm.1 ?_
      try dsimp only
      rw [e, if_pos rfl]
      refine M_highIn (b := 999) (by omega) (by decide) ok hm hq.1 ht (fun S1 h1 h2 => ?_)
      try dsimp only
      refine ⟨1, ?_⟩
      rw [bX7_bestTie_45, h1.1, if_neg (show ¬ nI (p 30 0) ≤ 0 from nI_ge (a := 0) (by omega) (by omega)), h1.2.1, l6, if_pos (nI_le (by omega) (by omega))]
      exact ⟨rfl, Inv9.ag ok hx hq h1 h2 _ _⟩
  · have e : tfv (p 30 0) a1 a2 30 = -1 := e
    refine X_tF hx.1 ?_
    try dsimp only
    rw [e, if_neg (by decide)]
    refine X_ref 1 (by decide) (by decide) ?_
    try dsimp only
    refine M_tF hm.1 ?_
    try dsimp only
    rw [e, if_neg (by decide)]
    exact M_no 1 (by decide) (by decide) ⟨rfl, Inv9.ref ok hx hm hq 1 G T⟩
  · have e : tfv (p 30 0) a1 a2 30 = -4 := e
    refine X_tF hx.1 ?_
    try dsimp only
    rw [e, if_neg (by decide)]
    refine X_ref 4 (by decide) (by decide) ?_
    try dsimp only
    refine M_tF hm.1 ?_
    try dsimp only
    rw [e, if_neg (by decide)]
    exact M_no 4 (by decide) (by decide) ⟨rfl, Inv9.ref ok hx hm hq 4 G T⟩
  · have e : tfv (p 30 0) a1 a2 30 = -6 := e
    refine X_tF hx.1 ?_
    try dsimp only
    rw [e, if_neg (by decide)]
    refine X_ref 6 (by decide) (by decide) ?_
    try dsimp only
    refine M_tF hm.1 ?_
    try dsimp only
    rw [e, if_neg (by decide)]
    exact M_no 6 (by decide) (by decide) ⟨rfl, Inv9.ref ok hx hm hq 6 G T⟩
theorem X_cutL {b N : Nat} {p : PT} (hN : N ≤ 100) (hb : b < 1800) (ok : okP b p) {G P : RT} (hx : repX P p) {t : Nat} (ht : t < p 30 0) {Q : Int32 → RT → Prop} : ∀ (n j : Nat) (T : RT) (bs : Int32) (m : Nat), j + n = p 30 1 → m ≤ 20 → (∀ T', Q (bst (vCut p t N) (fun _ => true) n j bs m) T') → bX1_highestByCut_20 G P Q (n + 1) T (nI t) (nI N) bs (nI m) (nI j) := by
  have o1 := ok.1
  have o2 := ok.2.1
  have hV : vp_in (nI t) 8 := (vin (by omega)).mpr (by omega)
  intro n
  induction n with
  | zero =>
    intro j T bs m hj hm h
    rw [bX1_highestByCut_20, hx.2.1, if_pos (nI_le (by omega) (by omega))]
    exact h T
  | succ n ih =>
    intro j T bs m hj hm h
    rw [bX1_highestByCut_20, hx.2.1, if_neg (nI_ge (by omega) (by omega))]
    unfold bX1_highestByCut_82
    refine X_begin o1 ok.2.1 hx (fun T3 h3 => ?_)
    try dsimp only
    refine X_dropRope o2 h3 (by omega) (fun T4 h4 => ?_)
    try dsimp only
    have ok4 := okP_drop ok (show j < p 30 1 by omega)
    refine X_goHours hN hb ok4 h4 (fun T6 h6 => ?_)
    try dsimp only
    have htN : t < hoursP (dropP p j) N 30 0 := by rw [hoursP_n]; exact ht
    have hh := ((okP_hours ok4 N).2.2.2.1 t htN).2.2.2.2
    rw [nI_clamp (by omega), (h6.2.2.2.1 t htN).2.2.2.2, nI_1]
    refine ⟨hV, ?_⟩
    by_cases c2 : m < vCut p t N j
    · rw [if_neg (show ¬ nI (hoursP (dropP p j) N 4 t) ≤ nI m from nI_ge c2 (by omega))]
      rintro y rfl x rfl
      exact ih (j + 1) T6 (nI j) (vCut p t N j) (by omega) hh (by rw [bst_y rfl c2] at h; exact h)
    · rw [if_pos (nI_le (show hoursP (dropP p j) N 4 t ≤ m by unfold vCut at c2; omega) (by omega))]
      rintro x rfl
      exact ih (j + 1) T6 bs m (by omega) hm (by rw [bst_n (Or.inr c2)] at h; exact h)
theorem M_cutL {b N : Nat} {p : PT} (hN : N ≤ 100) (hb : b < 1800) (ok : okP b p) {S0 : RT} (hw : S0 30 11 = -9) {t : Nat} (ht : t < p 30 0) {Q : Int32 → RT → Prop} : ∀ (n j : Nat) (S : RT) (bs : Int32) (m : Nat), j + n = p 30 1 → m ≤ 20 → repM S p → agr 55 S0 S → (∀ S', repM S' p → agr 55 S0 S' → Q (bst (vCut p t N) (fun _ => true) n j bs m) S') → bX7_bestCut_45 Q (n + 1) S (nI t) (nI N) bs (nI m) (nI j) := by
  have o1 := ok.1
  have o2 := ok.2.1
  intro n
  induction n with
  | zero =>
    intro j S bs m hj hm hr hg h
    rw [bX7_bestCut_45, hr.2.1, if_pos (nI_le (by omega) (by omega))]
    exact h S hr hg
  | succ n ih =>
    intro j S bs m hj hm hr hg h
    rw [bX7_bestCut_45, hr.2.1, if_neg (nI_ge (by omega) (by omega))]
    unfold bX7_bestCut_82 wX7_highCut
    refine M_changesOn o1 o2 hr (fun S1 g1 g2 g3 => ?_)
    try dsimp only
    refine M_drops o2 g1 (by omega) (fun S2 g4 g5 => ?_)
    try dsimp only
    have ok4 := okP_drop ok (show j < p 30 1 by omega)
    refine M_highIn hN hb ok4 g4 (by rw [g5.2.2.2.2.2.2.1, g3.2.2.2.2.2.2.1, hg.2.2.2.2.2.2.1]; exact hw) ht (fun S3 g6 g7 => ?_)
    try dsimp only
    refine M_changesBack o1 o2 (agr.sv g7 (by decide) o1 o2 (agr.sv g5 (by decide) o1 o2 g2)) (fun S4 g8 g9 => ?_)
    try dsimp only
    have hg' : agr 55 S0 S4 := (hg.tr g3).tr (((g5.lo (by decide)).tr (g7.lo (by decide))).tr (g9.lo (by decide)))
    have hh : vCut p t N j ≤ 20 := hh_le ok4 ht
    rw [nI_1]
    by_cases c2 : m < vCut p t N j
    · rw [if_pos (show nI m < nI (hoursP (dropP p j) N 4 t) from nI_lt (b := vCut p t N j) c2 (by omega))]
      rintro x rfl
      exact ih (j + 1) S4 (nI j) (vCut p t N j) (by omega) hh g8 hg' (by rw [bst_y rfl c2] at h; exact h)
    · rw [if_neg (show ¬ nI m < nI (hoursP (dropP p j) N 4 t) from nI_nlt (show vCut p t N j ≤ m by omega) (by omega))]
      rintro x rfl
      exact ih (j + 1) S4 bs m (by omega) hm g8 hg' (by rw [bst_n (Or.inr c2)] at h; exact h)
theorem st_bestCut : St_bestCut Inv9 := by
  intro F P K G T N L S hI a1 a2
  obtain ⟨p, ok, hx, hm, hq⟩ := hI
  have o1 := ok.1
  have o2 := ok.2.1
  unfold wX6_bestCut wX1_highestByCut wX7_bestCut bX7_bestCut_19
  rcases tfc (p 30 0) (by omega) a1 a2 30 (by decide) with ⟨t, j, ht, hj, rfl, rfl, e⟩ | e | e | e
  · have hh := hh_le (N := j) ok ht
    refine X_tF hx.1 ?_
    try dsimp only
    rw [show (30 : Int32) = nI 30 from rfl, e, if_pos rfl]
    refine X_behind (b := 999) (by omega) (by decide) ok hx (fun T' hT' => ?_)
    try dsimp only
    rw [nI_clamp (by omega), (hT'.2.2.2.1 t (by rw [hoursP_n]; exact ht)).2.2.2.2]
    refine ⟨(vin (by omega)).mpr (by omega), ?_⟩
    rintro y rfl
    refine ⟨_, X_cutL (b := 999) (by omega) (by decide) ok hx ht (p 30 1) 0 T' (-9) _ (by omega) hh (fun T'' => ?_)⟩
    refine M_tF hm.1 ?_
    try dsimp only
    rw [e, if_pos rfl]
    refine M_highIn (b := 999) (by omega) (by decide) ok hm hq.1 ht (fun S1 h1 h2 => ?_)
    try dsimp only
    exact ⟨_, M_cutL (b := 999) (by omega) (by decide) ok hq.1 ht (p 30 1) 0 S1 (-9) _ (by omega) hh h1 (h2.lo (by decide)) (fun S' h6 h7 => ⟨rfl, p, ok, hx, h6, hq.agr h7⟩)⟩
  · have e : tfv (p 30 0) a1 a2 30 = -1 := e
    refine X_tF hx.1 ?_
    try dsimp only
    rw [e, if_neg (by decide)]
    refine X_ref 1 (by decide) (by decide) ?_
    try dsimp only
    refine M_tF hm.1 ?_
    try dsimp only
    rw [e, if_neg (by decide)]
    exact M_no 1 (by decide) (by decide) ⟨rfl, Inv9.ref ok hx hm hq 1 G T⟩
  · have e : tfv (p 30 0) a1 a2 30 = -4 := e
    refine X_tF hx.1 ?_
    try dsimp only
    rw [e, if_neg (by decide)]
    refine X_ref 4 (by decide) (by decide) ?_
    try dsimp only
    refine M_tF hm.1 ?_
    try dsimp only
    rw [e, if_neg (by decide)]
    exact M_no 4 (by decide) (by decide) ⟨rfl, Inv9.ref ok hx hm hq 4 G T⟩
  · have e : tfv (p 30 0) a1 a2 30 = -6 := e
    refine X_tF hx.1 ?_
    try dsimp only
    rw [e, if_neg (by decide)]
    refine X_ref 6 (by decide) (by decide) ?_
    try dsimp only
    refine M_tF hm.1 ?_
    try dsimp only
    rw [e, if_neg (by decide)]
    exact M_no 6 (by decide) (by decide) ⟨rfl, Inv9.ref ok hx hm hq 6 G T⟩
theorem M_allIn {b N : Nat} {S : RT} {p : PT} (hN : N ≤ 100) (hb : b < 1800) (ok : okP b p) (hm : repM S p) (hw : S 30 11 = -9) {Q : Int32 → RT → Prop} (h : ∀ S', repM S' p → agr 110 S S' → Q (nI (sumN (hoursP p N 4) (p 30 0))) S') : wX7_allIn S (nI N) Q := by
  have o1 := ok.1
  unfold wX7_allIn
  refine M_thinks o1 ok.2.1 hm (fun S1 h1 h2 h3 => ?_)
  try dsimp only
  refine M_goes hN hb ok h1 (by rw [h3.2.2.2.2.2.2.1]; exact hw) (fun S2 h4 h5 => ?_)
  try dsimp only
  refine M_allHigh (by rw [hoursP_n]; exact o1) h4 ?_
  try dsimp only
  rw [hoursP_n]
  exact M_end o1 ok.2.1 (sv_go o1 ok.2.1 h2 h5) (h3.tr (h5.agr.lo (by decide))) h
theorem sH_le {b N : Nat} {p : PT} (ok : okP b p) : sumN (hoursP p N 4) (p 30 0) ≤ 160 := by
  have h1 := sumN_le (f := hoursP p N 4) (c := 20) (n := p 30 0) (fun i hi => hh_le ok hi)
  have := ok.1
  omega
theorem X_stoneL {b N : Nat} {p : PT} (hN : N ≤ 100) (hb : b < 1800) (ok : okP b p) {G P : RT} (hx : repX P p) {Q : Int32 → RT → Prop} : ∀ (n j : Nat) (T : RT) (bs : Int32) (m : Nat), j + n = p 30 0 → m ≤ 160 → (∀ T', Q (bst (vStone p N) (fun u => decide (p 3 u < 9)) n j bs m) T') → bX1_highestByStone_17 G P Q (n + 1) T (nI N) bs (nI m) (nI j) := by
  have o1 := ok.1
  intro n
  induction n with
  | zero =>
    intro j T bs m hj hm h
    rw [bX1_highestByStone_17, hx.1, if_pos (nI_le (by omega) (by omega))]
    exact h T
  | succ n ih =>
    intro j T bs m hj hm h
    have hjn : j < p 30 0 := by omega
    have o9 := (ok.2.2.2.1 j hjn).2.2.2.1
    rw [bX1_highestByStone_17, hx.1, if_neg (nI_ge (by omega) (by omega)), nI_clamp (by omega), (hx.2.2.2.1 j hjn).2.2.2.1, l9]
    unfold bX1_highestByStone_90
    refine ⟨(vin (by omega)).mpr (by omega), ?_⟩
    by_cases c : p 3 j < 9
    · rw [if_neg (nI_ge c (by omega))]
      refine X_begin o1 ok.2.1 hx (fun T3 h3 => ?_)
      try dsimp only
      rw [(h3.2.2.2.1 j hjn).2.2.2.1, nI_1, nI_1]
      rintro T5 rfl
      have ok4 := okP_set3 (d := j) (v := p 3 j + 1) (by omega) ok
      refine X_goHours hN hb ok4 (repX_set3 h3) (fun T6 h6 => ?_)
      try dsimp only
      have o8 : hoursP (setN p 3 j (p 3 j + 1)) N 30 0 ≤ 8 := by rw [hoursP_n]; exact o1
      have hv : sumN (hoursP (setN p 3 j (p 3 j + 1)) N 4) (hoursP (setN p 3 j (p 3 j + 1)) N 30 0) = vStone p N j := by rw [hoursP_n]; rfl
      have hle : vStone p N j ≤ 160 := sH_le ok4
      refine X_allHeights o8 h6 ?_
      try dsimp only
      rw [hv]
      by_cases c2 : m < vStone p N j
      · rw [if_neg (nI_ge c2 (by omega))]
        refine X_allHeights o8 h6 ?_
        try dsimp only
        rw [hv]
        rintro x rfl
        exact ih (j + 1) T6 (nI j) (vStone p N j) (by omega) hle (by rw [bst_y (by simp [c]) c2] at h; exact h)
      · rw [if_pos (nI_le (show vStone p N j ≤ m by omega) (by omega))]
        rintro x rfl
        exact ih (j + 1) T6 bs m (by omega) hm (by rw [bst_n (Or.inr c2)] at h; exact h)
    · rw [if_pos (nI_le (show 9 ≤ p 3 j by omega) (by omega)), nI_1]
      rintro x rfl
      exact ih (j + 1) T bs m (by omega) hm (by rw [bst_n (Or.inl (by simp [c]))] at h; exact h)
theorem M_stoneL {b N : Nat} {p : PT} (hN : N ≤ 100) (hb : b < 1800) (ok : okP b p) {S0 : RT} (hw : S0 30 11 = -9) {Q : Int32 → RT → Prop} : ∀ (n j : Nat) (S : RT) (bs : Int32) (m : Nat), j + n = p 30 0 → m ≤ 160 → repM S p → agr 110 S0 S → (∀ S', repM S' p → agr 110 S0 S' → Q (bst (vStone p N) (fun u => decide (p 3 u < 9)) n j bs m) S') → bX7_bestStone_31 Q (n + 1) S (nI N) bs (nI m) (nI j) := by
  have o1 := ok.1
  intro n
  induction n with
  | zero =>
    intro j S bs m hj hm hr hg h
    rw [bX7_bestStone_31, hr.1, if_pos (nI_le (by omega) (by omega))]
    exact h S hr hg
  | succ n ih =>
    intro j S bs m hj hm hr hg h
    have hjn : j < p 30 0 := by omega
    have o9 := (ok.2.2.2.1 j hjn).2.2.2.1
    rw [bX7_bestStone_31, hr.1, if_neg (nI_ge (by omega) (by omega)), nI_clamp (by omega), (hr.2.2.2.1 j hjn).2.2.2.1, l9]
    unfold bX7_bestStone_101
    refine ⟨(vin (by omega)).mpr (by omega), ?_⟩
    by_cases c : p 3 j < 9
    · rw [if_neg (fun q => by have := (nI_eq (by omega) (by omega)).mp q; omega), nI_1, nI_1]
      rintro S4 rfl
      have ok4 := okP_set3 (d := j) (v := p 3 j + 1) (by omega) ok
      refine M_allIn hN hb ok4 (repM_set3 hr) (by rw [set2_a (by decide), hg.2.2.2.2.2.2.1]; exact hw) (fun S5 h1 h2 => ?_)
      try dsimp only
      have e3 : S5 4 j = nI (p 3 j + 1) := by
        have := (h1.2.2.2.1 j hjn).2.2.2.1
        rw [this]; show nI (if j = j then p 3 j + 1 else p 3 j) = _; rw [if_pos rfl]
      rw [e3, show nI (p 3 j + 1) - 1 = nI (p 3 j) from nI_pred _]
      rintro S7 rfl
      have h7 := repM_set3 (d := j) (v := p 3 j) h1
      rw [setN_back] at h7
      have hg' : agr 110 S0 (set2 S5 4 j (nI (p 3 j))) := (hg.tr ((agr.set (by omega)).tr h2)).tr (agr.set (by omega))
      have hle : vStone p N j ≤ 160 := sH_le ok4
      by_cases c2 : m < vStone p N j
      · rw [if_pos (show nI m < nI (sumN (hoursP (setN p 3 j (p 3 j + 1)) N 4) (setN p 3 j (p 3 j + 1) 30 0)) from nI_lt (b := vStone p N j) c2 (by omega))]
        rintro x rfl
        exact ih (j + 1) _ (nI j) (vStone p N j) (by omega) hle h7 hg' (by rw [bst_y (by simp [c]) c2] at h; exact h)
      · rw [if_neg (show ¬ nI m < nI (sumN (hoursP (setN p 3 j (p 3 j + 1)) N 4) (setN p 3 j (p 3 j + 1) 30 0)) from nI_nlt (show vStone p N j ≤ m by omega) (by omega))]
        rintro x rfl
        exact ih (j + 1) _ bs m (by omega) hm h7 hg' (by rw [bst_n (Or.inr c2)] at h; exact h)
    · rw [if_pos (by rw [show p 3 j = 9 by omega]), nI_1]
      rintro x rfl
      exact ih (j + 1) S bs m (by omega) hm hr hg (by rw [bst_n (Or.inl (by simp [c]))] at h; exact h)
theorem st_bestStone : St_bestStone Inv9 := by
  intro F P K G T N L S hI a1
  obtain ⟨p, ok, hx, hm, hq⟩ := hI
  have o1 := ok.1
  unfold wX6_bestStone wX1_highestByStone wX7_bestStone
  rcases rgc a1 30 (by decide) with ⟨j, hj, rfl, e⟩ | e | e
  · refine X_rg ?_
    try dsimp only
    rw [show (30 : Int32) = nI 30 from rfl, e, if_pos rfl]
    refine X_behind (b := 999) (by omega) (by decide) ok hx (fun T' hT' => ?_)
    try dsimp only
    refine X_allHeights (by rw [hoursP_n]; exact o1) hT' ?_
    try dsimp only
    rw [hoursP_n]
    refine ⟨_, X_stoneL (b := 999) (by omega) (by decide) ok hx (p 30 0) 0 T' (-9) _ (by omega) (sH_le ok) (fun T'' => ?_)⟩
    refine M_bd ?_
    try dsimp only
    rw [e, if_pos rfl]
    refine M_allIn (b := 999) (by omega) (by decide) ok hm hq.1 (fun S1 h1 h2 => ?_)
    try dsimp only
    exact ⟨_, M_stoneL (b := 999) (by omega) (by decide) ok hq.1 (p 30 0) 0 S1 (-9) _ (by omega) (sH_le ok) h1 h2 (fun S' h6 h7 => ⟨rfl, Inv9.ag ok hx hq h6 h7 _ _⟩)⟩
  · have e : rgf a1 0 30 = -4 := e
    refine X_rg ?_
    try dsimp only
    rw [e, if_neg (by decide)]
    refine X_ref 4 (by decide) (by decide) ?_
    try dsimp only
    refine M_bd ?_
    try dsimp only
    rw [e, if_neg (by decide)]
    exact M_no 4 (by decide) (by decide) ⟨rfl, Inv9.ref ok hx hm hq 4 G T⟩
  · have e : rgf a1 0 30 = -6 := e
    refine X_rg ?_
    try dsimp only
    rw [e, if_neg (by decide)]
    refine X_ref 6 (by decide) (by decide) ?_
    try dsimp only
    refine M_bd ?_
    try dsimp only
    rw [e, if_neg (by decide)]
    exact M_no 6 (by decide) (by decide) ⟨rfl, Inv9.ref ok hx hm hq 6 G T⟩
