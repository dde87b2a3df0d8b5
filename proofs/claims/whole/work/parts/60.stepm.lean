/-! ===== PURE: judge, whatIs, lots (laid by wip/whole/p60.py) ===== -/
def jg (p : PT) (v : Nat → Nat) (n : Nat) : Nat → Nat → Int32
  | 0, _ => -9
  | m + 1, k => if n ≤ k then -9 else if n ≤ k + 1 then nI k else if v k < p 30 0 then (if v (k + 1) < p 30 0 ∧ v k ≠ v (k + 1) ∧ heft p (v k) < heft p (v (k + 1)) then jg p v n m (k + 2) else nI (k + 1)) else nI k
theorem noP {a b n : Nat} (ha : a < n) (h : ¬ (b < n ∧ a ≠ b)) (hb : b < 2 ^ 31) : noPair (nI a) (nI b) n := by
  refine Or.inr ⟨⟨a, ha, rfl⟩, ?_⟩
  by_cases c : b < n
  · refine Or.inr ⟨⟨b, c, rfl⟩, ?_⟩
    have : a = b := by
      by_cases q : a = b
      · exact q
      · exact absurd ⟨c, q⟩ h
    rw [this]
  · exact Or.inl (Or.inr (nI_le (by omega) (by omega)))
theorem X_judgeL {b : Nat} {P N : RT} {p : PT} (hb : b < 2000) (ok : okP b p) (hr : repX P p) {v : Nat → Nat} {n : Nat} (hn : n ≤ 16) (hN : N 30 1 = nI n) (hv : ∀ i, i < n → v i ≤ 99 ∧ N 0 i = nI (v i)) {Q : Int32 → Prop} : ∀ (m k : Nat), n ≤ k + 2 * m → Q (jg p v n (m + 1) k) → k ≤ 40 → bX5_firstWrong_2 N P Q (m + 1) (nI k) := by
  have o1 := ok.1
  intro m
  induction m with
  | zero =>
    intro k hk h hk2
    rw [bX5_firstWrong_2, hN, if_pos (nI_le (by omega) (by omega))]
    rw [jg, if_pos (by omega)] at h
    exact h
  | succ m ih =>
    intro k hk h hk2
    rw [bX5_firstWrong_2, hN, nI_1]
    rw [jg] at h
    by_cases c1 : n ≤ k
    · rw [if_pos (nI_le (by omega) (by omega))]
      rw [if_pos c1] at h
      exact h
    rw [if_neg (nI_ge (by omega) (by omega))]
    rw [if_neg c1] at h
    by_cases c2 : n ≤ k + 1
    · rw [if_pos (nI_le (by omega) (by omega))]
      rw [if_pos c2] at h
      exact h
    rw [if_neg (nI_ge (by omega) (by omega)), nI_clamp (by omega), nI_clamp (by omega), (hv k (by omega)).2, (hv (k + 1) (by omega)).2]
    rw [if_neg c2] at h
    have v0 := (hv k (by omega)).1
    have v1 := (hv (k + 1) (by omega)).1
    refine ⟨(vin (by omega)).mpr (by omega), ?_⟩
    by_cases c3 : v k < p 30 0
    · rw [if_pos c3] at h
      refine X_hT hr.1 c3 o1 ?_
      try dsimp only
      rw [if_neg bz_k]
      refine ⟨(vin (by omega)).mpr (by omega), ?_⟩
      unfold wX5_isLighter
      by_cases c4 : v (k + 1) < p 30 0 ∧ v k ≠ v (k + 1)
      · have h1 := heft_le ok c3
        have h2 := heft_le ok c4.1
        refine X_hP o1 hr.1 c3 c4.1 c4.2 ?_
        try dsimp only
        rw [if_neg bz_k]
        refine X_heft hb ok hr c3 ?_
        try dsimp only
        refine X_heft hb ok hr c4.1 ?_
        try dsimp only
        by_cases c5 : heft p (v k) < heft p (v (k + 1))
        · rw [if_pos ⟨c4.1, c4.2, c5⟩] at h
          rw [if_neg (nI_ge c5 (by omega)), if_neg bz_k, l2, nI_add]
          rintro x rfl
          exact ih (k + 2) (by omega) h (by omega)
        · rw [if_neg (fun q => c5 q.2.2)] at h
          rw [if_pos (nI_le (by omega) (by omega)), if_pos rfl]
          exact h
      · rw [if_neg (fun q => c4 ⟨q.1, q.2.1⟩)] at h
        refine X_hP_no o1 hr.1 (noP c3 c4 (by omega)) ?_
        try dsimp only
        rw [if_pos rfl, if_pos rfl]
        exact h
    · rw [if_neg c3] at h
      refine X_hT_no hr.1 (Or.inr (nI_le (by omega) (by omega))) ?_
      try dsimp only
      rw [if_pos rfl]
      exact h
theorem M_judgeL {b : Nat} {S : RT} {p : PT} (hb : b < 2000) (ok : okP b p) (hr : repM S p) {v : Nat → Nat} {n : Nat} (hn : n ≤ 16) (hv : ∀ i, i < n → v i ≤ 99 ∧ S 25 i = nI (v i)) {Q : Int32 → RT → Prop} : ∀ (m k : Nat), n ≤ k + 2 * m → Q (jg p v n (m + 1) k) S → k ≤ 40 → bX7_judge_12 Q (m + 1) S (nI n) (nI k) := by
  have o1 := ok.1
  intro m
  induction m with
  | zero =>
    intro k hk h hk2
    rw [bX7_judge_12, if_pos (nI_le (by omega) (by omega))]
    rw [jg, if_pos (by omega)] at h
    exact h
  | succ m ih =>
    intro k hk h hk2
    rw [bX7_judge_12, nI_1]
    rw [jg] at h
    by_cases c1 : n ≤ k
    · rw [if_pos (nI_le (by omega) (by omega))]
      rw [if_pos c1] at h
      exact h
    rw [if_neg (nI_ge (by omega) (by omega))]
    rw [if_neg c1] at h
    by_cases c2 : n ≤ k + 1
    · rw [if_pos (by rw [show k + 1 = n by omega])]
      rw [if_pos c2] at h
      exact h
    rw [if_neg (fun q => by have := (nI_eq (by omega) (by omega)).mp q; omega), nI_clamp (by omega), nI_clamp (by omega), (hv k (by omega)).2, (hv (k + 1) (by omega)).2]
    rw [if_neg c2] at h
    have v0 := (hv k (by omega)).1
    have v1 := (hv (k + 1) (by omega)).1
    refine ⟨(vin (by omega)).mpr (by omega), ?_⟩
    by_cases c3 : v k < p 30 0
    · rw [if_pos c3] at h
      refine M_iT hr.1 c3 o1 ?_
      try dsimp only
      rw [if_neg bz_k]
      refine ⟨(vin (by omega)).mpr (by omega), ?_⟩
      by_cases c4 : v (k + 1) < p 30 0 ∧ v k ≠ v (k + 1)
      · have h1 := heft_le ok c3
        have h2 := heft_le ok c4.1
        refine M_aT o1 hr.1 c3 c4.1 c4.2 ?_
        try dsimp only
        rw [if_neg bz_k]
        refine M_heft hb ok hr c3 ?_
        try dsimp only
        refine M_heft hb ok hr c4.1 ?_
        try dsimp only
        by_cases c5 : heft p (v k) < heft p (v (k + 1))
        · rw [if_pos ⟨c4.1, c4.2, c5⟩] at h
          rw [if_pos (nI_lt c5 (by omega)), l2, nI_add]
          rintro x rfl
          exact ih (k + 2) (by omega) h (by omega)
        · rw [if_neg (fun q => c5 q.2.2)] at h
          rw [if_neg (nI_nlt (by omega) (by omega))]
          exact h
      · rw [if_neg (fun q => c4 ⟨q.1, q.2.1⟩)] at h
        refine M_aT_no o1 hr.1 (noP c3 c4 (by omega)) ?_
        try dsimp only
        rw [if_pos rfl]
        exact h
    · rw [if_neg c3] at h
      refine M_iT_no hr.1 (Or.inr (nI_le (by omega) (by omega))) ?_
      try dsimp only
      rw [if_pos rfl]
      exact h
theorem told_v {N S : RT} {k : Nat} (h : ∀ i, i < k → ∃ v, v ≤ 99 ∧ N 0 i = nI v ∧ S 25 i = nI v) : ∃ v : Nat → Nat, ∀ i, i < k → v i ≤ 99 ∧ N 0 i = nI (v i) ∧ S 25 i = nI (v i) := by
  refine ⟨fun i => if hi : i < k then Classical.choose (h i hi) else 0, fun i hi => ?_⟩
  have := Classical.choose_spec (h i hi)
  dsimp only
  rw [dif_pos hi]
  exact this
theorem st_judge : St_judge Inv9 := by
  intro F P K G T N L S hI
  obtain ⟨p, ok, hx, hm, hq⟩ := hI
  have hq2 := hq
  obtain ⟨q0, q1, ⟨n, k1, k2, k3, k4⟩, q5⟩ := hq
  obtain ⟨v, hv⟩ := told_v k4
  unfold wX6_judge wX7_judge wX5_firstWrong
  refine ⟨_, X_judgeL (b := 999) (by decide) ok hx k1 k2 (fun i hi => ⟨(hv i hi).1, (hv i hi).2.1⟩) 8 0 (by omega) ?_ (by omega)⟩
  rintro N2 rfl
  rw [k3]
  rintro x rfl S2 rfl
  exact ⟨_, M_judgeL (b := 999) (by decide) ok (hm.sc (by decide)) k1 (fun i hi => ⟨(hv i hi).1, by rw [set2_a (by decide)]; exact (hv i hi).2.2⟩) 8 0 (by omega) ⟨rfl, p, ok, hx, hm.sc (by decide), hq2.clr⟩ (by omega)⟩
/-- it goes as told -/
abbrev asT (q : PT) (t : Nat) (v : Nat → Nat) (m : Nat) : Prop := ∀ i, i < m → hoursP q i 4 t = v i
theorem X_goesL {b : Nat} {q : PT} (hb : b < 1800) (ok : okP b q) {G N : RT} {t m : Nat} {v : Nat → Nat} (ht : t < q 30 0) (hm : m ≤ 16) (hN : N 30 1 = nI m) (hv : ∀ i, i < m → v i ≤ 99 ∧ N 0 i = nI (v i)) {Q : Int32 → RT → Prop} (y : asT q t v m → ∀ T', Q 1 T') (z : ¬ asT q t v m → ∀ T', Q 0 T') : ∀ (n i : Nat) (T : RT), i + n = m → repX T (hoursP q i) → (∀ j, j < i → hoursP q j 4 t = v j) → bX1_goesAsTold_2 G N Q (n + 1) T (nI t) (nI i) := by
  have o1 := ok.1
  intro n
  induction n with
  | zero =>
    intro i T hi hr hj
    rw [bX1_goesAsTold_2, hN, if_pos (nI_le (by omega) (by omega))]
    exact y (fun j h => hj j (by omega)) T
  | succ n ih =>
    intro i T hi hr hj
    have okk := okP_hours ok i
    have htk : t < hoursP q i 30 0 := by rw [hoursP_n]; exact ht
    have hh := (okk.2.2.2.1 t htk).2.2.2.2
    have v0 := hv i (by omega)
    rw [bX1_goesAsTold_2, hN, if_neg (nI_ge (by omega) (by omega)), nI_clamp (by omega), nI_clamp (by omega), (hr.2.2.2.1 t htk).2.2.2.2, v0.2]
    refine ⟨(vin (by omega)).mpr (by omega), (vin (by omega)).mpr (by omega), ?_⟩
    by_cases c : hoursP q i 4 t = v i
    · rw [if_pos (by rw [c])]
      refine X_goHour (b := b + i) (by omega) okk hr (fun T' hT' => ?_)
      try dsimp only
      rw [nI_1]
      rintro x rfl
      refine ih (i + 1) T' (by omega) hT' (fun j h => ?_)
      by_cases e : j = i
      · rw [e]; exact c
      · exact hj j (by omega)
    · rw [if_neg (fun e => c ((nI_eq (by omega) (by omega)).mp e))]
      exact z (fun h => c (h i (by omega))) T
theorem M_soL {b : Nat} {q : PT} (hb : b < 1800) (ok : okP b q) {S0 : RT} (hw : S0 30 11 = -9) {t m : Nat} {v : Nat → Nat} (ht : t < q 30 0) (hm : m ≤ 16) (hN : S0 30 26 = nI m) (hv : ∀ i, i < m → v i ≤ 99 ∧ S0 25 i = nI (v i)) {Q : Int32 → RT → Prop} (y : asT q t v m → ∀ S', repM S' q → agr 110 S0 S' → Q 1 S') (z : ¬ asT q t v m → ∀ S', repM S' q → agr 110 S0 S' → Q 0 S') : ∀ (n i : Nat) (S : RT), i + n = m → repM S (hoursP q i) → svM S 2 q → agr 110 S0 S → (∀ j, j < i → hoursP q j 4 t = v j) → bX7_isSo_8 Q (n + 1) S (nI t) 1 (nI i) := by
  have o1 := ok.1
  have o2 := ok.2.1
  intro n
  induction n with
  | zero =>
    intro i S hi hr hs hg hj
    rw [bX7_isSo_8, hg.2.2.2.2.2.1, hN, if_pos (nI_le (by omega) (by omega)), bX7_isSo_51]
    exact M_end o1 o2 hs hg (fun S' g1 g2 => ⟨Or.inr rfl, y (fun j h => hj j (by omega)) S' g1 g2⟩)
  | succ n ih =>
    intro i S hi hr hs hg hj
    have okk := okP_hours ok i
    have htk : t < hoursP q i 30 0 := by rw [hoursP_n]; exact ht
    have hh := (okk.2.2.2.1 t htk).2.2.2.2
    have v0 := hv i (by omega)
    rw [bX7_isSo_8, hg.2.2.2.2.2.1, hN, if_neg (nI_ge (by omega) (by omega)), if_neg bz_k, nI_clamp (by omega), nI_clamp (by omega), (hr.2.2.2.1 t htk).2.2.2.2, hg.2.2.1, v0.2]
    refine ⟨(vin (by omega)).mpr (by omega), (vin (by omega)).mpr (by omega), ?_⟩
    unfold bX7_isSo_40
    by_cases c : hoursP q i 4 t = v i
    · rw [if_pos (by rw [c])]
      refine M_goesHour (w := -9) (b := b + i) (by omega) okk hr (by rw [hg.2.2.2.2.2.2.1]; exact hw) (fun S' h1 h2 => ?_)
      try dsimp only
      rw [nI_1]
      rintro x rfl
      refine ih (i + 1) S' (by omega) h1 (sv_go o1 o2 hs h2) (hg.tr (h2.agr.lo (by decide))) (fun j h => ?_)
      by_cases e : j = i
      · rw [e]; exact c
      · exact hj j (by omega)
    · rw [if_neg (fun e => c ((nI_eq (by omega) (by omega)).mp e))]
      refine M_goesHour (w := -9) (b := b + i) (by omega) okk hr (by rw [hg.2.2.2.2.2.2.1]; exact hw) (fun S' h1 h2 => ?_)
      try dsimp only
      rw [nI_1]
      rintro x rfl
      have fin : bX7_isSo_51 Q S' 0 := by
        unfold bX7_isSo_51
        exact M_end o1 o2 (sv_go o1 o2 hs h2) (hg.tr (h2.agr.lo (by decide))) (fun S'' g1 g2 => ⟨Or.inl rfl, z (fun h => c (h i (by omega))) S'' g1 g2⟩)
      rw [bX7_isSo_8]
      split
      · exact fin
      · rw [if_pos rfl]; exact fin
theorem M_isSo {b : Nat} {q : PT} (hb : b < 1800) (ok : okP b q) {S : RT} (hr : repM S q) (hw : S 30 11 = -9) {t m : Nat} {v : Nat → Nat} (ht : t < q 30 0) (hm : m ≤ 16) (hN : S 30 26 = nI m) (hv : ∀ i, i < m → v i ≤ 99 ∧ S 25 i = nI (v i)) {Q : Int32 → RT → Prop} (y : asT q t v m → ∀ S', repM S' q → agr 110 S S' → Q 1 S') (z : ¬ asT q t v m → ∀ S', repM S' q → agr 110 S S' → Q 0 S') : wX7_isSo S (nI t) Q := by
  unfold wX7_isSo
  refine M_thinks ok.1 ok.2.1 hr (fun S1 h1 h2 h3 => ?_)
  try dsimp only
  exact ⟨_, M_soL hb ok hw ht hm hN hv y z m 0 S1 (by omega) h1 h2 h3 (fun j h => by omega)⟩
theorem setN_2 {p : PT} {r i w u : Nat} : setN (setN p r i w) r i u = setN p r i u := by
  funext a b
  unfold setN
  by_cases h : a = r
  · subst h; by_cases h2 : b = i
    · simp [h2]
    · simp [h2]
  · simp [h]
def kdN (p : PT) (t : Nat) (v : Nat → Nat) (m : Nat) : Nat → Nat
  | 0 => 0
  | k + 1 => if asT (setN p 0 t k) t v m then kdN p t v m k ||| 2 ^ k else kdN p t v m k
theorem X_kindsL {b : Nat} {p : PT} (hb : b < 1800) (ok : okP b p) {G P N : RT} (hx : repX P p) {t m : Nat} {v : Nat → Nat} (ht : t < p 30 0) (hm : m ≤ 16) (hN : N 30 1 = nI m) (hv : ∀ i, i < m → v i ≤ 99 ∧ N 0 i = nI (v i)) {Q : Int32 → RT → Prop} (h : ∀ T', Q (nI (kdN p t v m 6)) T') : ∀ (n k : Nat) (T : RT), k + n = 6 → bX1_kindsAsTold_6 G P N Q (n + 1) T (nI t) (nI (kdN p t v m k)) (nI k) := by
  have o1 := ok.1
  intro n
  induction n with
  | zero =>
    intro k T hk
    rw [bX1_kindsAsTold_6, if_pos (by rw [show k = 6 by omega]; decide), show k = 6 by omega]
    exact h T
  | succ n ih =>
    intro k T hk
    rw [bX1_kindsAsTold_6, l6, if_neg (nI_ge (by omega) (by omega))]
    refine X_begin o1 ok.2.1 hx (fun T2 hT2 => ?_)
    try dsimp only
    rw [nI_clamp (by omega)]
    refine ⟨(vin (by omega)).mpr (by omega), ?_⟩
    rintro T4 rfl
    have ok4 := okP_set0 (d := t) (v := k) (by omega) ok
    have this := fun T => ih (k + 1) T (by omega)
    unfold bX1_kindsAsTold_48
    refine ⟨_, X_goesL hb ok4 ht hm hN hv (fun y T' => ?_) (fun z T' => ?_) m 0 _ (by omega) (repX_set0 hT2) (fun j h => by omega)⟩
    · rw [kdN, if_pos y] at this
      rw [if_neg bz_k, sh1 _ (by omega), nx_or, nI_1]
      rintro x rfl y rfl
      exact this T'
    · rw [kdN, if_neg z] at this
      rw [if_pos rfl, nI_1]
      rintro y rfl
      exact this T'
theorem M_kindsL {b : Nat} {p : PT} (hb : b < 1800) (ok : okP b p) {S0 : RT} (hw : S0 30 11 = -9) {t m : Nat} {v : Nat → Nat} (ht : t < p 30 0) (hm : m ≤ 16) (hN : S0 30 26 = nI m) (hv : ∀ i, i < m → v i ≤ 99 ∧ S0 25 i = nI (v i)) {Q : Int32 → RT → Prop} (h : ∀ S', repM S' p → agr 110 S0 S' → Q (nI (kdN p t v m 6)) S') : ∀ (n k : Nat) (S : RT) (w : Nat), k + n = 6 → repM S (setN p 0 t w) → agr 110 S0 S → bX7_kindsOf_12 Q (n + 1) S (nI t) (nI (p 0 t)) (nI (kdN p t v m k)) (nI k) := by
  have o1 := ok.1
  intro n
  induction n with
  | zero =>
    intro k S w hk hr hg
    rw [bX7_kindsOf_12, if_pos (by rw [show k = 6 by omega]; decide), show k = 6 by omega, nI_clamp (by omega)]
    refine ⟨(vin (by omega)).mpr (by omega), ?_⟩
    rintro S3 rfl
    have h3 := repM_set0 (d := t) (v := p 0 t) hr
    rw [setN_back] at h3
    exact h _ h3 (hg.tr (agr.set (by omega)))
  | succ n ih =>
    intro k S w hk hr hg
    rw [bX7_kindsOf_12, l6, if_neg (nI_ge (by omega) (by omega)), nI_clamp (by omega)]
    refine ⟨(vin (by omega)).mpr (by omega), ?_⟩
    rintro S5 rfl
    have ok4 := okP_set0 (d := t) (v := k) (by omega) ok
    have h5 := repM_set0 (d := t) (v := k) hr
    rw [setN_2] at h5
    have g5 : agr 110 S0 (set2 S 1 t (nI k)) := hg.tr (agr.set (by omega))
    unfold bX7_kindsOf_44
    refine M_isSo hb ok4 h5 (by rw [g5.2.2.2.2.2.2.1]; exact hw) ht hm (by rw [g5.2.2.2.2.2.1]; exact hN) (fun i hi => by rw [g5.2.2.1]; exact hv i hi) (fun y S' g1 g2 => ?_) (fun z S' g1 g2 => ?_)
    try dsimp only
    · have this := ih (k + 1) S' k (by omega) g1 (g5.tr g2)
      rw [kdN, if_pos y] at this
      rw [if_neg bz_k, sh1 _ (by omega), nx_or, nI_1]
      rintro x rfl y rfl
      exact this
    · have this := ih (k + 1) S' k (by omega) g1 (g5.tr g2)
      rw [kdN, if_neg z] at this
      rw [if_pos rfl, l0, nx_or, Nat.or_zero, nI_1]
      rintro x rfl y rfl
      exact this
def wgN (p : PT) (t : Nat) (v : Nat → Nat) (m : Nat) : Nat → Nat
  | 0 => 0
  | k + 1 => if asT (setN p 2 t k) t v m then wgN p t v m k + 1 else wgN p t v m k
theorem X_weightsL {b : Nat} {p : PT} (hb : b < 1800) (ok : okP b p) {G P N : RT} (hx : repX P p) {t m : Nat} {v : Nat → Nat} (ht : t < p 30 0) (hm : m ≤ 16) (hN : N 30 1 = nI m) (hv : ∀ i, i < m → v i ≤ 99 ∧ N 0 i = nI (v i)) {Q : Int32 → RT → Prop} (h : ∀ T', Q (nI (wgN p t v m 61)) T') : ∀ (n k : Nat) (T : RT), k + n = 61 → bX1_weightsAsTold_6 G P N Q (n + 1) T (nI t) (nI (wgN p t v m k)) (nI k) := by
  have o1 := ok.1
  intro n
  induction n with
  | zero =>
    intro k T hk
    rw [bX1_weightsAsTold_6, if_pos (by rw [show k = 61 by omega]; decide), show k = 61 by omega]
    exact h T
  | succ n ih =>
    intro k T hk
    rw [bX1_weightsAsTold_6, l60, if_neg (nI_nlt (by omega) (by omega))]
    refine X_begin o1 ok.2.1 hx (fun T2 hT2 => ?_)
    try dsimp only
    rw [nI_clamp (by omega)]
    refine ⟨(vin (by omega)).mpr (by omega), ?_⟩
    rintro T4 rfl
    have ok4 := okP_set2 (d := t) (v := k) (by omega) ok
    have this := fun T => ih (k + 1) T (by omega)
    unfold bX1_weightsAsTold_42
    refine ⟨_, X_goesL hb ok4 ht hm hN hv (fun y T' => ?_) (fun z T' => ?_) m 0 _ (by omega) (repX_set2 hT2) (fun j h => by omega)⟩
    · rw [wgN, if_pos y] at this
      rw [if_neg bz_k, nI_1, nI_1]
      rintro x rfl y rfl
      exact this T'
    · rw [wgN, if_neg z] at this
      rw [if_pos rfl, nI_1]
      rintro y rfl
      exact this T'
theorem M_weightsL {b : Nat} {p : PT} (hb : b < 1800) (ok : okP b p) {S0 : RT} (hw : S0 30 11 = -9) {t m : Nat} {v : Nat → Nat} (ht : t < p 30 0) (hm : m ≤ 16) (hN : S0 30 26 = nI m) (hv : ∀ i, i < m → v i ≤ 99 ∧ S0 25 i = nI (v i)) {Q : Int32 → RT → Prop} (h : ∀ S', repM S' p → agr 110 S0 S' → Q (nI (wgN p t v m 61)) S') : ∀ (n k : Nat) (S : RT) (w : Nat), k + n = 61 → repM S (setN p 2 t w) → agr 110 S0 S → bX7_weightsOf_12 Q (n + 1) S (nI t) (nI (p 2 t)) (nI (wgN p t v m k)) (nI k) := by
  have o1 := ok.1
  intro n
  induction n with
  | zero =>
    intro k S w hk hr hg
    rw [bX7_weightsOf_12, if_pos (by rw [show k = 61 by omega]; decide), show k = 61 by omega, nI_clamp (by omega)]
    refine ⟨(vin (by omega)).mpr (by omega), ?_⟩
    rintro S3 rfl
    have h3 := repM_set2 (d := t) (v := p 2 t) hr
    rw [setN_back] at h3
    exact h _ h3 (hg.tr (agr.set (by omega)))
  | succ n ih =>
    intro k S w hk hr hg
    rw [bX7_weightsOf_12, l60, if_neg (nI_nlt (by omega) (by omega)), nI_clamp (by omega)]
    refine ⟨(vin (by omega)).mpr (by omega), ?_⟩
    rintro S5 rfl
    have ok4 := okP_set2 (d := t) (v := k) (by omega) ok
    have h5 := repM_set2 (d := t) (v := k) hr
    rw [setN_2] at h5
    have g5 : agr 110 S0 (set2 S 3 t (nI k)) := hg.tr (agr.set (by omega))
    unfold bX7_weightsOf_41
    refine M_isSo hb ok4 h5 (by rw [g5.2.2.2.2.2.2.1]; exact hw) ht hm (by rw [g5.2.2.2.2.2.1]; exact hN) (fun i hi => by rw [g5.2.2.1]; exact hv i hi) (fun y S' g1 g2 => ?_) (fun z S' g1 g2 => ?_)
    try dsimp only
    · have this := ih (k + 1) S' k (by omega) g1 (g5.tr g2)
      rw [wgN, if_pos y] at this
      rw [if_neg bz_k, nI_1, nI_1]
      rintro x rfl y rfl
      exact this
    · have this := ih (k + 1) S' k (by omega) g1 (g5.tr g2)
      rw [wgN, if_neg z] at this
      rw [if_pos rfl, l0, nI_add, Nat.add_zero, nI_1]
      rintro x rfl y rfl
      exact this
theorem st_whatIs : St_whatIs Inv9 := by
  intro F P K G T N L S hI a1 a2
  obtain ⟨p, ok, hx, hm, hq⟩ := hI
  have hq2 := hq
  have o1 := ok.1
  obtain ⟨q0, q1, ⟨n, k1, k2, k3, k4⟩, q5⟩ := hq
  obtain ⟨v, hv⟩ := told_v k4
  unfold wX6_whatIs wX7_whatIs
  rcases ixc a1 (p 30 0) (by omega) with ⟨t, ht, rfl⟩ | c1
  · refine X_hT hx.1 ht ok.1 ?_
    try dsimp only
    rw [if_neg bz_k]
    have mt : ∀ {Q : Int32 → Prop}, Q 1 → wX7_isThing S (nI t) Q := fun h => M_iT hm.1 ht ok.1 h
    by_cases p0 : a2 = 0
    · rw [if_pos p0]
      refine ⟨_, X_kindsL (b := 999) (by decide) ok hx ht k1 k2 (fun i hi => ⟨(hv i hi).1, (hv i hi).2.1⟩) (fun T' => ?_) 6 0 T rfl⟩
      refine mt ?_
      try dsimp only
      rw [if_neg bz_k]
      refine M_isIn ?_
      try dsimp only
      rw [in01y (Or.inl p0), if_neg bz_k]
      unfold bX7_whatIs_27 wX7_kindsOf
      rw [if_pos rfl, if_pos p0, nI_clamp (by omega), (hm.2.2.2.1 t ht).1]
      refine ⟨(vin (by omega)).mpr (by omega), ?_⟩
      rintro x rfl
      exact ⟨_, M_kindsL (b := 999) (by decide) ok hq2.1 ht k1 k3 (fun i hi => ⟨(hv i hi).1, (hv i hi).2.2⟩) (fun S' h6 h7 => ⟨rfl, Inv9.ag ok hx hq2 h6 h7 _ _⟩) 6 0 S (p 0 t) rfl (by rw [setN_self]; exact hm) agr.rf⟩
    rw [if_neg p0]
    by_cases p1 : a2 = 1
    · rw [if_pos p1]
      refine ⟨_, X_weightsL (b := 999) (by decide) ok hx ht k1 k2 (fun i hi => ⟨(hv i hi).1, (hv i hi).2.1⟩) (fun T' => ?_) 61 0 T rfl⟩
      refine mt ?_
      try dsimp only
      rw [if_neg bz_k]
      refine M_isIn ?_
      try dsimp only
      rw [in01y (Or.inr p1), if_neg bz_k]
      unfold bX7_whatIs_27 wX7_weightsOf
      rw [if_pos rfl, if_neg p0, nI_clamp (by omega), (hm.2.2.2.1 t ht).2.2.1]
      refine ⟨(vin (by omega)).mpr (by omega), ?_⟩
      rintro x rfl
      exact ⟨_, M_weightsL (b := 999) (by decide) ok hq2.1 ht k1 k3 (fun i hi => ⟨(hv i hi).1, (hv i hi).2.2⟩) (fun S' h6 h7 => ⟨rfl, Inv9.ag ok hx hq2 h6 h7 _ _⟩) 61 0 S (p 2 t) rfl (by rw [setN_self]; exact hm) agr.rf⟩
    rw [if_neg p1]
    refine X_ref 2 (by decide) (by decide) (mt ?_)
    try dsimp only
    try dsimp only
    rw [if_neg bz_k]
    refine M_isIn ?_
    try dsimp only
    rw [if_neg (in01 p0 p1), if_pos rfl]
    unfold bX7_whatIs_27
    rw [if_neg (by decide)]
    exact M_no 2 (by decide) (by decide) ⟨rfl, Inv9.ref ok hx hm hq2 2 G T⟩
  · refine X_hT_no hx.1 c1 ?_
    try dsimp only
    rw [if_pos rfl]
    refine X_ref 1 (by decide) (by decide) (M_iT_no hm.1 c1 ?_)
    try dsimp only
    rw [if_pos rfl]
    unfold bX7_whatIs_27
    rw [if_neg (by decide)]
    exact M_no 1 (by decide) (by decide) ⟨rfl, Inv9.ref ok hx hm hq2 1 G T⟩
/-- ports by lot -/
def sd (x : Int32) : Int32 := x * 1664525 + 1013904223
def wl (x : Int32) : Nat := x.toBitVec.toNat % 2147483648 / 256 % 10
theorem wl_le (x : Int32) : wl x ≤ 9 := by unfold wl; omega
theorem wl_eq (x : Int32) : (((x &&& 2147483647) / 256) - ((x &&& 2147483647) / 256) / 10 * 10) = nI (wl x) := by
  have e1 : x = nI x.toBitVec.toNat := Int32.toBitVec_inj.mp (by show _ = BitVec.ofNat 32 _; simp)
  have e2 : x &&& 2147483647 = nI (x.toBitVec.toNat % 2147483648) := by
    conv => lhs; rw [e1]
    rw [show (2147483647 : Int32) = nI (2 ^ 31 - 1) from rfl, nx_and, Nat.and_two_pow_sub_one_eq_mod]
  have hlt : x.toBitVec.toNat % 2147483648 < 2147483648 := Nat.mod_lt _ (by decide)
  rw [e2, show (256 : Int32) = nI 256 from rfl, pk_div (by omega) (by decide) (by decide), l10, pk_div (by omega) (by decide) (by decide), pk_mul, nS (by omega)]
  unfold wl
  rw [show x.toBitVec.toNat % 2147483648 / 256 - x.toBitVec.toNat % 2147483648 / 256 / 10 * 10 = x.toBitVec.toNat % 2147483648 / 256 % 10 by omega]
def dS (z : Int32) : Nat → Int32
  | 0 => z
  | k + 1 => sd (dS z k)
def dP (p : PT) (z : Int32) : Nat → PT
  | 0 => p
  | k + 1 => setN (dP p z k) 3 k (wl (dS z (k + 1)))
theorem okP_d {b : Nat} {p : PT} (ok : okP b p) (z : Int32) : ∀ k, okP b (dP p z k)
  | 0 => ok
  | k + 1 => okP_set3 (wl_le _) (okP_d ok z k)
theorem dP_r {p : PT} {z : Int32} {a : Nat} (h : a ≠ 3) : ∀ k, dP p z k a = p a
  | 0 => rfl
  | k + 1 => by rw [dP, setN_ne h]; exact dP_r h k
def vl (q : PT) (what : Int32) : Nat := if what = 0 then sumN (hoursP q 10 4) (q 30 0) else pc (lsN (hoursP q 10) (q 30 1))
def sS (n : Nat) (z : Int32) : Nat → Int32
  | 0 => z
  | i + 1 => dS (sS n z i) n
def lV (p : PT) (what z : Int32) : Nat → Nat
  | 0 => 0
  | i + 1 => lV p what z i + vl (dP p (sS (p 30 0) z i) (p 30 0)) what
theorem ls_256 {p : PT} {m : Nat} (h : m ≤ 6) : lsN p m < 256 := by
  have h1 := lsN_lt (p := p) m
  have h2 : 2 ^ m ≤ 2 ^ 6 := Nat.pow_le_pow_right (by decide) h
  omega
theorem X_lotI {b : Nat} {p : PT} (hb : b < 1700) (ok : okP b p) {G P : RT} {z what fl x2 : Int32} {i : Nat} {sm : Nat} (hf : (what = 0 ∧ fl = 1) ∨ (¬ what = 0 ∧ fl = 0)) {Q : Int32 → RT → Prop} {K9 : RT → Int32 → Int32 → Int32 → Int32 → Int32 → Prop} (h : ∀ T', K9 T' x2 fl (dS z (p 30 0)) (nI (sm + vl (dP p z (p 30 0)) what)) (nI (i + 1))) : ∀ (n k : Nat) (T : RT), k + n = p 30 0 → repX T (dP p z k) → bX1_byLot_24 K9 G P Q (n + 1) T x2 fl (dS z k) (nI sm) (nI i) (nI k) := by
  have o1 := ok.1
  have o2 := ok.2.1
  intro n
  induction n with
  | zero =>
    intro k T hk hT
    have ek : k = p 30 0 := by omega
    have e30 : dP p z k 30 = p 30 := dP_r (by decide) k
    have okd := okP_d ok z k
    rw [bX1_byLot_24, hT.1, e30, if_pos (nI_le (by omega) (by omega)), l10]
    refine X_goHours (b := b) (by decide) (by omega) okd hT (fun T2 hT2 => ?_)
    try dsimp only
    have ok2 := okP_hours okd 10
    unfold bX1_byLot_110
    have h' := h T2
    unfold vl at h'
    rw [← ek, e30] at h'
    rcases hf with ⟨f1, f2⟩ | ⟨f1, f2⟩
    · rw [if_pos f1] at h'
      rw [f2, if_neg bz_k]
      rw [f2] at h'
      refine X_allHeights ok2.1 hT2 ?_
      try dsimp only
      rw [hoursP_n, e30, nI_add, nI_1]
      rintro x rfl y rfl
      exact h'
    · rw [if_neg f1] at h'
      rw [f2, if_pos rfl]
      rw [f2] at h'
      refine X_loose (b := b + 10) (by omega) ok2 hT2 ?_
      try dsimp only
      rw [hoursP_m, e30]
      refine X_bitCount (ls_256 o2) ?_
      try dsimp only
      rw [nI_add, nI_1]
      rintro x rfl y rfl
      exact h'
  | succ n ih =>
    intro k T hk hT
    have e30 : dP p z k 30 = p 30 := dP_r (by decide) k
    rw [bX1_byLot_24, hT.1, e30, if_neg (nI_ge (by omega) (by omega))]
    rintro x rfl
    rw [wl_eq, nI_clamp (by omega), nI_1]
    refine ⟨(vin (by omega)).mpr (by omega), ?_⟩
    rintro T9 rfl y rfl
    exact ih (k + 1) _ (by omega) (repX_set3 hT)
theorem X_lotL {b : Nat} {p : PT} (hb : b < 1700) (ok : okP b p) {G P : RT} (hx : repX P p) {z what fl : Int32} {m : Nat} (hm : m ≤ 20) (hf : (what = 0 ∧ fl = 1) ∨ (¬ what = 0 ∧ fl = 0)) {Q : Int32 → RT → Prop} (h : ∀ T', Q (nI (lV p what z m)) T') : ∀ (n i : Nat) (T : RT), i + n = m → bX1_byLot_9 G P Q (n + 1) T (nI m) fl (sS (p 30 0) z i) (nI (lV p what z i)) (nI i) := by
  intro n
  induction n with
  | zero =>
    intro i T hi
    rw [bX1_byLot_9, if_pos (nI_le (by omega) (by omega)), show i = m by omega]
    exact h T
  | succ n ih =>
    intro i T hi
    rw [bX1_byLot_9, if_neg (nI_ge (by omega) (by omega))]
    refine X_begin ok.1 ok.2.1 hx (fun T2 hT2 => ?_)
    try dsimp only
    exact ⟨_, X_lotI hb ok hf (fun T' => ih (i + 1) T' (by omega)) (p 30 0) 0 T2 (by omega) hT2⟩
theorem M_lotI {b : Nat} {p : PT} (hb : b < 1700) (ok : okP b p) {S0 : RT} (hw : S0 30 11 = -9) {z what x1 : Int32} {i : Nat} {sm : Nat} {Q : Int32 → RT → Prop} {K : RT → Int32 → Int32 → Int32 → Int32 → Int32 → Prop} (h : ∀ S', repM S' p → agr 110 S0 S' → K S' x1 what (dS z (p 30 0)) (nI (sm + vl (dP p z (p 30 0)) what)) (nI (i + 1))) : ∀ (n k : Nat) (S : RT), k + n = p 30 0 → repM S (dP p z k) → svM S 2 p → agr 110 S0 S → bX7_lots_61 K Q (n + 1) S x1 what (dS z k) (nI sm) (nI i) (nI k) := by
  have o1 := ok.1
  have o2 := ok.2.1
  intro n
  induction n with
  | zero =>
    intro k S hk hS hs hg
    have ek : k = p 30 0 := by omega
    have e30 : dP p z k 30 = p 30 := dP_r (by decide) k
    have okd := okP_d ok z k
    rw [bX7_lots_61, hS.1, e30, if_pos (nI_le (by omega) (by omega)), l10]
    refine M_goes (b := b) (by decide) (by omega) okd hS (by rw [hg.2.2.2.2.2.2.1]; exact hw) (fun S2 hS2 hf => ?_)
    try dsimp only
    have ok2 := okP_hours okd 10
    have hs2 := sv_go o1 o2 hs hf
    have hg2 : agr 110 S0 S2 := hg.tr (hf.agr.lo (by decide))
    unfold bX7_lots_134
    unfold vl at h
    rw [← ek, e30] at h
    by_cases f1 : what = 0
    · rw [if_pos f1] at h ⊢
      refine M_allHigh ok2.1 hS2 ?_
      try dsimp only
      rw [hoursP_n, e30, nI_add]
      rintro x rfl
      refine M_end o1 o2 hs2 hg2 (fun S' g1 g2 => ?_)
      try dsimp only
      rw [nI_1]
      rintro y rfl
      exact h S' g1 g2
    · rw [if_neg f1] at h ⊢
      refine M_odd (b := b + 10) (by omega) ok2 hS2 ?_
      try dsimp only
      rw [hoursP_m, e30]
      refine M_bits (ls_256 o2) ?_
      try dsimp only
      rw [nI_add]
      rintro x rfl
      refine M_end o1 o2 hs2 hg2 (fun S' g1 g2 => ?_)
      try dsimp only
      rw [nI_1]
      rintro y rfl
      exact h S' g1 g2
  | succ n ih =>
    intro k S hk hS hs hg
    have e30 : dP p z k 30 = p 30 := dP_r (by decide) k
    rw [bX7_lots_61, hS.1, e30, if_neg (nI_ge (by omega) (by omega))]
    rintro x rfl
    rw [wl_eq, nI_clamp (by omega), nI_1]
    refine ⟨(vin (by omega)).mpr (by omega), ?_⟩
    rintro S9 rfl y rfl
    exact ih (k + 1) _ (by omega) (repM_set3 hS) (svM.st hs (by decide)) (hg.tr (agr.set (by omega)))
theorem M_lotL {b : Nat} {p : PT} (hb : b < 1700) (ok : okP b p) {S0 : RT} (hw : S0 30 11 = -9) {z what : Int32} {m : Nat} (hm : m ≤ 20) {Q : Int32 → RT → Prop} (h : ∀ S', repM S' p → agr 110 S0 S' → Q (nI (lV p what z m)) S') : ∀ (n i : Nat) (S : RT), i + n = m → repM S p → agr 110 S0 S → bX7_lots_48 Q (n + 1) S (nI m) what (sS (p 30 0) z i) (nI (lV p what z i)) (nI i) := by
  intro n
  induction n with
  | zero =>
    intro i S hi hS hg
    rw [bX7_lots_48, if_pos (nI_le (by omega) (by omega)), show i = m by omega]
    exact h S hS hg
  | succ n ih =>
    intro i S hi hS hg
    rw [bX7_lots_48, if_neg (nI_ge (by omega) (by omega))]
    refine M_thinks ok.1 ok.2.1 hS (fun S1 g1 g2 g3 => ?_)
    try dsimp only
    exact ⟨_, M_lotI hb ok hw (fun S' q1 q2 => ih (i + 1) S' (by omega) q1 q2) (p 30 0) 0 S1 (by omega) g1 g2 (hg.tr g3)⟩
theorem st_lots : St_lots Inv9 := by
  intro F P K G T N L S hI a1 a2 a3
  obtain ⟨p, ok, hx, hm, hq⟩ := hI
  have o1 := ok.1
  unfold wX6_lots wX7_lots
  refine X_rg ?_
  try dsimp only
  rcases rgc1 a1 20 (by decide) (by decide) with ⟨j, hj1, hj, rfl, e⟩ | e | e
  · have e : rgf (nI j) 1 20 = 0 := e
    rw [e, if_pos rfl]
    have yes : (a3 = 0 ∨ a3 = 1) → ∀ {Q : Int32 → RT → Prop}, (∀ S', repM S' p → agr 110 S S' → Q (nI (lV p a3 a2 j)) S') → wX7_bound (nI j) 1 20 (fun r_1 => if r_1 = 0 then wX7_isIn a3 0 1 (fun r_3 => if r_3 = 0 then bX7_lots_27 Q S (nI j) a2 a3 (-2) else bX7_lots_27 Q S (nI j) a2 a3 r_1) else bX7_lots_27 Q S (nI j) a2 a3 r_1) := by
      intro ha Q h
      refine M_bd ?_
      try dsimp only
      rw [e, if_pos rfl]
      refine M_isIn ?_
      try dsimp only
      rw [in01y ha, if_neg bz_k]
      unfold bX7_lots_27
      rw [if_pos rfl]
      exact ⟨_, M_lotL (b := 999) (by decide) ok hq.1 hj h j 0 S (by omega) hm agr.rf⟩
    by_cases p0 : a3 = 0
    · rw [if_pos p0]
      unfold bX6_lots_27 bX6_lots_58 wX1_byLot
      rw [if_pos rfl, if_pos p0]
      exact ⟨_, X_lotL (b := 999) (by decide) ok hx hj (Or.inl ⟨p0, rfl⟩) (fun T' => yes (Or.inl p0) (fun S' h6 h7 => ⟨rfl, Inv9.ag ok hx hq h6 h7 _ _⟩)) j 0 T (by omega)⟩
    rw [if_neg p0]
    by_cases p1 : a3 = 1
    · rw [if_pos p1]
      unfold bX6_lots_27 bX6_lots_58 wX1_byLot
      rw [if_pos rfl, if_neg p0]
      exact ⟨_, X_lotL (b := 999) (by decide) ok hx hj (Or.inr ⟨p0, rfl⟩) (fun T' => yes (Or.inr p1) (fun S' h6 h7 => ⟨rfl, Inv9.ag ok hx hq h6 h7 _ _⟩)) j 0 T (by omega)⟩
    rw [if_neg p1]
    unfold bX6_lots_27
    rw [if_neg (by decide)]
    refine X_ref 2 (by decide) (by decide) ?_
    try dsimp only
    refine M_bd ?_
    try dsimp only
    rw [e, if_pos rfl]
    refine M_isIn ?_
    try dsimp only
    rw [if_neg (in01 p0 p1), if_pos rfl]
    unfold bX7_lots_27
    rw [if_neg (by decide)]
    exact M_no 2 (by decide) (by decide) ⟨rfl, Inv9.ref ok hx hm hq 2 G T⟩
  · have e : rgf a1 1 20 = -4 := e
    rw [e, if_neg (by decide)]
    unfold bX6_lots_27
    rw [if_neg (by decide)]
    refine X_ref 4 (by decide) (by decide) ?_
    try dsimp only
    refine M_bd ?_
    try dsimp only
    rw [e, if_neg (by decide)]
    unfold bX7_lots_27
    rw [if_neg (by decide)]
    exact M_no 4 (by decide) (by decide) ⟨rfl, Inv9.ref ok hx hm hq 4 G T⟩
  · have e : rgf a1 1 20 = -6 := e
    rw [e, if_neg (by decide)]
    unfold bX6_lots_27
    rw [if_neg (by decide)]
    refine X_ref 6 (by decide) (by decide) ?_
    try dsimp only
    refine M_bd ?_
    try dsimp only
    rw [e, if_neg (by decide)]
    unfold bX7_lots_27
    rw [if_neg (by decide)]
    exact M_no 6 (by decide) (by decide) ⟨rfl, Inv9.ref ok hx hm hq 6 G T⟩
