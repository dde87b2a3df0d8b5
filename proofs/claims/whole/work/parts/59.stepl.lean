/-! ===== PURE: a wet rope, by odds (laid by wip/whole/p59.py) ===== -/
def wetP (p : PT) (r s : Nat) : Nat → PT
  | 0 => p
  | k + 1 => hourP (if s.testBit k = true then nI r else -9) (wetP p r s k)
theorem okP_wet {b : Nat} {p : PT} (ok : okP b p) (r s : Nat) : ∀ k, okP (b + k) (wetP p r s k)
  | 0 => ok
  | k + 1 => okP_hour (okP_wet ok r s k)
theorem wetP_n {p : PT} {r s : Nat} : ∀ k, wetP p r s k 30 0 = p 30 0
  | 0 => rfl
  | k + 1 => by rw [wetP, hourP_n]; exact wetP_n k
/-- dry hours among the first -/
def zc (s : Nat) : Nat → Nat
  | 0 => 0
  | k + 1 => if s.testBit k = true then zc s k else zc s k + 1
theorem zc_le {s : Nat} : ∀ k, zc s k ≤ k
  | 0 => Nat.le_refl _
  | k + 1 => by
    have := zc_le (s := s) k
    rw [zc]
    split <;> omega
theorem zc_pc : ∀ n, n < 8 → ∀ s, s < 2 ^ n → pc s ≤ n ∧ n - pc s = zc s n := by decide +kernel
theorem p2le7 : ∀ n, n ≤ 7 → 2 ^ n ≤ 128 := by decide
def wU (p : PT) (r th n t v : Nat) : Nat → Nat := sumN (fun s => if v ≤ wetP p r s n 4 th then (t - 1) ^ zc s n else 0)
theorem wU_s {p : PT} {r th n t v s : Nat} : wU p r th n t v (s + 1) = wU p r th n t v s + (if v ≤ wetP p r s n 4 th then (t - 1) ^ zc s n else 0) := rfl
theorem wU_le {p : PT} {r th n t v : Nat} (hn : n ≤ 7) (ht : t ≤ 20) : wU p r th n t v (2 ^ n) < 2 ^ 40 := by
  have h1 := sumN_le (f := fun s => if v ≤ wetP p r s n 4 th then (t - 1) ^ zc s n else 0) (c := 893871739) (n := 2 ^ n) (fun s hs => by
    show (if v ≤ wetP p r s n 4 th then (t - 1) ^ zc s n else 0) ≤ 893871739
    have a1 : (t - 1) ^ zc s n ≤ 19 ^ zc s n := Nat.pow_le_pow_left (by omega) _
    have a2 : 19 ^ zc s n ≤ 19 ^ 7 := Nat.pow_le_pow_right (by decide) (by have := zc_le (s := s) n; omega)
    have a3 : 19 ^ 7 = 893871739 := by decide
    split <;> omega)
  have h2 := p2le7 n hn
  unfold wU
  omega
theorem tn_le {n t : Nat} (hn : n ≤ 7) (ht : t ≤ 20) : t ^ n < 2 ^ 40 := by
  have a1 : t ^ n ≤ 20 ^ n := Nat.pow_le_pow_left ht _
  have a2 : 20 ^ n ≤ 20 ^ 7 := Nat.pow_le_pow_right (by decide) hn
  have a3 : 20 ^ 7 = 1280000000 := by decide
  omega
theorem X_powerL {b e : Nat} (he : e < 2 ^ 31) {Q : Int64 → Prop} (h : Q (lN (b ^ e))) : ∀ (n k : Nat), k + n = e → bX6_power_5 Q (n + 1) (lN b) (nI e) (lN (b ^ k)) (nI k) := by
  intro n
  induction n with
  | zero =>
    intro k hk
    rw [bX6_power_5, if_pos (nI_le (by omega) (by omega)), show k = e by omega]
    exact h
  | succ n ih =>
    intro k hk
    rw [bX6_power_5, if_neg (nI_ge (by omega) (by omega)), yN_mul, nI_1]
    rintro x rfl y rfl
    have := ih (k + 1) (by omega)
    rw [Nat.pow_succ] at this
    exact this
theorem X_power' {b e : Nat} (he : e < 2 ^ 31) {Q : Int64 → Prop} (h : Q (lN (b ^ e))) : wX6_power (lN b) (nI e) Q := ⟨_, X_powerL he h e 0 (by omega)⟩
theorem X_wetI {b : Nat} {p : PT} (hb : b < 1800) (ok : okP b p) {G P : RT} {r th n t v s : Nat} (hr : r < p 30 1) (hth : th < p 30 0) (hn : n ≤ 7) (h2 : 2 ≤ t) (h20 : t ≤ 20) (hv : v ≤ 20) (hs : s < 2 ^ n) {Q : Int64 → RT → Prop} {K6 : RT → Int32 → Int32 → Int32 → Int32 → Int32 → Int64 → Int32 → Prop} (h : ∀ T', K6 T' (nI r) (nI th) (nI n) (nI t) (nI v) (lN (wU p r th n t v (s + 1))) (nI (s + 1))) : ∀ (m k : Nat) (T : RT), k + m = n → repX T (wetP p r s k) → bX1_wetCases_24 K6 G P Q (m + 1) T (nI r) (nI th) (nI n) (nI t) (nI v) (lN (wU p r th n t v s)) (nI s) (nI k) := by
  have o1 := ok.1
  have o2 := ok.2.1
  have h128 := p2le7 n hn
  intro m
  induction m with
  | zero =>
    intro k T hk hT
    have ek : k = n := by omega
    subst ek
    have okk := okP_wet ok r s k
    have htk : th < wetP p r s k 30 0 := by rw [wetP_n]; exact hth
    have hh := (okk.2.2.2.1 th htk).2.2.2.2
    have hz := zc_pc k (by omega) s hs
    rw [bX1_wetCases_24, if_pos (nI_le (by omega) (by omega)), nI_clamp (by omega), (hT.2.2.2.1 th htk).2.2.2.2]
    refine ⟨(vin (by omega)).mpr (by omega), ?_⟩
    unfold bX1_wetCases_95
    rw [nI_1]
    have h' := h T
    rw [wU_s] at h'
    by_cases c : v ≤ wetP p r s k 4 th
    · rw [if_pos c] at h'
      rw [if_neg (nI_nlt c (by omega))]
      refine X_bitCount (by omega) ?_
      try dsimp only
      rw [l1, nS (by omega), nI_64 (by omega), nS hz.1, hz.2]
      refine X_power' (by have := zc_le (s := s) k; omega) ?_
      try dsimp only
      rw [yN_add]
      rintro x rfl y rfl
      exact h'
    · rw [if_neg c] at h'
      rw [if_pos (nI_lt (by omega) (by omega))]
      rintro y rfl
      exact h'
  | succ m ih =>
    intro k T hk hT
    have okk := okP_wet ok r s k
    rw [bX1_wetCases_24, if_neg (nI_ge (by omega) (by omega))]
    refine X_hb (by omega) (by omega) ?_
    try dsimp only
    unfold bX1_wetCases_51
    rw [nI_1]
    by_cases c : s.testBit k = true
    · rw [if_pos c, if_neg bz_k]
      refine X_goHour (b := b + k) (by omega) okk hT (fun T' hT' => ?_)
      try dsimp only
      rintro x rfl
      refine ih (k + 1) T' (by omega) ?_
      rw [wetP, if_pos c]
      exact hT'
    · rw [if_neg c, if_pos rfl]
      refine X_goHour (b := b + k) (by omega) okk hT (fun T' hT' => ?_)
      try dsimp only
      rintro x rfl
      refine ih (k + 1) T' (by omega) ?_
      rw [wetP, if_neg c]
      exact hT'
theorem X_wetL {b : Nat} {p : PT} (hb : b < 1800) (ok : okP b p) {G P : RT} (hx : repX P p) {r th n t v : Nat} (hr : r < p 30 1) (hth : th < p 30 0) (hn : n ≤ 7) (h2 : 2 ≤ t) (h20 : t ≤ 20) (hv : v ≤ 20) {Q : Int64 → RT → Prop} (h : ∀ T', Q (lN (wU p r th n t v (2 ^ n))) T') : ∀ (m s : Nat) (T : RT), s + m = 2 ^ n → bX1_wetCases_6 G P Q (m + 1) T (nI r) (nI th) (nI n) (nI t) (nI v) (lN (wU p r th n t v s)) (nI s) := by
  have h128 := p2le7 n hn
  intro m
  induction m with
  | zero =>
    intro s T hs
    rw [bX1_wetCases_6, sh1 _ (by omega), if_pos (nI_le (by omega) (by omega)), show s = 2 ^ n by omega]
    exact h T
  | succ m ih =>
    intro s T hs
    rw [bX1_wetCases_6, sh1 _ (by omega), if_neg (nI_ge (by omega) (by omega))]
    refine X_begin ok.1 ok.2.1 hx (fun T2 hT2 => ?_)
    try dsimp only
    exact ⟨_, X_wetI hb ok hr hth hn h2 h20 hv (by omega) (fun T' => ih (s + 1) T' (by omega)) n 0 T2 (by omega) hT2⟩
theorem X_wetCases {b : Nat} {p : PT} (hb : b < 1800) (ok : okP b p) {G T P : RT} (hx : repX P p) {r th n t v : Nat} (hr : r < p 30 1) (hth : th < p 30 0) (hn : n ≤ 7) (h2 : 2 ≤ t) (h20 : t ≤ 20) (hv : v ≤ 20) {Q : Int64 → RT → Prop} (h : ∀ T', Q (lN (wU p r th n t v (2 ^ n))) T') : wX1_wetCases G T P (nI r) (nI th) (nI n) (nI t) (nI v) Q := ⟨_, X_wetL hb ok hx hr hth hn h2 h20 hv h (2 ^ n) 0 T (by omega)⟩
theorem agW {B : Nat} {S0 S S2 : RT} {w : Int32} (h : agr B S0 (set2 S 30 11 (-9))) (f : FrH (set2 S 30 11 w) S2) : agr B S0 (set2 S2 30 11 (-9)) := by
  have r0 : ∀ a, a ≠ 5 → a ≠ 30 → set2 S2 30 11 (-9) a = set2 S 30 11 (-9) a := fun a h1 h2 => by rw [set2_a h2, set2_a h2, f.1 a h1 h2, set2_a h2]
  have r1 : ∀ k, k ≠ 10 → k ≠ 11 → set2 S2 30 11 (-9) 30 k = set2 S 30 11 (-9) 30 k := fun k h1 h2 => by rw [set2_b h2, set2_b h2, f.2 k h1, set2_b h2]
  exact ⟨(r0 0 (by decide) (by decide)).trans h.1, (r0 12 (by decide) (by decide)).trans h.2.1, (r0 25 (by decide) (by decide)).trans h.2.2.1, (r1 16 (by decide) (by decide)).trans h.2.2.2.1, (r1 20 (by decide) (by decide)).trans h.2.2.2.2.1, (r1 26 (by decide) (by decide)).trans h.2.2.2.2.2.1, by rw [set2_s, ← h.2.2.2.2.2.2.1, set2_s], fun b hb => by rw [r0 19 (by decide) (by decide)]; exact h.2.2.2.2.2.2.2 b hb⟩
theorem M_wetI {b : Nat} {p : PT} (hb : b < 1800) (ok : okP b p) {S0 : RT} {r th n t v s : Nat} (hr : r < p 30 1) (hth : th < p 30 0) (hn : n ≤ 7) (h2 : 2 ≤ t) (h20 : t ≤ 20) (hv : v ≤ 20) (hs : s < 2 ^ n) {x6 : Int32} {y10 : Int64} {Q : Int64 → RT → Prop} {K : RT → Int32 → Int32 → Int32 → Int32 → Int32 → Int32 → Int64 → Int64 → Int32 → Prop} (h : ∀ S', repM S' p → agr 110 S0 S' → K S' (nI r) (nI th) (nI n) (nI t) (nI v) x6 (lN (wU p r th n t v (s + 1))) y10 (nI (s + 1))) : ∀ (m k : Nat) (S : RT), k + m = n → repM S (wetP p r s k) → svM S 2 p → agr 110 S0 (set2 S 30 11 (-9)) → bX7_wet_145 K Q (m + 1) S (nI r) (nI th) (nI n) (nI t) (nI v) x6 (lN (wU p r th n t v s)) y10 (nI s) (lN ((t - 1) ^ zc s k)) (nI k) := by
  have o1 := ok.1
  have o2 := ok.2.1
  have h128 := p2le7 n hn
  intro m
  induction m with
  | zero =>
    intro k S hk hS hsv hg
    have ek : k = n := by omega
    subst ek
    have okk := okP_wet ok r s k
    have htk : th < wetP p r s k 30 0 := by rw [wetP_n]; exact hth
    have hh := (okk.2.2.2.1 th htk).2.2.2.2
    rw [bX7_wet_145, if_pos (nI_le (by omega) (by omega))]
    rintro S2 rfl
    rw [nI_clamp (by omega), set2_a (by decide), (hS.2.2.2.1 th htk).2.2.2.2]
    refine ⟨(vin (by omega)).mpr (by omega), ?_⟩
    unfold bX7_wet_230
    have fin : ∀ w : Nat, wU p r th k t v s + w = wU p r th k t v (s + 1) → ∀ y : Int64, y = lN (wU p r th k t v s) + lN w → wX7_forgets (set2 S 30 11 (-9)) (fun S_2 => ∀ x12_3 : Int32, x12_3 = nI s + 1 → K S_2 (nI r) (nI th) (nI k) (nI t) (nI v) x6 y y10 x12_3) := by
      intro w hw y hy
      rw [yN_add, hw] at hy
      subst hy
      refine M_end o1 o2 (svM.st hsv (by decide)) hg (fun S' g1 g2 => ?_)
      try dsimp only
      rw [nI_1]
      rintro x rfl
      exact h S' g1 g2
    by_cases c : v ≤ wetP p r s k 4 th
    · rw [if_neg (nI_nlt c (by omega))]
      exact fin ((t - 1) ^ zc s k) (by rw [wU_s, if_pos c])
    · rw [if_pos (nI_lt (by omega) (by omega))]
      exact fin 0 (by rw [wU_s, if_neg c])
  | succ m ih =>
    intro k S hk hS hsv hg
    have okk := okP_wet ok r s k
    rw [bX7_wet_145, if_neg (nI_ge (by omega) (by omega))]
    refine M_has (by omega) (by omega) ?_
    try dsimp only
    unfold bX7_wet_172 bX7_wet_192
    have go : ∀ (w : Int32), (if s.testBit k = true then nI r else -9) = w → ∀ S1 : RT, S1 = set2 S 30 11 w → wX7_goesHour S1 (fun S_2 => ∀ x15_3 : Int32, x15_3 = nI k + 1 → bX7_wet_145 K Q (m + 1) S_2 (nI r) (nI th) (nI n) (nI t) (nI v) x6 (lN (wU p r th n t v s)) y10 (nI s) (lN ((t - 1) ^ zc s (k + 1))) x15_3) := by
      rintro w hw S1 rfl
      refine M_goesHour (w := w) (b := b + k) (by omega) okk (hS.sc (by decide)) set2_s (fun S' g1 g2 => ?_)
      try dsimp only
      rw [nI_1]
      rintro x rfl
      refine ih (k + 1) S' (by omega) ?_ (sv_go o1 o2 (svM.st hsv (by decide)) g2) (agW hg g2)
      rw [wetP, hw]
      exact g1
    have hz : zc s (k + 1) = if s.testBit k = true then zc s k else zc s k + 1 := rfl
    by_cases c : s.testBit k = true
    · rw [if_pos c] at hz
      rw [if_pos c] at go
      rw [if_pos c, if_neg bz_k]
      rw [hz] at go
      rintro y rfl
      refine M_has (by omega) (by omega) ?_
      try dsimp only
      rw [if_pos c, if_neg bz_k, show (1 : Int64) = lN 1 from rfl, yN_mul, Nat.mul_one]
      exact go _ rfl
    · rw [if_neg c] at hz
      rw [if_neg c] at go
      rw [if_neg c, if_pos rfl]
      rw [hz] at go
      rintro y rfl
      refine M_has (by omega) (by omega) ?_
      try dsimp only
      rw [if_neg c, if_pos rfl, l1, nS (by omega), nI_64 (by omega), yN_mul]
      rw [Nat.pow_succ] at go
      exact go _ rfl
theorem M_wetL {b : Nat} {p : PT} (hb : b < 1800) (ok : okP b p) {S0 : RT} (hw : S0 30 11 = -9) {r th n t v : Nat} (hr : r < p 30 1) (hth : th < p 30 0) (hn : n ≤ 7) (h2 : 2 ≤ t) (h20 : t ≤ 20) (hv : v ≤ 20) {x6 : Int32} {dn : Nat} {Q : Int64 → RT → Prop} (h : ∀ S', repM S' p → agr 110 S0 S' → wX7_partOf (lN (wU p r th n t v (2 ^ n))) (lN dn) x6 (fun r_2 => Q r_2 S')) : ∀ (m s : Nat) (S : RT), s + m = 2 ^ n → repM S p → agr 110 S0 S → bX7_wet_127 Q (m + 1) S (nI r) (nI th) (nI n) (nI t) (nI v) x6 (lN (wU p r th n t v s)) (lN dn) (nI s) := by
  have h128 := p2le7 n hn
  intro m
  induction m with
  | zero =>
    intro s S hs hS hg
    rw [bX7_wet_127, sh1 _ (by omega), if_pos (nI_le (by omega) (by omega)), show s = 2 ^ n by omega]
    exact h S hS hg
  | succ m ih =>
    intro s S hs hS hg
    rw [bX7_wet_127, sh1 _ (by omega), if_neg (nI_ge (by omega) (by omega))]
    refine M_thinks ok.1 ok.2.1 hS (fun S1 g1 g2 g3 => ?_)
    try dsimp only
    have e11 : S1 30 11 = -9 := by rw [g3.2.2.2.2.2.2.1, hg.2.2.2.2.2.2.1]; exact hw
    have es : set2 S1 30 11 (-9) = S1 := by
      funext a b
      unfold set2
      by_cases q : a = 30
      · subst q
        by_cases q2 : b = 11
        · subst q2; rw [if_pos rfl, if_pos rfl]; exact e11.symm
        · rw [if_pos rfl, if_neg q2]
      · rw [if_neg q]
    exact ⟨_, M_wetI hb ok hr hth hn h2 h20 hv (by omega) (fun S' q1 q2 => ih (s + 1) S' (by omega) q1 q2) n 0 S1 (by omega) g1 g2 (by rw [es]; exact hg.tr g3)⟩
theorem M_wetP {b : Nat} {p : PT} (hb : b < 1800) (ok : okP b p) {S : RT} (hm : repM S p) (hw : S 30 11 = -9) {r th n t v : Nat} (hr : r < p 30 1) (hth : th < p 30 0) (hn : n ≤ 7) (h2 : 2 ≤ t) (h20 : t ≤ 20) (hv : v ≤ 20) {x6 : Int32} {Q : Int64 → RT → Prop} (h : ∀ S', repM S' p → agr 110 S S' → wX7_partOf (lN (wU p r th n t v (2 ^ n))) (lN (t ^ n)) x6 (fun r_2 => Q r_2 S')) : ∀ (m k : Nat), k + m = n → bX7_wet_104 Q (m + 1) S (nI r) (nI th) (nI n) (nI t) (nI v) x6 (0 : Int64) (lN (t ^ k)) (nI k) := by
  intro m
  induction m with
  | zero =>
    intro k hk
    rw [bX7_wet_104, if_pos (nI_le (by omega) (by omega)), show k = n by omega]
    exact ⟨_, M_wetL hb ok hw hr hth hn h2 h20 hv h (2 ^ n) 0 S (by omega) hm agr.rf⟩
  | succ m ih =>
    intro k hk
    rw [bX7_wet_104, if_neg (nI_ge (by omega) (by omega)), nI_64 (by omega), yN_mul, nI_1]
    rintro x rfl y rfl
    have := ih (k + 1) (by omega)
    rw [Nat.pow_succ] at this
    exact this
theorem M_wet {b : Nat} {p : PT} (hb : b < 1800) (ok : okP b p) {S : RT} (hm : repM S p) (hw : S 30 11 = -9) {r th n t v : Nat} (hr : r < p 30 1) (hth : th < p 30 0) (hn : n ≤ 7) (h2 : 2 ≤ t) (h20 : t ≤ 20) (hv : v ≤ 20) {x6 : Int32} {Q : Int64 → RT → Prop} (h : ∀ S', repM S' p → agr 110 S S' → wX7_partOf (lN (wU p r th n t v (2 ^ n))) (lN (t ^ n)) x6 (fun r_2 => Q r_2 S')) : ∃ j : Nat, bX7_wet_104 Q j S (nI r) (nI th) (nI n) (nI t) (nI v) x6 (0 : Int64) (1 : Int64) 0 := ⟨_, M_wetP hb ok hm hw hr hth hn h2 h20 hv h n 0 (by omega)⟩
theorem st_wet : St_wet Inv9 := by
  intro F P K G T N L S hI a1 a2 a3 a4 a5 a6
  obtain ⟨p, ok, hx, hm, hq⟩ := hI
  have o1 := ok.1
  have o2 := ok.2.1
  unfold wX6_wet wX6_wetFault wX7_wet bX7_wet_16 bX7_wet_35 bX7_wet_60
  rcases ixc a1 (p 30 1) (by omega) with ⟨r, hr, rfl⟩ | c1
  · refine X_hR hx.2.1 hr (by omega) ?_
    try dsimp only
    rw [if_neg bz_k]
    have mr : ∀ {Q : Int32 → Prop}, Q 1 → wX7_isRope S (nI r) Q := fun h => M_iR hm.2.1 hr (by omega) h
    rcases ixc a2 (p 30 0) (by omega) with ⟨th, ht, rfl⟩ | c2
    · refine X_hT hx.1 ht o1 ?_
      try dsimp only
      rw [if_neg bz_k]
      have mt : ∀ {Q : Int32 → Prop}, Q 1 → wX7_isThing S (nI th) Q := fun h => M_iT hm.1 ht o1 h
      by_cases c3 : a3 < 0
      · rw [if_pos c3, if_neg (by decide)]
        unfold bX6_wet_33
        rw [if_neg (by decide)]
        refine X_refL 4 (by decide) (by decide) (mr ?_)
        try dsimp only
        try dsimp only
        rw [if_neg bz_k]
        refine mt ?_
        try dsimp only
        rw [if_neg bz_k, if_pos c3]
        unfold bX7_wet_81
        rw [if_neg (by decide)]
        exact M_lowest 4 (by decide) (by decide) ⟨rfl, Inv9.ref ok hx hm hq 4 G T⟩
      rw [if_neg c3]
      by_cases c5 : a5 < 0
      · rw [if_pos c5, if_neg (by decide)]
        unfold bX6_wet_33
        rw [if_neg (by decide)]
        refine X_refL 4 (by decide) (by decide) (mr ?_)
        try dsimp only
        try dsimp only
        rw [if_neg bz_k]
        refine mt ?_
        try dsimp only
        rw [if_neg bz_k, if_neg c3, if_pos c5]
        unfold bX7_wet_81
        rw [if_neg (by decide)]
        exact M_lowest 4 (by decide) (by decide) ⟨rfl, Inv9.ref ok hx hm hq 4 G T⟩
      rw [if_neg c5]
      by_cases c4 : ¬ 2 ≤ a4
      · rw [if_neg c4, if_neg (by decide)]
        unfold bX6_wet_33
        rw [if_neg (by decide)]
        refine X_refL 4 (by decide) (by decide) (mr ?_)
        try dsimp only
        try dsimp only
        rw [if_neg bz_k]
        refine mt ?_
        try dsimp only
        rw [if_neg bz_k, if_neg c3, if_neg c5, if_neg c4]
        unfold bX7_wet_81
        rw [if_neg (by decide)]
        exact M_lowest 4 (by decide) (by decide) ⟨rfl, Inv9.ref ok hx hm hq 4 G T⟩
      rw [if_pos (Classical.not_not.mp c4)]
      by_cases d3 : 7 < a3
      · rw [if_pos d3, if_neg (by decide)]
        unfold bX6_wet_33
        rw [if_neg (by decide)]
        refine X_refL 6 (by decide) (by decide) (mr ?_)
        try dsimp only
        try dsimp only
        rw [if_neg bz_k]
        refine mt ?_
        try dsimp only
        rw [if_neg bz_k, if_neg c3, if_neg c5, if_pos (Classical.not_not.mp c4), if_pos d3]
        unfold bX7_wet_81
        rw [if_neg (by decide)]
        exact M_lowest 6 (by decide) (by decide) ⟨rfl, Inv9.ref ok hx hm hq 6 G T⟩
      rw [if_neg d3]
      by_cases d4 : 20 < a4
      · rw [if_pos d4, if_neg (by decide)]
        unfold bX6_wet_33
        rw [if_neg (by decide)]
        refine X_refL 6 (by decide) (by decide) (mr ?_)
        try dsimp only
        try dsimp only
        rw [if_neg bz_k]
        refine mt ?_
        try dsimp only
        rw [if_neg bz_k, if_neg c3, if_neg c5, if_pos (Classical.not_not.mp c4), if_neg d3, if_pos d4]
        unfold bX7_wet_81
        rw [if_neg (by decide)]
        exact M_lowest 6 (by decide) (by decide) ⟨rfl, Inv9.ref ok hx hm hq 6 G T⟩
      rw [if_neg d4]
      by_cases d5 : ¬ a5 ≤ 20
      · rw [if_neg d5, if_neg (by decide)]
        unfold bX6_wet_33
        rw [if_neg (by decide)]
        refine X_refL 6 (by decide) (by decide) (mr ?_)
        try dsimp only
        try dsimp only
        rw [if_neg bz_k]
        refine mt ?_
        try dsimp only
        rw [if_neg bz_k, if_neg c3, if_neg c5, if_pos (Classical.not_not.mp c4), if_neg d3, if_neg d4, if_neg d5]
        unfold bX7_wet_81
        rw [if_neg (by decide)]
        exact M_lowest 6 (by decide) (by decide) ⟨rfl, Inv9.ref ok hx hm hq 6 G T⟩
      rw [if_pos (Classical.not_not.mp d5)]
      rw [if_pos rfl]
      have mall : ∀ {Q : Int64 → RT → Prop} (x : Int32), (if 0 ≤ a6 ∧ a6 ≤ 1 then (0 : Int32) else -2) = x → bX7_wet_81 Q S (nI r) (nI th) a3 a4 a5 a6 x → wX7_wet S (nI r) (nI th) a3 a4 a5 a6 Q := by
        intro Q x hx6 h
        unfold wX7_wet
        refine mr ?_
        rw [if_neg bz_k]
        refine mt ?_
        try dsimp only
        rw [if_neg bz_k, if_neg c3, if_neg c5, if_pos (Classical.not_not.mp c4), if_neg d3, if_neg d4, if_pos (Classical.not_not.mp d5)]
        refine M_isIn ?_
        try dsimp only
        by_cases q : 0 ≤ a6 ∧ a6 ≤ 1
        · rw [if_pos q] at hx6; rw [if_pos q, if_neg bz_k, hx6]; exact h
        · rw [if_neg q] at hx6; rw [if_neg q, if_pos rfl, hx6]; exact h
      unfold wX7_wet bX7_wet_16 bX7_wet_35 bX7_wet_60 at mall
      obtain ⟨n, hn, e3⟩ := nI_of2 (M := 7) (n := 7) rfl c3 (Classical.not_not.mp (fun q => d3 (il.mpr q)))
      obtain ⟨v, hv, e5⟩ := nI_of2 (M := 20) (n := 20) rfl c5 (Classical.not_not.mp d5)
      have c4' := Classical.not_not.mp c4
      obtain ⟨t, h20, e4⟩ := nI_of2 (M := 20) (n := 20) rfl (fun q => by have h1 := Int32.lt_iff_toInt_lt.mp q; have h2 := Int32.le_iff_toInt_le.mp c4'; have e1 : (2 : Int32).toInt = 2 := rfl; have e2 : (0 : Int32).toInt = 0 := rfl; omega) (Classical.not_not.mp (fun q => d4 (il.mpr q)))
      have h2 : 2 ≤ t := by
        by_cases q : 2 ≤ t
        · exact q
        · rw [e4] at c4'; exact absurd c4' (show ¬ nI 2 ≤ nI t from nI_ge (by omega) (by omega))
      have yes : (a6 = 0 ∨ a6 = 1) → bX6_wet_33 P K G N L (fun r_1 F_1 T_1 => wX7_wet S (nI r) (nI th) a3 a4 a5 a6 (fun r_2 S_2 => r_1 = r_2 ∧ Inv9 F_1 P K G T_1 N L S_2)) F T (nI r) (nI th) a3 a4 a5 a6 0 := by
        intro ha
        unfold bX6_wet_33 wX7_wet bX7_wet_16 bX7_wet_35 bX7_wet_60
        rw [if_pos rfl]
        subst e3 e4 e5
        refine X_wetCases (b := 999) (by decide) ok hx hr ht hn h2 h20 hv (fun T' => ?_)
        try dsimp only
        rw [nI_64 (by omega)]
        refine X_power' (by omega) ?_
        try dsimp only
        have hb := wU_le (p := p) (r := r) (th := th) (v := v) hn h20
        have hd := tn_le hn h20
        refine X_least (by omega) (by omega) (Nat.pow_pos (by omega)) ?_
        try dsimp only
        refine mall 0 (by rw [if_pos (by rcases ha with rfl | rfl <;> decide)]) ?_
        unfold bX7_wet_81
        rw [if_pos rfl]
        exact M_wet (b := 999) (by decide) ok hm hq.1 hr ht hn h2 h20 hv (fun S' h6 h7 => M_part (by omega) (by omega) (Nat.pow_pos (by omega)) ⟨rfl, Inv9.ag ok hx hq h6 h7 _ _⟩)
      unfold wX7_wet bX7_wet_16 bX7_wet_35 bX7_wet_60 at yes
      by_cases p0 : a6 = 0
      · rw [if_pos p0]; exact yes (Or.inl p0)
      rw [if_neg p0]
      by_cases p1 : a6 = 1
      · rw [if_pos p1]; exact yes (Or.inr p1)
      rw [if_neg p1]
      unfold bX6_wet_33
      rw [if_neg (by decide)]
      refine X_refL 2 (by decide) (by decide) ?_
      try dsimp only
      refine mall (-2) (by rw [if_neg (in01 p0 p1)]) ?_
      unfold bX7_wet_81
      rw [if_neg (by decide)]
      exact M_lowest 2 (by decide) (by decide) ⟨rfl, Inv9.ref ok hx hm hq 2 G T⟩
    · refine X_hT_no hx.1 c2 ?_
      try dsimp only
      rw [if_pos rfl, if_neg (by decide)]
      unfold bX6_wet_33
      rw [if_neg (by decide)]
      refine X_refL 1 (by decide) (by decide) (mr ?_)
      try dsimp only
      try dsimp only
      rw [if_neg bz_k]
      refine M_iT_no hm.1 c2 ?_
      try dsimp only
      rw [if_pos rfl]
      unfold bX7_wet_81
      rw [if_neg (by decide)]
      exact M_lowest 1 (by decide) (by decide) ⟨rfl, Inv9.ref ok hx hm hq 1 G T⟩
  · refine X_hR_no hx.2.1 c1 ?_
    try dsimp only
    rw [if_pos rfl, if_neg (by decide)]
    unfold bX6_wet_33
    rw [if_neg (by decide)]
    refine X_refL 1 (by decide) (by decide) ?_
    try dsimp only
    refine M_iR_no hm.2.1 c1 ?_
    try dsimp only
    rw [if_pos rfl]
    unfold bX7_wet_81
    rw [if_neg (by decide)]
    exact M_lowest 1 (by decide) (by decide) ⟨rfl, Inv9.ref ok hx hm hq 1 G T⟩
