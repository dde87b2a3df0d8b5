/-! ===== PURE: what is reached by ropes ===== -/
def stp (g : Nat → Nat → Bool) (e : Nat → Nat) (r s : Nat) : Nat := if g r s = true then s ||| e r else s
def rnd (g : Nat → Nat → Bool) (e : Nat → Nat) : Nat → Nat → Nat
  | 0, s => s
  | r + 1, s => stp g e r (rnd g e r s)
def itr (g : Nat → Nat → Bool) (e : Nat → Nat) (m : Nat) : Nat → Nat → Nat
  | 0, s => s
  | k + 1, s => rnd g e m (itr g e m k s)
theorem stp_D {g : Nat → Nat → Bool} {e : Nat → Nat} {r r' s : Nat} (h : s ||| e r' = s) : stp g e r s ||| e r' = stp g e r s := by
  unfold stp
  by_cases c : g r s = true
  · rw [if_pos c, Nat.or_assoc, Nat.or_comm (e r), ← Nat.or_assoc, h]
  · rw [if_neg c]; exact h
theorem rnd_D {g : Nat → Nat → Bool} {e : Nat → Nat} {r' s : Nat} (h : s ||| e r' = s) : ∀ k, rnd g e k s ||| e r' = rnd g e k s
  | 0 => h
  | k + 1 => stp_D (rnd_D h k)
theorem rnd_new {g : Nat → Nat → Bool} {e : Nat → Nat} {s : Nat} : ∀ k, rnd g e k s = s ∨ ∃ r, r < k ∧ ¬ s ||| e r = s ∧ rnd g e k s ||| e r = rnd g e k s
  | 0 => Or.inl rfl
  | k + 1 => by
    by_cases c : stp g e k (rnd g e k s) = rnd g e k s
    · rcases rnd_new (g := g) (e := e) (s := s) k with h | ⟨r, h1, h2, h3⟩
      · exact Or.inl (by rw [rnd, c]; exact h)
      · exact Or.inr ⟨r, by omega, h2, by rw [rnd, c]; exact h3⟩
    · refine Or.inr ⟨k, by omega, fun q => ?_, ?_⟩
      · have := rnd_D (g := g) q k
        apply c
        unfold stp
        by_cases d : g k (rnd g e k s) = true
        · rw [if_pos d]; exact this
        · rw [if_neg d]
      · rw [rnd]
        unfold stp at c ⊢
        by_cases d : g k (rnd g e k s) = true
        · rw [if_pos d, Nat.or_assoc, Nat.or_self]
        · rw [if_neg d] at c; exact absurd rfl c
theorem rnd_all {g : Nat → Nat → Bool} {e : Nat → Nat} {s m : Nat} (h : ∀ r, r < m → s ||| e r = s) : ∀ k, k ≤ m → rnd g e k s = s
  | 0, _ => rfl
  | k + 1, hk => by
    rw [rnd, rnd_all h k (by omega)]
    unfold stp
    by_cases d : g k s = true
    · rw [if_pos d]; exact h k (by omega)
    · rw [if_neg d]
def dn (e : Nat → Nat) (s : Nat) : Nat → Nat := sumN (fun r => if s ||| e r = s then 1 else 0)
theorem sumN_mono {f g : Nat → Nat} : ∀ {n : Nat}, (∀ i, i < n → f i ≤ g i) → sumN f n ≤ sumN g n
  | 0, _ => Nat.le_refl _
  | n + 1, h => by
    have h1 := sumN_mono (f := f) (g := g) (n := n) (fun i hi => h i (by omega))
    have h2 := h n (by omega)
    show sumN f n + f n ≤ sumN g n + g n
    omega
theorem sumN_lt {f g : Nat → Nat} {r : Nat} : ∀ {n : Nat}, (∀ i, i < n → f i ≤ g i) → r < n → f r < g r → sumN f n < sumN g n
  | 0, _, hr, _ => by omega
  | n + 1, h, hr, hlt => by
    show sumN f n + f n < sumN g n + g n
    have h2 := h n (by omega)
    by_cases c : r = n
    · subst c
      have h1 := sumN_mono (f := f) (g := g) (n := r) (fun i hi => h i (by omega))
      omega
    · have h1 := sumN_lt (f := f) (g := g) (n := n) (fun i hi => h i (by omega)) (show r < n by omega) hlt
      omega
theorem dn_le {e : Nat → Nat} {s m : Nat} : dn e s m ≤ m := by
  have := sumN_le (f := fun r => if s ||| e r = s then 1 else 0) (c := 1) (n := m) (fun i hi => by show (if s ||| e i = s then 1 else 0) ≤ 1; split <;> omega)
  unfold dn
  omega
theorem dn_all {e : Nat → Nat} {s m : Nat} (h : m ≤ dn e s m) (r : Nat) (hr : r < m) : s ||| e r = s := by
  by_cases c : s ||| e r = s
  · exact c
  · exfalso
    have h1 := sumN_lt (f := fun r => if s ||| e r = s then 1 else 0) (g := fun _ => 1) (r := r) (n := m) (fun i hi => by show (if s ||| e i = s then 1 else 0) ≤ 1; split <;> omega) hr (by show (if s ||| e r = s then 1 else 0) < 1; rw [if_neg c]; omega)
    have h2 := sumN_le (f := fun _ : Nat => 1) (c := 1) (n := m) (fun i hi => Nat.le_refl _)
    unfold dn at h
    omega
theorem dn_grow {g : Nat → Nat → Bool} {e : Nat → Nat} {s m : Nat} (h : ¬ rnd g e m s = s) : dn e s m < dn e (rnd g e m s) m := by
  rcases rnd_new (g := g) (e := e) (s := s) m with q | ⟨r, h1, h2, h3⟩
  · exact absurd q h
  · refine sumN_lt (r := r) (fun i hi => ?_) h1 ?_
    · show (if s ||| e i = s then 1 else 0) ≤ (if rnd g e m s ||| e i = rnd g e m s then 1 else 0)
      by_cases c : s ||| e i = s
      · rw [if_pos c, if_pos (rnd_D c m)]; omega
      · rw [if_neg c]; omega
    · show (if s ||| e r = s then 1 else 0) < (if rnd g e m s ||| e r = rnd g e m s then 1 else 0)
      rw [if_neg h2, if_pos h3]; omega
theorem itr_or {g : Nat → Nat → Bool} {e : Nat → Nat} {s m : Nat} : ∀ k, rnd g e m (itr g e m k s) = itr g e m k s ∨ k ≤ dn e (itr g e m k s) m
  | 0 => Or.inr (by omega)
  | k + 1 => by
    by_cases c : rnd g e m (itr g e m k s) = itr g e m k s
    · exact Or.inl (by rw [itr, c, c])
    · rcases itr_or (g := g) (e := e) (s := s) (m := m) k with h | h
      · exact absurd h c
      · refine Or.inr ?_
        have := dn_grow c
        rw [itr]
        omega
theorem itr_fix {g : Nat → Nat → Bool} {e : Nat → Nat} {s m : Nat} : rnd g e m (itr g e m m s) = itr g e m m s := by
  rcases itr_or (g := g) (e := e) (s := s) (m := m) m with h | h
  · exact h
  · exact rnd_all (dn_all h) m (Nat.le_refl _)
theorem itr_more {g : Nat → Nat → Bool} {e : Nat → Nat} {s m : Nat} : ∀ j, itr g e m (m + j) s = itr g e m m s
  | 0 => rfl
  | j + 1 => by
    show rnd g e m (itr g e m (m + j) s) = _
    rw [itr_more j, itr_fix]
theorem itr_8 {g : Nat → Nat → Bool} {e : Nat → Nat} {s m : Nat} (h : m ≤ 8) : itr g e m 8 s = itr g e m m s := by
  have := itr_more (g := g) (e := e) (s := s) (m := m) (8 - m)
  rw [show m + (8 - m) = 8 by omega] at this
  exact this
theorem rnd_lt {g : Nat → Nat → Bool} {e : Nat → Nat} {s m : Nat} (hs : s < 256) (he : ∀ r, r < m → e r < 256) : ∀ k, k ≤ m → rnd g e k s < 256
  | 0, _ => hs
  | k + 1, hk => by
    have h1 := rnd_lt (g := g) hs he k (by omega)
    rw [rnd]
    unfold stp
    by_cases d : g k (rnd g e k s) = true
    · rw [if_pos d]; exact Nat.or_lt_two_pow (n := 8) h1 (he k (by omega))
    · rw [if_neg d]; exact h1
theorem itr_lt {g : Nat → Nat → Bool} {e : Nat → Nat} {s m : Nat} (hs : s < 256) (he : ∀ r, r < m → e r < 256) : ∀ k, itr g e m k s < 256
  | 0 => hs
  | k + 1 => rnd_lt (itr_lt hs he k) he m (Nat.le_refl _)
theorem rnd_tb {g : Nat → Nat → Bool} {e : Nat → Nat} {s t : Nat} (h : s.testBit t = true) : ∀ k, (rnd g e k s).testBit t = true
  | 0 => h
  | k + 1 => by
    have h1 := rnd_tb (g := g) (e := e) h k
    rw [rnd]
    unfold stp
    by_cases d : g k (rnd g e k s) = true
    · rw [if_pos d, Nat.testBit_or, h1]; rfl
    · rw [if_neg d]; exact h1
theorem itr_tb {g : Nat → Nat → Bool} {e : Nat → Nat} {s t m : Nat} (h : s.testBit t = true) : ∀ k, (itr g e m k s).testBit t = true
  | 0 => h
  | k + 1 => rnd_tb (itr_tb h k) m
theorem p2lt : ∀ a, a < 8 → 2 ^ a < 256 := by decide
theorem p2tb : ∀ a, a < 8 → (2 ^ a).testBit a = true := by decide
/-- chains -/
def gC (p : PT) (r s : Nat) : Bool := s.testBit (p 5 r) || s.testBit (p 6 r)
def eC (p : PT) (r : Nat) : Nat := 2 ^ p 5 r ||| 2 ^ p 6 r
def chn (p : PT) (t : Nat) : Nat := itr (gC p) (eC p) (p 30 1) 8 (2 ^ t)
theorem eC_lt {b : Nat} {p : PT} (ok : okP b p) {r : Nat} (hr : r < p 30 1) : eC p r < 256 := by
  have := ok.2.2.2.2 r hr
  have := ok.1
  exact Nat.or_lt_two_pow (n := 8) (p2lt _ (by omega)) (p2lt _ (by omega))
theorem chn_lt {b : Nat} {p : PT} (ok : okP b p) {t : Nat} (ht : t < p 30 0) : chn p t < 256 := by
  have := ok.1
  exact itr_lt (p2lt _ (by omega)) (fun r hr => eC_lt ok hr) 8
theorem and2 : ∀ a, a < 8 → ∀ s, s < 256 → (s &&& 2 ^ a = 0 ↔ s.testBit a = false) := by decide +kernel
theorem gC_0 {b : Nat} {p : PT} (ok : okP b p) {r s : Nat} (hr : r < p 30 1) (hs : s < 256) : (nI s &&& nI (eC p r)) = 0 ↔ gC p r s = false := by
  have h1 := ok.2.2.2.2 r hr
  have h2 := ok.1
  have a5 := and2 (p 5 r) (by omega) s hs
  have a6 := and2 (p 6 r) (by omega) s hs
  have hle : s &&& eC p r ≤ s := Nat.and_le_left
  rw [nx_and]
  have e0 : nI (s &&& eC p r) = 0 ↔ s &&& eC p r = 0 := nI_eq (b := 0) (by omega) (by omega)
  rw [e0]
  unfold eC gC
  rw [Nat.and_or_distrib_left, Bool.or_eq_false_iff, ← a5, ← a6]
  constructor
  · intro h
    have q1 := Nat.left_le_or (n := s &&& 2 ^ p 5 r) (m := s &&& 2 ^ p 6 r)
    have q2 := Nat.right_le_or (n := s &&& 2 ^ p 5 r) (m := s &&& 2 ^ p 6 r)
    omega
  · rintro ⟨h1, h2⟩
    rw [h1, h2]; rfl
theorem gC_1 {p : PT} {r s : Nat} (h : s.testBit (p 5 r) = true) : gC p r s = true := by unfold gC; rw [h]; rfl
theorem gC_2 {p : PT} {r s : Nat} (h : s.testBit (p 6 r) = true) : gC p r s = true := by unfold gC; rw [h, Bool.or_true]
theorem gC_n {p : PT} {r s : Nat} (h1 : s.testBit (p 5 r) = false) (h2 : s.testBit (p 6 r) = false) : ¬ gC p r s = true := by unfold gC; rw [h1, h2]; decide
theorem X_chainI {b : Nat} {P : RT} {p : PT} (ok : okP b p) (hr : repX P p) {s i : Nat} (hs : s < 256) {Q : Int32 → Prop} {K6 : Int32 → Int32 → Prop} (h : K6 (nI (rnd (gC p) (eC p) (p 30 1) s)) (nI (i + 1))) : ∀ (n k : Nat), k + n = p 30 1 → bX2_hangingWith_17 K6 P Q (n + 1) (nI (rnd (gC p) (eC p) k s)) (nI i) (nI k) := by
  have o1 := ok.1
  have o2 := ok.2.1
  intro n
  induction n with
  | zero =>
    intro k hk
    rw [bX2_hangingWith_17, hr.2.1, if_pos (nI_le (by omega) (by omega)), nI_1]
    have : k = p 30 1 := by omega
    rw [this]
    rintro x rfl
    exact h
  | succ n ih =>
    intro k hk
    have hk0 : k < p 30 1 := by omega
    have o5 := ok.2.2.2.2 k hk0
    have hl := rnd_lt (g := gC p) hs (fun r hr => eC_lt ok hr) k (by omega)
    rw [bX2_hangingWith_17, hr.2.1, if_neg (nI_ge (by omega) (by omega)), nI_clamp (by omega), (hr.2.2.2.2 k hk0).1, (hr.2.2.2.2 k hk0).2, sh1 _ (by omega), sh1 _ (by omega), nx_or]
    refine ⟨(vin (by omega)).mpr (by omega), ?_⟩
    unfold bX2_hangingWith_59
    rintro x rfl
    have := ih (k + 1) (by omega)
    rw [rnd] at this
    unfold stp at this
    rw [nI_1]
    by_cases c : gC p k (rnd (gC p) (eC p) k s) = true
    · rw [if_pos c] at this
      rw [if_neg (show ¬ (nI (rnd (gC p) (eC p) k s) &&& nI (2 ^ p 5 k ||| 2 ^ p 6 k)) = 0 from fun q => by have := (gC_0 ok hk0 hl).mp q; rw [c] at this; cases this), nx_or]
      rintro x rfl y rfl
      exact this
    · rw [if_neg c] at this
      rw [if_pos (show (nI (rnd (gC p) (eC p) k s) &&& nI (2 ^ p 5 k ||| 2 ^ p 6 k)) = 0 from (gC_0 ok hk0 hl).mpr (by simpa using c))]
      rintro y rfl
      exact this
theorem X_chainL {b : Nat} {P : RT} {p : PT} (ok : okP b p) (hr : repX P p) {s : Nat} (hs : s < 256) {Q : Int32 → Prop} (h : Q (nI (itr (gC p) (eC p) (p 30 1) (p 30 1) s))) : ∀ (n i : Nat), i + n = p 30 1 → bX2_hangingWith_6 P Q (n + 1) (nI (itr (gC p) (eC p) (p 30 1) i s)) (nI i) := by
  have o2 := ok.2.1
  intro n
  induction n with
  | zero =>
    intro i hi
    rw [bX2_hangingWith_6, hr.2.1, if_pos (nI_le (by omega) (by omega))]
    have : i = p 30 1 := by omega
    rw [this]
    exact h
  | succ n ih =>
    intro i hi
    rw [bX2_hangingWith_6, hr.2.1, if_neg (nI_ge (by omega) (by omega))]
    exact ⟨_, X_chainI ok hr (itr_lt hs (fun r hr => eC_lt ok hr) i) (ih (i + 1) (by omega)) (p 30 1) 0 (by omega)⟩
theorem X_chain {b : Nat} {P : RT} {p : PT} (ok : okP b p) (hr : repX P p) {t : Nat} (ht : t < p 30 0) {Q : Int32 → Prop} (h : Q (nI (chn p t))) : wX2_hangingWith P (nI t) Q := by
  have o1 := ok.1
  have o2 := ok.2.1
  unfold wX2_hangingWith
  rw [sh1 _ (by omega)]
  rintro x rfl
  refine ⟨_, X_chainL ok hr (p2lt _ (by omega)) ?_ (p 30 1) 0 (by omega)⟩
  rw [← itr_8 (by omega)]
  exact h
theorem M_chainI {b : Nat} {S : RT} {p : PT} (ok : okP b p) (hr : repM S p) {s i : Nat} (hs : s < 256) {Q : Int32 → Prop} {K6 : Int32 → Int32 → Prop} (h : K6 (nI (rnd (gC p) (eC p) (p 30 1) s)) (nI (i + 1))) : ∀ (n k : Nat), k + n = p 30 1 → bX7_chainOf_15 K6 S Q (n + 1) (nI (rnd (gC p) (eC p) k s)) (nI i) (nI k) := by
  have o1 := ok.1
  have o2 := ok.2.1
  intro n
  induction n with
  | zero =>
    intro k hk
    rw [bX7_chainOf_15, hr.2.1, if_pos (nI_le (by omega) (by omega)), nI_1]
    have : k = p 30 1 := by omega
    rw [this]
    rintro x rfl
    exact h
  | succ n ih =>
    intro k hk
    have hk0 : k < p 30 1 := by omega
    have o5 := ok.2.2.2.2 k hk0
    have hl := rnd_lt (g := gC p) hs (fun r hr => eC_lt ok hr) k (by omega)
    have hV : vp_in (nI k) 6 := (vin (by omega)).mpr (by omega)
    have := ih (k + 1) (by omega)
    rw [rnd] at this
    unfold stp at this
    rw [bX7_chainOf_15, hr.2.1, if_neg (nI_ge (by omega) (by omega)), nI_clamp (by omega), (hr.2.2.2.2 k hk0).1, (hr.2.2.2.2 k hk0).2]
    refine ⟨hV, ?_⟩
    unfold bX7_chainOf_52 bX7_chainOf_74
    rw [nI_clamp (by omega), (hr.2.2.2.2 k hk0).1, (hr.2.2.2.2 k hk0).2, sh1 _ (by omega), sh1 _ (by omega), nx_or, nx_or, nI_1]
    refine M_has hl (by omega) ?_
    try dsimp only
    by_cases c1 : (rnd (gC p) (eC p) k s).testBit (p 5 k) = true
    · rw [if_pos (gC_1 c1)] at this
      rw [if_pos c1, if_neg bz_k]
      refine ⟨hV, ?_⟩
      rintro x rfl y rfl
      exact this
    · have c1f : (rnd (gC p) (eC p) k s).testBit (p 5 k) = false := by simpa using c1
      rw [if_neg c1, if_pos rfl]
      refine M_has hl (by omega) ?_
      try dsimp only
      by_cases c2 : (rnd (gC p) (eC p) k s).testBit (p 6 k) = true
      · rw [if_pos (gC_2 c2)] at this
        rw [if_pos c2, if_neg bz_k]
        refine ⟨hV, ?_⟩
        rintro x rfl y rfl
        exact this
      · have c2f : (rnd (gC p) (eC p) k s).testBit (p 6 k) = false := by simpa using c2
        rw [if_neg (gC_n c1f c2f)] at this
        rw [if_neg c2, if_pos rfl]
        rintro y rfl
        exact this
theorem M_chainL {b : Nat} {S : RT} {p : PT} (ok : okP b p) (hr : repM S p) {s : Nat} (hs : s < 256) {Q : Int32 → Prop} (h : Q (nI (itr (gC p) (eC p) (p 30 1) 8 s))) : ∀ (n i : Nat), i + n = 8 → bX7_chainOf_6 S Q (n + 1) (nI (itr (gC p) (eC p) (p 30 1) i s)) (nI i) := by
  have o2 := ok.2.1
  intro n
  induction n with
  | zero =>
    intro i hi
    have : i = 8 := by omega
    subst this
    rw [bX7_chainOf_6, if_pos (by decide)]
    exact h
  | succ n ih =>
    intro i hi
    rw [bX7_chainOf_6, l8, if_neg (nI_ge (by omega) (by omega))]
    exact ⟨_, M_chainI ok hr (itr_lt hs (fun r hr => eC_lt ok hr) i) (ih (i + 1) (by omega)) (p 30 1) 0 (by omega)⟩
theorem M_chain {b : Nat} {S : RT} {p : PT} (ok : okP b p) (hr : repM S p) {t : Nat} (ht : t < p 30 0) {Q : Int32 → Prop} (h : Q (nI (chn p t))) : wX7_chainOf S (nI t) Q := by
  have o1 := ok.1
  unfold wX7_chainOf
  rw [sh1 _ (by omega)]
  rintro x rfl
  exact ⟨_, M_chainL ok hr (p2lt _ (by omega)) h 8 0 rfl⟩
theorem st_chain : St_chain Inv9 := by
  intro F P K G T N L S hI a1
  have hI2 := hI
  obtain ⟨p, ok, hx, hm, hq⟩ := hI
  have o1 := ok.1
  unfold wX6_chain wX7_chain
  rcases ixc a1 (p 30 0) (by omega) with ⟨t, ht, rfl⟩ | c1
  · refine X_hT hx.1 ht ok.1 ?_
    try dsimp only
    rw [if_neg bz_k]
    refine X_chain ok hx ht ?_
    try dsimp only
    refine M_iT hm.1 ht ok.1 ?_
    try dsimp only
    rw [if_neg bz_k]
    exact M_chain ok hm ht ⟨rfl, hI2⟩
  · refine X_hT_no hx.1 c1 ?_
    try dsimp only
    rw [if_pos rfl]
    refine X_ref 1 (by decide) (by decide) (M_iT_no hm.1 c1 ?_)
    try dsimp only
    rw [if_pos rfl]
    exact M_no 1 (by decide) (by decide) ⟨rfl, Inv9.ref ok hx hm hq 1 G T⟩
/-- the least bit -/
def tzf (s : Nat) : Nat := if s % 2 = 1 then 0 else if s / 2 % 2 = 1 then 1 else if s / 4 % 2 = 1 then 2 else if s / 8 % 2 = 1 then 3 else if s / 16 % 2 = 1 then 4 else if s / 32 % 2 = 1 then 5 else if s / 64 % 2 = 1 then 6 else 7
theorem tz_x : ∀ s, s < 256 → 0 < s → ((nI s ^^^ (-1)) &&& (nI s - 1)) = nI (2 ^ tzf s - 1) := by decide +kernel
theorem tz_lo : ∀ s, s < 256 → ∀ t, t < 8 → s.testBit t = true → (tzf s = t ↔ s &&& (2 ^ t - 1) = 0) := by decide +kernel
theorem tz_8 (s : Nat) : tzf s < 8 := by
  unfold tzf
  repeat' split
  all_goals omega
theorem X_tz8 {Q : Int32 → Prop} : ∀ j, j < 8 → Q (nI j) → (if 0 < nI (2 ^ j - 1) then (if nI (2 ^ j - 1) ≤ 65536 then bJ6_numberOfTrailingZeros_34 Q (nI (2 ^ j - 1)) 1 else (∀ x1_4 : Int32, x1_4 = ((1 : Int32) + 16) → (∀ x0_5 : Int32, x0_5 = (((nI (2 ^ j - 1)).toUInt32 >>> ((16 : Int32).toUInt32 &&& Int32.toUInt32 31)).toInt32) → (bJ6_numberOfTrailingZeros_34 Q x0_5 x1_4)))) else (Q (nI (2 ^ j - 1) &&& 32))) := by
  intro j hj h
  have : j = 0 ∨ j = 1 ∨ j = 2 ∨ j = 3 ∨ j = 4 ∨ j = 5 ∨ j = 6 ∨ j = 7 := by omega
  unfold bJ6_numberOfTrailingZeros_34 bJ6_numberOfTrailingZeros_49 bJ6_numberOfTrailingZeros_62
  rcases this with rfl | rfl | rfl | rfl | rfl | rfl | rfl | rfl
  · rw [if_neg (by decide)]; exact h
  · rw [if_pos (by decide), if_pos (by decide), if_pos (by decide), if_pos (by decide), if_pos (by decide)]; exact h
  · rw [if_pos (by decide), if_pos (by decide), if_pos (by decide), if_pos (by decide), if_pos (by decide)]; exact h
  · rw [if_pos (by decide), if_pos (by decide), if_pos (by decide), if_pos (by decide), if_neg (by decide)]; rintro x rfl x rfl; exact h
  · rw [if_pos (by decide), if_pos (by decide), if_pos (by decide), if_pos (by decide), if_neg (by decide)]; rintro x rfl x rfl; exact h
  · rw [if_pos (by decide), if_pos (by decide), if_pos (by decide), if_neg (by decide)]; rintro x rfl x rfl; rw [if_pos (by decide)]; exact h
  · rw [if_pos (by decide), if_pos (by decide), if_pos (by decide), if_neg (by decide)]; rintro x rfl x rfl; rw [if_pos (by decide)]; exact h
  · rw [if_pos (by decide), if_pos (by decide), if_pos (by decide), if_neg (by decide)]; rintro x rfl x rfl; rw [if_neg (by decide)]; rintro x rfl x rfl; exact h
theorem X_tz {s : Nat} (hs : s < 256) (h0 : 0 < s) {Q : Int32 → Prop} (h : Q (nI (tzf s))) : wJ6_numberOfTrailingZeros (nI s) Q := by
  unfold wJ6_numberOfTrailingZeros
  rw [tz_x s hs h0]
  rintro x rfl
  exact X_tz8 (tzf s) (tz_8 s) h
abbrev low (p : PT) (t : Nat) : Prop := chn p t &&& (2 ^ t - 1) = 0
def pcs (p : PT) : Nat → Nat := sumN (fun t => if low p t then 1 else 0)
theorem pcs_s {p : PT} {k : Nat} : pcs p (k + 1) = pcs p k + (if low p k then 1 else 0) := rfl
theorem pcs_le {p : PT} {k : Nat} : pcs p k ≤ k := by
  have := sumN_le (f := fun t => if low p t then 1 else 0) (c := 1) (n := k) (fun i hi => by show (if low p i then 1 else 0) ≤ 1; split <;> omega)
  unfold pcs
  omega
theorem chn_tb {b : Nat} {p : PT} (ok : okP b p) {t : Nat} (ht : t < p 30 0) : (chn p t).testBit t = true := by
  have := ok.1
  exact itr_tb (p2tb _ (by omega)) 8
theorem tb_pos {s t : Nat} (h : s.testBit t = true) : 0 < s := by
  rcases Nat.eq_zero_or_pos s with q | q
  · rw [q, Nat.zero_testBit] at h; cases h
  · exact q
theorem X_piecesL {b : Nat} {P : RT} {p : PT} (ok : okP b p) (hr : repX P p) {Q : Int32 → Prop} (h : Q (nI (pcs p (p 30 0)))) : ∀ (n k : Nat), k + n = p 30 0 → bX2_pieces_4 P Q (n + 1) (nI (pcs p k)) (nI k) := by
  have o1 := ok.1
  intro n
  induction n with
  | zero =>
    intro k hk
    rw [bX2_pieces_4, hr.1, if_pos (nI_le (by omega) (by omega))]
    have : k = p 30 0 := by omega
    rw [this]
    exact h
  | succ n ih =>
    intro k hk
    have hk0 : k < p 30 0 := by omega
    have hl := chn_lt ok hk0
    have ht := chn_tb ok hk0
    have h8 := tz_8 (chn p k)
    have hlo := tz_lo _ hl k (by omega) ht
    rw [bX2_pieces_4, hr.1, if_neg (nI_ge (by omega) (by omega))]
    unfold bX2_pieces_27
    refine X_chain ok hr hk0 ?_
    try dsimp only
    refine X_tz hl (tb_pos ht) ?_
    try dsimp only
    have := ih (k + 1) (by omega)
    rw [pcs_s] at this
    rw [nI_1, nI_1]
    by_cases c : low p k
    · rw [if_pos c] at this
      rw [if_pos (by rw [hlo.mpr c])]
      rintro x rfl y rfl
      exact this
    · rw [if_neg c] at this
      rw [if_neg (fun q => c (hlo.mp ((nI_eq (by omega) (by omega)).mp q)))]
      rintro y rfl
      exact this
theorem X_pieces {b : Nat} {P : RT} {p : PT} (ok : okP b p) (hr : repX P p) {Q : Int32 → Prop} (h : Q (nI (pcs p (p 30 0)))) : wX2_pieces P Q := ⟨_, X_piecesL ok hr h (p 30 0) 0 (by omega)⟩
def mxc (p : PT) : Nat → Nat
  | 0 => 0
  | k + 1 => max (mxc p k) (pc (chn p k))
theorem mxc_le {p : PT} : ∀ k, mxc p k ≤ 8
  | 0 => by show 0 ≤ 8; omega
  | k + 1 => by
    have := mxc_le (p := p) k
    have := pc_le (chn p k)
    rw [mxc]
    omega
theorem X_greatL {b : Nat} {P : RT} {p : PT} (ok : okP b p) (hr : repX P p) {Q : Int32 → Prop} (h : Q (nI (mxc p (p 30 0)))) : ∀ (n k : Nat), k + n = p 30 0 → bX2_greatestPiece_4 P Q (n + 1) (nI (mxc p k)) (nI k) := by
  have o1 := ok.1
  intro n
  induction n with
  | zero =>
    intro k hk
    rw [bX2_greatestPiece_4, hr.1, if_pos (nI_le (by omega) (by omega))]
    have : k = p 30 0 := by omega
    rw [this]
    exact h
  | succ n ih =>
    intro k hk
    have hk0 : k < p 30 0 := by omega
    have h1 := mxc_le (p := p) k
    have h2 := pc_le (chn p k)
    rw [bX2_greatestPiece_4, hr.1, if_neg (nI_ge (by omega) (by omega))]
    refine X_chain ok hr hk0 ?_
    try dsimp only
    refine X_bitCount (chn_lt ok hk0) ?_
    try dsimp only
    rw [mxI (by omega) (by omega), nI_1]
    rintro x rfl y rfl
    exact ih (k + 1) (by omega)
theorem M_chainsL {b : Nat} {S : RT} {p : PT} (ok : okP b p) (hr : repM S p) {a1 : Int32} {Q : Int32 → RT → Prop} (h : if a1 = 0 then Q (nI (pcs p (p 30 0))) S else if a1 = 1 then Q (nI (mxc p (p 30 0))) S else if p 30 1 ≤ p 30 0 - pcs p (p 30 0) then Q 0 S else Q 1 S) : ∀ (n k : Nat), k + n = p 30 0 → bX7_chains_23 Q (n + 1) S a1 (nI (pcs p k)) (nI (mxc p k)) (nI k) := by
  have o1 := ok.1
  have o2 := ok.2.1
  intro n
  induction n with
  | zero =>
    intro k hk
    have hle := pcs_le (p := p) (k := p 30 0)
    have e : k = p 30 0 := by omega
    subst e
    rw [bX7_chains_23, hr.1, hr.2.1, if_pos (nI_le (by omega) (by omega)), nS hle]
    by_cases c0 : a1 = 0
    · rw [if_pos c0] at h ⊢; exact h
    · rw [if_neg c0] at h ⊢
      by_cases c1 : a1 = 1
      · rw [if_pos c1] at h ⊢; exact h
      · rw [if_neg c1] at h ⊢
        by_cases c2 : p 30 1 ≤ p 30 0 - pcs p (p 30 0)
        · rw [if_pos c2] at h
          rw [if_pos (nI_le c2 (by omega))]; exact h
        · rw [if_neg c2] at h
          rw [if_neg (nI_ge (by omega) (by omega))]; exact h
  | succ n ih =>
    intro k hk
    have hk0 : k < p 30 0 := by omega
    have h1 := mxc_le (p := p) k
    have h2 := pc_le (chn p k)
    have hl := chn_lt ok hk0
    have hand : chn p k &&& (2 ^ k - 1) ≤ chn p k := Nat.and_le_left
    have this := ih (k + 1) (by omega)
    rw [pcs_s, mxc] at this
    have e58 : ∀ v : Nat, nI (pcs p k + v) = nI (pcs p k + (if low p k then 1 else 0)) → bX7_chains_58 (fun S_ x1_ x2_ x3_ x4_ => bX7_chains_23 Q (n + 1) S_ x1_ x2_ x3_ x4_) Q S a1 (nI (mxc p k)) (nI k) (nI (chn p k)) (nI (pcs p k)) (nI v) := by
      intro v hv
      unfold bX7_chains_58 bX7_chains_78
      rw [nI_add, nI_1]
      rintro x rfl
      rw [hv]
      refine M_bits hl ?_
      try dsimp only
      by_cases c : pc (chn p k) ≤ mxc p k
      · rw [if_pos (nI_le c (by omega))]
        rintro y rfl
        rw [Nat.max_eq_left c] at this
        exact this
      · rw [if_neg (nI_ge (by omega) (by omega))]
        refine M_bits hl ?_
        try dsimp only
        rintro y rfl
        rw [Nat.max_eq_right (by omega)] at this
        exact this
    rw [bX7_chains_23, hr.1, if_neg (nI_ge (by omega) (by omega))]
    refine M_chain ok hr hk0 ?_
    try dsimp only
    rw [sh1m (by omega), nx_and]
    by_cases c : low p k
    · rw [if_pos (show nI (chn p k &&& (2 ^ k - 1)) = 0 by rw [show chn p k &&& (2 ^ k - 1) = 0 from c]; rfl)]
      exact e58 1 (by rw [if_pos c])
    · rw [if_neg (show ¬ nI (chn p k &&& (2 ^ k - 1)) = 0 from fun q => c ((nI_eq (b := 0) (by omega) (by omega)).mp q))]
      exact e58 0 (by rw [if_neg c])
theorem st_chains : St_chains Inv9 := by
  intro F P K G T N L S hI a1
  have hI2 := hI
  obtain ⟨p, ok, hx, hm, hq⟩ := hI
  have o1 := ok.1
  have o2 := ok.2.1
  have hle := pcs_le (p := p) (k := p 30 0)
  unfold wX6_chains wX7_chains
  by_cases c0 : a1 = 0
  · rw [if_pos c0]
    subst c0
    refine X_pieces ok hx ?_
    try dsimp only
    refine M_isIn ?_
    try dsimp only
    rw [if_neg (by decide)]
    exact ⟨_, M_chainsL ok hm (by rw [if_pos rfl]; exact ⟨rfl, hI2⟩) (p 30 0) 0 (by omega)⟩
  rw [if_neg c0]
  by_cases c1 : a1 = 1
  · rw [if_pos c1]
    subst c1
    refine ⟨_, X_greatL ok hx ?_ (p 30 0) 0 (by omega)⟩
    refine M_isIn ?_
    try dsimp only
    rw [if_neg (by decide)]
    exact ⟨_, M_chainsL ok hm (by rw [if_neg (by decide), if_pos rfl]; exact ⟨rfl, hI2⟩) (p 30 0) 0 (by omega)⟩
  rw [if_neg c1]
  by_cases c2 : a1 = 2
  · rw [if_pos c2]
    subst c2
    unfold wX2_hasRing
    refine X_pieces ok hx ?_
    try dsimp only
    rw [hx.1, hx.2.1, nS hle]
    by_cases c : p 30 1 ≤ p 30 0 - pcs p (p 30 0)
    · rw [if_pos (nI_le c (by omega)), if_pos rfl]
      refine M_isIn ?_
      try dsimp only
      rw [if_neg (by decide)]
      exact ⟨_, M_chainsL ok hm (by rw [if_neg (by decide), if_neg (by decide), if_pos c]; exact ⟨rfl, hI2⟩) (p 30 0) 0 (by omega)⟩
    · rw [if_neg (nI_ge (by omega) (by omega)), if_neg bz_k]
      refine M_isIn ?_
      try dsimp only
      rw [if_neg (by decide)]
      exact ⟨_, M_chainsL ok hm (by rw [if_neg (by decide), if_neg (by decide), if_neg c]; exact ⟨rfl, hI2⟩) (p 30 0) 0 (by omega)⟩
  rw [if_neg c2]
  have hn : ¬ (0 ≤ a1 ∧ a1 ≤ 2) := by
    rintro ⟨q1, q2⟩
    obtain ⟨j, hj, e⟩ := nI_of2 (M := 2) (n := 2) rfl (fun q => (il.mp q) q1) q2
    have : j = 0 ∨ j = 1 ∨ j = 2 := by omega
    rcases this with rfl | rfl | rfl
    · exact c0 e
    · exact c1 e
    · exact c2 e
  refine X_ref 2 (by decide) (by decide) (M_isIn ?_)
  try dsimp only
  rw [if_pos (if_neg hn)]
  exact M_no 2 (by decide) (by decide) ⟨rfl, Inv9.ref ok hx hm hq 2 G T⟩
