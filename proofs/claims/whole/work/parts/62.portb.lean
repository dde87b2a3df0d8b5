/-! ===== PURE: the letters: the reference reads (laid by wip/whole/p62.py) ===== -/
def dgp (c : Nat → Nat) (n a : Nat) : Prop := a < n ∧ 48 ≤ c a ∧ c a ≤ 57
def Fdg (p : Nat) (S S' : RT) : Prop := (∀ r, r ≠ 15 → r ≠ 30 → S' r = S r) ∧ (∀ j, j ≠ 17 → S' 30 j = S 30 j) ∧ ∀ i, i ≠ p → S' 15 i = S 15 i
def FF (p : Nat) (S S' : RT) : Prop := (∀ r, r ≠ 15 → r ≠ 30 → S' r = S r) ∧ (∀ j, j ≠ 17 → S' 30 j = S 30 j) ∧ ∀ i, i < p → S' 15 i = S 15 i
theorem Fdg.ff {p q : Nat} {S S' : RT} (h : Fdg q S S') (hp : p ≤ q) : FF p S S' := ⟨h.1, h.2.1, fun i hi => h.2.2 i (by omega)⟩
theorem FF.rf {p : Nat} {S : RT} : FF p S S := ⟨fun _ _ _ => rfl, fun _ _ => rfl, fun _ _ => rfl⟩
theorem FF.tr {p : Nat} {S S1 S2 : RT} (h : FF p S S1) (g : FF p S1 S2) : FF p S S2 := ⟨fun r a b => (g.1 r a b).trans (h.1 r a b), fun j a => (g.2.1 j a).trans (h.2.1 j a), fun i hi => (g.2.2 i hi).trans (h.2.2 i hi)⟩
def TP (c : Nat → Nat) (n : Nat) (S : RT) : Prop := S 30 16 = nI n ∧ ∀ i, i < n → S 12 i = nI (c i)
theorem TP.ff {c : Nat → Nat} {n p : Nat} {S S' : RT} (h : TP c n S) (f : FF p S S') : TP c n S' := ⟨(f.2.1 16 (by decide)).trans h.1, fun i hi => by rw [f.1 12 (by decide) (by decide)]; exact h.2 i hi⟩
theorem M_next {S : RT} {c : Nat → Nat} {n a : Nat} (hn : n ≤ 96) (ha : a ≤ 200) (t : TP c n S) (h17 : S 30 17 = nI a) {Q : Int32 → Prop} (y : a < n → Q (nI (c a))) (z : ¬ a < n → Q (-1)) : wX7_next S Q := by
  unfold wX7_next
  rw [t.1, h17]
  by_cases d : a < n
  · rw [if_neg (nI_ge d (by omega)), nI_clamp (by omega), t.2 a d]
    exact ⟨(vin (by omega)).mpr (by omega), y d⟩
  · rw [if_pos (nI_le (by omega) (by omega))]; exact z d
theorem M_dgS {S : RT} {c : Nat → Nat} {n a : Nat} (hn : n ≤ 96) (hc : ∀ i, i < n → c i ≤ 255) (ha : a ≤ 200) (t : TP c n S) (h17 : S 30 17 = nI a) {Q0 : Prop} {R : Int32 → Prop} (y : dgp c n a → R (nI (c a))) (z : ¬ dgp c n a → Q0) : wX7_next S (fun r_4 => wX7_isIn r_4 48 57 (fun r_5 => if r_5 = 0 then Q0 else wX7_next S (fun r_7 => R r_7))) := by
  refine M_next hn ha t h17 (fun d => ?_) (fun d => ?_)
  try dsimp only
  · have h255 := hc a d
    refine M_isIn ?_
    try dsimp only
    by_cases g : 48 ≤ c a ∧ c a ≤ 57
    · rw [if_pos (show (48 : Int32) ≤ nI (c a) ∧ nI (c a) ≤ 57 from ⟨nI_le (a := 48) g.1 (by omega), nI_le (b := 57) g.2 (by decide)⟩), if_neg bz_k]
      exact M_next hn ha t h17 (fun _ => y ⟨d, g⟩) (fun e => absurd d e)
    · rw [if_neg (show ¬ ((48 : Int32) ≤ nI (c a) ∧ nI (c a) ≤ 57) from fun q => g ⟨Nat.le_of_not_lt (fun w => nI_ge (b := 48) w (by decide) q.1), Nat.le_of_not_lt (fun w => nI_ge (a := 57) w (by omega) q.2)⟩), if_pos rfl]
      exact z (fun q => g q.2)
  · refine M_isIn ?_
    try dsimp only
    rw [if_pos (by decide)]
    exact z (fun q => d q.1)
theorem dv0 {x : Nat} (h : 48 ≤ x) : ((10 : Int32) * 0 + nI x) - 48 = nI (x - 48) := by
  rw [show (10 : Int32) * 0 = nI 0 from rfl, nI_add, Nat.zero_add, l48, nS h]
theorem dv1 {x y : Nat} (h : 48 ≤ y) : ((10 : Int32) * nI x + nI y) - 48 = nI (10 * x + (y - 48)) := by
  rw [l10, pk_mul, nI_add, l48, nS (by omega), show 10 * x + y - 48 = 10 * x + (y - 48) by omega]
theorem M_rd1 {S : RT} {c : Nat → Nat} {n a p : Nat} (hn : n ≤ 96) (hc : ∀ i, i < n → c i ≤ 255) (ha : a ≤ 200) (t : TP c n S) (h17 : S 30 17 = nI a) (hp : p < 144) {Q : Int32 → RT → Prop} (y : dgp c n a → ∀ S', S' 30 17 = nI (a + 1) → S' 15 p = nI (c a - 48) → Fdg p S S' → Q 1 S') (z : ¬ dgp c n a → Q 0 S) : wX7_readsDigits S (nI p) 1 Q := by
  unfold wX7_readsDigits
  refine ⟨2, ?_⟩
  rw [bX7_readsDigits_5, if_neg (by decide)]
  refine M_dgS hn hc ha t h17 (fun d => ?_) z
  rintro x3 rfl S9 rfl x4 rfl
  rw [bX7_readsDigits_5, if_pos (by decide), nI_clamp (by omega)]
  refine ⟨(vin (by omega)).mpr (by omega), ?_⟩
  rintro S3 rfl
  refine y d _ ?_ ?_ ⟨fun r h1 h2 => by rw [set2_a h1, set2_a h2], fun j h => by rw [set2_a (by decide), set2_b h], fun i h => by rw [set2_b h, set2_a (by decide)]⟩
  · rw [set2_a (by decide), set2_s, h17, nI_1]
  · rw [set2_s]; exact dv0 d.2.1
theorem M_rd2 {S : RT} {c : Nat → Nat} {n a p : Nat} (hn : n ≤ 96) (hc : ∀ i, i < n → c i ≤ 255) (ha : a ≤ 190) (t : TP c n S) (h17 : S 30 17 = nI a) (hp : p < 144) {Q : Int32 → RT → Prop} (y : dgp c n a → dgp c n (a + 1) → ∀ S', S' 30 17 = nI (a + 2) → S' 15 p = nI (10 * (c a - 48) + (c (a + 1) - 48)) → Fdg p S S' → Q 1 S') (z : ¬ dgp c n a → Q 0 S) (z2 : dgp c n a → ¬ dgp c n (a + 1) → ∀ S', S' 30 17 = nI (a + 1) → Fdg p S S' → Q 0 S') : wX7_readsDigits S (nI p) 2 Q := by
  unfold wX7_readsDigits
  refine ⟨3, ?_⟩
  rw [bX7_readsDigits_5, if_neg (by decide)]
  refine M_dgS hn hc (by omega) t h17 (fun d => ?_) z
  rintro x3 rfl S9 rfl x4 rfl
  have f9 : Fdg p S (set2 S 30 17 (S 30 17 + 1)) := ⟨fun r h1 h2 => by rw [set2_a h2], fun j h => by rw [set2_b h], fun i h => by rw [set2_a (by decide)]⟩
  have h9 : set2 S 30 17 (S 30 17 + 1) 30 17 = nI (a + 1) := by rw [set2_s, h17, nI_1]
  rw [bX7_readsDigits_5, if_neg (by decide)]
  refine M_dgS hn hc (by omega) (t.ff (f9.ff (Nat.le_refl _))) h9 (fun d2 => ?_) (fun d2 => z2 d d2 _ h9 f9)
  rintro x3 rfl S10 rfl x4 rfl
  rw [bX7_readsDigits_5, if_pos (by decide), nI_clamp (by omega)]
  refine ⟨(vin (by omega)).mpr (by omega), ?_⟩
  rintro S3 rfl
  refine y d d2 _ ?_ ?_ ⟨fun r h1 h2 => by rw [set2_a h1, set2_a h2, set2_a h2], fun j h => by rw [set2_a (by decide), set2_b h, set2_b h], fun i h => by rw [set2_b h, set2_a (by decide), set2_a (by decide)]⟩
  · rw [set2_a (by decide), set2_s, h9, nI_1]
  · rw [set2_s, dv0 d.2.1]; exact dv1 d2.2.1
theorem M_kind {ch : Nat} (hc : ch ≤ 255) {Q : Int32 → Prop} (h : Q (if zkx ch < 6 then nI (zkx ch) else -1)) : wX7_kindOf (nI ch) Q := by
  unfold wX7_kindOf
  unfold zkx at h
  have ne : ∀ v, v ≤ 255 → ¬ ch = v → ¬ nI ch = nI v := fun v hv q e => q ((nI_eq (by omega) (by omega)).mp e)
  by_cases q116 : ch = 116
  · rw [if_pos q116] at h
    rw [q116, if_pos (show nI 116 = 116 from rfl)]
    exact h
  rw [if_neg q116] at h
  rw [if_neg (show ¬ nI ch = 116 from ne 116 (by decide) q116)]
  by_cases q112 : ch = 112
  · rw [if_pos q112] at h
    rw [q112, if_pos (show nI 112 = 112 from rfl)]
    exact h
  rw [if_neg q112] at h
  rw [if_neg (show ¬ nI ch = 112 from ne 112 (by decide) q112)]
  by_cases q98 : ch = 98
  · rw [if_pos q98] at h
    rw [q98, if_pos (show nI 98 = 98 from rfl)]
    exact h
  rw [if_neg q98] at h
  rw [if_neg (show ¬ nI ch = 98 from ne 98 (by decide) q98)]
  by_cases q115 : ch = 115
  · rw [if_pos q115] at h
    rw [q115, if_pos (show nI 115 = 115 from rfl)]
    exact h
  rw [if_neg q115] at h
  rw [if_neg (show ¬ nI ch = 115 from ne 115 (by decide) q115)]
  by_cases q102 : ch = 102
  · rw [if_pos q102] at h
    rw [q102, if_pos (show nI 102 = 102 from rfl)]
    exact h
  rw [if_neg q102] at h
  rw [if_neg (show ¬ nI ch = 102 from ne 102 (by decide) q102)]
  by_cases q105 : ch = 105
  · rw [if_pos q105] at h
    rw [q105, if_pos (show nI 105 = 105 from rfl)]
    exact h
  rw [if_neg q105] at h
  rw [if_neg (show ¬ nI ch = 105 from ne 105 (by decide) q105)]
  exact h
theorem M_kind1 {Q : Int32 → Prop} (h : Q (-1)) : wX7_kindOf (-1) Q := by
  unfold wX7_kindOf
  rw [if_neg (by decide), if_neg (by decide), if_neg (by decide), if_neg (by decide), if_neg (by decide), if_neg (by decide)]
  exact h
theorem M_rdT {S : RT} {c : Nat → Nat} {n a p : Nat} (hn : n ≤ 96) (hc : ∀ i, i < n → c i ≤ 255) (ha : a ≤ 180) (t : TP c n S) (h17 : S 30 17 = nI a) (hp : p + 2 < 144) {Q : Int32 → RT → Prop} (y : a < n → zkx (c a) < 6 → dgp c n (a + 1) → dgp c n (a + 2) → dgp c n (a + 3) → ∀ S', S' 30 17 = nI (a + 4) → S' 15 p = nI (zkx (c a)) → S' 15 (p + 1) = nI (c (a + 1) - 48) → S' 15 (p + 2) = nI (10 * (c (a + 2) - 48) + (c (a + 3) - 48)) → FF p S S' → Q 1 S') (z0 : ¬ (a < n ∧ zkx (c a) < 6) → ∀ S', S' 30 17 = nI a → FF p S S' → Q 0 S') (z1 : a < n → zkx (c a) < 6 → ¬ dgp c n (a + 1) → ∀ S', S' 30 17 = nI (a + 1) → FF p S S' → Q 0 S') (z2 : a < n → zkx (c a) < 6 → dgp c n (a + 1) → ¬ dgp c n (a + 2) → ∀ S', S' 30 17 = nI (a + 2) → FF p S S' → Q 0 S') (z3 : a < n → zkx (c a) < 6 → dgp c n (a + 1) → dgp c n (a + 2) → ¬ dgp c n (a + 3) → ∀ S', S' 30 17 = nI (a + 3) → FF p S S' → Q 0 S') : wX7_readsThing S (nI p) Q := by
  have fk : ∀ v : Int32, FF p S (set2 S 15 p v) := fun v => ⟨fun r h1 h2 => by rw [set2_a h1], fun j h => by rw [set2_a (by decide)], fun i h => by rw [set2_b (by omega)]⟩
  have hk : ∀ v : Int32, set2 S 15 p v 30 17 = nI a := fun v => by rw [set2_a (by decide)]; exact h17
  have bad : ¬ (a < n ∧ zkx (c a) < 6) → (vp_in (nI p) 144 ∧ (∀ S_4 : RT, S_4 = set2 S 15 (nI p).toNatClampNeg (-1) → (if 0 ≤ (S_4 15 (nI p).toNatClampNeg) then (∀ S_6 : RT, S_6 = set2 S_4 30 17 ((S_4 30 17) + 1) → (wX7_readsDigits S_6 (nI p + 1) 1 (fun (r_8 : Int32) (S_7 : RT) => (if r_8 = 0 then (Q 0 S_7) else (wX7_readsDigits S_7 (nI p + 2) 2 (fun (r_11 : Int32) (S_10 : RT) => (if r_11 = 0 then (Q 0 S_10) else (Q 1 S_10)))))))) else (Q 0 S_4)))) := by
    intro hb
    rw [nI_clamp (by omega)]
    refine ⟨(vin (by omega)).mpr (by omega), ?_⟩
    rintro S4 rfl
    rw [set2_s, if_neg (by decide)]
    exact z0 hb _ (hk _) (fk _)
  unfold wX7_readsThing
  refine M_next hn (by omega) t h17 (fun d => ?_) (fun d => ?_)
  try dsimp only
  · refine M_kind (hc a d) ?_
    try dsimp only
    by_cases g : zkx (c a) < 6
    · rw [if_pos g, nI_clamp (by omega)]
      refine ⟨(vin (by omega)).mpr (by omega), ?_⟩
      rintro S4 rfl
      rw [set2_s, if_pos (nI_pos' (by omega))]
      rintro S6 rfl
      have f6 : FF p S (set2 (set2 S 15 p (nI (zkx (c a)))) 30 17 (set2 S 15 p (nI (zkx (c a))) 30 17 + 1)) := (fk _).tr ⟨fun r h1 h2 => by rw [set2_a h2], fun j h => by rw [set2_b h], fun i h => by rw [set2_a (by decide)]⟩
      have h6 : set2 (set2 S 15 p (nI (zkx (c a)))) 30 17 (set2 S 15 p (nI (zkx (c a))) 30 17 + 1) 30 17 = nI (a + 1) := by rw [set2_s, hk, nI_1]
      have v6 : set2 (set2 S 15 p (nI (zkx (c a)))) 30 17 (set2 S 15 p (nI (zkx (c a))) 30 17 + 1) 15 p = nI (zkx (c a)) := by rw [set2_a (by decide), set2_s]
      rw [nI_1, l2, nI_add]
      refine M_rd1 hn hc (by omega) (t.ff f6) h6 (by omega) (fun d1 S7 e1 e2 e3 => ?_) (fun d1 => ?_)
      try dsimp only
      · rw [if_neg bz_k]
        have f7 := f6.tr (e3.ff (p := p) (by omega))
        refine M_rd2 hn hc (by omega) (t.ff f7) e1 (by omega) (fun d2 d3 S10 k1 k2 k3 => ?_) (fun d2 => ?_) (fun d2 d3 S10 k1 k3 => ?_)
        try dsimp only
        · rw [if_neg bz_k]
          refine y d g d1 d2 d3 S10 k1 ?_ ?_ k2 (f7.tr (k3.ff (p := p) (by omega)))
          · rw [k3.2.2 p (by omega), e3.2.2 p (by omega)]; exact v6
          · rw [k3.2.2 (p + 1) (by omega)]; exact e2
        · rw [if_pos rfl]
          exact z2 d g d1 d2 _ e1 f7
        · rw [if_pos rfl]
          exact z3 d g d1 d2 d3 _ k1 (f7.tr (k3.ff (p := p) (by omega)))
      · rw [if_pos rfl]
        exact z1 d g d1 _ h6 f6
    · rw [if_neg g]
      exact bad (fun q => g q.2)
  · refine M_kind1 ?_
    try dsimp only
    exact bad (fun q => d q.1)
theorem gd48 {c : Nat → Nat} {n a i : Nat} (hz : zfm (c a) i = 48) : gdb c n a i = true ↔ dgp c n (a + i) := by
  unfold gdb dgp zft
  rw [hz, if_pos rfl, Bool.and_eq_true, decide_eq_true_eq, decide_eq_true_eq]
theorem gd59 {c : Nat → Nat} {n a i : Nat} (hz : zfm (c a) i = 59) : gdb c n a i = true ↔ (a + i < n ∧ c (a + i) = 59) := by
  unfold gdb zft
  rw [hz, if_neg (by decide), if_neg (by decide), Bool.and_eq_true, decide_eq_true_eq, decide_eq_true_eq]
theorem gd107 {c : Nat → Nat} {n a i : Nat} (hz : zfm (c a) i = 107) : gdb c n a i = true ↔ (a + i < n ∧ zkx (c (a + i)) < 6) := by
  unfold gdb zft
  rw [hz, if_neg (by decide), if_pos rfl, Bool.and_eq_true, decide_eq_true_eq, decide_eq_true_eq]
theorem bp_f {c : Nat → Nat} {n a i : Nat} (h1 : 1 ≤ i) (h2 : i < zln (c a)) (h3 : ∀ j, 1 ≤ j → j < i → gdb c n a j = true) (h4 : ¬ gdb c n a i = true) : bp c n a = some (a + i) := by
  unfold bp
  rw [if_neg (by omega)]
  exact bpl_f h4 _ 1 h1 (by omega) h3
theorem bp_g {c : Nat → Nat} {n a : Nat} (h0 : 3 ≤ zln (c a)) (h : ∀ j, 1 ≤ j → j < zln (c a) → gdb c n a j = true) : bp c n a = none := by
  unfold bp
  rw [if_neg (by omega)]
  exact bpl_g _ 1 (fun j h1 h2 => h j h1 (by omega))
/-- what stands for a statement that was read -/
def VL (c : Nat → Nat) (S : RT) (p a : Nat) : Prop :=
  (c a = 116 → S 15 p = nI (zkx (c (a + 1))) ∧ S 15 (p + 1) = nI (c (a + 2) - 48) ∧ S 15 (p + 2) = nI (10 * (c (a + 3) - 48) + (c (a + 4) - 48))) ∧
  (c a = 114 → S 15 p = nI (c (a + 1) - 48) ∧ S 15 (p + 1) = nI (c (a + 2) - 48)) ∧
  (c a = 115 → S 15 p = nI (c (a + 1) - 48) ∧ S 15 (p + 1) = nI (c (a + 2) - 48)) ∧
  (c a = 99 → S 15 p = nI (c (a + 1) - 48)) ∧
  (c a = 117 → S 15 p = nI (c (a + 1) - 48) ∧ S 15 (p + 1) = nI (10 * (c (a + 2) - 48) + (c (a + 3) - 48))) ∧
  (c a = 104 → S 15 p = nI (10 * (c (a + 1) - 48) + (c (a + 2) - 48)))
theorem VL.fr {c : Nat → Nat} {S S' : RT} {p a : Nat} (h : VL c S p a) (e : ∀ i, i < p + 3 → S' 15 i = S 15 i) : VL c S' p a := by
  unfold VL at h ⊢
  rw [e p (by omega), e (p + 1) (by omega), e (p + 2) (by omega)]
  exact h
theorem M_semi {S : RT} {c : Nat → Nat} {n e p : Nat} (hn : n ≤ 96) (hc : ∀ i, i < n → c i ≤ 255) (ha : e ≤ 190) (t : TP c n S) (h17 : S 30 17 = nI e) {Q : Int32 → RT → Prop} (y : e < n ∧ c e = 59 → ∀ S', S' 30 17 = nI (e + 1) → S' 15 = S 15 → FF p S S' → Q 1 S') (z : ¬ (e < n ∧ c e = 59) → Q 0 S) : wX7_next S (fun r_9 => if r_9 = 59 then (∀ S_11 : RT, S_11 = set2 S 30 17 (S 30 17 + 1) → Q 1 S_11) else Q 0 S) := by
  refine M_next hn (by omega) t h17 (fun d => ?_) (fun d => ?_)
  try dsimp only
  · have h255 := hc e d
    by_cases g : c e = 59
    · rw [if_pos (show nI (c e) = 59 by rw [g]; rfl)]
      rintro S11 rfl
      exact y ⟨d, g⟩ _ (by rw [set2_s, h17, nI_1]) (set2_a (by decide)) ⟨fun r h1 h2 => by rw [set2_a h2], fun j h => by rw [set2_b h], fun i h => by rw [set2_a (by decide)]⟩
    · rw [if_neg (show ¬ nI (c e) = 59 from fun q => g ((nI_eq (b := 59) (by omega) (by omega)).mp q))]
      exact z (fun q => g q.2)
  · rw [if_neg (by decide)]
    exact z (fun q => d q.1)
theorem M_all99 {S : RT} {c : Nat → Nat} {n a p : Nat} (hn : n ≤ 96) (hc : ∀ i, i < n → c i ≤ 255) (ha : a ≤ 100) (hp : p + 2 < 144) (t : TP c n S) (h17 : S 30 17 = nI (a + 1)) (hL : c a = 99) {Q : Int32 → RT → Prop} (y : bp c n a = none → ∀ S', S' 30 17 = nI (a + zln (c a)) → VL c S' p a → FF p S S' → Q 1 S') (z : ∀ x, bp c n a = some x → ∀ S', S' 30 17 = nI x → FF p S S' → Q 0 S') : wX7_readsAll S 99 (nI p) (fun r_7 S_6 => if r_7 = 0 then Q 0 S_6 else wX7_next S_6 (fun r_9 => if r_9 = 59 then (∀ S_11 : RT, S_11 = set2 S_6 30 17 (S_6 30 17 + 1) → Q 1 S_11) else Q 0 S_6)) := by
  have hl : zln (c a) = 3 := by rw [hL]; rfl
  rw [hl] at y
  have e1 := gd48 (c := c) (n := n) (a := a) (i := 1) (by rw [hL]; rfl)
  have e2 := gd59 (c := c) (n := n) (a := a) (i := 2) (by rw [hL]; rfl)
  unfold wX7_readsAll
  try dsimp only
  rw [if_pos rfl]
  refine M_rd1 hn hc (by omega) t h17 (by omega) (fun d1 S6 h1 h2 h3 => ?_) (fun d1 => ?_)
  try dsimp only
  · have g1 := e1.mpr d1
    have f6 : FF p S S6 := h3.ff (Nat.le_refl _)
    refine ⟨Or.inr rfl, ?_⟩
    try dsimp only
    rw [if_neg bz_k]
    refine M_semi (e := a + 2) (p := p) hn hc (by omega) (t.ff f6) h1 (fun s S11 k1 k2 k3 => ?_) (fun s => ?_)
    try dsimp only
    · have g2 := e2.mpr s
      refine y (bp_g (by omega) (fun j h1 h2 => by rcases (show j = 1 ∨ j = 2 by omega) with q | q <;> rw [q] <;> assumption)) S11 k1 ⟨fun q => absurd (hL.symm.trans q) (by decide), fun q => absurd (hL.symm.trans q) (by decide), fun q => absurd (hL.symm.trans q) (by decide), fun _ => (by rw [k2]; exact h2), fun q => absurd (hL.symm.trans q) (by decide), fun q => absurd (hL.symm.trans q) (by decide)⟩ (f6.tr k3)
    · exact z (a + 2) (bp_f (by omega) (by omega) (fun j h1 h2 => by rw [show j = 1 by omega]; exact g1) (fun q => s (e2.mp q))) _ h1 f6
  · refine ⟨Or.inl rfl, ?_⟩
    try dsimp only
    rw [if_pos rfl]
    exact z (a + 1) (bp_f (by omega) (by omega) (fun j h1 h2 => by omega) (fun q => d1 (e1.mp q))) _ h17 FF.rf
theorem M_all104 {S : RT} {c : Nat → Nat} {n a p : Nat} (hn : n ≤ 96) (hc : ∀ i, i < n → c i ≤ 255) (ha : a ≤ 100) (hp : p + 2 < 144) (t : TP c n S) (h17 : S 30 17 = nI (a + 1)) (hL : c a = 104) {Q : Int32 → RT → Prop} (y : bp c n a = none → ∀ S', S' 30 17 = nI (a + zln (c a)) → VL c S' p a → FF p S S' → Q 1 S') (z : ∀ x, bp c n a = some x → ∀ S', S' 30 17 = nI x → FF p S S' → Q 0 S') : wX7_readsAll S 104 (nI p) (fun r_7 S_6 => if r_7 = 0 then Q 0 S_6 else wX7_next S_6 (fun r_9 => if r_9 = 59 then (∀ S_11 : RT, S_11 = set2 S_6 30 17 (S_6 30 17 + 1) → Q 1 S_11) else Q 0 S_6)) := by
  have hl : zln (c a) = 4 := by rw [hL]; rfl
  rw [hl] at y
  have e1 := gd48 (c := c) (n := n) (a := a) (i := 1) (by rw [hL]; rfl)
  have e2 := gd48 (c := c) (n := n) (a := a) (i := 2) (by rw [hL]; rfl)
  have e3 := gd59 (c := c) (n := n) (a := a) (i := 3) (by rw [hL]; rfl)
  unfold wX7_readsAll
  rw [if_neg (by decide), if_pos rfl]
  refine M_rd2 hn hc (by omega) t h17 (by omega) (fun d1 d2 S6 h1 h2 h3 => ?_) (fun d1 => ?_) (fun d1 d2 S6 h1 h3 => ?_)
  try dsimp only
  · have g1 := e1.mpr d1
    have g2 := e2.mpr d2
    have f6 : FF p S S6 := h3.ff (Nat.le_refl _)
    refine ⟨Or.inr rfl, ?_⟩
    try dsimp only
    rw [if_neg bz_k]
    refine M_semi (e := a + 3) (p := p) hn hc (by omega) (t.ff f6) h1 (fun s S11 k1 k2 k3 => ?_) (fun s => ?_)
    try dsimp only
    · have g3 := e3.mpr s
      refine y (bp_g (by omega) (fun j h1 h2 => by rcases (show j = 1 ∨ j = 2 ∨ j = 3 by omega) with q | q | q <;> rw [q] <;> assumption)) S11 k1 ⟨fun q => absurd (hL.symm.trans q) (by decide), fun q => absurd (hL.symm.trans q) (by decide), fun q => absurd (hL.symm.trans q) (by decide), fun q => absurd (hL.symm.trans q) (by decide), fun q => absurd (hL.symm.trans q) (by decide), fun _ => (by rw [k2]; exact h2)⟩ (f6.tr k3)
    · exact z (a + 3) (bp_f (by omega) (by omega) (fun j h1 h2 => by rcases (show j = 1 ∨ j = 2 by omega) with q | q <;> rw [q] <;> assumption) (fun q => s (e3.mp q))) _ h1 f6
  · refine ⟨Or.inl rfl, ?_⟩
    try dsimp only
    rw [if_pos rfl]
    exact z (a + 1) (bp_f (by omega) (by omega) (fun j h1 h2 => by omega) (fun q => d1 (e1.mp q))) _ h17 FF.rf
  · have g1 := e1.mpr d1
    refine ⟨Or.inl rfl, ?_⟩
    try dsimp only
    rw [if_pos rfl]
    exact z (a + 2) (bp_f (by omega) (by omega) (fun j h1 h2 => by rw [show j = 1 by omega]; exact g1) (fun q => d2 (e2.mp q))) _ h1 (h3.ff (Nat.le_refl _))
theorem M_all114 {S : RT} {c : Nat → Nat} {n a p : Nat} (hn : n ≤ 96) (hc : ∀ i, i < n → c i ≤ 255) (ha : a ≤ 100) (hp : p + 2 < 144) (t : TP c n S) (h17 : S 30 17 = nI (a + 1)) (hL : c a = 114) {Q : Int32 → RT → Prop} (y : bp c n a = none → ∀ S', S' 30 17 = nI (a + zln (c a)) → VL c S' p a → FF p S S' → Q 1 S') (z : ∀ x, bp c n a = some x → ∀ S', S' 30 17 = nI x → FF p S S' → Q 0 S') : wX7_readsAll S 114 (nI p) (fun r_7 S_6 => if r_7 = 0 then Q 0 S_6 else wX7_next S_6 (fun r_9 => if r_9 = 59 then (∀ S_11 : RT, S_11 = set2 S_6 30 17 (S_6 30 17 + 1) → Q 1 S_11) else Q 0 S_6)) := by
  have hl : zln (c a) = 4 := by rw [hL]; rfl
  rw [hl] at y
  have e1 := gd48 (c := c) (n := n) (a := a) (i := 1) (by rw [hL]; rfl)
  have e2 := gd48 (c := c) (n := n) (a := a) (i := 2) (by rw [hL]; rfl)
  have e3 := gd59 (c := c) (n := n) (a := a) (i := 3) (by rw [hL]; rfl)
  unfold wX7_readsAll
  rw [if_neg (by decide), if_neg (by decide), if_neg (by decide), if_neg (by decide)]
  refine M_rd1 hn hc (by omega) t h17 (by omega) (fun d1 S6 h1 h2 h3 => ?_) (fun d1 => ?_)
  try dsimp only
  · have g1 := e1.mpr d1
    have f6 : FF p S S6 := h3.ff (Nat.le_refl _)
    try dsimp only
    rw [if_neg bz_k, nI_1]
    refine M_rd1 hn hc (by omega) (t.ff f6) h1 (by omega) (fun d2 S7 k1 k2 k3 => ?_) (fun d2 => ?_)
    try dsimp only
    · have g2 := e2.mpr d2
      have f7 : FF p S S7 := f6.tr (k3.ff (by omega))
      have v0 : S7 15 p = nI (c (a + 1) - 48) := by rw [k3.2.2 p (by omega)]; exact h2
      have at7 := k1
      have v1 := k2
      try dsimp only
      rw [if_neg bz_k, if_neg bz_k]
      refine M_semi (e := a + 3) (p := p) hn hc (by omega) (t.ff f7) at7 (fun s S11 k1 k2 k3 => ?_) (fun s => ?_)
      try dsimp only
      · have g3 := e3.mpr s
        refine y (bp_g (by omega) (fun j h1 h2 => by rcases (show j = 1 ∨ j = 2 ∨ j = 3 by omega) with q | q | q <;> rw [q] <;> assumption)) S11 k1 ⟨fun q => absurd (hL.symm.trans q) (by decide), fun _ => (by rw [k2]; exact ⟨v0, v1⟩), fun q => absurd (hL.symm.trans q) (by decide), fun q => absurd (hL.symm.trans q) (by decide), fun q => absurd (hL.symm.trans q) (by decide), fun q => absurd (hL.symm.trans q) (by decide)⟩ (f7.tr k3)
      · exact z (a + 3) (bp_f (by omega) (by omega) (fun j h1 h2 => by rcases (show j = 1 ∨ j = 2 by omega) with q | q <;> rw [q] <;> assumption) (fun q => s (e3.mp q))) _ at7 f7
    · try dsimp only
      rw [if_pos rfl, if_pos rfl]
      exact z (a + 2) (bp_f (by omega) (by omega) (fun j h1 h2 => by rw [show j = 1 by omega]; exact g1) (fun q => d2 (e2.mp q))) _ h1 f6
  · try dsimp only
    rw [if_pos rfl, if_pos rfl]
    exact z (a + 1) (bp_f (by omega) (by omega) (fun j h1 h2 => by omega) (fun q => d1 (e1.mp q))) _ h17 FF.rf
theorem M_all115 {S : RT} {c : Nat → Nat} {n a p : Nat} (hn : n ≤ 96) (hc : ∀ i, i < n → c i ≤ 255) (ha : a ≤ 100) (hp : p + 2 < 144) (t : TP c n S) (h17 : S 30 17 = nI (a + 1)) (hL : c a = 115) {Q : Int32 → RT → Prop} (y : bp c n a = none → ∀ S', S' 30 17 = nI (a + zln (c a)) → VL c S' p a → FF p S S' → Q 1 S') (z : ∀ x, bp c n a = some x → ∀ S', S' 30 17 = nI x → FF p S S' → Q 0 S') : wX7_readsAll S 115 (nI p) (fun r_7 S_6 => if r_7 = 0 then Q 0 S_6 else wX7_next S_6 (fun r_9 => if r_9 = 59 then (∀ S_11 : RT, S_11 = set2 S_6 30 17 (S_6 30 17 + 1) → Q 1 S_11) else Q 0 S_6)) := by
  have hl : zln (c a) = 4 := by rw [hL]; rfl
  rw [hl] at y
  have e1 := gd48 (c := c) (n := n) (a := a) (i := 1) (by rw [hL]; rfl)
  have e2 := gd48 (c := c) (n := n) (a := a) (i := 2) (by rw [hL]; rfl)
  have e3 := gd59 (c := c) (n := n) (a := a) (i := 3) (by rw [hL]; rfl)
  unfold wX7_readsAll
  rw [if_neg (by decide), if_neg (by decide), if_neg (by decide), if_neg (by decide)]
  refine M_rd1 hn hc (by omega) t h17 (by omega) (fun d1 S6 h1 h2 h3 => ?_) (fun d1 => ?_)
  try dsimp only
  · have g1 := e1.mpr d1
    have f6 : FF p S S6 := h3.ff (Nat.le_refl _)
    try dsimp only
    rw [if_neg bz_k, nI_1]
    refine M_rd1 hn hc (by omega) (t.ff f6) h1 (by omega) (fun d2 S7 k1 k2 k3 => ?_) (fun d2 => ?_)
    try dsimp only
    · have g2 := e2.mpr d2
      have f7 : FF p S S7 := f6.tr (k3.ff (by omega))
      have v0 : S7 15 p = nI (c (a + 1) - 48) := by rw [k3.2.2 p (by omega)]; exact h2
      have at7 := k1
      have v1 := k2
      try dsimp only
      rw [if_neg bz_k, if_neg bz_k]
      refine M_semi (e := a + 3) (p := p) hn hc (by omega) (t.ff f7) at7 (fun s S11 k1 k2 k3 => ?_) (fun s => ?_)
      try dsimp only
      · have g3 := e3.mpr s
        refine y (bp_g (by omega) (fun j h1 h2 => by rcases (show j = 1 ∨ j = 2 ∨ j = 3 by omega) with q | q | q <;> rw [q] <;> assumption)) S11 k1 ⟨fun q => absurd (hL.symm.trans q) (by decide), fun q => absurd (hL.symm.trans q) (by decide), fun _ => (by rw [k2]; exact ⟨v0, v1⟩), fun q => absurd (hL.symm.trans q) (by decide), fun q => absurd (hL.symm.trans q) (by decide), fun q => absurd (hL.symm.trans q) (by decide)⟩ (f7.tr k3)
      · exact z (a + 3) (bp_f (by omega) (by omega) (fun j h1 h2 => by rcases (show j = 1 ∨ j = 2 by omega) with q | q <;> rw [q] <;> assumption) (fun q => s (e3.mp q))) _ at7 f7
    · try dsimp only
      rw [if_pos rfl, if_pos rfl]
      exact z (a + 2) (bp_f (by omega) (by omega) (fun j h1 h2 => by rw [show j = 1 by omega]; exact g1) (fun q => d2 (e2.mp q))) _ h1 f6
  · try dsimp only
    rw [if_pos rfl, if_pos rfl]
    exact z (a + 1) (bp_f (by omega) (by omega) (fun j h1 h2 => by omega) (fun q => d1 (e1.mp q))) _ h17 FF.rf
theorem M_all117 {S : RT} {c : Nat → Nat} {n a p : Nat} (hn : n ≤ 96) (hc : ∀ i, i < n → c i ≤ 255) (ha : a ≤ 100) (hp : p + 2 < 144) (t : TP c n S) (h17 : S 30 17 = nI (a + 1)) (hL : c a = 117) {Q : Int32 → RT → Prop} (y : bp c n a = none → ∀ S', S' 30 17 = nI (a + zln (c a)) → VL c S' p a → FF p S S' → Q 1 S') (z : ∀ x, bp c n a = some x → ∀ S', S' 30 17 = nI x → FF p S S' → Q 0 S') : wX7_readsAll S 117 (nI p) (fun r_7 S_6 => if r_7 = 0 then Q 0 S_6 else wX7_next S_6 (fun r_9 => if r_9 = 59 then (∀ S_11 : RT, S_11 = set2 S_6 30 17 (S_6 30 17 + 1) → Q 1 S_11) else Q 0 S_6)) := by
  have hl : zln (c a) = 5 := by rw [hL]; rfl
  rw [hl] at y
  have e1 := gd48 (c := c) (n := n) (a := a) (i := 1) (by rw [hL]; rfl)
  have e2 := gd48 (c := c) (n := n) (a := a) (i := 2) (by rw [hL]; rfl)
  have e3 := gd48 (c := c) (n := n) (a := a) (i := 3) (by rw [hL]; rfl)
  have e4 := gd59 (c := c) (n := n) (a := a) (i := 4) (by rw [hL]; rfl)
  unfold wX7_readsAll
  rw [if_neg (by decide), if_neg (by decide), if_neg (by decide), if_pos rfl]
  refine M_rd1 hn hc (by omega) t h17 (by omega) (fun d1 S6 h1 h2 h3 => ?_) (fun d1 => ?_)
  try dsimp only
  · have g1 := e1.mpr d1
    have f6 : FF p S S6 := h3.ff (Nat.le_refl _)
    try dsimp only
    rw [if_neg bz_k, nI_1]
    refine M_rd2 hn hc (by omega) (t.ff f6) h1 (by omega) (fun d2 d3 S7 k1 k2 k3 => ?_) (fun d2 => ?_) (fun d2 d3 S7 k1 k3 => ?_)
    try dsimp only
    · have g2 := e2.mpr d2
      have g3 := e3.mpr d3
      have f7 : FF p S S7 := f6.tr (k3.ff (by omega))
      have v0 : S7 15 p = nI (c (a + 1) - 48) := by rw [k3.2.2 p (by omega)]; exact h2
      have at7 := k1
      have v1 := k2
      try dsimp only
      rw [if_neg bz_k, if_neg bz_k]
      refine M_semi (e := a + 4) (p := p) hn hc (by omega) (t.ff f7) at7 (fun s S11 k1 k2 k3 => ?_) (fun s => ?_)
      try dsimp only
      · have g4 := e4.mpr s
        refine y (bp_g (by omega) (fun j h1 h2 => by rcases (show j = 1 ∨ j = 2 ∨ j = 3 ∨ j = 4 by omega) with q | q | q | q <;> rw [q] <;> assumption)) S11 k1 ⟨fun q => absurd (hL.symm.trans q) (by decide), fun q => absurd (hL.symm.trans q) (by decide), fun q => absurd (hL.symm.trans q) (by decide), fun q => absurd (hL.symm.trans q) (by decide), fun _ => (by rw [k2]; exact ⟨v0, v1⟩), fun q => absurd (hL.symm.trans q) (by decide)⟩ (f7.tr k3)
      · exact z (a + 4) (bp_f (by omega) (by omega) (fun j h1 h2 => by rcases (show j = 1 ∨ j = 2 ∨ j = 3 by omega) with q | q | q <;> rw [q] <;> assumption) (fun q => s (e4.mp q))) _ at7 f7
    · try dsimp only
      rw [if_pos rfl, if_pos rfl]
      exact z (a + 2) (bp_f (by omega) (by omega) (fun j h1 h2 => by rw [show j = 1 by omega]; exact g1) (fun q => d2 (e2.mp q))) _ h1 f6
    · have g2 := e2.mpr d2
      try dsimp only
      rw [if_pos rfl, if_pos rfl]
      exact z (a + 3) (bp_f (by omega) (by omega) (fun j h1 h2 => by rcases (show j = 1 ∨ j = 2 by omega) with q | q <;> rw [q] <;> assumption) (fun q => d3 (e3.mp q))) _ k1 (f6.tr (k3.ff (by omega)))
  · try dsimp only
    rw [if_pos rfl, if_pos rfl]
    exact z (a + 1) (bp_f (by omega) (by omega) (fun j h1 h2 => by omega) (fun q => d1 (e1.mp q))) _ h17 FF.rf
theorem M_all116 {S : RT} {c : Nat → Nat} {n a p : Nat} (hn : n ≤ 96) (hc : ∀ i, i < n → c i ≤ 255) (ha : a ≤ 100) (hp : p + 2 < 144) (t : TP c n S) (h17 : S 30 17 = nI (a + 1)) (hL : c a = 116) {Q : Int32 → RT → Prop} (y : bp c n a = none → ∀ S', S' 30 17 = nI (a + zln (c a)) → VL c S' p a → FF p S S' → Q 1 S') (z : ∀ x, bp c n a = some x → ∀ S', S' 30 17 = nI x → FF p S S' → Q 0 S') : wX7_readsAll S 116 (nI p) (fun r_7 S_6 => if r_7 = 0 then Q 0 S_6 else wX7_next S_6 (fun r_9 => if r_9 = 59 then (∀ S_11 : RT, S_11 = set2 S_6 30 17 (S_6 30 17 + 1) → Q 1 S_11) else Q 0 S_6)) := by
  have hl : zln (c a) = 6 := by rw [hL]; rfl
  rw [hl] at y
  have e1 := gd107 (c := c) (n := n) (a := a) (i := 1) (by rw [hL]; rfl)
  have e2 := gd48 (c := c) (n := n) (a := a) (i := 2) (by rw [hL]; rfl)
  have e3 := gd48 (c := c) (n := n) (a := a) (i := 3) (by rw [hL]; rfl)
  have e4 := gd48 (c := c) (n := n) (a := a) (i := 4) (by rw [hL]; rfl)
  have e5 := gd59 (c := c) (n := n) (a := a) (i := 5) (by rw [hL]; rfl)
  unfold wX7_readsAll
  rw [if_neg (by decide), if_neg (by decide), if_pos rfl]
  refine M_rdT hn hc (by omega) t h17 (by omega) (fun d1 d1k d2 d3 d4 S7 k1 w0 w1 w2 f7 => ?_) (fun b S7 k1 f7 => ?_) (fun d1 d1k b S7 k1 f7 => ?_) (fun d1 d1k d2 b S7 k1 f7 => ?_) (fun d1 d1k d2 d3 b S7 k1 f7 => ?_)
  try dsimp only
  · have g1 := e1.mpr ⟨d1, d1k⟩
    have g2 := e2.mpr d2
    have g3 := e3.mpr d3
    have g4 := e4.mpr d4
    have at7 := k1
    refine ⟨Or.inr rfl, ?_⟩
    try dsimp only
    rw [if_neg bz_k]
    refine M_semi (e := a + 5) (p := p) hn hc (by omega) (t.ff f7) at7 (fun s S11 k1 k2 k3 => ?_) (fun s => ?_)
    try dsimp only
    · have g5 := e5.mpr s
      refine y (bp_g (by omega) (fun j h1 h2 => by rcases (show j = 1 ∨ j = 2 ∨ j = 3 ∨ j = 4 ∨ j = 5 by omega) with q | q | q | q | q <;> rw [q] <;> assumption)) S11 k1 ⟨fun _ => (by rw [k2]; exact ⟨w0, w1, w2⟩), fun q => absurd (hL.symm.trans q) (by decide), fun q => absurd (hL.symm.trans q) (by decide), fun q => absurd (hL.symm.trans q) (by decide), fun q => absurd (hL.symm.trans q) (by decide), fun q => absurd (hL.symm.trans q) (by decide)⟩ (f7.tr k3)
    · exact z (a + 5) (bp_f (by omega) (by omega) (fun j h1 h2 => by rcases (show j = 1 ∨ j = 2 ∨ j = 3 ∨ j = 4 by omega) with q | q | q | q <;> rw [q] <;> assumption) (fun q => s (e5.mp q))) _ at7 f7
  · refine ⟨Or.inl rfl, ?_⟩
    try dsimp only
    rw [if_pos rfl]
    exact z (a + 1) (bp_f (by omega) (by omega) (fun j h1 h2 => by omega) (fun q => b (e1.mp q))) _ k1 f7
  · have g1 := e1.mpr ⟨d1, d1k⟩
    refine ⟨Or.inl rfl, ?_⟩
    try dsimp only
    rw [if_pos rfl]
    exact z (a + 2) (bp_f (by omega) (by omega) (fun j h1 h2 => by rw [show j = 1 by omega]; exact g1) (fun q => b (e2.mp q))) _ k1 f7
  · have g1 := e1.mpr ⟨d1, d1k⟩
    have g2 := e2.mpr d2
    refine ⟨Or.inl rfl, ?_⟩
    try dsimp only
    rw [if_pos rfl]
    exact z (a + 3) (bp_f (by omega) (by omega) (fun j h1 h2 => by rcases (show j = 1 ∨ j = 2 by omega) with q | q <;> rw [q] <;> assumption) (fun q => b (e3.mp q))) _ k1 f7
  · have g1 := e1.mpr ⟨d1, d1k⟩
    have g2 := e2.mpr d2
    have g3 := e3.mpr d3
    refine ⟨Or.inl rfl, ?_⟩
    try dsimp only
    rw [if_pos rfl]
    exact z (a + 4) (bp_f (by omega) (by omega) (fun j h1 h2 => by rcases (show j = 1 ∨ j = 2 ∨ j = 3 by omega) with q | q | q <;> rw [q] <;> assumption) (fun q => b (e4.mp q))) _ k1 f7
def FrR (k : Nat) (S S' : RT) : Prop := (∀ r, r ≠ 13 → r ≠ 14 → r ≠ 15 → r ≠ 30 → S' r = S r) ∧ (∀ j, j ≠ 17 → S' 30 j = S 30 j) ∧ (∀ i, i ≠ k → S' 13 i = S 13 i ∧ S' 14 i = S 14 i) ∧ ∀ i, i < 3 * k → S' 15 i = S 15 i
theorem M_st43 {S : RT} {c : Nat → Nat} {n a k : Nat} (hn : n ≤ 96) (hc : ∀ i, i < n → c i ≤ 255) (hk : k < 40) (t : TP c n S) (h17 : S 30 17 = nI a) (h18 : S 30 18 = nI k) (ha : a < n) (h0 : zln (c a) ≠ 0) {Q : Int32 → RT → Prop} (y : bp c n a = none → ∀ S', S' 30 17 = nI (a + zln (c a)) → S' 13 k = nI (c a) → S' 14 k = nI a → VL c S' (3 * k) a → FrR k S S' → Q 1 S') (z : ∀ x, bp c n a = some x → ∀ S', S' 30 17 = nI x → FrR k S S' → Q 0 S') : bX7_statement_43 Q S (nI (c a)) := by
  unfold bX7_statement_43
  rw [h18, nI_clamp (by omega)]
  refine ⟨(vin (by omega)).mpr (by omega), ?_⟩
  rintro S2 rfl
  have e2 : set2 S 13 k (nI (c a)) 30 18 = nI k := by rw [set2_a (by decide)]; exact h18
  have e3 : set2 S 13 k (nI (c a)) 30 17 = nI a := by rw [set2_a (by decide)]; exact h17
  rw [e2, e3, nI_clamp (by omega)]
  refine ⟨(vin (by omega)).mpr (by omega), ?_⟩
  rintro S4 rfl
  have e4 : set2 (set2 S 13 k (nI (c a))) 14 k (nI a) 30 17 = nI a := by rw [set2_a (by decide)]; exact e3
  rw [e4, nI_1]
  rintro S5 rfl
  have e5 : set2 (set2 (set2 S 13 k (nI (c a))) 14 k (nI a)) 30 17 (nI (a + 1)) 30 18 = nI k := by rw [set2_b (by decide), set2_a (by decide)]; exact e2
  have e6 : set2 (set2 (set2 S 13 k (nI (c a))) 14 k (nI a)) 30 17 (nI (a + 1)) 30 17 = nI (a + 1) := set2_s
  rw [e5, l3, pk_mul]
  have t5 : TP c n (set2 (set2 (set2 S 13 k (nI (c a))) 14 k (nI a)) 30 17 (nI (a + 1))) := ⟨by rw [set2_b (by decide), set2_a (by decide), set2_a (by decide)]; exact t.1, fun i hi => by rw [set2_a (by decide), set2_a (by decide), set2_a (by decide)]; exact t.2 i hi⟩
  have fin : ∀ S', FF (3 * k) (set2 (set2 (set2 S 13 k (nI (c a))) 14 k (nI a)) 30 17 (nI (a + 1))) S' → FrR k S S' ∧ S' 13 k = nI (c a) ∧ S' 14 k = nI a := by
    intro S' f
    refine ⟨⟨fun r q1 q2 q3 q4 => by rw [f.1 r q3 q4, set2_a q4, set2_a q2, set2_a q1], fun j q => by rw [f.2.1 j q, set2_b q, set2_a (by decide), set2_a (by decide)], fun i q => ⟨by rw [f.1 13 (by decide) (by decide), set2_a (by decide), set2_a (by decide), set2_b q], by rw [f.1 14 (by decide) (by decide), set2_a (by decide), set2_b q, set2_a (by decide)]⟩, fun i q => by rw [f.2.2 i q, set2_a (by decide), set2_a (by decide), set2_a (by decide)]⟩, ?_, ?_⟩
    · rw [f.1 13 (by decide) (by decide), set2_a (by decide), set2_a (by decide), set2_s]
    · rw [f.1 14 (by decide) (by decide), set2_a (by decide), set2_s]
  have Y : bp c n a = none → ∀ S', S' 30 17 = nI (a + zln (c a)) → VL c S' (3 * k) a → FF (3 * k) (set2 (set2 (set2 S 13 k (nI (c a))) 14 k (nI a)) 30 17 (nI (a + 1))) S' → Q 1 S' := fun b S' q1 q2 q3 => y b S' q1 (fin S' q3).2.1 (fin S' q3).2.2 q2 (fin S' q3).1
  have Z : ∀ x, bp c n a = some x → ∀ S', S' 30 17 = nI x → FF (3 * k) (set2 (set2 (set2 S 13 k (nI (c a))) 14 k (nI a)) 30 17 (nI (a + 1))) S' → Q 0 S' := fun x b S' q1 q3 => z x b S' q1 (fin S' q3).1
  generalize hS5 : set2 (set2 (set2 S 13 k (nI (c a))) 14 k (nI a)) 30 17 (nI (a + 1)) = S5 at e6 t5 Y Z ⊢
  rcases let6 (c a) with h | h | h | h | h | h | h
  · rw [show nI (c a) = 116 by rw [h]; rfl]
    exact M_all116 hn hc (by omega) (by omega) t5 e6 h Y Z
  · rw [show nI (c a) = 114 by rw [h]; rfl]
    exact M_all114 hn hc (by omega) (by omega) t5 e6 h Y Z
  · rw [show nI (c a) = 99 by rw [h]; rfl]
    exact M_all99 hn hc (by omega) (by omega) t5 e6 h Y Z
  · rw [show nI (c a) = 115 by rw [h]; rfl]
    exact M_all115 hn hc (by omega) (by omega) t5 e6 h Y Z
  · rw [show nI (c a) = 117 by rw [h]; rfl]
    exact M_all117 hn hc (by omega) (by omega) t5 e6 h Y Z
  · rw [show nI (c a) = 104 by rw [h]; rfl]
    exact M_all104 hn hc (by omega) (by omega) t5 e6 h Y Z
  · exact absurd h.1 h0
theorem M_stmt {S : RT} {c : Nat → Nat} {n a k : Nat} (hn : n ≤ 96) (hc : ∀ i, i < n → c i ≤ 255) (hk : k < 40) (t : TP c n S) (h17 : S 30 17 = nI a) (h18 : S 30 18 = nI k) (ha : a < n) {Q : Int32 → RT → Prop} (y : bp c n a = none → ∀ S', S' 30 17 = nI (a + zln (c a)) → S' 13 k = nI (c a) → S' 14 k = nI a → VL c S' (3 * k) a → FrR k S S' → Q 1 S') (z : ∀ x, bp c n a = some x → ∀ S', S' 30 17 = nI x → FrR k S S' → Q 0 S') : wX7_statement S Q := by
  have h255 := hc a ha
  unfold wX7_statement
  refine M_next hn (by omega) t h17 (fun _ => ?_) (fun d => absurd ha d)
  have go : zln (c a) ≠ 0 → bX7_statement_43 Q S (nI (c a)) := fun h0 => M_st43 hn hc hk t h17 h18 ha h0 y z
  have ne : ∀ v, v ≤ 255 → ¬ c a = v → ¬ nI (c a) = nI v := fun v hv q e => q ((nI_eq (by omega) (by omega)).mp e)
  by_cases q116 : c a = 116
  · rw [if_pos (show nI (c a) = 116 by rw [q116]; rfl)]
    exact go (by rw [q116]; decide)
  rw [if_neg (show ¬ nI (c a) = 116 from ne 116 (by decide) q116)]
  by_cases q114 : c a = 114
  · rw [if_pos (show nI (c a) = 114 by rw [q114]; rfl)]
    exact go (by rw [q114]; decide)
  rw [if_neg (show ¬ nI (c a) = 114 from ne 114 (by decide) q114)]
  by_cases q99 : c a = 99
  · rw [if_pos (show nI (c a) = 99 by rw [q99]; rfl)]
    exact go (by rw [q99]; decide)
  rw [if_neg (show ¬ nI (c a) = 99 from ne 99 (by decide) q99)]
  by_cases q115 : c a = 115
  · rw [if_pos (show nI (c a) = 115 by rw [q115]; rfl)]
    exact go (by rw [q115]; decide)
  rw [if_neg (show ¬ nI (c a) = 115 from ne 115 (by decide) q115)]
  by_cases q117 : c a = 117
  · rw [if_pos (show nI (c a) = 117 by rw [q117]; rfl)]
    exact go (by rw [q117]; decide)
  rw [if_neg (show ¬ nI (c a) = 117 from ne 117 (by decide) q117)]
  by_cases q104 : c a = 104
  · rw [if_pos (show nI (c a) = 104 by rw [q104]; rfl)]
    exact go (by rw [q104]; decide)
  rw [if_neg (show ¬ nI (c a) = 104 from ne 104 (by decide) q104)]
  have e0 : zln (c a) = 0 := by unfold zln; rw [if_neg q116, if_neg q114, if_neg q99, if_neg q115, if_neg q117, if_neg q104]
  exact z a (by unfold bp; rw [if_pos e0]) S h17 ⟨fun _ _ _ _ _ => rfl, fun _ _ => rfl, fun _ _ => ⟨rfl, rfl⟩, fun _ _ => rfl⟩
