/-! ===== PURE: the port kept and put back ===== -/
theorem l55 : (55 : Int32) = nI 55 := rfl
def svM (S : RT) (w : Nat) (p : PT) : Prop := S 19 (55 * w + 52) = nI (p 30 0) ∧ S 19 (55 * w + 53) = nI (p 30 1) ∧ S 19 (55 * w + 54) = nI (p 30 2) ∧ (∀ i, i < p 30 0 → S 19 (55 * w + i) = nI (p 0 i) ∧ S 19 (55 * w + 8 + i) = nI (p 1 i) ∧ S 19 (55 * w + 16 + i) = nI (p 2 i) ∧ S 19 (55 * w + 24 + i) = nI (p 3 i) ∧ S 19 (55 * w + 32 + i) = nI (p 4 i)) ∧ ∀ j, j < p 30 1 → S 19 (55 * w + 40 + j) = nI (p 5 j) ∧ S 19 (55 * w + 46 + j) = nI (p 6 j)
def KI (S : RT) (w c : Nat) (S' : RT) : Prop := S' 30 21 = 1 ∧ S' 30 22 = nI c ∧ (∀ a, a ≠ 19 → a ≠ 30 → S' a = S a) ∧ (∀ k, k ≠ 21 → k ≠ 22 → S' 30 k = S 30 k) ∧ (∀ b, b < 55 * w ∨ c ≤ b → S' 19 b = S 19 b) ∧ 55 * w ≤ c
def RF (S S' : RT) (r o n : Nat) : Prop := ∀ i, i < n → S' 19 (o + i) = S r i
theorem KI.put {S S' : RT} {w c r n : Nat} (h : KI S w c S') (hr : r ≠ 19) (hr2 : r ≠ 30) : KI S w (c + n) (putK S' r c n) ∧ RF S (putK S' r c n) r c n := by
  obtain ⟨h1, h2, h3, h4, h5, h6⟩ := h
  refine ⟨⟨?_, putK_22, ?_, ?_, ?_, by omega⟩, ?_⟩
  · rw [putK_21 (by decide)]; exact h1
  · intro a ha hb; rw [putK_a ha hb]; exact h3 a ha hb
  · intro k ha hb; rw [putK_21 hb]; exact h4 k ha hb
  · intro b hb; rw [putK_out (by omega)]; exact h5 b (by omega)
  · intro i hi; rw [putK_in (by omega), h3 r hr hr2, show c + i - c = i by omega]
theorem RF.put {S S' : RT} {r o n c r' k : Nat} (h : RF S S' r o n) (hc : o + n ≤ c) : RF S (putK S' r' c k) r o n := fun i hi => by rw [putK_out (by omega)]; exact h i hi
def RS (S' : RT) (o : Nat) (v : Int32) : Prop := S' 19 o = v
/-- one number is kept -/
def keep1 (S : RT) (c j : Nat) (v : Int32) : RT := set2 (set2 (set2 S 19 c v) 30 22 (nI (c + 1))) 30 j v
theorem M_keep1 {S : RT} {c j : Nat} {v : Int32} (h21 : S 30 21 = 1) (h22 : S 30 22 = nI c) (hc : c < 165) {Q : RT → Prop} (h : Q (keep1 S c j v)) : wX7_passOne S v (fun r S1 => ∀ S2 : RT, S2 = set2 S1 30 j r → Q S2) := by
  unfold wX7_passOne bX7_passOne_20 bX7_passOne_38
  rw [h21, if_neg bz_k, if_neg bz_k, h22, nI_clamp (by omega)]
  refine ⟨(vin (by omega)).mpr (by omega), ?_⟩
  rintro S3 rfl
  rw [set2_a (by decide), h22, nI_1]
  rintro S4 rfl S5 rfl
  exact h
theorem KI.one {S S' : RT} {w c j : Nat} {v : Int32} (h : KI S w c S') (hv : v = S 30 j) (hj : j ≠ 21 ∧ j ≠ 22) : KI S w (c + 1) (keep1 S' c j v) ∧ RS (keep1 S' c j v) c (S 30 j) := by
  obtain ⟨h1, h2, h3, h4, h5, h6⟩ := h
  unfold keep1
  refine ⟨⟨?_, ?_, ?_, ?_, ?_, by omega⟩, ?_⟩
  · rw [set2_b (Ne.symm hj.1), set2_b (by decide), set2_a (by decide)]; exact h1
  · rw [set2_b (Ne.symm hj.2), set2_s]
  · intro a ha hb; rw [set2_a hb, set2_a hb, set2_a ha]; exact h3 a ha hb
  · intro k ha hb
    by_cases hk : k = j
    · subst hk; rw [set2_s, hv]
    · rw [set2_b hk, set2_b hb, set2_a (by decide)]; exact h4 k ha hb
  · intro b hb; rw [set2_a (by decide), set2_a (by decide), set2_b (by omega)]; exact h5 b (by omega)
  · show _ = _
    rw [set2_a (by decide), set2_a (by decide), set2_s, hv]
theorem RF.one {S S' : RT} {r o n c j : Nat} {v : Int32} (h : RF S S' r o n) (hc : o + n ≤ c) : RF S (keep1 S' c j v) r o n := fun i hi => by unfold keep1; rw [set2_a (by decide), set2_a (by decide), set2_b (by omega)]; exact h i hi
theorem RS.one {S' : RT} {o c j : Nat} {v x : Int32} (h : RS S' o x) (hc : o < c) : RS (keep1 S' c j v) o x := by show _ = _; unfold keep1; rw [set2_a (by decide), set2_a (by decide), set2_b (by omega)]; exact h
/-- what keeping leaves as it was -/
def FrK (w : Nat) (S S' : RT) : Prop := (∀ a, a ≠ 19 → a ≠ 30 → S' a = S a) ∧ (∀ k, k ≠ 21 → k ≠ 22 → S' 30 k = S 30 k) ∧ ∀ b, (b < 55 * w ∨ 55 * w + 55 ≤ b) → S' 19 b = S 19 b
theorem M_keepAll {S : RT} {w : Nat} (hw : w ≤ 2) {p : PT} (hn : p 30 0 ≤ 8) (hm : p 30 1 ≤ 6) (hr : repM S p) {Q : RT → Prop} (h : ∀ S', repM S' p → svM S' w p → FrK w S S' → Q S') : wX7_passesAll S (nI w) 1 Q := by
  unfold wX7_passesAll
  rw [l55, pk_mul]
  rintro S1 rfl
  refine ⟨bz1, ?_⟩
  rintro S3 rfl
  have k0 : KI S w (55 * w) (set2 (set2 S 30 22 (nI (55 * w))) 30 21 1) := by
    refine ⟨set2_s, ?_, ?_, ?_, ?_, Nat.le_refl _⟩
    · rw [set2_b (by decide), set2_s]
    · intro a ha hb; rw [set2_a hb, set2_a hb]
    · intro k ha hb; rw [set2_b ha, set2_b hb]
    · intro b _; rw [set2_a (by decide), set2_a (by decide)]
  generalize set2 (set2 S 30 22 (nI (55 * w))) 30 21 1 = S3 at *
  refine M_keep_1 k0.1 k0.2.1 (by omega) ?_
  obtain ⟨k1, f1⟩ := k0.put (r := 1) (n := 8) (by decide) (by decide)
  generalize putK S3 1 (55 * w) 8 = S4 at *
  refine M_keep_2 k1.1 k1.2.1 (by omega) ?_
  have f1 := f1.put (r' := 2) (c := 55 * w + 8) (k := 8) (by omega)
  obtain ⟨k2, f2⟩ := k1.put (r := 2) (n := 8) (by decide) (by decide)
  generalize putK S4 2 (55 * w + 8) 8 = S5 at *
  refine M_keep_3 k2.1 k2.2.1 (by omega) ?_
  have f1 := f1.put (r' := 3) (c := 55 * w + 8 + 8) (k := 8) (by omega)
  have f2 := f2.put (r' := 3) (c := 55 * w + 8 + 8) (k := 8) (by omega)
  obtain ⟨k3, f3⟩ := k2.put (r := 3) (n := 8) (by decide) (by decide)
  generalize putK S5 3 (55 * w + 8 + 8) 8 = S6 at *
  refine M_keep_4 k3.1 k3.2.1 (by omega) ?_
  have f1 := f1.put (r' := 4) (c := 55 * w + 8 + 8 + 8) (k := 8) (by omega)
  have f2 := f2.put (r' := 4) (c := 55 * w + 8 + 8 + 8) (k := 8) (by omega)
  have f3 := f3.put (r' := 4) (c := 55 * w + 8 + 8 + 8) (k := 8) (by omega)
  obtain ⟨k4, f4⟩ := k3.put (r := 4) (n := 8) (by decide) (by decide)
  generalize putK S6 4 (55 * w + 8 + 8 + 8) 8 = S7 at *
  refine M_keep_5 k4.1 k4.2.1 (by omega) ?_
  have f1 := f1.put (r' := 5) (c := 55 * w + 8 + 8 + 8 + 8) (k := 8) (by omega)
  have f2 := f2.put (r' := 5) (c := 55 * w + 8 + 8 + 8 + 8) (k := 8) (by omega)
  have f3 := f3.put (r' := 5) (c := 55 * w + 8 + 8 + 8 + 8) (k := 8) (by omega)
  have f4 := f4.put (r' := 5) (c := 55 * w + 8 + 8 + 8 + 8) (k := 8) (by omega)
  obtain ⟨k5, f5⟩ := k4.put (r := 5) (n := 8) (by decide) (by decide)
  generalize putK S7 5 (55 * w + 8 + 8 + 8 + 8) 8 = S8 at *
  refine M_keep_6 k5.1 k5.2.1 (by omega) ?_
  have f1 := f1.put (r' := 6) (c := 55 * w + 8 + 8 + 8 + 8 + 8) (k := 6) (by omega)
  have f2 := f2.put (r' := 6) (c := 55 * w + 8 + 8 + 8 + 8 + 8) (k := 6) (by omega)
  have f3 := f3.put (r' := 6) (c := 55 * w + 8 + 8 + 8 + 8 + 8) (k := 6) (by omega)
  have f4 := f4.put (r' := 6) (c := 55 * w + 8 + 8 + 8 + 8 + 8) (k := 6) (by omega)
  have f5 := f5.put (r' := 6) (c := 55 * w + 8 + 8 + 8 + 8 + 8) (k := 6) (by omega)
  obtain ⟨k6, f6⟩ := k5.put (r := 6) (n := 6) (by decide) (by decide)
  generalize putK S8 6 (55 * w + 8 + 8 + 8 + 8 + 8) 6 = S9 at *
  refine M_keep_7 k6.1 k6.2.1 (by omega) ?_
  have f1 := f1.put (r' := 7) (c := 55 * w + 8 + 8 + 8 + 8 + 8 + 6) (k := 6) (by omega)
  have f2 := f2.put (r' := 7) (c := 55 * w + 8 + 8 + 8 + 8 + 8 + 6) (k := 6) (by omega)
  have f3 := f3.put (r' := 7) (c := 55 * w + 8 + 8 + 8 + 8 + 8 + 6) (k := 6) (by omega)
  have f4 := f4.put (r' := 7) (c := 55 * w + 8 + 8 + 8 + 8 + 8 + 6) (k := 6) (by omega)
  have f5 := f5.put (r' := 7) (c := 55 * w + 8 + 8 + 8 + 8 + 8 + 6) (k := 6) (by omega)
  have f6 := f6.put (r' := 7) (c := 55 * w + 8 + 8 + 8 + 8 + 8 + 6) (k := 6) (by omega)
  obtain ⟨k7, f7⟩ := k6.put (r := 7) (n := 6) (by decide) (by decide)
  generalize putK S9 7 (55 * w + 8 + 8 + 8 + 8 + 8 + 6) 6 = S10 at *
  refine M_keep1 k7.1 k7.2.1 (by omega) ?_
  have e8 : S10 30 8 = S 30 8 := k7.2.2.2.1 8 (by decide) (by decide)
  have f1 := f1.one (c := 55 * w + 8 + 8 + 8 + 8 + 8 + 6 + 6) (j := 8) (v := S10 30 8) (by omega)
  have f2 := f2.one (c := 55 * w + 8 + 8 + 8 + 8 + 8 + 6 + 6) (j := 8) (v := S10 30 8) (by omega)
  have f3 := f3.one (c := 55 * w + 8 + 8 + 8 + 8 + 8 + 6 + 6) (j := 8) (v := S10 30 8) (by omega)
  have f4 := f4.one (c := 55 * w + 8 + 8 + 8 + 8 + 8 + 6 + 6) (j := 8) (v := S10 30 8) (by omega)
  have f5 := f5.one (c := 55 * w + 8 + 8 + 8 + 8 + 8 + 6 + 6) (j := 8) (v := S10 30 8) (by omega)
  have f6 := f6.one (c := 55 * w + 8 + 8 + 8 + 8 + 8 + 6 + 6) (j := 8) (v := S10 30 8) (by omega)
  have f7 := f7.one (c := 55 * w + 8 + 8 + 8 + 8 + 8 + 6 + 6) (j := 8) (v := S10 30 8) (by omega)
  obtain ⟨k8, g8⟩ := k7.one (j := 8) e8 (by decide)
  generalize keep1 S10 (55 * w + 8 + 8 + 8 + 8 + 8 + 6 + 6) 8 (S10 30 8) = S11 at *
  refine M_keep1 k8.1 k8.2.1 (by omega) ?_
  have e9 : S11 30 9 = S 30 9 := k8.2.2.2.1 9 (by decide) (by decide)
  have f1 := f1.one (c := 55 * w + 8 + 8 + 8 + 8 + 8 + 6 + 6 + 1) (j := 9) (v := S11 30 9) (by omega)
  have f2 := f2.one (c := 55 * w + 8 + 8 + 8 + 8 + 8 + 6 + 6 + 1) (j := 9) (v := S11 30 9) (by omega)
  have f3 := f3.one (c := 55 * w + 8 + 8 + 8 + 8 + 8 + 6 + 6 + 1) (j := 9) (v := S11 30 9) (by omega)
  have f4 := f4.one (c := 55 * w + 8 + 8 + 8 + 8 + 8 + 6 + 6 + 1) (j := 9) (v := S11 30 9) (by omega)
  have f5 := f5.one (c := 55 * w + 8 + 8 + 8 + 8 + 8 + 6 + 6 + 1) (j := 9) (v := S11 30 9) (by omega)
  have f6 := f6.one (c := 55 * w + 8 + 8 + 8 + 8 + 8 + 6 + 6 + 1) (j := 9) (v := S11 30 9) (by omega)
  have f7 := f7.one (c := 55 * w + 8 + 8 + 8 + 8 + 8 + 6 + 6 + 1) (j := 9) (v := S11 30 9) (by omega)
  have g8 := g8.one (c := 55 * w + 8 + 8 + 8 + 8 + 8 + 6 + 6 + 1) (j := 9) (v := S11 30 9) (by omega)
  obtain ⟨k9, g9⟩ := k8.one (j := 9) e9 (by decide)
  generalize keep1 S11 (55 * w + 8 + 8 + 8 + 8 + 8 + 6 + 6 + 1) 9 (S11 30 9) = S12 at *
  refine M_keep1 k9.1 k9.2.1 (by omega) ?_
  have e10 : S12 30 10 = S 30 10 := k9.2.2.2.1 10 (by decide) (by decide)
  have f1 := f1.one (c := 55 * w + 8 + 8 + 8 + 8 + 8 + 6 + 6 + 1 + 1) (j := 10) (v := S12 30 10) (by omega)
  have f2 := f2.one (c := 55 * w + 8 + 8 + 8 + 8 + 8 + 6 + 6 + 1 + 1) (j := 10) (v := S12 30 10) (by omega)
  have f3 := f3.one (c := 55 * w + 8 + 8 + 8 + 8 + 8 + 6 + 6 + 1 + 1) (j := 10) (v := S12 30 10) (by omega)
  have f4 := f4.one (c := 55 * w + 8 + 8 + 8 + 8 + 8 + 6 + 6 + 1 + 1) (j := 10) (v := S12 30 10) (by omega)
  have f5 := f5.one (c := 55 * w + 8 + 8 + 8 + 8 + 8 + 6 + 6 + 1 + 1) (j := 10) (v := S12 30 10) (by omega)
  have f6 := f6.one (c := 55 * w + 8 + 8 + 8 + 8 + 8 + 6 + 6 + 1 + 1) (j := 10) (v := S12 30 10) (by omega)
  have f7 := f7.one (c := 55 * w + 8 + 8 + 8 + 8 + 8 + 6 + 6 + 1 + 1) (j := 10) (v := S12 30 10) (by omega)
  have g8 := g8.one (c := 55 * w + 8 + 8 + 8 + 8 + 8 + 6 + 6 + 1 + 1) (j := 10) (v := S12 30 10) (by omega)
  have g9 := g9.one (c := 55 * w + 8 + 8 + 8 + 8 + 8 + 6 + 6 + 1 + 1) (j := 10) (v := S12 30 10) (by omega)
  obtain ⟨kA, gA⟩ := k9.one (j := 10) e10 (by decide)
  generalize keep1 S12 (55 * w + 8 + 8 + 8 + 8 + 8 + 6 + 6 + 1 + 1) 10 (S12 30 10) = S13 at *
  obtain ⟨r1, r2, r3, r4, r5⟩ := hr
  refine h S13 ⟨?_, ?_, ?_, ?_, ?_⟩ ⟨?_, ?_, ?_, ?_, ?_⟩ ⟨kA.2.2.1, kA.2.2.2.1, fun b hb => kA.2.2.2.2.1 b (by omega)⟩
  · rw [kA.2.2.2.1 8 (by decide) (by decide)]; exact r1
  · rw [kA.2.2.2.1 9 (by decide) (by decide)]; exact r2
  · rw [kA.2.2.2.1 10 (by decide) (by decide)]; exact r3
  · intro i hi
    rw [kA.2.2.1 1 (by decide) (by decide), kA.2.2.1 2 (by decide) (by decide), kA.2.2.1 3 (by decide) (by decide), kA.2.2.1 4 (by decide) (by decide), kA.2.2.1 5 (by decide) (by decide)]
    exact r4 i hi
  · intro j hj
    rw [kA.2.2.1 6 (by decide) (by decide), kA.2.2.1 7 (by decide) (by decide)]
    exact r5 j hj
  · rw [← r1]; exact g8
  · rw [← r2]; exact g9
  · rw [← r3]; exact gA
  · intro i hi
    obtain ⟨a, b, c, d, e⟩ := r4 i hi
    rw [← a, ← b, ← c, ← d, ← e]
    exact ⟨f1 i (by omega), f2 i (by omega), f3 i (by omega), f4 i (by omega), f5 i (by omega)⟩
  · intro j hj
    obtain ⟨a, b⟩ := r5 j hj
    rw [← a, ← b]
    exact ⟨f6 j (by omega), f7 j (by omega)⟩
def GI (S : RT) (c : Nat) (S' : RT) : Prop := S' 30 21 = 0 ∧ S' 30 22 = nI c ∧ S' 19 = S 19 ∧ (∀ a, (a = 0 ∨ 8 ≤ a) → a ≠ 30 → S' a = S a) ∧ (∀ k, k ≠ 8 → k ≠ 9 → k ≠ 10 → k ≠ 21 → k ≠ 22 → S' 30 k = S 30 k)
def RG (S S' : RT) (r o n : Nat) : Prop := ∀ i, i < n → S' r i = S 19 (o + i)
theorem GI.get {S S' : RT} {c r n : Nat} (h : GI S c S') (hr : 0 < r ∧ r < 8) : GI S (c + n) (getK S' r c n) ∧ RG S (getK S' r c n) r c n := by
  obtain ⟨h1, h2, h3, h4, h5⟩ := h
  refine ⟨⟨?_, getK_22 (by omega), ?_, ?_, ?_⟩, ?_⟩
  · rw [getK_21 (by omega) (by decide)]; exact h1
  · rw [getK_a (by omega) (by decide)]; exact h3
  · intro a ha hb; rw [getK_a (by omega) hb]; exact h4 a ha hb
  · intro k a b c d e; rw [getK_21 (by omega) e]; exact h5 k a b c d e
  · intro i hi; rw [getK_in hi, h3]
theorem RG.get {S S' : RT} {r o n c r' k : Nat} (h : RG S S' r o n) (hr : r ≠ r') (hr2 : r ≠ 30) : RG S (getK S' r' c k) r o n := fun i hi => by rw [getK_a hr hr2]; exact h i hi
def back1 (S : RT) (c j : Nat) : RT := set2 (set2 S 30 22 (nI (c + 1))) 30 j (S 19 c)
theorem M_back1 {S : RT} {c j : Nat} {v : Int32} (h21 : S 30 21 = 0) (h22 : S 30 22 = nI c) (hc : c < 165) {Q : RT → Prop} (h : Q (back1 S c j)) : wX7_passOne S v (fun r S1 => ∀ S2 : RT, S2 = set2 S1 30 j r → Q S2) := by
  unfold wX7_passOne bX7_passOne_20 bX7_passOne_38
  rw [h21, if_pos rfl, if_pos rfl, h22, nI_clamp (by omega)]
  refine ⟨(vin (by omega)).mpr (by omega), ?_⟩
  rw [nI_1]
  rintro S4 rfl S5 rfl
  exact h
theorem GI.one {S S' : RT} {c j : Nat} (h : GI S c S') (hj : j = 8 ∨ j = 9 ∨ j = 10) : GI S (c + 1) (back1 S' c j) ∧ back1 S' c j 30 j = S 19 c := by
  obtain ⟨h1, h2, h3, h4, h5⟩ := h
  unfold back1
  refine ⟨⟨?_, ?_, ?_, ?_, ?_⟩, ?_⟩
  · rw [set2_b (by omega), set2_b (by decide)]; exact h1
  · rw [set2_b (by omega), set2_s]
  · rw [set2_a (by decide), set2_a (by decide)]; exact h3
  · intro a ha hb; rw [set2_a hb, set2_a hb]; exact h4 a ha hb
  · intro k a b c d e; rw [set2_b (by omega), set2_b e]; exact h5 k a b c d e
  · rw [set2_s, h3]
theorem RG.one {S S' : RT} {r o n c j : Nat} (h : RG S S' r o n) (hr : r ≠ 30) : RG S (back1 S' c j) r o n := fun i hi => by unfold back1; rw [set2_a hr, set2_a hr]; exact h i hi
theorem back1_b {S : RT} {c j k : Nat} (h : k ≠ j) (h2 : k ≠ 22) : back1 S c j 30 k = S 30 k := by unfold back1; rw [set2_b h, set2_b h2]
/-- what putting back leaves as it was -/
def FrB (S S' : RT) : Prop := S' 19 = S 19 ∧ (∀ a, (a = 0 ∨ 8 ≤ a) → a ≠ 30 → S' a = S a) ∧ ∀ k, k ≠ 8 → k ≠ 9 → k ≠ 10 → k ≠ 21 → k ≠ 22 → S' 30 k = S 30 k
theorem M_backAll {S : RT} {w : Nat} (hw : w ≤ 2) {p : PT} (hn : p 30 0 ≤ 8) (hm : p 30 1 ≤ 6) (hr : svM S w p) {Q : RT → Prop} (h : ∀ S', repM S' p → FrB S S' → Q S') : wX7_passesAll S (nI w) 0 Q := by
  unfold wX7_passesAll
  rw [l55, pk_mul]
  rintro S1 rfl
  refine ⟨bz0, ?_⟩
  rintro S3 rfl
  have k0 : GI S (55 * w) (set2 (set2 S 30 22 (nI (55 * w))) 30 21 0) := by
    refine ⟨set2_s, ?_, ?_, ?_, ?_⟩
    · rw [set2_b (by decide), set2_s]
    · rw [set2_a (by decide), set2_a (by decide)]
    · intro a ha hb; rw [set2_a hb, set2_a hb]
    · intro k _ _ _ ha hb; rw [set2_b ha, set2_b hb]
  generalize set2 (set2 S 30 22 (nI (55 * w))) 30 21 0 = S3 at *
  refine M_back_1 k0.1 k0.2.1 (by omega) ?_
  obtain ⟨k1, f1⟩ := k0.get (r := 1) (n := 8) (by decide)
  generalize getK S3 1 (55 * w) 8 = S4 at *
  refine M_back_2 k1.1 k1.2.1 (by omega) ?_
  have f1 := f1.get (r' := 2) (c := 55 * w + 8) (k := 8) (by decide) (by decide)
  obtain ⟨k2, f2⟩ := k1.get (r := 2) (n := 8) (by decide)
  generalize getK S4 2 (55 * w + 8) 8 = S5 at *
  refine M_back_3 k2.1 k2.2.1 (by omega) ?_
  have f1 := f1.get (r' := 3) (c := 55 * w + 8 + 8) (k := 8) (by decide) (by decide)
  have f2 := f2.get (r' := 3) (c := 55 * w + 8 + 8) (k := 8) (by decide) (by decide)
  obtain ⟨k3, f3⟩ := k2.get (r := 3) (n := 8) (by decide)
  generalize getK S5 3 (55 * w + 8 + 8) 8 = S6 at *
  refine M_back_4 k3.1 k3.2.1 (by omega) ?_
  have f1 := f1.get (r' := 4) (c := 55 * w + 8 + 8 + 8) (k := 8) (by decide) (by decide)
  have f2 := f2.get (r' := 4) (c := 55 * w + 8 + 8 + 8) (k := 8) (by decide) (by decide)
  have f3 := f3.get (r' := 4) (c := 55 * w + 8 + 8 + 8) (k := 8) (by decide) (by decide)
  obtain ⟨k4, f4⟩ := k3.get (r := 4) (n := 8) (by decide)
  generalize getK S6 4 (55 * w + 8 + 8 + 8) 8 = S7 at *
  refine M_back_5 k4.1 k4.2.1 (by omega) ?_
  have f1 := f1.get (r' := 5) (c := 55 * w + 8 + 8 + 8 + 8) (k := 8) (by decide) (by decide)
  have f2 := f2.get (r' := 5) (c := 55 * w + 8 + 8 + 8 + 8) (k := 8) (by decide) (by decide)
  have f3 := f3.get (r' := 5) (c := 55 * w + 8 + 8 + 8 + 8) (k := 8) (by decide) (by decide)
  have f4 := f4.get (r' := 5) (c := 55 * w + 8 + 8 + 8 + 8) (k := 8) (by decide) (by decide)
  obtain ⟨k5, f5⟩ := k4.get (r := 5) (n := 8) (by decide)
  generalize getK S7 5 (55 * w + 8 + 8 + 8 + 8) 8 = S8 at *
  refine M_back_6 k5.1 k5.2.1 (by omega) ?_
  have f1 := f1.get (r' := 6) (c := 55 * w + 8 + 8 + 8 + 8 + 8) (k := 6) (by decide) (by decide)
  have f2 := f2.get (r' := 6) (c := 55 * w + 8 + 8 + 8 + 8 + 8) (k := 6) (by decide) (by decide)
  have f3 := f3.get (r' := 6) (c := 55 * w + 8 + 8 + 8 + 8 + 8) (k := 6) (by decide) (by decide)
  have f4 := f4.get (r' := 6) (c := 55 * w + 8 + 8 + 8 + 8 + 8) (k := 6) (by decide) (by decide)
  have f5 := f5.get (r' := 6) (c := 55 * w + 8 + 8 + 8 + 8 + 8) (k := 6) (by decide) (by decide)
  obtain ⟨k6, f6⟩ := k5.get (r := 6) (n := 6) (by decide)
  generalize getK S8 6 (55 * w + 8 + 8 + 8 + 8 + 8) 6 = S9 at *
  refine M_back_7 k6.1 k6.2.1 (by omega) ?_
  have f1 := f1.get (r' := 7) (c := 55 * w + 8 + 8 + 8 + 8 + 8 + 6) (k := 6) (by decide) (by decide)
  have f2 := f2.get (r' := 7) (c := 55 * w + 8 + 8 + 8 + 8 + 8 + 6) (k := 6) (by decide) (by decide)
  have f3 := f3.get (r' := 7) (c := 55 * w + 8 + 8 + 8 + 8 + 8 + 6) (k := 6) (by decide) (by decide)
  have f4 := f4.get (r' := 7) (c := 55 * w + 8 + 8 + 8 + 8 + 8 + 6) (k := 6) (by decide) (by decide)
  have f5 := f5.get (r' := 7) (c := 55 * w + 8 + 8 + 8 + 8 + 8 + 6) (k := 6) (by decide) (by decide)
  have f6 := f6.get (r' := 7) (c := 55 * w + 8 + 8 + 8 + 8 + 8 + 6) (k := 6) (by decide) (by decide)
  obtain ⟨k7, f7⟩ := k6.get (r := 7) (n := 6) (by decide)
  generalize getK S9 7 (55 * w + 8 + 8 + 8 + 8 + 8 + 6) 6 = S10 at *
  refine M_back1 k7.1 k7.2.1 (by omega) ?_
  have f1 := f1.one (c := 55 * w + 8 + 8 + 8 + 8 + 8 + 6 + 6) (j := 8) (by decide)
  have f2 := f2.one (c := 55 * w + 8 + 8 + 8 + 8 + 8 + 6 + 6) (j := 8) (by decide)
  have f3 := f3.one (c := 55 * w + 8 + 8 + 8 + 8 + 8 + 6 + 6) (j := 8) (by decide)
  have f4 := f4.one (c := 55 * w + 8 + 8 + 8 + 8 + 8 + 6 + 6) (j := 8) (by decide)
  have f5 := f5.one (c := 55 * w + 8 + 8 + 8 + 8 + 8 + 6 + 6) (j := 8) (by decide)
  have f6 := f6.one (c := 55 * w + 8 + 8 + 8 + 8 + 8 + 6 + 6) (j := 8) (by decide)
  have f7 := f7.one (c := 55 * w + 8 + 8 + 8 + 8 + 8 + 6 + 6) (j := 8) (by decide)
  obtain ⟨k8, g8⟩ := k7.one (j := 8) (by decide)
  generalize back1 S10 (55 * w + 8 + 8 + 8 + 8 + 8 + 6 + 6) 8 = S11 at *
  refine M_back1 k8.1 k8.2.1 (by omega) ?_
  have f1 := f1.one (c := 55 * w + 8 + 8 + 8 + 8 + 8 + 6 + 6 + 1) (j := 9) (by decide)
  have f2 := f2.one (c := 55 * w + 8 + 8 + 8 + 8 + 8 + 6 + 6 + 1) (j := 9) (by decide)
  have f3 := f3.one (c := 55 * w + 8 + 8 + 8 + 8 + 8 + 6 + 6 + 1) (j := 9) (by decide)
  have f4 := f4.one (c := 55 * w + 8 + 8 + 8 + 8 + 8 + 6 + 6 + 1) (j := 9) (by decide)
  have f5 := f5.one (c := 55 * w + 8 + 8 + 8 + 8 + 8 + 6 + 6 + 1) (j := 9) (by decide)
  have f6 := f6.one (c := 55 * w + 8 + 8 + 8 + 8 + 8 + 6 + 6 + 1) (j := 9) (by decide)
  have f7 := f7.one (c := 55 * w + 8 + 8 + 8 + 8 + 8 + 6 + 6 + 1) (j := 9) (by decide)
  have g8 : back1 S11 (55 * w + 8 + 8 + 8 + 8 + 8 + 6 + 6 + 1) 9 30 8 = S 19 (55 * w + 8 + 8 + 8 + 8 + 8 + 6 + 6) := by rw [back1_b (by decide) (by decide)]; exact g8
  obtain ⟨k9, g9⟩ := k8.one (j := 9) (by decide)
  generalize back1 S11 (55 * w + 8 + 8 + 8 + 8 + 8 + 6 + 6 + 1) 9 = S12 at *
  refine M_back1 k9.1 k9.2.1 (by omega) ?_
  have f1 := f1.one (c := 55 * w + 8 + 8 + 8 + 8 + 8 + 6 + 6 + 1 + 1) (j := 10) (by decide)
  have f2 := f2.one (c := 55 * w + 8 + 8 + 8 + 8 + 8 + 6 + 6 + 1 + 1) (j := 10) (by decide)
  have f3 := f3.one (c := 55 * w + 8 + 8 + 8 + 8 + 8 + 6 + 6 + 1 + 1) (j := 10) (by decide)
  have f4 := f4.one (c := 55 * w + 8 + 8 + 8 + 8 + 8 + 6 + 6 + 1 + 1) (j := 10) (by decide)
  have f5 := f5.one (c := 55 * w + 8 + 8 + 8 + 8 + 8 + 6 + 6 + 1 + 1) (j := 10) (by decide)
  have f6 := f6.one (c := 55 * w + 8 + 8 + 8 + 8 + 8 + 6 + 6 + 1 + 1) (j := 10) (by decide)
  have f7 := f7.one (c := 55 * w + 8 + 8 + 8 + 8 + 8 + 6 + 6 + 1 + 1) (j := 10) (by decide)
  have g8 : back1 S12 (55 * w + 8 + 8 + 8 + 8 + 8 + 6 + 6 + 1 + 1) 10 30 8 = S 19 (55 * w + 8 + 8 + 8 + 8 + 8 + 6 + 6) := by rw [back1_b (by decide) (by decide)]; exact g8
  have g9 : back1 S12 (55 * w + 8 + 8 + 8 + 8 + 8 + 6 + 6 + 1 + 1) 10 30 9 = S 19 (55 * w + 8 + 8 + 8 + 8 + 8 + 6 + 6 + 1) := by rw [back1_b (by decide) (by decide)]; exact g9
  obtain ⟨kA, gA⟩ := k9.one (j := 10) (by decide)
  generalize back1 S12 (55 * w + 8 + 8 + 8 + 8 + 8 + 6 + 6 + 1 + 1) 10 = S13 at *
  obtain ⟨r1, r2, r3, r4, r5⟩ := hr
  refine h S13 ⟨?_, ?_, ?_, ?_, ?_⟩ ⟨kA.2.2.1, kA.2.2.2.1, kA.2.2.2.2⟩
  · rw [← r1]; exact g8
  · rw [← r2]; exact g9
  · rw [← r3]; exact gA
  · intro i hi
    obtain ⟨a, b, c, d, e⟩ := r4 i hi
    rw [← a, ← b, ← c, ← d, ← e]
    exact ⟨f1 i (by omega), f2 i (by omega), f3 i (by omega), f4 i (by omega), f5 i (by omega)⟩
  · intro j hj
    obtain ⟨a, b⟩ := r5 j hj
    rw [← a, ← b]
    exact ⟨f6 j (by omega), f7 j (by omega)⟩
