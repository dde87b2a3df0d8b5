/-! ===== PURE: ropes, sums, hours, letters, told numbers, the image (laid by wip/whole/p48.py) ===== -/
def addP (p : PT) (a b : Nat) : PT := setN (setN (setN p 5 (p 30 1) a) 6 (p 30 1) b) 30 1 (p 30 1 + 1)
theorem okP_add {B : Nat} {p : PT} {a b : Nat} (ok : okP B p) (hm : p 30 1 < 6) (ha : a < p 30 0) (hb : b < p 30 0) (hab : a ≠ b) : okP B (addP p a b) := by
  obtain ⟨r1, r2, r3, r4, r5⟩ := ok
  refine ⟨r1, ?_, r3, fun i hi => r4 i hi, fun j hj => ?_⟩
  · show p 30 1 + 1 ≤ 6
    omega
  · have hj : j < p 30 1 + 1 := hj
    show (if j = p 30 1 then a else p 5 j) < p 30 0 ∧ (if j = p 30 1 then b else p 6 j) < p 30 0 ∧ (if j = p 30 1 then a else p 5 j) ≠ (if j = p 30 1 then b else p 6 j)
    by_cases e : j = p 30 1
    · rw [if_pos e, if_pos e]; exact ⟨ha, hb, hab⟩
    · rw [if_neg e, if_neg e]; exact r5 j (by omega)
theorem X_addRope {P : RT} {p : PT} {a b : Nat} (hm : p 30 1 < 6) (hr : repX P p) {Q : Int32 → RT → Prop} (h : ∀ P', repX P' (addP p a b) → Q (nI (p 30 1)) P') : wX3_addRope P (nI a) (nI b) Q := by
  obtain ⟨r1, r2, r3, r4, r5⟩ := hr
  unfold wX3_addRope
  rw [r2, nI_clamp (by omega)]
  refine ⟨(vin (by omega)).mpr hm, ?_⟩
  rintro P2 rfl
  rw [set2_a (by decide), r2, nI_clamp (by omega)]
  refine ⟨(vin (by omega)).mpr hm, ?_⟩
  rintro P4 rfl
  rw [set2_a (by decide), set2_a (by decide), r2, nI_1]
  rintro P5 rfl
  rw [set2_s, show nI (p 30 1 + 1) - 1 = nI (p 30 1) from nI_pred _]
  refine h _ ⟨r1, rfl, r3, fun i hi => r4 i hi, fun j hj => ?_⟩
  have hj : j < p 30 1 + 1 := hj
  show (if j = p 30 1 then nI a else P 5 j) = nI (if j = p 30 1 then a else p 5 j) ∧ (if j = p 30 1 then nI b else P 6 j) = nI (if j = p 30 1 then b else p 6 j)
  by_cases e : j = p 30 1
  · simp only [if_pos e]; exact ⟨trivial, trivial⟩
  · simp only [if_neg e]; exact r5 j (by omega)
theorem M_adds {S : RT} {p : PT} {a b : Nat} (hm : p 30 1 < 6) (hr : repM S p) {Q : RT → Prop} (h : ∀ S', repM S' (addP p a b) → agr 165 S S' → (∀ r, r ≠ 6 → r ≠ 7 → r ≠ 30 → S' r = S r) → (∀ k, k ≠ 9 → S' 30 k = S 30 k) → (∀ j, j ≠ p 30 1 → S' 6 j = S 6 j ∧ S' 7 j = S 7 j) → Q S') : wX7_adds S (nI a) (nI b) Q := by
  obtain ⟨r1, r2, r3, r4, r5⟩ := hr
  unfold wX7_adds
  rw [r2, nI_clamp (by omega)]
  refine ⟨(vin (by omega)).mpr hm, ?_⟩
  rintro P2 rfl
  rw [set2_a (by decide), r2, nI_clamp (by omega)]
  refine ⟨(vin (by omega)).mpr hm, ?_⟩
  rintro P4 rfl
  rw [set2_a (by decide), set2_a (by decide), r2, nI_1]
  rintro P5 rfl
  refine h _ ⟨r1, rfl, r3, fun i hi => r4 i hi, fun j hj => ?_⟩ ((agr.set (by omega)).tr ((agr.set (by omega)).tr (agr.sc (by omega)))) (fun r e1 e2 e3 => by rw [set2_a e3, set2_a e2, set2_a e1]) (fun k e => by rw [set2_b e, set2_a (by decide), set2_a (by decide)]) (fun j e => ⟨by rw [set2_a (by decide), set2_a (by decide), set2_b e], by rw [set2_a (by decide), set2_b e, set2_a (by decide)]⟩)
  have hj : j < p 30 1 + 1 := hj
  show (if j = p 30 1 then nI a else S 6 j) = nI (if j = p 30 1 then a else p 5 j) ∧ (if j = p 30 1 then nI b else S 7 j) = nI (if j = p 30 1 then b else p 6 j)
  by_cases e : j = p 30 1
  · simp only [if_pos e]; exact ⟨trivial, trivial⟩
  · simp only [if_neg e]; exact r5 j (by omega)
def dropP (p : PT) (r : Nat) : PT := fun a i => if a = 5 ∨ a = 6 then (if r ≤ i then p a (i + 1) else p a i) else if a = 30 ∧ i = 1 then p 30 1 - 1 else p a i
def dK (u v : Nat) (P : RT) (r k : Nat) : RT := fun a i => if (a = u ∨ a = v) ∧ r ≤ i ∧ i < k then P a (i + 1) else P a i
theorem dK_0 {u v r : Nat} {P : RT} : dK u v P r r = P := by funext a i; unfold dK; rw [if_neg (by omega)]
theorem dK_a {u v r k a : Nat} {P : RT} (h : a ≠ u) (h2 : a ≠ v) : dK u v P r k a = P a := by funext i; unfold dK; rw [if_neg (by omega)]
theorem dK_hi {u v r k a i : Nat} {P : RT} (h : k ≤ i) : dK u v P r k a i = P a i := by unfold dK; rw [if_neg (by omega)]
theorem dK_s {u v r k : Nat} {P : RT} (huv : u ≠ v) (hk : r ≤ k) : set2 (set2 (dK u v P r k) u k (dK u v P r k u (k + 1))) v k (set2 (dK u v P r k) u k (dK u v P r k u (k + 1)) v (k + 1)) = dK u v P r (k + 1) := by
  rw [set2_a (a := v) (Ne.symm huv), dK_hi (by omega), dK_hi (by omega)]
  funext a i
  unfold set2 dK
  by_cases ha : a = v
  · subst ha
    rw [if_pos rfl]
    by_cases hi : i = k
    · subst hi; rw [if_pos rfl, if_pos (by omega)]
    · rw [if_neg hi, if_neg (Ne.symm huv)]
      by_cases hc : r ≤ i ∧ i < k
      · rw [if_pos ⟨Or.inr rfl, hc⟩, if_pos ⟨Or.inr rfl, by omega⟩]
      · rw [if_neg (fun q => hc q.2), if_neg (fun q => by omega)]
  · rw [if_neg ha]
    by_cases hb : a = u
    · subst hb
      rw [if_pos rfl]
      by_cases hi : i = k
      · subst hi; rw [if_pos rfl, if_pos (by omega)]
      · rw [if_neg hi]
        by_cases hc : r ≤ i ∧ i < k
        · rw [if_pos ⟨Or.inl rfl, hc⟩, if_pos ⟨Or.inl rfl, by omega⟩]
        · rw [if_neg (fun q => hc q.2), if_neg (fun q => by omega)]
    · rw [if_neg hb, if_neg (by omega), if_neg (by omega)]
theorem okP_drop {B : Nat} {p : PT} {r : Nat} (ok : okP B p) (hr : r < p 30 1) : okP B (dropP p r) := by
  obtain ⟨r1, r2, r3, r4, r5⟩ := ok
  refine ⟨r1, ?_, r3, fun i hi => r4 i hi, fun j hj => ?_⟩
  · show p 30 1 - 1 ≤ 6
    omega
  · have hj : j < p 30 1 - 1 := hj
    show (if r ≤ j then p 5 (j + 1) else p 5 j) < p 30 0 ∧ (if r ≤ j then p 6 (j + 1) else p 6 j) < p 30 0 ∧ (if r ≤ j then p 5 (j + 1) else p 5 j) ≠ (if r ≤ j then p 6 (j + 1) else p 6 j)
    split
    · exact r5 (j + 1) (by omega)
    · exact r5 j (by omega)
theorem X_dropL {P : RT} {r m : Nat} (hm : m < 6) (e : P 30 8 = nI m) {Q : Int32 → RT → Prop} (h : Q (nI m) (dK 5 6 P r m)) : ∀ (n k : Nat), k + n = m → r ≤ k → bX3_dropRope_12 Q (n + 1) (dK 5 6 P r k) (nI k) := by
  intro n
  induction n with
  | zero =>
    intro k hk hr
    rw [bX3_dropRope_12, dK_a (by decide) (by decide), e, if_pos (nI_le (by omega) (by omega))]
    have : k = m := by omega
    subst this
    exact h
  | succ n ih =>
    intro k hk hr
    rw [bX3_dropRope_12, dK_a (a := 30) (by decide) (by decide), e, if_neg (nI_ge (by omega) (by omega)), nI_1, nI_clamp (by omega), nI_clamp (by omega)]
    refine ⟨(vin (by omega)).mpr (by omega), (vin (by omega)).mpr (by omega), ?_⟩
    rintro P4 rfl P5 rfl x rfl
    rw [dK_s (by decide) hr]
    exact ih (k + 1) (by omega) (by omega)
theorem X_dropRope {P : RT} {p : PT} {r : Nat} (hm : p 30 1 ≤ 6) (hr : repX P p) (hrr : r < p 30 1) {Q : Int32 → RT → Prop} (h : ∀ P', repX P' (dropP p r) → Q (nI (p 30 1 - 1)) P') : wX3_dropRope P (nI r) Q := by
  obtain ⟨r1, r2, r3, r4, r5⟩ := hr
  unfold wX3_dropRope
  rw [r2, l1, nS (by omega)]
  rintro P1 rfl
  have key := X_dropL (P := set2 P 30 8 (nI (p 30 1 - 1))) (r := r) (m := p 30 1 - 1) (Q := Q) (by omega) set2_s (h _ ?_) (p 30 1 - 1 - r) r (by omega) (Nat.le_refl _)
  · rw [dK_0] at key; exact ⟨_, key⟩
  · refine ⟨?_, ?_, ?_, fun i hi => ?_, fun j hj => ?_⟩
    · rw [dK_a (by decide) (by decide)]; exact r1
    · rw [dK_a (by decide) (by decide)]; rfl
    · rw [dK_a (by decide) (by decide)]; exact r3
    · rw [dK_a (by decide) (by decide), dK_a (by decide) (by decide), dK_a (by decide) (by decide), dK_a (by decide) (by decide), dK_a (by decide) (by decide)]; exact r4 i hi
    · have hj : j < p 30 1 - 1 := hj
      show dK 5 6 (set2 P 30 8 _) r _ 5 j = nI (if r ≤ j then p 5 (j + 1) else p 5 j) ∧ dK 5 6 (set2 P 30 8 _) r _ 6 j = nI (if r ≤ j then p 6 (j + 1) else p 6 j)
      unfold dK
      by_cases c : r ≤ j
      · rw [if_pos c, if_pos c, if_pos (by omega), if_pos (by omega)]; exact r5 (j + 1) (by omega)
      · rw [if_neg c, if_neg c, if_neg (by omega), if_neg (by omega)]; exact r5 j (by omega)
theorem M_dropL {P : RT} {r m : Nat} (hm : m < 6) (e : P 30 9 = nI m) {Q : RT → Prop} (h : Q (dK 6 7 P r m)) : ∀ (n k : Nat), k + n = m → r ≤ k → bX7_drops_12 Q (n + 1) (dK 6 7 P r k) (nI k) := by
  intro n
  induction n with
  | zero =>
    intro k hk hr
    rw [bX7_drops_12, dK_a (by decide) (by decide), e, if_pos (nI_le (by omega) (by omega))]
    have : k = m := by omega
    subst this
    exact h
  | succ n ih =>
    intro k hk hr
    rw [bX7_drops_12, dK_a (a := 30) (by decide) (by decide), e, if_neg (nI_ge (by omega) (by omega)), nI_1, nI_clamp (by omega), nI_clamp (by omega)]
    refine ⟨(vin (by omega)).mpr (by omega), (vin (by omega)).mpr (by omega), ?_⟩
    rintro P4 rfl P5 rfl x rfl
    rw [dK_s (by decide) hr]
    exact ih (k + 1) (by omega) (by omega)
theorem agr.dK {B r k : Nat} {S : RT} : agr B S (dK 6 7 S r k) := by
  refine ⟨dK_a (by decide) (by decide), dK_a (by decide) (by decide), dK_a (by decide) (by decide), ?_, ?_, ?_, ?_, fun b _ => ?_⟩ <;> rw [dK_a (by decide) (by decide)]
theorem M_drops {S : RT} {p : PT} {r : Nat} (hm : p 30 1 ≤ 6) (hr : repM S p) (hrr : r < p 30 1) {Q : RT → Prop} (h : ∀ S', repM S' (dropP p r) → agr 165 S S' → Q S') : wX7_drops S (nI r) Q := by
  obtain ⟨r1, r2, r3, r4, r5⟩ := hr
  unfold wX7_drops
  rw [r2, l1, nS (by omega)]
  rintro P1 rfl
  have key := M_dropL (P := set2 S 30 9 (nI (p 30 1 - 1))) (r := r) (m := p 30 1 - 1) (Q := Q) (by omega) set2_s (h _ ?_ ((agr.sc (by omega)).tr agr.dK)) (p 30 1 - 1 - r) r (by omega) (Nat.le_refl _)
  · rw [dK_0] at key; exact ⟨_, key⟩
  · refine ⟨?_, ?_, ?_, fun i hi => ?_, fun j hj => ?_⟩
    · rw [dK_a (by decide) (by decide)]; exact r1
    · rw [dK_a (by decide) (by decide)]; rfl
    · rw [dK_a (by decide) (by decide)]; exact r3
    · rw [dK_a (by decide) (by decide), dK_a (by decide) (by decide), dK_a (by decide) (by decide), dK_a (by decide) (by decide), dK_a (by decide) (by decide)]; exact r4 i hi
    · have hj : j < p 30 1 - 1 := hj
      show dK 6 7 (set2 S 30 9 _) r _ 6 j = nI (if r ≤ j then p 5 (j + 1) else p 5 j) ∧ dK 6 7 (set2 S 30 9 _) r _ 7 j = nI (if r ≤ j then p 6 (j + 1) else p 6 j)
      unfold dK
      by_cases c : r ≤ j
      · rw [if_pos c, if_pos c, if_pos (by omega), if_pos (by omega)]; exact r5 (j + 1) (by omega)
      · rw [if_neg c, if_neg c, if_neg (by omega), if_neg (by omega)]; exact r5 j (by omega)
/-- a sum over the first n -/
def sumN (f : Nat → Nat) : Nat → Nat
  | 0 => 0
  | n + 1 => sumN f n + f n
theorem sumN_c {f g : Nat → Nat} : ∀ {n : Nat}, (∀ i, i < n → f i = g i) → sumN f n = sumN g n
  | 0, _ => rfl
  | n + 1, h => by rw [sumN, sumN, sumN_c (fun i hi => h i (by omega)), h n (by omega)]
theorem sumN_le {f : Nat → Nat} {c : Nat} : ∀ {n : Nat}, (∀ i, i < n → f i ≤ c) → sumN f n ≤ n * c
  | 0, _ => by simp [sumN]
  | n + 1, h => by
    have h1 := sumN_le (fun i hi => h i (Nat.lt_succ_of_lt hi))
    have h2 := h n (Nat.lt_succ_self n)
    rw [sumN, Nat.succ_mul]; omega
theorem X_allHeightsL {P : RT} {p : PT} (hn : p 30 0 ≤ 8) (hr : repX P p) {Q : Int32 → Prop} (h : Q (nI (sumN (p 4) (p 30 0)))) : ∀ (n k : Nat), k + n = p 30 0 → bX3_allHeights_4 P Q (n + 1) (nI (sumN (p 4) k)) (nI k) := by
  intro n
  induction n with
  | zero =>
    intro k hk
    rw [bX3_allHeights_4, hr.1, if_pos (nI_le (by omega) (by omega))]
    have : k = p 30 0 := by omega
    rw [this]
    exact h
  | succ n ih =>
    intro k hk
    rw [bX3_allHeights_4, hr.1, if_neg (nI_ge (by omega) (by omega)), nI_clamp (by omega), (hr.2.2.2.1 k (by omega)).2.2.2.2, nI_add, nI_1]
    refine ⟨(vin (by omega)).mpr (by omega), ?_⟩
    rintro x rfl y rfl
    exact ih (k + 1) (by omega)
theorem X_allStonesL {P : RT} {p : PT} (hn : p 30 0 ≤ 8) (hr : repX P p) {Q : Int32 → Prop} (h : Q (nI (sumN (p 3) (p 30 0)))) : ∀ (n k : Nat), k + n = p 30 0 → bX3_allStones_4 P Q (n + 1) (nI (sumN (p 3) k)) (nI k) := by
  intro n
  induction n with
  | zero =>
    intro k hk
    rw [bX3_allStones_4, hr.1, if_pos (nI_le (by omega) (by omega))]
    have : k = p 30 0 := by omega
    rw [this]
    exact h
  | succ n ih =>
    intro k hk
    rw [bX3_allStones_4, hr.1, if_neg (nI_ge (by omega) (by omega)), nI_clamp (by omega), (hr.2.2.2.1 k (by omega)).2.2.2.1, nI_add, nI_1]
    refine ⟨(vin (by omega)).mpr (by omega), ?_⟩
    rintro x rfl y rfl
    exact ih (k + 1) (by omega)
theorem M_allHighL {S : RT} {p : PT} (hn : p 30 0 ≤ 8) (hr : repM S p) {Q : Int32 → Prop} (h : Q (nI (sumN (p 4) (p 30 0)))) : ∀ (n k : Nat), k + n = p 30 0 → bX7_allHigh_4 S Q (n + 1) (nI (sumN (p 4) k)) (nI k) := by
  intro n
  induction n with
  | zero =>
    intro k hk
    rw [bX7_allHigh_4, hr.1, if_pos (nI_le (by omega) (by omega))]
    have : k = p 30 0 := by omega
    rw [this]
    exact h
  | succ n ih =>
    intro k hk
    rw [bX7_allHigh_4, hr.1, if_neg (nI_ge (by omega) (by omega)), nI_clamp (by omega), (hr.2.2.2.1 k (by omega)).2.2.2.2, nI_add, nI_1]
    refine ⟨(vin (by omega)).mpr (by omega), ?_⟩
    rintro x rfl y rfl
    exact ih (k + 1) (by omega)
theorem M_allStL {S : RT} {p : PT} (hn : p 30 0 ≤ 8) (hr : repM S p) {Q : Int32 → Prop} (h : Q (nI (sumN (p 3) (p 30 0)))) : ∀ (n k : Nat), k + n = p 30 0 → bX7_count_94 S Q (n + 1) (nI (sumN (p 3) k)) (nI k) := by
  intro n
  induction n with
  | zero =>
    intro k hk
    rw [bX7_count_94, hr.1, if_pos (nI_le (by omega) (by omega))]
    have : k = p 30 0 := by omega
    rw [this]
    exact h
  | succ n ih =>
    intro k hk
    rw [bX7_count_94, hr.1, if_neg (nI_ge (by omega) (by omega)), nI_clamp (by omega), (hr.2.2.2.1 k (by omega)).2.2.2.1, nI_add, nI_1]
    refine ⟨(vin (by omega)).mpr (by omega), ?_⟩
    rintro x rfl y rfl
    exact ih (k + 1) (by omega)
theorem X_allHeights {P : RT} {p : PT} (hn : p 30 0 ≤ 8) (hr : repX P p) {Q : Int32 → Prop} (h : Q (nI (sumN (p 4) (p 30 0)))) : wX3_allHeights P Q := ⟨_, X_allHeightsL hn hr h (p 30 0) 0 (by omega)⟩
theorem X_allStones {P : RT} {p : PT} (hn : p 30 0 ≤ 8) (hr : repX P p) {Q : Int32 → Prop} (h : Q (nI (sumN (p 3) (p 30 0)))) : wX3_allStones P Q := ⟨_, X_allStonesL hn hr h (p 30 0) 0 (by omega)⟩
theorem M_allHigh {S : RT} {p : PT} (hn : p 30 0 ≤ 8) (hr : repM S p) {Q : Int32 → Prop} (h : Q (nI (sumN (p 4) (p 30 0)))) : wX7_allHigh S Q := ⟨_, M_allHighL hn hr h (p 30 0) 0 (by omega)⟩
theorem hourP_h {w : Int32} {p : PT} : hourP w p 30 2 = p 30 2 + 1 := by rw [hourP, pullN_ne (by decide)]; rfl
theorem hoursP_h {p : PT} : ∀ k, hoursP p k 30 2 = p 30 2 + k
  | 0 => rfl
  | k + 1 => by rw [hoursP, hourP_h, hoursP_h k]; omega
theorem okP_re {b c : Nat} {p : PT} (ok : okP b p) (h : p 30 2 ≤ c) : okP c p := ⟨ok.1, ok.2.1, h, ok.2.2.2⟩
theorem rgc1 (v : Int32) (N : Nat) (hN : N < 2 ^ 31) (h1 : 1 ≤ N) : (∃ j, 1 ≤ j ∧ j ≤ N ∧ v = nI j ∧ rgf v 1 (nI N) = 0) ∨ (rgf v 1 (nI N) = -4) ∨ (rgf v 1 (nI N) = -6) := by
  unfold rgf
  by_cases c1 : 1 ≤ v
  · rw [if_pos c1]
    by_cases c2 : v ≤ nI N
    · rw [if_pos c2]
      have c0 : ¬ v < 0 := by
        intro q
        have a := Int32.le_iff_toInt_le.mp c1
        have b := Int32.lt_iff_toInt_lt.mp q
        have x1 : (1 : Int32).toInt = 1 := rfl
        have x0 : (0 : Int32).toInt = 0 := rfl
        omega
      obtain ⟨j, hj, e⟩ := nI_of2 (M := nI N) (n := N) (nI_toInt hN) c0 c2
      refine Or.inl ⟨j, ?_, hj, e, rfl⟩
      rw [e, l1] at c1
      exact (nI_leI (by omega) (by omega)).mp c1
    · rw [if_neg c2]; exact Or.inr (Or.inr rfl)
  · rw [if_neg c1]; exact Or.inr (Or.inl rfl)
theorem st_hours : St_hours Inv9 := by
  intro F P K G T N L S hI a1
  obtain ⟨p, ok, hx, hm, hq⟩ := hI
  have o1 := ok.1
  have o3 := ok.2.2.1
  unfold wX6_hours bX6_hours_30 wX7_hours bX7_hours_27
  refine X_rg ?_
  try dsimp only
  rcases rgc1 a1 60 (by decide) (by decide) with ⟨j, hj1, hj, rfl, e⟩ | e | e
  · have e : rgf (nI j) 1 60 = 0 := e
    rw [e, if_pos rfl, hx.2.2.1, nI_add, l999]
    by_cases c : p 30 2 + j ≤ 999
    · rw [if_pos (nI_le c (by omega)), if_pos rfl]
      refine X_goHours (b := 999) (by omega) (by decide) ok hx (fun P' hP' => ?_)
      try dsimp only
      refine X_allHeights (by rw [hoursP_n]; exact o1) hP' ?_
      try dsimp only
      refine M_bd ?_
      try dsimp only
      rw [e, if_pos rfl, hm.2.2.1, nI_add, if_pos (nI_le c (by omega)), if_pos rfl]
      refine M_goes (b := 999) (by omega) (by decide) ok hm hq.1 (fun S' hS' hf => ?_)
      try dsimp only
      refine M_allHigh (by rw [hoursP_n]; exact o1) hS' ⟨rfl, hoursP p j, okP_re (okP_hours ok j) (by rw [hoursP_h]; exact c), hP', hS', hq.agr (hf.agr.lo (by decide))⟩
    · rw [if_neg (nI_ge (by omega) (by omega)), if_neg (by decide)]
      refine X_ref 6 (by decide) (by decide) (M_bd ?_)
      try dsimp only
      rw [e, if_pos rfl, hm.2.2.1, nI_add, if_neg (nI_ge (by omega) (by omega)), if_neg (by decide)]
      exact M_no 6 (by decide) (by decide) ⟨rfl, Inv9.ref ok hx hm hq 6 G T⟩
  · have e : rgf a1 1 60 = -4 := e
    rw [e, if_neg (by decide), if_neg (by decide)]
    refine X_ref 4 (by decide) (by decide) (M_bd ?_)
    try dsimp only
    rw [e, if_neg (by decide), if_neg (by decide)]
    exact M_no 4 (by decide) (by decide) ⟨rfl, Inv9.ref ok hx hm hq 4 G T⟩
  · have e : rgf a1 1 60 = -6 := e
    rw [e, if_neg (by decide), if_neg (by decide)]
    refine X_ref 6 (by decide) (by decide) (M_bd ?_)
    try dsimp only
    rw [e, if_neg (by decide), if_neg (by decide)]
    exact M_no 6 (by decide) (by decide) ⟨rfl, Inv9.ref ok hx hm hq 6 G T⟩
theorem st_ties : St_ties Inv9 := by
  intro F P K G T N L S hI a1 a2
  obtain ⟨p, ok, hx, hm, hq⟩ := hI
  have o1 := ok.1
  have o2 := ok.2.1
  unfold wX6_ties wX7_ties bX7_ties_28
  rcases prc a1 a2 (p 30 0) (by omega) with ⟨a, b, ha, hb, hab, rfl, rfl⟩ | c1
  · refine X_hP o1 hx.1 ha hb hab ?_
    try dsimp only
    rw [if_neg bz_k, hx.2.1]
    by_cases c : p 30 1 < 6
    · rw [if_pos (show nI (p 30 1) < 6 from nI_lt c (by decide))]
      refine X_addRope c hx (fun P' hP' => ?_)
      try dsimp only
      refine M_aT o1 hm.1 ha hb hab ?_
      try dsimp only
      rw [if_neg bz_k, hm.2.1, l6, if_neg (fun q => by have := (nI_eq (by omega) (by omega)).mp q; omega), if_pos rfl]
      refine M_adds c hm (fun S' hS' hg _ _ _ => ?_)
      try dsimp only
      exact ⟨by rw [hS'.2.1]; exact (nI_pred _).symm, addP p a b, okP_add ok c ha hb hab, hP', hS', hq.agr (hg.lo (by decide))⟩
    · have e6 : p 30 1 = 6 := by omega
      rw [e6, if_neg (show ¬ nI 6 < (6 : Int32) by decide)]
      refine X_ref 6 (by decide) (by decide) (M_aT o1 hm.1 ha hb hab ?_)
      try dsimp only
      rw [if_neg bz_k, hm.2.1, e6, if_pos (show nI 6 = (6 : Int32) from rfl), if_neg (show ¬ (-6 : Int32) = 0 by decide)]
      exact M_no 6 (by decide) (by decide) ⟨rfl, Inv9.ref ok hx hm hq 6 G T⟩
  · refine X_hP_no o1 hx.1 c1 ?_
    try dsimp only
    rw [if_pos rfl]
    refine X_ref 1 (by decide) (by decide) (M_aT_no o1 hm.1 c1 ?_)
    try dsimp only
    rw [if_pos rfl, if_neg (by decide)]
    exact M_no 1 (by decide) (by decide) ⟨rfl, Inv9.ref ok hx hm hq 1 G T⟩
theorem st_cuts : St_cuts Inv9 := by
  intro F P K G T N L S hI a1
  obtain ⟨p, ok, hx, hm, hq⟩ := hI
  have o2 := ok.2.1
  unfold wX6_cuts wX7_cuts
  rcases ixc a1 (p 30 1) (by omega) with ⟨t, ht, rfl⟩ | c1
  · refine X_hR hx.2.1 ht (by omega) ?_
    try dsimp only
    rw [if_neg bz_k]
    refine X_dropRope o2 hx ht (fun P' hP' => ?_)
    try dsimp only
    refine M_iR hm.2.1 ht (by omega) ?_
    try dsimp only
    rw [if_neg bz_k]
    refine M_drops o2 hm ht (fun S' hS' hg => ?_)
    try dsimp only
    exact ⟨hS'.2.1.symm, dropP p t, okP_drop ok ht, hP', hS', hq.agr (hg.lo (by decide))⟩
  · refine X_hR_no hx.2.1 c1 ?_
    try dsimp only
    rw [if_pos rfl]
    refine X_ref 1 (by decide) (by decide) (M_iR_no hm.2.1 c1 ?_)
    try dsimp only
    rw [if_pos rfl]
    exact M_no 1 (by decide) (by decide) ⟨rfl, Inv9.ref ok hx hm hq 1 G T⟩
theorem repM.st {S : RT} {p : PT} {r i : Nat} {v : Int32} (h : repM S p) (hr : 8 ≤ r) (hr2 : r ≠ 30) : repM (set2 S r i v) p := by
  unfold repM at h ⊢
  rw [set2_a (by omega), set2_a (by omega), set2_a (by omega), set2_a (by omega), set2_a (by omega), set2_a (by omega), set2_a (by omega), set2_a (by omega)]
  exact h
theorem repM.sc {S : RT} {p : PT} {j : Nat} {v : Int32} (h : repM S p) (hj : 11 ≤ j) : repM (set2 S 30 j v) p := by
  unfold repM at h ⊢
  rw [set2_b (by omega), set2_b (by omega), set2_b (by omega), set2_a (by decide), set2_a (by decide), set2_a (by decide), set2_a (by decide), set2_a (by decide), set2_a (by decide), set2_a (by decide)]
  exact h
theorem svM.st {S : RT} {w : Nat} {p : PT} {r i : Nat} {v : Int32} (h : svM S w p) (hr : r ≠ 19) : svM (set2 S r i v) w p := by
  unfold svM at h ⊢
  rw [set2_a (Ne.symm hr)]
  exact h
theorem st_letter : St_letter Inv9 := by
  intro F P K G T N L S hI a1
  obtain ⟨p, ok, hx, hm, hq⟩ := hI
  obtain ⟨q1, q2, q3, ⟨k, hk, kL, kS, kv⟩, q5⟩ := id hq
  unfold wX6_letter bX6_letter_28 wX7_letter bX7_letter_25 wX0_add
  refine X_rg ?_
  try dsimp only
  rcases rgc a1 255 (by decide) with ⟨j, hj, rfl, e⟩ | e | e
  · have e : rgf (nI j) 0 255 = 0 := e
    rw [e, if_pos rfl, kL]
    by_cases c : k < 96
    · rw [if_pos (show nI k < 96 from nI_lt c (by decide)), if_pos rfl, nI_clamp (by omega)]
      refine ⟨(vin (by omega)).mpr c, ?_⟩
      rintro L2 rfl
      rw [set2_a (by decide), kL, nI_1]
      rintro L3 rfl
      refine M_bd ?_
      try dsimp only
      rw [e, if_pos rfl, kS, l96, if_neg (fun q => by have := (nI_eq (by omega) (by omega)).mp q; omega), if_pos rfl, nI_clamp (by omega)]
      refine ⟨(vin (by omega)).mpr c, ?_⟩
      rintro S2 rfl
      rw [set2_a (by decide), kS, nI_1]
      rintro S3 rfl
      refine ⟨by rw [set2_s, set2_s], p, ok, hx, (hm.st (by decide) (by decide)).sc (by decide), ?_, ?_, ?_, ⟨k + 1, by omega, set2_s, set2_s, fun i hi => ?_⟩, ?_⟩
      · rw [set2_b (by decide), set2_a (by decide)]; exact q1
      · rw [set2_a (by decide), set2_a (by decide)]; exact q2
      · rw [set2_b (by decide), set2_a (by decide), set2_a (by decide), set2_a (by decide)]; exact q3
      · rw [set2_a (r := 30) (by decide), set2_a (r := 30) (by decide)]
        by_cases ei : i = k
        · subst ei; exact ⟨j, hj, set2_s, set2_s⟩
        · rw [set2_b ei, set2_b ei]; exact kv i (by omega)
      · rw [set2_b (by decide), set2_a (by decide)]
        exact q5.imp id (fun ⟨a, b, q, c, d, e⟩ => ⟨a, b, q, c, d, (e.st (by decide)).st (by decide)⟩)
    · have e6 : k = 96 := by omega
      rw [e6, if_neg (show ¬ nI 96 < (96 : Int32) by decide), if_neg (show ¬ (-6 : Int32) = 0 by decide)]
      refine X_ref 6 (by decide) (by decide) (M_bd ?_)
      try dsimp only
      rw [e, if_pos rfl, kS, e6, if_pos (show nI 96 = (96 : Int32) from rfl), if_neg (show ¬ (-6 : Int32) = 0 by decide)]
      exact M_no 6 (by decide) (by decide) ⟨rfl, Inv9.ref ok hx hm hq 6 G T⟩
  · have e : rgf a1 0 255 = -4 := e
    rw [e, if_neg (by decide), if_neg (by decide)]
    refine X_ref 4 (by decide) (by decide) (M_bd ?_)
    try dsimp only
    rw [e, if_neg (by decide), if_neg (by decide)]
    exact M_no 4 (by decide) (by decide) ⟨rfl, Inv9.ref ok hx hm hq 4 G T⟩
  · have e : rgf a1 0 255 = -6 := e
    rw [e, if_neg (by decide), if_neg (by decide)]
    refine X_ref 6 (by decide) (by decide) (M_bd ?_)
    try dsimp only
    rw [e, if_neg (by decide), if_neg (by decide)]
    exact M_no 6 (by decide) (by decide) ⟨rfl, Inv9.ref ok hx hm hq 6 G T⟩
theorem st_row : St_row Inv9 := by
  intro F P K G T N L S hI a1
  obtain ⟨p, ok, hx, hm, hq⟩ := hI
  obtain ⟨q1, q2, ⟨k, hk, kL, kS, kv⟩, q4, q5⟩ := id hq
  unfold wX6_row bX6_row_27 wX7_row bX7_row_24 wX5_add
  refine X_rg ?_
  try dsimp only
  rcases rgc a1 99 (by decide) with ⟨j, hj, rfl, e⟩ | e | e
  · have e : rgf (nI j) 0 99 = 0 := e
    rw [e, if_pos rfl, kL]
    by_cases c : k < 16
    · rw [if_pos (show nI k < 16 from nI_lt c (by decide)), if_pos rfl, nI_clamp (by omega)]
      refine ⟨(vin (by omega)).mpr c, ?_⟩
      rintro L2 rfl
      rw [set2_a (by decide), kL, nI_1]
      rintro L3 rfl
      refine M_bd ?_
      try dsimp only
      rw [e, if_pos rfl, kS, l16, if_neg (fun q => by have := (nI_eq (by omega) (by omega)).mp q; omega), if_pos rfl, nI_clamp (by omega)]
      refine ⟨(vin (by omega)).mpr c, ?_⟩
      rintro S2 rfl
      rw [set2_a (by decide), kS, nI_1]
      rintro S3 rfl
      refine ⟨by rw [set2_s, set2_s], p, ok, hx, (hm.st (by decide) (by decide)).sc (by decide), ?_, ?_, ⟨k + 1, by omega, set2_s, set2_s, fun i hi => ?_⟩, ?_, ?_⟩
      · rw [set2_b (by decide), set2_a (by decide)]; exact q1
      · rw [set2_a (by decide), set2_a (by decide)]; exact q2
      · rw [set2_a (r := 30) (by decide), set2_a (r := 30) (by decide)]
        by_cases ei : i = k
        · subst ei; exact ⟨j, hj, set2_s, set2_s⟩
        · rw [set2_b ei, set2_b ei]; exact kv i (by omega)
      · rw [set2_b (by decide), set2_a (by decide), set2_a (by decide), set2_a (by decide)]; exact q4
      · rw [set2_b (by decide), set2_a (by decide)]
        exact q5.imp id (fun ⟨a, b, q, c, d, e⟩ => ⟨a, b, q, c, d, (e.st (by decide)).st (by decide)⟩)
    · have e6 : k = 16 := by omega
      rw [e6, if_neg (show ¬ nI 16 < (16 : Int32) by decide), if_neg (show ¬ (-6 : Int32) = 0 by decide)]
      refine X_ref 6 (by decide) (by decide) (M_bd ?_)
      try dsimp only
      rw [e, if_pos rfl, kS, e6, if_pos (show nI 16 = (16 : Int32) from rfl), if_neg (show ¬ (-6 : Int32) = 0 by decide)]
      exact M_no 6 (by decide) (by decide) ⟨rfl, Inv9.ref ok hx hm hq 6 G T⟩
  · have e : rgf a1 0 99 = -4 := e
    rw [e, if_neg (by decide), if_neg (by decide)]
    refine X_ref 4 (by decide) (by decide) (M_bd ?_)
    try dsimp only
    rw [e, if_neg (by decide), if_neg (by decide)]
    exact M_no 4 (by decide) (by decide) ⟨rfl, Inv9.ref ok hx hm hq 4 G T⟩
  · have e : rgf a1 0 99 = -6 := e
    rw [e, if_neg (by decide), if_neg (by decide)]
    refine X_ref 6 (by decide) (by decide) (M_bd ?_)
    try dsimp only
    rw [e, if_neg (by decide), if_neg (by decide)]
    exact M_no 6 (by decide) (by decide) ⟨rfl, Inv9.ref ok hx hm hq 6 G T⟩
theorem RQ.clr {F K N L S : RT} (hq : RQ F K N L S) : RQ F K (set2 N 30 1 0) L (set2 S 30 26 0) := by
  obtain ⟨q1, q2, ⟨k, hk, kL, kS, kv⟩, q4, q5⟩ := hq
  refine ⟨?_, ?_, ⟨0, by omega, set2_s, set2_s, fun i hi => absurd hi (by omega)⟩, ?_, ?_⟩
  · rw [set2_b (by decide)]; exact q1
  · rw [set2_a (by decide)]; exact q2
  · rw [set2_b (by decide), set2_a (by decide)]; exact q4
  · rw [set2_b (by decide)]
    exact q5.imp id (fun ⟨a, b, q, c, d, e⟩ => ⟨a, b, q, c, d, e.st (by decide)⟩)
theorem st_clear : St_clear Inv9 := by
  intro F P K G T N L S hI
  obtain ⟨p, ok, hx, hm, hq⟩ := hI
  obtain ⟨q1, q2, ⟨k, hk, kL, kS, kv⟩, q4, q5⟩ := id hq
  unfold wX6_clear wX7_clear
  rintro x rfl N2 rfl y rfl S2 rfl
  exact ⟨by rw [kL, kS], p, ok, hx, hm.sc (by decide), hq.clr⟩
theorem st_image : St_image Inv9 := by
  intro F P K G T N L S hI
  obtain ⟨p, ok, hx, hm, hq⟩ := hI
  obtain ⟨q1, q2, q3, q4, q5⟩ := id hq
  unfold wX6_image wX7_image
  refine X_copyFrom ok.1 ok.2.1 hx (fun K' hK' => ?_)
  try dsimp only
  rintro F2 rfl S1 rfl
  refine M_keepAll (w := 0) (by decide) ok.1 ok.2.1 (hm.sc (by decide)) (fun S' h1 h2 h3 => ?_)
  try dsimp only
  refine ⟨by rw [hx.2.2.1, h1.2.2.1], p, ok, hx, h1, ?_, ?_, ?_, ?_, Or.inr ⟨set2_s, ?_, p, ok, hK', h2⟩⟩
  · rw [h3.2.1 11 (by decide) (by decide), set2_b (by decide)]; exact q1
  · rw [h3.1 0 (by decide) (by decide), set2_a (by decide), set2_a (by decide)]; exact q2
  · rw [h3.2.1 26 (by decide) (by decide), set2_b (by decide), h3.1 25 (by decide) (by decide), set2_a (by decide)]; exact q3
  · rw [h3.2.1 16 (by decide) (by decide), set2_b (by decide), h3.1 12 (by decide) (by decide), set2_a (by decide)]; exact q4
  · rw [h3.2.1 20 (by decide) (by decide), set2_s]
theorem st_on : St_on Inv9 := by
  intro F P K G T N L S hI
  obtain ⟨p, ok, hx, hm, hq⟩ := hI
  obtain ⟨q1, q2, q3, q4, q5⟩ := id hq
  unfold wX6_on wX7_on
  rcases q5 with ⟨e1, e2⟩ | ⟨e1, e2, q, oq, hxq, hsq⟩
  · rw [e1, if_pos rfl]
    refine X_ref 3 (by decide) (by decide) ?_
    try dsimp only
    rw [e2, if_pos rfl]
    exact M_no 3 (by decide) (by decide) ⟨rfl, Inv9.ref ok hx hm hq 3 G T⟩
  · rw [e1, if_neg bz_k]
    refine X_copyFrom oq.1 oq.2.1 hxq (fun P' hP' => ?_)
    try dsimp only
    rw [e2, if_neg bz_k]
    refine M_backAll (w := 0) (by decide) oq.1 oq.2.1 hsq (fun S' h1 h2 => ?_)
    try dsimp only
    exact ⟨by rw [hP'.2.2.1, h1.2.2.1], q, oq, hP', h1, hq.agr (h2.agr.lo (by decide))⟩
