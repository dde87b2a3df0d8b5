/-! ===== PURE: what a statement does ===== -/
def num (c : Nat → Nat) (x : Nat) : Nat := 10 * (c x - 48) + (c (x + 1) - 48)
def addT (p : PT) (kd fg w : Nat) : PT := setN (setN (setN (setN (setN (setN p 0 (p 30 0) kd) 1 (p 30 0) fg) 2 (p 30 0) w) 3 (p 30 0) 0) 4 (p 30 0) 0) 30 0 (p 30 0 + 1)
theorem addT_v {p : PT} {kd fg w : Nat} (i : Nat) : addT p kd fg w 0 i = (if i = p 30 0 then kd else p 0 i) ∧ addT p kd fg w 1 i = (if i = p 30 0 then fg else p 1 i) ∧ addT p kd fg w 2 i = (if i = p 30 0 then w else p 2 i) ∧ addT p kd fg w 3 i = (if i = p 30 0 then 0 else p 3 i) ∧ addT p kd fg w 4 i = (if i = p 30 0 then 0 else p 4 i) := ⟨rfl, rfl, rfl, rfl, rfl⟩
theorem okP_addT {b : Nat} {p : PT} {kd fg w : Nat} (ok : okP b p) (hn : p 30 0 < 8) (h1 : kd ≤ 5) (h2 : fg ≤ 9) (h3 : w ≤ 60) : okP b (addT p kd fg w) := by
  obtain ⟨o1, o2, o3, o4, o5⟩ := ok
  refine ⟨show p 30 0 + 1 ≤ 8 by omega, o2, o3, fun i hi => ?_, fun j hj => ?_⟩
  · have hi : i < p 30 0 + 1 := hi
    obtain ⟨a0, a1, a2, a3, a4⟩ := addT_v (p := p) (kd := kd) (fg := fg) (w := w) i
    rw [a0, a1, a2, a3, a4]
    by_cases e : i = p 30 0
    · rw [if_pos e, if_pos e, if_pos e, if_pos e, if_pos e]; exact ⟨h1, h2, h3, by omega, by omega⟩
    · rw [if_neg e, if_neg e, if_neg e, if_neg e, if_neg e]; exact o4 i (by omega)
  · have := o5 j hj
    exact ⟨show p 5 j < p 30 0 + 1 by omega, show p 6 j < p 30 0 + 1 by omega, this.2.2⟩
theorem X_addThing {P : RT} {p : PT} {kd fg w : Nat} (hn : p 30 0 < 8) (hr : repX P p) {Q : RT → Prop} (h : ∀ P', repX P' (addT p kd fg w) → Q P') : wX3_addThing P (nI kd) (nI fg) (nI w) Q := by
  obtain ⟨r1, r2, r3, r4, r5⟩ := hr
  have hV : vp_in (nI (p 30 0)) 8 := (vin (by omega)).mpr hn
  unfold wX3_addThing
  rw [r1, nI_clamp (by omega)]
  refine ⟨hV, ?_⟩
  intro P2 e2
  have f2 : P2 30 7 = nI (p 30 0) := by rw [e2, set2_a (by decide)]; exact r1
  rw [f2, nI_clamp (by omega)]
  refine ⟨hV, ?_⟩
  intro P4 e4
  have f4 : P4 30 7 = nI (p 30 0) := by rw [e4, set2_a (by decide)]; exact f2
  rw [f4, nI_clamp (by omega)]
  refine ⟨hV, ?_⟩
  intro P6 e6
  have f6 : P6 30 7 = nI (p 30 0) := by rw [e6, set2_a (by decide)]; exact f4
  rw [f6, nI_clamp (by omega)]
  refine ⟨hV, ?_⟩
  intro P8 e8
  have f8 : P8 30 7 = nI (p 30 0) := by rw [e8, set2_a (by decide)]; exact f6
  rw [f8, nI_clamp (by omega)]
  refine ⟨hV, ?_⟩
  intro P10 e10
  have f10 : P10 30 7 = nI (p 30 0) := by rw [e10, set2_a (by decide)]; exact f8
  rw [f10, nI_1]
  intro P11 e11
  subst e11 e10 e8 e6 e4 e2
  refine h _ ⟨set2_s, by rw [set2_b (by decide), set2_a (by decide), set2_a (by decide), set2_a (by decide), set2_a (by decide), set2_a (by decide)]; exact r2, by rw [set2_b (by decide), set2_a (by decide), set2_a (by decide), set2_a (by decide), set2_a (by decide), set2_a (by decide)]; exact r3, fun i hi => ?_, fun j hj => ?_⟩
  · have hi : i < p 30 0 + 1 := hi
    obtain ⟨a0, a1, a2, a3, a4⟩ := addT_v (p := p) (kd := kd) (fg := fg) (w := w) i
    rw [a0, a1, a2, a3, a4]
    by_cases e : i = p 30 0
    · rw [if_pos e, if_pos e, if_pos e, if_pos e, if_pos e, e]
      refine ⟨?_, ?_, ?_, ?_, ?_⟩
      · rw [set2_a (by decide), set2_a (by decide), set2_a (by decide), set2_a (by decide), set2_a (by decide), set2_s]
      · rw [set2_a (by decide), set2_a (by decide), set2_a (by decide), set2_a (by decide), set2_s]
      · rw [set2_a (by decide), set2_a (by decide), set2_a (by decide), set2_s]
      · rw [set2_a (by decide), set2_a (by decide), set2_s]; rfl
      · rw [set2_a (by decide), set2_s]; rfl
    · rw [if_neg e, if_neg e, if_neg e, if_neg e, if_neg e]
      have := r4 i (by omega)
      refine ⟨?_, ?_, ?_, ?_, ?_⟩
      · rw [set2_a (by decide), set2_a (by decide), set2_a (by decide), set2_a (by decide), set2_a (by decide), set2_b e]; exact this.1
      · rw [set2_a (by decide), set2_a (by decide), set2_a (by decide), set2_a (by decide), set2_b e, set2_a (by decide)]; exact this.2.1
      · rw [set2_a (by decide), set2_a (by decide), set2_a (by decide), set2_b e, set2_a (by decide), set2_a (by decide)]; exact this.2.2.1
      · rw [set2_a (by decide), set2_a (by decide), set2_b e, set2_a (by decide), set2_a (by decide), set2_a (by decide)]; exact this.2.2.2.1
      · rw [set2_a (by decide), set2_b e, set2_a (by decide), set2_a (by decide), set2_a (by decide), set2_a (by decide)]; exact this.2.2.2.2
  · rw [set2_a (by decide), set2_a (by decide), set2_a (by decide), set2_a (by decide), set2_a (by decide), set2_a (by decide)]
    rw [set2_a (by decide), set2_a (by decide), set2_a (by decide), set2_a (by decide), set2_a (by decide), set2_a (by decide)]
    exact r5 j hj
def FrC (S S' : RT) : Prop := (∀ r, (r = 0 ∨ 8 ≤ r) → r ≠ 30 → S' r = S r) ∧ ∀ j, 11 ≤ j → j ≠ 21 → j ≠ 22 → S' 30 j = S 30 j
theorem FrC.rf {S : RT} : FrC S S := ⟨fun _ _ _ => rfl, fun _ _ _ _ => rfl⟩
theorem FrC.tr {S S1 S2 : RT} (h : FrC S S1) (g : FrC S1 S2) : FrC S S2 := ⟨fun r a b => (g.1 r a b).trans (h.1 r a b), fun j a b c => (g.2 j a b c).trans (h.2 j a b c)⟩
theorem FrC.set {S : RT} {r i : Nat} {v : Int32} (h : 1 ≤ r ∧ r ≤ 7) : FrC S (set2 S r i v) := ⟨fun a q1 q2 => by rw [set2_a (by omega)], fun j q1 q2 q3 => by rw [set2_a (by omega)]⟩
theorem FrC.sc {S : RT} {j : Nat} {v : Int32} (h : j ≤ 10) : FrC S (set2 S 30 j v) := ⟨fun a q1 q2 => by rw [set2_a q2], fun k q1 q2 q3 => by rw [set2_b (by omega)]⟩
theorem FrH.frc {S S' : RT} (h : FrH S S') : FrC S S' := ⟨fun a q1 q2 => h.1 a (by omega) q2, fun k q1 q2 q3 => h.2 k (by omega)⟩
theorem FrB.frc {S S' : RT} (h : FrB S S') : FrC S S' := ⟨fun a q1 q2 => h.2.1 a q1 q2, fun k q1 q2 q3 => h.2.2 k (by omega) (by omega) (by omega) q2 q3⟩
theorem M_addThing {S : RT} {p : PT} {kd fg w q0 : Nat} (hn : p 30 0 < 8) (hq : q0 + 2 < 144) (hr : repM S p) (v0 : S 15 q0 = nI kd) (v1 : S 15 (q0 + 1) = nI fg) (v2 : S 15 (q0 + 2) = nI w) (hw : w ≤ 60) {Q : Int32 → RT → Prop} (h : ∀ S', repM S' (addT p kd fg w) → FrC S S' → Q 1 S') : wX7_comesThing S (nI q0) Q := by
  obtain ⟨r1, r2, r3, r4, r5⟩ := hr
  have hV : vp_in (nI (p 30 0)) 8 := (vin (by omega)).mpr hn
  have hq0 : vp_in (nI q0) 144 := (vin (by omega)).mpr (by omega)
  have hq1 : vp_in (nI (q0 + 1)) 144 := (vin (by omega)).mpr (by omega)
  have hq2 : vp_in (nI (q0 + 2)) 144 := (vin (by omega)).mpr (by omega)
  unfold wX7_comesThing
  rw [r1, if_neg (show ¬ nI (p 30 0) = 8 from fun q => by have := (nI_eq (b := 8) (by omega) (by omega)).mp q; omega), l2, nI_add, nI_1]
  rw [nI_clamp (show p 30 0 < 2 ^ 31 by omega), nI_clamp (show q0 < 2 ^ 31 by omega), nI_clamp (show q0 + 1 < 2 ^ 31 by omega), nI_clamp (show q0 + 2 < 2 ^ 31 by omega), v0, v2]
  refine ⟨hq2, ?_⟩
  rw [if_pos (show nI w ≤ 60 from nI_le (b := 60) hw (by decide))]
  refine ⟨hq0, hV, ?_⟩
  intro S6 e6
  have f6 : S6 30 8 = nI (p 30 0) := by rw [e6, set2_a (by decide)]; exact r1
  have g6 : S6 15 = S 15 := by rw [e6, set2_a (by decide)]
  rw [f6, nI_clamp (by omega), g6, v1]
  refine ⟨hq1, hV, ?_⟩
  intro S9 e9
  have f9 : S9 30 8 = nI (p 30 0) := by rw [e9, set2_a (by decide)]; exact f6
  have g9 : S9 15 = S 15 := by rw [e9, set2_a (by decide)]; exact g6
  rw [f9, nI_clamp (by omega), g9, v2]
  refine ⟨hV, ?_⟩
  intro S11 e11
  have f11 : S11 30 8 = nI (p 30 0) := by rw [e11, set2_a (by decide)]; exact f9
  rw [f11, nI_clamp (by omega)]
  refine ⟨hV, ?_⟩
  intro S13 e13
  have f13 : S13 30 8 = nI (p 30 0) := by rw [e13, set2_a (by decide)]; exact f11
  rw [f13, nI_clamp (by omega)]
  refine ⟨hV, ?_⟩
  intro S15 e15
  have f15 : S15 30 8 = nI (p 30 0) := by rw [e15, set2_a (by decide)]; exact f13
  rw [f15, nI_1]
  intro S16 e16
  subst e16 e15 e13 e11 e9 e6
  refine h _ ⟨set2_s, by rw [set2_b (by decide), set2_a (by decide), set2_a (by decide), set2_a (by decide), set2_a (by decide), set2_a (by decide)]; exact r2, by rw [set2_b (by decide), set2_a (by decide), set2_a (by decide), set2_a (by decide), set2_a (by decide), set2_a (by decide)]; exact r3, fun i hi => ?_, fun j hj => ?_⟩ ((((((FrC.set (by omega)).tr (FrC.set (by omega))).tr (FrC.set (by omega))).tr (FrC.set (by omega))).tr (FrC.set (by omega))).tr (FrC.sc (by omega)))
  · have hi : i < p 30 0 + 1 := hi
    obtain ⟨a0, a1, a2, a3, a4⟩ := addT_v (p := p) (kd := kd) (fg := fg) (w := w) i
    rw [a0, a1, a2, a3, a4]
    by_cases e : i = p 30 0
    · rw [if_pos e, if_pos e, if_pos e, if_pos e, if_pos e, e]
      refine ⟨?_, ?_, ?_, ?_, ?_⟩
      · rw [set2_a (by decide), set2_a (by decide), set2_a (by decide), set2_a (by decide), set2_a (by decide), set2_s]
      · rw [set2_a (by decide), set2_a (by decide), set2_a (by decide), set2_a (by decide), set2_s]
      · rw [set2_a (by decide), set2_a (by decide), set2_a (by decide), set2_s]
      · rw [set2_a (by decide), set2_a (by decide), set2_s]; rfl
      · rw [set2_a (by decide), set2_s]; rfl
    · rw [if_neg e, if_neg e, if_neg e, if_neg e, if_neg e]
      have := r4 i (by omega)
      refine ⟨?_, ?_, ?_, ?_, ?_⟩
      · rw [set2_a (by decide), set2_a (by decide), set2_a (by decide), set2_a (by decide), set2_a (by decide), set2_b e]; exact this.1
      · rw [set2_a (by decide), set2_a (by decide), set2_a (by decide), set2_a (by decide), set2_b e, set2_a (by decide)]; exact this.2.1
      · rw [set2_a (by decide), set2_a (by decide), set2_a (by decide), set2_b e, set2_a (by decide), set2_a (by decide)]; exact this.2.2.1
      · rw [set2_a (by decide), set2_a (by decide), set2_b e, set2_a (by decide), set2_a (by decide), set2_a (by decide)]; exact this.2.2.2.1
      · rw [set2_a (by decide), set2_b e, set2_a (by decide), set2_a (by decide), set2_a (by decide), set2_a (by decide)]; exact this.2.2.2.2
  · rw [set2_a (by decide), set2_a (by decide), set2_a (by decide), set2_a (by decide), set2_a (by decide), set2_a (by decide)]
    rw [set2_a (by decide), set2_a (by decide), set2_a (by decide), set2_a (by decide), set2_a (by decide), set2_a (by decide)]
    exact r5 j hj
theorem M_addThing_no {S : RT} {p : PT} {w q0 : Nat} (h8 : p 30 0 ≤ 8) (hq : q0 + 2 < 144) (hr : repM S p) (v2 : S 15 (q0 + 2) = nI w) (hw2 : w ≤ 99) (hb : ¬ (w ≤ 60 ∧ p 30 0 < 8)) {Q : Int32 → RT → Prop} (h : Q 0 S) : wX7_comesThing S (nI q0) Q := by
  unfold wX7_comesThing
  rw [hr.1, l2, nI_add, nI_1]
  by_cases e : p 30 0 = 8
  · rw [if_pos (show nI (p 30 0) = 8 by rw [e]; rfl)]; exact h
  · rw [if_neg (show ¬ nI (p 30 0) = 8 from fun q => e ((nI_eq (b := 8) (by omega) (by omega)).mp q)), nI_clamp (show q0 + 2 < 2 ^ 31 by omega), v2]
    refine ⟨(vin (by omega)).mpr (by omega), ?_⟩
    rw [if_neg (show ¬ nI w ≤ 60 from nI_ge (a := 60) (by omega) (by omega))]
    exact h
theorem M_drops' {S : RT} {p : PT} {r : Nat} (hm : p 30 1 ≤ 6) (hr : repM S p) (hrr : r < p 30 1) {Q : RT → Prop} (h : ∀ S', repM S' (dropP p r) → FrC S S' → Q S') : wX7_drops S (nI r) Q := by
  obtain ⟨r1, r2, r3, r4, r5⟩ := hr
  unfold wX7_drops
  rw [r2, l1, nS (by omega)]
  rintro P1 rfl
  have fd : ∀ (T : RT) (k : Nat), FrC T (dK 6 7 T r k) := fun T k => ⟨fun a q1 q2 => dK_a (by omega) (by omega), fun j q1 q2 q3 => by rw [dK_a (by decide) (by decide)]⟩
  have key := M_dropL (P := set2 S 30 9 (nI (p 30 1 - 1))) (r := r) (m := p 30 1 - 1) (Q := Q) (by omega) set2_s (h _ ?_ ((FrC.sc (by omega)).tr (fd _ _))) (p 30 1 - 1 - r) r (by omega) (Nat.le_refl _)
  · rw [dK_0] at key; exact ⟨_, key⟩
  · refine ⟨?_, ?_, ?_, fun i hi => ?_, fun j hj => ?_⟩
    · rw [dK_a (by decide) (by decide)]; exact r1
    · rw [dK_a (by decide) (by decide)]; rfl
    · rw [dK_a (by decide) (by decide)]; exact r3
    · rw [dK_a (by decide) (by decide), dK_a (by decide) (by decide), dK_a (by decide) (by decide), dK_a (by decide) (by decide), dK_a (by decide) (by decide)]; exact r4 i hi
    · have hj : j < p 30 1 - 1 := hj
      show dK 6 7 (set2 S 30 9 _) r _ 6 j = nI (if r ≤ j then p 5 (j + 1) else p 5 j) ∧ dK 6 7 (set2 S 30 9 _) r _ 7 j = nI (if r ≤ j then p 6 (j + 1) else p 6 j)
      unfold dK
      by_cases c : r ≤ j
      · rw [if_pos c, if_pos c, if_pos (by omega), if_pos (by omega)]; exact r5 (j + 1) (by omega)
      · rw [if_neg c, if_neg c, if_neg (by omega), if_neg (by omega)]; exact r5 j (by omega)
/-- what the statement at a place makes of the port -/
def ap (c : Nat → Nat) (p : PT) (a : Nat) : Option PT :=
  if c a = 99 then (if c (a + 1) - 48 < p 30 1 then some (dropP p (c (a + 1) - 48)) else none)
  else if c a = 114 then (if (c (a + 1) - 48 < p 30 0 ∧ c (a + 2) - 48 < p 30 0 ∧ c (a + 1) - 48 ≠ c (a + 2) - 48) ∧ p 30 1 < 6 then some (addP p (c (a + 1) - 48) (c (a + 2) - 48)) else none)
  else if c a = 115 then (if c (a + 1) - 48 < p 30 0 then some (setN p 3 (c (a + 1) - 48) (c (a + 2) - 48)) else none)
  else if c a = 116 then (if num c (a + 3) ≤ 60 ∧ p 30 0 < 8 then some (addT p (zkx (c (a + 1))) (c (a + 2) - 48) (num c (a + 3))) else none)
  else if c a = 117 then (if c (a + 1) - 48 < p 30 0 ∧ num c (a + 2) ≤ 20 then some (setN p 4 (c (a + 1) - 48) (num c (a + 2))) else none)
  else (if (1 ≤ num c (a + 1) ∧ num c (a + 1) ≤ 60) ∧ p 30 2 + num c (a + 1) ≤ 999 then some (hoursP p (num c (a + 1))) else none)
theorem bp_d {c : Nat → Nat} {n a : Nat} (hb : bp c n a = none) {i : Nat} (h1 : 1 ≤ i) (h2 : i < zln (c a)) (hz : zfm (c a) i = 48) : dgp c n (a + i) := (gd48 hz).mp ((bp_all hb).2.2 i h1 h2)
theorem bp_k {c : Nat → Nat} {n a : Nat} (hb : bp c n a = none) (h : c a = 116) : a + 1 < n ∧ zkx (c (a + 1)) < 6 := (gd107 (by rw [h]; rfl)).mp ((bp_all hb).2.2 1 (by omega) (by rw [h]; decide))
theorem ap_ok {c : Nat → Nat} {n a : Nat} {p p' : PT} (ok : okP 999 p) (hb : bp c n a = none) (h : ap c p a = some p') : okP 999 p' := by
  unfold ap at h
  by_cases q1 : c a = 99
  · rw [if_pos q1] at h
    by_cases g : c (a + 1) - 48 < p 30 1
    · rw [if_pos g] at h; cases h; exact okP_drop ok g
    · rw [if_neg g] at h; cases h
  rw [if_neg q1] at h
  by_cases q2 : c a = 114
  · rw [if_pos q2] at h
    by_cases g : (c (a + 1) - 48 < p 30 0 ∧ c (a + 2) - 48 < p 30 0 ∧ c (a + 1) - 48 ≠ c (a + 2) - 48) ∧ p 30 1 < 6
    · rw [if_pos g] at h; cases h; exact okP_add ok g.2 g.1.1 g.1.2.1 g.1.2.2
    · rw [if_neg g] at h; cases h
  rw [if_neg q2] at h
  by_cases q3 : c a = 115
  · rw [if_pos q3] at h
    by_cases g : c (a + 1) - 48 < p 30 0
    · rw [if_pos g] at h; cases h
      have d2 := bp_d hb (i := 2) (by omega) (by rw [q3]; decide) (by rw [q3]; rfl)
      exact okP_set3 (by have := d2.2.2; omega) ok
    · rw [if_neg g] at h; cases h
  rw [if_neg q3] at h
  by_cases q4 : c a = 116
  · rw [if_pos q4] at h
    by_cases g : num c (a + 3) ≤ 60 ∧ p 30 0 < 8
    · rw [if_pos g] at h; cases h
      have d2 := bp_d hb (i := 2) (by omega) (by rw [q4]; decide) (by rw [q4]; rfl)
      exact okP_addT ok g.2 (by have := (bp_k hb q4).2; omega) (by have := d2.2.2; omega) g.1
    · rw [if_neg g] at h; cases h
  rw [if_neg q4] at h
  by_cases q5 : c a = 117
  · rw [if_pos q5] at h
    by_cases g : c (a + 1) - 48 < p 30 0 ∧ num c (a + 2) ≤ 20
    · rw [if_pos g] at h; cases h; exact okP_set4 g.2 ok
    · rw [if_neg g] at h; cases h
  rw [if_neg q5] at h
  by_cases g : (1 ≤ num c (a + 1) ∧ num c (a + 1) ≤ 60) ∧ p 30 2 + num c (a + 1) ≤ 999
  · rw [if_pos g] at h; cases h
    exact okP_re (okP_hours ok _) (by rw [hoursP_h]; exact g.2)
  · rw [if_neg g] at h; cases h
theorem X_digit {L : RT} {c : Nat → Nat} {n x : Nat} (hn : n ≤ 96) (hc : ∀ i, i < n → c i ≤ 255 ∧ L 0 i = nI (c i)) (d : dgp c n x) {Q : Int32 → Prop} (h : Q (nI (c x - 48))) : wX0_digit L (nI x) Q := by
  have hx := d.1
  unfold wX0_digit
  rw [nI_clamp (by omega), (hc x hx).2, l48, nS d.2.1]
  exact ⟨(vin (by omega)).mpr (by omega), h⟩
theorem X_num {L : RT} {c : Nat → Nat} {n x : Nat} (hn : n ≤ 96) (hc : ∀ i, i < n → c i ≤ 255 ∧ L 0 i = nI (c i)) (d : dgp c n x) (d2 : dgp c n (x + 1)) {Q : Int32 → Prop} (h : Q (nI (num c x))) : wX0_number L (nI x) Q := by
  unfold wX0_number
  refine X_digit hn hc d ?_
  try dsimp only
  rw [nI_1]
  refine X_digit hn hc d2 ?_
  try dsimp only
  rw [l10, pk_mul, nI_add]
  exact h
theorem noP2 {a b n : Nat} (h : ¬ (a < n ∧ b < n ∧ a ≠ b)) (ha : a < 2 ^ 31) (hb : b < 2 ^ 31) (hn : n < 2 ^ 31) : noPair (nI a) (nI b) n := by
  by_cases c : a < n
  · exact noP c (fun q => h ⟨c, q.1, q.2⟩) hb
  · exact Or.inl (Or.inr (nI_le (by omega) (by omega)))
theorem X_tell {L P : RT} {c : Nat → Nat} {n a : Nat} {p : PT} (hn : n ≤ 96) (hc : ∀ i, i < n → c i ≤ 255 ∧ L 0 i = nI (c i)) (ha : a < n) (hb : bp c n a = none) (ok : okP 999 p) (hr : repX P p) {Q : Int32 → RT → Prop} (y : ∀ p' P', ap c p a = some p' → repX P' p' → Q 1 P') (z : ap c p a = none → ∀ P', Q 0 P') : wX0_tellStatement L P (nI a) Q := by
  have o1 := ok.1
  have o2 := ok.2.1
  have o3 := ok.2.2.1
  have h255 := (hc a ha).1
  have ne : ∀ v, v ≤ 255 → ¬ c a = v → ¬ nI (c a) = nI v := fun v hv q e => q ((nI_eq (by omega) (by omega)).mp e)
  unfold wX0_tellStatement
  rw [nI_clamp (by omega), (hc a ha).2]
  refine ⟨(vin (by omega)).mpr (by omega), ?_⟩
  rintro s2 rfl
  unfold ap at y z
  by_cases q1 : c a = 99
  · rw [if_pos q1] at y z
    have d1 := bp_d hb (i := 1) (by omega) (by rw [q1]; decide) (by rw [q1]; rfl)
    rw [if_pos (show nI (c a) = 99 by rw [q1]; rfl), nI_1]
    refine X_digit hn hc d1 ?_
    try dsimp only
    unfold wX0_tellCut
    have hd := d1.2.2
    by_cases g : c (a + 1) - 48 < p 30 1
    · rw [if_pos g] at y
      refine X_hR hr.2.1 g (by omega) ?_
      try dsimp only
      rw [if_neg bz_k]
      exact X_dropRope o2 hr g (fun P' h' => ⟨Or.inr rfl, y _ P' rfl h'⟩)
    · rw [if_neg g] at z
      refine X_hR_no hr.2.1 (Or.inr (nI_le (by omega) (by omega))) ?_
      try dsimp only
      rw [if_pos rfl]
      exact ⟨Or.inl rfl, z rfl P⟩
  rw [if_neg q1] at y z
  rw [if_neg (show ¬ nI (c a) = 99 from ne 99 (by decide) q1)]
  by_cases q2 : c a = 114
  · rw [if_pos q2] at y z
    have d1 := bp_d hb (i := 1) (by omega) (by rw [q2]; decide) (by rw [q2]; rfl)
    have d2 := bp_d hb (i := 2) (by omega) (by rw [q2]; decide) (by rw [q2]; rfl)
    have hd := d1.2.2
    have hd2 := d2.2.2
    rw [if_pos (show nI (c a) = 114 by rw [q2]; rfl), nI_1, l2, nI_add]
    refine X_digit hn hc d1 ?_
    try dsimp only
    refine X_digit hn hc d2 ?_
    try dsimp only
    unfold wX0_tellRope
    by_cases g : c (a + 1) - 48 < p 30 0 ∧ c (a + 2) - 48 < p 30 0 ∧ c (a + 1) - 48 ≠ c (a + 2) - 48
    · refine X_hP o1 hr.1 g.1 g.2.1 g.2.2 ?_
      try dsimp only
      rw [if_neg bz_k, hr.2.1, l6]
      by_cases g2 : p 30 1 < 6
      · rw [if_pos ⟨g, g2⟩] at y
        rw [if_pos (nI_lt g2 (by omega))]
        exact X_addRope g2 hr (fun P' h' => ⟨Or.inr rfl, y _ P' rfl h'⟩)
      · rw [if_neg (fun q => g2 q.2)] at z
        rw [if_neg (nI_nlt (by omega) (by omega))]
        exact ⟨Or.inl rfl, z rfl P⟩
    · rw [if_neg (fun q => g q.1)] at z
      refine X_hP_no o1 hr.1 (noP2 g (by omega) (by omega) (by omega)) ?_
      try dsimp only
      rw [if_pos rfl]
      exact ⟨Or.inl rfl, z rfl P⟩
  rw [if_neg q2] at y z
  rw [if_neg (show ¬ nI (c a) = 114 from ne 114 (by decide) q2)]
  by_cases q3 : c a = 115
  · rw [if_pos q3] at y z
    have d1 := bp_d hb (i := 1) (by omega) (by rw [q3]; decide) (by rw [q3]; rfl)
    have d2 := bp_d hb (i := 2) (by omega) (by rw [q3]; decide) (by rw [q3]; rfl)
    have hd := d1.2.2
    rw [if_pos (show nI (c a) = 115 by rw [q3]; rfl), nI_1, l2, nI_add]
    refine X_digit hn hc d1 ?_
    try dsimp only
    refine X_digit hn hc d2 ?_
    try dsimp only
    unfold wX0_tellStones
    by_cases g : c (a + 1) - 48 < p 30 0
    · rw [if_pos g] at y
      refine X_hT hr.1 g o1 ?_
      try dsimp only
      rw [if_neg bz_k, nI_clamp (by omega)]
      refine ⟨(vin (by omega)).mpr (by omega), ?_⟩
      rintro P4 rfl
      exact ⟨Or.inr rfl, y _ _ rfl (repX_set3 hr)⟩
    · rw [if_neg g] at z
      refine X_hT_no hr.1 (Or.inr (nI_le (by omega) (by omega))) ?_
      try dsimp only
      rw [if_pos rfl]
      exact ⟨Or.inl rfl, z rfl P⟩
  rw [if_neg q3] at y z
  rw [if_neg (show ¬ nI (c a) = 115 from ne 115 (by decide) q3)]
  by_cases q4 : c a = 116
  · rw [if_pos q4] at y z
    have k1 := bp_k hb q4
    have d2 := bp_d hb (i := 2) (by omega) (by rw [q4]; decide) (by rw [q4]; rfl)
    have d3 := bp_d hb (i := 3) (by omega) (by rw [q4]; decide) (by rw [q4]; rfl)
    have d4 := bp_d hb (i := 4) (by omega) (by rw [q4]; decide) (by rw [q4]; rfl)
    have hn99 : num c (a + 3) ≤ 99 := by have h1 := d3.2.2; have h2 := d4.2.2; unfold num; rw [show a + 3 + 1 = a + 4 from rfl]; omega
    rw [if_pos (show nI (c a) = 116 by rw [q4]; rfl), nI_1, nI_clamp (by omega), (hc (a + 1) k1.1).2, l2, nI_add, l3, nI_add]
    refine ⟨(vin (by omega)).mpr (by omega), ?_⟩
    refine X_kind (hc (a + 1) k1.1).1 ?_
    try dsimp only
    rw [if_pos k1.2]
    refine X_digit hn hc d2 ?_
    try dsimp only
    refine X_num hn hc d3 d4 ?_
    try dsimp only
    unfold wX0_tellThing
    by_cases g1 : num c (a + 3) ≤ 60
    · rw [if_neg (show ¬ (60 : Int32) < nI (num c (a + 3)) from nI_nlt (a := 60) g1 (by decide)), hr.1, l8]
      by_cases g2 : p 30 0 < 8
      · rw [if_pos ⟨g1, g2⟩] at y
        rw [if_pos (nI_lt g2 (by omega))]
        exact X_addThing g2 hr (fun P' h' => ⟨Or.inr rfl, y _ P' rfl h'⟩)
      · rw [if_neg (fun q => g2 q.2)] at z
        rw [if_neg (nI_nlt (by omega) (by omega))]
        exact ⟨Or.inl rfl, z rfl P⟩
    · rw [if_neg (fun q => g1 q.1)] at z
      rw [if_pos (show (60 : Int32) < nI (num c (a + 3)) from nI_lt (a := 60) (by omega) (by omega))]
      exact ⟨Or.inl rfl, z rfl P⟩
  rw [if_neg q4] at y z
  rw [if_neg (show ¬ nI (c a) = 116 from ne 116 (by decide) q4)]
  by_cases q5 : c a = 117
  · rw [if_pos q5] at y z
    have d1 := bp_d hb (i := 1) (by omega) (by rw [q5]; decide) (by rw [q5]; rfl)
    have d2 := bp_d hb (i := 2) (by omega) (by rw [q5]; decide) (by rw [q5]; rfl)
    have d3 := bp_d hb (i := 3) (by omega) (by rw [q5]; decide) (by rw [q5]; rfl)
    have hd := d1.2.2
    have hn99 : num c (a + 2) ≤ 99 := by have h1 := d2.2.2; have h2 := d3.2.2; unfold num; rw [show a + 2 + 1 = a + 3 from rfl]; omega
    rw [if_pos (show nI (c a) = 117 by rw [q5]; rfl), nI_1, l2, nI_add]
    refine X_digit hn hc d1 ?_
    try dsimp only
    refine X_num hn hc d2 d3 ?_
    try dsimp only
    unfold wX0_tellHeight
    by_cases g : c (a + 1) - 48 < p 30 0
    · refine X_hT hr.1 g o1 ?_
      try dsimp only
      rw [if_neg bz_k]
      by_cases g2 : num c (a + 2) ≤ 20
      · rw [if_pos ⟨g, g2⟩] at y
        rw [if_pos (show nI (num c (a + 2)) ≤ 20 from nI_le (b := 20) g2 (by decide)), nI_clamp (by omega)]
        refine ⟨(vin (by omega)).mpr (by omega), ?_⟩
        rintro P4 rfl
        exact ⟨Or.inr rfl, y _ _ rfl (repX_set4 hr)⟩
      · rw [if_neg (fun q => g2 q.2)] at z
        rw [if_neg (show ¬ nI (num c (a + 2)) ≤ 20 from nI_ge (a := 20) (by omega) (by omega))]
        exact ⟨Or.inl rfl, z rfl P⟩
    · rw [if_neg (fun q => g q.1)] at z
      refine X_hT_no hr.1 (Or.inr (nI_le (by omega) (by omega))) ?_
      try dsimp only
      rw [if_pos rfl]
      exact ⟨Or.inl rfl, z rfl P⟩
  rw [if_neg q5] at y z
  rw [if_neg (show ¬ nI (c a) = 117 from ne 117 (by decide) q5)]
  have q6 : c a = 104 := by
    rcases let6 (c a) with h | h | h | h | h | h | h
    · exact absurd h q4
    · exact absurd h q2
    · exact absurd h q1
    · exact absurd h q3
    · exact absurd h q5
    · exact h
    · have := (bp_all hb).1; omega
  have d1 := bp_d hb (i := 1) (by omega) (by rw [q6]; decide) (by rw [q6]; rfl)
  have d2 := bp_d hb (i := 2) (by omega) (by rw [q6]; decide) (by rw [q6]; rfl)
  have hn99 : num c (a + 1) ≤ 99 := by have h1 := d1.2.2; have h2 := d2.2.2; unfold num; rw [show a + 1 + 1 = a + 2 from rfl]; omega
  rw [nI_1]
  refine X_num hn hc d1 d2 ?_
  try dsimp only
  unfold wX0_tellHours
  by_cases g1 : 1 ≤ num c (a + 1)
  · rw [if_neg (show ¬ nI (num c (a + 1)) < 1 from nI_nlt (a := num c (a + 1)) (b := 1) g1 (by omega))]
    by_cases g2 : num c (a + 1) ≤ 60
    · rw [if_neg (show ¬ (60 : Int32) < nI (num c (a + 1)) from nI_nlt (b := num c (a + 1)) g2 (by decide)), hr.2.2.1, nI_add, l999]
      by_cases g3 : p 30 2 + num c (a + 1) ≤ 999
      · rw [if_pos ⟨⟨g1, g2⟩, g3⟩] at y
        rw [if_pos (nI_le g3 (by omega))]
        exact X_goHours (b := 999) (by omega) (by decide) ok hr (fun P' h' => ⟨Or.inr rfl, y _ P' rfl h'⟩)
      · rw [if_neg (fun q => g3 q.2)] at z
        rw [if_neg (nI_ge (by omega) (by omega))]
        exact ⟨Or.inl rfl, z rfl P⟩
    · rw [if_neg (fun q => g2 q.1.2)] at z
      rw [if_pos (show (60 : Int32) < nI (num c (a + 1)) from nI_lt (a := 60) (by omega) (by omega))]
      exact ⟨Or.inl rfl, z rfl P⟩
  · rw [if_neg (fun q => g1 q.1.1)] at z
    rw [if_pos (show nI (num c (a + 1)) < 1 from nI_lt (b := 1) (by omega) (by decide))]
    exact ⟨Or.inl rfl, z rfl P⟩
