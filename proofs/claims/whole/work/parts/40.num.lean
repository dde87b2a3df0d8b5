/-! ===== PURE: numbers ===== -/
theorem l0 : (0 : Int32) = nI 0 := rfl
theorem l1 : (1 : Int32) = nI 1 := rfl
theorem l2 : (2 : Int32) = nI 2 := rfl
theorem l3 : (3 : Int32) = nI 3 := rfl
theorem l4 : (4 : Int32) = nI 4 := rfl
theorem l5 : (5 : Int32) = nI 5 := rfl
theorem l6 : (6 : Int32) = nI 6 := rfl
theorem l7 : (7 : Int32) = nI 7 := rfl
theorem l8 : (8 : Int32) = nI 8 := rfl
theorem l9 : (9 : Int32) = nI 9 := rfl
theorem l10 : (10 : Int32) = nI 10 := rfl
theorem l11 : (11 : Int32) = nI 11 := rfl
theorem l12 : (12 : Int32) = nI 12 := rfl
theorem l13 : (13 : Int32) = nI 13 := rfl
theorem l14 : (14 : Int32) = nI 14 := rfl
theorem l15 : (15 : Int32) = nI 15 := rfl
theorem l16 : (16 : Int32) = nI 16 := rfl
theorem l17 : (17 : Int32) = nI 17 := rfl
theorem l20 : (20 : Int32) = nI 20 := rfl
theorem l24 : (24 : Int32) = nI 24 := rfl
theorem l30 : (30 : Int32) = nI 30 := rfl
theorem l48 : (48 : Int32) = nI 48 := rfl
theorem l57 : (57 : Int32) = nI 57 := rfl
theorem l59 : (59 : Int32) = nI 59 := rfl
theorem l60 : (60 : Int32) = nI 60 := rfl
theorem l96 : (96 : Int32) = nI 96 := rfl
theorem l97 : (97 : Int32) = nI 97 := rfl
theorem l98 : (98 : Int32) = nI 98 := rfl
theorem l99 : (99 : Int32) = nI 99 := rfl
theorem l100 : (100 : Int32) = nI 100 := rfl
theorem l101 : (101 : Int32) = nI 101 := rfl
theorem l102 : (102 : Int32) = nI 102 := rfl
theorem l104 : (104 : Int32) = nI 104 := rfl
theorem l105 : (105 : Int32) = nI 105 := rfl
theorem l107 : (107 : Int32) = nI 107 := rfl
theorem l110 : (110 : Int32) = nI 110 := rfl
theorem l112 : (112 : Int32) = nI 112 := rfl
theorem l114 : (114 : Int32) = nI 114 := rfl
theorem l115 : (115 : Int32) = nI 115 := rfl
theorem l116 : (116 : Int32) = nI 116 := rfl
theorem l117 : (117 : Int32) = nI 117 := rfl
theorem l255 : (255 : Int32) = nI 255 := rfl
theorem l256 : (256 : Int32) = nI 256 := rfl
theorem l999 : (999 : Int32) = nI 999 := rfl
theorem l1000 : (1000 : Int32) = nI 1000 := rfl
theorem l2000 : (2000 : Int32) = nI 2000 := rfl
theorem nS {a b : Nat} (h : b ≤ a) : nI a - nI b = nI (a - b) := pk_sub h
theorem vin {n N : Nat} (h : n < 2 ^ 31) : vp_in (nI n) N ↔ n < N := by
  rw [vp_in_iff, nI_toInt h]; omega
theorem nsub_lt {a b : Nat} (ha : a < 2 ^ 30) (hb : b < 2 ^ 30) : nI a - nI b < 0 ↔ a < b := by
  rw [Int32.lt_iff_toInt_lt, pk_sub_toInt ha hb]; show (a : Int) - b < 0 ↔ _; omega
theorem nsub_le {a b : Nat} (ha : a < 2 ^ 30) (hb : b < 2 ^ 30) : nI a - nI b ≤ 0 ↔ a ≤ b := by
  rw [Int32.le_iff_toInt_le, pk_sub_toInt ha hb]; show (a : Int) - b ≤ 0 ↔ _; omega
theorem nsub_ge {a b : Nat} (ha : a < 2 ^ 30) (hb : b < 2 ^ 30) : 0 ≤ nI a - nI b ↔ b ≤ a := by
  rw [Int32.le_iff_toInt_le, pk_sub_toInt ha hb]; show 0 ≤ (a : Int) - b ↔ _; omega
theorem nsub_gt {a b : Nat} (ha : a < 2 ^ 30) (hb : b < 2 ^ 30) : 0 < nI a - nI b ↔ b < a := by
  rw [Int32.lt_iff_toInt_lt, pk_sub_toInt ha hb]; show 0 < (a : Int) - b ↔ _; omega
theorem nsub_eq {a b : Nat} (ha : a < 2 ^ 30) (hb : b < 2 ^ 30) : nI a - nI b = 0 ↔ a = b := by
  rw [← Int32.toInt_inj, pk_sub_toInt ha hb]; show (a : Int) - b = 0 ↔ _; omega
abbrev PT : Type := Nat → Nat → Nat
/-- weight of one thing at an hour -/
def hf (kd fg wt st h : Nat) : Nat :=
  if kd = 4 then (wt + 2 * st) / 2 else if kd = 5 then wt + 2 * st + 20 + fg else
  if kd = 1 then (if 12 ≤ h % 24 ∧ h % 24 ≤ 17 then wt + 2 * st + fg else wt + 2 * st) else
  if kd = 2 then (if 12 ≤ h % 24 ∧ h % 24 ≤ 17 then wt + 2 * st + fg else if h % 24 ≤ 5 then wt + 2 * st - 1 else wt + 2 * st) else
  if kd = 3 then (if 12 ≤ h % 24 ∧ h % 24 ≤ 17 then wt + 2 * st + fg else if h % 24 ≤ 5 then wt + 2 * st - 1 else wt + 2 * st) + (if h % 2 = 1 then 5 else 0) else wt + 2 * st
def heft (p : PT) (t : Nat) : Nat := hf (p 0 t) (p 1 t) (p 2 t) (p 3 t) (p 30 2)
/-- a port as it must be; b bounds its hour -/
def okP (b : Nat) (p : PT) : Prop := p 30 0 ≤ 8 ∧ p 30 1 ≤ 6 ∧ p 30 2 ≤ b ∧ (∀ i, i < p 30 0 → p 0 i ≤ 5 ∧ p 1 i ≤ 9 ∧ p 2 i ≤ 60 ∧ p 3 i ≤ 9 ∧ p 4 i ≤ 20) ∧ ∀ j, j < p 30 1 → p 5 j < p 30 0 ∧ p 6 j < p 30 0 ∧ p 5 j ≠ p 6 j
/-- the class's rows hold a port -/
def repX (P : RT) (p : PT) : Prop := P 30 7 = nI (p 30 0) ∧ P 30 8 = nI (p 30 1) ∧ P 30 9 = nI (p 30 2) ∧ (∀ i, i < p 30 0 → P 0 i = nI (p 0 i) ∧ P 1 i = nI (p 1 i) ∧ P 2 i = nI (p 2 i) ∧ P 3 i = nI (p 3 i) ∧ P 4 i = nI (p 4 i)) ∧ ∀ j, j < p 30 1 → P 5 j = nI (p 5 j) ∧ P 6 j = nI (p 6 j)
/-- the reference's rows hold a port -/
def repM (S : RT) (p : PT) : Prop := S 30 8 = nI (p 30 0) ∧ S 30 9 = nI (p 30 1) ∧ S 30 10 = nI (p 30 2) ∧ (∀ i, i < p 30 0 → S 1 i = nI (p 0 i) ∧ S 2 i = nI (p 1 i) ∧ S 3 i = nI (p 2 i) ∧ S 4 i = nI (p 3 i) ∧ S 5 i = nI (p 4 i)) ∧ ∀ j, j < p 30 1 → S 6 j = nI (p 5 j) ∧ S 7 j = nI (p 6 j)
theorem hf_le {kd fg wt st h : Nat} (h1 : fg ≤ 9) (h2 : wt ≤ 60) (h3 : st ≤ 9) : hf kd fg wt st h ≤ 107 := by
  unfold hf
  repeat' split
  all_goals omega
theorem heft_le {b : Nat} {p : PT} (ok : okP b p) {t : Nat} (ht : t < p 30 0) : heft p t ≤ 107 := by
  obtain ⟨-, h1, h2, h3, -⟩ := ok.2.2.2.1 t ht
  exact hf_le h1 h2 h3
