/-! ===== PURE: a thing's heft ===== -/
theorem qeq {Q : Int32 → Prop} {a b : Nat} (e : a = b) (h : Q (nI b)) : Q (nI a) := by rw [e]; exact h
theorem Xh132 {P : RT} {Q : Int32 → Prop} {hr kd x : Nat} (r3 : P 30 9 = nI hr) (h1 : hr < 2000) (h2 : kd ≤ 5) (h3 : x ≤ 200) (h : Q (nI (if kd = 3 ∧ hr % 2 = 1 then x + 5 else x))) : bX3_heftOf_132 P Q (nI kd) (nI x) := by
  unfold bX3_heftOf_132
  simp (disch := omega) only [l1, l2, l3, l5, r3, pk_div, pk_mul, nS, nI_eq, nI_add, forall_eq]
  repeat' split
  all_goals exact qeq (by (repeat' split) <;> omega) h
theorem dec_m1 {x : Nat} (hx : 1 ≤ x) : nI x + (-1 : Int32) = nI (x - 1) := by
  rw [← Int32.sub_eq_add_neg, l1, nS hx]
theorem Xh113 {P : RT} {Q : Int32 → Prop} {hr kd ib od x : Nat} (r3 : P 30 9 = nI hr) (h1 : hr < 2000) (h2 : kd ≤ 5) (h3 : x ≤ 200) (h4 : ib ≤ 1) (h5 : od < 24) (h : Q (nI (if kd = 3 ∧ hr % 2 = 1 then (if ib = 1 ∧ od ≤ 5 then x - 1 else x) + 5 else (if ib = 1 ∧ od ≤ 5 then x - 1 else x)))) : bX3_heftOf_113 P Q (nI kd) (nI ib) (nI od) (nI x) := by
  unfold bX3_heftOf_113
  rcases Nat.eq_zero_or_pos x with hx | hx
  · have e : nI x ≤ (0 : Int32) := by rw [l0]; exact (nI_leI (by omega) (by omega)).mpr (by omega)
    rw [if_pos e]
    simp (disch := omega) only [l0, l5, nI_ltI, nI_eq]
    repeat' split
    all_goals exact Xh132 r3 h1 h2 (by omega) (qeq (by (repeat' split) <;> omega) h)
  · have e : ¬ nI x ≤ (0 : Int32) := by rw [l0, nI_leI (by omega) (by omega)]; omega
    rw [if_neg e, forall_eq, dec_m1 hx]
    simp (disch := omega) only [l0, l5, nI_ltI, nI_eq]
    repeat' split
    all_goals exact Xh132 r3 h1 h2 (by omega) (qeq (by (repeat' split) <;> omega) h)
theorem Xh88 {P : RT} {Q : Int32 → Prop} {hr kd ib od x t fg n : Nat} (r3 : P 30 9 = nI hr) (e1 : P 1 t = nI fg) (ht : t < n) (hn : n ≤ 8) (hf : fg ≤ 9) (h1 : hr < 2000) (h2 : kd ≤ 5) (h3 : x ≤ 100) (h4 : ib ≤ 1) (h5 : od < 24) (h : Q (nI (let y := if 12 ≤ od ∧ od ≤ 17 then x + fg else x; if kd = 3 ∧ hr % 2 = 1 then (if ib = 1 ∧ od ≤ 5 then y - 1 else y) + 5 else (if ib = 1 ∧ od ≤ 5 then y - 1 else y)))) : bX3_heftOf_88 P Q (nI t) (nI kd) (nI ib) (nI od) (nI x) := by
  unfold bX3_heftOf_88
  simp (disch := omega) only [l12, l17, vin, nI_clamp, e1, nI_add, nI_ltI, forall_eq]
  repeat' split
  · exact Xh113 r3 h1 h2 (by omega) h4 h5 (qeq (by dsimp only; (repeat' split) <;> omega) h)
  · exact Xh113 r3 h1 h2 (by omega) h4 h5 (qeq (by dsimp only; (repeat' split) <;> omega) h)
  · exact ⟨by omega, Xh113 r3 h1 h2 (by omega) h4 h5 (qeq (by dsimp only; (repeat' split) <;> omega) h)⟩
theorem Xh64 {P : RT} {Q : Int32 → Prop} {hr kd ib x t fg n : Nat} (r3 : P 30 9 = nI hr) (e1 : P 1 t = nI fg) (ht : t < n) (hn : n ≤ 8) (hf : fg ≤ 9) (h1 : hr < 2000) (h2 : kd ≤ 5) (h3 : x ≤ 100) (h4 : ib ≤ 1) (h : Q (nI (let y := if (kd = 1 ∨ ib = 1) ∧ 12 ≤ hr % 24 ∧ hr % 24 ≤ 17 then x + fg else x; if kd = 3 ∧ hr % 2 = 1 then (if ib = 1 ∧ hr % 24 ≤ 5 then y - 1 else y) + 5 else (if ib = 1 ∧ hr % 24 ≤ 5 then y - 1 else y)))) : bX3_heftOf_64 P Q (nI t) (nI x) (nI kd) (nI ib) := by
  unfold bX3_heftOf_64
  simp (disch := omega) only [l0, l1, l24, r3, pk_div, pk_mul, nS, nI_eq, forall_eq]
  have e : hr - hr / 24 * 24 = hr % 24 := by omega
  rw [e]
  repeat' split
  · exact Xh88 r3 e1 ht hn hf h1 h2 (by omega) h4 (by omega) (qeq (by dsimp only; (repeat' split) <;> omega) h)
  · exact Xh113 r3 h1 h2 (by omega) h4 (by omega) (qeq (by dsimp only; (repeat' split) <;> omega) h)
  · exact Xh88 r3 e1 ht hn hf h1 h2 (by omega) h4 (by omega) (qeq (by dsimp only; (repeat' split) <;> omega) h)
theorem X_heft {b : Nat} {P : RT} {p : PT} (hb : b < 2000) (ok : okP b p) (hr : repX P p) {t : Nat} (ht : t < p 30 0) {Q : Int32 → Prop} (h : Q (nI (heft p t))) : wX3_heftOf P (nI t) Q := by
  obtain ⟨o1, o2, o3, o4, o5⟩ := ok
  obtain ⟨r1, r2, r3, r4, r5⟩ := hr
  obtain ⟨k1, k2, k3, k4, k5⟩ := o4 t ht
  obtain ⟨e1, e2, e3, e4, e5⟩ := r4 t ht
  unfold heft hf at h
  generalize p 0 t = kd at *
  generalize p 1 t = fg at *
  generalize p 2 t = wt at *
  generalize p 3 t = st at *
  generalize p 30 2 = hr at *
  unfold wX3_heftOf bX3_heftOf_59
  simp (disch := omega) only [l2, l3, l4, l5, l20, vin, nI_clamp, e1, e2, e3, e4, nI_add, pk_mul, pk_div, nI_eq, forall_eq]
  refine ⟨by omega, ?_⟩
  repeat' split
  · exact qeq (by (repeat' split) <;> omega) h
  · exact qeq (by (repeat' split) <;> omega) h
  · exact Xh64 (ib := 1) r3 e2 ht o1 k2 (by omega) k1 (by omega) (by omega) (qeq (by dsimp only; (repeat' split) <;> omega) h)
  · exact Xh64 (ib := 1) r3 e2 ht o1 k2 (by omega) k1 (by omega) (by omega) (qeq (by dsimp only; (repeat' split) <;> omega) h)
  · exact Xh64 (ib := 0) r3 e2 ht o1 k2 (by omega) k1 (by omega) (by omega) (qeq (by dsimp only; (repeat' split) <;> omega) h)
theorem M_isIn {a b c : Int32} {Q : Int32 → Prop} (h : Q (if b ≤ a ∧ a ≤ c then 1 else 0)) : wX7_isIn a b c Q := by
  unfold wX7_isIn
  have e1 : ∀ x y : Int32, x < y ↔ ¬ y ≤ x := fun x y => by rw [Int32.lt_iff_toInt_lt, Int32.le_iff_toInt_le]; omega
  simp only [e1] 
  repeat' split
  · rw [if_neg (by rintro ⟨h1, h2⟩; contradiction)] at h; exact h
  · rw [if_neg (by rintro ⟨h1, h2⟩; contradiction)] at h; exact h
  · rename_i h1 h2
    rw [if_pos ⟨Classical.not_not.mp h1, Classical.not_not.mp h2⟩] at h; exact h
theorem Mh67 {S : RT} {Q : Int32 → Prop} {t hr pl pe ba kd fg n : Nat} (e0 : S 1 t = nI kd) (e1 : S 2 t = nI fg) (ht : t < n) (hn : n ≤ 8) (k1 : kd ≤ 5) (k2 : fg ≤ 9) (h1 : hr < 2000) (h3 : pl ≤ 100) (h4 : pe ≤ 200) (h5 : ba ≤ 200) (h : Q (nI (if kd = 1 then pe else if kd = 2 then ba else if kd = 3 then (ba + if hr % 2 = 1 then 5 else 0) else if kd = 4 then pl / 2 else if kd = 5 then pl + 20 + fg else pl))) : bX7_heftAt_67 S Q (nI t) (nI hr) (nI pl) (nI pe) (nI ba) := by
  unfold bX7_heftAt_67
  simp (disch := omega) only [l0, l1, l2, l3, l4, l5, l20, vin, nI_clamp, e0, e1, nI_add, pk_mul, pk_div, nS, nI_eq, forall_eq]
  refine ⟨by omega, ?_⟩
  repeat' split
  all_goals exact qeq (by (repeat' split) <;> omega) h
theorem Mh41 {S : RT} {Q : Int32 → Prop} {t hr pl ad kd fg n : Nat} (e0 : S 1 t = nI kd) (e1 : S 2 t = nI fg) (ht : t < n) (hn : n ≤ 8) (k1 : kd ≤ 5) (k2 : fg ≤ 9) (h1 : hr < 2000) (h3 : pl ≤ 100) (h4 : ad ≤ 9) (h : Q (nI (if kd = 1 then pl + ad else if kd = 2 then (if hr % 24 < 6 then pl + ad - 1 else pl + ad) else if kd = 3 then ((if hr % 24 < 6 then pl + ad - 1 else pl + ad) + if hr % 2 = 1 then 5 else 0) else if kd = 4 then pl / 2 else if kd = 5 then pl + 20 + fg else pl))) : bX7_heftAt_41 S Q (nI t) (nI hr) (nI pl) (nI pl) (nI ad) := by
  unfold bX7_heftAt_41 bX7_heftAt_65
  simp (disch := omega) only [l0, l1, l6, l24, nI_add, pk_mul, pk_div, nS, nI_leI, forall_eq]
  have e : hr - hr / 24 * 24 = hr % 24 := by omega
  rw [e]
  repeat' split
  · exact Mh67 e0 e1 ht hn k1 k2 h1 h3 (by omega) (by omega) (qeq (by (repeat' split) <;> omega) h)
  · exact Mh67 e0 e1 ht hn k1 k2 h1 h3 (by omega) (by omega) (qeq (by (repeat' split) <;> omega) h)
  · exact Mh67 e0 e1 ht hn k1 k2 h1 h3 (by omega) (by omega) (qeq (by (repeat' split) <;> omega) h)
theorem M_heft {b : Nat} {S : RT} {p : PT} (hb : b < 2000) (ok : okP b p) (hr : repM S p) {t : Nat} (ht : t < p 30 0) {Q : Int32 → Prop} (h : Q (nI (heft p t))) : wX7_heft S (nI t) Q := by
  obtain ⟨o1, o2, o3, o4, o5⟩ := ok
  obtain ⟨r1, r2, r3, r4, r5⟩ := hr
  obtain ⟨k1, k2, k3, k4, k5⟩ := o4 t ht
  obtain ⟨e1, e2, e3, e4, e5⟩ := r4 t ht
  unfold heft hf at h
  unfold wX7_heft wX7_heftAt
  generalize p 0 t = kd at *
  generalize p 1 t = fg at *
  generalize p 2 t = wt at *
  generalize p 3 t = st at *
  generalize p 30 2 = hr at *
  simp (disch := omega) only [l2, l12, l17, l24, vin, nI_clamp, e1, e2, e3, e4, r3, nI_add, pk_mul, pk_div, nS, forall_eq]
  have e : hr - hr / 24 * 24 = hr % 24 := by omega
  rw [e]
  refine ⟨by omega, M_isIn ?_⟩
  simp (disch := omega) only [nI_leI]
  split
  · rw [if_neg (by decide)]
    exact Mh41 e1 e2 ht o1 k1 k2 (by omega) (by omega) (by omega) (qeq (by (repeat' split) <;> omega) h)
  · rw [if_pos rfl]
    exact Mh41 (ad := 0) e1 e2 ht o1 k1 k2 (by omega) (by omega) (by omega) (qeq (by (repeat' split) <;> omega) h)
