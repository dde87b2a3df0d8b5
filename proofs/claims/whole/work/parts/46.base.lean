/-! ===== PURE: what holds between the class and the reference ===== -/
/-- all of the reference but port, thoughts and junk; of what is kept the first B -/
def agr (B : Nat) (S0 S : RT) : Prop := S 0 = S0 0 ∧ S 12 = S0 12 ∧ S 25 = S0 25 ∧ S 30 16 = S0 30 16 ∧ S 30 20 = S0 30 20 ∧ S 30 26 = S0 30 26 ∧ S 30 11 = S0 30 11 ∧ ∀ b, b < B → S 19 b = S0 19 b
theorem agr.rf {B : Nat} {S : RT} : agr B S S := ⟨rfl, rfl, rfl, rfl, rfl, rfl, rfl, fun _ _ => rfl⟩
theorem agr.tr {B : Nat} {S S1 S2 : RT} (h : agr B S S1) (g : agr B S1 S2) : agr B S S2 :=
  ⟨g.1.trans h.1, g.2.1.trans h.2.1, g.2.2.1.trans h.2.2.1, g.2.2.2.1.trans h.2.2.2.1, g.2.2.2.2.1.trans h.2.2.2.2.1, g.2.2.2.2.2.1.trans h.2.2.2.2.2.1, g.2.2.2.2.2.2.1.trans h.2.2.2.2.2.2.1, fun b hb => (g.2.2.2.2.2.2.2 b hb).trans (h.2.2.2.2.2.2.2 b hb)⟩
theorem agr.lo {B B' : Nat} {S S1 : RT} (h : agr B S S1) (hB : B' ≤ B) : agr B' S S1 := ⟨h.1, h.2.1, h.2.2.1, h.2.2.2.1, h.2.2.2.2.1, h.2.2.2.2.2.1, h.2.2.2.2.2.2.1, fun b hb => h.2.2.2.2.2.2.2 b (by omega)⟩
theorem agr.sv {B w : Nat} {S S1 : RT} {p : PT} (h : agr B S S1) (hB : 55 * w + 55 ≤ B) (hn : p 30 0 ≤ 8) (hm : p 30 1 ≤ 6) (hs : svM S w p) : svM S1 w p := by
  have e := h.2.2.2.2.2.2.2
  obtain ⟨r1, r2, r3, r4, r5⟩ := hs
  refine ⟨by rw [e _ (by omega)]; exact r1, by rw [e _ (by omega)]; exact r2, by rw [e _ (by omega)]; exact r3, fun i hi => ?_, fun j hj => ?_⟩
  · rw [e _ (by omega), e _ (by omega), e _ (by omega), e _ (by omega), e _ (by omega)]; exact r4 i hi
  · rw [e _ (by omega), e _ (by omega)]; exact r5 j hj
theorem FrH.agr {S S' : RT} (h : FrH S S') : agr 165 S S' := ⟨h.1 0 (by decide) (by decide), h.1 12 (by decide) (by decide), h.1 25 (by decide) (by decide), h.2 16 (by decide), h.2 20 (by decide), h.2 26 (by decide), h.2 11 (by decide), fun b _ => by rw [h.1 19 (by decide) (by decide)]⟩
theorem FrK.agr {w : Nat} {S S' : RT} (h : FrK w S S') : agr (55 * w) S S' := ⟨h.1 0 (by decide) (by decide), h.1 12 (by decide) (by decide), h.1 25 (by decide) (by decide), h.2.1 16 (by decide) (by decide), h.2.1 20 (by decide) (by decide), h.2.1 26 (by decide) (by decide), h.2.1 11 (by decide) (by decide), fun b hb => h.2.2 b (by omega)⟩
theorem FrB.agr {S S' : RT} (h : FrB S S') : agr 165 S S' := ⟨h.2.1 0 (by decide) (by decide), h.2.1 12 (by decide) (by decide), h.2.1 25 (by decide) (by decide), h.2.2 16 (by decide) (by decide) (by decide) (by decide) (by decide), h.2.2 20 (by decide) (by decide) (by decide) (by decide) (by decide), h.2.2 26 (by decide) (by decide) (by decide) (by decide) (by decide), h.2.2 11 (by decide) (by decide) (by decide) (by decide) (by decide), fun b _ => by rw [h.1]⟩
theorem agr.set {B r i : Nat} {S : RT} {v : Int32} (h : 1 ≤ r ∧ r ≤ 7 ∨ r = 13 ∨ r = 14 ∨ r = 15 ∨ r = 23 ∨ r = 24) : agr B S (set2 S r i v) := by
  refine ⟨set2_a (by omega), set2_a (by omega), set2_a (by omega), ?_, ?_, ?_, ?_, fun b _ => by rw [set2_a (by omega)]⟩ <;> rw [set2_a (by omega)]
theorem agr.sc {B j : Nat} {S : RT} {v : Int32} (h : j = 8 ∨ j = 9 ∨ j = 10 ∨ j = 17 ∨ j = 18 ∨ j = 21 ∨ j = 22) : agr B S (set2 S 30 j v) :=
  ⟨set2_a (by decide), set2_a (by decide), set2_a (by decide), set2_b (by omega), set2_b (by omega), set2_b (by omega), set2_b (by omega), fun b _ => by rw [set2_a (by decide)]⟩
theorem M_thinks {S : RT} {p : PT} (hn : p 30 0 ≤ 8) (hm : p 30 1 ≤ 6) (hr : repM S p) {Q : RT → Prop} (h : ∀ S', repM S' p → svM S' 2 p → agr 110 S S' → Q S') : wX7_thinks S Q :=
  M_keepAll (w := 2) (by decide) hn hm hr (fun S' h1 h2 h3 => h S' h1 h2 h3.agr)
theorem M_forgets {S : RT} {p : PT} (hn : p 30 0 ≤ 8) (hm : p 30 1 ≤ 6) (hr : svM S 2 p) {Q : RT → Prop} (h : ∀ S', repM S' p → agr 165 S S' → Q S') : wX7_forgets S Q :=
  M_backAll (w := 2) (by decide) hn hm hr (fun S' h1 h2 => h S' h1 h2.agr)
theorem M_changesOn {S : RT} {p : PT} (hn : p 30 0 ≤ 8) (hm : p 30 1 ≤ 6) (hr : repM S p) {Q : RT → Prop} (h : ∀ S', repM S' p → svM S' 1 p → agr 55 S S' → Q S') : wX7_changesOn S Q :=
  M_keepAll (w := 1) (by decide) hn hm hr (fun S' h1 h2 h3 => h S' h1 h2 h3.agr)
theorem M_changesBack {S : RT} {p : PT} (hn : p 30 0 ≤ 8) (hm : p 30 1 ≤ 6) (hr : svM S 1 p) {Q : RT → Prop} (h : ∀ S', repM S' p → agr 165 S S' → Q S') : wX7_changesBack S Q :=
  M_backAll (w := 1) (by decide) hn hm hr (fun S' h1 h2 => h S' h1 h2.agr)
theorem cpy2_in {P : RT} {r n k : Nat} {f : Nat → Int32} (h : k < n) : cpy2 P r f 0 0 n r k = f k := by unfold cpy2 va_cpy; simp [h]
theorem cpy2_a {P : RT} {r n a : Nat} {f : Nat → Int32} (h : a ≠ r) : cpy2 P r f 0 0 n a = P a := by unfold cpy2; rw [if_neg h]
theorem X_copyFrom {P R : RT} {p : PT} (hn : p 30 0 ≤ 8) (hm : p 30 1 ≤ 6) (hr : repX R p) {Q : RT → Prop} (h : ∀ P', repX P' p → Q P') : wX3_copyFrom P R Q := by
  obtain ⟨r1, r2, r3, r4, r5⟩ := hr
  unfold wX3_copyFrom
  rintro P1 rfl P2 rfl P3 rfl
  have c7 : ¬ nI (p 30 0) < 0 ∧ (nI (p 30 0)).toNatClampNeg ≤ 8 ∧ (nI (p 30 0)).toNatClampNeg ≤ 8 := ⟨nI_pos (by omega), by rw [nI_clamp (by omega)]; exact hn, by rw [nI_clamp (by omega)]; exact hn⟩
  have c8 : ¬ nI (p 30 1) < 0 ∧ (nI (p 30 1)).toNatClampNeg ≤ 6 ∧ (nI (p 30 1)).toNatClampNeg ≤ 6 := ⟨nI_pos (by omega), by rw [nI_clamp (by omega)]; exact hm, by rw [nI_clamp (by omega)]; exact hm⟩
  have e7 : set2 (set2 (set2 P 30 7 (R 30 7)) 30 8 (R 30 8)) 30 9 (R 30 9) 30 7 = nI (p 30 0) := by rw [set2_b (by decide), set2_b (by decide), set2_s, r1]
  have e8 : set2 (set2 (set2 P 30 7 (R 30 7)) 30 8 (R 30 8)) 30 9 (R 30 9) 30 8 = nI (p 30 1) := by rw [set2_b (by decide), set2_s, r2]
  have e9 : set2 (set2 (set2 P 30 7 (R 30 7)) 30 8 (R 30 8)) 30 9 (R 30 9) 30 9 = nI (p 30 2) := by rw [set2_s, r3]
  generalize set2 (set2 (set2 P 30 7 (R 30 7)) 30 8 (R 30 8)) 30 9 (R 30 9) = P3 at *
  rw [e7]
  refine ⟨c7, ?_⟩
  rintro P5 rfl
  simp (disch := decide) only [cpy2_a, e7]
  refine ⟨c7, ?_⟩
  rintro P7 rfl
  simp (disch := decide) only [cpy2_a, e7]
  refine ⟨c7, ?_⟩
  rintro P9 rfl
  simp (disch := decide) only [cpy2_a, e7]
  refine ⟨c7, ?_⟩
  rintro P11 rfl
  simp (disch := decide) only [cpy2_a, e7]
  refine ⟨c7, ?_⟩
  rintro P13 rfl
  simp (disch := decide) only [cpy2_a, e8]
  refine ⟨c8, ?_⟩
  rintro P15 rfl
  simp (disch := decide) only [cpy2_a, e8]
  refine ⟨c8, ?_⟩
  rintro P17 rfl
  rw [nI_clamp (by omega), nI_clamp (by omega)]
  refine h _ ⟨?_, ?_, ?_, fun i hi => ?_, fun j hj => ?_⟩
  · simp (disch := decide) only [cpy2_a]; exact e7
  · simp (disch := decide) only [cpy2_a]; exact e8
  · simp (disch := decide) only [cpy2_a]; exact e9
  · simp (disch := first | decide | assumption) only [cpy2_a, cpy2_in]; exact r4 i hi
  · simp (disch := first | decide | assumption) only [cpy2_a, cpy2_in]; exact r5 j hj
/-- the rest: refusals, told numbers, letters, the image -/
def RQ (F K N L S : RT) : Prop := S 30 11 = -9 ∧ (∀ i, i < 7 → F 6 i = S 0 i) ∧ (∃ k, k ≤ 16 ∧ N 30 1 = nI k ∧ S 30 26 = nI k ∧ ∀ i, i < k → ∃ v, v ≤ 99 ∧ N 0 i = nI v ∧ S 25 i = nI v) ∧ (∃ k, k ≤ 96 ∧ L 30 1 = nI k ∧ S 30 16 = nI k ∧ ∀ i, i < k → ∃ v, v ≤ 255 ∧ L 0 i = nI v ∧ S 12 i = nI v) ∧ ((F 30 2 = 0 ∧ S 30 20 = 0) ∨ (F 30 2 = 1 ∧ S 30 20 = 1 ∧ ∃ q, okP 999 q ∧ repX K q ∧ svM S 0 q))
def Inv9 (F P K G T N L S : RT) : Prop := ∃ p : PT, okP 999 p ∧ repX P p ∧ repM S p ∧ RQ F K N L S
theorem RQ.agr {F K N L S S' : RT} (h : RQ F K N L S) (g : agr 55 S S') : RQ F K N L S' := by
  obtain ⟨g1, g2, g3, g4, g5, g6, g7, g8⟩ := id g
  obtain ⟨h1, h2, h3, h4, h5⟩ := h
  refine ⟨by rw [g7]; exact h1, by rw [g1]; exact h2, by rw [g6, g3]; exact h3, by rw [g4, g2]; exact h4, ?_⟩
  rw [g5]
  refine h5.imp id (fun ⟨a, b, q, c, d, e⟩ => ⟨a, b, q, c, d, agr.sv g (by decide) c.1 c.2.1 e⟩)
theorem RQ.ref {F K N L S : RT} {k : Nat} (h : RQ F K N L S) : RQ (set2 F 6 k (F 6 k + 1)) K N L (set2 S 0 k (S 0 k + 1)) := by
  obtain ⟨h1, h2, h3, h4, h5⟩ := h
  refine ⟨by rw [set2_a (by decide)]; exact h1, fun i hi => ?_, ?_, ?_, ?_⟩
  · by_cases e : i = k
    · subst e; rw [set2_s, set2_s, h2 i hi]
    · rw [set2_b e, set2_b e]; exact h2 i hi
  · rw [set2_a (by decide), set2_a (by decide)]; exact h3
  · rw [set2_a (by decide), set2_a (by decide)]; exact h4
  · rw [set2_a (by decide), set2_a (by decide)]
    refine h5.imp id (fun ⟨a, b, q, c, d, e⟩ => ⟨a, b, q, c, d, ?_⟩)
    unfold svM at e ⊢
    rw [set2_a (by decide)]
    exact e
theorem repM.ref {S : RT} {p : PT} {k : Nat} {v : Int32} (h : repM S p) : repM (set2 S 0 k v) p := by
  unfold repM at h ⊢
  rw [set2_a (by decide), set2_a (by decide), set2_a (by decide), set2_a (by decide), set2_a (by decide), set2_a (by decide), set2_a (by decide), set2_a (by decide)]
  exact h
theorem Inv9.ref {F P K N L S : RT} {p : PT} (ok : okP 999 p) (hx : repX P p) (hm : repM S p) (hq : RQ F K N L S) (k : Nat) (G' T' : RT) : Inv9 (set2 F 6 k (F 6 k + 1)) P K G' T' N L (set2 S 0 k (S 0 k + 1)) := ⟨p, ok, hx, hm.ref, hq.ref⟩
theorem X_ref {F : RT} {x : Int32} (k : Nat) {Q : Int32 → RT → Prop} (hk : k < 7) (e : -x = nI k) (h : Q x (set2 F 6 k (F 6 k + 1))) : wX6_refuse F x Q := by
  unfold wX6_refuse
  rw [e, nI_clamp (by omega)]
  refine ⟨(vin (by omega)).mpr hk, ?_⟩
  rintro F2 rfl
  exact h
theorem M_no {S : RT} {x : Int32} (k : Nat) {Q : Int32 → RT → Prop} (hk : k < 7) (e : -x = nI k) (h : Q x (set2 S 0 k (S 0 k + 1))) : wX7_no S x Q := by
  unfold wX7_no
  rw [e, nI_clamp (by omega)]
  refine ⟨(vin (by omega)).mpr hk, ?_⟩
  rintro F2 rfl
  exact h
/-- an argument: a place, or none -/
theorem ixc (x : Int32) (n : Nat) (hn : n < 2 ^ 31) : (∃ t, t < n ∧ x = nI t) ∨ (x < 0 ∨ nI n ≤ x) := by
  rcases pk_ix x hn with h | h | h
  · exact Or.inr (Or.inl h)
  · exact Or.inr (Or.inr h)
  · exact Or.inl h
theorem il {a b : Int32} : a < b ↔ ¬ b ≤ a := by rw [Int32.lt_iff_toInt_lt, Int32.le_iff_toInt_le]; omega
theorem X_hT_no {P : RT} {x : Int32} {n : Nat} (e : P 30 7 = nI n) (hx : x < 0 ∨ nI n ≤ x) {Q : Int32 → Prop} (h : Q 0) : wX3_hasThing P x Q := by
  unfold wX3_hasThing; rw [e]
  by_cases c : x < 0
  · rw [if_pos c]; exact h
  · rw [if_neg c, if_pos (hx.resolve_left c)]; exact h
theorem X_hT {P : RT} {t n : Nat} (e : P 30 7 = nI n) (ht : t < n) (hn : n ≤ 8) {Q : Int32 → Prop} (h : Q 1) : wX3_hasThing P (nI t) Q := by
  unfold wX3_hasThing; rw [e, if_neg (nI_pos (by omega)), if_neg (nI_ge ht (by omega))]; exact h
theorem M_iT_no {S : RT} {x : Int32} {n : Nat} (e : S 30 8 = nI n) (hx : x < 0 ∨ nI n ≤ x) {Q : Int32 → Prop} (h : Q 0) : wX7_isThing S x Q := by
  unfold wX7_isThing; rw [e]
  by_cases c : x < 0
  · rw [if_pos c]; exact h
  · rw [if_neg c, if_pos (hx.resolve_left c)]; exact h
theorem M_iT {S : RT} {t n : Nat} (e : S 30 8 = nI n) (ht : t < n) (hn : n ≤ 8) {Q : Int32 → Prop} (h : Q 1) : wX7_isThing S (nI t) Q := by
  unfold wX7_isThing; rw [e, if_neg (nI_pos (by omega)), if_neg (nI_ge ht (by omega))]; exact h
theorem X_hR_no {P : RT} {x : Int32} {n : Nat} (e : P 30 8 = nI n) (hx : x < 0 ∨ nI n ≤ x) {Q : Int32 → Prop} (h : Q 0) : wX3_hasRope P x Q := by
  unfold wX3_hasRope; rw [e]
  by_cases c : x < 0
  · rw [if_pos c]; exact h
  · rw [if_neg c, if_pos (hx.resolve_left c)]; exact h
theorem X_hR {P : RT} {t n : Nat} (e : P 30 8 = nI n) (ht : t < n) (hn : n ≤ 8) {Q : Int32 → Prop} (h : Q 1) : wX3_hasRope P (nI t) Q := by
  unfold wX3_hasRope; rw [e, if_neg (nI_pos (by omega)), if_neg (nI_ge ht (by omega))]; exact h
theorem M_iR_no {S : RT} {x : Int32} {n : Nat} (e : S 30 9 = nI n) (hx : x < 0 ∨ nI n ≤ x) {Q : Int32 → Prop} (h : Q 0) : wX7_isRope S x Q := by
  unfold wX7_isRope; rw [e]
  by_cases c : x < 0
  · rw [if_pos c]; exact h
  · rw [if_neg c, if_pos (hx.resolve_left c)]; exact h
theorem M_iR {S : RT} {t n : Nat} (e : S 30 9 = nI n) (ht : t < n) (hn : n ≤ 8) {Q : Int32 → Prop} (h : Q 1) : wX7_isRope S (nI t) Q := by
  unfold wX7_isRope; rw [e, if_neg (nI_pos (by omega)), if_neg (nI_ge ht (by omega))]; exact h
/-- two arguments: a pair, or none -/
def noPair (x y : Int32) (n : Nat) : Prop := (x < 0 ∨ nI n ≤ x) ∨ (∃ t, t < n ∧ x = nI t) ∧ ((y < 0 ∨ nI n ≤ y) ∨ (∃ t, t < n ∧ y = nI t) ∧ x = y)
theorem prc (x y : Int32) (n : Nat) (hn : n < 2 ^ 31) : (∃ a b, a < n ∧ b < n ∧ a ≠ b ∧ x = nI a ∧ y = nI b) ∨ noPair x y n := by
  rcases ixc x n hn with ⟨a, ha, ea⟩ | h
  · rcases ixc y n hn with ⟨b, hb, eb⟩ | h
    · by_cases e : a = b
      · exact Or.inr (Or.inr ⟨⟨a, ha, ea⟩, Or.inr ⟨⟨b, hb, eb⟩, by rw [ea, eb, e]⟩⟩)
      · exact Or.inl ⟨a, b, ha, hb, e, ea, eb⟩
    · exact Or.inr (Or.inr ⟨⟨a, ha, ea⟩, Or.inl h⟩)
  · exact Or.inr (Or.inl h)
theorem X_hP_no {P : RT} {x y : Int32} {n : Nat} (hn : n ≤ 8) (e : P 30 7 = nI n) (hx : noPair x y n) {Q : Int32 → Prop} (h : Q 0) : wX3_hasPair P x y Q := by
  unfold wX3_hasPair
  rcases hx with h1 | ⟨⟨a, ha, ea⟩, h1 | ⟨⟨b, hb, eb⟩, h2⟩⟩
  · exact X_hT_no e h1 (by rw [if_pos rfl]; exact h)
  · rw [ea]; exact X_hT e ha hn (by rw [if_neg bz_k]; exact X_hT_no e h1 (by rw [if_pos rfl]; exact h))
  · have h3 : a = b := by rw [ea, eb] at h2; exact (nI_eq (by omega) (by omega)).mp h2
    subst h3; rw [ea, eb]; exact X_hT e ha hn (by rw [if_neg bz_k]; exact X_hT e ha hn (by rw [if_neg bz_k, if_pos rfl]; exact h))
theorem X_hP {P : RT} {a b n : Nat} (hn : n ≤ 8) (e : P 30 7 = nI n) (ha : a < n) (hb : b < n) (hab : a ≠ b) {Q : Int32 → Prop} (h : Q 1) : wX3_hasPair P (nI a) (nI b) Q :=
  X_hT e ha hn (by rw [if_neg bz_k]; exact X_hT e hb hn (by rw [if_neg bz_k, if_neg (fun q => hab ((nI_eq (by omega) (by omega)).mp q))]; exact h))
theorem M_aT_no {S : RT} {x y : Int32} {n : Nat} (hn : n ≤ 8) (e : S 30 8 = nI n) (hx : noPair x y n) {Q : Int32 → Prop} (h : Q 0) : wX7_areTwo S x y Q := by
  unfold wX7_areTwo
  rcases hx with h1 | ⟨⟨a, ha, ea⟩, h1 | ⟨⟨b, hb, eb⟩, h2⟩⟩
  · exact M_iT_no e h1 (by rw [if_pos rfl]; exact h)
  · rw [ea]; exact M_iT e ha hn (by rw [if_neg bz_k]; exact M_iT_no e h1 (by rw [if_pos rfl]; exact h))
  · have h3 : a = b := by rw [ea, eb] at h2; exact (nI_eq (by omega) (by omega)).mp h2
    subst h3; rw [ea, eb]; exact M_iT e ha hn (by rw [if_neg bz_k]; exact M_iT e ha hn (by rw [if_neg bz_k, if_pos rfl]; exact h))
theorem M_aT {S : RT} {a b n : Nat} (hn : n ≤ 8) (e : S 30 8 = nI n) (ha : a < n) (hb : b < n) (hab : a ≠ b) {Q : Int32 → Prop} (h : Q 1) : wX7_areTwo S (nI a) (nI b) Q :=
  M_iT e ha hn (by rw [if_neg bz_k]; exact M_iT e hb hn (by rw [if_neg bz_k, if_neg (fun q => hab ((nI_eq (by omega) (by omega)).mp q))]; exact h))
/-- a number within its bounds, or not -/
def rgf (v a b : Int32) : Int32 := if a ≤ v then (if v ≤ b then 0 else -6) else -4
theorem X_rg {v a b : Int32} {Q : Int32 → Prop} (h : Q (rgf v a b)) : wX6_rangeFault v a b Q := by
  unfold wX6_rangeFault; unfold rgf at h
  by_cases c1 : a ≤ v
  · rw [if_pos c1]; rw [if_pos c1] at h
    by_cases c2 : v ≤ b
    · rw [if_pos c2]; rw [if_pos c2] at h; exact h
    · rw [if_neg c2]; rw [if_neg c2] at h; exact h
  · rw [if_neg c1]; rw [if_neg c1] at h; exact h
theorem M_bd {v a b : Int32} {Q : Int32 → Prop} (h : Q (rgf v a b)) : wX7_bound v a b Q := X_rg h
theorem rgc (v : Int32) (N : Nat) (hN : N < 2 ^ 31) : (∃ j, j ≤ N ∧ v = nI j ∧ rgf v 0 (nI N) = 0) ∨ (rgf v 0 (nI N) = -4) ∨ (rgf v 0 (nI N) = -6) := by
  unfold rgf
  by_cases c1 : 0 ≤ v
  · rw [if_pos c1]
    by_cases c2 : v ≤ nI N
    · rw [if_pos c2]
      obtain ⟨j, hj, e⟩ := nI_of2 (M := nI N) (n := N) (nI_toInt hN) (fun q => (il.mp q) c1) c2
      exact Or.inl ⟨j, hj, e, rfl⟩
    · rw [if_neg c2]; exact Or.inr (Or.inr rfl)
  · rw [if_neg c1]; exact Or.inr (Or.inl rfl)
theorem Inv9.zero : Inv9 zR zR zR zR zR zR zR (set2 zR 30 11 (-9)) := by
  refine ⟨fun _ _ => 0, ⟨by decide, by decide, by decide, fun i hi => absurd hi (by simp), fun j hj => absurd hj (by simp)⟩, ⟨rfl, rfl, rfl, fun i hi => absurd hi (by simp), fun j hj => absurd hj (by simp)⟩, ⟨rfl, rfl, rfl, fun i hi => absurd hi (by simp), fun j hj => absurd hj (by simp)⟩, rfl, fun i _ => rfl, ⟨0, by decide, rfl, rfl, fun i hi => absurd hi (by simp)⟩, ⟨0, by decide, rfl, rfl, fun i hi => absurd hi (by simp)⟩, Or.inl ⟨rfl, rfl⟩⟩
