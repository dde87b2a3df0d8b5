/-! ===== PURE: hours on, in mind (laid by wip/whole/p49.py) ===== -/
/-- the first from k on, of n, for which it holds -/
def fnd (c : Nat → Bool) : Nat → Nat → Int32
  | 0, _ => -9
  | n + 1, k => if c k then nI k else fnd c n (k + 1)
theorem X_begin {G T P : RT} {p : PT} (hn : p 30 0 ≤ 8) (hm : p 30 1 ≤ 6) (hr : repX P p) {Q : RT → Prop} (h : ∀ T', repX T' p → Q T') : wX1_begin G T P Q := X_copyFrom hn hm hr h
theorem X_behind {b N : Nat} {G T P : RT} {p : PT} (hN : N ≤ 100) (hb : b < 1800) (ok : okP b p) (hr : repX P p) {Q : RT → Prop} (h : ∀ T', repX T' (hoursP p N) → Q T') : wX1_behind G T P (nI N) Q :=
  X_copyFrom ok.1 ok.2.1 hr (fun _ h1 => X_goHours hN hb ok h1 h)
theorem Inv9.ag {F P K N L S S' : RT} {p : PT} (ok : okP 999 p) (hx : repX P p) (hq : RQ F K N L S) (hm : repM S' p) (g : agr 110 S S') (G T : RT) : Inv9 F P K G T N L S' := ⟨p, ok, hx, hm, hq.agr (g.lo (by decide))⟩
/-- the reference thinks: its port goes on, what is kept stays -/
theorem sv_go {S S' : RT} {p : PT} (hn : p 30 0 ≤ 8) (hm : p 30 1 ≤ 6) (h : svM S 2 p) (f : FrH S S') : svM S' 2 p := agr.sv f.agr (by decide) hn hm h
theorem M_end {S0 S : RT} {p : PT} (hn : p 30 0 ≤ 8) (hm : p 30 1 ≤ 6) (hs : svM S 2 p) (hg : agr 110 S0 S) {Q : RT → Prop} (h : ∀ S', repM S' p → agr 110 S0 S' → Q S') : wX7_forgets S Q :=
  M_forgets hn hm hs (fun S' h1 h2 => h S' h1 (hg.tr (h2.lo (by decide))))
theorem st_thingThen : St_thingThen Inv9 := by
  intro F P K G T N L S hI a1 a2 a3
  obtain ⟨p, ok, hx, hm, hq⟩ := hI
  have o1 := ok.1
  unfold wX6_thingThen wX6_thingFault bX6_thingThen_28 wX7_thingThen bX7_thingThen_16 bX7_thingThen_36 bX7_thingThen_75 wX7_notHours
  rcases ixc a1 (p 30 0) (by omega) with ⟨t, ht, rfl⟩ | c1
  · refine X_hT hx.1 ht ok.1 ?_
    try dsimp only
    rw [if_neg bz_k]
    refine X_rg ?_
    try dsimp only
    have mt : ∀ {Q : Int32 → Prop}, Q 1 → wX7_isThing S (nI t) Q := fun h => M_iT hm.1 ht ok.1 h
    have ct : (nI t).toNatClampNeg = t := nI_clamp (by omega)
    have hv : vp_in (nI t) 8 := (vin (by omega)).mpr (by omega)
    rcases rgc a2 99 (by decide) with ⟨j, hj, rfl, e⟩ | e | e
    · have e : rgf (nI j) 0 99 = 0 := e
      have okj := okP_hours ok j
      have htj : t < hoursP p j 30 0 := by rw [hoursP_n]; exact ht
      rw [e, if_pos rfl]
      by_cases c0 : a3 = 0
      · rw [if_pos c0, if_pos rfl]
        refine X_behind (b := 999) (by omega) (by decide) ok hx (fun T' hT' => ?_)
        try dsimp only
        rw [if_pos c0, ct]
        refine ⟨hv, mt ?_⟩
        try dsimp only
        rw [if_neg bz_k]
        refine M_bd ?_
        try dsimp only
        rw [e, if_pos rfl]
        refine M_isIn ?_
        try dsimp only
        rw [if_pos (show (0 : Int32) ≤ a3 ∧ a3 ≤ 1 by rw [c0]; decide), if_neg bz_k, if_pos rfl]
        refine M_thinks o1 ok.2.1 hm (fun S1 h1 h2 h3 => ?_)
        try dsimp only
        refine M_goes (b := 999) (by omega) (by decide) ok h1 (by rw [h3.2.2.2.2.2.2.1]; exact hq.1) (fun S2 h4 h5 => ?_)
        try dsimp only
        rw [if_pos c0]
        refine ⟨hv, ?_⟩
        exact M_end o1 ok.2.1 (sv_go o1 ok.2.1 h2 h5) (h3.tr (h5.agr.lo (by decide))) (fun S' h6 h7 => ⟨by rw [(hT'.2.2.2.1 t htj).2.2.2.2, (h4.2.2.2.1 t htj).2.2.2.2], Inv9.ag ok hx hq h6 h7 _ _⟩)
      · rw [if_neg c0]
        by_cases c1 : a3 = 1
        · rw [if_pos c1, if_pos rfl]
          refine X_behind (b := 999) (by omega) (by decide) ok hx (fun T' hT' => ?_)
          try dsimp only
          rw [if_neg c0]
          refine X_heft (b := 999 + j) (by omega) okj hT' htj (mt ?_)
          try dsimp only
          rw [if_neg bz_k]
          refine M_bd ?_
          try dsimp only
          rw [e, if_pos rfl]
          refine M_isIn ?_
          try dsimp only
          rw [if_pos (show (0 : Int32) ≤ a3 ∧ a3 ≤ 1 by rw [c1]; decide), if_neg bz_k, if_pos rfl]
          refine M_thinks o1 ok.2.1 hm (fun S1 h1 h2 h3 => ?_)
          try dsimp only
          refine M_goes (b := 999) (by omega) (by decide) ok h1 (by rw [h3.2.2.2.2.2.2.1]; exact hq.1) (fun S2 h4 h5 => ?_)
          try dsimp only
          rw [if_neg c0]
          refine M_heft (b := 999 + j) (by omega) okj h4 htj ?_
          try dsimp only
          exact M_end o1 ok.2.1 (sv_go o1 ok.2.1 h2 h5) (h3.tr (h5.agr.lo (by decide))) (fun S' h6 h7 => ⟨rfl, Inv9.ag ok hx hq h6 h7 _ _⟩)
        · rw [if_neg c1, if_neg (by decide)]
          refine X_ref 2 (by decide) (by decide) (mt ?_)
          try dsimp only
          rw [if_neg bz_k]
          refine M_bd ?_
          try dsimp only
          rw [e, if_pos rfl]
          refine M_isIn ?_
          try dsimp only
          rw [if_neg (show ¬ ((0 : Int32) ≤ a3 ∧ a3 ≤ 1) from fun q => by
            rcases ixc a3 2 (by decide) with ⟨k, hk, e⟩ | h
            · rcases (show k = 0 ∨ k = 1 by omega) with rfl | rfl
              · exact c0 e
              · exact c1 e
            · rcases h with h | h
              · exact (il.mp h) q.1
              · have h1 := Int32.le_iff_toInt_le.mp q.2; have h2 := Int32.le_iff_toInt_le.mp h
                have x1 : (1 : Int32).toInt = 1 := rfl
                have x2 : (nI 2).toInt = 2 := rfl
                omega), if_pos rfl, if_neg (by decide)]
          exact M_no 2 (by decide) (by decide) ⟨rfl, Inv9.ref ok hx hm hq 2 G T⟩
    · have e : rgf a2 0 99 = -4 := e
      rw [e, if_neg (by decide), if_neg (by decide)]
      refine X_ref 4 (by decide) (by decide) (mt ?_)
      try dsimp only
      rw [if_neg bz_k]
      refine M_bd ?_
      try dsimp only
      rw [e, if_neg (by decide), if_neg (by decide)]
      exact M_no 4 (by decide) (by decide) ⟨rfl, Inv9.ref ok hx hm hq 4 G T⟩
    · have e : rgf a2 0 99 = -6 := e
      rw [e, if_neg (by decide), if_neg (by decide)]
      refine X_ref 6 (by decide) (by decide) (mt ?_)
      try dsimp only
      rw [if_neg bz_k]
      refine M_bd ?_
      try dsimp only
      rw [e, if_neg (by decide), if_neg (by decide)]
      exact M_no 6 (by decide) (by decide) ⟨rfl, Inv9.ref ok hx hm hq 6 G T⟩
  · refine X_hT_no hx.1 c1 ?_
    try dsimp only
    rw [if_pos rfl, if_neg (by decide), if_neg (by decide)]
    refine X_ref 1 (by decide) (by decide) (M_iT_no hm.1 c1 ?_)
    try dsimp only
    rw [if_pos rfl, if_neg (by decide), if_neg (by decide)]
    exact M_no 1 (by decide) (by decide) ⟨rfl, Inv9.ref ok hx hm hq 1 G T⟩
theorem st_ropeThen : St_ropeThen Inv9 := by
  intro F P K G T N L S hI a1 a2
  obtain ⟨p, ok, hx, hm, hq⟩ := hI
  have o1 := ok.1
  have o2 := ok.2.1
  unfold wX6_ropeThen wX7_ropeThen bX7_ropeThen_16 wX7_notHours
  rcases ixc a1 (p 30 1) (by omega) with ⟨t, ht, rfl⟩ | c1
  · refine X_hR hx.2.1 ht (by omega) ?_
    try dsimp only
    rw [if_neg bz_k]
    refine X_rg ?_
    try dsimp only
    have mt : ∀ {Q : Int32 → Prop}, Q 1 → wX7_isRope S (nI t) Q := fun h => M_iR hm.2.1 ht (by omega) h
    rcases rgc a2 99 (by decide) with ⟨j, hj, rfl, e⟩ | e | e
    · have e : rgf (nI j) 0 99 = 0 := e
      have okj := okP_hours ok j
      have htj : t < hoursP p j 30 1 := by rw [hoursP_m]; exact ht
      rw [e, if_pos rfl]
      refine X_behind (b := 999) (by omega) (by decide) ok hx (fun T' hT' => ?_)
      try dsimp only
      refine X_heavierEnd (b := 999 + j) (by omega) okj hT' htj (mt ?_)
      try dsimp only
      rw [if_neg bz_k]
      refine M_bd ?_
      try dsimp only
      rw [e, if_pos rfl]
      refine M_thinks o1 ok.2.1 hm (fun S1 h1 h2 h3 => ?_)
      try dsimp only
      refine M_goes (b := 999) (by omega) (by decide) ok h1 (by rw [h3.2.2.2.2.2.2.1]; exact hq.1) (fun S2 h4 h5 => ?_)
      try dsimp only
      refine M_holdsTo (b := 999 + j) (by omega) okj h4 htj ?_
      try dsimp only
      exact M_end o1 ok.2.1 (sv_go o1 ok.2.1 h2 h5) (h3.tr (h5.agr.lo (by decide))) (fun S' h6 h7 => ⟨rfl, Inv9.ag ok hx hq h6 h7 _ _⟩)
    · have e : rgf a2 0 99 = -4 := e
      rw [e, if_neg (by decide)]
      refine X_ref 4 (by decide) (by decide) (mt ?_)
      try dsimp only
      rw [if_neg bz_k]
      refine M_bd ?_
      try dsimp only
      rw [e, if_neg (by decide)]
      exact M_no 4 (by decide) (by decide) ⟨rfl, Inv9.ref ok hx hm hq 4 G T⟩
    · have e : rgf a2 0 99 = -6 := e
      rw [e, if_neg (by decide)]
      refine X_ref 6 (by decide) (by decide) (mt ?_)
      try dsimp only
      rw [if_neg bz_k]
      refine M_bd ?_
      try dsimp only
      rw [e, if_neg (by decide)]
      exact M_no 6 (by decide) (by decide) ⟨rfl, Inv9.ref ok hx hm hq 6 G T⟩
  · refine X_hR_no hx.2.1 c1 ?_
    try dsimp only
    rw [if_pos rfl]
    refine X_ref 1 (by decide) (by decide) (M_iR_no hm.2.1 c1 ?_)
    try dsimp only
    rw [if_pos rfl, if_neg (by decide)]
    exact M_no 1 (by decide) (by decide) ⟨rfl, Inv9.ref ok hx hm hq 1 G T⟩
theorem k99 {k : Nat} (h : k ≤ 99) : ¬ (99 : Int32) < nI k := by rw [l99]; exact nI_nlt h (by omega)
theorem k100 : (99 : Int32) < nI 100 := by decide
def cUp (p : PT) (t v : Nat) : Nat → Bool := fun k => decide (v ≤ hoursP p k 4 t)
theorem X_upL {b : Nat} {p : PT} (hb : b < 1800) (ok : okP b p) {G P : RT} {t v : Nat} (ht : t < p 30 0) (hv : v ≤ 20) {Q : Int32 → RT → Prop} : ∀ (n k : Nat) (T : RT), k + n = 100 → repX T (hoursP p k) → (∀ T', Q (fnd (cUp p t v) n k) T') → bX1_whenUp_9 G P Q (n + 1) T (nI t) (nI v) (nI k) := by
  have o1 := ok.1
  intro n
  induction n with
  | zero =>
    intro k T hk hr h
    have : k = 100 := by omega
    subst this
    rw [bX1_whenUp_9, if_pos k100]
    exact h T
  | succ n ih =>
    intro k T hk hr h
    have okk := okP_hours ok k
    have htk : t < hoursP p k 30 0 := by rw [hoursP_n]; exact ht
    have hh := (okk.2.2.2.1 t htk).2.2.2.2
    rw [bX1_whenUp_9, if_neg (k99 (by omega)), nI_clamp (by omega), (hr.2.2.2.1 t htk).2.2.2.2]
    refine ⟨(vin (by omega)).mpr (by omega), ?_⟩
    by_cases c : v ≤ hoursP p k 4 t
    · rw [if_neg (nI_nlt c (by omega))]
      rw [fnd, cUp, decide_eq_true c, if_pos rfl] at h
      exact h T
    · rw [if_pos (nI_lt (by omega) (by omega))]
      refine X_goHour (b := b + k) (by omega) okk hr (fun T' hT' => ?_)
      try dsimp only
      rw [nI_1]
      rintro x rfl
      refine ih (k + 1) T' (by omega) hT' ?_
      rw [fnd, if_neg (by rw [cUp, decide_eq_false c]; decide)] at h
      exact h
theorem X_whenUp {b : Nat} {p : PT} (hb : b < 1800) (ok : okP b p) {G T P : RT} (hx : repX P p) {t v : Nat} (ht : t < p 30 0) (hv : v ≤ 20) {Q : Int32 → RT → Prop} (h : ∀ T', Q (fnd (cUp p t v) 100 0) T') : wX1_whenUp G T P (nI t) (nI v) Q :=
  X_begin ok.1 ok.2.1 hx (fun T' hT' => ⟨_, X_upL hb ok ht hv 100 0 T' rfl hT' h⟩)
theorem M_upL {b : Nat} {p : PT} (hb : b < 1800) (ok : okP b p) {S0 : RT} (hw : S0 30 11 = -9) {t v : Nat} (ht : t < p 30 0) (hv : v ≤ 20) {Q : Int32 → RT → Prop} : ∀ (n k : Nat) (S : RT), k + n = 100 → repM S (hoursP p k) → svM S 2 p → agr 110 S0 S → (∀ S', repM S' p → agr 110 S0 S' → Q (fnd (cUp p t v) n k) S') → bX7_upAt_10 Q (n + 2) S (nI t) (nI v) (-9) (nI k) := by
  have o1 := ok.1
  have o2 := ok.2.1
  intro n
  induction n with
  | zero =>
    intro k S hk hr hs hg h
    have : k = 100 := by omega
    subst this
    rw [bX7_upAt_10, if_pos k100, bX7_upAt_49]
    exact M_end o1 o2 hs hg h
  | succ n ih =>
    intro k S hk hr hs hg h
    have okk := okP_hours ok k
    have htk : t < hoursP p k 30 0 := by rw [hoursP_n]; exact ht
    have hh := (okk.2.2.2.1 t htk).2.2.2.2
    rw [bX7_upAt_10, if_neg (k99 (by omega)), if_neg n9_neg, nI_clamp (by omega), (hr.2.2.2.1 t htk).2.2.2.2]
    refine ⟨(vin (by omega)).mpr (by omega), ?_⟩
    unfold bX7_upAt_38
    by_cases c : v ≤ hoursP p k 4 t
    · rw [if_neg (nI_nlt c (by omega))]
      rw [fnd, cUp, decide_eq_true c, if_pos rfl] at h
      refine M_goesHour (w := -9) (b := b + k) (by omega) okk hr (by rw [hg.2.2.2.2.2.2.1]; exact hw) (fun S' h1 h2 => ?_)
      try dsimp only
      rw [nI_1]
      rintro x rfl
      have fin : wX7_forgets S' (fun S_1 => Q (nI k) S_1) := M_end o1 o2 (sv_go o1 o2 hs h2) (hg.tr (h2.agr.lo (by decide))) h
      rw [bX7_upAt_10, bX7_upAt_49, if_pos (nI_pos' (by omega))]
      split
      · exact fin
      · exact fin
    · rw [if_pos (nI_lt (by omega) (by omega))]
      refine M_goesHour (w := -9) (b := b + k) (by omega) okk hr (by rw [hg.2.2.2.2.2.2.1]; exact hw) (fun S' h1 h2 => ?_)
      try dsimp only
      rw [nI_1]
      rintro x rfl
      refine ih (k + 1) S' (by omega) h1 (sv_go o1 o2 hs h2) (hg.tr (h2.agr.lo (by decide))) ?_
      rw [fnd, if_neg (by rw [cUp, decide_eq_false c]; decide)] at h
      exact h
theorem M_upAt {b : Nat} {p : PT} (hb : b < 1800) (ok : okP b p) {S : RT} (hm : repM S p) (hw : S 30 11 = -9) {t v : Nat} (ht : t < p 30 0) (hv : v ≤ 20) {Q : Int32 → RT → Prop} (h : ∀ S', repM S' p → agr 110 S S' → Q (fnd (cUp p t v) 100 0) S') : wX7_upAt S (nI t) (nI v) Q :=
  M_thinks ok.1 ok.2.1 hm (fun S1 h1 h2 h3 => ⟨_, M_upL hb ok hw ht hv 100 0 S1 rfl h1 h2 h3 h⟩)
theorem st_up : St_up Inv9 := by
  intro F P K G T N L S hI a1 a2
  obtain ⟨p, ok, hx, hm, hq⟩ := hI
  have o1 := ok.1
  unfold wX6_up wX6_thingFault wX7_up bX7_up_19
  rcases ixc a1 (p 30 0) (by omega) with ⟨t, ht, rfl⟩ | c1
  · refine X_hT hx.1 ht ok.1 ?_
    try dsimp only
    rw [if_neg bz_k]
    refine X_rg ?_
    try dsimp only
    have mt : ∀ {Q : Int32 → Prop}, Q 1 → wX7_isThing S (nI t) Q := fun h => M_iT hm.1 ht ok.1 h
    rcases rgc a2 20 (by decide) with ⟨j, hj, rfl, e⟩ | e | e
    · have e : rgf (nI j) 0 20 = 0 := e
      rw [e, if_pos rfl]
      refine X_whenUp (b := 999) (by decide) ok hx ht hj (fun T' => mt ?_)
      try dsimp only
      rw [if_neg bz_k]
      refine M_bd ?_
      try dsimp only
      rw [e, if_pos rfl]
      exact M_upAt (b := 999) (by decide) ok hm hq.1 ht hj (fun S' h6 h7 => ⟨rfl, Inv9.ag ok hx hq h6 h7 _ _⟩)
    · have e : rgf a2 0 20 = -4 := e
      rw [e, if_neg (by decide)]
      refine X_ref 4 (by decide) (by decide) (mt ?_)
      try dsimp only
      rw [if_neg bz_k]
      refine M_bd ?_
      try dsimp only
      rw [e, if_neg (by decide)]
      exact M_no 4 (by decide) (by decide) ⟨rfl, Inv9.ref ok hx hm hq 4 G T⟩
    · have e : rgf a2 0 20 = -6 := e
      rw [e, if_neg (by decide)]
      refine X_ref 6 (by decide) (by decide) (mt ?_)
      try dsimp only
      rw [if_neg bz_k]
      refine M_bd ?_
      try dsimp only
      rw [e, if_neg (by decide)]
      exact M_no 6 (by decide) (by decide) ⟨rfl, Inv9.ref ok hx hm hq 6 G T⟩
  · refine X_hT_no hx.1 c1 ?_
    try dsimp only
    rw [if_pos rfl, if_neg (by decide)]
    refine X_ref 1 (by decide) (by decide) (M_iT_no hm.1 c1 ?_)
    try dsimp only
    rw [if_pos rfl, if_neg (by decide)]
    exact M_no 1 (by decide) (by decide) ⟨rfl, Inv9.ref ok hx hm hq 1 G T⟩
def cMt (p : PT) (a b : Nat) : Nat → Bool := fun k => decide (hoursP p k 4 a = hoursP p k 4 b)
theorem X_mtL {B : Nat} {p : PT} (hb : B < 1800) (ok : okP B p) {G P : RT} {a b : Nat} (ha : a < p 30 0) (hb2 : b < p 30 0) {Q : Int32 → RT → Prop} : ∀ (n k : Nat) (T : RT), k + n = 100 → repX T (hoursP p k) → (∀ T', Q (fnd (cMt p a b) n k) T') → bX1_whenLevel_9 G P Q (n + 1) T (nI a) (nI b) (nI k) := by
  have o1 := ok.1
  intro n
  induction n with
  | zero =>
    intro k T hk hr h
    have : k = 100 := by omega
    subst this
    rw [bX1_whenLevel_9, if_pos k100]
    exact h T
  | succ n ih =>
    intro k T hk hr h
    have okk := okP_hours ok k
    have hak : a < hoursP p k 30 0 := by rw [hoursP_n]; exact ha
    have hbk : b < hoursP p k 30 0 := by rw [hoursP_n]; exact hb2
    have h1 := (okk.2.2.2.1 a hak).2.2.2.2
    have h2 := (okk.2.2.2.1 b hbk).2.2.2.2
    rw [bX1_whenLevel_9, if_neg (k99 (by omega)), nI_clamp (by omega), nI_clamp (by omega), (hr.2.2.2.1 a hak).2.2.2.2, (hr.2.2.2.1 b hbk).2.2.2.2]
    refine ⟨(vin (by omega)).mpr (by omega), (vin (by omega)).mpr (by omega), ?_⟩
    by_cases c : hoursP p k 4 a = hoursP p k 4 b
    · rw [if_pos (by rw [c])]
      rw [fnd, cMt, decide_eq_true c, if_pos rfl] at h
      exact h T
    · rw [if_neg (fun q => c ((nI_eq (by omega) (by omega)).mp q))]
      refine X_goHour (b := B + k) (by omega) okk hr (fun T' hT' => ?_)
      try dsimp only
      rw [nI_1]
      rintro x rfl
      refine ih (k + 1) T' (by omega) hT' ?_
      rw [fnd, if_neg (by rw [cMt, decide_eq_false c]; decide)] at h
      exact h
theorem M_mtL {B : Nat} {p : PT} (hb : B < 1800) (ok : okP B p) {S0 : RT} (hw : S0 30 11 = -9) {a b : Nat} (ha : a < p 30 0) (hb2 : b < p 30 0) {Q : Int32 → RT → Prop} : ∀ (n k : Nat) (S : RT), k + n = 100 → repM S (hoursP p k) → svM S 2 p → agr 110 S0 S → (∀ S', repM S' p → agr 110 S0 S' → Q (fnd (cMt p a b) n k) S') → bX7_meet_25 Q (n + 2) S (nI a) (nI b) (-9) (nI k) := by
  have o1 := ok.1
  have o2 := ok.2.1
  intro n
  induction n with
  | zero =>
    intro k S hk hr hs hg h
    have : k = 100 := by omega
    subst this
    rw [bX7_meet_25, if_pos k100, bX7_meet_69]
    exact M_end o1 o2 hs hg h
  | succ n ih =>
    intro k S hk hr hs hg h
    have okk := okP_hours ok k
    have hak : a < hoursP p k 30 0 := by rw [hoursP_n]; exact ha
    have hbk : b < hoursP p k 30 0 := by rw [hoursP_n]; exact hb2
    have h1 := (okk.2.2.2.1 a hak).2.2.2.2
    have h2 := (okk.2.2.2.1 b hbk).2.2.2.2
    rw [bX7_meet_25, if_neg (k99 (by omega)), if_neg n9_neg, nI_clamp (by omega), nI_clamp (by omega), (hr.2.2.2.1 a hak).2.2.2.2, (hr.2.2.2.1 b hbk).2.2.2.2]
    refine ⟨(vin (by omega)).mpr (by omega), (vin (by omega)).mpr (by omega), ?_⟩
    unfold bX7_meet_58
    by_cases c : hoursP p k 4 a = hoursP p k 4 b
    · rw [if_pos (by rw [c])]
      rw [fnd, cMt, decide_eq_true c, if_pos rfl] at h
      refine M_goesHour (w := -9) (b := B + k) (by omega) okk hr (by rw [hg.2.2.2.2.2.2.1]; exact hw) (fun S' h1 h2 => ?_)
      try dsimp only
      rw [nI_1]
      rintro x rfl
      have fin : wX7_forgets S' (fun S_1 => Q (nI k) S_1) := M_end o1 o2 (sv_go o1 o2 hs h2) (hg.tr (h2.agr.lo (by decide))) h
      rw [bX7_meet_25, bX7_meet_69, if_pos (nI_pos' (by omega))]
      split
      · exact fin
      · exact fin
    · rw [if_neg (fun q => c ((nI_eq (by omega) (by omega)).mp q))]
      refine M_goesHour (w := -9) (b := B + k) (by omega) okk hr (by rw [hg.2.2.2.2.2.2.1]; exact hw) (fun S' h1 h2 => ?_)
      try dsimp only
      rw [nI_1]
      rintro x rfl
      refine ih (k + 1) S' (by omega) h1 (sv_go o1 o2 hs h2) (hg.tr (h2.agr.lo (by decide))) ?_
      rw [fnd, if_neg (by rw [cMt, decide_eq_false c]; decide)] at h
      exact h
theorem st_meet : St_meet Inv9 := by
  intro F P K G T N L S hI a1 a2
  obtain ⟨p, ok, hx, hm, hq⟩ := hI
  have o1 := ok.1
  unfold wX6_meet wX1_whenLevel wX7_meet
  rcases prc a1 a2 (p 30 0) (by omega) with ⟨a, b, ha, hb, hab, rfl, rfl⟩ | c1
  · refine X_hP o1 hx.1 ha hb hab ?_
    try dsimp only
    rw [if_neg bz_k]
    refine X_begin o1 ok.2.1 hx (fun T' hT' => ⟨_, X_mtL (B := 999) (by decide) ok ha hb 100 0 T' rfl hT' (fun T'' => ?_)⟩)
    try dsimp only
    refine M_aT o1 hm.1 ha hb hab ?_
    try dsimp only
    rw [if_neg bz_k]
    exact M_thinks ok.1 ok.2.1 hm (fun S1 h1 h2 h3 => ⟨_, M_mtL (B := 999) (by decide) ok hq.1 ha hb 100 0 S1 rfl h1 h2 h3 (fun S' h6 h7 => ⟨rfl, Inv9.ag ok hx hq h6 h7 _ _⟩)⟩)
  · refine X_hP_no o1 hx.1 c1 ?_
    try dsimp only
    rw [if_pos rfl]
    refine X_ref 1 (by decide) (by decide) (M_aT_no o1 hm.1 c1 ?_)
    try dsimp only
    rw [if_pos rfl]
    exact M_no 1 (by decide) (by decide) ⟨rfl, Inv9.ref ok hx hm hq 1 G T⟩
def cCh (p : PT) (r : Nat) : Nat → Bool := fun k => decide (holds (hoursP p k) r ≠ holds p r)
theorem X_chL {B : Nat} {p : PT} (hb : B < 1800) (ok : okP B p) {G P : RT} {r : Nat} (hr : r < p 30 1) {Q : Int32 → RT → Prop} : ∀ (n k : Nat) (T : RT), k + n = 99 → repX T (hoursP p k) → (∀ T', Q (fnd (cCh p r) n (k + 1)) T') → bX1_whenOtherwise_15 G P Q (n + 1) T (nI r) (holds p r) (nI (k + 1)) := by
  intro n
  induction n with
  | zero =>
    intro k T hk ht h
    have : k = 99 := by omega
    subst this
    rw [bX1_whenOtherwise_15, if_pos k100]
    exact h T
  | succ n ih =>
    intro k T hk ht h
    have okk := okP_hours ok k
    rw [bX1_whenOtherwise_15, if_neg (k99 (by omega))]
    refine X_goHour (b := B + k) (by omega) okk ht (fun T' hT' => ?_)
    try dsimp only
    refine X_heavierEnd (b := B + (k + 1)) (p := hoursP p (k + 1)) (by omega) (okP_hours ok (k + 1)) hT' (by rw [hoursP_m]; exact hr) ?_
    try dsimp only
    by_cases c : holds (hoursP p (k + 1)) r = holds p r
    · rw [if_pos c, nI_1]
      rintro x rfl
      refine ih (k + 1) T' (by omega) hT' ?_
      rw [fnd, if_neg (by rw [cCh, decide_eq_false (fun q => q c)]; decide)] at h
      exact h
    · rw [if_neg c]
      rw [fnd, cCh, decide_eq_true c, if_pos rfl] at h
      exact h T'
theorem M_chL {B : Nat} {p : PT} (hb : B < 1800) (ok : okP B p) {S0 : RT} (hw : S0 30 11 = -9) {r : Nat} (hr : r < p 30 1) {Q : Int32 → RT → Prop} : ∀ (n k : Nat) (S : RT), k + n = 99 → repM S (hoursP p k) → svM S 2 p → agr 110 S0 S → (∀ S', repM S' p → agr 110 S0 S' → Q (fnd (cCh p r) n (k + 1)) S') → bX7_changes_30 Q (n + 2) S (nI r) (holds p r) (-9) (nI (k + 1)) := by
  have o1 := ok.1
  have o2 := ok.2.1
  intro n
  induction n with
  | zero =>
    intro k S hk ht hs hg h
    have : k = 99 := by omega
    subst this
    rw [bX7_changes_30, if_pos k100, bX7_changes_68]
    exact M_end o1 o2 hs hg h
  | succ n ih =>
    intro k S hk ht hs hg h
    have okk := okP_hours ok k
    rw [bX7_changes_30, if_neg (k99 (by omega)), if_neg n9_neg]
    refine M_goesHour (w := -9) (b := B + k) (by omega) okk ht (by rw [hg.2.2.2.2.2.2.1]; exact hw) (fun S' h1 h2 => ?_)
    try dsimp only
    refine M_holdsTo (b := B + (k + 1)) (p := hoursP p (k + 1)) (by omega) (okP_hours ok (k + 1)) h1 (by rw [hoursP_m]; exact hr) ?_
    try dsimp only
    unfold bX7_changes_61
    by_cases c : holds (hoursP p (k + 1)) r = holds p r
    · rw [if_pos c, nI_1]
      rintro x rfl
      refine ih (k + 1) S' (by omega) h1 (sv_go o1 o2 hs h2) (hg.tr (h2.agr.lo (by decide))) ?_
      rw [fnd, if_neg (by rw [cCh, decide_eq_false (fun q => q c)]; decide)] at h
      exact h
    · rw [if_neg c, nI_1]
      rintro x rfl
      rw [fnd, cCh, decide_eq_true c, if_pos rfl] at h
      have fin : wX7_forgets S' (fun S_1 => Q (nI (k + 1)) S_1) := M_end o1 o2 (sv_go o1 o2 hs h2) (hg.tr (h2.agr.lo (by decide))) h
      rw [bX7_changes_30, bX7_changes_68, if_pos (nI_pos' (by omega))]
      split
      · exact fin
      · exact fin
theorem st_changes : St_changes Inv9 := by
  intro F P K G T N L S hI a1
  obtain ⟨p, ok, hx, hm, hq⟩ := hI
  have o2 := ok.2.1
  unfold wX6_changes wX1_whenOtherwise wX7_changes
  rcases ixc a1 (p 30 1) (by omega) with ⟨t, ht, rfl⟩ | c1
  · refine X_hR hx.2.1 ht (by omega) ?_
    try dsimp only
    rw [if_neg bz_k]
    refine X_heavierEnd (b := 999) (by decide) ok hx ht ?_
    try dsimp only
    refine X_begin ok.1 ok.2.1 hx (fun T' hT' => ⟨_, X_chL (B := 999) (by decide) ok ht 99 0 T' rfl hT' (fun T'' => ?_)⟩)
    try dsimp only
    refine M_iR hm.2.1 ht (by omega) ?_
    try dsimp only
    rw [if_neg bz_k]
    refine M_holdsTo (b := 999) (by decide) ok hm ht ?_
    try dsimp only
    exact M_thinks ok.1 ok.2.1 hm (fun S1 h1 h2 h3 => ⟨_, M_chL (B := 999) (by decide) ok hq.1 ht 99 0 S1 rfl h1 h2 h3 (fun S' h6 h7 => ⟨rfl, Inv9.ag ok hx hq h6 h7 _ _⟩)⟩)
  · refine X_hR_no hx.2.1 c1 ?_
    try dsimp only
    rw [if_pos rfl]
    refine X_ref 1 (by decide) (by decide) (M_iR_no hm.2.1 c1 ?_)
    try dsimp only
    rw [if_pos rfl]
    exact M_no 1 (by decide) (by decide) ⟨rfl, Inv9.ref ok hx hm hq 1 G T⟩
