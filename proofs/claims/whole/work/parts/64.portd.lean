/-! ===== PURE: a statement comes, in the reference; the run of statements ===== -/
theorem M_comes {S : RT} {c : Nat → Nat} {n a k : Nat} {p : PT} (hn : n ≤ 96) (hc : ∀ i, i < n → c i ≤ 255) (hk : k < 40) (ha : a < n) (hb : bp c n a = none) (ok : okP 999 p) (hr : repM S p) (hw : S 30 11 = -9) (h13 : S 13 k = nI (c a)) (hv : VL c S (3 * k) a) {Q : Int32 → RT → Prop} (y : ∀ p' S', ap c p a = some p' → repM S' p' → FrC S S' → Q 1 S') (z : ap c p a = none → Q 0 S) : wX7_comes S (nI k) Q := by
  have o1 := ok.1
  have o2 := ok.2.1
  have o3 := ok.2.2.1
  have h255 := hc a ha
  have ne : ∀ v, v ≤ 255 → ¬ c a = v → ¬ nI (c a) = nI v := fun v hv q e => q ((nI_eq (by omega) (by omega)).mp e)
  have hP0 : vp_in (nI (3 * k)) 144 := (vin (by omega)).mpr (by omega)
  have hP1 : vp_in (nI (3 * k + 1)) 144 := (vin (by omega)).mpr (by omega)
  obtain ⟨w116, w114, w115, w99, w117, w104⟩ := hv
  unfold wX7_comes
  rw [l3, pk_mul]
  rintro x2 rfl
  rw [nI_clamp (show k < 2 ^ 31 by omega), h13]
  refine ⟨(vin (by omega)).mpr (by omega), ?_⟩
  rintro s3 rfl
  rw [nI_1, nI_clamp (show 3 * k < 2 ^ 31 by omega), nI_clamp (show 3 * k + 1 < 2 ^ 31 by omega)]
  unfold ap at y z
  by_cases q1 : c a = 99
  · rw [if_pos q1] at y z
    have d1 := bp_d hb (i := 1) (by omega) (by rw [q1]; decide) (by rw [q1]; rfl)
    have hd := d1.2.2
    rw [if_pos (show nI (c a) = 99 by rw [q1]; rfl), w99 q1]
    refine ⟨hP0, ?_⟩
    by_cases g : c (a + 1) - 48 < p 30 1
    · rw [if_pos g] at y
      refine M_iR hr.2.1 g (by omega) ?_
      try dsimp only
      rw [if_neg bz_k]
      exact M_drops' o2 hr g (fun S' h' f' => y _ S' rfl h' f')
    · rw [if_neg g] at z
      refine M_iR_no hr.2.1 (Or.inr (nI_le (by omega) (by omega))) ?_
      try dsimp only
      rw [if_pos rfl]
      exact z rfl
  rw [if_neg q1] at y z
  rw [if_neg (show ¬ nI (c a) = 99 from ne 99 (by decide) q1)]
  by_cases q6 : c a = 104
  · rw [if_neg (by rw [q6]; decide), if_neg (by rw [q6]; decide), if_neg (by rw [q6]; decide), if_neg (by rw [q6]; decide)] at y z
    have d1 := bp_d hb (i := 1) (by omega) (by rw [q6]; decide) (by rw [q6]; rfl)
    have d2 := bp_d hb (i := 2) (by omega) (by rw [q6]; decide) (by rw [q6]; rfl)
    have hn99 : num c (a + 1) ≤ 99 := by have h1 := d1.2.2; have h2 := d2.2.2; unfold num; rw [show a + 1 + 1 = a + 2 from rfl]; omega
    have w : S 15 (3 * k) = nI (num c (a + 1)) := w104 q6
    rw [if_pos (show nI (c a) = 104 by rw [q6]; rfl), w]
    refine ⟨hP0, ?_⟩
    unfold wX7_comesHours
    refine M_isIn ?_
    try dsimp only
    by_cases g : 1 ≤ num c (a + 1) ∧ num c (a + 1) ≤ 60
    · rw [if_pos (show (1 : Int32) ≤ nI (num c (a + 1)) ∧ nI (num c (a + 1)) ≤ 60 from ⟨nI_le (a := 1) g.1 (by omega), nI_le (b := 60) g.2 (by decide)⟩), if_neg bz_k, hr.2.2.1, nI_add, l999]
      by_cases g3 : p 30 2 + num c (a + 1) ≤ 999
      · rw [if_pos ⟨g, g3⟩] at y
        rw [if_pos (nI_le g3 (by omega))]
        exact M_goes (b := 999) (by omega) (by decide) ok hr hw (fun S' h' f' => ⟨Or.inr rfl, y _ S' rfl h' f'.frc⟩)
      · rw [if_neg (fun q => g3 q.2)] at z
        rw [if_neg (nI_ge (by omega) (by omega))]
        exact ⟨Or.inl rfl, z rfl⟩
    · rw [if_neg (fun q => g q.1)] at z
      rw [if_neg (show ¬ ((1 : Int32) ≤ nI (num c (a + 1)) ∧ nI (num c (a + 1)) ≤ 60) from fun q => g ⟨Nat.le_of_not_lt (fun w => nI_ge (b := 1) w (by decide) q.1), Nat.le_of_not_lt (fun w => nI_ge (a := 60) w (by omega) q.2)⟩), if_pos rfl]
      exact ⟨Or.inl rfl, z rfl⟩
  rw [if_neg (show ¬ nI (c a) = 104 from ne 104 (by decide) q6)]
  by_cases q2 : c a = 114
  · rw [if_pos q2] at y z
    have d1 := bp_d hb (i := 1) (by omega) (by rw [q2]; decide) (by rw [q2]; rfl)
    have d2 := bp_d hb (i := 2) (by omega) (by rw [q2]; decide) (by rw [q2]; rfl)
    have hd := d1.2.2
    have hd2 := d2.2.2
    rw [if_pos (show nI (c a) = 114 by rw [q2]; rfl), (w114 q2).1, (w114 q2).2]
    refine ⟨hP0, hP1, ?_⟩
    unfold wX7_comesRope
    by_cases g : c (a + 1) - 48 < p 30 0 ∧ c (a + 2) - 48 < p 30 0 ∧ c (a + 1) - 48 ≠ c (a + 2) - 48
    · refine M_aT o1 hr.1 g.1 g.2.1 g.2.2 ?_
      try dsimp only
      rw [if_neg bz_k, hr.2.1]
      by_cases g2 : p 30 1 < 6
      · rw [if_pos ⟨g, g2⟩] at y
        rw [if_neg (show ¬ nI (p 30 1) = 6 from fun q => by have := (nI_eq (b := 6) (by omega) (by omega)).mp q; omega)]
        exact M_adds g2 hr (fun S' h' _ f1 f2 _ => ⟨Or.inr rfl, y _ S' rfl h' ⟨fun r q1 q2 => f1 r (by omega) (by omega) q2, fun j q1 q2 q3 => f2 j (by omega)⟩⟩)
      · rw [if_neg (fun q => g2 q.2)] at z
        rw [if_pos (show nI (p 30 1) = 6 by rw [show p 30 1 = 6 by omega]; rfl)]
        exact ⟨Or.inl rfl, z rfl⟩
    · rw [if_neg (fun q => g q.1)] at z
      refine M_aT_no o1 hr.1 (noP2 g (by omega) (by omega) (by omega)) ?_
      try dsimp only
      rw [if_pos rfl]
      exact ⟨Or.inl rfl, z rfl⟩
  rw [if_neg q2] at y z
  rw [if_neg (show ¬ nI (c a) = 114 from ne 114 (by decide) q2)]
  by_cases q4 : c a = 116
  · rw [if_neg (by rw [q4]; decide), if_pos q4] at y z
    have k1 := bp_k hb q4
    have d3 := bp_d hb (i := 3) (by omega) (by rw [q4]; decide) (by rw [q4]; rfl)
    have d4 := bp_d hb (i := 4) (by omega) (by rw [q4]; decide) (by rw [q4]; rfl)
    have hn99 : num c (a + 3) ≤ 99 := by have h1 := d3.2.2; have h2 := d4.2.2; unfold num; rw [show a + 3 + 1 = a + 4 from rfl]; omega
    have ww := w116 q4
    rw [if_pos (show nI (c a) = 116 by rw [q4]; rfl)]
    by_cases g : num c (a + 3) ≤ 60 ∧ p 30 0 < 8
    · rw [if_pos g] at y
      exact M_addThing g.2 (by omega) hr ww.1 ww.2.1 ww.2.2 g.1 (fun S' h' f' => ⟨Or.inr rfl, y _ S' rfl h' f'⟩)
    · rw [if_neg g] at z
      exact M_addThing_no o1 (by omega) hr ww.2.2 hn99 g ⟨Or.inl rfl, z rfl⟩
  rw [if_neg (show ¬ nI (c a) = 116 from ne 116 (by decide) q4)]
  refine ⟨hP0, hP1, ?_⟩
  unfold wX7_comesOne bX7_comesOne_22
  by_cases q3 : c a = 115
  · rw [if_pos q3] at y z
    have d1 := bp_d hb (i := 1) (by omega) (by rw [q3]; decide) (by rw [q3]; rfl)
    have hd := d1.2.2
    rw [(w115 q3).1, (w115 q3).2]
    by_cases g : c (a + 1) - 48 < p 30 0
    · rw [if_pos g] at y
      refine M_iT hr.1 g o1 ?_
      try dsimp only
      rw [if_neg bz_k, if_neg (show ¬ nI (c a) = 117 by rw [q3]; decide), if_neg (show ¬ nI (c a) = 117 by rw [q3]; decide), nI_clamp (by omega)]
      refine ⟨(vin (by omega)).mpr (by omega), ?_⟩
      rintro S3 rfl
      exact ⟨Or.inr rfl, y _ _ rfl (repM_set3 hr) (FrC.set (by omega))⟩
    · rw [if_neg g] at z
      refine M_iT_no hr.1 (Or.inr (nI_le (by omega) (by omega))) ?_
      try dsimp only
      rw [if_pos rfl]
      exact ⟨Or.inl rfl, z rfl⟩
  have q5 : c a = 117 := by
    rcases let6 (c a) with h | h | h | h | h | h | h
    · exact absurd h q4
    · exact absurd h q2
    · exact absurd h q1
    · exact absurd h q3
    · exact h
    · exact absurd h q6
    · have := (bp_all hb).1; omega
  rw [if_neg q3, if_neg q4, if_pos q5] at y z
  have d1 := bp_d hb (i := 1) (by omega) (by rw [q5]; decide) (by rw [q5]; rfl)
  have d2 := bp_d hb (i := 2) (by omega) (by rw [q5]; decide) (by rw [q5]; rfl)
  have d3 := bp_d hb (i := 3) (by omega) (by rw [q5]; decide) (by rw [q5]; rfl)
  have hd := d1.2.2
  have hn99 : num c (a + 2) ≤ 99 := by have h1 := d2.2.2; have h2 := d3.2.2; unfold num; rw [show a + 2 + 1 = a + 3 from rfl]; omega
  have w1 : S 15 (3 * k + 1) = nI (num c (a + 2)) := (w117 q5).2
  rw [(w117 q5).1, w1]
  by_cases g : c (a + 1) - 48 < p 30 0
  · refine M_iT hr.1 g o1 ?_
    try dsimp only
    rw [if_neg bz_k, if_pos (show nI (c a) = 117 by rw [q5]; rfl), if_pos (show nI (c a) = 117 by rw [q5]; rfl)]
    by_cases g2 : num c (a + 2) ≤ 20
    · rw [if_pos ⟨g, g2⟩] at y
      rw [if_pos (show nI (num c (a + 2)) ≤ 20 from nI_le (b := 20) g2 (by decide)), nI_clamp (by omega)]
      refine ⟨(vin (by omega)).mpr (by omega), ?_⟩
      rintro S3 rfl
      exact ⟨Or.inr rfl, y _ _ rfl (repM_set4 hr) (FrC.set (by omega))⟩
    · rw [if_neg (fun q => g2 q.2)] at z
      rw [if_neg (show ¬ nI (num c (a + 2)) ≤ 20 from nI_ge (a := 20) (by omega) (by omega))]
      exact ⟨Or.inl rfl, z rfl⟩
  · rw [if_neg (fun q => g q.1)] at z
    refine M_iT_no hr.1 (Or.inr (nI_le (by omega) (by omega))) ?_
    try dsimp only
    rw [if_pos rfl]
    exact ⟨Or.inl rfl, z rfl⟩
/-- the run of the statements -/
def rn (c : Nat → Nat) : Nat → Nat → PT → PT × Option Nat
  | 0, _, p => (p, none)
  | m + 1, k, p => match ap c p (sta c k) with
    | none => (p, some (sta c k))
    | some p' => rn c m (k + 1) p'
theorem rn_n {c : Nat → Nat} {m k : Nat} {p : PT} (h : ap c p (sta c k) = none) : rn c (m + 1) k p = (p, some (sta c k)) := by rw [rn, h]
theorem rn_s {c : Nat → Nat} {m k : Nat} {p p' : PT} (h : ap c p (sta c k) = some p') : rn c (m + 1) k p = rn c m (k + 1) p' := by rw [rn, h]
theorem X_tellL {L : RT} {c : Nat → Nat} {n M : Nat} (hn : n ≤ 96) (hL : L 30 1 = nI n) (hc : ∀ i, i < n → c i ≤ 255 ∧ L 0 i = nI (c i)) (hg : gds c n M) (hM : sta c M = n) {Q : Int32 → RT → Prop} : ∀ (m k : Nat) (P : RT) (p : PT), k + m = M → okP 999 p → repX P p → (∀ p' P', rn c m k p = (p', none) → okP 999 p' → repX P' p' → Q (nI M) P') → (∀ p' a P', rn c m k p = (p', some a) → a < n → Q ((-2000) - nI a) P') → bX0_tellTo_25 L Q (m + 1) P (nI k) (nI (sta c k)) := by
  intro m
  induction m with
  | zero =>
    intro k P p hk ok hr y z
    rw [bX0_tellTo_25, hL, show k = M by omega, hM, if_pos (nI_le (by omega) (by omega))]
    exact y p P (by rw [rn]) ok hr
  | succ m ih =>
    intro k P p hk ok hr y z
    have gk := hg k (by omega)
    have h6 := bp_all gk.2
    have hz := zsh_f (c (sta c k))
    rw [bX0_tellTo_25, hL, if_neg (nI_ge gk.1 (by omega)), nI_clamp (by omega), (hc _ gk.1).2]
    refine ⟨(vin (by omega)).mpr (by omega), ?_⟩
    refine X_shape (hc _ gk.1).1 ?_
    try dsimp only
    rw [hz.2.1]
    refine ⟨hz.1, ?_⟩
    rintro r5 rfl x4 hx4
    have e4 : x4 = nI (zln (c (sta c k))) := by rw [hx4, if_pos (show (1 : Int32) < nI (zln (c (sta c k))) from nI_lt (a := 1) (by omega) (by omega))]
    refine X_tell hn hc gk.1 gk.2 ok hr (fun p' P' h1 h2 => ?_) (fun h1 P' => ?_)
    try dsimp only
    · rw [if_neg bz_k, nI_1, e4, nI_add]
      rintro x3 rfl x5 rfl
      rw [rn_s h1] at y z
      exact ih (k + 1) P' p' (by omega) (ap_ok ok gk.2 h1) h2 y z
    · rw [if_pos rfl]
      exact z p (sta c k) P' (rn_n h1) gk.1
def TI (c : Nat → Nat) (k : Nat) (S : RT) : Prop := ∀ i, i < k → S 13 i = nI (c (sta c i)) ∧ S 14 i = nI (sta c i) ∧ VL c S (3 * i) (sta c i)
theorem TI.fr {c : Nat → Nat} {k : Nat} {S S' : RT} (h : TI c k S) (f : FrC S S') : TI c k S' := fun i hi => by
  have := h i hi
  refine ⟨by rw [f.1 13 (by omega) (by decide)]; exact this.1, by rw [f.1 14 (by omega) (by decide)]; exact this.2.1, this.2.2.fr (fun j _ => by rw [f.1 15 (by omega) (by decide)])⟩
theorem svM.frc {S S' : RT} {w : Nat} {p : PT} (h : svM S w p) (f : FrC S S') : svM S' w p := by
  have e : S' 19 = S 19 := f.1 19 (by omega) (by decide)
  unfold svM at h ⊢
  rw [e]
  exact h
theorem M_tellL {c : Nat → Nat} {n M : Nat} (hn : n ≤ 96) (hc : ∀ i, i < n → c i ≤ 255) (hg : gds c n M) (hM : sta c M = n) {p0 : PT} (ok0 : okP 999 p0) {S0 : RT} (hw : S0 30 11 = -9) (h18 : S0 30 18 = nI M) (ht : TI c M S0) (hs : svM S0 1 p0) {Q : Int32 → RT → Prop} : ∀ (m k : Nat) (S : RT) (p : PT), k + m = M → okP 999 p → repM S p → FrC S0 S → (∀ p' S', rn c m k p = (p', none) → repM S' p' → FrC S0 S' → Q (nI M) S') → (∀ p' a S', rn c m k p = (p', some a) → repM S' p0 → FrC S0 S' → Q ((-2000) - nI a) S') → bX7_port_86 Q (m + 1) S (nI k) := by
  have hM32 := gds_le M hg
  intro m
  induction m with
  | zero =>
    intro k S p hk ok hr hf y z
    rw [bX7_port_86, hf.2 18 (by decide) (by decide) (by decide), h18, if_pos (nI_le (by omega) (by omega))]
    exact y p S (by rw [rn]) hr hf
  | succ m ih =>
    intro k S p hk ok hr hf y z
    have gk := hg k (by omega)
    have tk := (ht.fr hf) k (by omega)
    rw [bX7_port_86, hf.2 18 (by decide) (by decide) (by decide), h18, if_neg (nI_ge (by omega) (by omega))]
    refine M_comes hn hc (by omega) gk.1 gk.2 ok hr (by rw [hf.2 11 (by decide) (by decide) (by decide)]; exact hw) tk.1 tk.2.2 (fun p' S' h1 h2 h3 => ?_) (fun h1 => ?_)
    try dsimp only
    · rw [if_neg bz_k, nI_1]
      rintro x rfl
      rw [rn_s h1] at y z
      exact ih (k + 1) S' p' (by omega) (ap_ok ok gk.2 h1) h2 (hf.tr h3) y z
    · rw [if_pos rfl]
      refine M_backAll (w := 1) (by decide) ok0.1 ok0.2.1 (hs.frc hf) (fun S5 g1 g2 => ?_)
      try dsimp only
      rw [nI_clamp (by omega), g2.2.1 14 (by omega) (by decide), tk.2.1]
      exact ⟨(vin (by omega)).mpr (by omega), z p (sta c k) S5 (rn_n h1) g1 (hf.tr g2.frc)⟩
