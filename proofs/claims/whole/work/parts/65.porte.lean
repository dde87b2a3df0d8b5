/-! ===== PURE: port ===== -/
def FrX (S0 S : RT) : Prop := (∀ r, r ≠ 13 → r ≠ 14 → r ≠ 15 → r ≠ 30 → S r = S0 r) ∧ ∀ j, j ≠ 17 → j ≠ 18 → S 30 j = S0 30 j
theorem FrX.rf {S : RT} : FrX S S := ⟨fun _ _ _ _ _ => rfl, fun _ _ _ => rfl⟩
theorem FrX.r {S0 S S' : RT} {k : Nat} (h : FrX S0 S) (g : FrR k S S') : FrX S0 S' := ⟨fun r a b c d => (g.1 r a b c d).trans (h.1 r a b c d), fun j a b => (g.2.1 j a).trans (h.2 j a b)⟩
theorem FrX.s18 {S0 S : RT} {v : Int32} (h : FrX S0 S) : FrX S0 (set2 S 30 18 v) := ⟨fun r a b c d => by rw [set2_a d]; exact h.1 r a b c d, fun j a b => by rw [set2_b b]; exact h.2 j a b⟩
theorem FrX.s17 {S0 S : RT} {v : Int32} (h : FrX S0 S) : FrX S0 (set2 S 30 17 v) := ⟨fun r a b c d => by rw [set2_a d]; exact h.1 r a b c d, fun j a b => by rw [set2_b a]; exact h.2 j a b⟩
theorem repM.fx {S0 S : RT} {p : PT} (h : repM S0 p) (f : FrX S0 S) : repM S p := by
  unfold repM at h ⊢
  rw [f.2 8 (by decide) (by decide), f.2 9 (by decide) (by decide), f.2 10 (by decide) (by decide), f.1 1 (by decide) (by decide) (by decide) (by decide), f.1 2 (by decide) (by decide) (by decide) (by decide), f.1 3 (by decide) (by decide) (by decide) (by decide), f.1 4 (by decide) (by decide) (by decide) (by decide), f.1 5 (by decide) (by decide) (by decide) (by decide), f.1 6 (by decide) (by decide) (by decide) (by decide), f.1 7 (by decide) (by decide) (by decide) (by decide)]
  exact h
theorem TP.fx {c : Nat → Nat} {n : Nat} {S0 S : RT} (h : TP c n S0) (f : FrX S0 S) : TP c n S := ⟨by rw [f.2 16 (by decide) (by decide)]; exact h.1, fun i hi => by rw [f.1 12 (by decide) (by decide) (by decide) (by decide)]; exact h.2 i hi⟩
theorem TI.r {c : Nat → Nat} {k : Nat} {S S' : RT} (h : TI c k S) (g : FrR k S S') (h13 : S' 13 k = nI (c (sta c k))) (h14 : S' 14 k = nI (sta c k)) (hv : VL c S' (3 * k) (sta c k)) : TI c (k + 1) S' := fun i hi => by
  by_cases e : i = k
  · rw [e]; exact ⟨h13, h14, hv⟩
  · have := h i (by omega)
    exact ⟨by rw [(g.2.2.1 i e).1]; exact this.1, by rw [(g.2.2.1 i e).2]; exact this.2.1, this.2.2.fr (fun j hj => g.2.2.2 j (by omega))⟩
theorem TI.s18 {c : Nat → Nat} {k : Nat} {S : RT} {v : Int32} (h : TI c k S) : TI c k (set2 S 30 18 v) := fun i hi => by
  have := h i hi
  exact ⟨by rw [set2_a (by decide)]; exact this.1, by rw [set2_a (by decide)]; exact this.2.1, this.2.2.fr (fun j _ => by rw [set2_a (by decide)])⟩
theorem M_parseA {c : Nat → Nat} {n M : Nat} (hn : n ≤ 96) (h0 : n ≠ 0) (hc : ∀ i, i < n → c i ≤ 255) (hg : gds c n M) (hM : sta c M = n) {S0 : RT} (t0 : TP c n S0) {Q : Int32 → RT → Prop} (h : ∀ S', S' 30 18 = nI M → TI c M S' → FrX S0 S' → bX7_port_60 Q S' 1) : ∀ (m k : Nat) (S : RT), k + m = M → S 30 17 = nI (sta c k) → S 30 18 = nI k → TI c k S → FrX S0 S → bX7_port_12 Q (m + 1) S 1 := by
  have hM32 := gds_le M hg
  intro m
  induction m with
  | zero =>
    intro k S hk h17 h18 ht hf
    have e : k = M := by omega
    subst e
    have k0 : k ≠ 0 := by
      intro q
      subst q
      exact h0 hM.symm
    rw [bX7_port_12, if_neg bz_k, h17, (t0.fx hf).1, hM, if_neg (nI_nlt (by omega) (by omega)), h18, if_neg (show ¬ nI k = 0 from fun q => k0 ((nI_eq (b := 0) (by omega) (by omega)).mp q))]
    exact h S h18 ht hf
  | succ m ih =>
    intro k S hk h17 h18 ht hf
    have gk := hg k (by omega)
    rw [bX7_port_12, if_neg bz_k, h17, (t0.fx hf).1, if_pos (nI_lt gk.1 (by omega))]
    unfold bX7_port_34 bX7_port_53
    refine M_stmt hn hc (by omega) (t0.fx hf) h17 h18 gk.1 (fun _ S' e17 e13 e14 ev fr => ?_) (fun x e => by rw [gk.2] at e; cases e)
    rw [if_neg bz_k, fr.2.1 18 (by decide), h18, nI_1]
    rintro S1 rfl
    exact ih (k + 1) _ (by omega) (by rw [set2_b (by decide)]; exact e17) set2_s (ht.r fr e13 e14 ev).s18 (hf.r fr).s18
theorem M_parseB {c : Nat → Nat} {n M x : Nat} (hn : n ≤ 96) (hc : ∀ i, i < n → c i ≤ 255) (hg : gds c n M) (hM : sta c M < n) (hb : bp c n (sta c M) = some x) {S0 : RT} (t0 : TP c n S0) {Q : Int32 → RT → Prop} (h : ∀ S', S' 30 17 = nI x → FrX S0 S' → bX7_port_60 Q S' 0) : ∀ (m k : Nat) (S : RT), k + m = M → S 30 17 = nI (sta c k) → S 30 18 = nI k → FrX S0 S → bX7_port_12 Q (m + 2) S 1 := by
  have hM32 := gds_le M hg
  intro m
  induction m with
  | zero =>
    intro k S hk h17 h18 hf
    have e : k = M := by omega
    subst e
    rw [bX7_port_12, if_neg bz_k, h17, (t0.fx hf).1, if_pos (nI_lt hM (by omega))]
    unfold bX7_port_34 bX7_port_53
    refine M_stmt hn hc (by omega) (t0.fx hf) h17 h18 hM (fun e => by rw [hb] at e; cases e) (fun x' e S' e17 fr => ?_)
    try dsimp only
    rw [hb] at e
    cases e
    rw [if_pos rfl]
    rintro S1 rfl
    rw [bX7_port_12, if_pos rfl]
    exact h _ (by rw [set2_b (by decide)]; exact e17) (hf.r fr).s18
  | succ m ih =>
    intro k S hk h17 h18 hf
    have gk := hg k (by omega)
    rw [bX7_port_12, if_neg bz_k, h17, (t0.fx hf).1, if_pos (nI_lt gk.1 (by omega))]
    unfold bX7_port_34 bX7_port_53
    refine M_stmt hn hc (by omega) (t0.fx hf) h17 h18 gk.1 (fun _ S' e17 e13 e14 ev fr => ?_) (fun x e => by rw [gk.2] at e; cases e)
    rw [if_neg bz_k, fr.2.1 18 (by decide), h18, nI_1]
    rintro S1 rfl
    exact ih (k + 1) _ (by omega) (by rw [set2_b (by decide)]; exact e17) set2_s (hf.r fr).s18
theorem RQ.port {F K N L S S' : RT} (h : RQ F K N L S) (e0 : S' 0 = S 0) (e25 : S' 25 = S 25) (e20 : S' 30 20 = S 30 20) (e26 : S' 30 26 = S 30 26) (e11 : S' 30 11 = S 30 11) (e19 : ∀ b, b < 55 → S' 19 b = S 19 b) (e16 : S' 30 16 = 0) : RQ F K N (set2 L 30 1 0) S' := by
  obtain ⟨h1, h2, h3, h4, h5⟩ := h
  refine ⟨by rw [e11]; exact h1, by rw [e0]; exact h2, by rw [e26, e25]; exact h3, ⟨0, by omega, set2_s, e16, fun i hi => by omega⟩, ?_⟩
  rw [e20]
  refine h5.imp id (fun ⟨a, b, q, c, d, e⟩ => ⟨a, b, q, c, d, ?_⟩)
  have o1 := c.1
  have o2 := c.2.1
  obtain ⟨g1, g2, g3, g4, g5⟩ := e
  refine ⟨by rw [e19 _ (by omega)]; exact g1, by rw [e19 _ (by omega)]; exact g2, by rw [e19 _ (by omega)]; exact g3, fun i hi => ?_, fun j hj => ?_⟩
  · rw [e19 _ (by omega), e19 _ (by omega), e19 _ (by omega), e19 _ (by omega), e19 _ (by omega)]; exact g4 i hi
  · rw [e19 _ (by omega), e19 _ (by omega)]; exact g5 j hj
theorem tape_c {L S : RT} {k : Nat} (h : ∀ i, i < k → ∃ v, v ≤ 255 ∧ L 0 i = nI v ∧ S 12 i = nI v) : ∃ c : Nat → Nat, ∀ i, i < k → c i ≤ 255 ∧ L 0 i = nI (c i) ∧ S 12 i = nI (c i) := by
  refine ⟨fun i => if hi : i < k then Classical.choose (h i hi) else 0, fun i hi => ?_⟩
  have := Classical.choose_spec (h i hi)
  dsimp only
  rw [dif_pos hi]
  exact this
theorem m1_neg {x : Nat} (h : x ≤ 500) : (-1000 : Int32) - nI x < 0 := by
  have e : (-1000 : Int32) - nI x = -(nI (1000 + x)) := by
    rw [← nI_add, show nI 1000 = (1000 : Int32) from rfl, Int32.neg_add, Int32.sub_eq_add_neg]
  rw [e, Int32.lt_iff_toInt_lt, Int32.toInt_neg, nI_toInt (by omega)]
  show Int.bmod (-((1000 + x : Nat) : Int)) (2 ^ 32) < 0
  rw [Int.bmod_eq_of_le (by omega) (by omega)]
  omega
theorem m2_neg {x : Nat} (h : x ≤ 500) : (-2000 : Int32) - nI x < 0 := by
  have e : (-2000 : Int32) - nI x = -(nI (2000 + x)) := by
    rw [← nI_add, show nI 2000 = (2000 : Int32) from rfl, Int32.neg_add, Int32.sub_eq_add_neg]
  rw [e, Int32.lt_iff_toInt_lt, Int32.toInt_neg, nI_toInt (by omega)]
  show Int.bmod (-((2000 + x : Nat) : Int)) (2 ^ 32) < 0
  rw [Int.bmod_eq_of_le (by omega) (by omega)]
  omega
theorem bp_x {c : Nat → Nat} {n a x : Nat} (h : bp c n a = some x) (ha : a < n) (hn : n ≤ 96) : x ≤ 200 := by
  unfold bp at h
  by_cases e : zln (c a) = 0
  · rw [if_pos e] at h; cases h; omega
  · rw [if_neg e] at h
    have key : ∀ m i, i + m ≤ 10 → bpl c n a m i = some x → x ≤ 200 := by
      intro m
      induction m with
      | zero => intro i hi q; cases q
      | succ m ih =>
        intro i hi q
        rw [bpl] at q
        by_cases g : gdb c n a i = true
        · rw [if_pos g] at q; exact ih (i + 1) (by omega) q
        · rw [if_neg g] at q; cases q; omega
    have h6 := zln_c (c a)
    exact key _ 1 (by omega) h
theorem st_port : St_port Inv9 := by
  intro F P K G T N L S hI
  obtain ⟨p, ok, hx, hm, hq⟩ := hI
  have o1 := ok.1
  have o2 := ok.2.1
  have hq2 := hq
  obtain ⟨q0, q1, q2, ⟨n, hn, hLn, hSn, hcc⟩, q5⟩ := hq
  obtain ⟨c, hcs⟩ := tape_c hcc
  have hcL : ∀ i, i < n → c i ≤ 255 ∧ L 0 i = nI (c i) := fun i hi => ⟨(hcs i hi).1, (hcs i hi).2.1⟩
  have hc : ∀ i, i < n → c i ≤ 255 := fun i hi => (hcs i hi).1
  -- the reference's state as the reading begins
  have fx0 : FrX S (set2 (set2 S 30 17 0) 30 18 0) := (FrX.rf.s17).s18
  have tp0 : TP c n S := ⟨hSn, fun i hi => (hcs i hi).2.2⟩
  have h17 : set2 (set2 S 30 17 0) 30 18 0 30 17 = nI (sta c 0) := by rw [set2_b (by decide), set2_s]; rfl
  have h18 : set2 (set2 S 30 17 0) 30 18 0 30 18 = nI 0 := set2_s
  have badM : ∀ (T' : RT) (x : Nat) (S' : RT), S' 30 17 = nI x → FrX S S' → bX7_port_60 (fun r_2 S_2 => (-1000 : Int32) - nI x = r_2 ∧ Inv9 F P K G T' N (set2 L 30 1 0) S_2) S' 0 := by
    intro T' x S' e17 f
    unfold bX7_port_60
    rintro S1 rfl
    rw [if_pos rfl, set2_b (by decide), e17]
    exact ⟨rfl, p, ok, hx, (hm.fx f).sc (by decide), hq2.port (by rw [set2_a (by decide)]; exact f.1 0 (by decide) (by decide) (by decide) (by decide)) (by rw [set2_a (by decide)]; exact f.1 25 (by decide) (by decide) (by decide) (by decide)) (by rw [set2_b (by decide)]; exact f.2 20 (by decide) (by decide)) (by rw [set2_b (by decide)]; exact f.2 26 (by decide) (by decide)) (by rw [set2_b (by decide)]; exact f.2 11 (by decide) (by decide)) (fun b _ => by rw [set2_a (by decide), f.1 19 (by decide) (by decide) (by decide) (by decide)]) set2_s⟩
  unfold wX6_port wX0_tellTo wX0_firstBadPlace
  refine X_begin o1 o2 hx (fun T1 hT1 => ?_)
  try dsimp only
  by_cases h0 : n = 0
  · subst h0
    refine ⟨1, ?_⟩
    rw [bX0_firstBadPlace_4, hLn, if_pos (show nI 0 ≤ 0 from nI_le (b := 0) (by omega) (by omega)), if_pos (show nI 0 = 0 from rfl), if_neg (by decide)]
    rintro L4 rfl
    rw [if_pos (by decide)]
    unfold wX7_port
    rintro S1 rfl S2 rfl
    refine ⟨2, ?_⟩
    rw [bX7_port_12, if_neg bz_k, h17, (tp0.fx fx0).1, if_neg (show ¬ nI (sta c 0) < nI 0 from nI_nlt (Nat.zero_le _) (show sta c 0 < 2 ^ 31 from (by decide : 0 < 2 ^ 31))), h18, if_pos (show nI 0 = 0 from rfl)]
    unfold bX7_port_34 bX7_port_53 wX7_statement
    refine M_next (c := c) (n := 0) (a := 0) (by omega) (by omega) (tp0.fx fx0) h17 (fun d => absurd d (by omega)) (fun _ => ?_)
    try dsimp only
    rw [if_neg (by decide), if_neg (by decide), if_neg (by decide), if_neg (by decide), if_neg (by decide), if_neg (by decide), if_pos rfl]
    rintro S3 rfl
    rw [bX7_port_12, if_pos rfl]
    exact badM T1 0 _ (by rw [set2_b (by decide)]; exact h17) fx0.s18
  · rcases ph3 (c := c) (n := n) n 0 (fun i hi => by omega) (by show n ≤ 0 + n; omega) with ⟨M, hg, hM⟩ | ⟨M, x, hg, hM, hb⟩
    · have hM32 := gds_le M hg
      refine ⟨_, X_badA hn h0 hLn hcL hg hM ?_ M 0 (by omega)⟩
      rw [if_pos rfl]
      have parse : ∀ {Q : Int32 → RT → Prop}, (∀ S3, S3 30 18 = nI M → TI c M S3 → repM S3 p → svM S3 1 p → S3 30 11 = -9 → (∀ S', FrC S3 S' → S' 0 = S 0 ∧ S' 25 = S 25 ∧ S' 30 20 = S 30 20 ∧ S' 30 26 = S 30 26 ∧ S' 30 11 = S 30 11 ∧ (∀ b, b < 55 → S' 19 b = S 19 b) ∧ S' 30 16 = 0) → ∃ j, bX7_port_86 Q j S3 0) → wX7_port S Q := by
        intro Q hQ
        unfold wX7_port
        rintro S1 rfl S2 rfl
        refine ⟨_, M_parseA hn h0 hc hg hM tp0 (fun S' e18 ht f => ?_) M 0 _ (by omega) h17 h18 (fun i hi => by omega) fx0⟩
        unfold bX7_port_60
        rintro S1 rfl
        rw [if_neg bz_k]
        refine M_keepAll (w := 1) (by decide) o1 o2 ((hm.fx f).sc (by decide)) (fun S3 g1 g2 g3 => ?_)
        try dsimp only
        have e18' : S3 30 18 = nI M := by rw [g3.2.1 18 (by decide) (by decide), set2_b (by decide)]; exact e18
        have ht3 : TI c M S3 := fun i hi => by
          have := ht i hi
          refine ⟨by rw [g3.1 13 (by decide) (by decide), set2_a (by decide)]; exact this.1, by rw [g3.1 14 (by decide) (by decide), set2_a (by decide)]; exact this.2.1, this.2.2.fr (fun j _ => by rw [g3.1 15 (by decide) (by decide), set2_a (by decide)])⟩
        refine hQ S3 e18' ht3 g1 g2 ?_ (fun S' fc => ⟨?_, ?_, ?_, ?_, ?_, fun b hb => ?_, ?_⟩)
        · rw [g3.2.1 11 (by decide) (by decide), set2_b (by decide), f.2 11 (by decide) (by decide)]; exact q0
        · rw [fc.1 0 (by omega) (by decide), g3.1 0 (by decide) (by decide), set2_a (by decide)]; exact f.1 0 (by decide) (by decide) (by decide) (by decide)
        · rw [fc.1 25 (by omega) (by decide), g3.1 25 (by decide) (by decide), set2_a (by decide)]; exact f.1 25 (by decide) (by decide) (by decide) (by decide)
        · rw [fc.2 20 (by decide) (by decide) (by decide), g3.2.1 20 (by decide) (by decide), set2_b (by decide)]; exact f.2 20 (by decide) (by decide)
        · rw [fc.2 26 (by decide) (by decide) (by decide), g3.2.1 26 (by decide) (by decide), set2_b (by decide)]; exact f.2 26 (by decide) (by decide)
        · rw [fc.2 11 (by decide) (by decide) (by decide), g3.2.1 11 (by decide) (by decide), set2_b (by decide)]; exact f.2 11 (by decide) (by decide)
        · rw [fc.1 19 (by omega) (by decide), g3.2.2 b (by omega), set2_a (by decide), f.1 19 (by decide) (by decide) (by decide) (by decide)]
        · rw [fc.2 16 (by decide) (by decide) (by decide), g3.2.1 16 (by decide) (by decide), set2_s]
      refine ⟨_, X_tellL hn hLn hcL hg hM M 0 T1 p (by omega) ok hT1 (fun p' T2 e1 ok' hT2 => ?_) (fun p' a T2 e1 ha => ?_)⟩
      · rintro L4 rfl
        rw [if_neg (nI_pos (by omega))]
        refine X_copyFrom ok'.1 ok'.2.1 hT2 (fun P6 hP6 => ?_)
        try dsimp only
        refine parse (fun S3 e18 ht g1 g2 w fr => ?_)
        refine ⟨_, M_tellL hn hc hg hM ok w e18 ht g2 M 0 S3 p (by omega) ok g1 FrC.rf (fun p'' S' e2 h2 f2 => ?_) (fun p'' a S' e2 h2 f2 => by rw [e1] at e2; cases e2)⟩
        rw [e1] at e2
        cases e2
        obtain ⟨a0, a25, a20, a26, a11, a19, a16⟩ := fr S' f2
        exact ⟨rfl, p', ok', hP6, h2, hq2.port a0 a25 a20 a26 a11 a19 a16⟩
      · rintro L4 rfl
        rw [if_pos (m2_neg (by omega))]
        refine parse (fun S3 e18 ht g1 g2 w fr => ?_)
        refine ⟨_, M_tellL hn hc hg hM ok w e18 ht g2 M 0 S3 p (by omega) ok g1 FrC.rf (fun p'' S' e2 h2 f2 => by rw [e1] at e2; cases e2) (fun p'' a' S' e2 h2 f2 => ?_)⟩
        rw [e1] at e2
        cases e2
        obtain ⟨a0, a25, a20, a26, a11, a19, a16⟩ := fr S' f2
        exact ⟨rfl, p, ok, hx, h2, hq2.port a0 a25 a20 a26 a11 a19 a16⟩
    · have hx200 := bp_x hb hM hn
      refine ⟨_, X_badB hn hLn hcL hg hM hb ?_ M 0 (by omega)⟩
      rw [if_neg (nI_ne9 (by omega))]
      rintro L4 rfl
      rw [if_pos (m1_neg (by omega))]
      unfold wX7_port
      rintro S1 rfl S2 rfl
      exact ⟨_, M_parseB hn hc hg hM hb tp0 (fun S' e17 f => badM T1 x S' e17 f) M 0 _ (by omega) h17 h18 fx0⟩
theorem steps9 : Steps9 Inv9 := ⟨st_letter, st_port, st_thing, st_rope, st_ties, st_cuts, st_stones, st_weighs, st_lifts, st_turn, st_hours, st_thingThen, st_ropeThen, st_up, st_first, st_changes, st_throwsDown, st_takesUp, st_bestTie, st_bestCut, st_bestStone, st_rows, st_between, st_balance, st_nearest, st_chain, st_chains, st_sides, st_hauled, st_top, st_odd, st_meet, st_two, st_wet, st_mean, st_whatIs, st_row, st_judge, st_clear, st_lots, st_image, st_on, st_count⟩
