/-! ===== THE LAW: from its entry (laid by wip/whole/start.py) ===== -/
def sIx : Nat → Nat := fun i => [54, 56, 58, 60, 62, 64, 66, 72].getD i 0
set_option maxHeartbeats 4000000 in
set_option maxRecDepth 100000 in
theorem st_str {s : State} {b : Nat} {A : Nat → Prop} (hA : ∀ a : Nat, a < s.heap.size → ¬ A a) (hs : ∀ c ∈ flatC (Jvm.Cond.and given_1 narrow_1), c.before #[Value.ref b] s = true) : ∃ adK adV : Nat → Nat, vk_S 8 sLen sByt adK adV A s s.heap ∧ ∀ i : Nat, i < 8 → (Term.string RX0 (sIx i)).eval #[Value.ref b] s none [] s = some (.ref (adK i)) := by
  refine vk_Sof (tm := fun i => Term.string RX0 (sIx i)) sLen_lt ?_ ?_ ?_ ?_ ?_ ?_ hA
  · intro i hi
    rcases (show i = 0 ∨ i = 1 ∨ i = 2 ∨ i = 3 ∨ i = 4 ∨ i = 5 ∨ i = 6 ∨ i = 7 by omega) with rfl | rfl | rfl | rfl | rfl | rfl | rfl | rfl <;> exact hs _ (by decide +kernel)
  · intro i hi
    rcases (show i = 0 ∨ i = 1 ∨ i = 2 ∨ i = 3 ∨ i = 4 ∨ i = 5 ∨ i = 6 ∨ i = 7 by omega) with rfl | rfl | rfl | rfl | rfl | rfl | rfl | rfl <;> exact hs _ (by decide +kernel)
  · intro i hi
    rcases (show i = 0 ∨ i = 1 ∨ i = 2 ∨ i = 3 ∨ i = 4 ∨ i = 5 ∨ i = 6 ∨ i = 7 by omega) with rfl | rfl | rfl | rfl | rfl | rfl | rfl | rfl <;> exact hs _ (by decide +kernel)
  · intro i hi
    rcases (show i = 0 ∨ i = 1 ∨ i = 2 ∨ i = 3 ∨ i = 4 ∨ i = 5 ∨ i = 6 ∨ i = 7 by omega) with rfl | rfl | rfl | rfl | rfl | rfl | rfl | rfl <;> exact hs _ (by decide +kernel)
  · intro i hi
    have key : ∀ i, i < 8 → ∀ j, j < sLen.getD i 0 → (Cond.eq (.elem (.field (Term.string RX0 (sIx i)) "java/lang/String" "value" "[B") (.int (Int32.ofNat j))) (.int ((sByt.getD i []).getD j 0))) ∈ flatC (Jvm.Cond.and given_1 narrow_1) := by decide +kernel
    exact fun j hj => hs _ (key i hi j hj)
  · have key : ∀ i, i < 8 → ∀ j, j < 8 → i ≠ j → (Cond.not (Cond.eq (Term.string RX0 (sIx i)) (Term.string RX0 (sIx j)))) ∈ flatC (Jvm.Cond.and given_1 narrow_1) ∨ (Cond.not (Cond.eq (Term.string RX0 (sIx j)) (Term.string RX0 (sIx i)))) ∈ flatC (Jvm.Cond.and given_1 narrow_1) := by decide +kernel
    exact fun i j hi hj hij => (key i hi j hj hij).imp (hs _) (hs _)
theorem st_vr {own tx : String} {k a : Nat} {A : Array Value} {U : State} (h1 : (Cond.stringRef own k tx).before A U = true) (h2 : (Term.string own k).eval A U none [] U = some (.ref a)) : vk_R own k tx a U := ⟨by have h := h1; simp only [Cond.before, Cond.holds, Cond.value] at h ⊢; exact h, by rw [← h2]; exact Term.string_eval_of_vm rfl⟩
set_option maxHeartbeats 4000000 in
set_option maxRecDepth 100000 in
theorem st_all {s : State} {b : Nat} {A : Nat → Prop} (hA : ∀ a : Nat, a < s.heap.size → ¬ A a) (hts0 : ∀ w ∈ lw_tbl, w.before #[Value.ref b] s = true) (hgv : (Jvm.Cond.and given_1 narrow_1).before #[Value.ref b] s = true) : ∃ z : KT, va_K (zG z) vwCl [(zI z, .int)] s ∧ nN s ∧ sR (zK z) s ∧ sK z A s s.heap := by
  have hts : ∀ w ∈ wsL_law, w.before #[Value.ref b] s = true := fun w h => hts0 w (tb_in w h)
  have hs := flat_of_before _ hgv
  obtain ⟨ka, kv, hS, hT⟩ := st_str hA hs
  obtain ⟨cA, kA, comp, g1, g2, g3⟩ := Cond.arrayClass_spec (type := .int) (args := #[Value.ref b]) (first := s) (o := none) (s := s) (idx := []) (hts _ ac_int)
  obtain ⟨c0, i0, k0⟩ := u_known (C := RX0) (T := TX0) (N := 2) (n := 2) hts inlX0 (hts _ is_X0)
  obtain ⟨c1, i1, k1⟩ := u_known (C := RX1) (T := TX1) (N := 3) (n := 3) hts inlX1 (hts _ is_X1)
  obtain ⟨c2, i2, k2⟩ := u_known (C := RX3) (T := TX3) (N := 10) (n := 10) hts inlX3 (hts _ is_X3)
  obtain ⟨c3, i3, k3⟩ := u_known (C := RX5) (T := TX5) (N := 2) (n := 2) hts inlX5 (hts _ is_X5)
  obtain ⟨c4, i4, k4⟩ := u_known (C := RX6) (T := TX6) (N := 7) (n := 7) hts inlX6 (hts _ is_X6)
  obtain ⟨c5, i5, k5⟩ := u_known (C := RX7) (T := TX7) (N := 27) (n := 27) hts inlX7 (hts _ is_X7)
  refine ⟨(fun k => if k = 0 then c0 else if k = 1 then c1 else if k = 2 then c2 else if k = 3 then c3 else if k = 4 then c4 else c5, fun k => if k = 0 then i0 else if k = 1 then i1 else if k = 2 then i2 else if k = 3 then i3 else if k = 4 then i4 else i5, cA, ka, kv), ⟨?_, ?_⟩, ?_, ?_, ?_⟩
  · intro k q hq
    match k, hq with
    | 0, hq => cases hq; exact k0
    | 1, hq => cases hq; exact k1
    | 2, hq => cases hq; exact k2
    | 3, hq => cases hq; exact k3
    | 4, hq => cases hq; exact k4
    | 5, hq => cases hq; exact k5
    | k + 6, hq => simp [vwCl] at hq
  · intro k q hq
    match k, hq with
    | 0, hq => cases hq; exact ⟨fun n z => ⟨fun k h => (by cases h), kA, g2, comp, g3⟩, g1⟩
    | k + 1, hq => simp at hq
  · exact ⟨va_Nw.of rfl (hts0 _ tn_RX1_97), va_Nw.of rfl (hts0 _ tn_RX1_111), va_Nw.of rfl (hts0 _ tn_RX2_56), va_Nw.of rfl (hts0 _ tn_RX4_39), va_Nw.of rfl (hts0 _ tn_RX6_9), va_Nw.of rfl (hts0 _ tn_RX6_25), va_Nw.of rfl (hts0 _ tn_RX6_32), va_Nw.of rfl (hts0 _ tn_RX6_39), va_Nw.of rfl (hts0 _ tn_RX1_11)⟩
  · exact ⟨st_vr (hts0 _ tx_54) (hT 0 (by decide)), st_vr (hts0 _ tx_56) (hT 1 (by decide)), st_vr (hts0 _ tx_58) (hT 2 (by decide)), st_vr (hts0 _ tx_60) (hT 3 (by decide)), st_vr (hts0 _ tx_62) (hT 4 (by decide)), st_vr (hts0 _ tx_64) (hT 5 (by decide)), st_vr (hts0 _ tx_66) (hT 6 (by decide)), st_vr (hts0 _ tx_72) (hT 7 (by decide))⟩
  · exact ⟨hS, va_Zof (hts0 _ tz_c) (hts _ in_J0) (va_eqi (hs _ (by decide +kernel))) hA, va_Zqof (hts0 _ tz_s) (hts _ in_J3) (hs _ (by decide +kernel)) hA⟩
set_option maxHeartbeats 4000000 in
set_option maxRecDepth 100000 in
theorem law_start {p : Program} {e : Env} {s : State} {m : MethodId} {below : List Frame} {meth : Method} {c : Code} (l : Launch) {b L : Nat} {xs : Nat → Int32} (hL : L ≤ 3584) (C0 : lw_At p s m meth c b L xs) {Inv : RT → RT → RT → RT → RT → RT → RT → RT → Prop} (hst : Steps9 Inv) (hI0 : Inv zR zR zR zR zR zR zR (set2 zR 30 11 (-9))) : W p l e room_1 s m #[Value.ref b] below meth c s.heap [] 0 0 (lw_Z below #[Value.ref b] s) (entryFrame m ([Value.ref b] : List Value).toArray 4) := by
  obtain ⟨hx, hb, hr, hml, hown, hts0, hX, hbl, hlocks, hgv⟩ := id C0
  obtain ⟨z, hK, hN, hsr, hsk⟩ := st_all (A := fun q : Nat => s.heap.size ≤ q) (fun a h => Nat.not_le.mpr h) hts0 hgv
  have hts : ∀ w ∈ wsL_law, w.before #[Value.ref b] s = true := fun w h => hts0 w (tb_in w h)
  obtain ⟨A, hAe⟩ : ∃ A : Nat → Prop, A = fun q : Nat => s.heap.size ≤ q := ⟨_, rfl⟩
  rw [← hAe] at hsk
  have M : Mc p s m #[Value.ref b] meth c code 4 ret R_law z A := ⟨hx, hb, hr, hml, hown, hts, hlocks, hK, fun q h => by rw [hAe]; exact h, hN, hsr, hsk⟩
  have hw : Hw s z A [] s.heap [] := ⟨fun k q h => by simp at h, ⟨fun i j p q h => by simp at h, fun k q h => by simp at h⟩, va_S.rf⟩
  have hl := lv_entry ([.ref b]) (n := 4) (Nat.le_of_ble_eq_true rfl)
  rw [lg_entry_eq]
  generalize (lg_sl ([.ref b]) ++ List.replicate (4 - (lg_sl ([.ref b])).length) Slot.unset).toArray = ls at hl ⊢
  have hl : lv_has ls 4 [(0, .ref b)] := hl
  refine nw_o (ci := 4) (fs := [.null, .null, .int 0, .null, .null, .null, .null]) M inlX6 tyX6 tyX6_ok kl_L_7 is_X6 in_X6 hw rfl (fun j hj => by rcases (show j = 0 ∨ j = 1 ∨ j = 2 ∨ j = 3 ∨ j = 4 ∨ j = 5 ∨ j = 6 by omega) with rfl | rfl | rfl | rfl | rfl | rfl | rfl <;> rfl) (Nat.le_of_ble_eq_true rfl) (Nat.le_of_ble_eq_true rfl) dL_law_0 (fun o0 H hw => ?_)
  refine lv_dup hx hb dL_law_3 rfl ?_
  refine fr_I (wr := []) (wN := fun u : (Nat → Nat) × (Nat → Nat) × (Nat → Nat) × (Nat → Nat) × (Nat → Nat) × (Nat → Nat) × (Nat → Nat) => (fW z u.1 u.2.1 u.2.2.1 u.2.2.2.2.2.1 u.2.2.2.2.2.2 u.2.2.2.1 zR ++ (pW z u.2.1 zR ++ (pW z u.2.2.1 zR ++ (mW z u.2.2.2.1 u.2.2.2.2.1 zR ++ (pW z u.2.2.2.2.1 zR ++ (nW z u.2.2.2.2.2.1 zR ++ (lW z u.2.2.2.2.2.2 zR)))))))) M (m_X6_init l z o0) (cwI 0 hts (gdNL cd_X6_init) rfl rfl rfl (hts _ in_X6) (hts _ ml_L_9) (hts _ im_X6_init) rfl hdI_X6 ⟨(Nat.le_of_ble_eq_true rfl), (Nat.le_of_ble_eq_true rfl)⟩) (Cut.self _) (Prm.self _ 33 (fun _ => rfl)) hw hl.1 rfl (Nat.le_of_ble_eq_true rfl) dL_law_4 ⟨(Nat.le_of_ble_eq_true rfl), (Nat.le_of_ble_eq_true rfl)⟩ (fun u H locs e1 hw => ?_)
  obtain ⟨qX, qP, qK, qG, qT, qN, qL⟩ := u
  have hw : Hw s z A (fW z qX qP qK qN qL qG zR ++ (pW z qP zR ++ (pW z qK zR ++ (mW z qG qT zR ++ (pW z qT zR ++ (nW z qN zR ++ (lW z qL zR))))))) H locs := hw
  have e1 : qX 0 = o0 := e1
  rw [← e1]
  refine lv_astore_n (lv' := [(1, .ref (qX 0)), (0, .ref b)]) hx hb dL_law_7 rfl hl (by decide) rfl (fun ls hl => ?_)
  refine nw_o (ci := 5) (fs := [.null, .null, .null, .null, .null, .null, .null, .null, .int 0, .int 0, .int 0, .int 0, .null, .null, .null, .null, .int 0, .int 0, .int 0, .null, .int 0, .int 0, .int 0, .null, .null, .null, .int 0]) M inlX7 tyX7 tyX7_ok kl_L_10 is_X7 in_X7 hw rfl (fun j hj => by rcases (show j = 0 ∨ j = 1 ∨ j = 2 ∨ j = 3 ∨ j = 4 ∨ j = 5 ∨ j = 6 ∨ j = 7 ∨ j = 8 ∨ j = 9 ∨ j = 10 ∨ j = 11 ∨ j = 12 ∨ j = 13 ∨ j = 14 ∨ j = 15 ∨ j = 16 ∨ j = 17 ∨ j = 18 ∨ j = 19 ∨ j = 20 ∨ j = 21 ∨ j = 22 ∨ j = 23 ∨ j = 24 ∨ j = 25 ∨ j = 26 by omega) with rfl | rfl | rfl | rfl | rfl | rfl | rfl | rfl | rfl | rfl | rfl | rfl | rfl | rfl | rfl | rfl | rfl | rfl | rfl | rfl | rfl | rfl | rfl | rfl | rfl | rfl | rfl <;> rfl) (Nat.le_of_ble_eq_true rfl) (Nat.le_of_ble_eq_true rfl) dL_law_8 (fun o8 H hw => ?_)
  refine lv_dup hx hb dL_law_11 rfl ?_
  refine fr_I (wr := (fW z qX qP qK qN qL qG zR ++ (pW z qP zR ++ (pW z qK zR ++ (mW z qG qT zR ++ (pW z qT zR ++ (nW z qN zR ++ (lW z qL zR)))))))) (wN := fun u : Nat → Nat => (fW z qX qP qK qN qL qG zR ++ (pW z qP zR ++ (pW z qK zR ++ (mW z qG qT zR ++ (pW z qT zR ++ (nW z qN zR ++ (lW z qL zR))))))) ++ sW z u (set2 zR 30 11 (-9))) M (m_X7_init l z o8) (cwI 0 hts (gdNL cd_X7_init) rfl rfl rfl (hts _ in_X7) (hts _ ml_L_12) (hts _ im_X7_init) rfl hdI_X7 ⟨(Nat.le_of_ble_eq_true rfl), (Nat.le_of_ble_eq_true rfl)⟩) ⟨[33], [0, 1, 2, 3, 4, 5, 6, 7, 8, 9, 10, 11, 12, 13, 14, 15, 16, 17, 18, 19, 20, 21, 22, 23, 24, 25, 26, 27, 28, 29, 30, 31, 32], rfl, rfl, rfl, rfl, by decide⟩ ⟨[0, 1, 2, 3, 4, 5, 6, 7, 8, 9, 10, 11, 12, 13, 14, 15, 16, 17, 18, 19, 20, 21, 22, 23, 24, 25, 26, 27, 28, 29, 30, 31, 32, 33, 34, 35, 36, 37, 38, 39, 40, 41, 42, 43, 44, 45, 46, 47, 48, 49], rfl, fun _ => rfl⟩ hw hl.1 rfl (Nat.le_of_ble_eq_true rfl) dL_law_12 ⟨(Nat.le_of_ble_eq_true rfl), (Nat.le_of_ble_eq_true rfl)⟩ (fun qS H locs e2 hw => ?_)
  have e2 : qS 0 = o8 := e2
  rw [← e2]
  have hw : Hw s z A (fW z qX qP qK qN qL qG zR ++ (pW z qP zR ++ (pW z qK zR ++ (mW z qG qT zR ++ (pW z qT zR ++ (nW z qN zR ++ (lW z qL zR ++ (sW z qS (set2 zR 30 11 (-9)))))))))) H locs := hw
  refine lv_astore_n (lv' := [(2, .ref (qS 0)), (1, .ref (qX 0)), (0, .ref b)]) hx hb dL_law_15 rfl hl (by decide) rfl (fun ls hl => ?_)
  refine lv_iconst (v := 0) hx hb dL_law_16 (by decide) ?_
  refine lv_istore_n (lv' := [(3, .int 0), (2, .ref (qS 0)), (1, .ref (qX 0)), (0, .ref b)]) hx hb dL_law_17 rfl hl (by decide) rfl (fun ls hl => ?_)
  refine W.widen (k := 50) (n := 946) (Nat.le_of_ble_eq_true rfl) (Nat.le_of_ble_eq_true rfl) ?_
  exact law_loop M hAe hL hX hbl hst (L + 1) 0 0 (Nat.zero_le L) (by omega) nI_0.symm _ _ _ _ _ _ _ _ H locs ls hI0 hw (lv_sub hl [3, 2, 1, 0] rfl)
