/-! ===== THE LAW: its loop (laid by wip/whole/law.py) ===== -/
theorem lw_cond {j L : Nat} (hL : L ≤ 3584) (hj : j ≤ L) : (nI L - 7 < nI j) ↔ ¬ j + 7 ≤ L := by
  have h1 : (nI L - 7).toInt = (L : Int) - 7 := by
    have := pk_sub_toInt (a := L) (b := 7) (by omega) (by omega)
    exact this
  rw [Int32.lt_iff_toInt_lt, h1, nI_toInt (by omega)]
  omega
set_option maxHeartbeats 4000000 in
set_option maxRecDepth 100000 in
theorem law_loop {p : Program} {l : Launch} {e : Env} {s : State} {m : MethodId} {below : List Frame} {meth : Method} {c : Code} {z : KT} {A : Nat → Prop} {b L9 : Nat} {xs : Nat → Int32} {Inv : RT → RT → RT → RT → RT → RT → RT → RT → Prop} {qX : Nat → Nat} {qS : Nat → Nat} {qL : Nat → Nat} {qN : Nat → Nat} {qG : Nat → Nat} {qP : Nat → Nat} {qK : Nat → Nat} {qT : Nat → Nat} (M : Mc p s m #[Value.ref b] meth c code 4 ret R_law z A) (hAe : A = fun q : Nat => s.heap.size ≤ q) (hL : L9 ≤ 3584) (hX : va_X b L9 xs s s.heap) (hbl : b < s.heap.size) (hst : Steps9 Inv) : ∀ (n j : Nat) (x3 : Int32), j ≤ L9 → L9 + 1 ≤ j + n → x3 = nI j → ∀ (F P K G T N L S : RT) (H : Heap) (locs : List Loc) (ls : Array Slot), Inv F P K G T N L S → Hw s z A (fW z qX qP qK qN qL qG F ++ (pW z qP P ++ (pW z qK K ++ (mW z qG qT G ++ (pW z qT T ++ (nW z qN N ++ (lW z qL L ++ (sW z qS S)))))))) H locs → lv_has ls 4 [(0, .ref b), (1, .ref (qX 0)), (2, .ref (qS 0)), (3, .int x3)] → W p l e room_1 s m #[Value.ref b] below meth c H locs 50 946 (lw_Z below #[Value.ref b] s) (F0 m 18 ls []) := by
  obtain ⟨hx, hb, hr, -, hown, hts, hlk, -, -, hN, hsr, -⟩ := id M
  have hbA : ¬ A b := by rw [hAe]; exact Nat.not_le.mpr hbl
  intro n
  induction n with
  | zero => intro j x3 h1 h2; exact absurd h2 (by omega)
  | succ n ih =>
    intro j x3 hj hjn ex3 F P K G T N L S H locs ls hI hw hl
    refine lv_iload_n hx hb dL_law_18 rfl (lv_at hl 3 rfl) ?_
    refine lv_aload_n hx hb dL_law_19 rfl (lv_at hl 0 rfl) ?_
    refine va_slen hx hb hX hbl hbA hw.2.2 dL_law_20 ?_
    refine lv_bipush (v := 7) hx hb dL_law_21 (by decide) ?_
    refine lv_isub hx hb dL_law_23 ?_
    refine lv_icmp_gt (tgt := 1469) hx hb dL_law_24 (by decide) (fun c9 => ?_) (fun c9 => ?_)
    · refine lv_iconst (v := 1) hx hb dL_law_1469 (by decide) ?_
      refine va_forget (fun q hq => by have := hw.2.2.2.2 q hq; rw [hAe] at this; exact this) ?_
      exact lw_ret hx hb hr hlk dL_law_1470
    · have hj7 : j + 7 ≤ L9 := by
        rcases Nat.lt_or_ge L9 (j + 7) with q | q
        · exact absurd ((by rw [ex3]; exact (lw_cond hL hj).mpr (by omega)) : nI L9 - 7 < x3) c9
        · exact q
      have hin : ∀ k : Nat, k < 7 → vp_in (x3 + nI k) L9 := fun k hk => by rw [ex3, nI_add]; exact vp_in_nI (by omega) (by omega)
      have hin0 : vp_in x3 L9 := by rw [ex3]; exact vp_in_nI (by omega) (by omega)
      have hK : ∀ (F P K G T N L S : RT) (H : Heap) (locs : List Loc) (ls : Array Slot), Inv F P K G T N L S → Hw s z A (fW z qX qP qK qN qL qG F ++ (pW z qP P ++ (pW z qK K ++ (mW z qG qT G ++ (pW z qT T ++ (nW z qN N ++ (lW z qL L ++ (sW z qS S)))))))) H locs → lv_has ls 4 [(0, .ref b), (1, .ref (qX 0)), (2, .ref (qS 0)), (3, .int x3)] → W p l e room_1 s m #[Value.ref b] below meth c H locs 50 946 (lw_Z below #[Value.ref b] s) (F0 m 1463 ls []) := by
        intro F P K G T N L S H locs ls hI hw hl
        obtain ⟨x4, ex4⟩ : ∃ y : Int32, y = x3 + 7 := ⟨_, rfl⟩
        refine lv_iinc (v := x4) (lv' := [(3, .int x4), (0, .ref b), (1, .ref (qX 0)), (2, .ref (qS 0))]) hx hb dL_law_1463 hl (k := 3) rfl (by rw [ex4]; rfl) (by decide) rfl (fun ls hl => ?_)
        refine lv_goto (tgt := 18) hx hb dL_law_1466 (by decide) ?_
        exact ih (j + 7) x4 hj7 (by omega) (by rw [ex4, ex3]; exact nI_add j 7) F P K G T N L S H locs ls hI hw (lv_sub hl [1, 2, 3, 0] rfl)
      refine lv_aload_n hx hb dL_law_27 rfl (lv_at hl 0 rfl) ?_
      refine lv_iload_n hx hb dL_law_28 rfl (lv_at hl 3 rfl) ?_
      refine va_sld hx hb hX hbl hbA hw.2.2 hin0 dL_law_29 ?_
      refine lv_bipush (v := 63) hx hb dL_law_30 (by decide) ?_
      refine lv_iand hx hb dL_law_32 ?_
      refine lv_topi (fun s9 es9 => ?_)
      by_cases c_0 : s9 = (0 : Int32)
      · refine lv_tableIn (tgt := 220) hx hb dL_law_33 (by rw [c_0]; decide) (by rw [c_0]; decide) (by rw [c_0]; rfl) (by decide) ?_
        exact lc_0 M hX hbl hbA hst.1 x3 hin hK F P K G T N L S H locs ls hI hw hl
      by_cases c_1 : s9 = (1 : Int32)
      · refine lv_tableIn (tgt := 243) hx hb dL_law_33 (by rw [c_1]; decide) (by rw [c_1]; decide) (by rw [c_1]; rfl) (by decide) ?_
        exact lc_1 M hX hbl hbA hst.2.1 x3 hin hK F P K G T N L S H locs ls hI hw hl
      by_cases c_2 : s9 = (2 : Int32)
      · refine lv_tableIn (tgt := 256) hx hb dL_law_33 (by rw [c_2]; decide) (by rw [c_2]; decide) (by rw [c_2]; rfl) (by decide) ?_
        exact lc_2 M hX hbl hbA hst.2.2.1 x3 hin hK F P K G T N L S H locs ls hI hw hl
      by_cases c_3 : s9 = (3 : Int32)
      · refine lv_tableIn (tgt := 289) hx hb dL_law_33 (by rw [c_3]; decide) (by rw [c_3]; decide) (by rw [c_3]; rfl) (by decide) ?_
        exact lc_3 M hX hbl hbA hst.2.2.2.1 x3 hin hK F P K G T N L S H locs ls hI hw hl
      by_cases c_4 : s9 = (4 : Int32)
      · refine lv_tableIn (tgt := 322) hx hb dL_law_33 (by rw [c_4]; decide) (by rw [c_4]; decide) (by rw [c_4]; rfl) (by decide) ?_
        exact lc_4 M hX hbl hbA hst.2.2.2.2.1 x3 hin hK F P K G T N L S H locs ls hI hw hl
      by_cases c_5 : s9 = (5 : Int32)
      · refine lv_tableIn (tgt := 355) hx hb dL_law_33 (by rw [c_5]; decide) (by rw [c_5]; decide) (by rw [c_5]; rfl) (by decide) ?_
        exact lc_5 M hX hbl hbA hst.2.2.2.2.2.1 x3 hin hK F P K G T N L S H locs ls hI hw hl
      by_cases c_6 : s9 = (6 : Int32)
      · refine lv_tableIn (tgt := 378) hx hb dL_law_33 (by rw [c_6]; decide) (by rw [c_6]; decide) (by rw [c_6]; rfl) (by decide) ?_
        exact lc_6 M hX hbl hbA hst.2.2.2.2.2.2.1 x3 hin hK F P K G T N L S H locs ls hI hw hl
      by_cases c_7 : s9 = (7 : Int32)
      · refine lv_tableIn (tgt := 411) hx hb dL_law_33 (by rw [c_7]; decide) (by rw [c_7]; decide) (by rw [c_7]; rfl) (by decide) ?_
        exact lc_7 M hX hbl hbA hst.2.2.2.2.2.2.2.1 x3 hin hK F P K G T N L S H locs ls hI hw hl
      by_cases c_8 : s9 = (8 : Int32)
      · refine lv_tableIn (tgt := 444) hx hb dL_law_33 (by rw [c_8]; decide) (by rw [c_8]; decide) (by rw [c_8]; rfl) (by decide) ?_
        exact lc_8 M hX hbl hbA hst.2.2.2.2.2.2.2.2.1 x3 hin hK F P K G T N L S H locs ls hI hw hl
      by_cases c_9 : s9 = (9 : Int32)
      · refine lv_tableIn (tgt := 477) hx hb dL_law_33 (by rw [c_9]; decide) (by rw [c_9]; decide) (by rw [c_9]; rfl) (by decide) ?_
        exact lc_9 M hX hbl hbA hst.2.2.2.2.2.2.2.2.2.1 x3 hin hK F P K G T N L S H locs ls hI hw hl
      by_cases c_10 : s9 = (10 : Int32)
      · refine lv_tableIn (tgt := 520) hx hb dL_law_33 (by rw [c_10]; decide) (by rw [c_10]; decide) (by rw [c_10]; rfl) (by decide) ?_
        exact lc_10 M hX hbl hbA hst.2.2.2.2.2.2.2.2.2.2.1 x3 hin hK F P K G T N L S H locs ls hI hw hl
      by_cases c_11 : s9 = (11 : Int32)
      · refine lv_tableIn (tgt := 543) hx hb dL_law_33 (by rw [c_11]; decide) (by rw [c_11]; decide) (by rw [c_11]; rfl) (by decide) ?_
        exact lc_11 M hX hbl hbA hst.2.2.2.2.2.2.2.2.2.2.2.1 x3 hin hK F P K G T N L S H locs ls hI hw hl
      by_cases c_12 : s9 = (12 : Int32)
      · refine lv_tableIn (tgt := 586) hx hb dL_law_33 (by rw [c_12]; decide) (by rw [c_12]; decide) (by rw [c_12]; rfl) (by decide) ?_
        exact lc_12 M hX hbl hbA hst.2.2.2.2.2.2.2.2.2.2.2.2.1 x3 hin hK F P K G T N L S H locs ls hI hw hl
      by_cases c_13 : s9 = (13 : Int32)
      · refine lv_tableIn (tgt := 619) hx hb dL_law_33 (by rw [c_13]; decide) (by rw [c_13]; decide) (by rw [c_13]; rfl) (by decide) ?_
        exact lc_13 M hX hbl hbA hst.2.2.2.2.2.2.2.2.2.2.2.2.2.1 x3 hin hK F P K G T N L S H locs ls hI hw hl
      by_cases c_14 : s9 = (14 : Int32)
      · refine lv_tableIn (tgt := 652) hx hb dL_law_33 (by rw [c_14]; decide) (by rw [c_14]; decide) (by rw [c_14]; rfl) (by decide) ?_
        exact lc_14 M hX hbl hbA hst.2.2.2.2.2.2.2.2.2.2.2.2.2.2.1 x3 hin hK F P K G T N L S H locs ls hI hw hl
      by_cases c_15 : s9 = (15 : Int32)
      · refine lv_tableIn (tgt := 675) hx hb dL_law_33 (by rw [c_15]; decide) (by rw [c_15]; decide) (by rw [c_15]; rfl) (by decide) ?_
        exact lc_15 M hX hbl hbA hst.2.2.2.2.2.2.2.2.2.2.2.2.2.2.2.1 x3 hin hK F P K G T N L S H locs ls hI hw hl
      by_cases c_16 : s9 = (16 : Int32)
      · refine lv_tableIn (tgt := 698) hx hb dL_law_33 (by rw [c_16]; decide) (by rw [c_16]; decide) (by rw [c_16]; rfl) (by decide) ?_
        exact lc_16 M hX hbl hbA hst.2.2.2.2.2.2.2.2.2.2.2.2.2.2.2.2.1 x3 hin hK F P K G T N L S H locs ls hI hw hl
      by_cases c_17 : s9 = (17 : Int32)
      · refine lv_tableIn (tgt := 741) hx hb dL_law_33 (by rw [c_17]; decide) (by rw [c_17]; decide) (by rw [c_17]; rfl) (by decide) ?_
        exact lc_17 M hX hbl hbA hst.2.2.2.2.2.2.2.2.2.2.2.2.2.2.2.2.2.1 x3 hin hK F P K G T N L S H locs ls hI hw hl
      by_cases c_18 : s9 = (18 : Int32)
      · refine lv_tableIn (tgt := 784) hx hb dL_law_33 (by rw [c_18]; decide) (by rw [c_18]; decide) (by rw [c_18]; rfl) (by decide) ?_
        exact lc_18 M hX hbl hbA hst.2.2.2.2.2.2.2.2.2.2.2.2.2.2.2.2.2.2.1 x3 hin hK F P K G T N L S H locs ls hI hw hl
      by_cases c_19 : s9 = (19 : Int32)
      · refine lv_tableIn (tgt := 817) hx hb dL_law_33 (by rw [c_19]; decide) (by rw [c_19]; decide) (by rw [c_19]; rfl) (by decide) ?_
        exact lc_19 M hX hbl hbA hst.2.2.2.2.2.2.2.2.2.2.2.2.2.2.2.2.2.2.2.1 x3 hin hK F P K G T N L S H locs ls hI hw hl
      by_cases c_20 : s9 = (20 : Int32)
      · refine lv_tableIn (tgt := 850) hx hb dL_law_33 (by rw [c_20]; decide) (by rw [c_20]; decide) (by rw [c_20]; rfl) (by decide) ?_
        exact lc_20 M hX hbl hbA hst.2.2.2.2.2.2.2.2.2.2.2.2.2.2.2.2.2.2.2.2.1 x3 hin hK F P K G T N L S H locs ls hI hw hl
      by_cases c_21 : s9 = (21 : Int32)
      · refine lv_tableIn (tgt := 873) hx hb dL_law_33 (by rw [c_21]; decide) (by rw [c_21]; decide) (by rw [c_21]; rfl) (by decide) ?_
        exact lc_21 M hX hbl hbA hst.2.2.2.2.2.2.2.2.2.2.2.2.2.2.2.2.2.2.2.2.2.1 x3 hin hK F P K G T N L S H locs ls hI hw hl
      by_cases c_22 : s9 = (22 : Int32)
      · refine lv_tableIn (tgt := 896) hx hb dL_law_33 (by rw [c_22]; decide) (by rw [c_22]; decide) (by rw [c_22]; rfl) (by decide) ?_
        exact lc_22 M hX hbl hbA hst.2.2.2.2.2.2.2.2.2.2.2.2.2.2.2.2.2.2.2.2.2.2.1 x3 hin hK F P K G T N L S H locs ls hI hw hl
      by_cases c_23 : s9 = (23 : Int32)
      · refine lv_tableIn (tgt := 929) hx hb dL_law_33 (by rw [c_23]; decide) (by rw [c_23]; decide) (by rw [c_23]; rfl) (by decide) ?_
        exact lc_23 M hX hbl hbA hst.2.2.2.2.2.2.2.2.2.2.2.2.2.2.2.2.2.2.2.2.2.2.2.1 x3 hin hK F P K G T N L S H locs ls hI hw hl
      by_cases c_24 : s9 = (24 : Int32)
      · refine lv_tableIn (tgt := 952) hx hb dL_law_33 (by rw [c_24]; decide) (by rw [c_24]; decide) (by rw [c_24]; rfl) (by decide) ?_
        exact lc_24 M hX hbl hbA hst.2.2.2.2.2.2.2.2.2.2.2.2.2.2.2.2.2.2.2.2.2.2.2.2.1 x3 hin hK F P K G T N L S H locs ls hI hw hl
      by_cases c_25 : s9 = (25 : Int32)
      · refine lv_tableIn (tgt := 975) hx hb dL_law_33 (by rw [c_25]; decide) (by rw [c_25]; decide) (by rw [c_25]; rfl) (by decide) ?_
        exact lc_25 M hX hbl hbA hst.2.2.2.2.2.2.2.2.2.2.2.2.2.2.2.2.2.2.2.2.2.2.2.2.2.1 x3 hin hK F P K G T N L S H locs ls hI hw hl
      by_cases c_26 : s9 = (26 : Int32)
      · refine lv_tableIn (tgt := 998) hx hb dL_law_33 (by rw [c_26]; decide) (by rw [c_26]; decide) (by rw [c_26]; rfl) (by decide) ?_
        exact lc_26 M hX hbl hbA hst.2.2.2.2.2.2.2.2.2.2.2.2.2.2.2.2.2.2.2.2.2.2.2.2.2.2.1 x3 hin hK F P K G T N L S H locs ls hI hw hl
      by_cases c_27 : s9 = (27 : Int32)
      · refine lv_tableIn (tgt := 1021) hx hb dL_law_33 (by rw [c_27]; decide) (by rw [c_27]; decide) (by rw [c_27]; rfl) (by decide) ?_
        exact lc_27 M hX hbl hbA hst.2.2.2.2.2.2.2.2.2.2.2.2.2.2.2.2.2.2.2.2.2.2.2.2.2.2.2.1 x3 hin hK F P K G T N L S H locs ls hI hw hl
      by_cases c_28 : s9 = (28 : Int32)
      · refine lv_tableIn (tgt := 1044) hx hb dL_law_33 (by rw [c_28]; decide) (by rw [c_28]; decide) (by rw [c_28]; rfl) (by decide) ?_
        exact lc_28 M hX hbl hbA hst.2.2.2.2.2.2.2.2.2.2.2.2.2.2.2.2.2.2.2.2.2.2.2.2.2.2.2.2.1 x3 hin hK F P K G T N L S H locs ls hI hw hl
      by_cases c_29 : s9 = (29 : Int32)
      · refine lv_tableIn (tgt := 1077) hx hb dL_law_33 (by rw [c_29]; decide) (by rw [c_29]; decide) (by rw [c_29]; rfl) (by decide) ?_
        exact lc_29 M hX hbl hbA hst.2.2.2.2.2.2.2.2.2.2.2.2.2.2.2.2.2.2.2.2.2.2.2.2.2.2.2.2.2.1 x3 hin hK F P K G T N L S H locs ls hI hw hl
      by_cases c_30 : s9 = (30 : Int32)
      · refine lv_tableIn (tgt := 1100) hx hb dL_law_33 (by rw [c_30]; decide) (by rw [c_30]; decide) (by rw [c_30]; rfl) (by decide) ?_
        exact lc_30 M hX hbl hbA hst.2.2.2.2.2.2.2.2.2.2.2.2.2.2.2.2.2.2.2.2.2.2.2.2.2.2.2.2.2.2.1 x3 hin hK F P K G T N L S H locs ls hI hw hl
      by_cases c_31 : s9 = (31 : Int32)
      · refine lv_tableIn (tgt := 1113) hx hb dL_law_33 (by rw [c_31]; decide) (by rw [c_31]; decide) (by rw [c_31]; rfl) (by decide) ?_
        exact lc_31 M hX hbl hbA hst.2.2.2.2.2.2.2.2.2.2.2.2.2.2.2.2.2.2.2.2.2.2.2.2.2.2.2.2.2.2.2.1 x3 hin hK F P K G T N L S H locs ls hI hw hl
      by_cases c_32 : s9 = (32 : Int32)
      · refine lv_tableIn (tgt := 1146) hx hb dL_law_33 (by rw [c_32]; decide) (by rw [c_32]; decide) (by rw [c_32]; rfl) (by decide) ?_
        exact lc_32 M hX hbl hbA hst.2.2.2.2.2.2.2.2.2.2.2.2.2.2.2.2.2.2.2.2.2.2.2.2.2.2.2.2.2.2.2.2.1 x3 hin hK F P K G T N L S H locs ls hI hw hl
      by_cases c_33 : s9 = (33 : Int32)
      · refine lv_tableIn (tgt := 1189) hx hb dL_law_33 (by rw [c_33]; decide) (by rw [c_33]; decide) (by rw [c_33]; rfl) (by decide) ?_
        exact lc_33 M hX hbl hbA hst.2.2.2.2.2.2.2.2.2.2.2.2.2.2.2.2.2.2.2.2.2.2.2.2.2.2.2.2.2.2.2.2.2.1 x3 hin hK F P K G T N L S H locs ls hI hw hl
      by_cases c_34 : s9 = (34 : Int32)
      · refine lv_tableIn (tgt := 1265) hx hb dL_law_33 (by rw [c_34]; decide) (by rw [c_34]; decide) (by rw [c_34]; rfl) (by decide) ?_
        exact lc_34 M hX hbl hbA hst.2.2.2.2.2.2.2.2.2.2.2.2.2.2.2.2.2.2.2.2.2.2.2.2.2.2.2.2.2.2.2.2.2.2.1 x3 hin hK F P K G T N L S H locs ls hI hw hl
      by_cases c_35 : s9 = (35 : Int32)
      · refine lv_tableIn (tgt := 1289) hx hb dL_law_33 (by rw [c_35]; decide) (by rw [c_35]; decide) (by rw [c_35]; rfl) (by decide) ?_
        exact lc_35 M hX hbl hbA hst.2.2.2.2.2.2.2.2.2.2.2.2.2.2.2.2.2.2.2.2.2.2.2.2.2.2.2.2.2.2.2.2.2.2.2.1 x3 hin hK F P K G T N L S H locs ls hI hw hl
      by_cases c_36 : s9 = (36 : Int32)
      · refine lv_tableIn (tgt := 1322) hx hb dL_law_33 (by rw [c_36]; decide) (by rw [c_36]; decide) (by rw [c_36]; rfl) (by decide) ?_
        exact lc_36 M hX hbl hbA hst.2.2.2.2.2.2.2.2.2.2.2.2.2.2.2.2.2.2.2.2.2.2.2.2.2.2.2.2.2.2.2.2.2.2.2.2.1 x3 hin hK F P K G T N L S H locs ls hI hw hl
      by_cases c_37 : s9 = (37 : Int32)
      · refine lv_tableIn (tgt := 1345) hx hb dL_law_33 (by rw [c_37]; decide) (by rw [c_37]; decide) (by rw [c_37]; rfl) (by decide) ?_
        exact lc_37 M hX hbl hbA hst.2.2.2.2.2.2.2.2.2.2.2.2.2.2.2.2.2.2.2.2.2.2.2.2.2.2.2.2.2.2.2.2.2.2.2.2.2.1 x3 hin hK F P K G T N L S H locs ls hI hw hl
      by_cases c_38 : s9 = (38 : Int32)
      · refine lv_tableIn (tgt := 1358) hx hb dL_law_33 (by rw [c_38]; decide) (by rw [c_38]; decide) (by rw [c_38]; rfl) (by decide) ?_
        exact lc_38 M hX hbl hbA hst.2.2.2.2.2.2.2.2.2.2.2.2.2.2.2.2.2.2.2.2.2.2.2.2.2.2.2.2.2.2.2.2.2.2.2.2.2.2.1 x3 hin hK F P K G T N L S H locs ls hI hw hl
      by_cases c_39 : s9 = (39 : Int32)
      · refine lv_tableIn (tgt := 1371) hx hb dL_law_33 (by rw [c_39]; decide) (by rw [c_39]; decide) (by rw [c_39]; rfl) (by decide) ?_
        exact lc_39 M hX hbl hbA hst.2.2.2.2.2.2.2.2.2.2.2.2.2.2.2.2.2.2.2.2.2.2.2.2.2.2.2.2.2.2.2.2.2.2.2.2.2.2.2.1 x3 hin hK F P K G T N L S H locs ls hI hw hl
      by_cases c_40 : s9 = (40 : Int32)
      · refine lv_tableIn (tgt := 1414) hx hb dL_law_33 (by rw [c_40]; decide) (by rw [c_40]; decide) (by rw [c_40]; rfl) (by decide) ?_
        exact lc_40 M hX hbl hbA hst.2.2.2.2.2.2.2.2.2.2.2.2.2.2.2.2.2.2.2.2.2.2.2.2.2.2.2.2.2.2.2.2.2.2.2.2.2.2.2.2.1 x3 hin hK F P K G T N L S H locs ls hI hw hl
      by_cases c_41 : s9 = (41 : Int32)
      · refine lv_tableIn (tgt := 1427) hx hb dL_law_33 (by rw [c_41]; decide) (by rw [c_41]; decide) (by rw [c_41]; rfl) (by decide) ?_
        exact lc_41 M hX hbl hbA hst.2.2.2.2.2.2.2.2.2.2.2.2.2.2.2.2.2.2.2.2.2.2.2.2.2.2.2.2.2.2.2.2.2.2.2.2.2.2.2.2.2.1 x3 hin hK F P K G T N L S H locs ls hI hw hl
      by_cases c_42 : s9 = (42 : Int32)
      · refine lv_tableIn (tgt := 1440) hx hb dL_law_33 (by rw [c_42]; decide) (by rw [c_42]; decide) (by rw [c_42]; rfl) (by decide) ?_
        exact lc_42 M hX hbl hbA hst.2.2.2.2.2.2.2.2.2.2.2.2.2.2.2.2.2.2.2.2.2.2.2.2.2.2.2.2.2.2.2.2.2.2.2.2.2.2.2.2.2.2 x3 hin hK F P K G T N L S H locs ls hI hw hl
      refine lv_tableOut (tgt := 1463) hx hb dL_law_33 (by have q0 := lv_neT (a := 0) c_0 (by decide); have q1 := lv_neT (a := 1) c_1 (by decide); have q2 := lv_neT (a := 2) c_2 (by decide); have q3 := lv_neT (a := 3) c_3 (by decide); have q4 := lv_neT (a := 4) c_4 (by decide); have q5 := lv_neT (a := 5) c_5 (by decide); have q6 := lv_neT (a := 6) c_6 (by decide); have q7 := lv_neT (a := 7) c_7 (by decide); have q8 := lv_neT (a := 8) c_8 (by decide); have q9 := lv_neT (a := 9) c_9 (by decide); have q10 := lv_neT (a := 10) c_10 (by decide); have q11 := lv_neT (a := 11) c_11 (by decide); have q12 := lv_neT (a := 12) c_12 (by decide); have q13 := lv_neT (a := 13) c_13 (by decide); have q14 := lv_neT (a := 14) c_14 (by decide); have q15 := lv_neT (a := 15) c_15 (by decide); have q16 := lv_neT (a := 16) c_16 (by decide); have q17 := lv_neT (a := 17) c_17 (by decide); have q18 := lv_neT (a := 18) c_18 (by decide); have q19 := lv_neT (a := 19) c_19 (by decide); have q20 := lv_neT (a := 20) c_20 (by decide); have q21 := lv_neT (a := 21) c_21 (by decide); have q22 := lv_neT (a := 22) c_22 (by decide); have q23 := lv_neT (a := 23) c_23 (by decide); have q24 := lv_neT (a := 24) c_24 (by decide); have q25 := lv_neT (a := 25) c_25 (by decide); have q26 := lv_neT (a := 26) c_26 (by decide); have q27 := lv_neT (a := 27) c_27 (by decide); have q28 := lv_neT (a := 28) c_28 (by decide); have q29 := lv_neT (a := 29) c_29 (by decide); have q30 := lv_neT (a := 30) c_30 (by decide); have q31 := lv_neT (a := 31) c_31 (by decide); have q32 := lv_neT (a := 32) c_32 (by decide); have q33 := lv_neT (a := 33) c_33 (by decide); have q34 := lv_neT (a := 34) c_34 (by decide); have q35 := lv_neT (a := 35) c_35 (by decide); have q36 := lv_neT (a := 36) c_36 (by decide); have q37 := lv_neT (a := 37) c_37 (by decide); have q38 := lv_neT (a := 38) c_38 (by decide); have q39 := lv_neT (a := 39) c_39 (by decide); have q40 := lv_neT (a := 40) c_40 (by decide); have q41 := lv_neT (a := 41) c_41 (by decide); have q42 := lv_neT (a := 42) c_42 (by decide); omega) (by decide) ?_
      exact hK F P K G T N L S H locs ls hI hw hl
