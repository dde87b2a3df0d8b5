/-! ===== STRINGS: the texts' own methods, over the class's eight texts ===== -/
section TX
variable {p : Program} {l : Launch} {e : Env} {R : Room} {s : State} {m : MethodId} {args : Array Value} {below : List Frame} {meth : Method} {c : Code} {H : Heap} {locs : List Loc} {Q : State → Prop} {cc : ByteArray} {nL : Nat} {ret : Option FieldType} {own : String} {z : KT} {A : Nat → Prop} {pc : Nat} {ls : Array Slot} {st0 rest As : List Value} {ws : va_W} {y : MethodName} {bc : ByteArray} {nY : Nat} {rt : FieldType} {rm : Room} {index n i : Nat}
theorem fr_Ti {post : Int32 → Unit → Prop} (M : Mc p s m args meth c cc nL ret own z A) (hi : i < 8) (hM : CI l y bc nY rt rm z (.ref (zK z i) :: As) [] (fun _ : Unit => []) post) (cw : CallW R s args own RJ0 index y bc nY (some rt) (.code y bc nY (some rt) :: wsL_law) rm 0 0 n)
    (hw : Hw s z A ws H locs) (hn : As.length = n) (hsz : ls.size = nL) (hst : st0 = As.reverse ++ .ref (zK z i) :: rest) (hW : (rest.map fun v => v.category).sum ≤ 8) (hdg : decode cc pc = .ok (.invokevirtual index, 3))
    (kk : ∀ (r : Int32) (H1 : Heap) (locs1 : List Loc), post r () → Hw s z A ws H1 locs1 → W p l e R s m args below meth c H1 locs1 0 0 Q (F0 m (pc + 3) ls (.int r :: rest))) : W p l e R s m args below meth c H locs 0 0 Q (F0 m pc ls st0) := by
  obtain ⟨hP, hF, hU⟩ := fr_pre M hw (Cut.none ws)
  refine va_calli (va_runV (As := As) (rest := rest) ⟨M.1, M.2.1, M.2.2.2.1, M.2.2.2.2.1, M.2.2.2.2.2.1⟩ (hM H.size) cw ⟨cPre.calling, vk_recv M.2.2.2.2.2.2.2.2.2.2.2.1 hi hw.2.2, fun U h1 h2 => ⟨rfl, hU U h1 h2⟩⟩ rfl hn hsz hst (lv_room hW) hdg ⟨Nat.zero_le _, Nat.zero_le _⟩) hw.2.2 (fun q _ h => hF q h) hF (fun r u t H1 locs1 ht hvm hp hB _ hk hS => ?_)
  exact kk r H1 locs1 hp (fr_post (u := u) hw (Cut.none ws) (Prm.none ws) hF ht hB hk hS)
theorem fr_Sv {S : Type} {wc wr : va_W} {wB wN : S → va_W} {post : S → Prop} (M : Mc p s m args meth c cc nL ret own z A) (hM : CV l y bc nY rm z As wc wB post) (cw : CallB R s args own index y bc nY none (.code y bc nY none :: wsL_law) rm 0 0 n ∧ (Cond.static y).before args s = true) (hcut : Cut ws wc wr) (hprm : Prm wr wB wN)
    (hw : Hw s z A ws H locs) (hn : As.length = n) (hsz : ls.size = nL) (hst : st0 = As.reverse ++ rest) (hW : (rest.map fun v => v.category).sum ≤ 8) (hdg : decode cc pc = .ok (.invokestatic index, 3))
    (kk : ∀ (u : S) (H1 : Heap) (locs1 : List Loc), post u → Hw s z A (wN u) H1 locs1 → W p l e R s m args below meth c H1 locs1 0 0 Q (F0 m (pc + 3) ls rest)) : W p l e R s m args below meth c H locs 0 0 Q (F0 m pc ls st0) := by
  obtain ⟨hP, hF, hU⟩ := fr_pre M hw hcut
  refine va_callv (va_runS (As := As) (rest := rest) ⟨M.1, M.2.1, M.2.2.2.1, M.2.2.2.2.1, M.2.2.2.2.2.1⟩ (hM H.size) cw ⟨cPre.calling, fun U h1 h2 => ⟨rfl, hU U h1 h2⟩⟩ rfl hn hsz hst (lv_room hW) hdg ⟨Nat.zero_le _, Nat.zero_le _⟩) hw.2.2 (fun q _ h => hF q h) hF (fun u t H1 locs1 ht hvm hp hB _ hk hS => ?_)
  exact kk u H1 locs1 hp (fr_post hw hcut hprm hF ht hB hk hS)
theorem rt_n {S : Type} {wB : S → va_W} {post : Int32 → S → Prop} {v : Int32} {ty : FieldType} (M : Mc p s m args meth c cc nL (some ty) own z A) (u : S) (hw : Hw s z A (wB u) H locs) (hz : narrow ty (.int v) = .int v) (hp : post v u) (hdg : decode cc pc = .ok (.ireturn, 1)) : W p l e R s m args below meth c H locs 0 0 (MQ below (va_Qi post (fun u t => cAt z A (wB u) t) A) args s 0 0 A) (F0 m pc ls [.int v]) :=
  W.zret (v := v) M.1 M.2.1 M.2.2.1 hz (fun t ht hW => ⟨⟨v, u, rfl, hp, by rw [ht]; exact hw.1, hw.2.1⟩, hw.2.2.F ht⟩) hw.2.2.2.2 hdg M.2.2.2.2.2.2.1
end TX
theorem hdS_J3_checkIndex : yJ3_checkIndex_8e157.cls ≠ "java/lang/invoke/MethodHandle" ∧ yJ3_checkIndex_8e157.cls ≠ "java/lang/invoke/VarHandle" ∧ (parseMethodDescriptor yJ3_checkIndex_8e157.desc).map (fun d => d.parameters.length) = some 3 := by decide +kernel
theorem hdS_J0_checkIndex : yJ0_checkIndex_df160.cls ≠ "java/lang/invoke/MethodHandle" ∧ yJ0_checkIndex_df160.cls ≠ "java/lang/invoke/VarHandle" ∧ (parseMethodDescriptor yJ0_checkIndex_df160.desc).map (fun d => d.parameters.length) = some 2 := by decide +kernel
theorem hdS_J1_charAt : yJ1_charAt_3b067.cls ≠ "java/lang/invoke/MethodHandle" ∧ yJ1_charAt_3b067.cls ≠ "java/lang/invoke/VarHandle" ∧ (parseMethodDescriptor yJ1_charAt_3b067.desc).map (fun d => d.parameters.length) = some 2 := by decide +kernel
theorem hdV_J0_charAt : yJ0_charAt_5068e.cls = RJ0 ∧ yJ0_charAt_5068e.cls ≠ "java/lang/invoke/MethodHandle" ∧ yJ0_charAt_5068e.cls ≠ "java/lang/invoke/VarHandle" ∧ (parseMethodDescriptor yJ0_charAt_5068e.desc).map (fun d => d.parameters.length) = some 1 := by decide +kernel
theorem hdV_J0_length : yJ0_length_8abf5.cls = RJ0 ∧ yJ0_length_8abf5.cls ≠ "java/lang/invoke/MethodHandle" ∧ yJ0_length_8abf5.cls ≠ "java/lang/invoke/VarHandle" ∧ (parseMethodDescriptor yJ0_length_8abf5.desc).map (fun d => d.parameters.length) = some 0 := by decide +kernel
theorem hdV_J0_isEmpty : yJ0_isEmpty_aae02.cls = RJ0 ∧ yJ0_isEmpty_aae02.cls ≠ "java/lang/invoke/MethodHandle" ∧ yJ0_isEmpty_aae02.cls ≠ "java/lang/invoke/VarHandle" ∧ (parseMethodDescriptor yJ0_isEmpty_aae02.desc).map (fun d => d.parameters.length) = some 0 := by decide +kernel
theorem hdV_J0_coder : yJ0_coder_7d493.cls = RJ0 ∧ yJ0_coder_7d493.cls ≠ "java/lang/invoke/MethodHandle" ∧ yJ0_coder_7d493.cls ≠ "java/lang/invoke/VarHandle" ∧ (parseMethodDescriptor yJ0_coder_7d493.desc).map (fun d => d.parameters.length) = some 0 := by decide +kernel
theorem hdV_J0_isLatin1 : yJ0_isLatin1_aae02.cls = RJ0 ∧ yJ0_isLatin1_aae02.cls ≠ "java/lang/invoke/MethodHandle" ∧ yJ0_isLatin1_aae02.cls ≠ "java/lang/invoke/VarHandle" ∧ (parseMethodDescriptor yJ0_isLatin1_aae02.desc).map (fun d => d.parameters.length) = some 0 := by decide +kernel
/-- the sign at a place -/
def sCh (i : Nat) (k : Int32) : Int32 := (sByt.getD i []).getD k.toNatClampNeg 0
theorem sCh_ok : ∀ i, i < 8 → ∀ j, j < sLen.getD i 0 → (((sByt.getD i []).getD j 0 &&& 255).toUInt32 % 65536).toInt32 = (sByt.getD i []).getD j 0 ∧ narrow .char (.int ((sByt.getD i []).getD j 0)) = .int ((sByt.getD i []).getD j 0) := by decide +kernel
theorem sLen_lt : ∀ i, i < 8 → sLen.getD i 0 < 2 ^ 31 := by decide +kernel
abbrev rmJ3 : Room := { frames := 0, cells := 0, slots := 0, locals := 0 }
abbrev rmJ0c : Room := { frames := 1, cells := 0, slots := 0, locals := 22 }
abbrev rmJ1 : Room := { frames := 2, cells := 0, slots := 0, locals := 43 }
abbrev rmJ0 : Room := { frames := 3, cells := 0, slots := 0, locals := 64 }
abbrev rmJ0l : Room := { frames := 1, cells := 0, slots := 0, locals := 20 }
set_option maxHeartbeats 4000000 in
set_option maxRecDepth 100000 in
theorem m_J3_checkIndex (l : Launch) (z : KT) (i n : Int32) (v : Value) (hv : v = .null ∨ ∃ t, v = .ref t) (h0 : ¬ i < 0) (h1 : i < n) : CI l yJ3_checkIndex_8e157 cJ3_checkIndex_8e157 3 .int rmJ3 z [.int i, .int n, v] [] (fun _ : Unit => []) (fun r _ => r = i) := by
  have key : ∀ v : Value, (v = .null ∨ ∃ t, v = .ref t) → (lg_sl [.int i, .int n, v]).length ≤ 3 ∧ lv_pick (lv_args 0 [.int i, .int n, v]) [0, 1] = [(0, .int i), (1, .int n)] := by
    rintro v (rfl | ⟨t, rfl⟩)
    · exact ⟨Nat.le_of_ble_eq_true rfl, rfl⟩
    · exact ⟨Nat.le_of_ble_eq_true rfl, rfl⟩
  refine CI.of rfl (key v hv).1 ?_
  intro p e s m below meth c A ls M hw hl
  obtain ⟨hx, hb, -, -, hown, hts, -, -, -, hN, -, -⟩ := id M
  have hl : lv_has ls 3 [(0, .int i), (1, .int n)] := lv_sub hl [0, 1] (key v hv).2
  refine lv_iload_n hx hb dJ3_checkIndex_8e157_0 rfl (lv_at hl 0 rfl) ?_
  refine lv_if_lt (tgt := 9) hx hb dJ3_checkIndex_8e157_1 (by decide) (fun c9 => absurd c9 h0) (fun _ => ?_)
  refine lv_iload_n hx hb dJ3_checkIndex_8e157_4 rfl (lv_at hl 0 rfl) ?_
  refine lv_iload_n hx hb dJ3_checkIndex_8e157_5 rfl (lv_at hl 1 rfl) ?_
  refine lv_icmp_lt (tgt := 16) hx hb dJ3_checkIndex_8e157_6 (by decide) (fun _ => ?_) (fun c9 => absurd h1 c9)
  refine lv_iload_n hx hb dJ3_checkIndex_8e157_16 rfl (lv_at hl 0 rfl) ?_
  exact rt_i M () hw rfl dJ3_checkIndex_8e157_17
set_option maxHeartbeats 4000000 in
set_option maxRecDepth 100000 in
theorem m_J0_checkIndex (l : Launch) (z : KT) (i n : Int32) (h0 : ¬ i < 0) (h1 : i < n) : CV l yJ0_checkIndex_df160 cJ0_checkIndex_df160 2 rmJ0c z [.int i, .int n] [] (fun _ : Unit => []) (fun _ => True) := by
  refine CV.of rfl (Nat.le_of_ble_eq_true rfl) ?_
  intro p e s m below meth c A ls M hw hl
  obtain ⟨hx, hb, -, -, hown, hts, -, -, -, hN, -, hk⟩ := id M
  have hl : lv_has ls 2 [(0, .int i), (1, .int n)] := hl
  refine lv_iload_n hx hb dJ0_checkIndex_df160_0 rfl (lv_at hl 0 rfl) ?_
  refine lv_iload_n hx hb dJ0_checkIndex_df160_1 rfl (lv_at hl 1 rfl) ?_
  obtain ⟨v, hv, hZ⟩ : ∃ v : Value, (v = .null ∨ ∃ t, v = .ref t) ∧ va_Z "jdk/internal/util/Preconditions" "SIOOBE_FORMATTER" "Ljava/util/function/BiFunction;" v A s s.heap := by
    rcases hk.2.2 with h | ⟨t, h⟩
    · exact ⟨_, Or.inl rfl, h⟩
    · exact ⟨_, Or.inr ⟨t, rfl⟩, h⟩
  refine va_gets hx hb hZ hw.2.2 hown (hts _ fl_J0_1053) (fun _ h => h) dJ0_checkIndex_df160_2 ?_
  refine fr_Si (wN := fun _ : Unit => []) M (m_J3_checkIndex l z i n v hv h0 h1) (va_cwS 3 hts (gdS cd_J3_checkIndex_8e157 ml_J0_1059 st_J3_checkIndex_8e157 in_J3) rfl rfl rfl hdS_J3_checkIndex ⟨Nat.le_of_ble_eq_true rfl, Nat.le_of_ble_eq_true rfl⟩) (Cut.self _) (Prm.self _ 0 (fun _ => rfl)) hw rfl hl.1 rfl (Nat.le_of_ble_eq_true rfl) dJ0_checkIndex_df160_5 (fun r u H locs h hw => ?_)
  refine lv_pop hx hb dJ0_checkIndex_df160_8 rfl ?_
  exact rt_v M () hw trivial dJ0_checkIndex_df160_9
set_option maxHeartbeats 4000000 in
set_option maxRecDepth 100000 in
theorem m_J1_charAt (l : Launch) (z : KT) (i : Nat) (hi : i < 8) (k : Int32) (h0 : ¬ k < 0) (h1 : k < nI (sLen.getD i 0)) : CI l yJ1_charAt_3b067 cJ1_charAt_3b067 2 .char rmJ1 z [.ref (zV z i), .int k] [] (fun _ : Unit => []) (fun r _ => r = sCh i k) := by
  refine CI.of rfl (Nat.le_of_ble_eq_true rfl) ?_
  intro p e s m below meth c A ls M hw hl
  obtain ⟨hx, hb, -, -, hown, hts, -, -, -, hN, -, hk⟩ := id M
  have hl : lv_has ls 2 [(0, .ref (zV z i)), (1, .int k)] := hl
  have hT := (hk.1.1 i hi).2.2.2
  obtain ⟨j, hj, ej⟩ := nI_of h0
  have hjL : j < sLen.getD i 0 := by rw [ej] at h1; exact (nI_ltI hj (sLen_lt i hi)).mp h1
  refine lv_iload_n hx hb dJ1_charAt_3b067_0 rfl (lv_at hl 1 rfl) ?_
  refine lv_aload_n hx hb dJ1_charAt_3b067_1 rfl (lv_at hl 0 rfl) ?_
  refine va_tlen hx hb hT hw.2.2 (v := nI (sLen.getD i 0)) rfl dJ1_charAt_3b067_2 ?_
  refine fr_Sv (wN := fun _ : Unit => []) M (m_J0_checkIndex l z k (nI (sLen.getD i 0)) h0 h1) (va_cwS 2 hts (gdS cd_J0_checkIndex_df160 ml_J1_9 st_J0_checkIndex_df160 in_J0) rfl rfl rfl hdS_J0_checkIndex ⟨Nat.le_of_ble_eq_true rfl, Nat.le_of_ble_eq_true rfl⟩) (Cut.self _) (Prm.self _ 0 (fun _ => rfl)) hw rfl hl.1 rfl (Nat.le_of_ble_eq_true rfl) dJ1_charAt_3b067_3 (fun u H locs h hw => ?_)
  refine lv_aload_n hx hb dJ1_charAt_3b067_6 rfl (lv_at hl 0 rfl) ?_
  refine lv_iload_n hx hb dJ1_charAt_3b067_7 rfl (lv_at hl 1 rfl) ?_
  refine va_tb hx hb hT hw.2.2 (i := k) (by rw [ej]; exact vp_in_nI hjL (sLen_lt i hi)) (v := .int (sCh i k)) rfl dJ1_charAt_3b067_8 ?_
  refine lv_sipush (v := 255) hx hb dJ1_charAt_3b067_9 (by decide) ?_
  refine lv_iand hx hb dJ1_charAt_3b067_12 ?_
  have e1 : sCh i k = (sByt.getD i []).getD j 0 := by rw [sCh, ej, nI_clamp hj]
  refine lv_i2c (v := sCh i k) hx hb dJ1_charAt_3b067_13 (by rw [e1]; exact (sCh_ok i hi j hjL).1) ?_
  exact rt_n M () hw (by rw [e1]; exact (sCh_ok i hi j hjL).2) rfl dJ1_charAt_3b067_14
set_option maxHeartbeats 4000000 in
set_option maxRecDepth 100000 in
theorem m_J0_isLatin1 (l : Launch) (z : KT) (i : Nat) (hi : i < 8) : CI l yJ0_isLatin1_aae02 cJ0_isLatin1_aae02 1 .boolean rmJ3 z [.ref (zK z i)] [] (fun _ : Unit => []) (fun r _ => r = 1) := by
  refine CI.of rfl (Nat.le_of_ble_eq_true rfl) ?_
  intro p e s m below meth c A ls M hw hl
  obtain ⟨hx, hb, -, -, hown, hts, -, -, -, hN, -, hk⟩ := id M
  have hl : lv_has ls 1 [(0, .ref (zK z i))] := hl
  refine va_gets hx hb hk.2.1 hw.2.2 hown (hts _ fl_J0_38) (fun _ h => h) dJ0_isLatin1_aae02_0 ?_
  refine lv_if_eq (tgt := 17) hx hb dJ0_isLatin1_aae02_3 (by decide) (fun c9 => absurd c9 (by decide)) (fun _ => ?_)
  refine lv_aload_n hx hb dJ0_isLatin1_aae02_6 rfl (lv_at hl 0 rfl) ?_
  refine vk_getf hx hb (hk.1.1 i hi).2.1 hw.2.2 hown (hts _ fl_J0_15) (fun _ h => h) dJ0_isLatin1_aae02_7 ?_
  refine lv_if_ne (tgt := 17) hx hb dJ0_isLatin1_aae02_10 (by decide) (fun c9 => absurd rfl c9) (fun _ => ?_)
  refine lv_iconst (v := 1) hx hb dJ0_isLatin1_aae02_13 (by decide) ?_
  refine lv_goto (tgt := 18) hx hb dJ0_isLatin1_aae02_14 (by decide) ?_
  exact rt_z M () hw bz1 rfl dJ0_isLatin1_aae02_18
set_option maxHeartbeats 4000000 in
set_option maxRecDepth 100000 in
theorem m_J0_coder (l : Launch) (z : KT) (i : Nat) (hi : i < 8) : CI l yJ0_coder_7d493 cJ0_coder_7d493 1 .byte rmJ3 z [.ref (zK z i)] [] (fun _ : Unit => []) (fun r _ => r = 0) := by
  refine CI.of rfl (Nat.le_of_ble_eq_true rfl) ?_
  intro p e s m below meth c A ls M hw hl
  obtain ⟨hx, hb, -, -, hown, hts, -, -, -, hN, -, hk⟩ := id M
  have hl : lv_has ls 1 [(0, .ref (zK z i))] := hl
  refine va_gets hx hb hk.2.1 hw.2.2 hown (hts _ fl_J0_38) (fun _ h => h) dJ0_coder_7d493_0 ?_
  refine lv_if_eq (tgt := 13) hx hb dJ0_coder_7d493_3 (by decide) (fun c9 => absurd c9 (by decide)) (fun _ => ?_)
  refine lv_aload_n hx hb dJ0_coder_7d493_6 rfl (lv_at hl 0 rfl) ?_
  refine vk_getf hx hb (hk.1.1 i hi).2.1 hw.2.2 hown (hts _ fl_J0_15) (fun _ h => h) dJ0_coder_7d493_7 ?_
  refine lv_goto (tgt := 14) hx hb dJ0_coder_7d493_10 (by decide) ?_
  exact rt_n M () hw rfl rfl dJ0_coder_7d493_14
set_option maxHeartbeats 4000000 in
set_option maxRecDepth 100000 in
theorem m_J0_length (l : Launch) (z : KT) (i : Nat) (hi : i < 8) : CI l yJ0_length_8abf5 cJ0_length_8abf5 1 .int rmJ0l z [.ref (zK z i)] [] (fun _ : Unit => []) (fun r _ => r = nI (sLen.getD i 0)) := by
  refine CI.of rfl (Nat.le_of_ble_eq_true rfl) ?_
  intro p e s m below meth c A ls M hw hl
  obtain ⟨hx, hb, -, -, hown, hts, -, -, -, hN, -, hk⟩ := id M
  have hl : lv_has ls 1 [(0, .ref (zK z i))] := hl
  refine lv_aload_n hx hb dJ0_length_8abf5_0 rfl (lv_at hl 0 rfl) ?_
  refine vk_getf hx hb (hk.1.1 i hi).2.2.1 hw.2.2 hown (hts _ fl_J0_9) (fun _ h => h) dJ0_length_8abf5_1 ?_
  refine va_tlen hx hb (hk.1.1 i hi).2.2.2 hw.2.2 (v := nI (sLen.getD i 0)) rfl dJ0_length_8abf5_4 ?_
  refine lv_aload_n hx hb dJ0_length_8abf5_5 rfl (lv_at hl 0 rfl) ?_
  refine fr_Ti M hi (m_J0_coder l z i hi) (cwV 0 hts (gdV cd_J0_coder_7d493 ml_J0_335 im_J0_coder_7d493 se_J0_coder_7d493 in_J0) rfl rfl rfl hdV_J0_coder ⟨Nat.le_of_ble_eq_true rfl, Nat.le_of_ble_eq_true rfl⟩) hw rfl hl.1 rfl (Nat.le_of_ble_eq_true rfl) dJ0_length_8abf5_6 (fun r H locs h hw => ?_)
  subst h
  refine lv_ishr hx hb dJ0_length_8abf5_9 ?_
  exact rt_i M () hw (sb_shr0 _) dJ0_length_8abf5_10
set_option maxHeartbeats 4000000 in
set_option maxRecDepth 100000 in
theorem m_J0_isEmpty (l : Launch) (z : KT) (i : Nat) (hi : i < 8) : CI l yJ0_isEmpty_aae02 cJ0_isEmpty_aae02 1 .boolean rmJ3 z [.ref (zK z i)] [] (fun _ : Unit => []) (fun r _ => r = if nI (sLen.getD i 0) = 0 then 1 else 0) := by
  refine CI.of rfl (Nat.le_of_ble_eq_true rfl) ?_
  intro p e s m below meth c A ls M hw hl
  obtain ⟨hx, hb, -, -, hown, hts, -, -, -, hN, -, hk⟩ := id M
  have hl : lv_has ls 1 [(0, .ref (zK z i))] := hl
  refine lv_aload_n hx hb dJ0_isEmpty_aae02_0 rfl (lv_at hl 0 rfl) ?_
  refine vk_getf hx hb (hk.1.1 i hi).2.2.1 hw.2.2 hown (hts _ fl_J0_9) (fun _ h => h) dJ0_isEmpty_aae02_1 ?_
  refine va_tlen hx hb (hk.1.1 i hi).2.2.2 hw.2.2 (v := nI (sLen.getD i 0)) rfl dJ0_isEmpty_aae02_4 ?_
  refine lv_if_ne (tgt := 12) hx hb dJ0_isEmpty_aae02_5 (by decide) (fun c9 => ?_) (fun c9 => ?_)
  · refine lv_iconst (v := 0) hx hb dJ0_isEmpty_aae02_12 (by decide) ?_
    exact rt_z M () hw bz0 (by rw [if_neg c9]) dJ0_isEmpty_aae02_13
  · refine lv_iconst (v := 1) hx hb dJ0_isEmpty_aae02_8 (by decide) ?_
    refine lv_goto (tgt := 13) hx hb dJ0_isEmpty_aae02_9 (by decide) ?_
    exact rt_z M () hw bz1 (by rw [if_pos c9]) dJ0_isEmpty_aae02_13
set_option maxHeartbeats 4000000 in
set_option maxRecDepth 100000 in
theorem m_J0_charAt (l : Launch) (z : KT) (i : Nat) (hi : i < 8) (k : Int32) (h0 : ¬ k < 0) (h1 : k < nI (sLen.getD i 0)) : CI l yJ0_charAt_5068e cJ0_charAt_5068e 2 .char rmJ0 z [.ref (zK z i), .int k] [] (fun _ : Unit => []) (fun r _ => r = sCh i k) := by
  refine CI.of rfl (Nat.le_of_ble_eq_true rfl) ?_
  intro p e s m below meth c A ls M hw hl
  obtain ⟨hx, hb, -, -, hown, hts, -, -, -, hN, -, hk⟩ := id M
  have hl : lv_has ls 2 [(0, .ref (zK z i)), (1, .int k)] := hl
  obtain ⟨j, hj, ej⟩ := nI_of h0
  have hjL : j < sLen.getD i 0 := by rw [ej] at h1; exact (nI_ltI hj (sLen_lt i hi)).mp h1
  have e1 : sCh i k = (sByt.getD i []).getD j 0 := by rw [sCh, ej, nI_clamp hj]
  refine lv_aload_n hx hb dJ0_charAt_5068e_0 rfl (lv_at hl 0 rfl) ?_
  refine fr_Ti M hi (m_J0_isLatin1 l z i hi) (cwV 0 hts (gdV cd_J0_isLatin1_aae02 ml_J0_492 im_J0_isLatin1_aae02 se_J0_isLatin1_aae02 in_J0) rfl rfl rfl hdV_J0_isLatin1 ⟨Nat.le_of_ble_eq_true rfl, Nat.le_of_ble_eq_true rfl⟩) hw rfl hl.1 rfl (Nat.le_of_ble_eq_true rfl) dJ0_charAt_5068e_1 (fun r H locs h hw => ?_)
  subst h
  refine lv_if_eq (tgt := 16) hx hb dJ0_charAt_5068e_4 (by decide) (fun c9 => absurd c9 (by decide)) (fun _ => ?_)
  refine lv_aload_n hx hb dJ0_charAt_5068e_7 rfl (lv_at hl 0 rfl) ?_
  refine vk_getf hx hb (hk.1.1 i hi).2.2.1 hw.2.2 hown (hts _ fl_J0_9) (fun _ h => h) dJ0_charAt_5068e_8 ?_
  refine lv_iload_n hx hb dJ0_charAt_5068e_11 rfl (lv_at hl 1 rfl) ?_
  refine fr_Si (wN := fun _ : Unit => []) M (m_J1_charAt l z i hi k h0 h1) (va_cwS 2 hts (gdS cd_J1_charAt_3b067 ml_J0_495 st_J1_charAt_3b067 in_J1) rfl rfl rfl hdS_J1_charAt ⟨Nat.le_of_ble_eq_true rfl, Nat.le_of_ble_eq_true rfl⟩) (Cut.self _) (Prm.self _ 0 (fun _ => rfl)) hw rfl hl.1 rfl (Nat.le_of_ble_eq_true rfl) dJ0_charAt_5068e_12 (fun r u H locs h hw => ?_)
  subst h
  exact rt_n M () hw (by rw [e1]; exact (sCh_ok i hi j hjL).2) rfl dJ0_charAt_5068e_15
