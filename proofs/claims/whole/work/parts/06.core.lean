/-! ===== CORE: the words in which every method of this claim is said ===== -/
abbrev RT : Type := Nat → Nat → Int32
abbrev KT : Type := (Nat → ClassId) × (Nat → Nat → Nat) × ClassId × (Nat → Nat) × (Nat → Nat)
def zG (z : KT) : va_G := (z.1, z.2.1)
def zI (z : KT) : ClassId := z.2.2.1
def zK (z : KT) : Nat → Nat := z.2.2.2.1
def zV (z : KT) : Nat → Nat := z.2.2.2.2
theorem iT {c : Prop} {i : Decidable c} {A B : Prop} (hc : c) (h : @ite Prop c i A B) : A := by rw [if_pos hc] at h; exact h
theorem iF {c : Prop} {i : Decidable c} {A B : Prop} (hc : ¬ c) (h : @ite Prop c i A B) : B := by rw [if_neg hc] at h; exact h
def bz (v : Int32) : Prop := v = 0 ∨ v = 1
theorem bz0 : bz 0 := Or.inl rfl
theorem bz1 : bz 1 := Or.inr rfl
theorem bz_narrow {v : Int32} (h : bz v) : narrow .boolean (.int v) = .int v := by rcases h with rfl | rfl <;> rfl
theorem bz_fits {v : Int32} (h : bz v) : fits .boolean (.int v) = true := by rcases h with rfl | rfl <;> rfl
/-- the texts of the class -/
def sLen : List Nat := [6, 4, 3, 4, 5, 4, 0, 6]
def sByt : List (List Int32) := [[116, 107, 48, 48, 48, 59], [114, 48, 48, 59], [99, 48, 59], [115, 48, 48, 59], [117, 48, 48, 48, 59], [104, 48, 48, 59], [], [116, 112, 98, 115, 102, 105]]
def sR (ka : Nat → Nat) (U : State) : Prop := vk_R RX0 54 "tk000;" (ka 0) U ∧ vk_R RX0 56 "r00;" (ka 1) U ∧ vk_R RX0 58 "c0;" (ka 2) U ∧ vk_R RX0 60 "s00;" (ka 3) U ∧ vk_R RX0 62 "u000;" (ka 4) U ∧ vk_R RX0 64 "h00;" (ka 5) U ∧ vk_R RX0 66 "" (ka 6) U ∧ vk_R RX0 72 "tpbsfi" (ka 7) U
theorem sR.same {ka : Nat → Nat} {u U : State} (hv : U.vm = u.vm) (h : sR ka u) : sR ka U :=
  ⟨h.1.same hv, h.2.1.same hv, h.2.2.1.same hv, h.2.2.2.1.same hv, h.2.2.2.2.1.same hv, h.2.2.2.2.2.1.same hv, h.2.2.2.2.2.2.1.same hv, h.2.2.2.2.2.2.2.same hv⟩
theorem sR.warm {ka : Nat → Nat} {s U : State} (hW : s.WarmedH U.vm) (h : sR ka s) : sR ka U :=
  ⟨h.1.warm hW, h.2.1.warm hW, h.2.2.1.warm hW, h.2.2.2.1.warm hW, h.2.2.2.2.1.warm hW, h.2.2.2.2.2.1.warm hW, h.2.2.2.2.2.2.1.warm hW, h.2.2.2.2.2.2.2.warm hW⟩
/-- links to a nest mate's private methods -/
def nN (U : State) : Prop := va_Nw (.methodLinkNest RX1 97 yX6_hasBit RX6) U ∧ va_Nw (.methodLinkNest RX1 111 yX6_power RX6) U ∧ va_Nw (.methodLinkNest RX2 56 yX6_hasBit RX6) U ∧ va_Nw (.methodLinkNest RX4 39 yX6_hasBit RX6) U ∧ va_Nw (.methodLinkNest RX6 9 yX3_init RX6) U ∧ va_Nw (.methodLinkNest RX6 25 yX5_init RX6) U ∧ va_Nw (.methodLinkNest RX6 32 yX0_init RX6) U ∧ va_Nw (.methodLinkNest RX6 39 yX1_init RX6) U ∧ va_Nw (.methodLinkNest RX1 11 yX3_init RX6) U
theorem nN.same {u U : State} (hv : U.vm = u.vm) (h : nN u) : nN U := ⟨(h.1).same rfl hv.symm, (h.2.1).same rfl hv.symm, (h.2.2.1).same rfl hv.symm, (h.2.2.2.1).same rfl hv.symm, (h.2.2.2.2.1).same rfl hv.symm, (h.2.2.2.2.2.1).same rfl hv.symm, (h.2.2.2.2.2.2.1).same rfl hv.symm, (h.2.2.2.2.2.2.2.1).same rfl hv.symm, (h.2.2.2.2.2.2.2.2).same rfl hv.symm⟩
theorem nN.warm {s U : State} (hW : s.WarmedH U.vm) (h : nN s) : nN U := ⟨(h.1).warmM hW, (h.2.1).warmM hW, (h.2.2.1).warmM hW, (h.2.2.2.1).warmM hW, (h.2.2.2.2.1).warmM hW, (h.2.2.2.2.2.1).warmM hW, (h.2.2.2.2.2.2.1).warmM hW, (h.2.2.2.2.2.2.2.1).warmM hW, (h.2.2.2.2.2.2.2.2).warmM hW⟩
def sK (z : KT) (A : Nat → Prop) (U : State) (H : Heap) : Prop := vk_S 8 sLen sByt (zK z) (zV z) A U H ∧ va_Z "java/lang/String" "COMPACT_STRINGS" "Z" (.int 1) A U H ∧ va_Zq "jdk/internal/util/Preconditions" "SIOOBE_FORMATTER" "Ljava/util/function/BiFunction;" A U H
theorem sK.moved {z : KT} {A : Nat → Prop} {u U : State} {H : Heap} (hvm : u.vm.Alike U.vm) (h : sK z A u H) : sK z A U H := ⟨h.1.moved hvm, h.2.1.moved hvm, h.2.2.moved hvm⟩
theorem sK.kept {z : KT} {A : Nat → Prop} {U : State} {H H1 : Heap} (h : sK z A U H) (hq : ∀ a : Nat, a < H.size → ¬ A a → H1[a]? = H[a]?) : sK z A U H1 := ⟨h.1.kept hq, h.2.1.kept hq, h.2.2.kept hq⟩
theorem sK.narrow {z : KT} {A B : Nat → Prop} {U : State} {H : Heap} (h : sK z A U H) (hAB : ∀ q, B q → A q) : sK z B U H := ⟨h.1.narrow hAB, h.2.1.narrow hAB, h.2.2.narrow hAB⟩
/-- what a method finds at its entry besides its arguments: its cells wc, the tables, the texts -/
def cPre (z : KT) (wc : va_W) (sz : Nat) (U : State) : Prop := U.heap.size = sz ∧ va_P (zG z) vwCl wc U.heap ∧ va_K (zG z) vwCl [(zI z, .int)] U ∧ va_D (fun _ => True) wc ∧ nN U ∧ sR (zK z) U ∧ sK z (va_A wc sz) U U.heap
/-- what it leaves: its cells -/
def cAt (z : KT) (A : Nat → Prop) (w : va_W) (t : State) : Prop := va_P (zG z) vwCl w t.heap ∧ va_D A w
theorem cPre.calling {z : KT} {wc : va_W} {sz : Nat} {av : List Value} : FrameBlind (va_Pc av (cPre z wc sz)) := by
  intro a U g mk h
  obtain ⟨h0, h1, h2, h3, h4, h5, h6, h7⟩ := h
  exact ⟨h0, h1, h2, va_K.moved (u := U) (U := U.calling g mk a) (Vm.Alike.refl U.vm) h3, h4, nN.same (u := U) (U := U.calling g mk a) rfl h5, sR.same (u := U) (U := U.calling g mk a) rfl h6, sK.moved (u := U) (U := U.calling g mk a) (Vm.Alike.refl U.vm) h7⟩
/-- contracts by what is answered: an int, a long, nothing, a reference -/
def CI {S : Type} (l : Launch) (y : MethodName) (bc : ByteArray) (nL : Nat) (rt : FieldType) (rm : Room) (z : KT) (av : List Value) (wc : va_W) (wB : S → va_W) (post : Int32 → S → Prop) : Prop :=
  ∀ sz : Nat, Met l y (.code y bc nL (some rt) :: wsL_law) rm (va_Pc av (cPre z wc sz)) (va_Qi post (fun u t => cAt z (va_A wc sz) (wB u) t) (va_A wc sz)) 0 0 (va_A wc sz)
def CL {S : Type} (l : Launch) (y : MethodName) (bc : ByteArray) (nL : Nat) (rt : FieldType) (rm : Room) (z : KT) (av : List Value) (wc : va_W) (wB : S → va_W) (post : Int64 → S → Prop) : Prop :=
  ∀ sz : Nat, Met l y (.code y bc nL (some rt) :: wsL_law) rm (va_Pc av (cPre z wc sz)) (va_Ql post (fun u t => cAt z (va_A wc sz) (wB u) t) (va_A wc sz)) 0 0 (va_A wc sz)
def CV {S : Type} (l : Launch) (y : MethodName) (bc : ByteArray) (nL : Nat) (rm : Room) (z : KT) (av : List Value) (wc : va_W) (wB : S → va_W) (post : S → Prop) : Prop :=
  ∀ sz : Nat, Met l y (.code y bc nL none :: wsL_law) rm (va_Pc av (cPre z wc sz)) (va_Qv post (fun u t => cAt z (va_A wc sz) (wB u) t) (va_A wc sz)) 0 0 (va_A wc sz)
def CR {S : Type} (l : Launch) (y : MethodName) (bc : ByteArray) (nL : Nat) (rt : FieldType) (rm : Room) (z : KT) (av : List Value) (wc : va_W) (wB : S → va_W) (post : Nat → S → Prop) : Prop :=
  ∀ sz : Nat, Met l y (.code y bc nL (some rt) :: wsL_law) rm (va_Pc av (cPre z wc sz)) (va_Qr (fun _ : S => True) (fun u a t => post a u ∧ cAt z (va_A wc sz) (wB u) t) (va_A wc sz)) 0 0 (va_A wc sz)
/-- what stays as it is while a method goes on -/
def Mc (p : Program) (s : State) (m : MethodId) (args : Array Value) (meth : Method) (c : Code) (cc : ByteArray) (nL : Nat) (ret : Option FieldType) (own : String) (z : KT) (A : Nat → Prop) : Prop :=
  p.tables.exec = Jvm.exec ∧ c.code = cc ∧ meth.sig.returnType = ret ∧ c.maxLocals = nL ∧ s.vm.findClass own = some m.cls ∧ (∀ w ∈ wsL_law, w.before args s = true) ∧ meth.locks = false ∧ va_K (zG z) vwCl [(zI z, .int)] s ∧ (∀ q, s.heap.size ≤ q → A q) ∧ nN s ∧ sR (zK z) s ∧ sK z A s s.heap
/-- the cells now -/
def Hw (s : State) (z : KT) (A : Nat → Prop) (ws : va_W) (H : Heap) (locs : List Loc) : Prop := va_P (zG z) vwCl ws H ∧ va_D A ws ∧ va_S A s.heap H locs
def Cut (ws wc wr : va_W) : Prop := ∃ isC isR : List Nat, isC.map (fun i => ws[i]?) = wc.map some ∧ isR.map (fun i => ws[i]?) = wr.map some ∧ va_nd isC = true ∧ va_nd isR = true ∧ ∀ i ∈ isR, i ∉ isC
def Prm {S : Type} (wr : va_W) (wB wN : S → va_W) : Prop := ∃ pm : List Nat, va_nd pm = true ∧ ∀ u, pm.map (fun i => (wr ++ wB u)[i]?) = (wN u).map some
theorem fm_map {α β : Type} (f : α → Option β) : ∀ (l : List α) (r : List β), l.map f = r.map some → l.filterMap f = r
  | [], [], _ => rfl
  | [], _ :: _, h => by simp at h
  | _ :: _, [], h => by simp at h
  | a :: l, b :: r, h => by
    simp only [List.map_cons, List.cons.injEq] at h
    rw [List.filterMap_cons, h.1, fm_map f l r h.2]
theorem va_nd_range (n : Nat) : ∀ k, va_nd (List.range' k n) = true := by
  induction n with
  | zero => intro k; rfl
  | succ n ih =>
    intro k
    rw [List.range'_succ, va_nd]
    simp [ih (k + 1), List.mem_range'_1]
theorem range_get {α : Type} (ws : List α) : (List.range' 0 ws.length).map (fun i => ws[i]?) = ws.map some := by
  apply List.ext_getElem?
  intro i
  by_cases h : i < ws.length
  · simp [h]
  · simp [h]
theorem Cut.self (ws : va_W) : Cut ws ws [] := ⟨List.range' 0 ws.length, [], range_get ws, rfl, va_nd_range _ 0, rfl, fun i h => by simp at h⟩
theorem Prm.self {S : Type} (wB : S → va_W) (n : Nat) (h : ∀ u, (wB u).length = n) : Prm [] wB wB := ⟨List.range' 0 n, va_nd_range _ 0, fun u => by rw [← h u]; exact range_get (wB u)⟩
theorem tb_all : wsL_law.all goodWord = true := by decide +kernel
theorem tb_good {w : Cond} (h : w ∈ wsL_law) : (w.onTables && w.keeps) = true ∨ ∃ ty, w = .arrayClass ty := good_of_word (List.all_eq_true.mp tb_all w h)
theorem gdN {c0 c1 : Cond} (h0 : c1 ∈ wsL_law) : GoodIn (c0 :: wsL_law) (c1 :: wsL_law) := by
  intro w hw
  rcases List.mem_cons.mp hw with rfl | hw
  · exact ⟨List.mem_cons_of_mem _ h0, tb_good h0⟩
  · exact ⟨List.mem_cons_of_mem _ hw, tb_good hw⟩
theorem gdNL {c1 : Cond} (h0 : c1 ∈ wsL_law) : GoodIn wsL_law (c1 :: wsL_law) := by
  intro w hw
  rcases List.mem_cons.mp hw with rfl | hw
  · exact ⟨h0, tb_good h0⟩
  · exact ⟨hw, tb_good hw⟩
theorem gdV {own C : String} {idx : Nat} {y : MethodName} {c1 : Cond} (h0 : c1 ∈ wsL_law) (h1 : Cond.methodLink own idx y ∈ wsL_law) (h2 : Cond.instanceMethod y ∈ wsL_law) (h3 : Cond.selects C y y ∈ wsL_law) (h4 : Cond.initialized C ∈ wsL_law) : GoodIn wsL_law (wsV own idx C y (c1 :: wsL_law)) := by
  intro w hw
  rcases List.mem_append.mp hw with hw | hw
  · simp only [List.mem_cons, List.not_mem_nil, or_false] at hw
    rcases hw with rfl | rfl | rfl | rfl
    · exact ⟨h1, tb_good h1⟩
    · exact ⟨h2, tb_good h2⟩
    · exact ⟨h3, tb_good h3⟩
    · exact ⟨h4, tb_good h4⟩
  · exact gdNL h0 w hw
theorem gdS {own : String} {idx : Nat} {y : MethodName} {c1 : Cond} (h0 : c1 ∈ wsL_law) (h1 : Cond.methodLink own idx y ∈ wsL_law) (h2 : Cond.static y ∈ wsL_law) (h4 : Cond.initialized y.cls ∈ wsL_law) : GoodIn wsL_law (va_wsS own idx y (c1 :: wsL_law)) := by
  intro w hw
  rcases List.mem_append.mp hw with hw | hw
  · simp only [List.mem_cons, List.not_mem_nil, or_false] at hw
    rcases hw with rfl | rfl | rfl
    · exact ⟨h1, tb_good h1⟩
    · exact ⟨h2, tb_good h2⟩
    · exact ⟨h4, tb_good h4⟩
  · exact gdNL h0 w hw
section FR
variable {p : Program} {l : Launch} {e : Env} {R : Room} {s : State} {m : MethodId} {args : Array Value} {below : List Frame} {meth : Method} {c : Code} {H : Heap} {locs : List Loc} {Q : State → Prop} {cc : ByteArray} {nL : Nat} {ret : Option FieldType} {own : String} {z : KT} {A : Nat → Prop} {pc : Nat} {ls : Array Slot} {st0 rest As : List Value} {ws wc wr : va_W} {y : MethodName} {bc : ByteArray} {nY : Nat} {rt : FieldType} {rm : Room} {C : String} {index n b : Nat}
/-- before a call: the callee's cells are cut out -/
theorem fr_pre (M : Mc p s m args meth c cc nL ret own z A) (hw : Hw s z A ws H locs) (hcut : Cut ws wc wr) : va_P (zG z) vwCl wc H ∧ (∀ q, va_A wc H.size q → A q) ∧ ∀ U : State, U.heap = H → s.WarmedH U.vm → cPre z wc H.size U := by
  obtain ⟨isC, isR, hC, hR, hnC, hnR, hdis⟩ := hcut
  obtain ⟨hx, hb, hr, hml, hown, hts, hlk, hK, hA, hN, hs, hk⟩ := M
  obtain ⟨hP, hD, hS⟩ := hw
  have hPc : va_P (zG z) vwCl wc H := hP.sub isC (fm_map _ _ _ hC)
  have hDc := hD.sub isC hnC hC
  have hF := va_free hD hS hA isC hC
  refine ⟨hPc, hF, fun U hU hW => ⟨by rw [hU], by rw [hU]; exact hPc, va_K.moved hW.alike hK, hDc.weaken (fun _ _ _ _ => trivial), hN.warm hW, hs.warm hW, ?_⟩⟩
  rw [hU]
  exact sK.moved hW.alike ((hk.kept (fun a h1 h2 => hS.2.1 a h1 h2)).narrow hF)
/-- behind a call: the cells are put together again -/
theorem fr_post {S : Type} {wB wN : S → va_W} {u : S} (hw : Hw s z A ws H locs) (hcut : Cut ws wc wr) (hprm : Prm wr wB wN) (hF : ∀ q, va_A wc H.size q → A q) {t : State} {H1 : Heap} {locs1 : List Loc} (ht : t.heap = H1) (hB : cAt z (va_A wc H.size) (wB u) t) (hk : ∀ q : Nat, q < H.size → ¬ va_A wc H.size q → H1[q]? = H[q]?) (hS : va_S A s.heap H1 locs1) : Hw s z A (wN u) H1 locs1 := by
  obtain ⟨isC, isR, hC, hR, hnC, hnR, hdis⟩ := hcut
  obtain ⟨pm, hnp, hpm⟩ := hprm
  obtain ⟨hP1, hD1⟩ := hB
  rw [ht] at hP1
  obtain ⟨hP, hD⟩ := va_join hw.1 hw.2.1 isC isR hC hR hnR hdis hk hF hP1 hD1
  exact ⟨hP.sub pm (fm_map _ _ _ (hpm u)), hD.sub pm hnp (hpm u), hS⟩
theorem fr_Vi {S : Type} {wB wN : S → va_W} {post : Int32 → S → Prop} (M : Mc p s m args meth c cc nL ret own z A) (hM : CI l y bc nY rt rm z (.ref b :: As) wc wB post) (cw : CallW R s args own C index y bc nY (some rt) (.code y bc nY (some rt) :: wsL_law) rm 0 0 n) (hcut : Cut ws wc wr) (hprm : Prm wr wB wN)
    (q0 : Nat) {ci : Nat} {fs : List Value} {q : vw_C} (he : wc[q0]? = some (b, .inr (ci, fs))) (hc : vwCl[ci]? = some q) (hC : q.1 = C) (hw : Hw s z A ws H locs) (hn : As.length = n) (hsz : ls.size = nL) (hst : st0 = As.reverse ++ .ref b :: rest) (hW : (rest.map fun v => v.category).sum ≤ 8) (hdg : decode cc pc = .ok (.invokevirtual index, 3))
    (kk : ∀ (r : Int32) (u : S) (H1 : Heap) (locs1 : List Loc), post r u → Hw s z A (wN u) H1 locs1 → W p l e R s m args below meth c H1 locs1 0 0 Q (F0 m (pc + 3) ls (.int r :: rest))) : W p l e R s m args below meth c H locs 0 0 Q (F0 m pc ls st0) := by
  obtain ⟨hP, hF, hU⟩ := fr_pre M hw hcut
  subst hC
  refine va_calli (va_runV (As := As) (rest := rest) ⟨M.1, M.2.1, M.2.2.2.1, M.2.2.2.2.1, M.2.2.2.2.2.1⟩ (hM H.size) cw ⟨cPre.calling, va_recv M.2.2.2.2.2.2.2.1 hP hc he, fun U h1 h2 => ⟨rfl, hU U h1 h2⟩⟩ rfl hn hsz hst (lv_room hW) hdg ⟨Nat.zero_le _, Nat.zero_le _⟩) hw.2.2 (fun q _ h => hF q h) hF (fun r u t H1 locs1 ht hvm hp hB _ hk hS => ?_)
  exact kk r u H1 locs1 hp (fr_post hw hcut hprm hF ht hB hk hS)
theorem fr_Vl {S : Type} {wB wN : S → va_W} {post : Int64 → S → Prop} (M : Mc p s m args meth c cc nL ret own z A) (hM : CL l y bc nY rt rm z (.ref b :: As) wc wB post) (cw : CallW R s args own C index y bc nY (some rt) (.code y bc nY (some rt) :: wsL_law) rm 0 0 n) (hcut : Cut ws wc wr) (hprm : Prm wr wB wN)
    (q0 : Nat) {ci : Nat} {fs : List Value} {q : vw_C} (he : wc[q0]? = some (b, .inr (ci, fs))) (hc : vwCl[ci]? = some q) (hC : q.1 = C) (hw : Hw s z A ws H locs) (hn : As.length = n) (hsz : ls.size = nL) (hst : st0 = As.reverse ++ .ref b :: rest) (hW : (rest.map fun v => v.category).sum ≤ 8) (hdg : decode cc pc = .ok (.invokevirtual index, 3))
    (kk : ∀ (r : Int64) (u : S) (H1 : Heap) (locs1 : List Loc), post r u → Hw s z A (wN u) H1 locs1 → W p l e R s m args below meth c H1 locs1 0 0 Q (F0 m (pc + 3) ls (.long r :: rest))) : W p l e R s m args below meth c H locs 0 0 Q (F0 m pc ls st0) := by
  obtain ⟨hP, hF, hU⟩ := fr_pre M hw hcut
  subst hC
  refine va_calll (va_runV (As := As) (rest := rest) ⟨M.1, M.2.1, M.2.2.2.1, M.2.2.2.2.1, M.2.2.2.2.2.1⟩ (hM H.size) cw ⟨cPre.calling, va_recv M.2.2.2.2.2.2.2.1 hP hc he, fun U h1 h2 => ⟨rfl, hU U h1 h2⟩⟩ rfl hn hsz hst (lv_room hW) hdg ⟨Nat.zero_le _, Nat.zero_le _⟩) hw.2.2 (fun q _ h => hF q h) hF (fun r u t H1 locs1 ht hvm hp hB _ hk hS => ?_)
  exact kk r u H1 locs1 hp (fr_post hw hcut hprm hF ht hB hk hS)
theorem fr_Vv {S : Type} {wB wN : S → va_W} {post : S → Prop} (M : Mc p s m args meth c cc nL ret own z A) (hM : CV l y bc nY rm z (.ref b :: As) wc wB post) (cw : CallW R s args own C index y bc nY none (.code y bc nY none :: wsL_law) rm 0 0 n) (hcut : Cut ws wc wr) (hprm : Prm wr wB wN)
    (q0 : Nat) {ci : Nat} {fs : List Value} {q : vw_C} (he : wc[q0]? = some (b, .inr (ci, fs))) (hc : vwCl[ci]? = some q) (hC : q.1 = C) (hw : Hw s z A ws H locs) (hn : As.length = n) (hsz : ls.size = nL) (hst : st0 = As.reverse ++ .ref b :: rest) (hW : (rest.map fun v => v.category).sum ≤ 8) (hdg : decode cc pc = .ok (.invokevirtual index, 3))
    (kk : ∀ (u : S) (H1 : Heap) (locs1 : List Loc), post u → Hw s z A (wN u) H1 locs1 → W p l e R s m args below meth c H1 locs1 0 0 Q (F0 m (pc + 3) ls rest)) : W p l e R s m args below meth c H locs 0 0 Q (F0 m pc ls st0) := by
  obtain ⟨hP, hF, hU⟩ := fr_pre M hw hcut
  subst hC
  refine va_callv (va_runV (As := As) (rest := rest) ⟨M.1, M.2.1, M.2.2.2.1, M.2.2.2.2.1, M.2.2.2.2.2.1⟩ (hM H.size) cw ⟨cPre.calling, va_recv M.2.2.2.2.2.2.2.1 hP hc he, fun U h1 h2 => ⟨rfl, hU U h1 h2⟩⟩ rfl hn hsz hst (lv_room hW) hdg ⟨Nat.zero_le _, Nat.zero_le _⟩) hw.2.2 (fun q _ h => hF q h) hF (fun u t H1 locs1 ht hvm hp hB _ hk hS => ?_)
  exact kk u H1 locs1 hp (fr_post hw hcut hprm hF ht hB hk hS)
theorem fr_Vr {S : Type} {wB wN : S → va_W} {post : Nat → S → Prop} (M : Mc p s m args meth c cc nL ret own z A) (hM : CR l y bc nY rt rm z (.ref b :: As) wc wB post) (cw : CallW R s args own C index y bc nY (some rt) (.code y bc nY (some rt) :: wsL_law) rm 0 0 n) (hcut : Cut ws wc wr) (hprm : Prm wr wB wN)
    (q0 : Nat) {ci : Nat} {fs : List Value} {q : vw_C} (he : wc[q0]? = some (b, .inr (ci, fs))) (hc : vwCl[ci]? = some q) (hC : q.1 = C) (hw : Hw s z A ws H locs) (hn : As.length = n) (hsz : ls.size = nL) (hst : st0 = As.reverse ++ .ref b :: rest) (hW : (rest.map fun v => v.category).sum ≤ 8) (hdg : decode cc pc = .ok (.invokevirtual index, 3))
    (kk : ∀ (r : Nat) (u : S) (H1 : Heap) (locs1 : List Loc), post r u → Hw s z A (wN u) H1 locs1 → W p l e R s m args below meth c H1 locs1 0 0 Q (F0 m (pc + 3) ls (.ref r :: rest))) : W p l e R s m args below meth c H locs 0 0 Q (F0 m pc ls st0) := by
  obtain ⟨hP, hF, hU⟩ := fr_pre M hw hcut
  subst hC
  refine va_callr (va_runV (As := As) (rest := rest) ⟨M.1, M.2.1, M.2.2.2.1, M.2.2.2.2.1, M.2.2.2.2.2.1⟩ (hM H.size) cw ⟨cPre.calling, va_recv M.2.2.2.2.2.2.2.1 hP hc he, fun U h1 h2 => ⟨rfl, hU U h1 h2⟩⟩ rfl hn hsz hst (lv_room hW) hdg ⟨Nat.zero_le _, Nat.zero_le _⟩) hw.2.2 (fun q _ h => hF q h) hF (fun u r t H1 locs1 ht hvm hp hB _ hk hS => ?_)
  exact kk r u H1 locs1 hB.1 (fr_post hw hcut hprm hF ht hB.2 hk hS)
theorem fr_Si {S : Type} {wB wN : S → va_W} {post : Int32 → S → Prop} (M : Mc p s m args meth c cc nL ret own z A) (hM : CI l y bc nY rt rm z As wc wB post) (cw : CallB R s args own index y bc nY (some rt) (.code y bc nY (some rt) :: wsL_law) rm 0 0 n ∧ (Cond.static y).before args s = true) (hcut : Cut ws wc wr) (hprm : Prm wr wB wN)
    (hw : Hw s z A ws H locs) (hn : As.length = n) (hsz : ls.size = nL) (hst : st0 = As.reverse ++ rest) (hW : (rest.map fun v => v.category).sum ≤ 8) (hdg : decode cc pc = .ok (.invokestatic index, 3))
    (kk : ∀ (r : Int32) (u : S) (H1 : Heap) (locs1 : List Loc), post r u → Hw s z A (wN u) H1 locs1 → W p l e R s m args below meth c H1 locs1 0 0 Q (F0 m (pc + 3) ls (.int r :: rest))) : W p l e R s m args below meth c H locs 0 0 Q (F0 m pc ls st0) := by
  obtain ⟨hP, hF, hU⟩ := fr_pre M hw hcut
  refine va_calli (va_runS (As := As) (rest := rest) ⟨M.1, M.2.1, M.2.2.2.1, M.2.2.2.2.1, M.2.2.2.2.2.1⟩ (hM H.size) cw ⟨cPre.calling, fun U h1 h2 => ⟨rfl, hU U h1 h2⟩⟩ rfl hn hsz hst (lv_room hW) hdg ⟨Nat.zero_le _, Nat.zero_le _⟩) hw.2.2 (fun q _ h => hF q h) hF (fun r u t H1 locs1 ht hvm hp hB _ hk hS => ?_)
  exact kk r u H1 locs1 hp (fr_post hw hcut hprm hF ht hB hk hS)
theorem fr_Sl {S : Type} {wB wN : S → va_W} {post : Int64 → S → Prop} (M : Mc p s m args meth c cc nL ret own z A) (hM : CL l y bc nY rt rm z As wc wB post) (cw : CallB R s args own index y bc nY (some rt) (.code y bc nY (some rt) :: wsL_law) rm 0 0 n ∧ (Cond.static y).before args s = true) (hcut : Cut ws wc wr) (hprm : Prm wr wB wN)
    (hw : Hw s z A ws H locs) (hn : As.length = n) (hsz : ls.size = nL) (hst : st0 = As.reverse ++ rest) (hW : (rest.map fun v => v.category).sum ≤ 8) (hdg : decode cc pc = .ok (.invokestatic index, 3))
    (kk : ∀ (r : Int64) (u : S) (H1 : Heap) (locs1 : List Loc), post r u → Hw s z A (wN u) H1 locs1 → W p l e R s m args below meth c H1 locs1 0 0 Q (F0 m (pc + 3) ls (.long r :: rest))) : W p l e R s m args below meth c H locs 0 0 Q (F0 m pc ls st0) := by
  obtain ⟨hP, hF, hU⟩ := fr_pre M hw hcut
  refine va_calll (va_runS (As := As) (rest := rest) ⟨M.1, M.2.1, M.2.2.2.1, M.2.2.2.2.1, M.2.2.2.2.2.1⟩ (hM H.size) cw ⟨cPre.calling, fun U h1 h2 => ⟨rfl, hU U h1 h2⟩⟩ rfl hn hsz hst (lv_room hW) hdg ⟨Nat.zero_le _, Nat.zero_le _⟩) hw.2.2 (fun q _ h => hF q h) hF (fun r u t H1 locs1 ht hvm hp hB _ hk hS => ?_)
  exact kk r u H1 locs1 hp (fr_post hw hcut hprm hF ht hB hk hS)
theorem fr_Sr {S : Type} {wB wN : S → va_W} {post : Nat → S → Prop} (M : Mc p s m args meth c cc nL ret own z A) (hM : CR l y bc nY rt rm z As wc wB post) (cw : CallB R s args own index y bc nY (some rt) (.code y bc nY (some rt) :: wsL_law) rm 0 0 n ∧ (Cond.static y).before args s = true) (hcut : Cut ws wc wr) (hprm : Prm wr wB wN)
    (hw : Hw s z A ws H locs) (hn : As.length = n) (hsz : ls.size = nL) (hst : st0 = As.reverse ++ rest) (hW : (rest.map fun v => v.category).sum ≤ 8) (hdg : decode cc pc = .ok (.invokestatic index, 3))
    (kk : ∀ (r : Nat) (u : S) (H1 : Heap) (locs1 : List Loc), post r u → Hw s z A (wN u) H1 locs1 → W p l e R s m args below meth c H1 locs1 0 0 Q (F0 m (pc + 3) ls (.ref r :: rest))) : W p l e R s m args below meth c H locs 0 0 Q (F0 m pc ls st0) := by
  obtain ⟨hP, hF, hU⟩ := fr_pre M hw hcut
  refine va_callr (va_runS (As := As) (rest := rest) ⟨M.1, M.2.1, M.2.2.2.1, M.2.2.2.2.1, M.2.2.2.2.2.1⟩ (hM H.size) cw ⟨cPre.calling, fun U h1 h2 => ⟨rfl, hU U h1 h2⟩⟩ rfl hn hsz hst (lv_room hW) hdg ⟨Nat.zero_le _, Nat.zero_le _⟩) hw.2.2 (fun q _ h => hF q h) hF (fun u r t H1 locs1 ht hvm hp hB _ hk hS => ?_)
  exact kk r u H1 locs1 hB.1 (fr_post hw hcut hprm hF ht hB.2 hk hS)
theorem fr_Ni {S : Type} {wB wN : S → va_W} {post : Int32 → S → Prop} {host : String} (M : Mc p s m args meth c cc nL ret own z A) (hM : CI l y bc nY rt rm z As wc wB post) (cw : va_CN R s args own index y host bc nY (some rt) (.code y bc nY (some rt) :: wsL_law) rm 0 0 n ∧ (Cond.static y).before args s = true ∧ True) (hcut : Cut ws wc wr) (hprm : Prm wr wB wN)
    (hw : Hw s z A ws H locs) (hn : As.length = n) (hsz : ls.size = nL) (hst : st0 = As.reverse ++ rest) (hW : (rest.map fun v => v.category).sum ≤ 8) (hdg : decode cc pc = .ok (.invokestatic index, 3))
    (kk : ∀ (r : Int32) (u : S) (H1 : Heap) (locs1 : List Loc), post r u → Hw s z A (wN u) H1 locs1 → W p l e R s m args below meth c H1 locs1 0 0 Q (F0 m (pc + 3) ls (.int r :: rest))) : W p l e R s m args below meth c H locs 0 0 Q (F0 m pc ls st0) := by
  obtain ⟨hP, hF, hU⟩ := fr_pre M hw hcut
  refine va_calli (va_runSN (As := As) (rest := rest) ⟨M.1, M.2.1, M.2.2.2.1, M.2.2.2.2.1, M.2.2.2.2.2.1⟩ (hM H.size) cw ⟨cPre.calling, fun U h1 h2 => ⟨rfl, hU U h1 h2⟩⟩ rfl hn hsz hst (lv_room hW) hdg ⟨Nat.zero_le _, Nat.zero_le _⟩) hw.2.2 (fun q _ h => hF q h) hF (fun r u t H1 locs1 ht hvm hp hB _ hk hS => ?_)
  exact kk r u H1 locs1 hp (fr_post hw hcut hprm hF ht hB hk hS)
theorem fr_Nl {S : Type} {wB wN : S → va_W} {post : Int64 → S → Prop} {host : String} (M : Mc p s m args meth c cc nL ret own z A) (hM : CL l y bc nY rt rm z As wc wB post) (cw : va_CN R s args own index y host bc nY (some rt) (.code y bc nY (some rt) :: wsL_law) rm 0 0 n ∧ (Cond.static y).before args s = true ∧ True) (hcut : Cut ws wc wr) (hprm : Prm wr wB wN)
    (hw : Hw s z A ws H locs) (hn : As.length = n) (hsz : ls.size = nL) (hst : st0 = As.reverse ++ rest) (hW : (rest.map fun v => v.category).sum ≤ 8) (hdg : decode cc pc = .ok (.invokestatic index, 3))
    (kk : ∀ (r : Int64) (u : S) (H1 : Heap) (locs1 : List Loc), post r u → Hw s z A (wN u) H1 locs1 → W p l e R s m args below meth c H1 locs1 0 0 Q (F0 m (pc + 3) ls (.long r :: rest))) : W p l e R s m args below meth c H locs 0 0 Q (F0 m pc ls st0) := by
  obtain ⟨hP, hF, hU⟩ := fr_pre M hw hcut
  refine va_calll (va_runSN (As := As) (rest := rest) ⟨M.1, M.2.1, M.2.2.2.1, M.2.2.2.2.1, M.2.2.2.2.2.1⟩ (hM H.size) cw ⟨cPre.calling, fun U h1 h2 => ⟨rfl, hU U h1 h2⟩⟩ rfl hn hsz hst (lv_room hW) hdg ⟨Nat.zero_le _, Nat.zero_le _⟩) hw.2.2 (fun q _ h => hF q h) hF (fun r u t H1 locs1 ht hvm hp hB _ hk hS => ?_)
  exact kk r u H1 locs1 hp (fr_post hw hcut hprm hF ht hB hk hS)
/-- a method's ends -/
theorem rt_i {S : Type} {wB : S → va_W} {post : Int32 → S → Prop} {v : Int32} (M : Mc p s m args meth c cc nL (some .int) own z A) (u : S) (hw : Hw s z A (wB u) H locs) (hp : post v u) (hdg : decode cc pc = .ok (.ireturn, 1)) : W p l e R s m args below meth c H locs 0 0 (MQ below (va_Qi post (fun u t => cAt z A (wB u) t) A) args s 0 0 A) (F0 m pc ls [.int v]) :=
  W.iret (v := v) M.1 M.2.1 M.2.2.1 (fun t ht hW => ⟨⟨v, u, rfl, hp, by rw [ht]; exact hw.1, hw.2.1⟩, hw.2.2.F ht⟩) hw.2.2.2.2 hdg M.2.2.2.2.2.2.1
theorem rt_z {S : Type} {wB : S → va_W} {post : Int32 → S → Prop} {v : Int32} (M : Mc p s m args meth c cc nL (some .boolean) own z A) (u : S) (hw : Hw s z A (wB u) H locs) (hz : bz v) (hp : post v u) (hdg : decode cc pc = .ok (.ireturn, 1)) : W p l e R s m args below meth c H locs 0 0 (MQ below (va_Qi post (fun u t => cAt z A (wB u) t) A) args s 0 0 A) (F0 m pc ls [.int v]) :=
  W.zret (v := v) M.1 M.2.1 M.2.2.1 (bz_narrow hz) (fun t ht hW => ⟨⟨v, u, rfl, hp, by rw [ht]; exact hw.1, hw.2.1⟩, hw.2.2.F ht⟩) hw.2.2.2.2 hdg M.2.2.2.2.2.2.1
theorem rt_l {S : Type} {wB : S → va_W} {post : Int64 → S → Prop} {v : Int64} (M : Mc p s m args meth c cc nL (some .long) own z A) (u : S) (hw : Hw s z A (wB u) H locs) (hp : post v u) (hdg : decode cc pc = .ok (.lreturn, 1)) : W p l e R s m args below meth c H locs 0 0 (MQ below (va_Ql post (fun u t => cAt z A (wB u) t) A) args s 0 0 A) (F0 m pc ls [.long v]) :=
  W.lret (v := v) M.1 M.2.1 M.2.2.1 (fun t ht hW => ⟨⟨v, u, rfl, hp, by rw [ht]; exact hw.1, hw.2.1⟩, hw.2.2.F ht⟩) hw.2.2.2.2 hdg M.2.2.2.2.2.2.1
theorem rt_v {S : Type} {wB : S → va_W} {post : S → Prop} (M : Mc p s m args meth c cc nL none own z A) (u : S) (hw : Hw s z A (wB u) H locs) (hp : post u) (hdg : decode cc pc = .ok (.return_, 1)) : W p l e R s m args below meth c H locs 0 0 (MQ below (va_Qv post (fun u t => cAt z A (wB u) t) A) args s 0 0 A) (F0 m pc ls []) :=
  W.vret M.1 M.2.1 M.2.2.1 (fun t ht hW => ⟨⟨u, rfl, hp, by rw [ht]; exact hw.1, hw.2.1⟩, hw.2.2.F ht⟩) hw.2.2.2.2 hdg M.2.2.2.2.2.2.1
theorem rt_r {S : Type} {wB : S → va_W} {post : Nat → S → Prop} {v : Nat} {o : String} (M : Mc p s m args meth c cc nL (some (.object o)) own z A) (u : S) (hw : Hw s z A (wB u) H locs) (hp : post v u) (hdg : decode cc pc = .ok (.areturn, 1)) : W p l e R s m args below meth c H locs 0 0 (MQ below (va_Qr (fun _ : S => True) (fun u a t => post a u ∧ cAt z A (wB u) t) A) args s 0 0 A) (F0 m pc ls [.ref v]) :=
  W.aret (v := .ref v) M.1 M.2.1 M.2.2.1 (Or.inl ⟨_, rfl⟩) (Or.inr ⟨_, rfl⟩) (fun t ht hW => ⟨⟨u, v, rfl, trivial, hp, by rw [ht]; exact hw.1, hw.2.1⟩, hw.2.2.F ht⟩) hw.2.2.2.2 hdg M.2.2.2.2.2.2.1
end FR
/-- a contract out of a walk -/
theorem CI.of {S : Type} {l : Launch} {y : MethodName} {bc : ByteArray} {nL : Nat} {rt : FieldType} {rm : Room} {z : KT} {av : List Value} {wc : va_W} {wB : S → va_W} {post : Int32 → S → Prop} (hy : plainName y.cls = true) (hl : (lg_sl av).length ≤ nL)
    (k : ∀ (p : Program) (e : Env) (s : State) (m : MethodId) (below : List Frame) (meth : Method) (c : Code) (A : Nat → Prop) (ls : Array Slot), Mc p s m av.toArray meth c bc nL (some rt) y.cls z A → Hw s z A wc s.heap [] → lv_has ls nL (lv_args 0 av) → W p l e rm s m av.toArray below meth c s.heap [] 0 0 (MQ below (va_Qi post (fun u t => cAt z A (wB u) t) A) av.toArray s 0 0 A) (F0 m 0 ls [])) : CI l y bc nL rt rm z av wc wB post := by
  intro sz
  refine Met.ofW (cc := bc) (maxL := nL) (ret := some rt) hy rfl ?_
  intro p e s m args below meth c s₁ B hml hv
  obtain ⟨rfl, hsz, hP, hK, hD, hN, hs, hk⟩ := hv
  subst hsz
  have hts := atoms_spec (ws := .code y bc nL (some rt) :: wsL_law) B.pre
  rw [lg_entry_eq]
  exact k p e s m below meth c _ _ ⟨B.exec, B.bytes, B.returns, hml, findClass_of_methodNamed B.named, fun w h => hts w (List.mem_cons_of_mem _ h), B.notSynchronized, hK, fun q h => Or.inr h, hN, hs, hk⟩ ⟨hP, hD.self, va_S.rf⟩ (lv_entry av hl)
theorem CL.of {S : Type} {l : Launch} {y : MethodName} {bc : ByteArray} {nL : Nat} {rt : FieldType} {rm : Room} {z : KT} {av : List Value} {wc : va_W} {wB : S → va_W} {post : Int64 → S → Prop} (hy : plainName y.cls = true) (hl : (lg_sl av).length ≤ nL)
    (k : ∀ (p : Program) (e : Env) (s : State) (m : MethodId) (below : List Frame) (meth : Method) (c : Code) (A : Nat → Prop) (ls : Array Slot), Mc p s m av.toArray meth c bc nL (some rt) y.cls z A → Hw s z A wc s.heap [] → lv_has ls nL (lv_args 0 av) → W p l e rm s m av.toArray below meth c s.heap [] 0 0 (MQ below (va_Ql post (fun u t => cAt z A (wB u) t) A) av.toArray s 0 0 A) (F0 m 0 ls [])) : CL l y bc nL rt rm z av wc wB post := by
  intro sz
  refine Met.ofW (cc := bc) (maxL := nL) (ret := some rt) hy rfl ?_
  intro p e s m args below meth c s₁ B hml hv
  obtain ⟨rfl, hsz, hP, hK, hD, hN, hs, hk⟩ := hv
  subst hsz
  have hts := atoms_spec (ws := .code y bc nL (some rt) :: wsL_law) B.pre
  rw [lg_entry_eq]
  exact k p e s m below meth c _ _ ⟨B.exec, B.bytes, B.returns, hml, findClass_of_methodNamed B.named, fun w h => hts w (List.mem_cons_of_mem _ h), B.notSynchronized, hK, fun q h => Or.inr h, hN, hs, hk⟩ ⟨hP, hD.self, va_S.rf⟩ (lv_entry av hl)
theorem CV.of {S : Type} {l : Launch} {y : MethodName} {bc : ByteArray} {nL : Nat} {rm : Room} {z : KT} {av : List Value} {wc : va_W} {wB : S → va_W} {post : S → Prop} (hy : plainName y.cls = true) (hl : (lg_sl av).length ≤ nL)
    (k : ∀ (p : Program) (e : Env) (s : State) (m : MethodId) (below : List Frame) (meth : Method) (c : Code) (A : Nat → Prop) (ls : Array Slot), Mc p s m av.toArray meth c bc nL none y.cls z A → Hw s z A wc s.heap [] → lv_has ls nL (lv_args 0 av) → W p l e rm s m av.toArray below meth c s.heap [] 0 0 (MQ below (va_Qv post (fun u t => cAt z A (wB u) t) A) av.toArray s 0 0 A) (F0 m 0 ls [])) : CV l y bc nL rm z av wc wB post := by
  intro sz
  refine Met.ofW (cc := bc) (maxL := nL) (ret := none) hy rfl ?_
  intro p e s m args below meth c s₁ B hml hv
  obtain ⟨rfl, hsz, hP, hK, hD, hN, hs, hk⟩ := hv
  subst hsz
  have hts := atoms_spec (ws := .code y bc nL none :: wsL_law) B.pre
  rw [lg_entry_eq]
  exact k p e s m below meth c _ _ ⟨B.exec, B.bytes, B.returns, hml, findClass_of_methodNamed B.named, fun w h => hts w (List.mem_cons_of_mem _ h), B.notSynchronized, hK, fun q h => Or.inr h, hN, hs, hk⟩ ⟨hP, hD.self, va_S.rf⟩ (lv_entry av hl)
theorem CR.of {S : Type} {l : Launch} {y : MethodName} {bc : ByteArray} {nL : Nat} {rt : FieldType} {rm : Room} {z : KT} {av : List Value} {wc : va_W} {wB : S → va_W} {post : Nat → S → Prop} (hy : plainName y.cls = true) (hl : (lg_sl av).length ≤ nL)
    (k : ∀ (p : Program) (e : Env) (s : State) (m : MethodId) (below : List Frame) (meth : Method) (c : Code) (A : Nat → Prop) (ls : Array Slot), Mc p s m av.toArray meth c bc nL (some rt) y.cls z A → Hw s z A wc s.heap [] → lv_has ls nL (lv_args 0 av) → W p l e rm s m av.toArray below meth c s.heap [] 0 0 (MQ below (va_Qr (fun _ : S => True) (fun u a t => post a u ∧ cAt z A (wB u) t) A) av.toArray s 0 0 A) (F0 m 0 ls [])) : CR l y bc nL rt rm z av wc wB post := by
  intro sz
  refine Met.ofW (cc := bc) (maxL := nL) (ret := some rt) hy rfl ?_
  intro p e s m args below meth c s₁ B hml hv
  obtain ⟨rfl, hsz, hP, hK, hD, hN, hs, hk⟩ := hv
  subst hsz
  have hts := atoms_spec (ws := .code y bc nL (some rt) :: wsL_law) B.pre
  rw [lg_entry_eq]
  exact k p e s m below meth c _ _ ⟨B.exec, B.bytes, B.returns, hml, findClass_of_methodNamed B.named, fun w h => hts w (List.mem_cons_of_mem _ h), B.notSynchronized, hK, fun q h => Or.inr h, hN, hs, hk⟩ ⟨hP, hD.self, va_S.rf⟩ (lv_entry av hl)
