/-! ===== THE LAW: its cases (laid by wip/whole/law.py) ===== -/
/-! THE CLAIM OUT OF ONE WALK OF THE LAW'S BODY. Your part is whole_start (and what it stands on); all else here is the same for every law, but numbers. -/
def R_law : String := "RopesTieThemselvesLaw"
def lw_P (b : Addr) (xs : List Int32) (args : Array Value) (s : State) : Prop := args = #[.ref b] ∧ s.IntsAt b xs ∧ xs.length ≤ 3584 ∧ (Jvm.Cond.and given_1 narrow_1).before args s = true
def lw_Q (_ : Array Value) (s : State) (o : Outcome) (t : State) : Prop := o = .returned (some (.int 1)) ∧ Framed s o t [] 50 946
def lw_Z (below : List Frame) (a : Array Value) (s : State) : State → Prop := fun t => ∃ o, t.status = .running ∧ Ended t below o ∧ lw_Q a s o t
/-- the law's own end, with 1 on the stack, nothing written that was there before, its room as the claim has it -/
theorem lw_ret {p : Program} {l : Launch} {e : Env} {s : State} {m : MethodId} {below : List Frame} {meth : Method} {c : Code} {b : Nat} (hx : p.tables.exec = Jvm.exec) (hb : c.code = code) (hr : meth.sig.returnType = ret) (hlocks : meth.locks = false) {pc : Nat} {H : Heap} {ls : Array Slot} (hdg : decode code pc = .ok (.ireturn, 1)) : W p l e room_1 s m #[Value.ref b] below meth c H [] 50 946 (lw_Z below #[Value.ref b] s) (F0 m pc ls [.int 1]) := by
  intro T hT X
  obtain ⟨fs, hret, hrun, hended, hW, hframe⟩ := X.leave (v := some (.int 1)) (hlocks := hlocks) (fun h => by rw [hr] at h; cases h)
  have hmeth' : T.vm.method? m = some meth := X.method'
  refine ⟨T.setFrames fs, ?_, .returned (some (.int 1)), hrun, hended, rfl, ⟨_, rfl⟩, hW, hframe⟩
  jvm_step X.here [X.here.top, hx, hb, hdg, hmeth', hr, ret, narrow_b1]
  (try refine ⟨rfl, ?_⟩); (try refine ⟨rfl, ?_⟩)
  first | (intro acts; rw [hret _ acts rfl rfl rfl]) | rw [hret _ _ rfl rfl rfl]
  exact Steps.refl _
/-- what holds at the law's entry: the machine, the code, the tables' words (any of lw_tbl by 'hts w (by decide +kernel)'), the script of L ints xs at the cell b, what the Statement gives of the start (any of its parts by flat_of_before) -/
def lw_At (p : Program) (s : State) (m : MethodId) (meth : Method) (c : Code) (b L : Nat) (xs : Nat → Int32) : Prop :=
  p.tables.exec = Jvm.exec ∧ c.code = code ∧ meth.sig.returnType = ret ∧ c.maxLocals = 4 ∧ s.vm.findClass R_law = some m.cls ∧ (∀ w ∈ lw_tbl, w.before #[Value.ref b] s = true) ∧ va_X b L xs s s.heap ∧ b < s.heap.size ∧ meth.locks = false ∧ (Jvm.Cond.and given_1 narrow_1).before #[Value.ref b] s = true
section FRL
variable {p : Program} {l : Launch} {e : Env} {R : Room} {s : State} {m : MethodId} {args : Array Value} {below : List Frame} {meth : Method} {c : Code} {H : Heap} {locs : List Loc} {Q : State → Prop} {cc : ByteArray} {nL : Nat} {ret : Option FieldType} {own : String} {z : KT} {A : Nat → Prop} {pc : Nat} {ls : Array Slot} {st0 rest As : List Value} {ws wc wr : va_W} {y : MethodName} {bc : ByteArray} {nY : Nat} {rt : FieldType} {rm : Room} {C : String} {index n b cells slots : Nat}
theorem frL_Vi {S : Type} {wB wN : S → va_W} {post : Int32 → S → Prop} (M : Mc p s m args meth c cc nL ret own z A) (hM : CI l y bc nY rt rm z (.ref b :: As) wc wB post) (cw : CallW R s args own C index y bc nY (some rt) (.code y bc nY (some rt) :: wsL_law) rm 0 0 n) (hcut : Cut ws wc wr) (hprm : Prm wr wB wN)
    (q0 : Nat) {ci : Nat} {fs : List Value} {q : vw_C} (he : wc[q0]? = some (b, .inr (ci, fs))) (hc : vwCl[ci]? = some q) (hC : q.1 = C) (hw : Hw s z A ws H locs) (hcs : cells ≤ R.cells ∧ slots ≤ R.slots) (hn : As.length = n) (hsz : ls.size = nL) (hst : st0 = As.reverse ++ .ref b :: rest) (hW : (rest.map fun v => v.category).sum ≤ 8) (hdg : decode cc pc = .ok (.invokevirtual index, 3))
    (kk : ∀ (r : Int32) (u : S) (H1 : Heap) (locs1 : List Loc), post r u → Hw s z A (wN u) H1 locs1 → W p l e R s m args below meth c H1 locs1 cells slots Q (F0 m (pc + 3) ls (.int r :: rest))) : W p l e R s m args below meth c H locs cells slots Q (F0 m pc ls st0) := by
  obtain ⟨hP, hF, hU⟩ := fr_pre M hw hcut
  subst hC
  refine va_calli (va_runV (As := As) (rest := rest) ⟨M.1, M.2.1, M.2.2.2.1, M.2.2.2.2.1, M.2.2.2.2.2.1⟩ (hM H.size) cw ⟨cPre.calling, va_recv M.2.2.2.2.2.2.2.1 hP hc he, fun U h1 h2 => ⟨rfl, hU U h1 h2⟩⟩ rfl hn hsz hst (lv_room hW) hdg hcs) hw.2.2 (fun q _ h => hF q h) hF (fun r u t H1 locs1 ht hvm hp hB _ hk hS => ?_)
  exact kk r u H1 locs1 hp (fr_post hw hcut hprm hF ht hB hk hS)
theorem frL_Vl {S : Type} {wB wN : S → va_W} {post : Int64 → S → Prop} (M : Mc p s m args meth c cc nL ret own z A) (hM : CL l y bc nY rt rm z (.ref b :: As) wc wB post) (cw : CallW R s args own C index y bc nY (some rt) (.code y bc nY (some rt) :: wsL_law) rm 0 0 n) (hcut : Cut ws wc wr) (hprm : Prm wr wB wN)
    (q0 : Nat) {ci : Nat} {fs : List Value} {q : vw_C} (he : wc[q0]? = some (b, .inr (ci, fs))) (hc : vwCl[ci]? = some q) (hC : q.1 = C) (hw : Hw s z A ws H locs) (hcs : cells ≤ R.cells ∧ slots ≤ R.slots) (hn : As.length = n) (hsz : ls.size = nL) (hst : st0 = As.reverse ++ .ref b :: rest) (hW : (rest.map fun v => v.category).sum ≤ 8) (hdg : decode cc pc = .ok (.invokevirtual index, 3))
    (kk : ∀ (r : Int64) (u : S) (H1 : Heap) (locs1 : List Loc), post r u → Hw s z A (wN u) H1 locs1 → W p l e R s m args below meth c H1 locs1 cells slots Q (F0 m (pc + 3) ls (.long r :: rest))) : W p l e R s m args below meth c H locs cells slots Q (F0 m pc ls st0) := by
  obtain ⟨hP, hF, hU⟩ := fr_pre M hw hcut
  subst hC
  refine va_calll (va_runV (As := As) (rest := rest) ⟨M.1, M.2.1, M.2.2.2.1, M.2.2.2.2.1, M.2.2.2.2.2.1⟩ (hM H.size) cw ⟨cPre.calling, va_recv M.2.2.2.2.2.2.2.1 hP hc he, fun U h1 h2 => ⟨rfl, hU U h1 h2⟩⟩ rfl hn hsz hst (lv_room hW) hdg hcs) hw.2.2 (fun q _ h => hF q h) hF (fun r u t H1 locs1 ht hvm hp hB _ hk hS => ?_)
  exact kk r u H1 locs1 hp (fr_post hw hcut hprm hF ht hB hk hS)
end FRL
theorem lcmp_self (x : Int64) : lg_cmp x x = 0 := by simp [lg_cmp]
theorem cut_27 {z : KT} {qX : Nat → Nat} {qS : Nat → Nat} {qL : Nat → Nat} {qN : Nat → Nat} {qG : Nat → Nat} {qP : Nat → Nat} {qK : Nat → Nat} {qT : Nat → Nat} {F : RT} {P : RT} {K : RT} {G : RT} {T : RT} {N : RT} {L : RT} {S : RT} : Cut (fW z qX qP qK qN qL qG F ++ (pW z qP P ++ (pW z qK K ++ (mW z qG qT G ++ (pW z qT T ++ (nW z qN N ++ (lW z qL L ++ (sW z qS S)))))))) (fW z qX qP qK qN qL qG F ++ (pW z qP P ++ (pW z qK K ++ (mW z qG qT G ++ (pW z qT T ++ (nW z qN N ++ (lW z qL L))))))) (sW z qS S) := ⟨[0, 1, 2, 3, 4, 5, 6, 7, 8, 9, 10, 11, 12, 13, 14, 15, 16, 17, 18, 19, 20, 21, 22, 23, 24, 25, 26, 27, 28, 29, 30, 31, 32], [33, 34, 35, 36, 37, 38, 39, 40, 41, 42, 43, 44, 45, 46, 47, 48, 49], rfl, rfl, rfl, rfl, by decide⟩
theorem prm_27 {z : KT} {qX : Nat → Nat} {qS : Nat → Nat} {qL : Nat → Nat} {qN : Nat → Nat} {qG : Nat → Nat} {qP : Nat → Nat} {qK : Nat → Nat} {qT : Nat → Nat} {P : RT} {K : RT} {G : RT} {T : RT} {N : RT} {S : RT} : Prm (S := RT × RT) (sW z qS S) (fun u => (fW z qX qP qK qN qL qG u.1 ++ (pW z qP P ++ (pW z qK K ++ (mW z qG qT G ++ (pW z qT T ++ (nW z qN N ++ (lW z qL u.2)))))))) (fun u => (fW z qX qP qK qN qL qG u.1 ++ (pW z qP P ++ (pW z qK K ++ (mW z qG qT G ++ (pW z qT T ++ (nW z qN N ++ (lW z qL u.2 ++ (sW z qS S))))))))) := ⟨[17, 18, 19, 20, 21, 22, 23, 24, 25, 26, 27, 28, 29, 30, 31, 32, 33, 34, 35, 36, 37, 38, 39, 40, 41, 42, 43, 44, 45, 46, 47, 48, 49, 0, 1, 2, 3, 4, 5, 6, 7, 8, 9, 10, 11, 12, 13, 14, 15, 16], rfl, fun _ => rfl⟩
theorem cut_28 {z : KT} {qX : Nat → Nat} {qS : Nat → Nat} {qL : Nat → Nat} {qN : Nat → Nat} {qG : Nat → Nat} {qP : Nat → Nat} {qK : Nat → Nat} {qT : Nat → Nat} {F : RT} {P : RT} {K : RT} {G : RT} {T : RT} {N : RT} {L : RT} {S : RT} : Cut (fW z qX qP qK qN qL qG F ++ (pW z qP P ++ (pW z qK K ++ (mW z qG qT G ++ (pW z qT T ++ (nW z qN N ++ (lW z qL L ++ (sW z qS S)))))))) (sW z qS S) (fW z qX qP qK qN qL qG F ++ (pW z qP P ++ (pW z qK K ++ (mW z qG qT G ++ (pW z qT T ++ (nW z qN N ++ (lW z qL L))))))) := ⟨[33, 34, 35, 36, 37, 38, 39, 40, 41, 42, 43, 44, 45, 46, 47, 48, 49], [0, 1, 2, 3, 4, 5, 6, 7, 8, 9, 10, 11, 12, 13, 14, 15, 16, 17, 18, 19, 20, 21, 22, 23, 24, 25, 26, 27, 28, 29, 30, 31, 32], rfl, rfl, rfl, rfl, by decide⟩
theorem prm_28 {z : KT} {qX : Nat → Nat} {qS : Nat → Nat} {qL : Nat → Nat} {qN : Nat → Nat} {qG : Nat → Nat} {qP : Nat → Nat} {qK : Nat → Nat} {qT : Nat → Nat} {F : RT} {P : RT} {K : RT} {G : RT} {T : RT} {N : RT} {L : RT} : Prm (S := RT) (fW z qX qP qK qN qL qG F ++ (pW z qP P ++ (pW z qK K ++ (mW z qG qT G ++ (pW z qT T ++ (nW z qN N ++ (lW z qL L))))))) (fun u => (sW z qS u)) (fun u => (fW z qX qP qK qN qL qG F ++ (pW z qP P ++ (pW z qK K ++ (mW z qG qT G ++ (pW z qT T ++ (nW z qN N ++ (lW z qL L ++ (sW z qS u))))))))) := ⟨[0, 1, 2, 3, 4, 5, 6, 7, 8, 9, 10, 11, 12, 13, 14, 15, 16, 17, 18, 19, 20, 21, 22, 23, 24, 25, 26, 27, 28, 29, 30, 31, 32, 33, 34, 35, 36, 37, 38, 39, 40, 41, 42, 43, 44, 45, 46, 47, 48, 49], rfl, fun _ => rfl⟩
theorem cut_29 {z : KT} {qX : Nat → Nat} {qS : Nat → Nat} {qL : Nat → Nat} {qN : Nat → Nat} {qG : Nat → Nat} {qP : Nat → Nat} {qK : Nat → Nat} {qT : Nat → Nat} {F : RT} {P : RT} {K : RT} {G : RT} {T : RT} {N : RT} {L : RT} {S : RT} : Cut (fW z qX qP qK qN qL qG F ++ (pW z qP P ++ (pW z qK K ++ (mW z qG qT G ++ (pW z qT T ++ (nW z qN N ++ (lW z qL L ++ (sW z qS S)))))))) (fW z qX qP qK qN qL qG F ++ (pW z qP P ++ (pW z qK K ++ (mW z qG qT G ++ (pW z qT T ++ (nW z qN N ++ (lW z qL L))))))) (sW z qS S) := ⟨[0, 1, 2, 3, 4, 5, 6, 7, 8, 9, 10, 11, 12, 13, 14, 15, 16, 17, 18, 19, 20, 21, 22, 23, 24, 25, 26, 27, 28, 29, 30, 31, 32], [33, 34, 35, 36, 37, 38, 39, 40, 41, 42, 43, 44, 45, 46, 47, 48, 49], rfl, rfl, rfl, rfl, by decide⟩
theorem prm_29 {z : KT} {qX : Nat → Nat} {qS : Nat → Nat} {qL : Nat → Nat} {qN : Nat → Nat} {qG : Nat → Nat} {qP : Nat → Nat} {qK : Nat → Nat} {qT : Nat → Nat} {F : RT} {K : RT} {G : RT} {N : RT} {S : RT} : Prm (S := RT × RT × RT) (sW z qS S) (fun u => (fW z qX qP qK qN qL qG F ++ (pW z qP u.1 ++ (pW z qK K ++ (mW z qG qT G ++ (pW z qT u.2.1 ++ (nW z qN N ++ (lW z qL u.2.2)))))))) (fun u => (fW z qX qP qK qN qL qG F ++ (pW z qP u.1 ++ (pW z qK K ++ (mW z qG qT G ++ (pW z qT u.2.1 ++ (nW z qN N ++ (lW z qL u.2.2 ++ (sW z qS S))))))))) := ⟨[17, 18, 19, 20, 21, 22, 23, 24, 25, 26, 27, 28, 29, 30, 31, 32, 33, 34, 35, 36, 37, 38, 39, 40, 41, 42, 43, 44, 45, 46, 47, 48, 49, 0, 1, 2, 3, 4, 5, 6, 7, 8, 9, 10, 11, 12, 13, 14, 15, 16], rfl, fun _ => rfl⟩
theorem cut_30 {z : KT} {qX : Nat → Nat} {qS : Nat → Nat} {qL : Nat → Nat} {qN : Nat → Nat} {qG : Nat → Nat} {qP : Nat → Nat} {qK : Nat → Nat} {qT : Nat → Nat} {F : RT} {P : RT} {K : RT} {G : RT} {T : RT} {N : RT} {L : RT} {S : RT} : Cut (fW z qX qP qK qN qL qG F ++ (pW z qP P ++ (pW z qK K ++ (mW z qG qT G ++ (pW z qT T ++ (nW z qN N ++ (lW z qL L ++ (sW z qS S)))))))) (fW z qX qP qK qN qL qG F ++ (pW z qP P ++ (pW z qK K ++ (mW z qG qT G ++ (pW z qT T ++ (nW z qN N ++ (lW z qL L))))))) (sW z qS S) := ⟨[0, 1, 2, 3, 4, 5, 6, 7, 8, 9, 10, 11, 12, 13, 14, 15, 16, 17, 18, 19, 20, 21, 22, 23, 24, 25, 26, 27, 28, 29, 30, 31, 32], [33, 34, 35, 36, 37, 38, 39, 40, 41, 42, 43, 44, 45, 46, 47, 48, 49], rfl, rfl, rfl, rfl, by decide⟩
theorem prm_30 {z : KT} {qX : Nat → Nat} {qS : Nat → Nat} {qL : Nat → Nat} {qN : Nat → Nat} {qG : Nat → Nat} {qP : Nat → Nat} {qK : Nat → Nat} {qT : Nat → Nat} {P : RT} {K : RT} {G : RT} {T : RT} {N : RT} {L : RT} {S : RT} : Prm (S := RT) (sW z qS S) (fun u => (fW z qX qP qK qN qL qG u ++ (pW z qP P ++ (pW z qK K ++ (mW z qG qT G ++ (pW z qT T ++ (nW z qN N ++ (lW z qL L)))))))) (fun u => (fW z qX qP qK qN qL qG u ++ (pW z qP P ++ (pW z qK K ++ (mW z qG qT G ++ (pW z qT T ++ (nW z qN N ++ (lW z qL L ++ (sW z qS S))))))))) := ⟨[17, 18, 19, 20, 21, 22, 23, 24, 25, 26, 27, 28, 29, 30, 31, 32, 33, 34, 35, 36, 37, 38, 39, 40, 41, 42, 43, 44, 45, 46, 47, 48, 49, 0, 1, 2, 3, 4, 5, 6, 7, 8, 9, 10, 11, 12, 13, 14, 15, 16], rfl, fun _ => rfl⟩
theorem cut_31 {z : KT} {qX : Nat → Nat} {qS : Nat → Nat} {qL : Nat → Nat} {qN : Nat → Nat} {qG : Nat → Nat} {qP : Nat → Nat} {qK : Nat → Nat} {qT : Nat → Nat} {F : RT} {P : RT} {K : RT} {G : RT} {T : RT} {N : RT} {L : RT} {S : RT} : Cut (fW z qX qP qK qN qL qG F ++ (pW z qP P ++ (pW z qK K ++ (mW z qG qT G ++ (pW z qT T ++ (nW z qN N ++ (lW z qL L ++ (sW z qS S)))))))) (fW z qX qP qK qN qL qG F ++ (pW z qP P ++ (pW z qK K ++ (mW z qG qT G ++ (pW z qT T ++ (nW z qN N ++ (lW z qL L))))))) (sW z qS S) := ⟨[0, 1, 2, 3, 4, 5, 6, 7, 8, 9, 10, 11, 12, 13, 14, 15, 16, 17, 18, 19, 20, 21, 22, 23, 24, 25, 26, 27, 28, 29, 30, 31, 32], [33, 34, 35, 36, 37, 38, 39, 40, 41, 42, 43, 44, 45, 46, 47, 48, 49], rfl, rfl, rfl, rfl, by decide⟩
theorem prm_31 {z : KT} {qX : Nat → Nat} {qS : Nat → Nat} {qL : Nat → Nat} {qN : Nat → Nat} {qG : Nat → Nat} {qP : Nat → Nat} {qK : Nat → Nat} {qT : Nat → Nat} {K : RT} {G : RT} {T : RT} {N : RT} {L : RT} {S : RT} : Prm (S := RT × RT) (sW z qS S) (fun u => (fW z qX qP qK qN qL qG u.1 ++ (pW z qP u.2 ++ (pW z qK K ++ (mW z qG qT G ++ (pW z qT T ++ (nW z qN N ++ (lW z qL L)))))))) (fun u => (fW z qX qP qK qN qL qG u.1 ++ (pW z qP u.2 ++ (pW z qK K ++ (mW z qG qT G ++ (pW z qT T ++ (nW z qN N ++ (lW z qL L ++ (sW z qS S))))))))) := ⟨[17, 18, 19, 20, 21, 22, 23, 24, 25, 26, 27, 28, 29, 30, 31, 32, 33, 34, 35, 36, 37, 38, 39, 40, 41, 42, 43, 44, 45, 46, 47, 48, 49, 0, 1, 2, 3, 4, 5, 6, 7, 8, 9, 10, 11, 12, 13, 14, 15, 16], rfl, fun _ => rfl⟩
theorem cut_32 {z : KT} {qX : Nat → Nat} {qS : Nat → Nat} {qL : Nat → Nat} {qN : Nat → Nat} {qG : Nat → Nat} {qP : Nat → Nat} {qK : Nat → Nat} {qT : Nat → Nat} {F : RT} {P : RT} {K : RT} {G : RT} {T : RT} {N : RT} {L : RT} {S : RT} : Cut (fW z qX qP qK qN qL qG F ++ (pW z qP P ++ (pW z qK K ++ (mW z qG qT G ++ (pW z qT T ++ (nW z qN N ++ (lW z qL L ++ (sW z qS S)))))))) (fW z qX qP qK qN qL qG F ++ (pW z qP P ++ (pW z qK K ++ (mW z qG qT G ++ (pW z qT T ++ (nW z qN N ++ (lW z qL L))))))) (sW z qS S) := ⟨[0, 1, 2, 3, 4, 5, 6, 7, 8, 9, 10, 11, 12, 13, 14, 15, 16, 17, 18, 19, 20, 21, 22, 23, 24, 25, 26, 27, 28, 29, 30, 31, 32], [33, 34, 35, 36, 37, 38, 39, 40, 41, 42, 43, 44, 45, 46, 47, 48, 49], rfl, rfl, rfl, rfl, by decide⟩
theorem prm_32 {z : KT} {qX : Nat → Nat} {qS : Nat → Nat} {qL : Nat → Nat} {qN : Nat → Nat} {qG : Nat → Nat} {qP : Nat → Nat} {qK : Nat → Nat} {qT : Nat → Nat} {P : RT} {K : RT} {G : RT} {N : RT} {L : RT} {S : RT} : Prm (S := RT × RT) (sW z qS S) (fun u => (fW z qX qP qK qN qL qG u.1 ++ (pW z qP P ++ (pW z qK K ++ (mW z qG qT G ++ (pW z qT u.2 ++ (nW z qN N ++ (lW z qL L)))))))) (fun u => (fW z qX qP qK qN qL qG u.1 ++ (pW z qP P ++ (pW z qK K ++ (mW z qG qT G ++ (pW z qT u.2 ++ (nW z qN N ++ (lW z qL L ++ (sW z qS S))))))))) := ⟨[17, 18, 19, 20, 21, 22, 23, 24, 25, 26, 27, 28, 29, 30, 31, 32, 33, 34, 35, 36, 37, 38, 39, 40, 41, 42, 43, 44, 45, 46, 47, 48, 49, 0, 1, 2, 3, 4, 5, 6, 7, 8, 9, 10, 11, 12, 13, 14, 15, 16], rfl, fun _ => rfl⟩
theorem cut_33 {z : KT} {qX : Nat → Nat} {qS : Nat → Nat} {qL : Nat → Nat} {qN : Nat → Nat} {qG : Nat → Nat} {qP : Nat → Nat} {qK : Nat → Nat} {qT : Nat → Nat} {F : RT} {P : RT} {K : RT} {G : RT} {T : RT} {N : RT} {L : RT} {S : RT} : Cut (fW z qX qP qK qN qL qG F ++ (pW z qP P ++ (pW z qK K ++ (mW z qG qT G ++ (pW z qT T ++ (nW z qN N ++ (lW z qL L ++ (sW z qS S)))))))) (fW z qX qP qK qN qL qG F ++ (pW z qP P ++ (pW z qK K ++ (mW z qG qT G ++ (pW z qT T ++ (nW z qN N ++ (lW z qL L))))))) (sW z qS S) := ⟨[0, 1, 2, 3, 4, 5, 6, 7, 8, 9, 10, 11, 12, 13, 14, 15, 16, 17, 18, 19, 20, 21, 22, 23, 24, 25, 26, 27, 28, 29, 30, 31, 32], [33, 34, 35, 36, 37, 38, 39, 40, 41, 42, 43, 44, 45, 46, 47, 48, 49], rfl, rfl, rfl, rfl, by decide⟩
theorem prm_33 {z : KT} {qX : Nat → Nat} {qS : Nat → Nat} {qL : Nat → Nat} {qN : Nat → Nat} {qG : Nat → Nat} {qP : Nat → Nat} {qK : Nat → Nat} {qT : Nat → Nat} {P : RT} {K : RT} {N : RT} {L : RT} {S : RT} : Prm (S := RT × RT × RT) (sW z qS S) (fun u => (fW z qX qP qK qN qL qG u.1 ++ (pW z qP P ++ (pW z qK K ++ (mW z qG qT u.2.1 ++ (pW z qT u.2.2 ++ (nW z qN N ++ (lW z qL L)))))))) (fun u => (fW z qX qP qK qN qL qG u.1 ++ (pW z qP P ++ (pW z qK K ++ (mW z qG qT u.2.1 ++ (pW z qT u.2.2 ++ (nW z qN N ++ (lW z qL L ++ (sW z qS S))))))))) := ⟨[17, 18, 19, 20, 21, 22, 23, 24, 25, 26, 27, 28, 29, 30, 31, 32, 33, 34, 35, 36, 37, 38, 39, 40, 41, 42, 43, 44, 45, 46, 47, 48, 49, 0, 1, 2, 3, 4, 5, 6, 7, 8, 9, 10, 11, 12, 13, 14, 15, 16], rfl, fun _ => rfl⟩
theorem cut_34 {z : KT} {qX : Nat → Nat} {qS : Nat → Nat} {qL : Nat → Nat} {qN : Nat → Nat} {qG : Nat → Nat} {qP : Nat → Nat} {qK : Nat → Nat} {qT : Nat → Nat} {F : RT} {P : RT} {K : RT} {G : RT} {T : RT} {N : RT} {L : RT} {S : RT} : Cut (fW z qX qP qK qN qL qG F ++ (pW z qP P ++ (pW z qK K ++ (mW z qG qT G ++ (pW z qT T ++ (nW z qN N ++ (lW z qL L ++ (sW z qS S)))))))) (fW z qX qP qK qN qL qG F ++ (pW z qP P ++ (pW z qK K ++ (mW z qG qT G ++ (pW z qT T ++ (nW z qN N ++ (lW z qL L))))))) (sW z qS S) := ⟨[0, 1, 2, 3, 4, 5, 6, 7, 8, 9, 10, 11, 12, 13, 14, 15, 16, 17, 18, 19, 20, 21, 22, 23, 24, 25, 26, 27, 28, 29, 30, 31, 32], [33, 34, 35, 36, 37, 38, 39, 40, 41, 42, 43, 44, 45, 46, 47, 48, 49], rfl, rfl, rfl, rfl, by decide⟩
theorem prm_34 {z : KT} {qX : Nat → Nat} {qS : Nat → Nat} {qL : Nat → Nat} {qN : Nat → Nat} {qG : Nat → Nat} {qP : Nat → Nat} {qK : Nat → Nat} {qT : Nat → Nat} {F : RT} {P : RT} {K : RT} {G : RT} {T : RT} {N : RT} {L : RT} {S : RT} : Prm (S := Unit) (sW z qS S) (fun _ => (fW z qX qP qK qN qL qG F ++ (pW z qP P ++ (pW z qK K ++ (mW z qG qT G ++ (pW z qT T ++ (nW z qN N ++ (lW z qL L)))))))) (fun _ => (fW z qX qP qK qN qL qG F ++ (pW z qP P ++ (pW z qK K ++ (mW z qG qT G ++ (pW z qT T ++ (nW z qN N ++ (lW z qL L ++ (sW z qS S))))))))) := ⟨[17, 18, 19, 20, 21, 22, 23, 24, 25, 26, 27, 28, 29, 30, 31, 32, 33, 34, 35, 36, 37, 38, 39, 40, 41, 42, 43, 44, 45, 46, 47, 48, 49, 0, 1, 2, 3, 4, 5, 6, 7, 8, 9, 10, 11, 12, 13, 14, 15, 16], rfl, fun _ => rfl⟩
theorem cut_35 {z : KT} {qX : Nat → Nat} {qS : Nat → Nat} {qL : Nat → Nat} {qN : Nat → Nat} {qG : Nat → Nat} {qP : Nat → Nat} {qK : Nat → Nat} {qT : Nat → Nat} {F : RT} {P : RT} {K : RT} {G : RT} {T : RT} {N : RT} {L : RT} {S : RT} : Cut (fW z qX qP qK qN qL qG F ++ (pW z qP P ++ (pW z qK K ++ (mW z qG qT G ++ (pW z qT T ++ (nW z qN N ++ (lW z qL L ++ (sW z qS S)))))))) (sW z qS S) (fW z qX qP qK qN qL qG F ++ (pW z qP P ++ (pW z qK K ++ (mW z qG qT G ++ (pW z qT T ++ (nW z qN N ++ (lW z qL L))))))) := ⟨[33, 34, 35, 36, 37, 38, 39, 40, 41, 42, 43, 44, 45, 46, 47, 48, 49], [0, 1, 2, 3, 4, 5, 6, 7, 8, 9, 10, 11, 12, 13, 14, 15, 16, 17, 18, 19, 20, 21, 22, 23, 24, 25, 26, 27, 28, 29, 30, 31, 32], rfl, rfl, rfl, rfl, by decide⟩
theorem prm_35 {z : KT} {qX : Nat → Nat} {qS : Nat → Nat} {qL : Nat → Nat} {qN : Nat → Nat} {qG : Nat → Nat} {qP : Nat → Nat} {qK : Nat → Nat} {qT : Nat → Nat} {F : RT} {P : RT} {K : RT} {G : RT} {T : RT} {N : RT} {L : RT} {S : RT} : Prm (S := Unit) (fW z qX qP qK qN qL qG F ++ (pW z qP P ++ (pW z qK K ++ (mW z qG qT G ++ (pW z qT T ++ (nW z qN N ++ (lW z qL L))))))) (fun _ => (sW z qS S)) (fun _ => (fW z qX qP qK qN qL qG F ++ (pW z qP P ++ (pW z qK K ++ (mW z qG qT G ++ (pW z qT T ++ (nW z qN N ++ (lW z qL L ++ (sW z qS S))))))))) := ⟨[0, 1, 2, 3, 4, 5, 6, 7, 8, 9, 10, 11, 12, 13, 14, 15, 16, 17, 18, 19, 20, 21, 22, 23, 24, 25, 26, 27, 28, 29, 30, 31, 32, 33, 34, 35, 36, 37, 38, 39, 40, 41, 42, 43, 44, 45, 46, 47, 48, 49], rfl, fun _ => rfl⟩
theorem cut_36 {z : KT} {qX : Nat → Nat} {qS : Nat → Nat} {qL : Nat → Nat} {qN : Nat → Nat} {qG : Nat → Nat} {qP : Nat → Nat} {qK : Nat → Nat} {qT : Nat → Nat} {F : RT} {P : RT} {K : RT} {G : RT} {T : RT} {N : RT} {L : RT} {S : RT} : Cut (fW z qX qP qK qN qL qG F ++ (pW z qP P ++ (pW z qK K ++ (mW z qG qT G ++ (pW z qT T ++ (nW z qN N ++ (lW z qL L ++ (sW z qS S)))))))) (fW z qX qP qK qN qL qG F ++ (pW z qP P ++ (pW z qK K ++ (mW z qG qT G ++ (pW z qT T ++ (nW z qN N ++ (lW z qL L))))))) (sW z qS S) := ⟨[0, 1, 2, 3, 4, 5, 6, 7, 8, 9, 10, 11, 12, 13, 14, 15, 16, 17, 18, 19, 20, 21, 22, 23, 24, 25, 26, 27, 28, 29, 30, 31, 32], [33, 34, 35, 36, 37, 38, 39, 40, 41, 42, 43, 44, 45, 46, 47, 48, 49], rfl, rfl, rfl, rfl, by decide⟩
theorem prm_36 {z : KT} {qX : Nat → Nat} {qS : Nat → Nat} {qL : Nat → Nat} {qN : Nat → Nat} {qG : Nat → Nat} {qP : Nat → Nat} {qK : Nat → Nat} {qT : Nat → Nat} {P : RT} {K : RT} {G : RT} {T : RT} {L : RT} {S : RT} : Prm (S := RT × RT) (sW z qS S) (fun u => (fW z qX qP qK qN qL qG u.1 ++ (pW z qP P ++ (pW z qK K ++ (mW z qG qT G ++ (pW z qT T ++ (nW z qN u.2 ++ (lW z qL L)))))))) (fun u => (fW z qX qP qK qN qL qG u.1 ++ (pW z qP P ++ (pW z qK K ++ (mW z qG qT G ++ (pW z qT T ++ (nW z qN u.2 ++ (lW z qL L ++ (sW z qS S))))))))) := ⟨[17, 18, 19, 20, 21, 22, 23, 24, 25, 26, 27, 28, 29, 30, 31, 32, 33, 34, 35, 36, 37, 38, 39, 40, 41, 42, 43, 44, 45, 46, 47, 48, 49, 0, 1, 2, 3, 4, 5, 6, 7, 8, 9, 10, 11, 12, 13, 14, 15, 16], rfl, fun _ => rfl⟩
theorem cut_37 {z : KT} {qX : Nat → Nat} {qS : Nat → Nat} {qL : Nat → Nat} {qN : Nat → Nat} {qG : Nat → Nat} {qP : Nat → Nat} {qK : Nat → Nat} {qT : Nat → Nat} {F : RT} {P : RT} {K : RT} {G : RT} {T : RT} {N : RT} {L : RT} {S : RT} : Cut (fW z qX qP qK qN qL qG F ++ (pW z qP P ++ (pW z qK K ++ (mW z qG qT G ++ (pW z qT T ++ (nW z qN N ++ (lW z qL L ++ (sW z qS S)))))))) (fW z qX qP qK qN qL qG F ++ (pW z qP P ++ (pW z qK K ++ (mW z qG qT G ++ (pW z qT T ++ (nW z qN N ++ (lW z qL L))))))) (sW z qS S) := ⟨[0, 1, 2, 3, 4, 5, 6, 7, 8, 9, 10, 11, 12, 13, 14, 15, 16, 17, 18, 19, 20, 21, 22, 23, 24, 25, 26, 27, 28, 29, 30, 31, 32], [33, 34, 35, 36, 37, 38, 39, 40, 41, 42, 43, 44, 45, 46, 47, 48, 49], rfl, rfl, rfl, rfl, by decide⟩
theorem prm_37 {z : KT} {qX : Nat → Nat} {qS : Nat → Nat} {qL : Nat → Nat} {qN : Nat → Nat} {qG : Nat → Nat} {qP : Nat → Nat} {qK : Nat → Nat} {qT : Nat → Nat} {F : RT} {P : RT} {K : RT} {G : RT} {T : RT} {L : RT} {S : RT} : Prm (S := RT) (sW z qS S) (fun u => (fW z qX qP qK qN qL qG F ++ (pW z qP P ++ (pW z qK K ++ (mW z qG qT G ++ (pW z qT T ++ (nW z qN u ++ (lW z qL L)))))))) (fun u => (fW z qX qP qK qN qL qG F ++ (pW z qP P ++ (pW z qK K ++ (mW z qG qT G ++ (pW z qT T ++ (nW z qN u ++ (lW z qL L ++ (sW z qS S))))))))) := ⟨[17, 18, 19, 20, 21, 22, 23, 24, 25, 26, 27, 28, 29, 30, 31, 32, 33, 34, 35, 36, 37, 38, 39, 40, 41, 42, 43, 44, 45, 46, 47, 48, 49, 0, 1, 2, 3, 4, 5, 6, 7, 8, 9, 10, 11, 12, 13, 14, 15, 16], rfl, fun _ => rfl⟩
theorem cut_38 {z : KT} {qX : Nat → Nat} {qS : Nat → Nat} {qL : Nat → Nat} {qN : Nat → Nat} {qG : Nat → Nat} {qP : Nat → Nat} {qK : Nat → Nat} {qT : Nat → Nat} {F : RT} {P : RT} {K : RT} {G : RT} {T : RT} {N : RT} {L : RT} {S : RT} : Cut (fW z qX qP qK qN qL qG F ++ (pW z qP P ++ (pW z qK K ++ (mW z qG qT G ++ (pW z qT T ++ (nW z qN N ++ (lW z qL L ++ (sW z qS S)))))))) (fW z qX qP qK qN qL qG F ++ (pW z qP P ++ (pW z qK K ++ (mW z qG qT G ++ (pW z qT T ++ (nW z qN N ++ (lW z qL L))))))) (sW z qS S) := ⟨[0, 1, 2, 3, 4, 5, 6, 7, 8, 9, 10, 11, 12, 13, 14, 15, 16, 17, 18, 19, 20, 21, 22, 23, 24, 25, 26, 27, 28, 29, 30, 31, 32], [33, 34, 35, 36, 37, 38, 39, 40, 41, 42, 43, 44, 45, 46, 47, 48, 49], rfl, rfl, rfl, rfl, by decide⟩
theorem prm_38 {z : KT} {qX : Nat → Nat} {qS : Nat → Nat} {qL : Nat → Nat} {qN : Nat → Nat} {qG : Nat → Nat} {qP : Nat → Nat} {qK : Nat → Nat} {qT : Nat → Nat} {P : RT} {G : RT} {T : RT} {N : RT} {L : RT} {S : RT} : Prm (S := RT × RT) (sW z qS S) (fun u => (fW z qX qP qK qN qL qG u.1 ++ (pW z qP P ++ (pW z qK u.2 ++ (mW z qG qT G ++ (pW z qT T ++ (nW z qN N ++ (lW z qL L)))))))) (fun u => (fW z qX qP qK qN qL qG u.1 ++ (pW z qP P ++ (pW z qK u.2 ++ (mW z qG qT G ++ (pW z qT T ++ (nW z qN N ++ (lW z qL L ++ (sW z qS S))))))))) := ⟨[17, 18, 19, 20, 21, 22, 23, 24, 25, 26, 27, 28, 29, 30, 31, 32, 33, 34, 35, 36, 37, 38, 39, 40, 41, 42, 43, 44, 45, 46, 47, 48, 49, 0, 1, 2, 3, 4, 5, 6, 7, 8, 9, 10, 11, 12, 13, 14, 15, 16], rfl, fun _ => rfl⟩
set_option maxHeartbeats 4000000 in
set_option maxRecDepth 100000 in
theorem lc_0 {p : Program} {l : Launch} {e : Env} {s : State} {m : MethodId} {below : List Frame} {meth : Method} {c : Code} {z : KT} {A : Nat → Prop} {b L9 : Nat} {xs : Nat → Int32} {Inv : RT → RT → RT → RT → RT → RT → RT → RT → Prop} {qX : Nat → Nat} {qS : Nat → Nat} {qL : Nat → Nat} {qN : Nat → Nat} {qG : Nat → Nat} {qP : Nat → Nat} {qK : Nat → Nat} {qT : Nat → Nat} (M : Mc p s m #[Value.ref b] meth c code 4 ret R_law z A) (hX : va_X b L9 xs s s.heap) (hbl : b < s.heap.size) (hbA : ¬ A b) (hst : St_letter Inv) (x3 : Int32) (hin : ∀ j : Nat, j < 7 → vp_in (x3 + nI j) L9) (hK : ∀ (F P K G T N L S : RT) (H : Heap) (locs : List Loc) (ls : Array Slot), Inv F P K G T N L S → Hw s z A (fW z qX qP qK qN qL qG F ++ (pW z qP P ++ (pW z qK K ++ (mW z qG qT G ++ (pW z qT T ++ (nW z qN N ++ (lW z qL L ++ (sW z qS S)))))))) H locs → lv_has ls 4 [(0, .ref b), (1, .ref (qX 0)), (2, .ref (qS 0)), (3, .int x3)] → W p l e room_1 s m #[Value.ref b] below meth c H locs 50 946 (lw_Z below #[Value.ref b] s) (F0 m 1463 ls [])) (F P K G T N L S : RT) (H : Heap) (locs : List Loc) (ls : Array Slot) (hI : Inv F P K G T N L S) (hw : Hw s z A (fW z qX qP qK qN qL qG F ++ (pW z qP P ++ (pW z qK K ++ (mW z qG qT G ++ (pW z qT T ++ (nW z qN N ++ (lW z qL L ++ (sW z qS S)))))))) H locs) (hl : lv_has ls 4 [(0, .ref b), (1, .ref (qX 0)), (2, .ref (qS 0)), (3, .int x3)]) : W p l e room_1 s m #[Value.ref b] below meth c H locs 50 946 (lw_Z below #[Value.ref b] s) (F0 m 220 ls []) := by
  obtain ⟨hx, hb, -, -, hown, hts, -, -, -, hN, hsr, -⟩ := id M
  have h := hst F P K G T N L S hI (xs (x3 + (1 : Int32)).toNatClampNeg)
  refine lv_aload_n hx hb dL_law_220 rfl (lv_at hl 1 rfl) ?_
  refine lv_aload_n hx hb dL_law_221 rfl (lv_at hl 0 rfl) ?_
  refine lv_iload_n hx hb dL_law_222 rfl (lv_at hl 3 rfl) ?_
  refine lv_iconst (v := 1) hx hb dL_law_223 (by decide) ?_
  refine lv_iadd hx hb dL_law_224 ?_
  refine va_sld hx hb hX hbl hbA hw.2.2 (hin 1 (by decide)) dL_law_225 ?_
  refine frL_Vi (wN := fun u : RT × RT => (fW z qX qP qK qN qL qG u.1 ++ (pW z qP P ++ (pW z qK K ++ (mW z qG qT G ++ (pW z qT T ++ (nW z qN N ++ (lW z qL u.2 ++ (sW z qS S))))))))) M (m_X6_letter l z qX qL qN qG qP qK qT F P K G T N L (xs (x3 + (1 : Int32)).toNatClampNeg) _ h) (cwV 1 hts (gdV cd_X6_letter ml_L_13 im_X6_letter se_X6_letter in_X6) rfl rfl rfl hdV_X6_letter ⟨(Nat.le_of_ble_eq_true rfl), (Nat.le_of_ble_eq_true rfl)⟩) cut_27 prm_27 0 rfl rfl rfl hw ⟨Nat.le_refl _, Nat.le_refl _⟩ rfl hl.1 rfl (Nat.le_of_ble_eq_true rfl) dL_law_226 (fun r_1 u_ H locs h hw => ?_)
  obtain ⟨F_1, L_1⟩ := u_
  have hw : Hw s z A (fW z qX qP qK qN qL qG F_1 ++ (pW z qP P ++ (pW z qK K ++ (mW z qG qT G ++ (pW z qT T ++ (nW z qN N ++ (lW z qL L_1 ++ (sW z qS S)))))))) H locs := hw
  try dsimp only at h
  refine lv_aload_n hx hb dL_law_229 rfl (lv_at hl 2 rfl) ?_
  refine lv_aload_n hx hb dL_law_230 rfl (lv_at hl 0 rfl) ?_
  refine lv_iload_n hx hb dL_law_231 rfl (lv_at hl 3 rfl) ?_
  refine lv_iconst (v := 1) hx hb dL_law_232 (by decide) ?_
  refine lv_iadd hx hb dL_law_233 ?_
  refine va_sld hx hb hX hbl hbA hw.2.2 (hin 1 (by decide)) dL_law_234 ?_
  refine frL_Vi (wN := fun u : RT => (fW z qX qP qK qN qL qG F_1 ++ (pW z qP P ++ (pW z qK K ++ (mW z qG qT G ++ (pW z qT T ++ (nW z qN N ++ (lW z qL L_1 ++ (sW z qS u))))))))) M (m_X7_letter l z qS S (xs (x3 + (1 : Int32)).toNatClampNeg) _ h) (cwV 1 hts (gdV cd_X7_letter ml_L_17 im_X7_letter se_X7_letter in_X7) rfl rfl rfl hdV_X7_letter ⟨(Nat.le_of_ble_eq_true rfl), (Nat.le_of_ble_eq_true rfl)⟩) cut_28 prm_28 0 rfl rfl rfl hw ⟨Nat.le_refl _, Nat.le_refl _⟩ rfl hl.1 rfl (Nat.le_of_ble_eq_true rfl) dL_law_235 (fun r_2 u_ H locs h hw => ?_)
  obtain ⟨S_2, rfl⟩ : ∃ z9 : RT, z9 = u_ := ⟨_, rfl⟩
  have hw : Hw s z A (fW z qX qP qK qN qL qG F_1 ++ (pW z qP P ++ (pW z qK K ++ (mW z qG qT G ++ (pW z qT T ++ (nW z qN N ++ (lW z qL L_1 ++ (sW z qS S_2)))))))) H locs := hw
  try dsimp only at h
  obtain ⟨er, hI⟩ := h
  subst er
  refine lv_icmp_eq (tgt := 1463) hx hb dL_law_238 (by decide) (fun _ => ?_) (fun c9 => absurd rfl c9)
  exact hK F_1 P K G T N L_1 S_2 H locs ls hI hw hl
set_option maxHeartbeats 4000000 in
set_option maxRecDepth 100000 in
theorem lc_1 {p : Program} {l : Launch} {e : Env} {s : State} {m : MethodId} {below : List Frame} {meth : Method} {c : Code} {z : KT} {A : Nat → Prop} {b L9 : Nat} {xs : Nat → Int32} {Inv : RT → RT → RT → RT → RT → RT → RT → RT → Prop} {qX : Nat → Nat} {qS : Nat → Nat} {qL : Nat → Nat} {qN : Nat → Nat} {qG : Nat → Nat} {qP : Nat → Nat} {qK : Nat → Nat} {qT : Nat → Nat} (M : Mc p s m #[Value.ref b] meth c code 4 ret R_law z A) (hX : va_X b L9 xs s s.heap) (hbl : b < s.heap.size) (hbA : ¬ A b) (hst : St_port Inv) (x3 : Int32) (hin : ∀ j : Nat, j < 7 → vp_in (x3 + nI j) L9) (hK : ∀ (F P K G T N L S : RT) (H : Heap) (locs : List Loc) (ls : Array Slot), Inv F P K G T N L S → Hw s z A (fW z qX qP qK qN qL qG F ++ (pW z qP P ++ (pW z qK K ++ (mW z qG qT G ++ (pW z qT T ++ (nW z qN N ++ (lW z qL L ++ (sW z qS S)))))))) H locs → lv_has ls 4 [(0, .ref b), (1, .ref (qX 0)), (2, .ref (qS 0)), (3, .int x3)] → W p l e room_1 s m #[Value.ref b] below meth c H locs 50 946 (lw_Z below #[Value.ref b] s) (F0 m 1463 ls [])) (F P K G T N L S : RT) (H : Heap) (locs : List Loc) (ls : Array Slot) (hI : Inv F P K G T N L S) (hw : Hw s z A (fW z qX qP qK qN qL qG F ++ (pW z qP P ++ (pW z qK K ++ (mW z qG qT G ++ (pW z qT T ++ (nW z qN N ++ (lW z qL L ++ (sW z qS S)))))))) H locs) (hl : lv_has ls 4 [(0, .ref b), (1, .ref (qX 0)), (2, .ref (qS 0)), (3, .int x3)]) : W p l e room_1 s m #[Value.ref b] below meth c H locs 50 946 (lw_Z below #[Value.ref b] s) (F0 m 243 ls []) := by
  obtain ⟨hx, hb, -, -, hown, hts, -, -, -, hN, hsr, -⟩ := id M
  have h := hst F P K G T N L S hI
  refine lv_aload_n hx hb dL_law_243 rfl (lv_at hl 1 rfl) ?_
  refine frL_Vi (wN := fun u : RT × RT × RT => (fW z qX qP qK qN qL qG F ++ (pW z qP u.1 ++ (pW z qK K ++ (mW z qG qT G ++ (pW z qT u.2.1 ++ (nW z qN N ++ (lW z qL u.2.2 ++ (sW z qS S))))))))) M (m_X6_port l z qX qL qN qG qP qK qT F P K G T N L _ h) (cwV 0 hts (gdV cd_X6_port ml_L_18 im_X6_port se_X6_port in_X6) rfl rfl rfl hdV_X6_port ⟨(Nat.le_of_ble_eq_true rfl), (Nat.le_of_ble_eq_true rfl)⟩) cut_29 prm_29 0 rfl rfl rfl hw ⟨Nat.le_refl _, Nat.le_refl _⟩ rfl hl.1 rfl (Nat.le_of_ble_eq_true rfl) dL_law_244 (fun r_1 u_ H locs h hw => ?_)
  obtain ⟨P_1, T_1, L_1⟩ := u_
  have hw : Hw s z A (fW z qX qP qK qN qL qG F ++ (pW z qP P_1 ++ (pW z qK K ++ (mW z qG qT G ++ (pW z qT T_1 ++ (nW z qN N ++ (lW z qL L_1 ++ (sW z qS S)))))))) H locs := hw
  try dsimp only at h
  refine lv_aload_n hx hb dL_law_247 rfl (lv_at hl 2 rfl) ?_
  refine frL_Vi (wN := fun u : RT => (fW z qX qP qK qN qL qG F ++ (pW z qP P_1 ++ (pW z qK K ++ (mW z qG qT G ++ (pW z qT T_1 ++ (nW z qN N ++ (lW z qL L_1 ++ (sW z qS u))))))))) M (m_X7_port l z qS S _ h) (cwV 0 hts (gdV cd_X7_port ml_L_22 im_X7_port se_X7_port in_X7) rfl rfl rfl hdV_X7_port ⟨(Nat.le_of_ble_eq_true rfl), (Nat.le_of_ble_eq_true rfl)⟩) cut_28 prm_28 0 rfl rfl rfl hw ⟨Nat.le_refl _, Nat.le_refl _⟩ rfl hl.1 rfl (Nat.le_of_ble_eq_true rfl) dL_law_248 (fun r_2 u_ H locs h hw => ?_)
  obtain ⟨S_2, rfl⟩ : ∃ z9 : RT, z9 = u_ := ⟨_, rfl⟩
  have hw : Hw s z A (fW z qX qP qK qN qL qG F ++ (pW z qP P_1 ++ (pW z qK K ++ (mW z qG qT G ++ (pW z qT T_1 ++ (nW z qN N ++ (lW z qL L_1 ++ (sW z qS S_2)))))))) H locs := hw
  try dsimp only at h
  obtain ⟨er, hI⟩ := h
  subst er
  refine lv_icmp_eq (tgt := 1463) hx hb dL_law_251 (by decide) (fun _ => ?_) (fun c9 => absurd rfl c9)
  exact hK F P_1 K G T_1 N L_1 S_2 H locs ls hI hw hl
set_option maxHeartbeats 4000000 in
set_option maxRecDepth 100000 in
theorem lc_2 {p : Program} {l : Launch} {e : Env} {s : State} {m : MethodId} {below : List Frame} {meth : Method} {c : Code} {z : KT} {A : Nat → Prop} {b L9 : Nat} {xs : Nat → Int32} {Inv : RT → RT → RT → RT → RT → RT → RT → RT → Prop} {qX : Nat → Nat} {qS : Nat → Nat} {qL : Nat → Nat} {qN : Nat → Nat} {qG : Nat → Nat} {qP : Nat → Nat} {qK : Nat → Nat} {qT : Nat → Nat} (M : Mc p s m #[Value.ref b] meth c code 4 ret R_law z A) (hX : va_X b L9 xs s s.heap) (hbl : b < s.heap.size) (hbA : ¬ A b) (hst : St_thing Inv) (x3 : Int32) (hin : ∀ j : Nat, j < 7 → vp_in (x3 + nI j) L9) (hK : ∀ (F P K G T N L S : RT) (H : Heap) (locs : List Loc) (ls : Array Slot), Inv F P K G T N L S → Hw s z A (fW z qX qP qK qN qL qG F ++ (pW z qP P ++ (pW z qK K ++ (mW z qG qT G ++ (pW z qT T ++ (nW z qN N ++ (lW z qL L ++ (sW z qS S)))))))) H locs → lv_has ls 4 [(0, .ref b), (1, .ref (qX 0)), (2, .ref (qS 0)), (3, .int x3)] → W p l e room_1 s m #[Value.ref b] below meth c H locs 50 946 (lw_Z below #[Value.ref b] s) (F0 m 1463 ls [])) (F P K G T N L S : RT) (H : Heap) (locs : List Loc) (ls : Array Slot) (hI : Inv F P K G T N L S) (hw : Hw s z A (fW z qX qP qK qN qL qG F ++ (pW z qP P ++ (pW z qK K ++ (mW z qG qT G ++ (pW z qT T ++ (nW z qN N ++ (lW z qL L ++ (sW z qS S)))))))) H locs) (hl : lv_has ls 4 [(0, .ref b), (1, .ref (qX 0)), (2, .ref (qS 0)), (3, .int x3)]) : W p l e room_1 s m #[Value.ref b] below meth c H locs 50 946 (lw_Z below #[Value.ref b] s) (F0 m 256 ls []) := by
  obtain ⟨hx, hb, -, -, hown, hts, -, -, -, hN, hsr, -⟩ := id M
  have h := hst F P K G T N L S hI (xs (x3 + (1 : Int32)).toNatClampNeg) (xs (x3 + (2 : Int32)).toNatClampNeg)
  refine lv_aload_n hx hb dL_law_256 rfl (lv_at hl 1 rfl) ?_
  refine lv_aload_n hx hb dL_law_257 rfl (lv_at hl 0 rfl) ?_
  refine lv_iload_n hx hb dL_law_258 rfl (lv_at hl 3 rfl) ?_
  refine lv_iconst (v := 1) hx hb dL_law_259 (by decide) ?_
  refine lv_iadd hx hb dL_law_260 ?_
  refine va_sld hx hb hX hbl hbA hw.2.2 (hin 1 (by decide)) dL_law_261 ?_
  refine lv_aload_n hx hb dL_law_262 rfl (lv_at hl 0 rfl) ?_
  refine lv_iload_n hx hb dL_law_263 rfl (lv_at hl 3 rfl) ?_
  refine lv_iconst (v := 2) hx hb dL_law_264 (by decide) ?_
  refine lv_iadd hx hb dL_law_265 ?_
  refine va_sld hx hb hX hbl hbA hw.2.2 (hin 2 (by decide)) dL_law_266 ?_
  refine frL_Vi (wN := fun u : RT => (fW z qX qP qK qN qL qG u ++ (pW z qP P ++ (pW z qK K ++ (mW z qG qT G ++ (pW z qT T ++ (nW z qN N ++ (lW z qL L ++ (sW z qS S))))))))) M (m_X6_thing l z qX qL qN qG qP qK qT F P K G T N L (xs (x3 + (1 : Int32)).toNatClampNeg) (xs (x3 + (2 : Int32)).toNatClampNeg) _ h) (cwV 2 hts (gdV cd_X6_thing ml_L_23 im_X6_thing se_X6_thing in_X6) rfl rfl rfl hdV_X6_thing ⟨(Nat.le_of_ble_eq_true rfl), (Nat.le_of_ble_eq_true rfl)⟩) cut_30 prm_30 0 rfl rfl rfl hw ⟨Nat.le_refl _, Nat.le_refl _⟩ rfl hl.1 rfl (Nat.le_of_ble_eq_true rfl) dL_law_267 (fun r_1 u_ H locs h hw => ?_)
  obtain ⟨F_1, rfl⟩ : ∃ z9 : RT, z9 = u_ := ⟨_, rfl⟩
  have hw : Hw s z A (fW z qX qP qK qN qL qG F_1 ++ (pW z qP P ++ (pW z qK K ++ (mW z qG qT G ++ (pW z qT T ++ (nW z qN N ++ (lW z qL L ++ (sW z qS S)))))))) H locs := hw
  try dsimp only at h
  refine lv_aload_n hx hb dL_law_270 rfl (lv_at hl 2 rfl) ?_
  refine lv_aload_n hx hb dL_law_271 rfl (lv_at hl 0 rfl) ?_
  refine lv_iload_n hx hb dL_law_272 rfl (lv_at hl 3 rfl) ?_
  refine lv_iconst (v := 1) hx hb dL_law_273 (by decide) ?_
  refine lv_iadd hx hb dL_law_274 ?_
  refine va_sld hx hb hX hbl hbA hw.2.2 (hin 1 (by decide)) dL_law_275 ?_
  refine lv_aload_n hx hb dL_law_276 rfl (lv_at hl 0 rfl) ?_
  refine lv_iload_n hx hb dL_law_277 rfl (lv_at hl 3 rfl) ?_
  refine lv_iconst (v := 2) hx hb dL_law_278 (by decide) ?_
  refine lv_iadd hx hb dL_law_279 ?_
  refine va_sld hx hb hX hbl hbA hw.2.2 (hin 2 (by decide)) dL_law_280 ?_
  refine frL_Vi (wN := fun u : RT => (fW z qX qP qK qN qL qG F_1 ++ (pW z qP P ++ (pW z qK K ++ (mW z qG qT G ++ (pW z qT T ++ (nW z qN N ++ (lW z qL L ++ (sW z qS u))))))))) M (m_X7_thing l z qS S (xs (x3 + (1 : Int32)).toNatClampNeg) (xs (x3 + (2 : Int32)).toNatClampNeg) _ h) (cwV 2 hts (gdV cd_X7_thing ml_L_27 im_X7_thing se_X7_thing in_X7) rfl rfl rfl hdV_X7_thing ⟨(Nat.le_of_ble_eq_true rfl), (Nat.le_of_ble_eq_true rfl)⟩) cut_28 prm_28 0 rfl rfl rfl hw ⟨Nat.le_refl _, Nat.le_refl _⟩ rfl hl.1 rfl (Nat.le_of_ble_eq_true rfl) dL_law_281 (fun r_2 u_ H locs h hw => ?_)
  obtain ⟨S_2, rfl⟩ : ∃ z9 : RT, z9 = u_ := ⟨_, rfl⟩
  have hw : Hw s z A (fW z qX qP qK qN qL qG F_1 ++ (pW z qP P ++ (pW z qK K ++ (mW z qG qT G ++ (pW z qT T ++ (nW z qN N ++ (lW z qL L ++ (sW z qS S_2)))))))) H locs := hw
  try dsimp only at h
  obtain ⟨er, hI⟩ := h
  subst er
  refine lv_icmp_eq (tgt := 1463) hx hb dL_law_284 (by decide) (fun _ => ?_) (fun c9 => absurd rfl c9)
  exact hK F_1 P K G T N L S_2 H locs ls hI hw hl
set_option maxHeartbeats 4000000 in
set_option maxRecDepth 100000 in
theorem lc_3 {p : Program} {l : Launch} {e : Env} {s : State} {m : MethodId} {below : List Frame} {meth : Method} {c : Code} {z : KT} {A : Nat → Prop} {b L9 : Nat} {xs : Nat → Int32} {Inv : RT → RT → RT → RT → RT → RT → RT → RT → Prop} {qX : Nat → Nat} {qS : Nat → Nat} {qL : Nat → Nat} {qN : Nat → Nat} {qG : Nat → Nat} {qP : Nat → Nat} {qK : Nat → Nat} {qT : Nat → Nat} (M : Mc p s m #[Value.ref b] meth c code 4 ret R_law z A) (hX : va_X b L9 xs s s.heap) (hbl : b < s.heap.size) (hbA : ¬ A b) (hst : St_rope Inv) (x3 : Int32) (hin : ∀ j : Nat, j < 7 → vp_in (x3 + nI j) L9) (hK : ∀ (F P K G T N L S : RT) (H : Heap) (locs : List Loc) (ls : Array Slot), Inv F P K G T N L S → Hw s z A (fW z qX qP qK qN qL qG F ++ (pW z qP P ++ (pW z qK K ++ (mW z qG qT G ++ (pW z qT T ++ (nW z qN N ++ (lW z qL L ++ (sW z qS S)))))))) H locs → lv_has ls 4 [(0, .ref b), (1, .ref (qX 0)), (2, .ref (qS 0)), (3, .int x3)] → W p l e room_1 s m #[Value.ref b] below meth c H locs 50 946 (lw_Z below #[Value.ref b] s) (F0 m 1463 ls [])) (F P K G T N L S : RT) (H : Heap) (locs : List Loc) (ls : Array Slot) (hI : Inv F P K G T N L S) (hw : Hw s z A (fW z qX qP qK qN qL qG F ++ (pW z qP P ++ (pW z qK K ++ (mW z qG qT G ++ (pW z qT T ++ (nW z qN N ++ (lW z qL L ++ (sW z qS S)))))))) H locs) (hl : lv_has ls 4 [(0, .ref b), (1, .ref (qX 0)), (2, .ref (qS 0)), (3, .int x3)]) : W p l e room_1 s m #[Value.ref b] below meth c H locs 50 946 (lw_Z below #[Value.ref b] s) (F0 m 289 ls []) := by
  obtain ⟨hx, hb, -, -, hown, hts, -, -, -, hN, hsr, -⟩ := id M
  have h := hst F P K G T N L S hI (xs (x3 + (1 : Int32)).toNatClampNeg) (xs (x3 + (2 : Int32)).toNatClampNeg)
  refine lv_aload_n hx hb dL_law_289 rfl (lv_at hl 1 rfl) ?_
  refine lv_aload_n hx hb dL_law_290 rfl (lv_at hl 0 rfl) ?_
  refine lv_iload_n hx hb dL_law_291 rfl (lv_at hl 3 rfl) ?_
  refine lv_iconst (v := 1) hx hb dL_law_292 (by decide) ?_
  refine lv_iadd hx hb dL_law_293 ?_
  refine va_sld hx hb hX hbl hbA hw.2.2 (hin 1 (by decide)) dL_law_294 ?_
  refine lv_aload_n hx hb dL_law_295 rfl (lv_at hl 0 rfl) ?_
  refine lv_iload_n hx hb dL_law_296 rfl (lv_at hl 3 rfl) ?_
  refine lv_iconst (v := 2) hx hb dL_law_297 (by decide) ?_
  refine lv_iadd hx hb dL_law_298 ?_
  refine va_sld hx hb hX hbl hbA hw.2.2 (hin 2 (by decide)) dL_law_299 ?_
  refine frL_Vi (wN := fun u : RT => (fW z qX qP qK qN qL qG u ++ (pW z qP P ++ (pW z qK K ++ (mW z qG qT G ++ (pW z qT T ++ (nW z qN N ++ (lW z qL L ++ (sW z qS S))))))))) M (m_X6_rope l z qX qL qN qG qP qK qT F P K G T N L (xs (x3 + (1 : Int32)).toNatClampNeg) (xs (x3 + (2 : Int32)).toNatClampNeg) _ h) (cwV 2 hts (gdV cd_X6_rope ml_L_28 im_X6_rope se_X6_rope in_X6) rfl rfl rfl hdV_X6_rope ⟨(Nat.le_of_ble_eq_true rfl), (Nat.le_of_ble_eq_true rfl)⟩) cut_30 prm_30 0 rfl rfl rfl hw ⟨Nat.le_refl _, Nat.le_refl _⟩ rfl hl.1 rfl (Nat.le_of_ble_eq_true rfl) dL_law_300 (fun r_1 u_ H locs h hw => ?_)
  obtain ⟨F_1, rfl⟩ : ∃ z9 : RT, z9 = u_ := ⟨_, rfl⟩
  have hw : Hw s z A (fW z qX qP qK qN qL qG F_1 ++ (pW z qP P ++ (pW z qK K ++ (mW z qG qT G ++ (pW z qT T ++ (nW z qN N ++ (lW z qL L ++ (sW z qS S)))))))) H locs := hw
  try dsimp only at h
  refine lv_aload_n hx hb dL_law_303 rfl (lv_at hl 2 rfl) ?_
  refine lv_aload_n hx hb dL_law_304 rfl (lv_at hl 0 rfl) ?_
  refine lv_iload_n hx hb dL_law_305 rfl (lv_at hl 3 rfl) ?_
  refine lv_iconst (v := 1) hx hb dL_law_306 (by decide) ?_
  refine lv_iadd hx hb dL_law_307 ?_
  refine va_sld hx hb hX hbl hbA hw.2.2 (hin 1 (by decide)) dL_law_308 ?_
  refine lv_aload_n hx hb dL_law_309 rfl (lv_at hl 0 rfl) ?_
  refine lv_iload_n hx hb dL_law_310 rfl (lv_at hl 3 rfl) ?_
  refine lv_iconst (v := 2) hx hb dL_law_311 (by decide) ?_
  refine lv_iadd hx hb dL_law_312 ?_
  refine va_sld hx hb hX hbl hbA hw.2.2 (hin 2 (by decide)) dL_law_313 ?_
  refine frL_Vi (wN := fun u : RT => (fW z qX qP qK qN qL qG F_1 ++ (pW z qP P ++ (pW z qK K ++ (mW z qG qT G ++ (pW z qT T ++ (nW z qN N ++ (lW z qL L ++ (sW z qS u))))))))) M (m_X7_rope l z qS S (xs (x3 + (1 : Int32)).toNatClampNeg) (xs (x3 + (2 : Int32)).toNatClampNeg) _ h) (cwV 2 hts (gdV cd_X7_rope ml_L_31 im_X7_rope se_X7_rope in_X7) rfl rfl rfl hdV_X7_rope ⟨(Nat.le_of_ble_eq_true rfl), (Nat.le_of_ble_eq_true rfl)⟩) cut_28 prm_28 0 rfl rfl rfl hw ⟨Nat.le_refl _, Nat.le_refl _⟩ rfl hl.1 rfl (Nat.le_of_ble_eq_true rfl) dL_law_314 (fun r_2 u_ H locs h hw => ?_)
  obtain ⟨S_2, rfl⟩ : ∃ z9 : RT, z9 = u_ := ⟨_, rfl⟩
  have hw : Hw s z A (fW z qX qP qK qN qL qG F_1 ++ (pW z qP P ++ (pW z qK K ++ (mW z qG qT G ++ (pW z qT T ++ (nW z qN N ++ (lW z qL L ++ (sW z qS S_2)))))))) H locs := hw
  try dsimp only at h
  obtain ⟨er, hI⟩ := h
  subst er
  refine lv_icmp_eq (tgt := 1463) hx hb dL_law_317 (by decide) (fun _ => ?_) (fun c9 => absurd rfl c9)
  exact hK F_1 P K G T N L S_2 H locs ls hI hw hl
set_option maxHeartbeats 4000000 in
set_option maxRecDepth 100000 in
theorem lc_4 {p : Program} {l : Launch} {e : Env} {s : State} {m : MethodId} {below : List Frame} {meth : Method} {c : Code} {z : KT} {A : Nat → Prop} {b L9 : Nat} {xs : Nat → Int32} {Inv : RT → RT → RT → RT → RT → RT → RT → RT → Prop} {qX : Nat → Nat} {qS : Nat → Nat} {qL : Nat → Nat} {qN : Nat → Nat} {qG : Nat → Nat} {qP : Nat → Nat} {qK : Nat → Nat} {qT : Nat → Nat} (M : Mc p s m #[Value.ref b] meth c code 4 ret R_law z A) (hX : va_X b L9 xs s s.heap) (hbl : b < s.heap.size) (hbA : ¬ A b) (hst : St_ties Inv) (x3 : Int32) (hin : ∀ j : Nat, j < 7 → vp_in (x3 + nI j) L9) (hK : ∀ (F P K G T N L S : RT) (H : Heap) (locs : List Loc) (ls : Array Slot), Inv F P K G T N L S → Hw s z A (fW z qX qP qK qN qL qG F ++ (pW z qP P ++ (pW z qK K ++ (mW z qG qT G ++ (pW z qT T ++ (nW z qN N ++ (lW z qL L ++ (sW z qS S)))))))) H locs → lv_has ls 4 [(0, .ref b), (1, .ref (qX 0)), (2, .ref (qS 0)), (3, .int x3)] → W p l e room_1 s m #[Value.ref b] below meth c H locs 50 946 (lw_Z below #[Value.ref b] s) (F0 m 1463 ls [])) (F P K G T N L S : RT) (H : Heap) (locs : List Loc) (ls : Array Slot) (hI : Inv F P K G T N L S) (hw : Hw s z A (fW z qX qP qK qN qL qG F ++ (pW z qP P ++ (pW z qK K ++ (mW z qG qT G ++ (pW z qT T ++ (nW z qN N ++ (lW z qL L ++ (sW z qS S)))))))) H locs) (hl : lv_has ls 4 [(0, .ref b), (1, .ref (qX 0)), (2, .ref (qS 0)), (3, .int x3)]) : W p l e room_1 s m #[Value.ref b] below meth c H locs 50 946 (lw_Z below #[Value.ref b] s) (F0 m 322 ls []) := by
  obtain ⟨hx, hb, -, -, hown, hts, -, -, -, hN, hsr, -⟩ := id M
  have h := hst F P K G T N L S hI (xs (x3 + (1 : Int32)).toNatClampNeg) (xs (x3 + (2 : Int32)).toNatClampNeg)
  refine lv_aload_n hx hb dL_law_322 rfl (lv_at hl 1 rfl) ?_
  refine lv_aload_n hx hb dL_law_323 rfl (lv_at hl 0 rfl) ?_
  refine lv_iload_n hx hb dL_law_324 rfl (lv_at hl 3 rfl) ?_
  refine lv_iconst (v := 1) hx hb dL_law_325 (by decide) ?_
  refine lv_iadd hx hb dL_law_326 ?_
  refine va_sld hx hb hX hbl hbA hw.2.2 (hin 1 (by decide)) dL_law_327 ?_
  refine lv_aload_n hx hb dL_law_328 rfl (lv_at hl 0 rfl) ?_
  refine lv_iload_n hx hb dL_law_329 rfl (lv_at hl 3 rfl) ?_
  refine lv_iconst (v := 2) hx hb dL_law_330 (by decide) ?_
  refine lv_iadd hx hb dL_law_331 ?_
  refine va_sld hx hb hX hbl hbA hw.2.2 (hin 2 (by decide)) dL_law_332 ?_
  refine frL_Vi (wN := fun u : RT × RT => (fW z qX qP qK qN qL qG u.1 ++ (pW z qP u.2 ++ (pW z qK K ++ (mW z qG qT G ++ (pW z qT T ++ (nW z qN N ++ (lW z qL L ++ (sW z qS S))))))))) M (m_X6_ties l z qX qL qN qG qP qK qT F P K G T N L (xs (x3 + (1 : Int32)).toNatClampNeg) (xs (x3 + (2 : Int32)).toNatClampNeg) _ h) (cwV 2 hts (gdV cd_X6_ties ml_L_32 im_X6_ties se_X6_ties in_X6) rfl rfl rfl hdV_X6_ties ⟨(Nat.le_of_ble_eq_true rfl), (Nat.le_of_ble_eq_true rfl)⟩) cut_31 prm_31 0 rfl rfl rfl hw ⟨Nat.le_refl _, Nat.le_refl _⟩ rfl hl.1 rfl (Nat.le_of_ble_eq_true rfl) dL_law_333 (fun r_1 u_ H locs h hw => ?_)
  obtain ⟨F_1, P_1⟩ := u_
  have hw : Hw s z A (fW z qX qP qK qN qL qG F_1 ++ (pW z qP P_1 ++ (pW z qK K ++ (mW z qG qT G ++ (pW z qT T ++ (nW z qN N ++ (lW z qL L ++ (sW z qS S)))))))) H locs := hw
  try dsimp only at h
  refine lv_aload_n hx hb dL_law_336 rfl (lv_at hl 2 rfl) ?_
  refine lv_aload_n hx hb dL_law_337 rfl (lv_at hl 0 rfl) ?_
  refine lv_iload_n hx hb dL_law_338 rfl (lv_at hl 3 rfl) ?_
  refine lv_iconst (v := 1) hx hb dL_law_339 (by decide) ?_
  refine lv_iadd hx hb dL_law_340 ?_
  refine va_sld hx hb hX hbl hbA hw.2.2 (hin 1 (by decide)) dL_law_341 ?_
  refine lv_aload_n hx hb dL_law_342 rfl (lv_at hl 0 rfl) ?_
  refine lv_iload_n hx hb dL_law_343 rfl (lv_at hl 3 rfl) ?_
  refine lv_iconst (v := 2) hx hb dL_law_344 (by decide) ?_
  refine lv_iadd hx hb dL_law_345 ?_
  refine va_sld hx hb hX hbl hbA hw.2.2 (hin 2 (by decide)) dL_law_346 ?_
  refine frL_Vi (wN := fun u : RT => (fW z qX qP qK qN qL qG F_1 ++ (pW z qP P_1 ++ (pW z qK K ++ (mW z qG qT G ++ (pW z qT T ++ (nW z qN N ++ (lW z qL L ++ (sW z qS u))))))))) M (m_X7_ties l z qS S (xs (x3 + (1 : Int32)).toNatClampNeg) (xs (x3 + (2 : Int32)).toNatClampNeg) _ h) (cwV 2 hts (gdV cd_X7_ties ml_L_35 im_X7_ties se_X7_ties in_X7) rfl rfl rfl hdV_X7_ties ⟨(Nat.le_of_ble_eq_true rfl), (Nat.le_of_ble_eq_true rfl)⟩) cut_28 prm_28 0 rfl rfl rfl hw ⟨Nat.le_refl _, Nat.le_refl _⟩ rfl hl.1 rfl (Nat.le_of_ble_eq_true rfl) dL_law_347 (fun r_2 u_ H locs h hw => ?_)
  obtain ⟨S_2, rfl⟩ : ∃ z9 : RT, z9 = u_ := ⟨_, rfl⟩
  have hw : Hw s z A (fW z qX qP qK qN qL qG F_1 ++ (pW z qP P_1 ++ (pW z qK K ++ (mW z qG qT G ++ (pW z qT T ++ (nW z qN N ++ (lW z qL L ++ (sW z qS S_2)))))))) H locs := hw
  try dsimp only at h
  obtain ⟨er, hI⟩ := h
  subst er
  refine lv_icmp_eq (tgt := 1463) hx hb dL_law_350 (by decide) (fun _ => ?_) (fun c9 => absurd rfl c9)
  exact hK F_1 P_1 K G T N L S_2 H locs ls hI hw hl
set_option maxHeartbeats 4000000 in
set_option maxRecDepth 100000 in
theorem lc_5 {p : Program} {l : Launch} {e : Env} {s : State} {m : MethodId} {below : List Frame} {meth : Method} {c : Code} {z : KT} {A : Nat → Prop} {b L9 : Nat} {xs : Nat → Int32} {Inv : RT → RT → RT → RT → RT → RT → RT → RT → Prop} {qX : Nat → Nat} {qS : Nat → Nat} {qL : Nat → Nat} {qN : Nat → Nat} {qG : Nat → Nat} {qP : Nat → Nat} {qK : Nat → Nat} {qT : Nat → Nat} (M : Mc p s m #[Value.ref b] meth c code 4 ret R_law z A) (hX : va_X b L9 xs s s.heap) (hbl : b < s.heap.size) (hbA : ¬ A b) (hst : St_cuts Inv) (x3 : Int32) (hin : ∀ j : Nat, j < 7 → vp_in (x3 + nI j) L9) (hK : ∀ (F P K G T N L S : RT) (H : Heap) (locs : List Loc) (ls : Array Slot), Inv F P K G T N L S → Hw s z A (fW z qX qP qK qN qL qG F ++ (pW z qP P ++ (pW z qK K ++ (mW z qG qT G ++ (pW z qT T ++ (nW z qN N ++ (lW z qL L ++ (sW z qS S)))))))) H locs → lv_has ls 4 [(0, .ref b), (1, .ref (qX 0)), (2, .ref (qS 0)), (3, .int x3)] → W p l e room_1 s m #[Value.ref b] below meth c H locs 50 946 (lw_Z below #[Value.ref b] s) (F0 m 1463 ls [])) (F P K G T N L S : RT) (H : Heap) (locs : List Loc) (ls : Array Slot) (hI : Inv F P K G T N L S) (hw : Hw s z A (fW z qX qP qK qN qL qG F ++ (pW z qP P ++ (pW z qK K ++ (mW z qG qT G ++ (pW z qT T ++ (nW z qN N ++ (lW z qL L ++ (sW z qS S)))))))) H locs) (hl : lv_has ls 4 [(0, .ref b), (1, .ref (qX 0)), (2, .ref (qS 0)), (3, .int x3)]) : W p l e room_1 s m #[Value.ref b] below meth c H locs 50 946 (lw_Z below #[Value.ref b] s) (F0 m 355 ls []) := by
  obtain ⟨hx, hb, -, -, hown, hts, -, -, -, hN, hsr, -⟩ := id M
  have h := hst F P K G T N L S hI (xs (x3 + (1 : Int32)).toNatClampNeg)
  refine lv_aload_n hx hb dL_law_355 rfl (lv_at hl 1 rfl) ?_
  refine lv_aload_n hx hb dL_law_356 rfl (lv_at hl 0 rfl) ?_
  refine lv_iload_n hx hb dL_law_357 rfl (lv_at hl 3 rfl) ?_
  refine lv_iconst (v := 1) hx hb dL_law_358 (by decide) ?_
  refine lv_iadd hx hb dL_law_359 ?_
  refine va_sld hx hb hX hbl hbA hw.2.2 (hin 1 (by decide)) dL_law_360 ?_
  refine frL_Vi (wN := fun u : RT × RT => (fW z qX qP qK qN qL qG u.1 ++ (pW z qP u.2 ++ (pW z qK K ++ (mW z qG qT G ++ (pW z qT T ++ (nW z qN N ++ (lW z qL L ++ (sW z qS S))))))))) M (m_X6_cuts l z qX qL qN qG qP qK qT F P K G T N L (xs (x3 + (1 : Int32)).toNatClampNeg) _ h) (cwV 1 hts (gdV cd_X6_cuts ml_L_36 im_X6_cuts se_X6_cuts in_X6) rfl rfl rfl hdV_X6_cuts ⟨(Nat.le_of_ble_eq_true rfl), (Nat.le_of_ble_eq_true rfl)⟩) cut_31 prm_31 0 rfl rfl rfl hw ⟨Nat.le_refl _, Nat.le_refl _⟩ rfl hl.1 rfl (Nat.le_of_ble_eq_true rfl) dL_law_361 (fun r_1 u_ H locs h hw => ?_)
  obtain ⟨F_1, P_1⟩ := u_
  have hw : Hw s z A (fW z qX qP qK qN qL qG F_1 ++ (pW z qP P_1 ++ (pW z qK K ++ (mW z qG qT G ++ (pW z qT T ++ (nW z qN N ++ (lW z qL L ++ (sW z qS S)))))))) H locs := hw
  try dsimp only at h
  refine lv_aload_n hx hb dL_law_364 rfl (lv_at hl 2 rfl) ?_
  refine lv_aload_n hx hb dL_law_365 rfl (lv_at hl 0 rfl) ?_
  refine lv_iload_n hx hb dL_law_366 rfl (lv_at hl 3 rfl) ?_
  refine lv_iconst (v := 1) hx hb dL_law_367 (by decide) ?_
  refine lv_iadd hx hb dL_law_368 ?_
  refine va_sld hx hb hX hbl hbA hw.2.2 (hin 1 (by decide)) dL_law_369 ?_
  refine frL_Vi (wN := fun u : RT => (fW z qX qP qK qN qL qG F_1 ++ (pW z qP P_1 ++ (pW z qK K ++ (mW z qG qT G ++ (pW z qT T ++ (nW z qN N ++ (lW z qL L ++ (sW z qS u))))))))) M (m_X7_cuts l z qS S (xs (x3 + (1 : Int32)).toNatClampNeg) _ h) (cwV 1 hts (gdV cd_X7_cuts ml_L_39 im_X7_cuts se_X7_cuts in_X7) rfl rfl rfl hdV_X7_cuts ⟨(Nat.le_of_ble_eq_true rfl), (Nat.le_of_ble_eq_true rfl)⟩) cut_28 prm_28 0 rfl rfl rfl hw ⟨Nat.le_refl _, Nat.le_refl _⟩ rfl hl.1 rfl (Nat.le_of_ble_eq_true rfl) dL_law_370 (fun r_2 u_ H locs h hw => ?_)
  obtain ⟨S_2, rfl⟩ : ∃ z9 : RT, z9 = u_ := ⟨_, rfl⟩
  have hw : Hw s z A (fW z qX qP qK qN qL qG F_1 ++ (pW z qP P_1 ++ (pW z qK K ++ (mW z qG qT G ++ (pW z qT T ++ (nW z qN N ++ (lW z qL L ++ (sW z qS S_2)))))))) H locs := hw
  try dsimp only at h
  obtain ⟨er, hI⟩ := h
  subst er
  refine lv_icmp_eq (tgt := 1463) hx hb dL_law_373 (by decide) (fun _ => ?_) (fun c9 => absurd rfl c9)
  exact hK F_1 P_1 K G T N L S_2 H locs ls hI hw hl
set_option maxHeartbeats 4000000 in
set_option maxRecDepth 100000 in
theorem lc_6 {p : Program} {l : Launch} {e : Env} {s : State} {m : MethodId} {below : List Frame} {meth : Method} {c : Code} {z : KT} {A : Nat → Prop} {b L9 : Nat} {xs : Nat → Int32} {Inv : RT → RT → RT → RT → RT → RT → RT → RT → Prop} {qX : Nat → Nat} {qS : Nat → Nat} {qL : Nat → Nat} {qN : Nat → Nat} {qG : Nat → Nat} {qP : Nat → Nat} {qK : Nat → Nat} {qT : Nat → Nat} (M : Mc p s m #[Value.ref b] meth c code 4 ret R_law z A) (hX : va_X b L9 xs s s.heap) (hbl : b < s.heap.size) (hbA : ¬ A b) (hst : St_stones Inv) (x3 : Int32) (hin : ∀ j : Nat, j < 7 → vp_in (x3 + nI j) L9) (hK : ∀ (F P K G T N L S : RT) (H : Heap) (locs : List Loc) (ls : Array Slot), Inv F P K G T N L S → Hw s z A (fW z qX qP qK qN qL qG F ++ (pW z qP P ++ (pW z qK K ++ (mW z qG qT G ++ (pW z qT T ++ (nW z qN N ++ (lW z qL L ++ (sW z qS S)))))))) H locs → lv_has ls 4 [(0, .ref b), (1, .ref (qX 0)), (2, .ref (qS 0)), (3, .int x3)] → W p l e room_1 s m #[Value.ref b] below meth c H locs 50 946 (lw_Z below #[Value.ref b] s) (F0 m 1463 ls [])) (F P K G T N L S : RT) (H : Heap) (locs : List Loc) (ls : Array Slot) (hI : Inv F P K G T N L S) (hw : Hw s z A (fW z qX qP qK qN qL qG F ++ (pW z qP P ++ (pW z qK K ++ (mW z qG qT G ++ (pW z qT T ++ (nW z qN N ++ (lW z qL L ++ (sW z qS S)))))))) H locs) (hl : lv_has ls 4 [(0, .ref b), (1, .ref (qX 0)), (2, .ref (qS 0)), (3, .int x3)]) : W p l e room_1 s m #[Value.ref b] below meth c H locs 50 946 (lw_Z below #[Value.ref b] s) (F0 m 378 ls []) := by
  obtain ⟨hx, hb, -, -, hown, hts, -, -, -, hN, hsr, -⟩ := id M
  have h := hst F P K G T N L S hI (xs (x3 + (1 : Int32)).toNatClampNeg) (xs (x3 + (2 : Int32)).toNatClampNeg)
  refine lv_aload_n hx hb dL_law_378 rfl (lv_at hl 1 rfl) ?_
  refine lv_aload_n hx hb dL_law_379 rfl (lv_at hl 0 rfl) ?_
  refine lv_iload_n hx hb dL_law_380 rfl (lv_at hl 3 rfl) ?_
  refine lv_iconst (v := 1) hx hb dL_law_381 (by decide) ?_
  refine lv_iadd hx hb dL_law_382 ?_
  refine va_sld hx hb hX hbl hbA hw.2.2 (hin 1 (by decide)) dL_law_383 ?_
  refine lv_aload_n hx hb dL_law_384 rfl (lv_at hl 0 rfl) ?_
  refine lv_iload_n hx hb dL_law_385 rfl (lv_at hl 3 rfl) ?_
  refine lv_iconst (v := 2) hx hb dL_law_386 (by decide) ?_
  refine lv_iadd hx hb dL_law_387 ?_
  refine va_sld hx hb hX hbl hbA hw.2.2 (hin 2 (by decide)) dL_law_388 ?_
  refine frL_Vi (wN := fun u : RT × RT => (fW z qX qP qK qN qL qG u.1 ++ (pW z qP u.2 ++ (pW z qK K ++ (mW z qG qT G ++ (pW z qT T ++ (nW z qN N ++ (lW z qL L ++ (sW z qS S))))))))) M (m_X6_stones l z qX qL qN qG qP qK qT F P K G T N L (xs (x3 + (1 : Int32)).toNatClampNeg) (xs (x3 + (2 : Int32)).toNatClampNeg) _ h) (cwV 2 hts (gdV cd_X6_stones ml_L_40 im_X6_stones se_X6_stones in_X6) rfl rfl rfl hdV_X6_stones ⟨(Nat.le_of_ble_eq_true rfl), (Nat.le_of_ble_eq_true rfl)⟩) cut_31 prm_31 0 rfl rfl rfl hw ⟨Nat.le_refl _, Nat.le_refl _⟩ rfl hl.1 rfl (Nat.le_of_ble_eq_true rfl) dL_law_389 (fun r_1 u_ H locs h hw => ?_)
  obtain ⟨F_1, P_1⟩ := u_
  have hw : Hw s z A (fW z qX qP qK qN qL qG F_1 ++ (pW z qP P_1 ++ (pW z qK K ++ (mW z qG qT G ++ (pW z qT T ++ (nW z qN N ++ (lW z qL L ++ (sW z qS S)))))))) H locs := hw
  try dsimp only at h
  refine lv_aload_n hx hb dL_law_392 rfl (lv_at hl 2 rfl) ?_
  refine lv_aload_n hx hb dL_law_393 rfl (lv_at hl 0 rfl) ?_
  refine lv_iload_n hx hb dL_law_394 rfl (lv_at hl 3 rfl) ?_
  refine lv_iconst (v := 1) hx hb dL_law_395 (by decide) ?_
  refine lv_iadd hx hb dL_law_396 ?_
  refine va_sld hx hb hX hbl hbA hw.2.2 (hin 1 (by decide)) dL_law_397 ?_
  refine lv_aload_n hx hb dL_law_398 rfl (lv_at hl 0 rfl) ?_
  refine lv_iload_n hx hb dL_law_399 rfl (lv_at hl 3 rfl) ?_
  refine lv_iconst (v := 2) hx hb dL_law_400 (by decide) ?_
  refine lv_iadd hx hb dL_law_401 ?_
  refine va_sld hx hb hX hbl hbA hw.2.2 (hin 2 (by decide)) dL_law_402 ?_
  refine frL_Vi (wN := fun u : RT => (fW z qX qP qK qN qL qG F_1 ++ (pW z qP P_1 ++ (pW z qK K ++ (mW z qG qT G ++ (pW z qT T ++ (nW z qN N ++ (lW z qL L ++ (sW z qS u))))))))) M (m_X7_stones l z qS S (xs (x3 + (1 : Int32)).toNatClampNeg) (xs (x3 + (2 : Int32)).toNatClampNeg) _ h) (cwV 2 hts (gdV cd_X7_stones ml_L_43 im_X7_stones se_X7_stones in_X7) rfl rfl rfl hdV_X7_stones ⟨(Nat.le_of_ble_eq_true rfl), (Nat.le_of_ble_eq_true rfl)⟩) cut_28 prm_28 0 rfl rfl rfl hw ⟨Nat.le_refl _, Nat.le_refl _⟩ rfl hl.1 rfl (Nat.le_of_ble_eq_true rfl) dL_law_403 (fun r_2 u_ H locs h hw => ?_)
  obtain ⟨S_2, rfl⟩ : ∃ z9 : RT, z9 = u_ := ⟨_, rfl⟩
  have hw : Hw s z A (fW z qX qP qK qN qL qG F_1 ++ (pW z qP P_1 ++ (pW z qK K ++ (mW z qG qT G ++ (pW z qT T ++ (nW z qN N ++ (lW z qL L ++ (sW z qS S_2)))))))) H locs := hw
  try dsimp only at h
  obtain ⟨er, hI⟩ := h
  subst er
  refine lv_icmp_eq (tgt := 1463) hx hb dL_law_406 (by decide) (fun _ => ?_) (fun c9 => absurd rfl c9)
  exact hK F_1 P_1 K G T N L S_2 H locs ls hI hw hl
set_option maxHeartbeats 4000000 in
set_option maxRecDepth 100000 in
theorem lc_7 {p : Program} {l : Launch} {e : Env} {s : State} {m : MethodId} {below : List Frame} {meth : Method} {c : Code} {z : KT} {A : Nat → Prop} {b L9 : Nat} {xs : Nat → Int32} {Inv : RT → RT → RT → RT → RT → RT → RT → RT → Prop} {qX : Nat → Nat} {qS : Nat → Nat} {qL : Nat → Nat} {qN : Nat → Nat} {qG : Nat → Nat} {qP : Nat → Nat} {qK : Nat → Nat} {qT : Nat → Nat} (M : Mc p s m #[Value.ref b] meth c code 4 ret R_law z A) (hX : va_X b L9 xs s s.heap) (hbl : b < s.heap.size) (hbA : ¬ A b) (hst : St_weighs Inv) (x3 : Int32) (hin : ∀ j : Nat, j < 7 → vp_in (x3 + nI j) L9) (hK : ∀ (F P K G T N L S : RT) (H : Heap) (locs : List Loc) (ls : Array Slot), Inv F P K G T N L S → Hw s z A (fW z qX qP qK qN qL qG F ++ (pW z qP P ++ (pW z qK K ++ (mW z qG qT G ++ (pW z qT T ++ (nW z qN N ++ (lW z qL L ++ (sW z qS S)))))))) H locs → lv_has ls 4 [(0, .ref b), (1, .ref (qX 0)), (2, .ref (qS 0)), (3, .int x3)] → W p l e room_1 s m #[Value.ref b] below meth c H locs 50 946 (lw_Z below #[Value.ref b] s) (F0 m 1463 ls [])) (F P K G T N L S : RT) (H : Heap) (locs : List Loc) (ls : Array Slot) (hI : Inv F P K G T N L S) (hw : Hw s z A (fW z qX qP qK qN qL qG F ++ (pW z qP P ++ (pW z qK K ++ (mW z qG qT G ++ (pW z qT T ++ (nW z qN N ++ (lW z qL L ++ (sW z qS S)))))))) H locs) (hl : lv_has ls 4 [(0, .ref b), (1, .ref (qX 0)), (2, .ref (qS 0)), (3, .int x3)]) : W p l e room_1 s m #[Value.ref b] below meth c H locs 50 946 (lw_Z below #[Value.ref b] s) (F0 m 411 ls []) := by
  obtain ⟨hx, hb, -, -, hown, hts, -, -, -, hN, hsr, -⟩ := id M
  have h := hst F P K G T N L S hI (xs (x3 + (1 : Int32)).toNatClampNeg) (xs (x3 + (2 : Int32)).toNatClampNeg)
  refine lv_aload_n hx hb dL_law_411 rfl (lv_at hl 1 rfl) ?_
  refine lv_aload_n hx hb dL_law_412 rfl (lv_at hl 0 rfl) ?_
  refine lv_iload_n hx hb dL_law_413 rfl (lv_at hl 3 rfl) ?_
  refine lv_iconst (v := 1) hx hb dL_law_414 (by decide) ?_
  refine lv_iadd hx hb dL_law_415 ?_
  refine va_sld hx hb hX hbl hbA hw.2.2 (hin 1 (by decide)) dL_law_416 ?_
  refine lv_aload_n hx hb dL_law_417 rfl (lv_at hl 0 rfl) ?_
  refine lv_iload_n hx hb dL_law_418 rfl (lv_at hl 3 rfl) ?_
  refine lv_iconst (v := 2) hx hb dL_law_419 (by decide) ?_
  refine lv_iadd hx hb dL_law_420 ?_
  refine va_sld hx hb hX hbl hbA hw.2.2 (hin 2 (by decide)) dL_law_421 ?_
  refine frL_Vi (wN := fun u : RT × RT => (fW z qX qP qK qN qL qG u.1 ++ (pW z qP u.2 ++ (pW z qK K ++ (mW z qG qT G ++ (pW z qT T ++ (nW z qN N ++ (lW z qL L ++ (sW z qS S))))))))) M (m_X6_weighs l z qX qL qN qG qP qK qT F P K G T N L (xs (x3 + (1 : Int32)).toNatClampNeg) (xs (x3 + (2 : Int32)).toNatClampNeg) _ h) (cwV 2 hts (gdV cd_X6_weighs ml_L_44 im_X6_weighs se_X6_weighs in_X6) rfl rfl rfl hdV_X6_weighs ⟨(Nat.le_of_ble_eq_true rfl), (Nat.le_of_ble_eq_true rfl)⟩) cut_31 prm_31 0 rfl rfl rfl hw ⟨Nat.le_refl _, Nat.le_refl _⟩ rfl hl.1 rfl (Nat.le_of_ble_eq_true rfl) dL_law_422 (fun r_1 u_ H locs h hw => ?_)
  obtain ⟨F_1, P_1⟩ := u_
  have hw : Hw s z A (fW z qX qP qK qN qL qG F_1 ++ (pW z qP P_1 ++ (pW z qK K ++ (mW z qG qT G ++ (pW z qT T ++ (nW z qN N ++ (lW z qL L ++ (sW z qS S)))))))) H locs := hw
  try dsimp only at h
  refine lv_aload_n hx hb dL_law_425 rfl (lv_at hl 2 rfl) ?_
  refine lv_aload_n hx hb dL_law_426 rfl (lv_at hl 0 rfl) ?_
  refine lv_iload_n hx hb dL_law_427 rfl (lv_at hl 3 rfl) ?_
  refine lv_iconst (v := 1) hx hb dL_law_428 (by decide) ?_
  refine lv_iadd hx hb dL_law_429 ?_
  refine va_sld hx hb hX hbl hbA hw.2.2 (hin 1 (by decide)) dL_law_430 ?_
  refine lv_aload_n hx hb dL_law_431 rfl (lv_at hl 0 rfl) ?_
  refine lv_iload_n hx hb dL_law_432 rfl (lv_at hl 3 rfl) ?_
  refine lv_iconst (v := 2) hx hb dL_law_433 (by decide) ?_
  refine lv_iadd hx hb dL_law_434 ?_
  refine va_sld hx hb hX hbl hbA hw.2.2 (hin 2 (by decide)) dL_law_435 ?_
  refine frL_Vi (wN := fun u : RT => (fW z qX qP qK qN qL qG F_1 ++ (pW z qP P_1 ++ (pW z qK K ++ (mW z qG qT G ++ (pW z qT T ++ (nW z qN N ++ (lW z qL L ++ (sW z qS u))))))))) M (m_X7_weighs l z qS S (xs (x3 + (1 : Int32)).toNatClampNeg) (xs (x3 + (2 : Int32)).toNatClampNeg) _ h) (cwV 2 hts (gdV cd_X7_weighs ml_L_47 im_X7_weighs se_X7_weighs in_X7) rfl rfl rfl hdV_X7_weighs ⟨(Nat.le_of_ble_eq_true rfl), (Nat.le_of_ble_eq_true rfl)⟩) cut_28 prm_28 0 rfl rfl rfl hw ⟨Nat.le_refl _, Nat.le_refl _⟩ rfl hl.1 rfl (Nat.le_of_ble_eq_true rfl) dL_law_436 (fun r_2 u_ H locs h hw => ?_)
  obtain ⟨S_2, rfl⟩ : ∃ z9 : RT, z9 = u_ := ⟨_, rfl⟩
  have hw : Hw s z A (fW z qX qP qK qN qL qG F_1 ++ (pW z qP P_1 ++ (pW z qK K ++ (mW z qG qT G ++ (pW z qT T ++ (nW z qN N ++ (lW z qL L ++ (sW z qS S_2)))))))) H locs := hw
  try dsimp only at h
  obtain ⟨er, hI⟩ := h
  subst er
  refine lv_icmp_eq (tgt := 1463) hx hb dL_law_439 (by decide) (fun _ => ?_) (fun c9 => absurd rfl c9)
  exact hK F_1 P_1 K G T N L S_2 H locs ls hI hw hl
set_option maxHeartbeats 4000000 in
set_option maxRecDepth 100000 in
theorem lc_8 {p : Program} {l : Launch} {e : Env} {s : State} {m : MethodId} {below : List Frame} {meth : Method} {c : Code} {z : KT} {A : Nat → Prop} {b L9 : Nat} {xs : Nat → Int32} {Inv : RT → RT → RT → RT → RT → RT → RT → RT → Prop} {qX : Nat → Nat} {qS : Nat → Nat} {qL : Nat → Nat} {qN : Nat → Nat} {qG : Nat → Nat} {qP : Nat → Nat} {qK : Nat → Nat} {qT : Nat → Nat} (M : Mc p s m #[Value.ref b] meth c code 4 ret R_law z A) (hX : va_X b L9 xs s s.heap) (hbl : b < s.heap.size) (hbA : ¬ A b) (hst : St_lifts Inv) (x3 : Int32) (hin : ∀ j : Nat, j < 7 → vp_in (x3 + nI j) L9) (hK : ∀ (F P K G T N L S : RT) (H : Heap) (locs : List Loc) (ls : Array Slot), Inv F P K G T N L S → Hw s z A (fW z qX qP qK qN qL qG F ++ (pW z qP P ++ (pW z qK K ++ (mW z qG qT G ++ (pW z qT T ++ (nW z qN N ++ (lW z qL L ++ (sW z qS S)))))))) H locs → lv_has ls 4 [(0, .ref b), (1, .ref (qX 0)), (2, .ref (qS 0)), (3, .int x3)] → W p l e room_1 s m #[Value.ref b] below meth c H locs 50 946 (lw_Z below #[Value.ref b] s) (F0 m 1463 ls [])) (F P K G T N L S : RT) (H : Heap) (locs : List Loc) (ls : Array Slot) (hI : Inv F P K G T N L S) (hw : Hw s z A (fW z qX qP qK qN qL qG F ++ (pW z qP P ++ (pW z qK K ++ (mW z qG qT G ++ (pW z qT T ++ (nW z qN N ++ (lW z qL L ++ (sW z qS S)))))))) H locs) (hl : lv_has ls 4 [(0, .ref b), (1, .ref (qX 0)), (2, .ref (qS 0)), (3, .int x3)]) : W p l e room_1 s m #[Value.ref b] below meth c H locs 50 946 (lw_Z below #[Value.ref b] s) (F0 m 444 ls []) := by
  obtain ⟨hx, hb, -, -, hown, hts, -, -, -, hN, hsr, -⟩ := id M
  have h := hst F P K G T N L S hI (xs (x3 + (1 : Int32)).toNatClampNeg) (xs (x3 + (2 : Int32)).toNatClampNeg)
  refine lv_aload_n hx hb dL_law_444 rfl (lv_at hl 1 rfl) ?_
  refine lv_aload_n hx hb dL_law_445 rfl (lv_at hl 0 rfl) ?_
  refine lv_iload_n hx hb dL_law_446 rfl (lv_at hl 3 rfl) ?_
  refine lv_iconst (v := 1) hx hb dL_law_447 (by decide) ?_
  refine lv_iadd hx hb dL_law_448 ?_
  refine va_sld hx hb hX hbl hbA hw.2.2 (hin 1 (by decide)) dL_law_449 ?_
  refine lv_aload_n hx hb dL_law_450 rfl (lv_at hl 0 rfl) ?_
  refine lv_iload_n hx hb dL_law_451 rfl (lv_at hl 3 rfl) ?_
  refine lv_iconst (v := 2) hx hb dL_law_452 (by decide) ?_
  refine lv_iadd hx hb dL_law_453 ?_
  refine va_sld hx hb hX hbl hbA hw.2.2 (hin 2 (by decide)) dL_law_454 ?_
  refine frL_Vi (wN := fun u : RT × RT => (fW z qX qP qK qN qL qG u.1 ++ (pW z qP u.2 ++ (pW z qK K ++ (mW z qG qT G ++ (pW z qT T ++ (nW z qN N ++ (lW z qL L ++ (sW z qS S))))))))) M (m_X6_lifts l z qX qL qN qG qP qK qT F P K G T N L (xs (x3 + (1 : Int32)).toNatClampNeg) (xs (x3 + (2 : Int32)).toNatClampNeg) _ h) (cwV 2 hts (gdV cd_X6_lifts ml_L_48 im_X6_lifts se_X6_lifts in_X6) rfl rfl rfl hdV_X6_lifts ⟨(Nat.le_of_ble_eq_true rfl), (Nat.le_of_ble_eq_true rfl)⟩) cut_31 prm_31 0 rfl rfl rfl hw ⟨Nat.le_refl _, Nat.le_refl _⟩ rfl hl.1 rfl (Nat.le_of_ble_eq_true rfl) dL_law_455 (fun r_1 u_ H locs h hw => ?_)
  obtain ⟨F_1, P_1⟩ := u_
  have hw : Hw s z A (fW z qX qP qK qN qL qG F_1 ++ (pW z qP P_1 ++ (pW z qK K ++ (mW z qG qT G ++ (pW z qT T ++ (nW z qN N ++ (lW z qL L ++ (sW z qS S)))))))) H locs := hw
  try dsimp only at h
  refine lv_aload_n hx hb dL_law_458 rfl (lv_at hl 2 rfl) ?_
  refine lv_aload_n hx hb dL_law_459 rfl (lv_at hl 0 rfl) ?_
  refine lv_iload_n hx hb dL_law_460 rfl (lv_at hl 3 rfl) ?_
  refine lv_iconst (v := 1) hx hb dL_law_461 (by decide) ?_
  refine lv_iadd hx hb dL_law_462 ?_
  refine va_sld hx hb hX hbl hbA hw.2.2 (hin 1 (by decide)) dL_law_463 ?_
  refine lv_aload_n hx hb dL_law_464 rfl (lv_at hl 0 rfl) ?_
  refine lv_iload_n hx hb dL_law_465 rfl (lv_at hl 3 rfl) ?_
  refine lv_iconst (v := 2) hx hb dL_law_466 (by decide) ?_
  refine lv_iadd hx hb dL_law_467 ?_
  refine va_sld hx hb hX hbl hbA hw.2.2 (hin 2 (by decide)) dL_law_468 ?_
  refine frL_Vi (wN := fun u : RT => (fW z qX qP qK qN qL qG F_1 ++ (pW z qP P_1 ++ (pW z qK K ++ (mW z qG qT G ++ (pW z qT T ++ (nW z qN N ++ (lW z qL L ++ (sW z qS u))))))))) M (m_X7_lifts l z qS S (xs (x3 + (1 : Int32)).toNatClampNeg) (xs (x3 + (2 : Int32)).toNatClampNeg) _ h) (cwV 2 hts (gdV cd_X7_lifts ml_L_51 im_X7_lifts se_X7_lifts in_X7) rfl rfl rfl hdV_X7_lifts ⟨(Nat.le_of_ble_eq_true rfl), (Nat.le_of_ble_eq_true rfl)⟩) cut_28 prm_28 0 rfl rfl rfl hw ⟨Nat.le_refl _, Nat.le_refl _⟩ rfl hl.1 rfl (Nat.le_of_ble_eq_true rfl) dL_law_469 (fun r_2 u_ H locs h hw => ?_)
  obtain ⟨S_2, rfl⟩ : ∃ z9 : RT, z9 = u_ := ⟨_, rfl⟩
  have hw : Hw s z A (fW z qX qP qK qN qL qG F_1 ++ (pW z qP P_1 ++ (pW z qK K ++ (mW z qG qT G ++ (pW z qT T ++ (nW z qN N ++ (lW z qL L ++ (sW z qS S_2)))))))) H locs := hw
  try dsimp only at h
  obtain ⟨er, hI⟩ := h
  subst er
  refine lv_icmp_eq (tgt := 1463) hx hb dL_law_472 (by decide) (fun _ => ?_) (fun c9 => absurd rfl c9)
  exact hK F_1 P_1 K G T N L S_2 H locs ls hI hw hl
set_option maxHeartbeats 4000000 in
set_option maxRecDepth 100000 in
theorem lc_9 {p : Program} {l : Launch} {e : Env} {s : State} {m : MethodId} {below : List Frame} {meth : Method} {c : Code} {z : KT} {A : Nat → Prop} {b L9 : Nat} {xs : Nat → Int32} {Inv : RT → RT → RT → RT → RT → RT → RT → RT → Prop} {qX : Nat → Nat} {qS : Nat → Nat} {qL : Nat → Nat} {qN : Nat → Nat} {qG : Nat → Nat} {qP : Nat → Nat} {qK : Nat → Nat} {qT : Nat → Nat} (M : Mc p s m #[Value.ref b] meth c code 4 ret R_law z A) (hX : va_X b L9 xs s s.heap) (hbl : b < s.heap.size) (hbA : ¬ A b) (hst : St_turn Inv) (x3 : Int32) (hin : ∀ j : Nat, j < 7 → vp_in (x3 + nI j) L9) (hK : ∀ (F P K G T N L S : RT) (H : Heap) (locs : List Loc) (ls : Array Slot), Inv F P K G T N L S → Hw s z A (fW z qX qP qK qN qL qG F ++ (pW z qP P ++ (pW z qK K ++ (mW z qG qT G ++ (pW z qT T ++ (nW z qN N ++ (lW z qL L ++ (sW z qS S)))))))) H locs → lv_has ls 4 [(0, .ref b), (1, .ref (qX 0)), (2, .ref (qS 0)), (3, .int x3)] → W p l e room_1 s m #[Value.ref b] below meth c H locs 50 946 (lw_Z below #[Value.ref b] s) (F0 m 1463 ls [])) (F P K G T N L S : RT) (H : Heap) (locs : List Loc) (ls : Array Slot) (hI : Inv F P K G T N L S) (hw : Hw s z A (fW z qX qP qK qN qL qG F ++ (pW z qP P ++ (pW z qK K ++ (mW z qG qT G ++ (pW z qT T ++ (nW z qN N ++ (lW z qL L ++ (sW z qS S)))))))) H locs) (hl : lv_has ls 4 [(0, .ref b), (1, .ref (qX 0)), (2, .ref (qS 0)), (3, .int x3)]) : W p l e room_1 s m #[Value.ref b] below meth c H locs 50 946 (lw_Z below #[Value.ref b] s) (F0 m 477 ls []) := by
  obtain ⟨hx, hb, -, -, hown, hts, -, -, -, hN, hsr, -⟩ := id M
  have h := hst F P K G T N L S hI (xs (x3 + (1 : Int32)).toNatClampNeg) (xs (x3 + (2 : Int32)).toNatClampNeg) (xs (x3 + (3 : Int32)).toNatClampNeg)
  refine lv_aload_n hx hb dL_law_477 rfl (lv_at hl 1 rfl) ?_
  refine lv_aload_n hx hb dL_law_478 rfl (lv_at hl 0 rfl) ?_
  refine lv_iload_n hx hb dL_law_479 rfl (lv_at hl 3 rfl) ?_
  refine lv_iconst (v := 1) hx hb dL_law_480 (by decide) ?_
  refine lv_iadd hx hb dL_law_481 ?_
  refine va_sld hx hb hX hbl hbA hw.2.2 (hin 1 (by decide)) dL_law_482 ?_
  refine lv_aload_n hx hb dL_law_483 rfl (lv_at hl 0 rfl) ?_
  refine lv_iload_n hx hb dL_law_484 rfl (lv_at hl 3 rfl) ?_
  refine lv_iconst (v := 2) hx hb dL_law_485 (by decide) ?_
  refine lv_iadd hx hb dL_law_486 ?_
  refine va_sld hx hb hX hbl hbA hw.2.2 (hin 2 (by decide)) dL_law_487 ?_
  refine lv_aload_n hx hb dL_law_488 rfl (lv_at hl 0 rfl) ?_
  refine lv_iload_n hx hb dL_law_489 rfl (lv_at hl 3 rfl) ?_
  refine lv_iconst (v := 3) hx hb dL_law_490 (by decide) ?_
  refine lv_iadd hx hb dL_law_491 ?_
  refine va_sld hx hb hX hbl hbA hw.2.2 (hin 3 (by decide)) dL_law_492 ?_
  refine frL_Vi (wN := fun u : RT × RT => (fW z qX qP qK qN qL qG u.1 ++ (pW z qP u.2 ++ (pW z qK K ++ (mW z qG qT G ++ (pW z qT T ++ (nW z qN N ++ (lW z qL L ++ (sW z qS S))))))))) M (m_X6_turn l z qX qL qN qG qP qK qT F P K G T N L (xs (x3 + (1 : Int32)).toNatClampNeg) (xs (x3 + (2 : Int32)).toNatClampNeg) (xs (x3 + (3 : Int32)).toNatClampNeg) _ h) (cwV 3 hts (gdV cd_X6_turn ml_L_52 im_X6_turn se_X6_turn in_X6) rfl rfl rfl hdV_X6_turn ⟨(Nat.le_of_ble_eq_true rfl), (Nat.le_of_ble_eq_true rfl)⟩) cut_31 prm_31 0 rfl rfl rfl hw ⟨Nat.le_refl _, Nat.le_refl _⟩ rfl hl.1 rfl (Nat.le_of_ble_eq_true rfl) dL_law_493 (fun r_1 u_ H locs h hw => ?_)
  obtain ⟨F_1, P_1⟩ := u_
  have hw : Hw s z A (fW z qX qP qK qN qL qG F_1 ++ (pW z qP P_1 ++ (pW z qK K ++ (mW z qG qT G ++ (pW z qT T ++ (nW z qN N ++ (lW z qL L ++ (sW z qS S)))))))) H locs := hw
  try dsimp only at h
  refine lv_aload_n hx hb dL_law_496 rfl (lv_at hl 2 rfl) ?_
  refine lv_aload_n hx hb dL_law_497 rfl (lv_at hl 0 rfl) ?_
  refine lv_iload_n hx hb dL_law_498 rfl (lv_at hl 3 rfl) ?_
  refine lv_iconst (v := 1) hx hb dL_law_499 (by decide) ?_
  refine lv_iadd hx hb dL_law_500 ?_
  refine va_sld hx hb hX hbl hbA hw.2.2 (hin 1 (by decide)) dL_law_501 ?_
  refine lv_aload_n hx hb dL_law_502 rfl (lv_at hl 0 rfl) ?_
  refine lv_iload_n hx hb dL_law_503 rfl (lv_at hl 3 rfl) ?_
  refine lv_iconst (v := 2) hx hb dL_law_504 (by decide) ?_
  refine lv_iadd hx hb dL_law_505 ?_
  refine va_sld hx hb hX hbl hbA hw.2.2 (hin 2 (by decide)) dL_law_506 ?_
  refine lv_aload_n hx hb dL_law_507 rfl (lv_at hl 0 rfl) ?_
  refine lv_iload_n hx hb dL_law_508 rfl (lv_at hl 3 rfl) ?_
  refine lv_iconst (v := 3) hx hb dL_law_509 (by decide) ?_
  refine lv_iadd hx hb dL_law_510 ?_
  refine va_sld hx hb hX hbl hbA hw.2.2 (hin 3 (by decide)) dL_law_511 ?_
  refine frL_Vi (wN := fun u : RT => (fW z qX qP qK qN qL qG F_1 ++ (pW z qP P_1 ++ (pW z qK K ++ (mW z qG qT G ++ (pW z qT T ++ (nW z qN N ++ (lW z qL L ++ (sW z qS u))))))))) M (m_X7_turn l z qS S (xs (x3 + (1 : Int32)).toNatClampNeg) (xs (x3 + (2 : Int32)).toNatClampNeg) (xs (x3 + (3 : Int32)).toNatClampNeg) _ h) (cwV 3 hts (gdV cd_X7_turn ml_L_56 im_X7_turn se_X7_turn in_X7) rfl rfl rfl hdV_X7_turn ⟨(Nat.le_of_ble_eq_true rfl), (Nat.le_of_ble_eq_true rfl)⟩) cut_28 prm_28 0 rfl rfl rfl hw ⟨Nat.le_refl _, Nat.le_refl _⟩ rfl hl.1 rfl (Nat.le_of_ble_eq_true rfl) dL_law_512 (fun r_2 u_ H locs h hw => ?_)
  obtain ⟨S_2, rfl⟩ : ∃ z9 : RT, z9 = u_ := ⟨_, rfl⟩
  have hw : Hw s z A (fW z qX qP qK qN qL qG F_1 ++ (pW z qP P_1 ++ (pW z qK K ++ (mW z qG qT G ++ (pW z qT T ++ (nW z qN N ++ (lW z qL L ++ (sW z qS S_2)))))))) H locs := hw
  try dsimp only at h
  obtain ⟨er, hI⟩ := h
  subst er
  refine lv_icmp_eq (tgt := 1463) hx hb dL_law_515 (by decide) (fun _ => ?_) (fun c9 => absurd rfl c9)
  exact hK F_1 P_1 K G T N L S_2 H locs ls hI hw hl
set_option maxHeartbeats 4000000 in
set_option maxRecDepth 100000 in
theorem lc_10 {p : Program} {l : Launch} {e : Env} {s : State} {m : MethodId} {below : List Frame} {meth : Method} {c : Code} {z : KT} {A : Nat → Prop} {b L9 : Nat} {xs : Nat → Int32} {Inv : RT → RT → RT → RT → RT → RT → RT → RT → Prop} {qX : Nat → Nat} {qS : Nat → Nat} {qL : Nat → Nat} {qN : Nat → Nat} {qG : Nat → Nat} {qP : Nat → Nat} {qK : Nat → Nat} {qT : Nat → Nat} (M : Mc p s m #[Value.ref b] meth c code 4 ret R_law z A) (hX : va_X b L9 xs s s.heap) (hbl : b < s.heap.size) (hbA : ¬ A b) (hst : St_hours Inv) (x3 : Int32) (hin : ∀ j : Nat, j < 7 → vp_in (x3 + nI j) L9) (hK : ∀ (F P K G T N L S : RT) (H : Heap) (locs : List Loc) (ls : Array Slot), Inv F P K G T N L S → Hw s z A (fW z qX qP qK qN qL qG F ++ (pW z qP P ++ (pW z qK K ++ (mW z qG qT G ++ (pW z qT T ++ (nW z qN N ++ (lW z qL L ++ (sW z qS S)))))))) H locs → lv_has ls 4 [(0, .ref b), (1, .ref (qX 0)), (2, .ref (qS 0)), (3, .int x3)] → W p l e room_1 s m #[Value.ref b] below meth c H locs 50 946 (lw_Z below #[Value.ref b] s) (F0 m 1463 ls [])) (F P K G T N L S : RT) (H : Heap) (locs : List Loc) (ls : Array Slot) (hI : Inv F P K G T N L S) (hw : Hw s z A (fW z qX qP qK qN qL qG F ++ (pW z qP P ++ (pW z qK K ++ (mW z qG qT G ++ (pW z qT T ++ (nW z qN N ++ (lW z qL L ++ (sW z qS S)))))))) H locs) (hl : lv_has ls 4 [(0, .ref b), (1, .ref (qX 0)), (2, .ref (qS 0)), (3, .int x3)]) : W p l e room_1 s m #[Value.ref b] below meth c H locs 50 946 (lw_Z below #[Value.ref b] s) (F0 m 520 ls []) := by
  obtain ⟨hx, hb, -, -, hown, hts, -, -, -, hN, hsr, -⟩ := id M
  have h := hst F P K G T N L S hI (xs (x3 + (1 : Int32)).toNatClampNeg)
  refine lv_aload_n hx hb dL_law_520 rfl (lv_at hl 1 rfl) ?_
  refine lv_aload_n hx hb dL_law_521 rfl (lv_at hl 0 rfl) ?_
  refine lv_iload_n hx hb dL_law_522 rfl (lv_at hl 3 rfl) ?_
  refine lv_iconst (v := 1) hx hb dL_law_523 (by decide) ?_
  refine lv_iadd hx hb dL_law_524 ?_
  refine va_sld hx hb hX hbl hbA hw.2.2 (hin 1 (by decide)) dL_law_525 ?_
  refine frL_Vi (wN := fun u : RT × RT => (fW z qX qP qK qN qL qG u.1 ++ (pW z qP u.2 ++ (pW z qK K ++ (mW z qG qT G ++ (pW z qT T ++ (nW z qN N ++ (lW z qL L ++ (sW z qS S))))))))) M (m_X6_hours l z qX qL qN qG qP qK qT F P K G T N L (xs (x3 + (1 : Int32)).toNatClampNeg) _ h) (cwV 1 hts (gdV cd_X6_hours ml_L_57 im_X6_hours se_X6_hours in_X6) rfl rfl rfl hdV_X6_hours ⟨(Nat.le_of_ble_eq_true rfl), (Nat.le_of_ble_eq_true rfl)⟩) cut_31 prm_31 0 rfl rfl rfl hw ⟨Nat.le_refl _, Nat.le_refl _⟩ rfl hl.1 rfl (Nat.le_of_ble_eq_true rfl) dL_law_526 (fun r_1 u_ H locs h hw => ?_)
  obtain ⟨F_1, P_1⟩ := u_
  have hw : Hw s z A (fW z qX qP qK qN qL qG F_1 ++ (pW z qP P_1 ++ (pW z qK K ++ (mW z qG qT G ++ (pW z qT T ++ (nW z qN N ++ (lW z qL L ++ (sW z qS S)))))))) H locs := hw
  try dsimp only at h
  refine lv_aload_n hx hb dL_law_529 rfl (lv_at hl 2 rfl) ?_
  refine lv_aload_n hx hb dL_law_530 rfl (lv_at hl 0 rfl) ?_
  refine lv_iload_n hx hb dL_law_531 rfl (lv_at hl 3 rfl) ?_
  refine lv_iconst (v := 1) hx hb dL_law_532 (by decide) ?_
  refine lv_iadd hx hb dL_law_533 ?_
  refine va_sld hx hb hX hbl hbA hw.2.2 (hin 1 (by decide)) dL_law_534 ?_
  refine frL_Vi (wN := fun u : RT => (fW z qX qP qK qN qL qG F_1 ++ (pW z qP P_1 ++ (pW z qK K ++ (mW z qG qT G ++ (pW z qT T ++ (nW z qN N ++ (lW z qL L ++ (sW z qS u))))))))) M (m_X7_hours l z qS S (xs (x3 + (1 : Int32)).toNatClampNeg) _ h) (cwV 1 hts (gdV cd_X7_hours ml_L_60 im_X7_hours se_X7_hours in_X7) rfl rfl rfl hdV_X7_hours ⟨(Nat.le_of_ble_eq_true rfl), (Nat.le_of_ble_eq_true rfl)⟩) cut_28 prm_28 0 rfl rfl rfl hw ⟨Nat.le_refl _, Nat.le_refl _⟩ rfl hl.1 rfl (Nat.le_of_ble_eq_true rfl) dL_law_535 (fun r_2 u_ H locs h hw => ?_)
  obtain ⟨S_2, rfl⟩ : ∃ z9 : RT, z9 = u_ := ⟨_, rfl⟩
  have hw : Hw s z A (fW z qX qP qK qN qL qG F_1 ++ (pW z qP P_1 ++ (pW z qK K ++ (mW z qG qT G ++ (pW z qT T ++ (nW z qN N ++ (lW z qL L ++ (sW z qS S_2)))))))) H locs := hw
  try dsimp only at h
  obtain ⟨er, hI⟩ := h
  subst er
  refine lv_icmp_eq (tgt := 1463) hx hb dL_law_538 (by decide) (fun _ => ?_) (fun c9 => absurd rfl c9)
  exact hK F_1 P_1 K G T N L S_2 H locs ls hI hw hl
set_option maxHeartbeats 4000000 in
set_option maxRecDepth 100000 in
theorem lc_11 {p : Program} {l : Launch} {e : Env} {s : State} {m : MethodId} {below : List Frame} {meth : Method} {c : Code} {z : KT} {A : Nat → Prop} {b L9 : Nat} {xs : Nat → Int32} {Inv : RT → RT → RT → RT → RT → RT → RT → RT → Prop} {qX : Nat → Nat} {qS : Nat → Nat} {qL : Nat → Nat} {qN : Nat → Nat} {qG : Nat → Nat} {qP : Nat → Nat} {qK : Nat → Nat} {qT : Nat → Nat} (M : Mc p s m #[Value.ref b] meth c code 4 ret R_law z A) (hX : va_X b L9 xs s s.heap) (hbl : b < s.heap.size) (hbA : ¬ A b) (hst : St_thingThen Inv) (x3 : Int32) (hin : ∀ j : Nat, j < 7 → vp_in (x3 + nI j) L9) (hK : ∀ (F P K G T N L S : RT) (H : Heap) (locs : List Loc) (ls : Array Slot), Inv F P K G T N L S → Hw s z A (fW z qX qP qK qN qL qG F ++ (pW z qP P ++ (pW z qK K ++ (mW z qG qT G ++ (pW z qT T ++ (nW z qN N ++ (lW z qL L ++ (sW z qS S)))))))) H locs → lv_has ls 4 [(0, .ref b), (1, .ref (qX 0)), (2, .ref (qS 0)), (3, .int x3)] → W p l e room_1 s m #[Value.ref b] below meth c H locs 50 946 (lw_Z below #[Value.ref b] s) (F0 m 1463 ls [])) (F P K G T N L S : RT) (H : Heap) (locs : List Loc) (ls : Array Slot) (hI : Inv F P K G T N L S) (hw : Hw s z A (fW z qX qP qK qN qL qG F ++ (pW z qP P ++ (pW z qK K ++ (mW z qG qT G ++ (pW z qT T ++ (nW z qN N ++ (lW z qL L ++ (sW z qS S)))))))) H locs) (hl : lv_has ls 4 [(0, .ref b), (1, .ref (qX 0)), (2, .ref (qS 0)), (3, .int x3)]) : W p l e room_1 s m #[Value.ref b] below meth c H locs 50 946 (lw_Z below #[Value.ref b] s) (F0 m 543 ls []) := by
  obtain ⟨hx, hb, -, -, hown, hts, -, -, -, hN, hsr, -⟩ := id M
  have h := hst F P K G T N L S hI (xs (x3 + (1 : Int32)).toNatClampNeg) (xs (x3 + (2 : Int32)).toNatClampNeg) (xs (x3 + (3 : Int32)).toNatClampNeg)
  refine lv_aload_n hx hb dL_law_543 rfl (lv_at hl 1 rfl) ?_
  refine lv_aload_n hx hb dL_law_544 rfl (lv_at hl 0 rfl) ?_
  refine lv_iload_n hx hb dL_law_545 rfl (lv_at hl 3 rfl) ?_
  refine lv_iconst (v := 1) hx hb dL_law_546 (by decide) ?_
  refine lv_iadd hx hb dL_law_547 ?_
  refine va_sld hx hb hX hbl hbA hw.2.2 (hin 1 (by decide)) dL_law_548 ?_
  refine lv_aload_n hx hb dL_law_549 rfl (lv_at hl 0 rfl) ?_
  refine lv_iload_n hx hb dL_law_550 rfl (lv_at hl 3 rfl) ?_
  refine lv_iconst (v := 2) hx hb dL_law_551 (by decide) ?_
  refine lv_iadd hx hb dL_law_552 ?_
  refine va_sld hx hb hX hbl hbA hw.2.2 (hin 2 (by decide)) dL_law_553 ?_
  refine lv_aload_n hx hb dL_law_554 rfl (lv_at hl 0 rfl) ?_
  refine lv_iload_n hx hb dL_law_555 rfl (lv_at hl 3 rfl) ?_
  refine lv_iconst (v := 3) hx hb dL_law_556 (by decide) ?_
  refine lv_iadd hx hb dL_law_557 ?_
  refine va_sld hx hb hX hbl hbA hw.2.2 (hin 3 (by decide)) dL_law_558 ?_
  refine frL_Vi (wN := fun u : RT × RT => (fW z qX qP qK qN qL qG u.1 ++ (pW z qP P ++ (pW z qK K ++ (mW z qG qT G ++ (pW z qT u.2 ++ (nW z qN N ++ (lW z qL L ++ (sW z qS S))))))))) M (m_X6_thingThen l z qX qL qN qG qP qK qT F P K G T N L (xs (x3 + (1 : Int32)).toNatClampNeg) (xs (x3 + (2 : Int32)).toNatClampNeg) (xs (x3 + (3 : Int32)).toNatClampNeg) _ h) (cwV 3 hts (gdV cd_X6_thingThen ml_L_61 im_X6_thingThen se_X6_thingThen in_X6) rfl rfl rfl hdV_X6_thingThen ⟨(Nat.le_of_ble_eq_true rfl), (Nat.le_of_ble_eq_true rfl)⟩) cut_32 prm_32 0 rfl rfl rfl hw ⟨Nat.le_refl _, Nat.le_refl _⟩ rfl hl.1 rfl (Nat.le_of_ble_eq_true rfl) dL_law_559 (fun r_1 u_ H locs h hw => ?_)
  obtain ⟨F_1, T_1⟩ := u_
  have hw : Hw s z A (fW z qX qP qK qN qL qG F_1 ++ (pW z qP P ++ (pW z qK K ++ (mW z qG qT G ++ (pW z qT T_1 ++ (nW z qN N ++ (lW z qL L ++ (sW z qS S)))))))) H locs := hw
  try dsimp only at h
  refine lv_aload_n hx hb dL_law_562 rfl (lv_at hl 2 rfl) ?_
  refine lv_aload_n hx hb dL_law_563 rfl (lv_at hl 0 rfl) ?_
  refine lv_iload_n hx hb dL_law_564 rfl (lv_at hl 3 rfl) ?_
  refine lv_iconst (v := 1) hx hb dL_law_565 (by decide) ?_
  refine lv_iadd hx hb dL_law_566 ?_
  refine va_sld hx hb hX hbl hbA hw.2.2 (hin 1 (by decide)) dL_law_567 ?_
  refine lv_aload_n hx hb dL_law_568 rfl (lv_at hl 0 rfl) ?_
  refine lv_iload_n hx hb dL_law_569 rfl (lv_at hl 3 rfl) ?_
  refine lv_iconst (v := 2) hx hb dL_law_570 (by decide) ?_
  refine lv_iadd hx hb dL_law_571 ?_
  refine va_sld hx hb hX hbl hbA hw.2.2 (hin 2 (by decide)) dL_law_572 ?_
  refine lv_aload_n hx hb dL_law_573 rfl (lv_at hl 0 rfl) ?_
  refine lv_iload_n hx hb dL_law_574 rfl (lv_at hl 3 rfl) ?_
  refine lv_iconst (v := 3) hx hb dL_law_575 (by decide) ?_
  refine lv_iadd hx hb dL_law_576 ?_
  refine va_sld hx hb hX hbl hbA hw.2.2 (hin 3 (by decide)) dL_law_577 ?_
  refine frL_Vi (wN := fun u : RT => (fW z qX qP qK qN qL qG F_1 ++ (pW z qP P ++ (pW z qK K ++ (mW z qG qT G ++ (pW z qT T_1 ++ (nW z qN N ++ (lW z qL L ++ (sW z qS u))))))))) M (m_X7_thingThen l z qS S (xs (x3 + (1 : Int32)).toNatClampNeg) (xs (x3 + (2 : Int32)).toNatClampNeg) (xs (x3 + (3 : Int32)).toNatClampNeg) _ h) (cwV 3 hts (gdV cd_X7_thingThen ml_L_64 im_X7_thingThen se_X7_thingThen in_X7) rfl rfl rfl hdV_X7_thingThen ⟨(Nat.le_of_ble_eq_true rfl), (Nat.le_of_ble_eq_true rfl)⟩) cut_28 prm_28 0 rfl rfl rfl hw ⟨Nat.le_refl _, Nat.le_refl _⟩ rfl hl.1 rfl (Nat.le_of_ble_eq_true rfl) dL_law_578 (fun r_2 u_ H locs h hw => ?_)
  obtain ⟨S_2, rfl⟩ : ∃ z9 : RT, z9 = u_ := ⟨_, rfl⟩
  have hw : Hw s z A (fW z qX qP qK qN qL qG F_1 ++ (pW z qP P ++ (pW z qK K ++ (mW z qG qT G ++ (pW z qT T_1 ++ (nW z qN N ++ (lW z qL L ++ (sW z qS S_2)))))))) H locs := hw
  try dsimp only at h
  obtain ⟨er, hI⟩ := h
  subst er
  refine lv_icmp_eq (tgt := 1463) hx hb dL_law_581 (by decide) (fun _ => ?_) (fun c9 => absurd rfl c9)
  exact hK F_1 P K G T_1 N L S_2 H locs ls hI hw hl
set_option maxHeartbeats 4000000 in
set_option maxRecDepth 100000 in
theorem lc_12 {p : Program} {l : Launch} {e : Env} {s : State} {m : MethodId} {below : List Frame} {meth : Method} {c : Code} {z : KT} {A : Nat → Prop} {b L9 : Nat} {xs : Nat → Int32} {Inv : RT → RT → RT → RT → RT → RT → RT → RT → Prop} {qX : Nat → Nat} {qS : Nat → Nat} {qL : Nat → Nat} {qN : Nat → Nat} {qG : Nat → Nat} {qP : Nat → Nat} {qK : Nat → Nat} {qT : Nat → Nat} (M : Mc p s m #[Value.ref b] meth c code 4 ret R_law z A) (hX : va_X b L9 xs s s.heap) (hbl : b < s.heap.size) (hbA : ¬ A b) (hst : St_ropeThen Inv) (x3 : Int32) (hin : ∀ j : Nat, j < 7 → vp_in (x3 + nI j) L9) (hK : ∀ (F P K G T N L S : RT) (H : Heap) (locs : List Loc) (ls : Array Slot), Inv F P K G T N L S → Hw s z A (fW z qX qP qK qN qL qG F ++ (pW z qP P ++ (pW z qK K ++ (mW z qG qT G ++ (pW z qT T ++ (nW z qN N ++ (lW z qL L ++ (sW z qS S)))))))) H locs → lv_has ls 4 [(0, .ref b), (1, .ref (qX 0)), (2, .ref (qS 0)), (3, .int x3)] → W p l e room_1 s m #[Value.ref b] below meth c H locs 50 946 (lw_Z below #[Value.ref b] s) (F0 m 1463 ls [])) (F P K G T N L S : RT) (H : Heap) (locs : List Loc) (ls : Array Slot) (hI : Inv F P K G T N L S) (hw : Hw s z A (fW z qX qP qK qN qL qG F ++ (pW z qP P ++ (pW z qK K ++ (mW z qG qT G ++ (pW z qT T ++ (nW z qN N ++ (lW z qL L ++ (sW z qS S)))))))) H locs) (hl : lv_has ls 4 [(0, .ref b), (1, .ref (qX 0)), (2, .ref (qS 0)), (3, .int x3)]) : W p l e room_1 s m #[Value.ref b] below meth c H locs 50 946 (lw_Z below #[Value.ref b] s) (F0 m 586 ls []) := by
  obtain ⟨hx, hb, -, -, hown, hts, -, -, -, hN, hsr, -⟩ := id M
  have h := hst F P K G T N L S hI (xs (x3 + (1 : Int32)).toNatClampNeg) (xs (x3 + (2 : Int32)).toNatClampNeg)
  refine lv_aload_n hx hb dL_law_586 rfl (lv_at hl 1 rfl) ?_
  refine lv_aload_n hx hb dL_law_587 rfl (lv_at hl 0 rfl) ?_
  refine lv_iload_n hx hb dL_law_588 rfl (lv_at hl 3 rfl) ?_
  refine lv_iconst (v := 1) hx hb dL_law_589 (by decide) ?_
  refine lv_iadd hx hb dL_law_590 ?_
  refine va_sld hx hb hX hbl hbA hw.2.2 (hin 1 (by decide)) dL_law_591 ?_
  refine lv_aload_n hx hb dL_law_592 rfl (lv_at hl 0 rfl) ?_
  refine lv_iload_n hx hb dL_law_593 rfl (lv_at hl 3 rfl) ?_
  refine lv_iconst (v := 2) hx hb dL_law_594 (by decide) ?_
  refine lv_iadd hx hb dL_law_595 ?_
  refine va_sld hx hb hX hbl hbA hw.2.2 (hin 2 (by decide)) dL_law_596 ?_
  refine frL_Vi (wN := fun u : RT × RT => (fW z qX qP qK qN qL qG u.1 ++ (pW z qP P ++ (pW z qK K ++ (mW z qG qT G ++ (pW z qT u.2 ++ (nW z qN N ++ (lW z qL L ++ (sW z qS S))))))))) M (m_X6_ropeThen l z qX qL qN qG qP qK qT F P K G T N L (xs (x3 + (1 : Int32)).toNatClampNeg) (xs (x3 + (2 : Int32)).toNatClampNeg) _ h) (cwV 2 hts (gdV cd_X6_ropeThen ml_L_65 im_X6_ropeThen se_X6_ropeThen in_X6) rfl rfl rfl hdV_X6_ropeThen ⟨(Nat.le_of_ble_eq_true rfl), (Nat.le_of_ble_eq_true rfl)⟩) cut_32 prm_32 0 rfl rfl rfl hw ⟨Nat.le_refl _, Nat.le_refl _⟩ rfl hl.1 rfl (Nat.le_of_ble_eq_true rfl) dL_law_597 (fun r_1 u_ H locs h hw => ?_)
  obtain ⟨F_1, T_1⟩ := u_
  have hw : Hw s z A (fW z qX qP qK qN qL qG F_1 ++ (pW z qP P ++ (pW z qK K ++ (mW z qG qT G ++ (pW z qT T_1 ++ (nW z qN N ++ (lW z qL L ++ (sW z qS S)))))))) H locs := hw
  try dsimp only at h
  refine lv_aload_n hx hb dL_law_600 rfl (lv_at hl 2 rfl) ?_
  refine lv_aload_n hx hb dL_law_601 rfl (lv_at hl 0 rfl) ?_
  refine lv_iload_n hx hb dL_law_602 rfl (lv_at hl 3 rfl) ?_
  refine lv_iconst (v := 1) hx hb dL_law_603 (by decide) ?_
  refine lv_iadd hx hb dL_law_604 ?_
  refine va_sld hx hb hX hbl hbA hw.2.2 (hin 1 (by decide)) dL_law_605 ?_
  refine lv_aload_n hx hb dL_law_606 rfl (lv_at hl 0 rfl) ?_
  refine lv_iload_n hx hb dL_law_607 rfl (lv_at hl 3 rfl) ?_
  refine lv_iconst (v := 2) hx hb dL_law_608 (by decide) ?_
  refine lv_iadd hx hb dL_law_609 ?_
  refine va_sld hx hb hX hbl hbA hw.2.2 (hin 2 (by decide)) dL_law_610 ?_
  refine frL_Vi (wN := fun u : RT => (fW z qX qP qK qN qL qG F_1 ++ (pW z qP P ++ (pW z qK K ++ (mW z qG qT G ++ (pW z qT T_1 ++ (nW z qN N ++ (lW z qL L ++ (sW z qS u))))))))) M (m_X7_ropeThen l z qS S (xs (x3 + (1 : Int32)).toNatClampNeg) (xs (x3 + (2 : Int32)).toNatClampNeg) _ h) (cwV 2 hts (gdV cd_X7_ropeThen ml_L_68 im_X7_ropeThen se_X7_ropeThen in_X7) rfl rfl rfl hdV_X7_ropeThen ⟨(Nat.le_of_ble_eq_true rfl), (Nat.le_of_ble_eq_true rfl)⟩) cut_28 prm_28 0 rfl rfl rfl hw ⟨Nat.le_refl _, Nat.le_refl _⟩ rfl hl.1 rfl (Nat.le_of_ble_eq_true rfl) dL_law_611 (fun r_2 u_ H locs h hw => ?_)
  obtain ⟨S_2, rfl⟩ : ∃ z9 : RT, z9 = u_ := ⟨_, rfl⟩
  have hw : Hw s z A (fW z qX qP qK qN qL qG F_1 ++ (pW z qP P ++ (pW z qK K ++ (mW z qG qT G ++ (pW z qT T_1 ++ (nW z qN N ++ (lW z qL L ++ (sW z qS S_2)))))))) H locs := hw
  try dsimp only at h
  obtain ⟨er, hI⟩ := h
  subst er
  refine lv_icmp_eq (tgt := 1463) hx hb dL_law_614 (by decide) (fun _ => ?_) (fun c9 => absurd rfl c9)
  exact hK F_1 P K G T_1 N L S_2 H locs ls hI hw hl
set_option maxHeartbeats 4000000 in
set_option maxRecDepth 100000 in
theorem lc_13 {p : Program} {l : Launch} {e : Env} {s : State} {m : MethodId} {below : List Frame} {meth : Method} {c : Code} {z : KT} {A : Nat → Prop} {b L9 : Nat} {xs : Nat → Int32} {Inv : RT → RT → RT → RT → RT → RT → RT → RT → Prop} {qX : Nat → Nat} {qS : Nat → Nat} {qL : Nat → Nat} {qN : Nat → Nat} {qG : Nat → Nat} {qP : Nat → Nat} {qK : Nat → Nat} {qT : Nat → Nat} (M : Mc p s m #[Value.ref b] meth c code 4 ret R_law z A) (hX : va_X b L9 xs s s.heap) (hbl : b < s.heap.size) (hbA : ¬ A b) (hst : St_up Inv) (x3 : Int32) (hin : ∀ j : Nat, j < 7 → vp_in (x3 + nI j) L9) (hK : ∀ (F P K G T N L S : RT) (H : Heap) (locs : List Loc) (ls : Array Slot), Inv F P K G T N L S → Hw s z A (fW z qX qP qK qN qL qG F ++ (pW z qP P ++ (pW z qK K ++ (mW z qG qT G ++ (pW z qT T ++ (nW z qN N ++ (lW z qL L ++ (sW z qS S)))))))) H locs → lv_has ls 4 [(0, .ref b), (1, .ref (qX 0)), (2, .ref (qS 0)), (3, .int x3)] → W p l e room_1 s m #[Value.ref b] below meth c H locs 50 946 (lw_Z below #[Value.ref b] s) (F0 m 1463 ls [])) (F P K G T N L S : RT) (H : Heap) (locs : List Loc) (ls : Array Slot) (hI : Inv F P K G T N L S) (hw : Hw s z A (fW z qX qP qK qN qL qG F ++ (pW z qP P ++ (pW z qK K ++ (mW z qG qT G ++ (pW z qT T ++ (nW z qN N ++ (lW z qL L ++ (sW z qS S)))))))) H locs) (hl : lv_has ls 4 [(0, .ref b), (1, .ref (qX 0)), (2, .ref (qS 0)), (3, .int x3)]) : W p l e room_1 s m #[Value.ref b] below meth c H locs 50 946 (lw_Z below #[Value.ref b] s) (F0 m 619 ls []) := by
  obtain ⟨hx, hb, -, -, hown, hts, -, -, -, hN, hsr, -⟩ := id M
  have h := hst F P K G T N L S hI (xs (x3 + (1 : Int32)).toNatClampNeg) (xs (x3 + (2 : Int32)).toNatClampNeg)
  refine lv_aload_n hx hb dL_law_619 rfl (lv_at hl 1 rfl) ?_
  refine lv_aload_n hx hb dL_law_620 rfl (lv_at hl 0 rfl) ?_
  refine lv_iload_n hx hb dL_law_621 rfl (lv_at hl 3 rfl) ?_
  refine lv_iconst (v := 1) hx hb dL_law_622 (by decide) ?_
  refine lv_iadd hx hb dL_law_623 ?_
  refine va_sld hx hb hX hbl hbA hw.2.2 (hin 1 (by decide)) dL_law_624 ?_
  refine lv_aload_n hx hb dL_law_625 rfl (lv_at hl 0 rfl) ?_
  refine lv_iload_n hx hb dL_law_626 rfl (lv_at hl 3 rfl) ?_
  refine lv_iconst (v := 2) hx hb dL_law_627 (by decide) ?_
  refine lv_iadd hx hb dL_law_628 ?_
  refine va_sld hx hb hX hbl hbA hw.2.2 (hin 2 (by decide)) dL_law_629 ?_
  refine frL_Vi (wN := fun u : RT × RT => (fW z qX qP qK qN qL qG u.1 ++ (pW z qP P ++ (pW z qK K ++ (mW z qG qT G ++ (pW z qT u.2 ++ (nW z qN N ++ (lW z qL L ++ (sW z qS S))))))))) M (m_X6_up l z qX qL qN qG qP qK qT F P K G T N L (xs (x3 + (1 : Int32)).toNatClampNeg) (xs (x3 + (2 : Int32)).toNatClampNeg) _ h) (cwV 2 hts (gdV cd_X6_up ml_L_69 im_X6_up se_X6_up in_X6) rfl rfl rfl hdV_X6_up ⟨(Nat.le_of_ble_eq_true rfl), (Nat.le_of_ble_eq_true rfl)⟩) cut_32 prm_32 0 rfl rfl rfl hw ⟨Nat.le_refl _, Nat.le_refl _⟩ rfl hl.1 rfl (Nat.le_of_ble_eq_true rfl) dL_law_630 (fun r_1 u_ H locs h hw => ?_)
  obtain ⟨F_1, T_1⟩ := u_
  have hw : Hw s z A (fW z qX qP qK qN qL qG F_1 ++ (pW z qP P ++ (pW z qK K ++ (mW z qG qT G ++ (pW z qT T_1 ++ (nW z qN N ++ (lW z qL L ++ (sW z qS S)))))))) H locs := hw
  try dsimp only at h
  refine lv_aload_n hx hb dL_law_633 rfl (lv_at hl 2 rfl) ?_
  refine lv_aload_n hx hb dL_law_634 rfl (lv_at hl 0 rfl) ?_
  refine lv_iload_n hx hb dL_law_635 rfl (lv_at hl 3 rfl) ?_
  refine lv_iconst (v := 1) hx hb dL_law_636 (by decide) ?_
  refine lv_iadd hx hb dL_law_637 ?_
  refine va_sld hx hb hX hbl hbA hw.2.2 (hin 1 (by decide)) dL_law_638 ?_
  refine lv_aload_n hx hb dL_law_639 rfl (lv_at hl 0 rfl) ?_
  refine lv_iload_n hx hb dL_law_640 rfl (lv_at hl 3 rfl) ?_
  refine lv_iconst (v := 2) hx hb dL_law_641 (by decide) ?_
  refine lv_iadd hx hb dL_law_642 ?_
  refine va_sld hx hb hX hbl hbA hw.2.2 (hin 2 (by decide)) dL_law_643 ?_
  refine frL_Vi (wN := fun u : RT => (fW z qX qP qK qN qL qG F_1 ++ (pW z qP P ++ (pW z qK K ++ (mW z qG qT G ++ (pW z qT T_1 ++ (nW z qN N ++ (lW z qL L ++ (sW z qS u))))))))) M (m_X7_up l z qS S (xs (x3 + (1 : Int32)).toNatClampNeg) (xs (x3 + (2 : Int32)).toNatClampNeg) _ h) (cwV 2 hts (gdV cd_X7_up ml_L_72 im_X7_up se_X7_up in_X7) rfl rfl rfl hdV_X7_up ⟨(Nat.le_of_ble_eq_true rfl), (Nat.le_of_ble_eq_true rfl)⟩) cut_28 prm_28 0 rfl rfl rfl hw ⟨Nat.le_refl _, Nat.le_refl _⟩ rfl hl.1 rfl (Nat.le_of_ble_eq_true rfl) dL_law_644 (fun r_2 u_ H locs h hw => ?_)
  obtain ⟨S_2, rfl⟩ : ∃ z9 : RT, z9 = u_ := ⟨_, rfl⟩
  have hw : Hw s z A (fW z qX qP qK qN qL qG F_1 ++ (pW z qP P ++ (pW z qK K ++ (mW z qG qT G ++ (pW z qT T_1 ++ (nW z qN N ++ (lW z qL L ++ (sW z qS S_2)))))))) H locs := hw
  try dsimp only at h
  obtain ⟨er, hI⟩ := h
  subst er
  refine lv_icmp_eq (tgt := 1463) hx hb dL_law_647 (by decide) (fun _ => ?_) (fun c9 => absurd rfl c9)
  exact hK F_1 P K G T_1 N L S_2 H locs ls hI hw hl
set_option maxHeartbeats 4000000 in
set_option maxRecDepth 100000 in
theorem lc_14 {p : Program} {l : Launch} {e : Env} {s : State} {m : MethodId} {below : List Frame} {meth : Method} {c : Code} {z : KT} {A : Nat → Prop} {b L9 : Nat} {xs : Nat → Int32} {Inv : RT → RT → RT → RT → RT → RT → RT → RT → Prop} {qX : Nat → Nat} {qS : Nat → Nat} {qL : Nat → Nat} {qN : Nat → Nat} {qG : Nat → Nat} {qP : Nat → Nat} {qK : Nat → Nat} {qT : Nat → Nat} (M : Mc p s m #[Value.ref b] meth c code 4 ret R_law z A) (hX : va_X b L9 xs s s.heap) (hbl : b < s.heap.size) (hbA : ¬ A b) (hst : St_first Inv) (x3 : Int32) (hin : ∀ j : Nat, j < 7 → vp_in (x3 + nI j) L9) (hK : ∀ (F P K G T N L S : RT) (H : Heap) (locs : List Loc) (ls : Array Slot), Inv F P K G T N L S → Hw s z A (fW z qX qP qK qN qL qG F ++ (pW z qP P ++ (pW z qK K ++ (mW z qG qT G ++ (pW z qT T ++ (nW z qN N ++ (lW z qL L ++ (sW z qS S)))))))) H locs → lv_has ls 4 [(0, .ref b), (1, .ref (qX 0)), (2, .ref (qS 0)), (3, .int x3)] → W p l e room_1 s m #[Value.ref b] below meth c H locs 50 946 (lw_Z below #[Value.ref b] s) (F0 m 1463 ls [])) (F P K G T N L S : RT) (H : Heap) (locs : List Loc) (ls : Array Slot) (hI : Inv F P K G T N L S) (hw : Hw s z A (fW z qX qP qK qN qL qG F ++ (pW z qP P ++ (pW z qK K ++ (mW z qG qT G ++ (pW z qT T ++ (nW z qN N ++ (lW z qL L ++ (sW z qS S)))))))) H locs) (hl : lv_has ls 4 [(0, .ref b), (1, .ref (qX 0)), (2, .ref (qS 0)), (3, .int x3)]) : W p l e room_1 s m #[Value.ref b] below meth c H locs 50 946 (lw_Z below #[Value.ref b] s) (F0 m 652 ls []) := by
  obtain ⟨hx, hb, -, -, hown, hts, -, -, -, hN, hsr, -⟩ := id M
  have h := hst F P K G T N L S hI (xs (x3 + (1 : Int32)).toNatClampNeg)
  refine lv_aload_n hx hb dL_law_652 rfl (lv_at hl 1 rfl) ?_
  refine lv_aload_n hx hb dL_law_653 rfl (lv_at hl 0 rfl) ?_
  refine lv_iload_n hx hb dL_law_654 rfl (lv_at hl 3 rfl) ?_
  refine lv_iconst (v := 1) hx hb dL_law_655 (by decide) ?_
  refine lv_iadd hx hb dL_law_656 ?_
  refine va_sld hx hb hX hbl hbA hw.2.2 (hin 1 (by decide)) dL_law_657 ?_
  refine frL_Vi (wN := fun u : RT × RT × RT => (fW z qX qP qK qN qL qG u.1 ++ (pW z qP P ++ (pW z qK K ++ (mW z qG qT u.2.1 ++ (pW z qT u.2.2 ++ (nW z qN N ++ (lW z qL L ++ (sW z qS S))))))))) M (m_X6_first l z qX qL qN qG qP qK qT F P K G T N L (xs (x3 + (1 : Int32)).toNatClampNeg) _ h) (cwV 1 hts (gdV cd_X6_first ml_L_73 im_X6_first se_X6_first in_X6) rfl rfl rfl hdV_X6_first ⟨(Nat.le_of_ble_eq_true rfl), (Nat.le_of_ble_eq_true rfl)⟩) cut_33 prm_33 0 rfl rfl rfl hw ⟨Nat.le_refl _, Nat.le_refl _⟩ rfl hl.1 rfl (Nat.le_of_ble_eq_true rfl) dL_law_658 (fun r_1 u_ H locs h hw => ?_)
  obtain ⟨F_1, G_1, T_1⟩ := u_
  have hw : Hw s z A (fW z qX qP qK qN qL qG F_1 ++ (pW z qP P ++ (pW z qK K ++ (mW z qG qT G_1 ++ (pW z qT T_1 ++ (nW z qN N ++ (lW z qL L ++ (sW z qS S)))))))) H locs := hw
  try dsimp only at h
  refine lv_aload_n hx hb dL_law_661 rfl (lv_at hl 2 rfl) ?_
  refine lv_aload_n hx hb dL_law_662 rfl (lv_at hl 0 rfl) ?_
  refine lv_iload_n hx hb dL_law_663 rfl (lv_at hl 3 rfl) ?_
  refine lv_iconst (v := 1) hx hb dL_law_664 (by decide) ?_
  refine lv_iadd hx hb dL_law_665 ?_
  refine va_sld hx hb hX hbl hbA hw.2.2 (hin 1 (by decide)) dL_law_666 ?_
  refine frL_Vi (wN := fun u : RT => (fW z qX qP qK qN qL qG F_1 ++ (pW z qP P ++ (pW z qK K ++ (mW z qG qT G_1 ++ (pW z qT T_1 ++ (nW z qN N ++ (lW z qL L ++ (sW z qS u))))))))) M (m_X7_first l z qS S (xs (x3 + (1 : Int32)).toNatClampNeg) _ h) (cwV 1 hts (gdV cd_X7_first ml_L_76 im_X7_first se_X7_first in_X7) rfl rfl rfl hdV_X7_first ⟨(Nat.le_of_ble_eq_true rfl), (Nat.le_of_ble_eq_true rfl)⟩) cut_28 prm_28 0 rfl rfl rfl hw ⟨Nat.le_refl _, Nat.le_refl _⟩ rfl hl.1 rfl (Nat.le_of_ble_eq_true rfl) dL_law_667 (fun r_2 u_ H locs h hw => ?_)
  obtain ⟨S_2, rfl⟩ : ∃ z9 : RT, z9 = u_ := ⟨_, rfl⟩
  have hw : Hw s z A (fW z qX qP qK qN qL qG F_1 ++ (pW z qP P ++ (pW z qK K ++ (mW z qG qT G_1 ++ (pW z qT T_1 ++ (nW z qN N ++ (lW z qL L ++ (sW z qS S_2)))))))) H locs := hw
  try dsimp only at h
  obtain ⟨er, hI⟩ := h
  subst er
  refine lv_icmp_eq (tgt := 1463) hx hb dL_law_670 (by decide) (fun _ => ?_) (fun c9 => absurd rfl c9)
  exact hK F_1 P K G_1 T_1 N L S_2 H locs ls hI hw hl
set_option maxHeartbeats 4000000 in
set_option maxRecDepth 100000 in
theorem lc_15 {p : Program} {l : Launch} {e : Env} {s : State} {m : MethodId} {below : List Frame} {meth : Method} {c : Code} {z : KT} {A : Nat → Prop} {b L9 : Nat} {xs : Nat → Int32} {Inv : RT → RT → RT → RT → RT → RT → RT → RT → Prop} {qX : Nat → Nat} {qS : Nat → Nat} {qL : Nat → Nat} {qN : Nat → Nat} {qG : Nat → Nat} {qP : Nat → Nat} {qK : Nat → Nat} {qT : Nat → Nat} (M : Mc p s m #[Value.ref b] meth c code 4 ret R_law z A) (hX : va_X b L9 xs s s.heap) (hbl : b < s.heap.size) (hbA : ¬ A b) (hst : St_changes Inv) (x3 : Int32) (hin : ∀ j : Nat, j < 7 → vp_in (x3 + nI j) L9) (hK : ∀ (F P K G T N L S : RT) (H : Heap) (locs : List Loc) (ls : Array Slot), Inv F P K G T N L S → Hw s z A (fW z qX qP qK qN qL qG F ++ (pW z qP P ++ (pW z qK K ++ (mW z qG qT G ++ (pW z qT T ++ (nW z qN N ++ (lW z qL L ++ (sW z qS S)))))))) H locs → lv_has ls 4 [(0, .ref b), (1, .ref (qX 0)), (2, .ref (qS 0)), (3, .int x3)] → W p l e room_1 s m #[Value.ref b] below meth c H locs 50 946 (lw_Z below #[Value.ref b] s) (F0 m 1463 ls [])) (F P K G T N L S : RT) (H : Heap) (locs : List Loc) (ls : Array Slot) (hI : Inv F P K G T N L S) (hw : Hw s z A (fW z qX qP qK qN qL qG F ++ (pW z qP P ++ (pW z qK K ++ (mW z qG qT G ++ (pW z qT T ++ (nW z qN N ++ (lW z qL L ++ (sW z qS S)))))))) H locs) (hl : lv_has ls 4 [(0, .ref b), (1, .ref (qX 0)), (2, .ref (qS 0)), (3, .int x3)]) : W p l e room_1 s m #[Value.ref b] below meth c H locs 50 946 (lw_Z below #[Value.ref b] s) (F0 m 675 ls []) := by
  obtain ⟨hx, hb, -, -, hown, hts, -, -, -, hN, hsr, -⟩ := id M
  have h := hst F P K G T N L S hI (xs (x3 + (1 : Int32)).toNatClampNeg)
  refine lv_aload_n hx hb dL_law_675 rfl (lv_at hl 1 rfl) ?_
  refine lv_aload_n hx hb dL_law_676 rfl (lv_at hl 0 rfl) ?_
  refine lv_iload_n hx hb dL_law_677 rfl (lv_at hl 3 rfl) ?_
  refine lv_iconst (v := 1) hx hb dL_law_678 (by decide) ?_
  refine lv_iadd hx hb dL_law_679 ?_
  refine va_sld hx hb hX hbl hbA hw.2.2 (hin 1 (by decide)) dL_law_680 ?_
  refine frL_Vi (wN := fun u : RT × RT => (fW z qX qP qK qN qL qG u.1 ++ (pW z qP P ++ (pW z qK K ++ (mW z qG qT G ++ (pW z qT u.2 ++ (nW z qN N ++ (lW z qL L ++ (sW z qS S))))))))) M (m_X6_changes l z qX qL qN qG qP qK qT F P K G T N L (xs (x3 + (1 : Int32)).toNatClampNeg) _ h) (cwV 1 hts (gdV cd_X6_changes ml_L_77 im_X6_changes se_X6_changes in_X6) rfl rfl rfl hdV_X6_changes ⟨(Nat.le_of_ble_eq_true rfl), (Nat.le_of_ble_eq_true rfl)⟩) cut_32 prm_32 0 rfl rfl rfl hw ⟨Nat.le_refl _, Nat.le_refl _⟩ rfl hl.1 rfl (Nat.le_of_ble_eq_true rfl) dL_law_681 (fun r_1 u_ H locs h hw => ?_)
  obtain ⟨F_1, T_1⟩ := u_
  have hw : Hw s z A (fW z qX qP qK qN qL qG F_1 ++ (pW z qP P ++ (pW z qK K ++ (mW z qG qT G ++ (pW z qT T_1 ++ (nW z qN N ++ (lW z qL L ++ (sW z qS S)))))))) H locs := hw
  try dsimp only at h
  refine lv_aload_n hx hb dL_law_684 rfl (lv_at hl 2 rfl) ?_
  refine lv_aload_n hx hb dL_law_685 rfl (lv_at hl 0 rfl) ?_
  refine lv_iload_n hx hb dL_law_686 rfl (lv_at hl 3 rfl) ?_
  refine lv_iconst (v := 1) hx hb dL_law_687 (by decide) ?_
  refine lv_iadd hx hb dL_law_688 ?_
  refine va_sld hx hb hX hbl hbA hw.2.2 (hin 1 (by decide)) dL_law_689 ?_
  refine frL_Vi (wN := fun u : RT => (fW z qX qP qK qN qL qG F_1 ++ (pW z qP P ++ (pW z qK K ++ (mW z qG qT G ++ (pW z qT T_1 ++ (nW z qN N ++ (lW z qL L ++ (sW z qS u))))))))) M (m_X7_changes l z qS S (xs (x3 + (1 : Int32)).toNatClampNeg) _ h) (cwV 1 hts (gdV cd_X7_changes ml_L_80 im_X7_changes se_X7_changes in_X7) rfl rfl rfl hdV_X7_changes ⟨(Nat.le_of_ble_eq_true rfl), (Nat.le_of_ble_eq_true rfl)⟩) cut_28 prm_28 0 rfl rfl rfl hw ⟨Nat.le_refl _, Nat.le_refl _⟩ rfl hl.1 rfl (Nat.le_of_ble_eq_true rfl) dL_law_690 (fun r_2 u_ H locs h hw => ?_)
  obtain ⟨S_2, rfl⟩ : ∃ z9 : RT, z9 = u_ := ⟨_, rfl⟩
  have hw : Hw s z A (fW z qX qP qK qN qL qG F_1 ++ (pW z qP P ++ (pW z qK K ++ (mW z qG qT G ++ (pW z qT T_1 ++ (nW z qN N ++ (lW z qL L ++ (sW z qS S_2)))))))) H locs := hw
  try dsimp only at h
  obtain ⟨er, hI⟩ := h
  subst er
  refine lv_icmp_eq (tgt := 1463) hx hb dL_law_693 (by decide) (fun _ => ?_) (fun c9 => absurd rfl c9)
  exact hK F_1 P K G T_1 N L S_2 H locs ls hI hw hl
set_option maxHeartbeats 4000000 in
set_option maxRecDepth 100000 in
theorem lc_16 {p : Program} {l : Launch} {e : Env} {s : State} {m : MethodId} {below : List Frame} {meth : Method} {c : Code} {z : KT} {A : Nat → Prop} {b L9 : Nat} {xs : Nat → Int32} {Inv : RT → RT → RT → RT → RT → RT → RT → RT → Prop} {qX : Nat → Nat} {qS : Nat → Nat} {qL : Nat → Nat} {qN : Nat → Nat} {qG : Nat → Nat} {qP : Nat → Nat} {qK : Nat → Nat} {qT : Nat → Nat} (M : Mc p s m #[Value.ref b] meth c code 4 ret R_law z A) (hX : va_X b L9 xs s s.heap) (hbl : b < s.heap.size) (hbA : ¬ A b) (hst : St_throwsDown Inv) (x3 : Int32) (hin : ∀ j : Nat, j < 7 → vp_in (x3 + nI j) L9) (hK : ∀ (F P K G T N L S : RT) (H : Heap) (locs : List Loc) (ls : Array Slot), Inv F P K G T N L S → Hw s z A (fW z qX qP qK qN qL qG F ++ (pW z qP P ++ (pW z qK K ++ (mW z qG qT G ++ (pW z qT T ++ (nW z qN N ++ (lW z qL L ++ (sW z qS S)))))))) H locs → lv_has ls 4 [(0, .ref b), (1, .ref (qX 0)), (2, .ref (qS 0)), (3, .int x3)] → W p l e room_1 s m #[Value.ref b] below meth c H locs 50 946 (lw_Z below #[Value.ref b] s) (F0 m 1463 ls [])) (F P K G T N L S : RT) (H : Heap) (locs : List Loc) (ls : Array Slot) (hI : Inv F P K G T N L S) (hw : Hw s z A (fW z qX qP qK qN qL qG F ++ (pW z qP P ++ (pW z qK K ++ (mW z qG qT G ++ (pW z qT T ++ (nW z qN N ++ (lW z qL L ++ (sW z qS S)))))))) H locs) (hl : lv_has ls 4 [(0, .ref b), (1, .ref (qX 0)), (2, .ref (qS 0)), (3, .int x3)]) : W p l e room_1 s m #[Value.ref b] below meth c H locs 50 946 (lw_Z below #[Value.ref b] s) (F0 m 698 ls []) := by
  obtain ⟨hx, hb, -, -, hown, hts, -, -, -, hN, hsr, -⟩ := id M
  have h := hst F P K G T N L S hI (xs (x3 + (1 : Int32)).toNatClampNeg) (xs (x3 + (2 : Int32)).toNatClampNeg) (xs (x3 + (3 : Int32)).toNatClampNeg)
  refine lv_aload_n hx hb dL_law_698 rfl (lv_at hl 1 rfl) ?_
  refine lv_aload_n hx hb dL_law_699 rfl (lv_at hl 0 rfl) ?_
  refine lv_iload_n hx hb dL_law_700 rfl (lv_at hl 3 rfl) ?_
  refine lv_iconst (v := 1) hx hb dL_law_701 (by decide) ?_
  refine lv_iadd hx hb dL_law_702 ?_
  refine va_sld hx hb hX hbl hbA hw.2.2 (hin 1 (by decide)) dL_law_703 ?_
  refine lv_aload_n hx hb dL_law_704 rfl (lv_at hl 0 rfl) ?_
  refine lv_iload_n hx hb dL_law_705 rfl (lv_at hl 3 rfl) ?_
  refine lv_iconst (v := 2) hx hb dL_law_706 (by decide) ?_
  refine lv_iadd hx hb dL_law_707 ?_
  refine va_sld hx hb hX hbl hbA hw.2.2 (hin 2 (by decide)) dL_law_708 ?_
  refine lv_aload_n hx hb dL_law_709 rfl (lv_at hl 0 rfl) ?_
  refine lv_iload_n hx hb dL_law_710 rfl (lv_at hl 3 rfl) ?_
  refine lv_iconst (v := 3) hx hb dL_law_711 (by decide) ?_
  refine lv_iadd hx hb dL_law_712 ?_
  refine va_sld hx hb hX hbl hbA hw.2.2 (hin 3 (by decide)) dL_law_713 ?_
  refine frL_Vi (wN := fun u : RT × RT => (fW z qX qP qK qN qL qG u.1 ++ (pW z qP P ++ (pW z qK K ++ (mW z qG qT G ++ (pW z qT u.2 ++ (nW z qN N ++ (lW z qL L ++ (sW z qS S))))))))) M (m_X6_throwsDown l z qX qL qN qG qP qK qT F P K G T N L (xs (x3 + (1 : Int32)).toNatClampNeg) (xs (x3 + (2 : Int32)).toNatClampNeg) (xs (x3 + (3 : Int32)).toNatClampNeg) _ h) (cwV 3 hts (gdV cd_X6_throwsDown ml_L_81 im_X6_throwsDown se_X6_throwsDown in_X6) rfl rfl rfl hdV_X6_throwsDown ⟨(Nat.le_of_ble_eq_true rfl), (Nat.le_of_ble_eq_true rfl)⟩) cut_32 prm_32 0 rfl rfl rfl hw ⟨Nat.le_refl _, Nat.le_refl _⟩ rfl hl.1 rfl (Nat.le_of_ble_eq_true rfl) dL_law_714 (fun r_1 u_ H locs h hw => ?_)
  obtain ⟨F_1, T_1⟩ := u_
  have hw : Hw s z A (fW z qX qP qK qN qL qG F_1 ++ (pW z qP P ++ (pW z qK K ++ (mW z qG qT G ++ (pW z qT T_1 ++ (nW z qN N ++ (lW z qL L ++ (sW z qS S)))))))) H locs := hw
  try dsimp only at h
  refine lv_aload_n hx hb dL_law_717 rfl (lv_at hl 2 rfl) ?_
  refine lv_aload_n hx hb dL_law_718 rfl (lv_at hl 0 rfl) ?_
  refine lv_iload_n hx hb dL_law_719 rfl (lv_at hl 3 rfl) ?_
  refine lv_iconst (v := 1) hx hb dL_law_720 (by decide) ?_
  refine lv_iadd hx hb dL_law_721 ?_
  refine va_sld hx hb hX hbl hbA hw.2.2 (hin 1 (by decide)) dL_law_722 ?_
  refine lv_aload_n hx hb dL_law_723 rfl (lv_at hl 0 rfl) ?_
  refine lv_iload_n hx hb dL_law_724 rfl (lv_at hl 3 rfl) ?_
  refine lv_iconst (v := 2) hx hb dL_law_725 (by decide) ?_
  refine lv_iadd hx hb dL_law_726 ?_
  refine va_sld hx hb hX hbl hbA hw.2.2 (hin 2 (by decide)) dL_law_727 ?_
  refine lv_aload_n hx hb dL_law_728 rfl (lv_at hl 0 rfl) ?_
  refine lv_iload_n hx hb dL_law_729 rfl (lv_at hl 3 rfl) ?_
  refine lv_iconst (v := 3) hx hb dL_law_730 (by decide) ?_
  refine lv_iadd hx hb dL_law_731 ?_
  refine va_sld hx hb hX hbl hbA hw.2.2 (hin 3 (by decide)) dL_law_732 ?_
  refine frL_Vi (wN := fun u : RT => (fW z qX qP qK qN qL qG F_1 ++ (pW z qP P ++ (pW z qK K ++ (mW z qG qT G ++ (pW z qT T_1 ++ (nW z qN N ++ (lW z qL L ++ (sW z qS u))))))))) M (m_X7_throwsDown l z qS S (xs (x3 + (1 : Int32)).toNatClampNeg) (xs (x3 + (2 : Int32)).toNatClampNeg) (xs (x3 + (3 : Int32)).toNatClampNeg) _ h) (cwV 3 hts (gdV cd_X7_throwsDown ml_L_84 im_X7_throwsDown se_X7_throwsDown in_X7) rfl rfl rfl hdV_X7_throwsDown ⟨(Nat.le_of_ble_eq_true rfl), (Nat.le_of_ble_eq_true rfl)⟩) cut_28 prm_28 0 rfl rfl rfl hw ⟨Nat.le_refl _, Nat.le_refl _⟩ rfl hl.1 rfl (Nat.le_of_ble_eq_true rfl) dL_law_733 (fun r_2 u_ H locs h hw => ?_)
  obtain ⟨S_2, rfl⟩ : ∃ z9 : RT, z9 = u_ := ⟨_, rfl⟩
  have hw : Hw s z A (fW z qX qP qK qN qL qG F_1 ++ (pW z qP P ++ (pW z qK K ++ (mW z qG qT G ++ (pW z qT T_1 ++ (nW z qN N ++ (lW z qL L ++ (sW z qS S_2)))))))) H locs := hw
  try dsimp only at h
  obtain ⟨er, hI⟩ := h
  subst er
  refine lv_icmp_eq (tgt := 1463) hx hb dL_law_736 (by decide) (fun _ => ?_) (fun c9 => absurd rfl c9)
  exact hK F_1 P K G T_1 N L S_2 H locs ls hI hw hl
set_option maxHeartbeats 4000000 in
set_option maxRecDepth 100000 in
theorem lc_17 {p : Program} {l : Launch} {e : Env} {s : State} {m : MethodId} {below : List Frame} {meth : Method} {c : Code} {z : KT} {A : Nat → Prop} {b L9 : Nat} {xs : Nat → Int32} {Inv : RT → RT → RT → RT → RT → RT → RT → RT → Prop} {qX : Nat → Nat} {qS : Nat → Nat} {qL : Nat → Nat} {qN : Nat → Nat} {qG : Nat → Nat} {qP : Nat → Nat} {qK : Nat → Nat} {qT : Nat → Nat} (M : Mc p s m #[Value.ref b] meth c code 4 ret R_law z A) (hX : va_X b L9 xs s s.heap) (hbl : b < s.heap.size) (hbA : ¬ A b) (hst : St_takesUp Inv) (x3 : Int32) (hin : ∀ j : Nat, j < 7 → vp_in (x3 + nI j) L9) (hK : ∀ (F P K G T N L S : RT) (H : Heap) (locs : List Loc) (ls : Array Slot), Inv F P K G T N L S → Hw s z A (fW z qX qP qK qN qL qG F ++ (pW z qP P ++ (pW z qK K ++ (mW z qG qT G ++ (pW z qT T ++ (nW z qN N ++ (lW z qL L ++ (sW z qS S)))))))) H locs → lv_has ls 4 [(0, .ref b), (1, .ref (qX 0)), (2, .ref (qS 0)), (3, .int x3)] → W p l e room_1 s m #[Value.ref b] below meth c H locs 50 946 (lw_Z below #[Value.ref b] s) (F0 m 1463 ls [])) (F P K G T N L S : RT) (H : Heap) (locs : List Loc) (ls : Array Slot) (hI : Inv F P K G T N L S) (hw : Hw s z A (fW z qX qP qK qN qL qG F ++ (pW z qP P ++ (pW z qK K ++ (mW z qG qT G ++ (pW z qT T ++ (nW z qN N ++ (lW z qL L ++ (sW z qS S)))))))) H locs) (hl : lv_has ls 4 [(0, .ref b), (1, .ref (qX 0)), (2, .ref (qS 0)), (3, .int x3)]) : W p l e room_1 s m #[Value.ref b] below meth c H locs 50 946 (lw_Z below #[Value.ref b] s) (F0 m 741 ls []) := by
  obtain ⟨hx, hb, -, -, hown, hts, -, -, -, hN, hsr, -⟩ := id M
  have h := hst F P K G T N L S hI (xs (x3 + (1 : Int32)).toNatClampNeg) (xs (x3 + (2 : Int32)).toNatClampNeg) (xs (x3 + (3 : Int32)).toNatClampNeg)
  refine lv_aload_n hx hb dL_law_741 rfl (lv_at hl 1 rfl) ?_
  refine lv_aload_n hx hb dL_law_742 rfl (lv_at hl 0 rfl) ?_
  refine lv_iload_n hx hb dL_law_743 rfl (lv_at hl 3 rfl) ?_
  refine lv_iconst (v := 1) hx hb dL_law_744 (by decide) ?_
  refine lv_iadd hx hb dL_law_745 ?_
  refine va_sld hx hb hX hbl hbA hw.2.2 (hin 1 (by decide)) dL_law_746 ?_
  refine lv_aload_n hx hb dL_law_747 rfl (lv_at hl 0 rfl) ?_
  refine lv_iload_n hx hb dL_law_748 rfl (lv_at hl 3 rfl) ?_
  refine lv_iconst (v := 2) hx hb dL_law_749 (by decide) ?_
  refine lv_iadd hx hb dL_law_750 ?_
  refine va_sld hx hb hX hbl hbA hw.2.2 (hin 2 (by decide)) dL_law_751 ?_
  refine lv_aload_n hx hb dL_law_752 rfl (lv_at hl 0 rfl) ?_
  refine lv_iload_n hx hb dL_law_753 rfl (lv_at hl 3 rfl) ?_
  refine lv_iconst (v := 3) hx hb dL_law_754 (by decide) ?_
  refine lv_iadd hx hb dL_law_755 ?_
  refine va_sld hx hb hX hbl hbA hw.2.2 (hin 3 (by decide)) dL_law_756 ?_
  refine frL_Vi (wN := fun u : RT × RT => (fW z qX qP qK qN qL qG u.1 ++ (pW z qP P ++ (pW z qK K ++ (mW z qG qT G ++ (pW z qT u.2 ++ (nW z qN N ++ (lW z qL L ++ (sW z qS S))))))))) M (m_X6_takesUp l z qX qL qN qG qP qK qT F P K G T N L (xs (x3 + (1 : Int32)).toNatClampNeg) (xs (x3 + (2 : Int32)).toNatClampNeg) (xs (x3 + (3 : Int32)).toNatClampNeg) _ h) (cwV 3 hts (gdV cd_X6_takesUp ml_L_85 im_X6_takesUp se_X6_takesUp in_X6) rfl rfl rfl hdV_X6_takesUp ⟨(Nat.le_of_ble_eq_true rfl), (Nat.le_of_ble_eq_true rfl)⟩) cut_32 prm_32 0 rfl rfl rfl hw ⟨Nat.le_refl _, Nat.le_refl _⟩ rfl hl.1 rfl (Nat.le_of_ble_eq_true rfl) dL_law_757 (fun r_1 u_ H locs h hw => ?_)
  obtain ⟨F_1, T_1⟩ := u_
  have hw : Hw s z A (fW z qX qP qK qN qL qG F_1 ++ (pW z qP P ++ (pW z qK K ++ (mW z qG qT G ++ (pW z qT T_1 ++ (nW z qN N ++ (lW z qL L ++ (sW z qS S)))))))) H locs := hw
  try dsimp only at h
  refine lv_aload_n hx hb dL_law_760 rfl (lv_at hl 2 rfl) ?_
  refine lv_aload_n hx hb dL_law_761 rfl (lv_at hl 0 rfl) ?_
  refine lv_iload_n hx hb dL_law_762 rfl (lv_at hl 3 rfl) ?_
  refine lv_iconst (v := 1) hx hb dL_law_763 (by decide) ?_
  refine lv_iadd hx hb dL_law_764 ?_
  refine va_sld hx hb hX hbl hbA hw.2.2 (hin 1 (by decide)) dL_law_765 ?_
  refine lv_aload_n hx hb dL_law_766 rfl (lv_at hl 0 rfl) ?_
  refine lv_iload_n hx hb dL_law_767 rfl (lv_at hl 3 rfl) ?_
  refine lv_iconst (v := 2) hx hb dL_law_768 (by decide) ?_
  refine lv_iadd hx hb dL_law_769 ?_
  refine va_sld hx hb hX hbl hbA hw.2.2 (hin 2 (by decide)) dL_law_770 ?_
  refine lv_aload_n hx hb dL_law_771 rfl (lv_at hl 0 rfl) ?_
  refine lv_iload_n hx hb dL_law_772 rfl (lv_at hl 3 rfl) ?_
  refine lv_iconst (v := 3) hx hb dL_law_773 (by decide) ?_
  refine lv_iadd hx hb dL_law_774 ?_
  refine va_sld hx hb hX hbl hbA hw.2.2 (hin 3 (by decide)) dL_law_775 ?_
  refine frL_Vi (wN := fun u : RT => (fW z qX qP qK qN qL qG F_1 ++ (pW z qP P ++ (pW z qK K ++ (mW z qG qT G ++ (pW z qT T_1 ++ (nW z qN N ++ (lW z qL L ++ (sW z qS u))))))))) M (m_X7_takesUp l z qS S (xs (x3 + (1 : Int32)).toNatClampNeg) (xs (x3 + (2 : Int32)).toNatClampNeg) (xs (x3 + (3 : Int32)).toNatClampNeg) _ h) (cwV 3 hts (gdV cd_X7_takesUp ml_L_88 im_X7_takesUp se_X7_takesUp in_X7) rfl rfl rfl hdV_X7_takesUp ⟨(Nat.le_of_ble_eq_true rfl), (Nat.le_of_ble_eq_true rfl)⟩) cut_28 prm_28 0 rfl rfl rfl hw ⟨Nat.le_refl _, Nat.le_refl _⟩ rfl hl.1 rfl (Nat.le_of_ble_eq_true rfl) dL_law_776 (fun r_2 u_ H locs h hw => ?_)
  obtain ⟨S_2, rfl⟩ : ∃ z9 : RT, z9 = u_ := ⟨_, rfl⟩
  have hw : Hw s z A (fW z qX qP qK qN qL qG F_1 ++ (pW z qP P ++ (pW z qK K ++ (mW z qG qT G ++ (pW z qT T_1 ++ (nW z qN N ++ (lW z qL L ++ (sW z qS S_2)))))))) H locs := hw
  try dsimp only at h
  obtain ⟨er, hI⟩ := h
  subst er
  refine lv_icmp_eq (tgt := 1463) hx hb dL_law_779 (by decide) (fun _ => ?_) (fun c9 => absurd rfl c9)
  exact hK F_1 P K G T_1 N L S_2 H locs ls hI hw hl
set_option maxHeartbeats 4000000 in
set_option maxRecDepth 100000 in
theorem lc_18 {p : Program} {l : Launch} {e : Env} {s : State} {m : MethodId} {below : List Frame} {meth : Method} {c : Code} {z : KT} {A : Nat → Prop} {b L9 : Nat} {xs : Nat → Int32} {Inv : RT → RT → RT → RT → RT → RT → RT → RT → Prop} {qX : Nat → Nat} {qS : Nat → Nat} {qL : Nat → Nat} {qN : Nat → Nat} {qG : Nat → Nat} {qP : Nat → Nat} {qK : Nat → Nat} {qT : Nat → Nat} (M : Mc p s m #[Value.ref b] meth c code 4 ret R_law z A) (hX : va_X b L9 xs s s.heap) (hbl : b < s.heap.size) (hbA : ¬ A b) (hst : St_bestTie Inv) (x3 : Int32) (hin : ∀ j : Nat, j < 7 → vp_in (x3 + nI j) L9) (hK : ∀ (F P K G T N L S : RT) (H : Heap) (locs : List Loc) (ls : Array Slot), Inv F P K G T N L S → Hw s z A (fW z qX qP qK qN qL qG F ++ (pW z qP P ++ (pW z qK K ++ (mW z qG qT G ++ (pW z qT T ++ (nW z qN N ++ (lW z qL L ++ (sW z qS S)))))))) H locs → lv_has ls 4 [(0, .ref b), (1, .ref (qX 0)), (2, .ref (qS 0)), (3, .int x3)] → W p l e room_1 s m #[Value.ref b] below meth c H locs 50 946 (lw_Z below #[Value.ref b] s) (F0 m 1463 ls [])) (F P K G T N L S : RT) (H : Heap) (locs : List Loc) (ls : Array Slot) (hI : Inv F P K G T N L S) (hw : Hw s z A (fW z qX qP qK qN qL qG F ++ (pW z qP P ++ (pW z qK K ++ (mW z qG qT G ++ (pW z qT T ++ (nW z qN N ++ (lW z qL L ++ (sW z qS S)))))))) H locs) (hl : lv_has ls 4 [(0, .ref b), (1, .ref (qX 0)), (2, .ref (qS 0)), (3, .int x3)]) : W p l e room_1 s m #[Value.ref b] below meth c H locs 50 946 (lw_Z below #[Value.ref b] s) (F0 m 784 ls []) := by
  obtain ⟨hx, hb, -, -, hown, hts, -, -, -, hN, hsr, -⟩ := id M
  have h := hst F P K G T N L S hI (xs (x3 + (1 : Int32)).toNatClampNeg) (xs (x3 + (2 : Int32)).toNatClampNeg)
  refine lv_aload_n hx hb dL_law_784 rfl (lv_at hl 1 rfl) ?_
  refine lv_aload_n hx hb dL_law_785 rfl (lv_at hl 0 rfl) ?_
  refine lv_iload_n hx hb dL_law_786 rfl (lv_at hl 3 rfl) ?_
  refine lv_iconst (v := 1) hx hb dL_law_787 (by decide) ?_
  refine lv_iadd hx hb dL_law_788 ?_
  refine va_sld hx hb hX hbl hbA hw.2.2 (hin 1 (by decide)) dL_law_789 ?_
  refine lv_aload_n hx hb dL_law_790 rfl (lv_at hl 0 rfl) ?_
  refine lv_iload_n hx hb dL_law_791 rfl (lv_at hl 3 rfl) ?_
  refine lv_iconst (v := 2) hx hb dL_law_792 (by decide) ?_
  refine lv_iadd hx hb dL_law_793 ?_
  refine va_sld hx hb hX hbl hbA hw.2.2 (hin 2 (by decide)) dL_law_794 ?_
  refine frL_Vi (wN := fun u : RT × RT => (fW z qX qP qK qN qL qG u.1 ++ (pW z qP P ++ (pW z qK K ++ (mW z qG qT G ++ (pW z qT u.2 ++ (nW z qN N ++ (lW z qL L ++ (sW z qS S))))))))) M (m_X6_bestTie l z qX qL qN qG qP qK qT F P K G T N L (xs (x3 + (1 : Int32)).toNatClampNeg) (xs (x3 + (2 : Int32)).toNatClampNeg) _ h) (cwV 2 hts (gdV cd_X6_bestTie ml_L_89 im_X6_bestTie se_X6_bestTie in_X6) rfl rfl rfl hdV_X6_bestTie ⟨(Nat.le_of_ble_eq_true rfl), (Nat.le_of_ble_eq_true rfl)⟩) cut_32 prm_32 0 rfl rfl rfl hw ⟨Nat.le_refl _, Nat.le_refl _⟩ rfl hl.1 rfl (Nat.le_of_ble_eq_true rfl) dL_law_795 (fun r_1 u_ H locs h hw => ?_)
  obtain ⟨F_1, T_1⟩ := u_
  have hw : Hw s z A (fW z qX qP qK qN qL qG F_1 ++ (pW z qP P ++ (pW z qK K ++ (mW z qG qT G ++ (pW z qT T_1 ++ (nW z qN N ++ (lW z qL L ++ (sW z qS S)))))))) H locs := hw
  try dsimp only at h
  refine lv_aload_n hx hb dL_law_798 rfl (lv_at hl 2 rfl) ?_
  refine lv_aload_n hx hb dL_law_799 rfl (lv_at hl 0 rfl) ?_
  refine lv_iload_n hx hb dL_law_800 rfl (lv_at hl 3 rfl) ?_
  refine lv_iconst (v := 1) hx hb dL_law_801 (by decide) ?_
  refine lv_iadd hx hb dL_law_802 ?_
  refine va_sld hx hb hX hbl hbA hw.2.2 (hin 1 (by decide)) dL_law_803 ?_
  refine lv_aload_n hx hb dL_law_804 rfl (lv_at hl 0 rfl) ?_
  refine lv_iload_n hx hb dL_law_805 rfl (lv_at hl 3 rfl) ?_
  refine lv_iconst (v := 2) hx hb dL_law_806 (by decide) ?_
  refine lv_iadd hx hb dL_law_807 ?_
  refine va_sld hx hb hX hbl hbA hw.2.2 (hin 2 (by decide)) dL_law_808 ?_
  refine frL_Vi (wN := fun u : RT => (fW z qX qP qK qN qL qG F_1 ++ (pW z qP P ++ (pW z qK K ++ (mW z qG qT G ++ (pW z qT T_1 ++ (nW z qN N ++ (lW z qL L ++ (sW z qS u))))))))) M (m_X7_bestTie l z qS S (xs (x3 + (1 : Int32)).toNatClampNeg) (xs (x3 + (2 : Int32)).toNatClampNeg) _ h) (cwV 2 hts (gdV cd_X7_bestTie ml_L_92 im_X7_bestTie se_X7_bestTie in_X7) rfl rfl rfl hdV_X7_bestTie ⟨(Nat.le_of_ble_eq_true rfl), (Nat.le_of_ble_eq_true rfl)⟩) cut_28 prm_28 0 rfl rfl rfl hw ⟨Nat.le_refl _, Nat.le_refl _⟩ rfl hl.1 rfl (Nat.le_of_ble_eq_true rfl) dL_law_809 (fun r_2 u_ H locs h hw => ?_)
  obtain ⟨S_2, rfl⟩ : ∃ z9 : RT, z9 = u_ := ⟨_, rfl⟩
  have hw : Hw s z A (fW z qX qP qK qN qL qG F_1 ++ (pW z qP P ++ (pW z qK K ++ (mW z qG qT G ++ (pW z qT T_1 ++ (nW z qN N ++ (lW z qL L ++ (sW z qS S_2)))))))) H locs := hw
  try dsimp only at h
  obtain ⟨er, hI⟩ := h
  subst er
  refine lv_icmp_eq (tgt := 1463) hx hb dL_law_812 (by decide) (fun _ => ?_) (fun c9 => absurd rfl c9)
  exact hK F_1 P K G T_1 N L S_2 H locs ls hI hw hl
set_option maxHeartbeats 4000000 in
set_option maxRecDepth 100000 in
theorem lc_19 {p : Program} {l : Launch} {e : Env} {s : State} {m : MethodId} {below : List Frame} {meth : Method} {c : Code} {z : KT} {A : Nat → Prop} {b L9 : Nat} {xs : Nat → Int32} {Inv : RT → RT → RT → RT → RT → RT → RT → RT → Prop} {qX : Nat → Nat} {qS : Nat → Nat} {qL : Nat → Nat} {qN : Nat → Nat} {qG : Nat → Nat} {qP : Nat → Nat} {qK : Nat → Nat} {qT : Nat → Nat} (M : Mc p s m #[Value.ref b] meth c code 4 ret R_law z A) (hX : va_X b L9 xs s s.heap) (hbl : b < s.heap.size) (hbA : ¬ A b) (hst : St_bestCut Inv) (x3 : Int32) (hin : ∀ j : Nat, j < 7 → vp_in (x3 + nI j) L9) (hK : ∀ (F P K G T N L S : RT) (H : Heap) (locs : List Loc) (ls : Array Slot), Inv F P K G T N L S → Hw s z A (fW z qX qP qK qN qL qG F ++ (pW z qP P ++ (pW z qK K ++ (mW z qG qT G ++ (pW z qT T ++ (nW z qN N ++ (lW z qL L ++ (sW z qS S)))))))) H locs → lv_has ls 4 [(0, .ref b), (1, .ref (qX 0)), (2, .ref (qS 0)), (3, .int x3)] → W p l e room_1 s m #[Value.ref b] below meth c H locs 50 946 (lw_Z below #[Value.ref b] s) (F0 m 1463 ls [])) (F P K G T N L S : RT) (H : Heap) (locs : List Loc) (ls : Array Slot) (hI : Inv F P K G T N L S) (hw : Hw s z A (fW z qX qP qK qN qL qG F ++ (pW z qP P ++ (pW z qK K ++ (mW z qG qT G ++ (pW z qT T ++ (nW z qN N ++ (lW z qL L ++ (sW z qS S)))))))) H locs) (hl : lv_has ls 4 [(0, .ref b), (1, .ref (qX 0)), (2, .ref (qS 0)), (3, .int x3)]) : W p l e room_1 s m #[Value.ref b] below meth c H locs 50 946 (lw_Z below #[Value.ref b] s) (F0 m 817 ls []) := by
  obtain ⟨hx, hb, -, -, hown, hts, -, -, -, hN, hsr, -⟩ := id M
  have h := hst F P K G T N L S hI (xs (x3 + (1 : Int32)).toNatClampNeg) (xs (x3 + (2 : Int32)).toNatClampNeg)
  refine lv_aload_n hx hb dL_law_817 rfl (lv_at hl 1 rfl) ?_
  refine lv_aload_n hx hb dL_law_818 rfl (lv_at hl 0 rfl) ?_
  refine lv_iload_n hx hb dL_law_819 rfl (lv_at hl 3 rfl) ?_
  refine lv_iconst (v := 1) hx hb dL_law_820 (by decide) ?_
  refine lv_iadd hx hb dL_law_821 ?_
  refine va_sld hx hb hX hbl hbA hw.2.2 (hin 1 (by decide)) dL_law_822 ?_
  refine lv_aload_n hx hb dL_law_823 rfl (lv_at hl 0 rfl) ?_
  refine lv_iload_n hx hb dL_law_824 rfl (lv_at hl 3 rfl) ?_
  refine lv_iconst (v := 2) hx hb dL_law_825 (by decide) ?_
  refine lv_iadd hx hb dL_law_826 ?_
  refine va_sld hx hb hX hbl hbA hw.2.2 (hin 2 (by decide)) dL_law_827 ?_
  refine frL_Vi (wN := fun u : RT × RT => (fW z qX qP qK qN qL qG u.1 ++ (pW z qP P ++ (pW z qK K ++ (mW z qG qT G ++ (pW z qT u.2 ++ (nW z qN N ++ (lW z qL L ++ (sW z qS S))))))))) M (m_X6_bestCut l z qX qL qN qG qP qK qT F P K G T N L (xs (x3 + (1 : Int32)).toNatClampNeg) (xs (x3 + (2 : Int32)).toNatClampNeg) _ h) (cwV 2 hts (gdV cd_X6_bestCut ml_L_93 im_X6_bestCut se_X6_bestCut in_X6) rfl rfl rfl hdV_X6_bestCut ⟨(Nat.le_of_ble_eq_true rfl), (Nat.le_of_ble_eq_true rfl)⟩) cut_32 prm_32 0 rfl rfl rfl hw ⟨Nat.le_refl _, Nat.le_refl _⟩ rfl hl.1 rfl (Nat.le_of_ble_eq_true rfl) dL_law_828 (fun r_1 u_ H locs h hw => ?_)
  obtain ⟨F_1, T_1⟩ := u_
  have hw : Hw s z A (fW z qX qP qK qN qL qG F_1 ++ (pW z qP P ++ (pW z qK K ++ (mW z qG qT G ++ (pW z qT T_1 ++ (nW z qN N ++ (lW z qL L ++ (sW z qS S)))))))) H locs := hw
  try dsimp only at h
  refine lv_aload_n hx hb dL_law_831 rfl (lv_at hl 2 rfl) ?_
  refine lv_aload_n hx hb dL_law_832 rfl (lv_at hl 0 rfl) ?_
  refine lv_iload_n hx hb dL_law_833 rfl (lv_at hl 3 rfl) ?_
  refine lv_iconst (v := 1) hx hb dL_law_834 (by decide) ?_
  refine lv_iadd hx hb dL_law_835 ?_
  refine va_sld hx hb hX hbl hbA hw.2.2 (hin 1 (by decide)) dL_law_836 ?_
  refine lv_aload_n hx hb dL_law_837 rfl (lv_at hl 0 rfl) ?_
  refine lv_iload_n hx hb dL_law_838 rfl (lv_at hl 3 rfl) ?_
  refine lv_iconst (v := 2) hx hb dL_law_839 (by decide) ?_
  refine lv_iadd hx hb dL_law_840 ?_
  refine va_sld hx hb hX hbl hbA hw.2.2 (hin 2 (by decide)) dL_law_841 ?_
  refine frL_Vi (wN := fun u : RT => (fW z qX qP qK qN qL qG F_1 ++ (pW z qP P ++ (pW z qK K ++ (mW z qG qT G ++ (pW z qT T_1 ++ (nW z qN N ++ (lW z qL L ++ (sW z qS u))))))))) M (m_X7_bestCut l z qS S (xs (x3 + (1 : Int32)).toNatClampNeg) (xs (x3 + (2 : Int32)).toNatClampNeg) _ h) (cwV 2 hts (gdV cd_X7_bestCut ml_L_96 im_X7_bestCut se_X7_bestCut in_X7) rfl rfl rfl hdV_X7_bestCut ⟨(Nat.le_of_ble_eq_true rfl), (Nat.le_of_ble_eq_true rfl)⟩) cut_28 prm_28 0 rfl rfl rfl hw ⟨Nat.le_refl _, Nat.le_refl _⟩ rfl hl.1 rfl (Nat.le_of_ble_eq_true rfl) dL_law_842 (fun r_2 u_ H locs h hw => ?_)
  obtain ⟨S_2, rfl⟩ : ∃ z9 : RT, z9 = u_ := ⟨_, rfl⟩
  have hw : Hw s z A (fW z qX qP qK qN qL qG F_1 ++ (pW z qP P ++ (pW z qK K ++ (mW z qG qT G ++ (pW z qT T_1 ++ (nW z qN N ++ (lW z qL L ++ (sW z qS S_2)))))))) H locs := hw
  try dsimp only at h
  obtain ⟨er, hI⟩ := h
  subst er
  refine lv_icmp_eq (tgt := 1463) hx hb dL_law_845 (by decide) (fun _ => ?_) (fun c9 => absurd rfl c9)
  exact hK F_1 P K G T_1 N L S_2 H locs ls hI hw hl
set_option maxHeartbeats 4000000 in
set_option maxRecDepth 100000 in
theorem lc_20 {p : Program} {l : Launch} {e : Env} {s : State} {m : MethodId} {below : List Frame} {meth : Method} {c : Code} {z : KT} {A : Nat → Prop} {b L9 : Nat} {xs : Nat → Int32} {Inv : RT → RT → RT → RT → RT → RT → RT → RT → Prop} {qX : Nat → Nat} {qS : Nat → Nat} {qL : Nat → Nat} {qN : Nat → Nat} {qG : Nat → Nat} {qP : Nat → Nat} {qK : Nat → Nat} {qT : Nat → Nat} (M : Mc p s m #[Value.ref b] meth c code 4 ret R_law z A) (hX : va_X b L9 xs s s.heap) (hbl : b < s.heap.size) (hbA : ¬ A b) (hst : St_bestStone Inv) (x3 : Int32) (hin : ∀ j : Nat, j < 7 → vp_in (x3 + nI j) L9) (hK : ∀ (F P K G T N L S : RT) (H : Heap) (locs : List Loc) (ls : Array Slot), Inv F P K G T N L S → Hw s z A (fW z qX qP qK qN qL qG F ++ (pW z qP P ++ (pW z qK K ++ (mW z qG qT G ++ (pW z qT T ++ (nW z qN N ++ (lW z qL L ++ (sW z qS S)))))))) H locs → lv_has ls 4 [(0, .ref b), (1, .ref (qX 0)), (2, .ref (qS 0)), (3, .int x3)] → W p l e room_1 s m #[Value.ref b] below meth c H locs 50 946 (lw_Z below #[Value.ref b] s) (F0 m 1463 ls [])) (F P K G T N L S : RT) (H : Heap) (locs : List Loc) (ls : Array Slot) (hI : Inv F P K G T N L S) (hw : Hw s z A (fW z qX qP qK qN qL qG F ++ (pW z qP P ++ (pW z qK K ++ (mW z qG qT G ++ (pW z qT T ++ (nW z qN N ++ (lW z qL L ++ (sW z qS S)))))))) H locs) (hl : lv_has ls 4 [(0, .ref b), (1, .ref (qX 0)), (2, .ref (qS 0)), (3, .int x3)]) : W p l e room_1 s m #[Value.ref b] below meth c H locs 50 946 (lw_Z below #[Value.ref b] s) (F0 m 850 ls []) := by
  obtain ⟨hx, hb, -, -, hown, hts, -, -, -, hN, hsr, -⟩ := id M
  have h := hst F P K G T N L S hI (xs (x3 + (1 : Int32)).toNatClampNeg)
  refine lv_aload_n hx hb dL_law_850 rfl (lv_at hl 1 rfl) ?_
  refine lv_aload_n hx hb dL_law_851 rfl (lv_at hl 0 rfl) ?_
  refine lv_iload_n hx hb dL_law_852 rfl (lv_at hl 3 rfl) ?_
  refine lv_iconst (v := 1) hx hb dL_law_853 (by decide) ?_
  refine lv_iadd hx hb dL_law_854 ?_
  refine va_sld hx hb hX hbl hbA hw.2.2 (hin 1 (by decide)) dL_law_855 ?_
  refine frL_Vi (wN := fun u : RT × RT => (fW z qX qP qK qN qL qG u.1 ++ (pW z qP P ++ (pW z qK K ++ (mW z qG qT G ++ (pW z qT u.2 ++ (nW z qN N ++ (lW z qL L ++ (sW z qS S))))))))) M (m_X6_bestStone l z qX qL qN qG qP qK qT F P K G T N L (xs (x3 + (1 : Int32)).toNatClampNeg) _ h) (cwV 1 hts (gdV cd_X6_bestStone ml_L_97 im_X6_bestStone se_X6_bestStone in_X6) rfl rfl rfl hdV_X6_bestStone ⟨(Nat.le_of_ble_eq_true rfl), (Nat.le_of_ble_eq_true rfl)⟩) cut_32 prm_32 0 rfl rfl rfl hw ⟨Nat.le_refl _, Nat.le_refl _⟩ rfl hl.1 rfl (Nat.le_of_ble_eq_true rfl) dL_law_856 (fun r_1 u_ H locs h hw => ?_)
  obtain ⟨F_1, T_1⟩ := u_
  have hw : Hw s z A (fW z qX qP qK qN qL qG F_1 ++ (pW z qP P ++ (pW z qK K ++ (mW z qG qT G ++ (pW z qT T_1 ++ (nW z qN N ++ (lW z qL L ++ (sW z qS S)))))))) H locs := hw
  try dsimp only at h
  refine lv_aload_n hx hb dL_law_859 rfl (lv_at hl 2 rfl) ?_
  refine lv_aload_n hx hb dL_law_860 rfl (lv_at hl 0 rfl) ?_
  refine lv_iload_n hx hb dL_law_861 rfl (lv_at hl 3 rfl) ?_
  refine lv_iconst (v := 1) hx hb dL_law_862 (by decide) ?_
  refine lv_iadd hx hb dL_law_863 ?_
  refine va_sld hx hb hX hbl hbA hw.2.2 (hin 1 (by decide)) dL_law_864 ?_
  refine frL_Vi (wN := fun u : RT => (fW z qX qP qK qN qL qG F_1 ++ (pW z qP P ++ (pW z qK K ++ (mW z qG qT G ++ (pW z qT T_1 ++ (nW z qN N ++ (lW z qL L ++ (sW z qS u))))))))) M (m_X7_bestStone l z qS S (xs (x3 + (1 : Int32)).toNatClampNeg) _ h) (cwV 1 hts (gdV cd_X7_bestStone ml_L_100 im_X7_bestStone se_X7_bestStone in_X7) rfl rfl rfl hdV_X7_bestStone ⟨(Nat.le_of_ble_eq_true rfl), (Nat.le_of_ble_eq_true rfl)⟩) cut_28 prm_28 0 rfl rfl rfl hw ⟨Nat.le_refl _, Nat.le_refl _⟩ rfl hl.1 rfl (Nat.le_of_ble_eq_true rfl) dL_law_865 (fun r_2 u_ H locs h hw => ?_)
  obtain ⟨S_2, rfl⟩ : ∃ z9 : RT, z9 = u_ := ⟨_, rfl⟩
  have hw : Hw s z A (fW z qX qP qK qN qL qG F_1 ++ (pW z qP P ++ (pW z qK K ++ (mW z qG qT G ++ (pW z qT T_1 ++ (nW z qN N ++ (lW z qL L ++ (sW z qS S_2)))))))) H locs := hw
  try dsimp only at h
  obtain ⟨er, hI⟩ := h
  subst er
  refine lv_icmp_eq (tgt := 1463) hx hb dL_law_868 (by decide) (fun _ => ?_) (fun c9 => absurd rfl c9)
  exact hK F_1 P K G T_1 N L S_2 H locs ls hI hw hl
set_option maxHeartbeats 4000000 in
set_option maxRecDepth 100000 in
theorem lc_21 {p : Program} {l : Launch} {e : Env} {s : State} {m : MethodId} {below : List Frame} {meth : Method} {c : Code} {z : KT} {A : Nat → Prop} {b L9 : Nat} {xs : Nat → Int32} {Inv : RT → RT → RT → RT → RT → RT → RT → RT → Prop} {qX : Nat → Nat} {qS : Nat → Nat} {qL : Nat → Nat} {qN : Nat → Nat} {qG : Nat → Nat} {qP : Nat → Nat} {qK : Nat → Nat} {qT : Nat → Nat} (M : Mc p s m #[Value.ref b] meth c code 4 ret R_law z A) (hX : va_X b L9 xs s s.heap) (hbl : b < s.heap.size) (hbA : ¬ A b) (hst : St_rows Inv) (x3 : Int32) (hin : ∀ j : Nat, j < 7 → vp_in (x3 + nI j) L9) (hK : ∀ (F P K G T N L S : RT) (H : Heap) (locs : List Loc) (ls : Array Slot), Inv F P K G T N L S → Hw s z A (fW z qX qP qK qN qL qG F ++ (pW z qP P ++ (pW z qK K ++ (mW z qG qT G ++ (pW z qT T ++ (nW z qN N ++ (lW z qL L ++ (sW z qS S)))))))) H locs → lv_has ls 4 [(0, .ref b), (1, .ref (qX 0)), (2, .ref (qS 0)), (3, .int x3)] → W p l e room_1 s m #[Value.ref b] below meth c H locs 50 946 (lw_Z below #[Value.ref b] s) (F0 m 1463 ls [])) (F P K G T N L S : RT) (H : Heap) (locs : List Loc) (ls : Array Slot) (hI : Inv F P K G T N L S) (hw : Hw s z A (fW z qX qP qK qN qL qG F ++ (pW z qP P ++ (pW z qK K ++ (mW z qG qT G ++ (pW z qT T ++ (nW z qN N ++ (lW z qL L ++ (sW z qS S)))))))) H locs) (hl : lv_has ls 4 [(0, .ref b), (1, .ref (qX 0)), (2, .ref (qS 0)), (3, .int x3)]) : W p l e room_1 s m #[Value.ref b] below meth c H locs 50 946 (lw_Z below #[Value.ref b] s) (F0 m 873 ls []) := by
  obtain ⟨hx, hb, -, -, hown, hts, -, -, -, hN, hsr, -⟩ := id M
  have h := hst F P K G T N L S hI (xs (x3 + (1 : Int32)).toNatClampNeg)
  refine lv_aload_n hx hb dL_law_873 rfl (lv_at hl 1 rfl) ?_
  refine lv_aload_n hx hb dL_law_874 rfl (lv_at hl 0 rfl) ?_
  refine lv_iload_n hx hb dL_law_875 rfl (lv_at hl 3 rfl) ?_
  refine lv_iconst (v := 1) hx hb dL_law_876 (by decide) ?_
  refine lv_iadd hx hb dL_law_877 ?_
  refine va_sld hx hb hX hbl hbA hw.2.2 (hin 1 (by decide)) dL_law_878 ?_
  refine frL_Vi (wN := fun u : RT => (fW z qX qP qK qN qL qG u ++ (pW z qP P ++ (pW z qK K ++ (mW z qG qT G ++ (pW z qT T ++ (nW z qN N ++ (lW z qL L ++ (sW z qS S))))))))) M (m_X6_rows l z qX qL qN qG qP qK qT F P K G T N L (xs (x3 + (1 : Int32)).toNatClampNeg) _ h) (cwV 1 hts (gdV cd_X6_rows ml_L_101 im_X6_rows se_X6_rows in_X6) rfl rfl rfl hdV_X6_rows ⟨(Nat.le_of_ble_eq_true rfl), (Nat.le_of_ble_eq_true rfl)⟩) cut_30 prm_30 0 rfl rfl rfl hw ⟨Nat.le_refl _, Nat.le_refl _⟩ rfl hl.1 rfl (Nat.le_of_ble_eq_true rfl) dL_law_879 (fun r_1 u_ H locs h hw => ?_)
  obtain ⟨F_1, rfl⟩ : ∃ z9 : RT, z9 = u_ := ⟨_, rfl⟩
  have hw : Hw s z A (fW z qX qP qK qN qL qG F_1 ++ (pW z qP P ++ (pW z qK K ++ (mW z qG qT G ++ (pW z qT T ++ (nW z qN N ++ (lW z qL L ++ (sW z qS S)))))))) H locs := hw
  try dsimp only at h
  refine lv_aload_n hx hb dL_law_882 rfl (lv_at hl 2 rfl) ?_
  refine lv_aload_n hx hb dL_law_883 rfl (lv_at hl 0 rfl) ?_
  refine lv_iload_n hx hb dL_law_884 rfl (lv_at hl 3 rfl) ?_
  refine lv_iconst (v := 1) hx hb dL_law_885 (by decide) ?_
  refine lv_iadd hx hb dL_law_886 ?_
  refine va_sld hx hb hX hbl hbA hw.2.2 (hin 1 (by decide)) dL_law_887 ?_
  refine frL_Vi (wN := fun u : RT => (fW z qX qP qK qN qL qG F_1 ++ (pW z qP P ++ (pW z qK K ++ (mW z qG qT G ++ (pW z qT T ++ (nW z qN N ++ (lW z qL L ++ (sW z qS u))))))))) M (m_X7_rows l z qS S (xs (x3 + (1 : Int32)).toNatClampNeg) _ h) (cwV 1 hts (gdV cd_X7_rows ml_L_104 im_X7_rows se_X7_rows in_X7) rfl rfl rfl hdV_X7_rows ⟨(Nat.le_of_ble_eq_true rfl), (Nat.le_of_ble_eq_true rfl)⟩) cut_28 prm_28 0 rfl rfl rfl hw ⟨Nat.le_refl _, Nat.le_refl _⟩ rfl hl.1 rfl (Nat.le_of_ble_eq_true rfl) dL_law_888 (fun r_2 u_ H locs h hw => ?_)
  obtain ⟨S_2, rfl⟩ : ∃ z9 : RT, z9 = u_ := ⟨_, rfl⟩
  have hw : Hw s z A (fW z qX qP qK qN qL qG F_1 ++ (pW z qP P ++ (pW z qK K ++ (mW z qG qT G ++ (pW z qT T ++ (nW z qN N ++ (lW z qL L ++ (sW z qS S_2)))))))) H locs := hw
  try dsimp only at h
  obtain ⟨er, hI⟩ := h
  subst er
  refine lv_icmp_eq (tgt := 1463) hx hb dL_law_891 (by decide) (fun _ => ?_) (fun c9 => absurd rfl c9)
  exact hK F_1 P K G T N L S_2 H locs ls hI hw hl
set_option maxHeartbeats 4000000 in
set_option maxRecDepth 100000 in
theorem lc_22 {p : Program} {l : Launch} {e : Env} {s : State} {m : MethodId} {below : List Frame} {meth : Method} {c : Code} {z : KT} {A : Nat → Prop} {b L9 : Nat} {xs : Nat → Int32} {Inv : RT → RT → RT → RT → RT → RT → RT → RT → Prop} {qX : Nat → Nat} {qS : Nat → Nat} {qL : Nat → Nat} {qN : Nat → Nat} {qG : Nat → Nat} {qP : Nat → Nat} {qK : Nat → Nat} {qT : Nat → Nat} (M : Mc p s m #[Value.ref b] meth c code 4 ret R_law z A) (hX : va_X b L9 xs s s.heap) (hbl : b < s.heap.size) (hbA : ¬ A b) (hst : St_between Inv) (x3 : Int32) (hin : ∀ j : Nat, j < 7 → vp_in (x3 + nI j) L9) (hK : ∀ (F P K G T N L S : RT) (H : Heap) (locs : List Loc) (ls : Array Slot), Inv F P K G T N L S → Hw s z A (fW z qX qP qK qN qL qG F ++ (pW z qP P ++ (pW z qK K ++ (mW z qG qT G ++ (pW z qT T ++ (nW z qN N ++ (lW z qL L ++ (sW z qS S)))))))) H locs → lv_has ls 4 [(0, .ref b), (1, .ref (qX 0)), (2, .ref (qS 0)), (3, .int x3)] → W p l e room_1 s m #[Value.ref b] below meth c H locs 50 946 (lw_Z below #[Value.ref b] s) (F0 m 1463 ls [])) (F P K G T N L S : RT) (H : Heap) (locs : List Loc) (ls : Array Slot) (hI : Inv F P K G T N L S) (hw : Hw s z A (fW z qX qP qK qN qL qG F ++ (pW z qP P ++ (pW z qK K ++ (mW z qG qT G ++ (pW z qT T ++ (nW z qN N ++ (lW z qL L ++ (sW z qS S)))))))) H locs) (hl : lv_has ls 4 [(0, .ref b), (1, .ref (qX 0)), (2, .ref (qS 0)), (3, .int x3)]) : W p l e room_1 s m #[Value.ref b] below meth c H locs 50 946 (lw_Z below #[Value.ref b] s) (F0 m 896 ls []) := by
  obtain ⟨hx, hb, -, -, hown, hts, -, -, -, hN, hsr, -⟩ := id M
  have h := hst F P K G T N L S hI (xs (x3 + (1 : Int32)).toNatClampNeg) (xs (x3 + (2 : Int32)).toNatClampNeg)
  refine lv_aload_n hx hb dL_law_896 rfl (lv_at hl 1 rfl) ?_
  refine lv_aload_n hx hb dL_law_897 rfl (lv_at hl 0 rfl) ?_
  refine lv_iload_n hx hb dL_law_898 rfl (lv_at hl 3 rfl) ?_
  refine lv_iconst (v := 1) hx hb dL_law_899 (by decide) ?_
  refine lv_iadd hx hb dL_law_900 ?_
  refine va_sld hx hb hX hbl hbA hw.2.2 (hin 1 (by decide)) dL_law_901 ?_
  refine lv_aload_n hx hb dL_law_902 rfl (lv_at hl 0 rfl) ?_
  refine lv_iload_n hx hb dL_law_903 rfl (lv_at hl 3 rfl) ?_
  refine lv_iconst (v := 2) hx hb dL_law_904 (by decide) ?_
  refine lv_iadd hx hb dL_law_905 ?_
  refine va_sld hx hb hX hbl hbA hw.2.2 (hin 2 (by decide)) dL_law_906 ?_
  refine frL_Vi (wN := fun u : RT => (fW z qX qP qK qN qL qG u ++ (pW z qP P ++ (pW z qK K ++ (mW z qG qT G ++ (pW z qT T ++ (nW z qN N ++ (lW z qL L ++ (sW z qS S))))))))) M (m_X6_between l z qX qL qN qG qP qK qT F P K G T N L (xs (x3 + (1 : Int32)).toNatClampNeg) (xs (x3 + (2 : Int32)).toNatClampNeg) _ h) (cwV 2 hts (gdV cd_X6_between ml_L_105 im_X6_between se_X6_between in_X6) rfl rfl rfl hdV_X6_between ⟨(Nat.le_of_ble_eq_true rfl), (Nat.le_of_ble_eq_true rfl)⟩) cut_30 prm_30 0 rfl rfl rfl hw ⟨Nat.le_refl _, Nat.le_refl _⟩ rfl hl.1 rfl (Nat.le_of_ble_eq_true rfl) dL_law_907 (fun r_1 u_ H locs h hw => ?_)
  obtain ⟨F_1, rfl⟩ : ∃ z9 : RT, z9 = u_ := ⟨_, rfl⟩
  have hw : Hw s z A (fW z qX qP qK qN qL qG F_1 ++ (pW z qP P ++ (pW z qK K ++ (mW z qG qT G ++ (pW z qT T ++ (nW z qN N ++ (lW z qL L ++ (sW z qS S)))))))) H locs := hw
  try dsimp only at h
  refine lv_aload_n hx hb dL_law_910 rfl (lv_at hl 2 rfl) ?_
  refine lv_aload_n hx hb dL_law_911 rfl (lv_at hl 0 rfl) ?_
  refine lv_iload_n hx hb dL_law_912 rfl (lv_at hl 3 rfl) ?_
  refine lv_iconst (v := 1) hx hb dL_law_913 (by decide) ?_
  refine lv_iadd hx hb dL_law_914 ?_
  refine va_sld hx hb hX hbl hbA hw.2.2 (hin 1 (by decide)) dL_law_915 ?_
  refine lv_aload_n hx hb dL_law_916 rfl (lv_at hl 0 rfl) ?_
  refine lv_iload_n hx hb dL_law_917 rfl (lv_at hl 3 rfl) ?_
  refine lv_iconst (v := 2) hx hb dL_law_918 (by decide) ?_
  refine lv_iadd hx hb dL_law_919 ?_
  refine va_sld hx hb hX hbl hbA hw.2.2 (hin 2 (by decide)) dL_law_920 ?_
  refine frL_Vi (wN := fun u : RT => (fW z qX qP qK qN qL qG F_1 ++ (pW z qP P ++ (pW z qK K ++ (mW z qG qT G ++ (pW z qT T ++ (nW z qN N ++ (lW z qL L ++ (sW z qS u))))))))) M (m_X7_between l z qS S (xs (x3 + (1 : Int32)).toNatClampNeg) (xs (x3 + (2 : Int32)).toNatClampNeg) _ h) (cwV 2 hts (gdV cd_X7_between ml_L_108 im_X7_between se_X7_between in_X7) rfl rfl rfl hdV_X7_between ⟨(Nat.le_of_ble_eq_true rfl), (Nat.le_of_ble_eq_true rfl)⟩) cut_28 prm_28 0 rfl rfl rfl hw ⟨Nat.le_refl _, Nat.le_refl _⟩ rfl hl.1 rfl (Nat.le_of_ble_eq_true rfl) dL_law_921 (fun r_2 u_ H locs h hw => ?_)
  obtain ⟨S_2, rfl⟩ : ∃ z9 : RT, z9 = u_ := ⟨_, rfl⟩
  have hw : Hw s z A (fW z qX qP qK qN qL qG F_1 ++ (pW z qP P ++ (pW z qK K ++ (mW z qG qT G ++ (pW z qT T ++ (nW z qN N ++ (lW z qL L ++ (sW z qS S_2)))))))) H locs := hw
  try dsimp only at h
  obtain ⟨er, hI⟩ := h
  subst er
  refine lv_icmp_eq (tgt := 1463) hx hb dL_law_924 (by decide) (fun _ => ?_) (fun c9 => absurd rfl c9)
  exact hK F_1 P K G T N L S_2 H locs ls hI hw hl
set_option maxHeartbeats 4000000 in
set_option maxRecDepth 100000 in
theorem lc_23 {p : Program} {l : Launch} {e : Env} {s : State} {m : MethodId} {below : List Frame} {meth : Method} {c : Code} {z : KT} {A : Nat → Prop} {b L9 : Nat} {xs : Nat → Int32} {Inv : RT → RT → RT → RT → RT → RT → RT → RT → Prop} {qX : Nat → Nat} {qS : Nat → Nat} {qL : Nat → Nat} {qN : Nat → Nat} {qG : Nat → Nat} {qP : Nat → Nat} {qK : Nat → Nat} {qT : Nat → Nat} (M : Mc p s m #[Value.ref b] meth c code 4 ret R_law z A) (hX : va_X b L9 xs s s.heap) (hbl : b < s.heap.size) (hbA : ¬ A b) (hst : St_balance Inv) (x3 : Int32) (hin : ∀ j : Nat, j < 7 → vp_in (x3 + nI j) L9) (hK : ∀ (F P K G T N L S : RT) (H : Heap) (locs : List Loc) (ls : Array Slot), Inv F P K G T N L S → Hw s z A (fW z qX qP qK qN qL qG F ++ (pW z qP P ++ (pW z qK K ++ (mW z qG qT G ++ (pW z qT T ++ (nW z qN N ++ (lW z qL L ++ (sW z qS S)))))))) H locs → lv_has ls 4 [(0, .ref b), (1, .ref (qX 0)), (2, .ref (qS 0)), (3, .int x3)] → W p l e room_1 s m #[Value.ref b] below meth c H locs 50 946 (lw_Z below #[Value.ref b] s) (F0 m 1463 ls [])) (F P K G T N L S : RT) (H : Heap) (locs : List Loc) (ls : Array Slot) (hI : Inv F P K G T N L S) (hw : Hw s z A (fW z qX qP qK qN qL qG F ++ (pW z qP P ++ (pW z qK K ++ (mW z qG qT G ++ (pW z qT T ++ (nW z qN N ++ (lW z qL L ++ (sW z qS S)))))))) H locs) (hl : lv_has ls 4 [(0, .ref b), (1, .ref (qX 0)), (2, .ref (qS 0)), (3, .int x3)]) : W p l e room_1 s m #[Value.ref b] below meth c H locs 50 946 (lw_Z below #[Value.ref b] s) (F0 m 929 ls []) := by
  obtain ⟨hx, hb, -, -, hown, hts, -, -, -, hN, hsr, -⟩ := id M
  have h := hst F P K G T N L S hI (xs (x3 + (1 : Int32)).toNatClampNeg)
  refine lv_aload_n hx hb dL_law_929 rfl (lv_at hl 1 rfl) ?_
  refine lv_aload_n hx hb dL_law_930 rfl (lv_at hl 0 rfl) ?_
  refine lv_iload_n hx hb dL_law_931 rfl (lv_at hl 3 rfl) ?_
  refine lv_iconst (v := 1) hx hb dL_law_932 (by decide) ?_
  refine lv_iadd hx hb dL_law_933 ?_
  refine va_sld hx hb hX hbl hbA hw.2.2 (hin 1 (by decide)) dL_law_934 ?_
  refine frL_Vi (wN := fun u : RT => (fW z qX qP qK qN qL qG u ++ (pW z qP P ++ (pW z qK K ++ (mW z qG qT G ++ (pW z qT T ++ (nW z qN N ++ (lW z qL L ++ (sW z qS S))))))))) M (m_X6_balance l z qX qL qN qG qP qK qT F P K G T N L (xs (x3 + (1 : Int32)).toNatClampNeg) _ h) (cwV 1 hts (gdV cd_X6_balance ml_L_109 im_X6_balance se_X6_balance in_X6) rfl rfl rfl hdV_X6_balance ⟨(Nat.le_of_ble_eq_true rfl), (Nat.le_of_ble_eq_true rfl)⟩) cut_30 prm_30 0 rfl rfl rfl hw ⟨Nat.le_refl _, Nat.le_refl _⟩ rfl hl.1 rfl (Nat.le_of_ble_eq_true rfl) dL_law_935 (fun r_1 u_ H locs h hw => ?_)
  obtain ⟨F_1, rfl⟩ : ∃ z9 : RT, z9 = u_ := ⟨_, rfl⟩
  have hw : Hw s z A (fW z qX qP qK qN qL qG F_1 ++ (pW z qP P ++ (pW z qK K ++ (mW z qG qT G ++ (pW z qT T ++ (nW z qN N ++ (lW z qL L ++ (sW z qS S)))))))) H locs := hw
  try dsimp only at h
  refine lv_aload_n hx hb dL_law_938 rfl (lv_at hl 2 rfl) ?_
  refine lv_aload_n hx hb dL_law_939 rfl (lv_at hl 0 rfl) ?_
  refine lv_iload_n hx hb dL_law_940 rfl (lv_at hl 3 rfl) ?_
  refine lv_iconst (v := 1) hx hb dL_law_941 (by decide) ?_
  refine lv_iadd hx hb dL_law_942 ?_
  refine va_sld hx hb hX hbl hbA hw.2.2 (hin 1 (by decide)) dL_law_943 ?_
  refine frL_Vi (wN := fun u : RT => (fW z qX qP qK qN qL qG F_1 ++ (pW z qP P ++ (pW z qK K ++ (mW z qG qT G ++ (pW z qT T ++ (nW z qN N ++ (lW z qL L ++ (sW z qS u))))))))) M (m_X7_balance l z qS S (xs (x3 + (1 : Int32)).toNatClampNeg) _ h) (cwV 1 hts (gdV cd_X7_balance ml_L_112 im_X7_balance se_X7_balance in_X7) rfl rfl rfl hdV_X7_balance ⟨(Nat.le_of_ble_eq_true rfl), (Nat.le_of_ble_eq_true rfl)⟩) cut_28 prm_28 0 rfl rfl rfl hw ⟨Nat.le_refl _, Nat.le_refl _⟩ rfl hl.1 rfl (Nat.le_of_ble_eq_true rfl) dL_law_944 (fun r_2 u_ H locs h hw => ?_)
  obtain ⟨S_2, rfl⟩ : ∃ z9 : RT, z9 = u_ := ⟨_, rfl⟩
  have hw : Hw s z A (fW z qX qP qK qN qL qG F_1 ++ (pW z qP P ++ (pW z qK K ++ (mW z qG qT G ++ (pW z qT T ++ (nW z qN N ++ (lW z qL L ++ (sW z qS S_2)))))))) H locs := hw
  try dsimp only at h
  obtain ⟨er, hI⟩ := h
  subst er
  refine lv_icmp_eq (tgt := 1463) hx hb dL_law_947 (by decide) (fun _ => ?_) (fun c9 => absurd rfl c9)
  exact hK F_1 P K G T N L S_2 H locs ls hI hw hl
set_option maxHeartbeats 4000000 in
set_option maxRecDepth 100000 in
theorem lc_24 {p : Program} {l : Launch} {e : Env} {s : State} {m : MethodId} {below : List Frame} {meth : Method} {c : Code} {z : KT} {A : Nat → Prop} {b L9 : Nat} {xs : Nat → Int32} {Inv : RT → RT → RT → RT → RT → RT → RT → RT → Prop} {qX : Nat → Nat} {qS : Nat → Nat} {qL : Nat → Nat} {qN : Nat → Nat} {qG : Nat → Nat} {qP : Nat → Nat} {qK : Nat → Nat} {qT : Nat → Nat} (M : Mc p s m #[Value.ref b] meth c code 4 ret R_law z A) (hX : va_X b L9 xs s s.heap) (hbl : b < s.heap.size) (hbA : ¬ A b) (hst : St_nearest Inv) (x3 : Int32) (hin : ∀ j : Nat, j < 7 → vp_in (x3 + nI j) L9) (hK : ∀ (F P K G T N L S : RT) (H : Heap) (locs : List Loc) (ls : Array Slot), Inv F P K G T N L S → Hw s z A (fW z qX qP qK qN qL qG F ++ (pW z qP P ++ (pW z qK K ++ (mW z qG qT G ++ (pW z qT T ++ (nW z qN N ++ (lW z qL L ++ (sW z qS S)))))))) H locs → lv_has ls 4 [(0, .ref b), (1, .ref (qX 0)), (2, .ref (qS 0)), (3, .int x3)] → W p l e room_1 s m #[Value.ref b] below meth c H locs 50 946 (lw_Z below #[Value.ref b] s) (F0 m 1463 ls [])) (F P K G T N L S : RT) (H : Heap) (locs : List Loc) (ls : Array Slot) (hI : Inv F P K G T N L S) (hw : Hw s z A (fW z qX qP qK qN qL qG F ++ (pW z qP P ++ (pW z qK K ++ (mW z qG qT G ++ (pW z qT T ++ (nW z qN N ++ (lW z qL L ++ (sW z qS S)))))))) H locs) (hl : lv_has ls 4 [(0, .ref b), (1, .ref (qX 0)), (2, .ref (qS 0)), (3, .int x3)]) : W p l e room_1 s m #[Value.ref b] below meth c H locs 50 946 (lw_Z below #[Value.ref b] s) (F0 m 952 ls []) := by
  obtain ⟨hx, hb, -, -, hown, hts, -, -, -, hN, hsr, -⟩ := id M
  have h := hst F P K G T N L S hI (xs (x3 + (1 : Int32)).toNatClampNeg)
  refine lv_aload_n hx hb dL_law_952 rfl (lv_at hl 1 rfl) ?_
  refine lv_aload_n hx hb dL_law_953 rfl (lv_at hl 0 rfl) ?_
  refine lv_iload_n hx hb dL_law_954 rfl (lv_at hl 3 rfl) ?_
  refine lv_iconst (v := 1) hx hb dL_law_955 (by decide) ?_
  refine lv_iadd hx hb dL_law_956 ?_
  refine va_sld hx hb hX hbl hbA hw.2.2 (hin 1 (by decide)) dL_law_957 ?_
  refine frL_Vi (wN := fun u : RT => (fW z qX qP qK qN qL qG u ++ (pW z qP P ++ (pW z qK K ++ (mW z qG qT G ++ (pW z qT T ++ (nW z qN N ++ (lW z qL L ++ (sW z qS S))))))))) M (m_X6_nearest l z qX qL qN qG qP qK qT F P K G T N L (xs (x3 + (1 : Int32)).toNatClampNeg) _ h) (cwV 1 hts (gdV cd_X6_nearest ml_L_113 im_X6_nearest se_X6_nearest in_X6) rfl rfl rfl hdV_X6_nearest ⟨(Nat.le_of_ble_eq_true rfl), (Nat.le_of_ble_eq_true rfl)⟩) cut_30 prm_30 0 rfl rfl rfl hw ⟨Nat.le_refl _, Nat.le_refl _⟩ rfl hl.1 rfl (Nat.le_of_ble_eq_true rfl) dL_law_958 (fun r_1 u_ H locs h hw => ?_)
  obtain ⟨F_1, rfl⟩ : ∃ z9 : RT, z9 = u_ := ⟨_, rfl⟩
  have hw : Hw s z A (fW z qX qP qK qN qL qG F_1 ++ (pW z qP P ++ (pW z qK K ++ (mW z qG qT G ++ (pW z qT T ++ (nW z qN N ++ (lW z qL L ++ (sW z qS S)))))))) H locs := hw
  try dsimp only at h
  refine lv_aload_n hx hb dL_law_961 rfl (lv_at hl 2 rfl) ?_
  refine lv_aload_n hx hb dL_law_962 rfl (lv_at hl 0 rfl) ?_
  refine lv_iload_n hx hb dL_law_963 rfl (lv_at hl 3 rfl) ?_
  refine lv_iconst (v := 1) hx hb dL_law_964 (by decide) ?_
  refine lv_iadd hx hb dL_law_965 ?_
  refine va_sld hx hb hX hbl hbA hw.2.2 (hin 1 (by decide)) dL_law_966 ?_
  refine frL_Vi (wN := fun u : RT => (fW z qX qP qK qN qL qG F_1 ++ (pW z qP P ++ (pW z qK K ++ (mW z qG qT G ++ (pW z qT T ++ (nW z qN N ++ (lW z qL L ++ (sW z qS u))))))))) M (m_X7_nearest l z qS S (xs (x3 + (1 : Int32)).toNatClampNeg) _ h) (cwV 1 hts (gdV cd_X7_nearest ml_L_116 im_X7_nearest se_X7_nearest in_X7) rfl rfl rfl hdV_X7_nearest ⟨(Nat.le_of_ble_eq_true rfl), (Nat.le_of_ble_eq_true rfl)⟩) cut_28 prm_28 0 rfl rfl rfl hw ⟨Nat.le_refl _, Nat.le_refl _⟩ rfl hl.1 rfl (Nat.le_of_ble_eq_true rfl) dL_law_967 (fun r_2 u_ H locs h hw => ?_)
  obtain ⟨S_2, rfl⟩ : ∃ z9 : RT, z9 = u_ := ⟨_, rfl⟩
  have hw : Hw s z A (fW z qX qP qK qN qL qG F_1 ++ (pW z qP P ++ (pW z qK K ++ (mW z qG qT G ++ (pW z qT T ++ (nW z qN N ++ (lW z qL L ++ (sW z qS S_2)))))))) H locs := hw
  try dsimp only at h
  obtain ⟨er, hI⟩ := h
  subst er
  refine lv_icmp_eq (tgt := 1463) hx hb dL_law_970 (by decide) (fun _ => ?_) (fun c9 => absurd rfl c9)
  exact hK F_1 P K G T N L S_2 H locs ls hI hw hl
set_option maxHeartbeats 4000000 in
set_option maxRecDepth 100000 in
theorem lc_25 {p : Program} {l : Launch} {e : Env} {s : State} {m : MethodId} {below : List Frame} {meth : Method} {c : Code} {z : KT} {A : Nat → Prop} {b L9 : Nat} {xs : Nat → Int32} {Inv : RT → RT → RT → RT → RT → RT → RT → RT → Prop} {qX : Nat → Nat} {qS : Nat → Nat} {qL : Nat → Nat} {qN : Nat → Nat} {qG : Nat → Nat} {qP : Nat → Nat} {qK : Nat → Nat} {qT : Nat → Nat} (M : Mc p s m #[Value.ref b] meth c code 4 ret R_law z A) (hX : va_X b L9 xs s s.heap) (hbl : b < s.heap.size) (hbA : ¬ A b) (hst : St_chain Inv) (x3 : Int32) (hin : ∀ j : Nat, j < 7 → vp_in (x3 + nI j) L9) (hK : ∀ (F P K G T N L S : RT) (H : Heap) (locs : List Loc) (ls : Array Slot), Inv F P K G T N L S → Hw s z A (fW z qX qP qK qN qL qG F ++ (pW z qP P ++ (pW z qK K ++ (mW z qG qT G ++ (pW z qT T ++ (nW z qN N ++ (lW z qL L ++ (sW z qS S)))))))) H locs → lv_has ls 4 [(0, .ref b), (1, .ref (qX 0)), (2, .ref (qS 0)), (3, .int x3)] → W p l e room_1 s m #[Value.ref b] below meth c H locs 50 946 (lw_Z below #[Value.ref b] s) (F0 m 1463 ls [])) (F P K G T N L S : RT) (H : Heap) (locs : List Loc) (ls : Array Slot) (hI : Inv F P K G T N L S) (hw : Hw s z A (fW z qX qP qK qN qL qG F ++ (pW z qP P ++ (pW z qK K ++ (mW z qG qT G ++ (pW z qT T ++ (nW z qN N ++ (lW z qL L ++ (sW z qS S)))))))) H locs) (hl : lv_has ls 4 [(0, .ref b), (1, .ref (qX 0)), (2, .ref (qS 0)), (3, .int x3)]) : W p l e room_1 s m #[Value.ref b] below meth c H locs 50 946 (lw_Z below #[Value.ref b] s) (F0 m 975 ls []) := by
  obtain ⟨hx, hb, -, -, hown, hts, -, -, -, hN, hsr, -⟩ := id M
  have h := hst F P K G T N L S hI (xs (x3 + (1 : Int32)).toNatClampNeg)
  refine lv_aload_n hx hb dL_law_975 rfl (lv_at hl 1 rfl) ?_
  refine lv_aload_n hx hb dL_law_976 rfl (lv_at hl 0 rfl) ?_
  refine lv_iload_n hx hb dL_law_977 rfl (lv_at hl 3 rfl) ?_
  refine lv_iconst (v := 1) hx hb dL_law_978 (by decide) ?_
  refine lv_iadd hx hb dL_law_979 ?_
  refine va_sld hx hb hX hbl hbA hw.2.2 (hin 1 (by decide)) dL_law_980 ?_
  refine frL_Vi (wN := fun u : RT => (fW z qX qP qK qN qL qG u ++ (pW z qP P ++ (pW z qK K ++ (mW z qG qT G ++ (pW z qT T ++ (nW z qN N ++ (lW z qL L ++ (sW z qS S))))))))) M (m_X6_chain l z qX qL qN qG qP qK qT F P K G T N L (xs (x3 + (1 : Int32)).toNatClampNeg) _ h) (cwV 1 hts (gdV cd_X6_chain ml_L_117 im_X6_chain se_X6_chain in_X6) rfl rfl rfl hdV_X6_chain ⟨(Nat.le_of_ble_eq_true rfl), (Nat.le_of_ble_eq_true rfl)⟩) cut_30 prm_30 0 rfl rfl rfl hw ⟨Nat.le_refl _, Nat.le_refl _⟩ rfl hl.1 rfl (Nat.le_of_ble_eq_true rfl) dL_law_981 (fun r_1 u_ H locs h hw => ?_)
  obtain ⟨F_1, rfl⟩ : ∃ z9 : RT, z9 = u_ := ⟨_, rfl⟩
  have hw : Hw s z A (fW z qX qP qK qN qL qG F_1 ++ (pW z qP P ++ (pW z qK K ++ (mW z qG qT G ++ (pW z qT T ++ (nW z qN N ++ (lW z qL L ++ (sW z qS S)))))))) H locs := hw
  try dsimp only at h
  refine lv_aload_n hx hb dL_law_984 rfl (lv_at hl 2 rfl) ?_
  refine lv_aload_n hx hb dL_law_985 rfl (lv_at hl 0 rfl) ?_
  refine lv_iload_n hx hb dL_law_986 rfl (lv_at hl 3 rfl) ?_
  refine lv_iconst (v := 1) hx hb dL_law_987 (by decide) ?_
  refine lv_iadd hx hb dL_law_988 ?_
  refine va_sld hx hb hX hbl hbA hw.2.2 (hin 1 (by decide)) dL_law_989 ?_
  refine frL_Vi (wN := fun u : RT => (fW z qX qP qK qN qL qG F_1 ++ (pW z qP P ++ (pW z qK K ++ (mW z qG qT G ++ (pW z qT T ++ (nW z qN N ++ (lW z qL L ++ (sW z qS u))))))))) M (m_X7_chain l z qS S (xs (x3 + (1 : Int32)).toNatClampNeg) _ h) (cwV 1 hts (gdV cd_X7_chain ml_L_120 im_X7_chain se_X7_chain in_X7) rfl rfl rfl hdV_X7_chain ⟨(Nat.le_of_ble_eq_true rfl), (Nat.le_of_ble_eq_true rfl)⟩) cut_28 prm_28 0 rfl rfl rfl hw ⟨Nat.le_refl _, Nat.le_refl _⟩ rfl hl.1 rfl (Nat.le_of_ble_eq_true rfl) dL_law_990 (fun r_2 u_ H locs h hw => ?_)
  obtain ⟨S_2, rfl⟩ : ∃ z9 : RT, z9 = u_ := ⟨_, rfl⟩
  have hw : Hw s z A (fW z qX qP qK qN qL qG F_1 ++ (pW z qP P ++ (pW z qK K ++ (mW z qG qT G ++ (pW z qT T ++ (nW z qN N ++ (lW z qL L ++ (sW z qS S_2)))))))) H locs := hw
  try dsimp only at h
  obtain ⟨er, hI⟩ := h
  subst er
  refine lv_icmp_eq (tgt := 1463) hx hb dL_law_993 (by decide) (fun _ => ?_) (fun c9 => absurd rfl c9)
  exact hK F_1 P K G T N L S_2 H locs ls hI hw hl
set_option maxHeartbeats 4000000 in
set_option maxRecDepth 100000 in
theorem lc_26 {p : Program} {l : Launch} {e : Env} {s : State} {m : MethodId} {below : List Frame} {meth : Method} {c : Code} {z : KT} {A : Nat → Prop} {b L9 : Nat} {xs : Nat → Int32} {Inv : RT → RT → RT → RT → RT → RT → RT → RT → Prop} {qX : Nat → Nat} {qS : Nat → Nat} {qL : Nat → Nat} {qN : Nat → Nat} {qG : Nat → Nat} {qP : Nat → Nat} {qK : Nat → Nat} {qT : Nat → Nat} (M : Mc p s m #[Value.ref b] meth c code 4 ret R_law z A) (hX : va_X b L9 xs s s.heap) (hbl : b < s.heap.size) (hbA : ¬ A b) (hst : St_chains Inv) (x3 : Int32) (hin : ∀ j : Nat, j < 7 → vp_in (x3 + nI j) L9) (hK : ∀ (F P K G T N L S : RT) (H : Heap) (locs : List Loc) (ls : Array Slot), Inv F P K G T N L S → Hw s z A (fW z qX qP qK qN qL qG F ++ (pW z qP P ++ (pW z qK K ++ (mW z qG qT G ++ (pW z qT T ++ (nW z qN N ++ (lW z qL L ++ (sW z qS S)))))))) H locs → lv_has ls 4 [(0, .ref b), (1, .ref (qX 0)), (2, .ref (qS 0)), (3, .int x3)] → W p l e room_1 s m #[Value.ref b] below meth c H locs 50 946 (lw_Z below #[Value.ref b] s) (F0 m 1463 ls [])) (F P K G T N L S : RT) (H : Heap) (locs : List Loc) (ls : Array Slot) (hI : Inv F P K G T N L S) (hw : Hw s z A (fW z qX qP qK qN qL qG F ++ (pW z qP P ++ (pW z qK K ++ (mW z qG qT G ++ (pW z qT T ++ (nW z qN N ++ (lW z qL L ++ (sW z qS S)))))))) H locs) (hl : lv_has ls 4 [(0, .ref b), (1, .ref (qX 0)), (2, .ref (qS 0)), (3, .int x3)]) : W p l e room_1 s m #[Value.ref b] below meth c H locs 50 946 (lw_Z below #[Value.ref b] s) (F0 m 998 ls []) := by
  obtain ⟨hx, hb, -, -, hown, hts, -, -, -, hN, hsr, -⟩ := id M
  have h := hst F P K G T N L S hI (xs (x3 + (1 : Int32)).toNatClampNeg)
  refine lv_aload_n hx hb dL_law_998 rfl (lv_at hl 1 rfl) ?_
  refine lv_aload_n hx hb dL_law_999 rfl (lv_at hl 0 rfl) ?_
  refine lv_iload_n hx hb dL_law_1000 rfl (lv_at hl 3 rfl) ?_
  refine lv_iconst (v := 1) hx hb dL_law_1001 (by decide) ?_
  refine lv_iadd hx hb dL_law_1002 ?_
  refine va_sld hx hb hX hbl hbA hw.2.2 (hin 1 (by decide)) dL_law_1003 ?_
  refine frL_Vi (wN := fun u : RT => (fW z qX qP qK qN qL qG u ++ (pW z qP P ++ (pW z qK K ++ (mW z qG qT G ++ (pW z qT T ++ (nW z qN N ++ (lW z qL L ++ (sW z qS S))))))))) M (m_X6_chains l z qX qL qN qG qP qK qT F P K G T N L (xs (x3 + (1 : Int32)).toNatClampNeg) _ h) (cwV 1 hts (gdV cd_X6_chains ml_L_121 im_X6_chains se_X6_chains in_X6) rfl rfl rfl hdV_X6_chains ⟨(Nat.le_of_ble_eq_true rfl), (Nat.le_of_ble_eq_true rfl)⟩) cut_30 prm_30 0 rfl rfl rfl hw ⟨Nat.le_refl _, Nat.le_refl _⟩ rfl hl.1 rfl (Nat.le_of_ble_eq_true rfl) dL_law_1004 (fun r_1 u_ H locs h hw => ?_)
  obtain ⟨F_1, rfl⟩ : ∃ z9 : RT, z9 = u_ := ⟨_, rfl⟩
  have hw : Hw s z A (fW z qX qP qK qN qL qG F_1 ++ (pW z qP P ++ (pW z qK K ++ (mW z qG qT G ++ (pW z qT T ++ (nW z qN N ++ (lW z qL L ++ (sW z qS S)))))))) H locs := hw
  try dsimp only at h
  refine lv_aload_n hx hb dL_law_1007 rfl (lv_at hl 2 rfl) ?_
  refine lv_aload_n hx hb dL_law_1008 rfl (lv_at hl 0 rfl) ?_
  refine lv_iload_n hx hb dL_law_1009 rfl (lv_at hl 3 rfl) ?_
  refine lv_iconst (v := 1) hx hb dL_law_1010 (by decide) ?_
  refine lv_iadd hx hb dL_law_1011 ?_
  refine va_sld hx hb hX hbl hbA hw.2.2 (hin 1 (by decide)) dL_law_1012 ?_
  refine frL_Vi (wN := fun u : RT => (fW z qX qP qK qN qL qG F_1 ++ (pW z qP P ++ (pW z qK K ++ (mW z qG qT G ++ (pW z qT T ++ (nW z qN N ++ (lW z qL L ++ (sW z qS u))))))))) M (m_X7_chains l z qS S (xs (x3 + (1 : Int32)).toNatClampNeg) _ h) (cwV 1 hts (gdV cd_X7_chains ml_L_124 im_X7_chains se_X7_chains in_X7) rfl rfl rfl hdV_X7_chains ⟨(Nat.le_of_ble_eq_true rfl), (Nat.le_of_ble_eq_true rfl)⟩) cut_28 prm_28 0 rfl rfl rfl hw ⟨Nat.le_refl _, Nat.le_refl _⟩ rfl hl.1 rfl (Nat.le_of_ble_eq_true rfl) dL_law_1013 (fun r_2 u_ H locs h hw => ?_)
  obtain ⟨S_2, rfl⟩ : ∃ z9 : RT, z9 = u_ := ⟨_, rfl⟩
  have hw : Hw s z A (fW z qX qP qK qN qL qG F_1 ++ (pW z qP P ++ (pW z qK K ++ (mW z qG qT G ++ (pW z qT T ++ (nW z qN N ++ (lW z qL L ++ (sW z qS S_2)))))))) H locs := hw
  try dsimp only at h
  obtain ⟨er, hI⟩ := h
  subst er
  refine lv_icmp_eq (tgt := 1463) hx hb dL_law_1016 (by decide) (fun _ => ?_) (fun c9 => absurd rfl c9)
  exact hK F_1 P K G T N L S_2 H locs ls hI hw hl
set_option maxHeartbeats 4000000 in
set_option maxRecDepth 100000 in
theorem lc_27 {p : Program} {l : Launch} {e : Env} {s : State} {m : MethodId} {below : List Frame} {meth : Method} {c : Code} {z : KT} {A : Nat → Prop} {b L9 : Nat} {xs : Nat → Int32} {Inv : RT → RT → RT → RT → RT → RT → RT → RT → Prop} {qX : Nat → Nat} {qS : Nat → Nat} {qL : Nat → Nat} {qN : Nat → Nat} {qG : Nat → Nat} {qP : Nat → Nat} {qK : Nat → Nat} {qT : Nat → Nat} (M : Mc p s m #[Value.ref b] meth c code 4 ret R_law z A) (hX : va_X b L9 xs s s.heap) (hbl : b < s.heap.size) (hbA : ¬ A b) (hst : St_sides Inv) (x3 : Int32) (hin : ∀ j : Nat, j < 7 → vp_in (x3 + nI j) L9) (hK : ∀ (F P K G T N L S : RT) (H : Heap) (locs : List Loc) (ls : Array Slot), Inv F P K G T N L S → Hw s z A (fW z qX qP qK qN qL qG F ++ (pW z qP P ++ (pW z qK K ++ (mW z qG qT G ++ (pW z qT T ++ (nW z qN N ++ (lW z qL L ++ (sW z qS S)))))))) H locs → lv_has ls 4 [(0, .ref b), (1, .ref (qX 0)), (2, .ref (qS 0)), (3, .int x3)] → W p l e room_1 s m #[Value.ref b] below meth c H locs 50 946 (lw_Z below #[Value.ref b] s) (F0 m 1463 ls [])) (F P K G T N L S : RT) (H : Heap) (locs : List Loc) (ls : Array Slot) (hI : Inv F P K G T N L S) (hw : Hw s z A (fW z qX qP qK qN qL qG F ++ (pW z qP P ++ (pW z qK K ++ (mW z qG qT G ++ (pW z qT T ++ (nW z qN N ++ (lW z qL L ++ (sW z qS S)))))))) H locs) (hl : lv_has ls 4 [(0, .ref b), (1, .ref (qX 0)), (2, .ref (qS 0)), (3, .int x3)]) : W p l e room_1 s m #[Value.ref b] below meth c H locs 50 946 (lw_Z below #[Value.ref b] s) (F0 m 1021 ls []) := by
  obtain ⟨hx, hb, -, -, hown, hts, -, -, -, hN, hsr, -⟩ := id M
  have h := hst F P K G T N L S hI (xs (x3 + (1 : Int32)).toNatClampNeg)
  refine lv_aload_n hx hb dL_law_1021 rfl (lv_at hl 1 rfl) ?_
  refine lv_aload_n hx hb dL_law_1022 rfl (lv_at hl 0 rfl) ?_
  refine lv_iload_n hx hb dL_law_1023 rfl (lv_at hl 3 rfl) ?_
  refine lv_iconst (v := 1) hx hb dL_law_1024 (by decide) ?_
  refine lv_iadd hx hb dL_law_1025 ?_
  refine va_sld hx hb hX hbl hbA hw.2.2 (hin 1 (by decide)) dL_law_1026 ?_
  refine frL_Vi (wN := fun u : RT => (fW z qX qP qK qN qL qG u ++ (pW z qP P ++ (pW z qK K ++ (mW z qG qT G ++ (pW z qT T ++ (nW z qN N ++ (lW z qL L ++ (sW z qS S))))))))) M (m_X6_sides l z qX qL qN qG qP qK qT F P K G T N L (xs (x3 + (1 : Int32)).toNatClampNeg) _ h) (cwV 1 hts (gdV cd_X6_sides ml_L_125 im_X6_sides se_X6_sides in_X6) rfl rfl rfl hdV_X6_sides ⟨(Nat.le_of_ble_eq_true rfl), (Nat.le_of_ble_eq_true rfl)⟩) cut_30 prm_30 0 rfl rfl rfl hw ⟨Nat.le_refl _, Nat.le_refl _⟩ rfl hl.1 rfl (Nat.le_of_ble_eq_true rfl) dL_law_1027 (fun r_1 u_ H locs h hw => ?_)
  obtain ⟨F_1, rfl⟩ : ∃ z9 : RT, z9 = u_ := ⟨_, rfl⟩
  have hw : Hw s z A (fW z qX qP qK qN qL qG F_1 ++ (pW z qP P ++ (pW z qK K ++ (mW z qG qT G ++ (pW z qT T ++ (nW z qN N ++ (lW z qL L ++ (sW z qS S)))))))) H locs := hw
  try dsimp only at h
  refine lv_aload_n hx hb dL_law_1030 rfl (lv_at hl 2 rfl) ?_
  refine lv_aload_n hx hb dL_law_1031 rfl (lv_at hl 0 rfl) ?_
  refine lv_iload_n hx hb dL_law_1032 rfl (lv_at hl 3 rfl) ?_
  refine lv_iconst (v := 1) hx hb dL_law_1033 (by decide) ?_
  refine lv_iadd hx hb dL_law_1034 ?_
  refine va_sld hx hb hX hbl hbA hw.2.2 (hin 1 (by decide)) dL_law_1035 ?_
  refine frL_Vi (wN := fun u : RT => (fW z qX qP qK qN qL qG F_1 ++ (pW z qP P ++ (pW z qK K ++ (mW z qG qT G ++ (pW z qT T ++ (nW z qN N ++ (lW z qL L ++ (sW z qS u))))))))) M (m_X7_sides l z qS S (xs (x3 + (1 : Int32)).toNatClampNeg) _ h) (cwV 1 hts (gdV cd_X7_sides ml_L_128 im_X7_sides se_X7_sides in_X7) rfl rfl rfl hdV_X7_sides ⟨(Nat.le_of_ble_eq_true rfl), (Nat.le_of_ble_eq_true rfl)⟩) cut_28 prm_28 0 rfl rfl rfl hw ⟨Nat.le_refl _, Nat.le_refl _⟩ rfl hl.1 rfl (Nat.le_of_ble_eq_true rfl) dL_law_1036 (fun r_2 u_ H locs h hw => ?_)
  obtain ⟨S_2, rfl⟩ : ∃ z9 : RT, z9 = u_ := ⟨_, rfl⟩
  have hw : Hw s z A (fW z qX qP qK qN qL qG F_1 ++ (pW z qP P ++ (pW z qK K ++ (mW z qG qT G ++ (pW z qT T ++ (nW z qN N ++ (lW z qL L ++ (sW z qS S_2)))))))) H locs := hw
  try dsimp only at h
  obtain ⟨er, hI⟩ := h
  subst er
  refine lv_icmp_eq (tgt := 1463) hx hb dL_law_1039 (by decide) (fun _ => ?_) (fun c9 => absurd rfl c9)
  exact hK F_1 P K G T N L S_2 H locs ls hI hw hl
set_option maxHeartbeats 4000000 in
set_option maxRecDepth 100000 in
theorem lc_28 {p : Program} {l : Launch} {e : Env} {s : State} {m : MethodId} {below : List Frame} {meth : Method} {c : Code} {z : KT} {A : Nat → Prop} {b L9 : Nat} {xs : Nat → Int32} {Inv : RT → RT → RT → RT → RT → RT → RT → RT → Prop} {qX : Nat → Nat} {qS : Nat → Nat} {qL : Nat → Nat} {qN : Nat → Nat} {qG : Nat → Nat} {qP : Nat → Nat} {qK : Nat → Nat} {qT : Nat → Nat} (M : Mc p s m #[Value.ref b] meth c code 4 ret R_law z A) (hX : va_X b L9 xs s s.heap) (hbl : b < s.heap.size) (hbA : ¬ A b) (hst : St_hauled Inv) (x3 : Int32) (hin : ∀ j : Nat, j < 7 → vp_in (x3 + nI j) L9) (hK : ∀ (F P K G T N L S : RT) (H : Heap) (locs : List Loc) (ls : Array Slot), Inv F P K G T N L S → Hw s z A (fW z qX qP qK qN qL qG F ++ (pW z qP P ++ (pW z qK K ++ (mW z qG qT G ++ (pW z qT T ++ (nW z qN N ++ (lW z qL L ++ (sW z qS S)))))))) H locs → lv_has ls 4 [(0, .ref b), (1, .ref (qX 0)), (2, .ref (qS 0)), (3, .int x3)] → W p l e room_1 s m #[Value.ref b] below meth c H locs 50 946 (lw_Z below #[Value.ref b] s) (F0 m 1463 ls [])) (F P K G T N L S : RT) (H : Heap) (locs : List Loc) (ls : Array Slot) (hI : Inv F P K G T N L S) (hw : Hw s z A (fW z qX qP qK qN qL qG F ++ (pW z qP P ++ (pW z qK K ++ (mW z qG qT G ++ (pW z qT T ++ (nW z qN N ++ (lW z qL L ++ (sW z qS S)))))))) H locs) (hl : lv_has ls 4 [(0, .ref b), (1, .ref (qX 0)), (2, .ref (qS 0)), (3, .int x3)]) : W p l e room_1 s m #[Value.ref b] below meth c H locs 50 946 (lw_Z below #[Value.ref b] s) (F0 m 1044 ls []) := by
  obtain ⟨hx, hb, -, -, hown, hts, -, -, -, hN, hsr, -⟩ := id M
  have h := hst F P K G T N L S hI (xs (x3 + (1 : Int32)).toNatClampNeg) (xs (x3 + (2 : Int32)).toNatClampNeg)
  refine lv_aload_n hx hb dL_law_1044 rfl (lv_at hl 1 rfl) ?_
  refine lv_aload_n hx hb dL_law_1045 rfl (lv_at hl 0 rfl) ?_
  refine lv_iload_n hx hb dL_law_1046 rfl (lv_at hl 3 rfl) ?_
  refine lv_iconst (v := 1) hx hb dL_law_1047 (by decide) ?_
  refine lv_iadd hx hb dL_law_1048 ?_
  refine va_sld hx hb hX hbl hbA hw.2.2 (hin 1 (by decide)) dL_law_1049 ?_
  refine lv_aload_n hx hb dL_law_1050 rfl (lv_at hl 0 rfl) ?_
  refine lv_iload_n hx hb dL_law_1051 rfl (lv_at hl 3 rfl) ?_
  refine lv_iconst (v := 2) hx hb dL_law_1052 (by decide) ?_
  refine lv_iadd hx hb dL_law_1053 ?_
  refine va_sld hx hb hX hbl hbA hw.2.2 (hin 2 (by decide)) dL_law_1054 ?_
  refine frL_Vi (wN := fun u : RT => (fW z qX qP qK qN qL qG u ++ (pW z qP P ++ (pW z qK K ++ (mW z qG qT G ++ (pW z qT T ++ (nW z qN N ++ (lW z qL L ++ (sW z qS S))))))))) M (m_X6_hauled l z qX qL qN qG qP qK qT F P K G T N L (xs (x3 + (1 : Int32)).toNatClampNeg) (xs (x3 + (2 : Int32)).toNatClampNeg) _ h) (cwV 2 hts (gdV cd_X6_hauled ml_L_129 im_X6_hauled se_X6_hauled in_X6) rfl rfl rfl hdV_X6_hauled ⟨(Nat.le_of_ble_eq_true rfl), (Nat.le_of_ble_eq_true rfl)⟩) cut_30 prm_30 0 rfl rfl rfl hw ⟨Nat.le_refl _, Nat.le_refl _⟩ rfl hl.1 rfl (Nat.le_of_ble_eq_true rfl) dL_law_1055 (fun r_1 u_ H locs h hw => ?_)
  obtain ⟨F_1, rfl⟩ : ∃ z9 : RT, z9 = u_ := ⟨_, rfl⟩
  have hw : Hw s z A (fW z qX qP qK qN qL qG F_1 ++ (pW z qP P ++ (pW z qK K ++ (mW z qG qT G ++ (pW z qT T ++ (nW z qN N ++ (lW z qL L ++ (sW z qS S)))))))) H locs := hw
  try dsimp only at h
  refine lv_aload_n hx hb dL_law_1058 rfl (lv_at hl 2 rfl) ?_
  refine lv_aload_n hx hb dL_law_1059 rfl (lv_at hl 0 rfl) ?_
  refine lv_iload_n hx hb dL_law_1060 rfl (lv_at hl 3 rfl) ?_
  refine lv_iconst (v := 1) hx hb dL_law_1061 (by decide) ?_
  refine lv_iadd hx hb dL_law_1062 ?_
  refine va_sld hx hb hX hbl hbA hw.2.2 (hin 1 (by decide)) dL_law_1063 ?_
  refine lv_aload_n hx hb dL_law_1064 rfl (lv_at hl 0 rfl) ?_
  refine lv_iload_n hx hb dL_law_1065 rfl (lv_at hl 3 rfl) ?_
  refine lv_iconst (v := 2) hx hb dL_law_1066 (by decide) ?_
  refine lv_iadd hx hb dL_law_1067 ?_
  refine va_sld hx hb hX hbl hbA hw.2.2 (hin 2 (by decide)) dL_law_1068 ?_
  refine frL_Vi (wN := fun u : RT => (fW z qX qP qK qN qL qG F_1 ++ (pW z qP P ++ (pW z qK K ++ (mW z qG qT G ++ (pW z qT T ++ (nW z qN N ++ (lW z qL L ++ (sW z qS u))))))))) M (m_X7_hauled l z qS S (xs (x3 + (1 : Int32)).toNatClampNeg) (xs (x3 + (2 : Int32)).toNatClampNeg) _ h) (cwV 2 hts (gdV cd_X7_hauled ml_L_132 im_X7_hauled se_X7_hauled in_X7) rfl rfl rfl hdV_X7_hauled ⟨(Nat.le_of_ble_eq_true rfl), (Nat.le_of_ble_eq_true rfl)⟩) cut_28 prm_28 0 rfl rfl rfl hw ⟨Nat.le_refl _, Nat.le_refl _⟩ rfl hl.1 rfl (Nat.le_of_ble_eq_true rfl) dL_law_1069 (fun r_2 u_ H locs h hw => ?_)
  obtain ⟨S_2, rfl⟩ : ∃ z9 : RT, z9 = u_ := ⟨_, rfl⟩
  have hw : Hw s z A (fW z qX qP qK qN qL qG F_1 ++ (pW z qP P ++ (pW z qK K ++ (mW z qG qT G ++ (pW z qT T ++ (nW z qN N ++ (lW z qL L ++ (sW z qS S_2)))))))) H locs := hw
  try dsimp only at h
  obtain ⟨er, hI⟩ := h
  subst er
  refine lv_icmp_eq (tgt := 1463) hx hb dL_law_1072 (by decide) (fun _ => ?_) (fun c9 => absurd rfl c9)
  exact hK F_1 P K G T N L S_2 H locs ls hI hw hl
set_option maxHeartbeats 4000000 in
set_option maxRecDepth 100000 in
theorem lc_29 {p : Program} {l : Launch} {e : Env} {s : State} {m : MethodId} {below : List Frame} {meth : Method} {c : Code} {z : KT} {A : Nat → Prop} {b L9 : Nat} {xs : Nat → Int32} {Inv : RT → RT → RT → RT → RT → RT → RT → RT → Prop} {qX : Nat → Nat} {qS : Nat → Nat} {qL : Nat → Nat} {qN : Nat → Nat} {qG : Nat → Nat} {qP : Nat → Nat} {qK : Nat → Nat} {qT : Nat → Nat} (M : Mc p s m #[Value.ref b] meth c code 4 ret R_law z A) (hX : va_X b L9 xs s s.heap) (hbl : b < s.heap.size) (hbA : ¬ A b) (hst : St_top Inv) (x3 : Int32) (hin : ∀ j : Nat, j < 7 → vp_in (x3 + nI j) L9) (hK : ∀ (F P K G T N L S : RT) (H : Heap) (locs : List Loc) (ls : Array Slot), Inv F P K G T N L S → Hw s z A (fW z qX qP qK qN qL qG F ++ (pW z qP P ++ (pW z qK K ++ (mW z qG qT G ++ (pW z qT T ++ (nW z qN N ++ (lW z qL L ++ (sW z qS S)))))))) H locs → lv_has ls 4 [(0, .ref b), (1, .ref (qX 0)), (2, .ref (qS 0)), (3, .int x3)] → W p l e room_1 s m #[Value.ref b] below meth c H locs 50 946 (lw_Z below #[Value.ref b] s) (F0 m 1463 ls [])) (F P K G T N L S : RT) (H : Heap) (locs : List Loc) (ls : Array Slot) (hI : Inv F P K G T N L S) (hw : Hw s z A (fW z qX qP qK qN qL qG F ++ (pW z qP P ++ (pW z qK K ++ (mW z qG qT G ++ (pW z qT T ++ (nW z qN N ++ (lW z qL L ++ (sW z qS S)))))))) H locs) (hl : lv_has ls 4 [(0, .ref b), (1, .ref (qX 0)), (2, .ref (qS 0)), (3, .int x3)]) : W p l e room_1 s m #[Value.ref b] below meth c H locs 50 946 (lw_Z below #[Value.ref b] s) (F0 m 1077 ls []) := by
  obtain ⟨hx, hb, -, -, hown, hts, -, -, -, hN, hsr, -⟩ := id M
  have h := hst F P K G T N L S hI (xs (x3 + (1 : Int32)).toNatClampNeg)
  refine lv_aload_n hx hb dL_law_1077 rfl (lv_at hl 1 rfl) ?_
  refine lv_aload_n hx hb dL_law_1078 rfl (lv_at hl 0 rfl) ?_
  refine lv_iload_n hx hb dL_law_1079 rfl (lv_at hl 3 rfl) ?_
  refine lv_iconst (v := 1) hx hb dL_law_1080 (by decide) ?_
  refine lv_iadd hx hb dL_law_1081 ?_
  refine va_sld hx hb hX hbl hbA hw.2.2 (hin 1 (by decide)) dL_law_1082 ?_
  refine frL_Vi (wN := fun u : RT => (fW z qX qP qK qN qL qG u ++ (pW z qP P ++ (pW z qK K ++ (mW z qG qT G ++ (pW z qT T ++ (nW z qN N ++ (lW z qL L ++ (sW z qS S))))))))) M (m_X6_top l z qX qL qN qG qP qK qT F P K G T N L (xs (x3 + (1 : Int32)).toNatClampNeg) _ h) (cwV 1 hts (gdV cd_X6_top ml_L_133 im_X6_top se_X6_top in_X6) rfl rfl rfl hdV_X6_top ⟨(Nat.le_of_ble_eq_true rfl), (Nat.le_of_ble_eq_true rfl)⟩) cut_30 prm_30 0 rfl rfl rfl hw ⟨Nat.le_refl _, Nat.le_refl _⟩ rfl hl.1 rfl (Nat.le_of_ble_eq_true rfl) dL_law_1083 (fun r_1 u_ H locs h hw => ?_)
  obtain ⟨F_1, rfl⟩ : ∃ z9 : RT, z9 = u_ := ⟨_, rfl⟩
  have hw : Hw s z A (fW z qX qP qK qN qL qG F_1 ++ (pW z qP P ++ (pW z qK K ++ (mW z qG qT G ++ (pW z qT T ++ (nW z qN N ++ (lW z qL L ++ (sW z qS S)))))))) H locs := hw
  try dsimp only at h
  refine lv_aload_n hx hb dL_law_1086 rfl (lv_at hl 2 rfl) ?_
  refine lv_aload_n hx hb dL_law_1087 rfl (lv_at hl 0 rfl) ?_
  refine lv_iload_n hx hb dL_law_1088 rfl (lv_at hl 3 rfl) ?_
  refine lv_iconst (v := 1) hx hb dL_law_1089 (by decide) ?_
  refine lv_iadd hx hb dL_law_1090 ?_
  refine va_sld hx hb hX hbl hbA hw.2.2 (hin 1 (by decide)) dL_law_1091 ?_
  refine frL_Vi (wN := fun u : RT => (fW z qX qP qK qN qL qG F_1 ++ (pW z qP P ++ (pW z qK K ++ (mW z qG qT G ++ (pW z qT T ++ (nW z qN N ++ (lW z qL L ++ (sW z qS u))))))))) M (m_X7_top l z qS S (xs (x3 + (1 : Int32)).toNatClampNeg) _ h) (cwV 1 hts (gdV cd_X7_top ml_L_136 im_X7_top se_X7_top in_X7) rfl rfl rfl hdV_X7_top ⟨(Nat.le_of_ble_eq_true rfl), (Nat.le_of_ble_eq_true rfl)⟩) cut_28 prm_28 0 rfl rfl rfl hw ⟨Nat.le_refl _, Nat.le_refl _⟩ rfl hl.1 rfl (Nat.le_of_ble_eq_true rfl) dL_law_1092 (fun r_2 u_ H locs h hw => ?_)
  obtain ⟨S_2, rfl⟩ : ∃ z9 : RT, z9 = u_ := ⟨_, rfl⟩
  have hw : Hw s z A (fW z qX qP qK qN qL qG F_1 ++ (pW z qP P ++ (pW z qK K ++ (mW z qG qT G ++ (pW z qT T ++ (nW z qN N ++ (lW z qL L ++ (sW z qS S_2)))))))) H locs := hw
  try dsimp only at h
  obtain ⟨er, hI⟩ := h
  subst er
  refine lv_icmp_eq (tgt := 1463) hx hb dL_law_1095 (by decide) (fun _ => ?_) (fun c9 => absurd rfl c9)
  exact hK F_1 P K G T N L S_2 H locs ls hI hw hl
set_option maxHeartbeats 4000000 in
set_option maxRecDepth 100000 in
theorem lc_30 {p : Program} {l : Launch} {e : Env} {s : State} {m : MethodId} {below : List Frame} {meth : Method} {c : Code} {z : KT} {A : Nat → Prop} {b L9 : Nat} {xs : Nat → Int32} {Inv : RT → RT → RT → RT → RT → RT → RT → RT → Prop} {qX : Nat → Nat} {qS : Nat → Nat} {qL : Nat → Nat} {qN : Nat → Nat} {qG : Nat → Nat} {qP : Nat → Nat} {qK : Nat → Nat} {qT : Nat → Nat} (M : Mc p s m #[Value.ref b] meth c code 4 ret R_law z A) (hX : va_X b L9 xs s s.heap) (hbl : b < s.heap.size) (hbA : ¬ A b) (hst : St_odd Inv) (x3 : Int32) (hin : ∀ j : Nat, j < 7 → vp_in (x3 + nI j) L9) (hK : ∀ (F P K G T N L S : RT) (H : Heap) (locs : List Loc) (ls : Array Slot), Inv F P K G T N L S → Hw s z A (fW z qX qP qK qN qL qG F ++ (pW z qP P ++ (pW z qK K ++ (mW z qG qT G ++ (pW z qT T ++ (nW z qN N ++ (lW z qL L ++ (sW z qS S)))))))) H locs → lv_has ls 4 [(0, .ref b), (1, .ref (qX 0)), (2, .ref (qS 0)), (3, .int x3)] → W p l e room_1 s m #[Value.ref b] below meth c H locs 50 946 (lw_Z below #[Value.ref b] s) (F0 m 1463 ls [])) (F P K G T N L S : RT) (H : Heap) (locs : List Loc) (ls : Array Slot) (hI : Inv F P K G T N L S) (hw : Hw s z A (fW z qX qP qK qN qL qG F ++ (pW z qP P ++ (pW z qK K ++ (mW z qG qT G ++ (pW z qT T ++ (nW z qN N ++ (lW z qL L ++ (sW z qS S)))))))) H locs) (hl : lv_has ls 4 [(0, .ref b), (1, .ref (qX 0)), (2, .ref (qS 0)), (3, .int x3)]) : W p l e room_1 s m #[Value.ref b] below meth c H locs 50 946 (lw_Z below #[Value.ref b] s) (F0 m 1100 ls []) := by
  obtain ⟨hx, hb, -, -, hown, hts, -, -, -, hN, hsr, -⟩ := id M
  have h := hst F P K G T N L S hI
  refine lv_aload_n hx hb dL_law_1100 rfl (lv_at hl 1 rfl) ?_
  refine frL_Vi (wN := fun _ : Unit => (fW z qX qP qK qN qL qG F ++ (pW z qP P ++ (pW z qK K ++ (mW z qG qT G ++ (pW z qT T ++ (nW z qN N ++ (lW z qL L ++ (sW z qS S))))))))) M (m_X6_odd l z qX qL qN qG qP qK qT F P K G T N L _ h) (cwV 0 hts (gdV cd_X6_odd ml_L_137 im_X6_odd se_X6_odd in_X6) rfl rfl rfl hdV_X6_odd ⟨(Nat.le_of_ble_eq_true rfl), (Nat.le_of_ble_eq_true rfl)⟩) cut_34 prm_34 0 rfl rfl rfl hw ⟨Nat.le_refl _, Nat.le_refl _⟩ rfl hl.1 rfl (Nat.le_of_ble_eq_true rfl) dL_law_1101 (fun r_1 u_ H locs h hw => ?_)
  have hw : Hw s z A (fW z qX qP qK qN qL qG F ++ (pW z qP P ++ (pW z qK K ++ (mW z qG qT G ++ (pW z qT T ++ (nW z qN N ++ (lW z qL L ++ (sW z qS S)))))))) H locs := hw
  try dsimp only at h
  refine lv_aload_n hx hb dL_law_1104 rfl (lv_at hl 2 rfl) ?_
  refine frL_Vi (wN := fun _ : Unit => (fW z qX qP qK qN qL qG F ++ (pW z qP P ++ (pW z qK K ++ (mW z qG qT G ++ (pW z qT T ++ (nW z qN N ++ (lW z qL L ++ (sW z qS S))))))))) M (m_X7_odd l z qS S _ h) (cwV 0 hts (gdV cd_X7_odd ml_L_140 im_X7_odd se_X7_odd in_X7) rfl rfl rfl hdV_X7_odd ⟨(Nat.le_of_ble_eq_true rfl), (Nat.le_of_ble_eq_true rfl)⟩) cut_35 prm_35 0 rfl rfl rfl hw ⟨Nat.le_refl _, Nat.le_refl _⟩ rfl hl.1 rfl (Nat.le_of_ble_eq_true rfl) dL_law_1105 (fun r_2 u_ H locs h hw => ?_)
  have hw : Hw s z A (fW z qX qP qK qN qL qG F ++ (pW z qP P ++ (pW z qK K ++ (mW z qG qT G ++ (pW z qT T ++ (nW z qN N ++ (lW z qL L ++ (sW z qS S)))))))) H locs := hw
  try dsimp only at h
  obtain ⟨er, hI⟩ := h
  subst er
  refine lv_icmp_eq (tgt := 1463) hx hb dL_law_1108 (by decide) (fun _ => ?_) (fun c9 => absurd rfl c9)
  exact hK F P K G T N L S H locs ls hI hw hl
set_option maxHeartbeats 4000000 in
set_option maxRecDepth 100000 in
theorem lc_31 {p : Program} {l : Launch} {e : Env} {s : State} {m : MethodId} {below : List Frame} {meth : Method} {c : Code} {z : KT} {A : Nat → Prop} {b L9 : Nat} {xs : Nat → Int32} {Inv : RT → RT → RT → RT → RT → RT → RT → RT → Prop} {qX : Nat → Nat} {qS : Nat → Nat} {qL : Nat → Nat} {qN : Nat → Nat} {qG : Nat → Nat} {qP : Nat → Nat} {qK : Nat → Nat} {qT : Nat → Nat} (M : Mc p s m #[Value.ref b] meth c code 4 ret R_law z A) (hX : va_X b L9 xs s s.heap) (hbl : b < s.heap.size) (hbA : ¬ A b) (hst : St_meet Inv) (x3 : Int32) (hin : ∀ j : Nat, j < 7 → vp_in (x3 + nI j) L9) (hK : ∀ (F P K G T N L S : RT) (H : Heap) (locs : List Loc) (ls : Array Slot), Inv F P K G T N L S → Hw s z A (fW z qX qP qK qN qL qG F ++ (pW z qP P ++ (pW z qK K ++ (mW z qG qT G ++ (pW z qT T ++ (nW z qN N ++ (lW z qL L ++ (sW z qS S)))))))) H locs → lv_has ls 4 [(0, .ref b), (1, .ref (qX 0)), (2, .ref (qS 0)), (3, .int x3)] → W p l e room_1 s m #[Value.ref b] below meth c H locs 50 946 (lw_Z below #[Value.ref b] s) (F0 m 1463 ls [])) (F P K G T N L S : RT) (H : Heap) (locs : List Loc) (ls : Array Slot) (hI : Inv F P K G T N L S) (hw : Hw s z A (fW z qX qP qK qN qL qG F ++ (pW z qP P ++ (pW z qK K ++ (mW z qG qT G ++ (pW z qT T ++ (nW z qN N ++ (lW z qL L ++ (sW z qS S)))))))) H locs) (hl : lv_has ls 4 [(0, .ref b), (1, .ref (qX 0)), (2, .ref (qS 0)), (3, .int x3)]) : W p l e room_1 s m #[Value.ref b] below meth c H locs 50 946 (lw_Z below #[Value.ref b] s) (F0 m 1113 ls []) := by
  obtain ⟨hx, hb, -, -, hown, hts, -, -, -, hN, hsr, -⟩ := id M
  have h := hst F P K G T N L S hI (xs (x3 + (1 : Int32)).toNatClampNeg) (xs (x3 + (2 : Int32)).toNatClampNeg)
  refine lv_aload_n hx hb dL_law_1113 rfl (lv_at hl 1 rfl) ?_
  refine lv_aload_n hx hb dL_law_1114 rfl (lv_at hl 0 rfl) ?_
  refine lv_iload_n hx hb dL_law_1115 rfl (lv_at hl 3 rfl) ?_
  refine lv_iconst (v := 1) hx hb dL_law_1116 (by decide) ?_
  refine lv_iadd hx hb dL_law_1117 ?_
  refine va_sld hx hb hX hbl hbA hw.2.2 (hin 1 (by decide)) dL_law_1118 ?_
  refine lv_aload_n hx hb dL_law_1119 rfl (lv_at hl 0 rfl) ?_
  refine lv_iload_n hx hb dL_law_1120 rfl (lv_at hl 3 rfl) ?_
  refine lv_iconst (v := 2) hx hb dL_law_1121 (by decide) ?_
  refine lv_iadd hx hb dL_law_1122 ?_
  refine va_sld hx hb hX hbl hbA hw.2.2 (hin 2 (by decide)) dL_law_1123 ?_
  refine frL_Vi (wN := fun u : RT × RT => (fW z qX qP qK qN qL qG u.1 ++ (pW z qP P ++ (pW z qK K ++ (mW z qG qT G ++ (pW z qT u.2 ++ (nW z qN N ++ (lW z qL L ++ (sW z qS S))))))))) M (m_X6_meet l z qX qL qN qG qP qK qT F P K G T N L (xs (x3 + (1 : Int32)).toNatClampNeg) (xs (x3 + (2 : Int32)).toNatClampNeg) _ h) (cwV 2 hts (gdV cd_X6_meet ml_L_141 im_X6_meet se_X6_meet in_X6) rfl rfl rfl hdV_X6_meet ⟨(Nat.le_of_ble_eq_true rfl), (Nat.le_of_ble_eq_true rfl)⟩) cut_32 prm_32 0 rfl rfl rfl hw ⟨Nat.le_refl _, Nat.le_refl _⟩ rfl hl.1 rfl (Nat.le_of_ble_eq_true rfl) dL_law_1124 (fun r_1 u_ H locs h hw => ?_)
  obtain ⟨F_1, T_1⟩ := u_
  have hw : Hw s z A (fW z qX qP qK qN qL qG F_1 ++ (pW z qP P ++ (pW z qK K ++ (mW z qG qT G ++ (pW z qT T_1 ++ (nW z qN N ++ (lW z qL L ++ (sW z qS S)))))))) H locs := hw
  try dsimp only at h
  refine lv_aload_n hx hb dL_law_1127 rfl (lv_at hl 2 rfl) ?_
  refine lv_aload_n hx hb dL_law_1128 rfl (lv_at hl 0 rfl) ?_
  refine lv_iload_n hx hb dL_law_1129 rfl (lv_at hl 3 rfl) ?_
  refine lv_iconst (v := 1) hx hb dL_law_1130 (by decide) ?_
  refine lv_iadd hx hb dL_law_1131 ?_
  refine va_sld hx hb hX hbl hbA hw.2.2 (hin 1 (by decide)) dL_law_1132 ?_
  refine lv_aload_n hx hb dL_law_1133 rfl (lv_at hl 0 rfl) ?_
  refine lv_iload_n hx hb dL_law_1134 rfl (lv_at hl 3 rfl) ?_
  refine lv_iconst (v := 2) hx hb dL_law_1135 (by decide) ?_
  refine lv_iadd hx hb dL_law_1136 ?_
  refine va_sld hx hb hX hbl hbA hw.2.2 (hin 2 (by decide)) dL_law_1137 ?_
  refine frL_Vi (wN := fun u : RT => (fW z qX qP qK qN qL qG F_1 ++ (pW z qP P ++ (pW z qK K ++ (mW z qG qT G ++ (pW z qT T_1 ++ (nW z qN N ++ (lW z qL L ++ (sW z qS u))))))))) M (m_X7_meet l z qS S (xs (x3 + (1 : Int32)).toNatClampNeg) (xs (x3 + (2 : Int32)).toNatClampNeg) _ h) (cwV 2 hts (gdV cd_X7_meet ml_L_144 im_X7_meet se_X7_meet in_X7) rfl rfl rfl hdV_X7_meet ⟨(Nat.le_of_ble_eq_true rfl), (Nat.le_of_ble_eq_true rfl)⟩) cut_28 prm_28 0 rfl rfl rfl hw ⟨Nat.le_refl _, Nat.le_refl _⟩ rfl hl.1 rfl (Nat.le_of_ble_eq_true rfl) dL_law_1138 (fun r_2 u_ H locs h hw => ?_)
  obtain ⟨S_2, rfl⟩ : ∃ z9 : RT, z9 = u_ := ⟨_, rfl⟩
  have hw : Hw s z A (fW z qX qP qK qN qL qG F_1 ++ (pW z qP P ++ (pW z qK K ++ (mW z qG qT G ++ (pW z qT T_1 ++ (nW z qN N ++ (lW z qL L ++ (sW z qS S_2)))))))) H locs := hw
  try dsimp only at h
  obtain ⟨er, hI⟩ := h
  subst er
  refine lv_icmp_eq (tgt := 1463) hx hb dL_law_1141 (by decide) (fun _ => ?_) (fun c9 => absurd rfl c9)
  exact hK F_1 P K G T_1 N L S_2 H locs ls hI hw hl
set_option maxHeartbeats 4000000 in
set_option maxRecDepth 100000 in
theorem lc_32 {p : Program} {l : Launch} {e : Env} {s : State} {m : MethodId} {below : List Frame} {meth : Method} {c : Code} {z : KT} {A : Nat → Prop} {b L9 : Nat} {xs : Nat → Int32} {Inv : RT → RT → RT → RT → RT → RT → RT → RT → Prop} {qX : Nat → Nat} {qS : Nat → Nat} {qL : Nat → Nat} {qN : Nat → Nat} {qG : Nat → Nat} {qP : Nat → Nat} {qK : Nat → Nat} {qT : Nat → Nat} (M : Mc p s m #[Value.ref b] meth c code 4 ret R_law z A) (hX : va_X b L9 xs s s.heap) (hbl : b < s.heap.size) (hbA : ¬ A b) (hst : St_two Inv) (x3 : Int32) (hin : ∀ j : Nat, j < 7 → vp_in (x3 + nI j) L9) (hK : ∀ (F P K G T N L S : RT) (H : Heap) (locs : List Loc) (ls : Array Slot), Inv F P K G T N L S → Hw s z A (fW z qX qP qK qN qL qG F ++ (pW z qP P ++ (pW z qK K ++ (mW z qG qT G ++ (pW z qT T ++ (nW z qN N ++ (lW z qL L ++ (sW z qS S)))))))) H locs → lv_has ls 4 [(0, .ref b), (1, .ref (qX 0)), (2, .ref (qS 0)), (3, .int x3)] → W p l e room_1 s m #[Value.ref b] below meth c H locs 50 946 (lw_Z below #[Value.ref b] s) (F0 m 1463 ls [])) (F P K G T N L S : RT) (H : Heap) (locs : List Loc) (ls : Array Slot) (hI : Inv F P K G T N L S) (hw : Hw s z A (fW z qX qP qK qN qL qG F ++ (pW z qP P ++ (pW z qK K ++ (mW z qG qT G ++ (pW z qT T ++ (nW z qN N ++ (lW z qL L ++ (sW z qS S)))))))) H locs) (hl : lv_has ls 4 [(0, .ref b), (1, .ref (qX 0)), (2, .ref (qS 0)), (3, .int x3)]) : W p l e room_1 s m #[Value.ref b] below meth c H locs 50 946 (lw_Z below #[Value.ref b] s) (F0 m 1146 ls []) := by
  obtain ⟨hx, hb, -, -, hown, hts, -, -, -, hN, hsr, -⟩ := id M
  have h := hst F P K G T N L S hI (xs (x3 + (1 : Int32)).toNatClampNeg) (xs (x3 + (2 : Int32)).toNatClampNeg) (xs (x3 + (3 : Int32)).toNatClampNeg)
  refine lv_aload_n hx hb dL_law_1146 rfl (lv_at hl 1 rfl) ?_
  refine lv_aload_n hx hb dL_law_1147 rfl (lv_at hl 0 rfl) ?_
  refine lv_iload_n hx hb dL_law_1148 rfl (lv_at hl 3 rfl) ?_
  refine lv_iconst (v := 1) hx hb dL_law_1149 (by decide) ?_
  refine lv_iadd hx hb dL_law_1150 ?_
  refine va_sld hx hb hX hbl hbA hw.2.2 (hin 1 (by decide)) dL_law_1151 ?_
  refine lv_aload_n hx hb dL_law_1152 rfl (lv_at hl 0 rfl) ?_
  refine lv_iload_n hx hb dL_law_1153 rfl (lv_at hl 3 rfl) ?_
  refine lv_iconst (v := 2) hx hb dL_law_1154 (by decide) ?_
  refine lv_iadd hx hb dL_law_1155 ?_
  refine va_sld hx hb hX hbl hbA hw.2.2 (hin 2 (by decide)) dL_law_1156 ?_
  refine lv_aload_n hx hb dL_law_1157 rfl (lv_at hl 0 rfl) ?_
  refine lv_iload_n hx hb dL_law_1158 rfl (lv_at hl 3 rfl) ?_
  refine lv_iconst (v := 3) hx hb dL_law_1159 (by decide) ?_
  refine lv_iadd hx hb dL_law_1160 ?_
  refine va_sld hx hb hX hbl hbA hw.2.2 (hin 3 (by decide)) dL_law_1161 ?_
  refine frL_Vi (wN := fun u : RT × RT × RT => (fW z qX qP qK qN qL qG u.1 ++ (pW z qP P ++ (pW z qK K ++ (mW z qG qT u.2.1 ++ (pW z qT u.2.2 ++ (nW z qN N ++ (lW z qL L ++ (sW z qS S))))))))) M (m_X6_two l z qX qL qN qG qP qK qT F P K G T N L (xs (x3 + (1 : Int32)).toNatClampNeg) (xs (x3 + (2 : Int32)).toNatClampNeg) (xs (x3 + (3 : Int32)).toNatClampNeg) _ h) (cwV 3 hts (gdV cd_X6_two ml_L_145 im_X6_two se_X6_two in_X6) rfl rfl rfl hdV_X6_two ⟨(Nat.le_of_ble_eq_true rfl), (Nat.le_of_ble_eq_true rfl)⟩) cut_33 prm_33 0 rfl rfl rfl hw ⟨Nat.le_refl _, Nat.le_refl _⟩ rfl hl.1 rfl (Nat.le_of_ble_eq_true rfl) dL_law_1162 (fun r_1 u_ H locs h hw => ?_)
  obtain ⟨F_1, G_1, T_1⟩ := u_
  have hw : Hw s z A (fW z qX qP qK qN qL qG F_1 ++ (pW z qP P ++ (pW z qK K ++ (mW z qG qT G_1 ++ (pW z qT T_1 ++ (nW z qN N ++ (lW z qL L ++ (sW z qS S)))))))) H locs := hw
  try dsimp only at h
  refine lv_aload_n hx hb dL_law_1165 rfl (lv_at hl 2 rfl) ?_
  refine lv_aload_n hx hb dL_law_1166 rfl (lv_at hl 0 rfl) ?_
  refine lv_iload_n hx hb dL_law_1167 rfl (lv_at hl 3 rfl) ?_
  refine lv_iconst (v := 1) hx hb dL_law_1168 (by decide) ?_
  refine lv_iadd hx hb dL_law_1169 ?_
  refine va_sld hx hb hX hbl hbA hw.2.2 (hin 1 (by decide)) dL_law_1170 ?_
  refine lv_aload_n hx hb dL_law_1171 rfl (lv_at hl 0 rfl) ?_
  refine lv_iload_n hx hb dL_law_1172 rfl (lv_at hl 3 rfl) ?_
  refine lv_iconst (v := 2) hx hb dL_law_1173 (by decide) ?_
  refine lv_iadd hx hb dL_law_1174 ?_
  refine va_sld hx hb hX hbl hbA hw.2.2 (hin 2 (by decide)) dL_law_1175 ?_
  refine lv_aload_n hx hb dL_law_1176 rfl (lv_at hl 0 rfl) ?_
  refine lv_iload_n hx hb dL_law_1177 rfl (lv_at hl 3 rfl) ?_
  refine lv_iconst (v := 3) hx hb dL_law_1178 (by decide) ?_
  refine lv_iadd hx hb dL_law_1179 ?_
  refine va_sld hx hb hX hbl hbA hw.2.2 (hin 3 (by decide)) dL_law_1180 ?_
  refine frL_Vi (wN := fun u : RT => (fW z qX qP qK qN qL qG F_1 ++ (pW z qP P ++ (pW z qK K ++ (mW z qG qT G_1 ++ (pW z qT T_1 ++ (nW z qN N ++ (lW z qL L ++ (sW z qS u))))))))) M (m_X7_two l z qS S (xs (x3 + (1 : Int32)).toNatClampNeg) (xs (x3 + (2 : Int32)).toNatClampNeg) (xs (x3 + (3 : Int32)).toNatClampNeg) _ h) (cwV 3 hts (gdV cd_X7_two ml_L_148 im_X7_two se_X7_two in_X7) rfl rfl rfl hdV_X7_two ⟨(Nat.le_of_ble_eq_true rfl), (Nat.le_of_ble_eq_true rfl)⟩) cut_28 prm_28 0 rfl rfl rfl hw ⟨Nat.le_refl _, Nat.le_refl _⟩ rfl hl.1 rfl (Nat.le_of_ble_eq_true rfl) dL_law_1181 (fun r_2 u_ H locs h hw => ?_)
  obtain ⟨S_2, rfl⟩ : ∃ z9 : RT, z9 = u_ := ⟨_, rfl⟩
  have hw : Hw s z A (fW z qX qP qK qN qL qG F_1 ++ (pW z qP P ++ (pW z qK K ++ (mW z qG qT G_1 ++ (pW z qT T_1 ++ (nW z qN N ++ (lW z qL L ++ (sW z qS S_2)))))))) H locs := hw
  try dsimp only at h
  obtain ⟨er, hI⟩ := h
  subst er
  refine lv_icmp_eq (tgt := 1463) hx hb dL_law_1184 (by decide) (fun _ => ?_) (fun c9 => absurd rfl c9)
  exact hK F_1 P K G_1 T_1 N L S_2 H locs ls hI hw hl
set_option maxHeartbeats 4000000 in
set_option maxRecDepth 100000 in
theorem lc_33 {p : Program} {l : Launch} {e : Env} {s : State} {m : MethodId} {below : List Frame} {meth : Method} {c : Code} {z : KT} {A : Nat → Prop} {b L9 : Nat} {xs : Nat → Int32} {Inv : RT → RT → RT → RT → RT → RT → RT → RT → Prop} {qX : Nat → Nat} {qS : Nat → Nat} {qL : Nat → Nat} {qN : Nat → Nat} {qG : Nat → Nat} {qP : Nat → Nat} {qK : Nat → Nat} {qT : Nat → Nat} (M : Mc p s m #[Value.ref b] meth c code 4 ret R_law z A) (hX : va_X b L9 xs s s.heap) (hbl : b < s.heap.size) (hbA : ¬ A b) (hst : St_wet Inv) (x3 : Int32) (hin : ∀ j : Nat, j < 7 → vp_in (x3 + nI j) L9) (hK : ∀ (F P K G T N L S : RT) (H : Heap) (locs : List Loc) (ls : Array Slot), Inv F P K G T N L S → Hw s z A (fW z qX qP qK qN qL qG F ++ (pW z qP P ++ (pW z qK K ++ (mW z qG qT G ++ (pW z qT T ++ (nW z qN N ++ (lW z qL L ++ (sW z qS S)))))))) H locs → lv_has ls 4 [(0, .ref b), (1, .ref (qX 0)), (2, .ref (qS 0)), (3, .int x3)] → W p l e room_1 s m #[Value.ref b] below meth c H locs 50 946 (lw_Z below #[Value.ref b] s) (F0 m 1463 ls [])) (F P K G T N L S : RT) (H : Heap) (locs : List Loc) (ls : Array Slot) (hI : Inv F P K G T N L S) (hw : Hw s z A (fW z qX qP qK qN qL qG F ++ (pW z qP P ++ (pW z qK K ++ (mW z qG qT G ++ (pW z qT T ++ (nW z qN N ++ (lW z qL L ++ (sW z qS S)))))))) H locs) (hl : lv_has ls 4 [(0, .ref b), (1, .ref (qX 0)), (2, .ref (qS 0)), (3, .int x3)]) : W p l e room_1 s m #[Value.ref b] below meth c H locs 50 946 (lw_Z below #[Value.ref b] s) (F0 m 1189 ls []) := by
  obtain ⟨hx, hb, -, -, hown, hts, -, -, -, hN, hsr, -⟩ := id M
  have h := hst F P K G T N L S hI (xs (x3 + (1 : Int32)).toNatClampNeg) (xs (x3 + (2 : Int32)).toNatClampNeg) (xs (x3 + (3 : Int32)).toNatClampNeg) (xs (x3 + (4 : Int32)).toNatClampNeg) (xs (x3 + (5 : Int32)).toNatClampNeg) (xs (x3 + (6 : Int32)).toNatClampNeg)
  refine lv_aload_n hx hb dL_law_1189 rfl (lv_at hl 1 rfl) ?_
  refine lv_aload_n hx hb dL_law_1190 rfl (lv_at hl 0 rfl) ?_
  refine lv_iload_n hx hb dL_law_1191 rfl (lv_at hl 3 rfl) ?_
  refine lv_iconst (v := 1) hx hb dL_law_1192 (by decide) ?_
  refine lv_iadd hx hb dL_law_1193 ?_
  refine va_sld hx hb hX hbl hbA hw.2.2 (hin 1 (by decide)) dL_law_1194 ?_
  refine lv_aload_n hx hb dL_law_1195 rfl (lv_at hl 0 rfl) ?_
  refine lv_iload_n hx hb dL_law_1196 rfl (lv_at hl 3 rfl) ?_
  refine lv_iconst (v := 2) hx hb dL_law_1197 (by decide) ?_
  refine lv_iadd hx hb dL_law_1198 ?_
  refine va_sld hx hb hX hbl hbA hw.2.2 (hin 2 (by decide)) dL_law_1199 ?_
  refine lv_aload_n hx hb dL_law_1200 rfl (lv_at hl 0 rfl) ?_
  refine lv_iload_n hx hb dL_law_1201 rfl (lv_at hl 3 rfl) ?_
  refine lv_iconst (v := 3) hx hb dL_law_1202 (by decide) ?_
  refine lv_iadd hx hb dL_law_1203 ?_
  refine va_sld hx hb hX hbl hbA hw.2.2 (hin 3 (by decide)) dL_law_1204 ?_
  refine lv_aload_n hx hb dL_law_1205 rfl (lv_at hl 0 rfl) ?_
  refine lv_iload_n hx hb dL_law_1206 rfl (lv_at hl 3 rfl) ?_
  refine lv_iconst (v := 4) hx hb dL_law_1207 (by decide) ?_
  refine lv_iadd hx hb dL_law_1208 ?_
  refine va_sld hx hb hX hbl hbA hw.2.2 (hin 4 (by decide)) dL_law_1209 ?_
  refine lv_aload_n hx hb dL_law_1210 rfl (lv_at hl 0 rfl) ?_
  refine lv_iload_n hx hb dL_law_1211 rfl (lv_at hl 3 rfl) ?_
  refine lv_iconst (v := 5) hx hb dL_law_1212 (by decide) ?_
  refine lv_iadd hx hb dL_law_1213 ?_
  refine va_sld hx hb hX hbl hbA hw.2.2 (hin 5 (by decide)) dL_law_1214 ?_
  refine lv_aload_n hx hb dL_law_1215 rfl (lv_at hl 0 rfl) ?_
  refine lv_iload_n hx hb dL_law_1216 rfl (lv_at hl 3 rfl) ?_
  refine lv_bipush (v := 6) hx hb dL_law_1217 (by decide) ?_
  refine lv_iadd hx hb dL_law_1219 ?_
  refine va_sld hx hb hX hbl hbA hw.2.2 (hin 6 (by decide)) dL_law_1220 ?_
  refine frL_Vl (wN := fun u : RT × RT => (fW z qX qP qK qN qL qG u.1 ++ (pW z qP P ++ (pW z qK K ++ (mW z qG qT G ++ (pW z qT u.2 ++ (nW z qN N ++ (lW z qL L ++ (sW z qS S))))))))) M (m_X6_wet l z qX qL qN qG qP qK qT F P K G T N L (xs (x3 + (1 : Int32)).toNatClampNeg) (xs (x3 + (2 : Int32)).toNatClampNeg) (xs (x3 + (3 : Int32)).toNatClampNeg) (xs (x3 + (4 : Int32)).toNatClampNeg) (xs (x3 + (5 : Int32)).toNatClampNeg) (xs (x3 + (6 : Int32)).toNatClampNeg) _ h) (cwV 6 hts (gdV cd_X6_wet ml_L_149 im_X6_wet se_X6_wet in_X6) rfl rfl rfl hdV_X6_wet ⟨(Nat.le_of_ble_eq_true rfl), (Nat.le_of_ble_eq_true rfl)⟩) cut_32 prm_32 0 rfl rfl rfl hw ⟨Nat.le_refl _, Nat.le_refl _⟩ rfl hl.1 rfl (Nat.le_of_ble_eq_true rfl) dL_law_1221 (fun r_1 u_ H locs h hw => ?_)
  obtain ⟨F_1, T_1⟩ := u_
  have hw : Hw s z A (fW z qX qP qK qN qL qG F_1 ++ (pW z qP P ++ (pW z qK K ++ (mW z qG qT G ++ (pW z qT T_1 ++ (nW z qN N ++ (lW z qL L ++ (sW z qS S)))))))) H locs := hw
  try dsimp only at h
  refine lv_aload_n hx hb dL_law_1224 rfl (lv_at hl 2 rfl) ?_
  refine lv_aload_n hx hb dL_law_1225 rfl (lv_at hl 0 rfl) ?_
  refine lv_iload_n hx hb dL_law_1226 rfl (lv_at hl 3 rfl) ?_
  refine lv_iconst (v := 1) hx hb dL_law_1227 (by decide) ?_
  refine lv_iadd hx hb dL_law_1228 ?_
  refine va_sld hx hb hX hbl hbA hw.2.2 (hin 1 (by decide)) dL_law_1229 ?_
  refine lv_aload_n hx hb dL_law_1230 rfl (lv_at hl 0 rfl) ?_
  refine lv_iload_n hx hb dL_law_1231 rfl (lv_at hl 3 rfl) ?_
  refine lv_iconst (v := 2) hx hb dL_law_1232 (by decide) ?_
  refine lv_iadd hx hb dL_law_1233 ?_
  refine va_sld hx hb hX hbl hbA hw.2.2 (hin 2 (by decide)) dL_law_1234 ?_
  refine lv_aload_n hx hb dL_law_1235 rfl (lv_at hl 0 rfl) ?_
  refine lv_iload_n hx hb dL_law_1236 rfl (lv_at hl 3 rfl) ?_
  refine lv_iconst (v := 3) hx hb dL_law_1237 (by decide) ?_
  refine lv_iadd hx hb dL_law_1238 ?_
  refine va_sld hx hb hX hbl hbA hw.2.2 (hin 3 (by decide)) dL_law_1239 ?_
  refine lv_aload_n hx hb dL_law_1240 rfl (lv_at hl 0 rfl) ?_
  refine lv_iload_n hx hb dL_law_1241 rfl (lv_at hl 3 rfl) ?_
  refine lv_iconst (v := 4) hx hb dL_law_1242 (by decide) ?_
  refine lv_iadd hx hb dL_law_1243 ?_
  refine va_sld hx hb hX hbl hbA hw.2.2 (hin 4 (by decide)) dL_law_1244 ?_
  refine lv_aload_n hx hb dL_law_1245 rfl (lv_at hl 0 rfl) ?_
  refine lv_iload_n hx hb dL_law_1246 rfl (lv_at hl 3 rfl) ?_
  refine lv_iconst (v := 5) hx hb dL_law_1247 (by decide) ?_
  refine lv_iadd hx hb dL_law_1248 ?_
  refine va_sld hx hb hX hbl hbA hw.2.2 (hin 5 (by decide)) dL_law_1249 ?_
  refine lv_aload_n hx hb dL_law_1250 rfl (lv_at hl 0 rfl) ?_
  refine lv_iload_n hx hb dL_law_1251 rfl (lv_at hl 3 rfl) ?_
  refine lv_bipush (v := 6) hx hb dL_law_1252 (by decide) ?_
  refine lv_iadd hx hb dL_law_1254 ?_
  refine va_sld hx hb hX hbl hbA hw.2.2 (hin 6 (by decide)) dL_law_1255 ?_
  refine frL_Vl (wN := fun u : RT => (fW z qX qP qK qN qL qG F_1 ++ (pW z qP P ++ (pW z qK K ++ (mW z qG qT G ++ (pW z qT T_1 ++ (nW z qN N ++ (lW z qL L ++ (sW z qS u))))))))) M (m_X7_wet l z qS S (xs (x3 + (1 : Int32)).toNatClampNeg) (xs (x3 + (2 : Int32)).toNatClampNeg) (xs (x3 + (3 : Int32)).toNatClampNeg) (xs (x3 + (4 : Int32)).toNatClampNeg) (xs (x3 + (5 : Int32)).toNatClampNeg) (xs (x3 + (6 : Int32)).toNatClampNeg) _ h) (cwV 6 hts (gdV cd_X7_wet ml_L_153 im_X7_wet se_X7_wet in_X7) rfl rfl rfl hdV_X7_wet ⟨(Nat.le_of_ble_eq_true rfl), (Nat.le_of_ble_eq_true rfl)⟩) cut_28 prm_28 0 rfl rfl rfl hw ⟨Nat.le_refl _, Nat.le_refl _⟩ rfl hl.1 rfl (Nat.le_of_ble_eq_true rfl) dL_law_1256 (fun r_2 u_ H locs h hw => ?_)
  obtain ⟨S_2, rfl⟩ : ∃ z9 : RT, z9 = u_ := ⟨_, rfl⟩
  have hw : Hw s z A (fW z qX qP qK qN qL qG F_1 ++ (pW z qP P ++ (pW z qK K ++ (mW z qG qT G ++ (pW z qT T_1 ++ (nW z qN N ++ (lW z qL L ++ (sW z qS S_2)))))))) H locs := hw
  try dsimp only at h
  refine W.lcmp hx hb dL_law_1259 ?_
  obtain ⟨er, hI⟩ := h
  subst er
  refine lv_if_eq (tgt := 1463) hx hb dL_law_1260 (by decide) (fun _ => ?_) (fun c9 => absurd (lcmp_self _) c9)
  exact hK F_1 P K G T_1 N L S_2 H locs ls hI hw hl
set_option maxHeartbeats 4000000 in
set_option maxRecDepth 100000 in
theorem lc_34 {p : Program} {l : Launch} {e : Env} {s : State} {m : MethodId} {below : List Frame} {meth : Method} {c : Code} {z : KT} {A : Nat → Prop} {b L9 : Nat} {xs : Nat → Int32} {Inv : RT → RT → RT → RT → RT → RT → RT → RT → Prop} {qX : Nat → Nat} {qS : Nat → Nat} {qL : Nat → Nat} {qN : Nat → Nat} {qG : Nat → Nat} {qP : Nat → Nat} {qK : Nat → Nat} {qT : Nat → Nat} (M : Mc p s m #[Value.ref b] meth c code 4 ret R_law z A) (hX : va_X b L9 xs s s.heap) (hbl : b < s.heap.size) (hbA : ¬ A b) (hst : St_mean Inv) (x3 : Int32) (hin : ∀ j : Nat, j < 7 → vp_in (x3 + nI j) L9) (hK : ∀ (F P K G T N L S : RT) (H : Heap) (locs : List Loc) (ls : Array Slot), Inv F P K G T N L S → Hw s z A (fW z qX qP qK qN qL qG F ++ (pW z qP P ++ (pW z qK K ++ (mW z qG qT G ++ (pW z qT T ++ (nW z qN N ++ (lW z qL L ++ (sW z qS S)))))))) H locs → lv_has ls 4 [(0, .ref b), (1, .ref (qX 0)), (2, .ref (qS 0)), (3, .int x3)] → W p l e room_1 s m #[Value.ref b] below meth c H locs 50 946 (lw_Z below #[Value.ref b] s) (F0 m 1463 ls [])) (F P K G T N L S : RT) (H : Heap) (locs : List Loc) (ls : Array Slot) (hI : Inv F P K G T N L S) (hw : Hw s z A (fW z qX qP qK qN qL qG F ++ (pW z qP P ++ (pW z qK K ++ (mW z qG qT G ++ (pW z qT T ++ (nW z qN N ++ (lW z qL L ++ (sW z qS S)))))))) H locs) (hl : lv_has ls 4 [(0, .ref b), (1, .ref (qX 0)), (2, .ref (qS 0)), (3, .int x3)]) : W p l e room_1 s m #[Value.ref b] below meth c H locs 50 946 (lw_Z below #[Value.ref b] s) (F0 m 1265 ls []) := by
  obtain ⟨hx, hb, -, -, hown, hts, -, -, -, hN, hsr, -⟩ := id M
  have h := hst F P K G T N L S hI (xs (x3 + (1 : Int32)).toNatClampNeg)
  refine lv_aload_n hx hb dL_law_1265 rfl (lv_at hl 1 rfl) ?_
  refine lv_aload_n hx hb dL_law_1266 rfl (lv_at hl 0 rfl) ?_
  refine lv_iload_n hx hb dL_law_1267 rfl (lv_at hl 3 rfl) ?_
  refine lv_iconst (v := 1) hx hb dL_law_1268 (by decide) ?_
  refine lv_iadd hx hb dL_law_1269 ?_
  refine va_sld hx hb hX hbl hbA hw.2.2 (hin 1 (by decide)) dL_law_1270 ?_
  refine frL_Vl (wN := fun u : RT => (fW z qX qP qK qN qL qG u ++ (pW z qP P ++ (pW z qK K ++ (mW z qG qT G ++ (pW z qT T ++ (nW z qN N ++ (lW z qL L ++ (sW z qS S))))))))) M (m_X6_mean l z qX qL qN qG qP qK qT F P K G T N L (xs (x3 + (1 : Int32)).toNatClampNeg) _ h) (cwV 1 hts (gdV cd_X6_mean ml_L_154 im_X6_mean se_X6_mean in_X6) rfl rfl rfl hdV_X6_mean ⟨(Nat.le_of_ble_eq_true rfl), (Nat.le_of_ble_eq_true rfl)⟩) cut_30 prm_30 0 rfl rfl rfl hw ⟨Nat.le_refl _, Nat.le_refl _⟩ rfl hl.1 rfl (Nat.le_of_ble_eq_true rfl) dL_law_1271 (fun r_1 u_ H locs h hw => ?_)
  obtain ⟨F_1, rfl⟩ : ∃ z9 : RT, z9 = u_ := ⟨_, rfl⟩
  have hw : Hw s z A (fW z qX qP qK qN qL qG F_1 ++ (pW z qP P ++ (pW z qK K ++ (mW z qG qT G ++ (pW z qT T ++ (nW z qN N ++ (lW z qL L ++ (sW z qS S)))))))) H locs := hw
  try dsimp only at h
  refine lv_aload_n hx hb dL_law_1274 rfl (lv_at hl 2 rfl) ?_
  refine lv_aload_n hx hb dL_law_1275 rfl (lv_at hl 0 rfl) ?_
  refine lv_iload_n hx hb dL_law_1276 rfl (lv_at hl 3 rfl) ?_
  refine lv_iconst (v := 1) hx hb dL_law_1277 (by decide) ?_
  refine lv_iadd hx hb dL_law_1278 ?_
  refine va_sld hx hb hX hbl hbA hw.2.2 (hin 1 (by decide)) dL_law_1279 ?_
  refine frL_Vl (wN := fun u : RT => (fW z qX qP qK qN qL qG F_1 ++ (pW z qP P ++ (pW z qK K ++ (mW z qG qT G ++ (pW z qT T ++ (nW z qN N ++ (lW z qL L ++ (sW z qS u))))))))) M (m_X7_mean l z qS S (xs (x3 + (1 : Int32)).toNatClampNeg) _ h) (cwV 1 hts (gdV cd_X7_mean ml_L_158 im_X7_mean se_X7_mean in_X7) rfl rfl rfl hdV_X7_mean ⟨(Nat.le_of_ble_eq_true rfl), (Nat.le_of_ble_eq_true rfl)⟩) cut_28 prm_28 0 rfl rfl rfl hw ⟨Nat.le_refl _, Nat.le_refl _⟩ rfl hl.1 rfl (Nat.le_of_ble_eq_true rfl) dL_law_1280 (fun r_2 u_ H locs h hw => ?_)
  obtain ⟨S_2, rfl⟩ : ∃ z9 : RT, z9 = u_ := ⟨_, rfl⟩
  have hw : Hw s z A (fW z qX qP qK qN qL qG F_1 ++ (pW z qP P ++ (pW z qK K ++ (mW z qG qT G ++ (pW z qT T ++ (nW z qN N ++ (lW z qL L ++ (sW z qS S_2)))))))) H locs := hw
  try dsimp only at h
  refine W.lcmp hx hb dL_law_1283 ?_
  obtain ⟨er, hI⟩ := h
  subst er
  refine lv_if_eq (tgt := 1463) hx hb dL_law_1284 (by decide) (fun _ => ?_) (fun c9 => absurd (lcmp_self _) c9)
  exact hK F_1 P K G T N L S_2 H locs ls hI hw hl
set_option maxHeartbeats 4000000 in
set_option maxRecDepth 100000 in
theorem lc_35 {p : Program} {l : Launch} {e : Env} {s : State} {m : MethodId} {below : List Frame} {meth : Method} {c : Code} {z : KT} {A : Nat → Prop} {b L9 : Nat} {xs : Nat → Int32} {Inv : RT → RT → RT → RT → RT → RT → RT → RT → Prop} {qX : Nat → Nat} {qS : Nat → Nat} {qL : Nat → Nat} {qN : Nat → Nat} {qG : Nat → Nat} {qP : Nat → Nat} {qK : Nat → Nat} {qT : Nat → Nat} (M : Mc p s m #[Value.ref b] meth c code 4 ret R_law z A) (hX : va_X b L9 xs s s.heap) (hbl : b < s.heap.size) (hbA : ¬ A b) (hst : St_whatIs Inv) (x3 : Int32) (hin : ∀ j : Nat, j < 7 → vp_in (x3 + nI j) L9) (hK : ∀ (F P K G T N L S : RT) (H : Heap) (locs : List Loc) (ls : Array Slot), Inv F P K G T N L S → Hw s z A (fW z qX qP qK qN qL qG F ++ (pW z qP P ++ (pW z qK K ++ (mW z qG qT G ++ (pW z qT T ++ (nW z qN N ++ (lW z qL L ++ (sW z qS S)))))))) H locs → lv_has ls 4 [(0, .ref b), (1, .ref (qX 0)), (2, .ref (qS 0)), (3, .int x3)] → W p l e room_1 s m #[Value.ref b] below meth c H locs 50 946 (lw_Z below #[Value.ref b] s) (F0 m 1463 ls [])) (F P K G T N L S : RT) (H : Heap) (locs : List Loc) (ls : Array Slot) (hI : Inv F P K G T N L S) (hw : Hw s z A (fW z qX qP qK qN qL qG F ++ (pW z qP P ++ (pW z qK K ++ (mW z qG qT G ++ (pW z qT T ++ (nW z qN N ++ (lW z qL L ++ (sW z qS S)))))))) H locs) (hl : lv_has ls 4 [(0, .ref b), (1, .ref (qX 0)), (2, .ref (qS 0)), (3, .int x3)]) : W p l e room_1 s m #[Value.ref b] below meth c H locs 50 946 (lw_Z below #[Value.ref b] s) (F0 m 1289 ls []) := by
  obtain ⟨hx, hb, -, -, hown, hts, -, -, -, hN, hsr, -⟩ := id M
  have h := hst F P K G T N L S hI (xs (x3 + (1 : Int32)).toNatClampNeg) (xs (x3 + (2 : Int32)).toNatClampNeg)
  refine lv_aload_n hx hb dL_law_1289 rfl (lv_at hl 1 rfl) ?_
  refine lv_aload_n hx hb dL_law_1290 rfl (lv_at hl 0 rfl) ?_
  refine lv_iload_n hx hb dL_law_1291 rfl (lv_at hl 3 rfl) ?_
  refine lv_iconst (v := 1) hx hb dL_law_1292 (by decide) ?_
  refine lv_iadd hx hb dL_law_1293 ?_
  refine va_sld hx hb hX hbl hbA hw.2.2 (hin 1 (by decide)) dL_law_1294 ?_
  refine lv_aload_n hx hb dL_law_1295 rfl (lv_at hl 0 rfl) ?_
  refine lv_iload_n hx hb dL_law_1296 rfl (lv_at hl 3 rfl) ?_
  refine lv_iconst (v := 2) hx hb dL_law_1297 (by decide) ?_
  refine lv_iadd hx hb dL_law_1298 ?_
  refine va_sld hx hb hX hbl hbA hw.2.2 (hin 2 (by decide)) dL_law_1299 ?_
  refine frL_Vi (wN := fun u : RT × RT => (fW z qX qP qK qN qL qG u.1 ++ (pW z qP P ++ (pW z qK K ++ (mW z qG qT G ++ (pW z qT u.2 ++ (nW z qN N ++ (lW z qL L ++ (sW z qS S))))))))) M (m_X6_whatIs l z qX qL qN qG qP qK qT F P K G T N L (xs (x3 + (1 : Int32)).toNatClampNeg) (xs (x3 + (2 : Int32)).toNatClampNeg) _ h) (cwV 2 hts (gdV cd_X6_whatIs ml_L_159 im_X6_whatIs se_X6_whatIs in_X6) rfl rfl rfl hdV_X6_whatIs ⟨(Nat.le_of_ble_eq_true rfl), (Nat.le_of_ble_eq_true rfl)⟩) cut_32 prm_32 0 rfl rfl rfl hw ⟨Nat.le_refl _, Nat.le_refl _⟩ rfl hl.1 rfl (Nat.le_of_ble_eq_true rfl) dL_law_1300 (fun r_1 u_ H locs h hw => ?_)
  obtain ⟨F_1, T_1⟩ := u_
  have hw : Hw s z A (fW z qX qP qK qN qL qG F_1 ++ (pW z qP P ++ (pW z qK K ++ (mW z qG qT G ++ (pW z qT T_1 ++ (nW z qN N ++ (lW z qL L ++ (sW z qS S)))))))) H locs := hw
  try dsimp only at h
  refine lv_aload_n hx hb dL_law_1303 rfl (lv_at hl 2 rfl) ?_
  refine lv_aload_n hx hb dL_law_1304 rfl (lv_at hl 0 rfl) ?_
  refine lv_iload_n hx hb dL_law_1305 rfl (lv_at hl 3 rfl) ?_
  refine lv_iconst (v := 1) hx hb dL_law_1306 (by decide) ?_
  refine lv_iadd hx hb dL_law_1307 ?_
  refine va_sld hx hb hX hbl hbA hw.2.2 (hin 1 (by decide)) dL_law_1308 ?_
  refine lv_aload_n hx hb dL_law_1309 rfl (lv_at hl 0 rfl) ?_
  refine lv_iload_n hx hb dL_law_1310 rfl (lv_at hl 3 rfl) ?_
  refine lv_iconst (v := 2) hx hb dL_law_1311 (by decide) ?_
  refine lv_iadd hx hb dL_law_1312 ?_
  refine va_sld hx hb hX hbl hbA hw.2.2 (hin 2 (by decide)) dL_law_1313 ?_
  refine frL_Vi (wN := fun u : RT => (fW z qX qP qK qN qL qG F_1 ++ (pW z qP P ++ (pW z qK K ++ (mW z qG qT G ++ (pW z qT T_1 ++ (nW z qN N ++ (lW z qL L ++ (sW z qS u))))))))) M (m_X7_whatIs l z qS S (xs (x3 + (1 : Int32)).toNatClampNeg) (xs (x3 + (2 : Int32)).toNatClampNeg) _ h) (cwV 2 hts (gdV cd_X7_whatIs ml_L_162 im_X7_whatIs se_X7_whatIs in_X7) rfl rfl rfl hdV_X7_whatIs ⟨(Nat.le_of_ble_eq_true rfl), (Nat.le_of_ble_eq_true rfl)⟩) cut_28 prm_28 0 rfl rfl rfl hw ⟨Nat.le_refl _, Nat.le_refl _⟩ rfl hl.1 rfl (Nat.le_of_ble_eq_true rfl) dL_law_1314 (fun r_2 u_ H locs h hw => ?_)
  obtain ⟨S_2, rfl⟩ : ∃ z9 : RT, z9 = u_ := ⟨_, rfl⟩
  have hw : Hw s z A (fW z qX qP qK qN qL qG F_1 ++ (pW z qP P ++ (pW z qK K ++ (mW z qG qT G ++ (pW z qT T_1 ++ (nW z qN N ++ (lW z qL L ++ (sW z qS S_2)))))))) H locs := hw
  try dsimp only at h
  obtain ⟨er, hI⟩ := h
  subst er
  refine lv_icmp_eq (tgt := 1463) hx hb dL_law_1317 (by decide) (fun _ => ?_) (fun c9 => absurd rfl c9)
  exact hK F_1 P K G T_1 N L S_2 H locs ls hI hw hl
set_option maxHeartbeats 4000000 in
set_option maxRecDepth 100000 in
theorem lc_36 {p : Program} {l : Launch} {e : Env} {s : State} {m : MethodId} {below : List Frame} {meth : Method} {c : Code} {z : KT} {A : Nat → Prop} {b L9 : Nat} {xs : Nat → Int32} {Inv : RT → RT → RT → RT → RT → RT → RT → RT → Prop} {qX : Nat → Nat} {qS : Nat → Nat} {qL : Nat → Nat} {qN : Nat → Nat} {qG : Nat → Nat} {qP : Nat → Nat} {qK : Nat → Nat} {qT : Nat → Nat} (M : Mc p s m #[Value.ref b] meth c code 4 ret R_law z A) (hX : va_X b L9 xs s s.heap) (hbl : b < s.heap.size) (hbA : ¬ A b) (hst : St_row Inv) (x3 : Int32) (hin : ∀ j : Nat, j < 7 → vp_in (x3 + nI j) L9) (hK : ∀ (F P K G T N L S : RT) (H : Heap) (locs : List Loc) (ls : Array Slot), Inv F P K G T N L S → Hw s z A (fW z qX qP qK qN qL qG F ++ (pW z qP P ++ (pW z qK K ++ (mW z qG qT G ++ (pW z qT T ++ (nW z qN N ++ (lW z qL L ++ (sW z qS S)))))))) H locs → lv_has ls 4 [(0, .ref b), (1, .ref (qX 0)), (2, .ref (qS 0)), (3, .int x3)] → W p l e room_1 s m #[Value.ref b] below meth c H locs 50 946 (lw_Z below #[Value.ref b] s) (F0 m 1463 ls [])) (F P K G T N L S : RT) (H : Heap) (locs : List Loc) (ls : Array Slot) (hI : Inv F P K G T N L S) (hw : Hw s z A (fW z qX qP qK qN qL qG F ++ (pW z qP P ++ (pW z qK K ++ (mW z qG qT G ++ (pW z qT T ++ (nW z qN N ++ (lW z qL L ++ (sW z qS S)))))))) H locs) (hl : lv_has ls 4 [(0, .ref b), (1, .ref (qX 0)), (2, .ref (qS 0)), (3, .int x3)]) : W p l e room_1 s m #[Value.ref b] below meth c H locs 50 946 (lw_Z below #[Value.ref b] s) (F0 m 1322 ls []) := by
  obtain ⟨hx, hb, -, -, hown, hts, -, -, -, hN, hsr, -⟩ := id M
  have h := hst F P K G T N L S hI (xs (x3 + (1 : Int32)).toNatClampNeg)
  refine lv_aload_n hx hb dL_law_1322 rfl (lv_at hl 1 rfl) ?_
  refine lv_aload_n hx hb dL_law_1323 rfl (lv_at hl 0 rfl) ?_
  refine lv_iload_n hx hb dL_law_1324 rfl (lv_at hl 3 rfl) ?_
  refine lv_iconst (v := 1) hx hb dL_law_1325 (by decide) ?_
  refine lv_iadd hx hb dL_law_1326 ?_
  refine va_sld hx hb hX hbl hbA hw.2.2 (hin 1 (by decide)) dL_law_1327 ?_
  refine frL_Vi (wN := fun u : RT × RT => (fW z qX qP qK qN qL qG u.1 ++ (pW z qP P ++ (pW z qK K ++ (mW z qG qT G ++ (pW z qT T ++ (nW z qN u.2 ++ (lW z qL L ++ (sW z qS S))))))))) M (m_X6_row l z qX qL qN qG qP qK qT F P K G T N L (xs (x3 + (1 : Int32)).toNatClampNeg) _ h) (cwV 1 hts (gdV cd_X6_row ml_L_163 im_X6_row se_X6_row in_X6) rfl rfl rfl hdV_X6_row ⟨(Nat.le_of_ble_eq_true rfl), (Nat.le_of_ble_eq_true rfl)⟩) cut_36 prm_36 0 rfl rfl rfl hw ⟨Nat.le_refl _, Nat.le_refl _⟩ rfl hl.1 rfl (Nat.le_of_ble_eq_true rfl) dL_law_1328 (fun r_1 u_ H locs h hw => ?_)
  obtain ⟨F_1, N_1⟩ := u_
  have hw : Hw s z A (fW z qX qP qK qN qL qG F_1 ++ (pW z qP P ++ (pW z qK K ++ (mW z qG qT G ++ (pW z qT T ++ (nW z qN N_1 ++ (lW z qL L ++ (sW z qS S)))))))) H locs := hw
  try dsimp only at h
  refine lv_aload_n hx hb dL_law_1331 rfl (lv_at hl 2 rfl) ?_
  refine lv_aload_n hx hb dL_law_1332 rfl (lv_at hl 0 rfl) ?_
  refine lv_iload_n hx hb dL_law_1333 rfl (lv_at hl 3 rfl) ?_
  refine lv_iconst (v := 1) hx hb dL_law_1334 (by decide) ?_
  refine lv_iadd hx hb dL_law_1335 ?_
  refine va_sld hx hb hX hbl hbA hw.2.2 (hin 1 (by decide)) dL_law_1336 ?_
  refine frL_Vi (wN := fun u : RT => (fW z qX qP qK qN qL qG F_1 ++ (pW z qP P ++ (pW z qK K ++ (mW z qG qT G ++ (pW z qT T ++ (nW z qN N_1 ++ (lW z qL L ++ (sW z qS u))))))))) M (m_X7_row l z qS S (xs (x3 + (1 : Int32)).toNatClampNeg) _ h) (cwV 1 hts (gdV cd_X7_row ml_L_166 im_X7_row se_X7_row in_X7) rfl rfl rfl hdV_X7_row ⟨(Nat.le_of_ble_eq_true rfl), (Nat.le_of_ble_eq_true rfl)⟩) cut_28 prm_28 0 rfl rfl rfl hw ⟨Nat.le_refl _, Nat.le_refl _⟩ rfl hl.1 rfl (Nat.le_of_ble_eq_true rfl) dL_law_1337 (fun r_2 u_ H locs h hw => ?_)
  obtain ⟨S_2, rfl⟩ : ∃ z9 : RT, z9 = u_ := ⟨_, rfl⟩
  have hw : Hw s z A (fW z qX qP qK qN qL qG F_1 ++ (pW z qP P ++ (pW z qK K ++ (mW z qG qT G ++ (pW z qT T ++ (nW z qN N_1 ++ (lW z qL L ++ (sW z qS S_2)))))))) H locs := hw
  try dsimp only at h
  obtain ⟨er, hI⟩ := h
  subst er
  refine lv_icmp_eq (tgt := 1463) hx hb dL_law_1340 (by decide) (fun _ => ?_) (fun c9 => absurd rfl c9)
  exact hK F_1 P K G T N_1 L S_2 H locs ls hI hw hl
set_option maxHeartbeats 4000000 in
set_option maxRecDepth 100000 in
theorem lc_37 {p : Program} {l : Launch} {e : Env} {s : State} {m : MethodId} {below : List Frame} {meth : Method} {c : Code} {z : KT} {A : Nat → Prop} {b L9 : Nat} {xs : Nat → Int32} {Inv : RT → RT → RT → RT → RT → RT → RT → RT → Prop} {qX : Nat → Nat} {qS : Nat → Nat} {qL : Nat → Nat} {qN : Nat → Nat} {qG : Nat → Nat} {qP : Nat → Nat} {qK : Nat → Nat} {qT : Nat → Nat} (M : Mc p s m #[Value.ref b] meth c code 4 ret R_law z A) (hX : va_X b L9 xs s s.heap) (hbl : b < s.heap.size) (hbA : ¬ A b) (hst : St_judge Inv) (x3 : Int32) (hin : ∀ j : Nat, j < 7 → vp_in (x3 + nI j) L9) (hK : ∀ (F P K G T N L S : RT) (H : Heap) (locs : List Loc) (ls : Array Slot), Inv F P K G T N L S → Hw s z A (fW z qX qP qK qN qL qG F ++ (pW z qP P ++ (pW z qK K ++ (mW z qG qT G ++ (pW z qT T ++ (nW z qN N ++ (lW z qL L ++ (sW z qS S)))))))) H locs → lv_has ls 4 [(0, .ref b), (1, .ref (qX 0)), (2, .ref (qS 0)), (3, .int x3)] → W p l e room_1 s m #[Value.ref b] below meth c H locs 50 946 (lw_Z below #[Value.ref b] s) (F0 m 1463 ls [])) (F P K G T N L S : RT) (H : Heap) (locs : List Loc) (ls : Array Slot) (hI : Inv F P K G T N L S) (hw : Hw s z A (fW z qX qP qK qN qL qG F ++ (pW z qP P ++ (pW z qK K ++ (mW z qG qT G ++ (pW z qT T ++ (nW z qN N ++ (lW z qL L ++ (sW z qS S)))))))) H locs) (hl : lv_has ls 4 [(0, .ref b), (1, .ref (qX 0)), (2, .ref (qS 0)), (3, .int x3)]) : W p l e room_1 s m #[Value.ref b] below meth c H locs 50 946 (lw_Z below #[Value.ref b] s) (F0 m 1345 ls []) := by
  obtain ⟨hx, hb, -, -, hown, hts, -, -, -, hN, hsr, -⟩ := id M
  have h := hst F P K G T N L S hI
  refine lv_aload_n hx hb dL_law_1345 rfl (lv_at hl 1 rfl) ?_
  refine frL_Vi (wN := fun u : RT => (fW z qX qP qK qN qL qG F ++ (pW z qP P ++ (pW z qK K ++ (mW z qG qT G ++ (pW z qT T ++ (nW z qN u ++ (lW z qL L ++ (sW z qS S))))))))) M (m_X6_judge l z qX qL qN qG qP qK qT F P K G T N L _ h) (cwV 0 hts (gdV cd_X6_judge ml_L_167 im_X6_judge se_X6_judge in_X6) rfl rfl rfl hdV_X6_judge ⟨(Nat.le_of_ble_eq_true rfl), (Nat.le_of_ble_eq_true rfl)⟩) cut_37 prm_37 0 rfl rfl rfl hw ⟨Nat.le_refl _, Nat.le_refl _⟩ rfl hl.1 rfl (Nat.le_of_ble_eq_true rfl) dL_law_1346 (fun r_1 u_ H locs h hw => ?_)
  obtain ⟨N_1, rfl⟩ : ∃ z9 : RT, z9 = u_ := ⟨_, rfl⟩
  have hw : Hw s z A (fW z qX qP qK qN qL qG F ++ (pW z qP P ++ (pW z qK K ++ (mW z qG qT G ++ (pW z qT T ++ (nW z qN N_1 ++ (lW z qL L ++ (sW z qS S)))))))) H locs := hw
  try dsimp only at h
  refine lv_aload_n hx hb dL_law_1349 rfl (lv_at hl 2 rfl) ?_
  refine frL_Vi (wN := fun u : RT => (fW z qX qP qK qN qL qG F ++ (pW z qP P ++ (pW z qK K ++ (mW z qG qT G ++ (pW z qT T ++ (nW z qN N_1 ++ (lW z qL L ++ (sW z qS u))))))))) M (m_X7_judge l z qS S _ h) (cwV 0 hts (gdV cd_X7_judge ml_L_170 im_X7_judge se_X7_judge in_X7) rfl rfl rfl hdV_X7_judge ⟨(Nat.le_of_ble_eq_true rfl), (Nat.le_of_ble_eq_true rfl)⟩) cut_28 prm_28 0 rfl rfl rfl hw ⟨Nat.le_refl _, Nat.le_refl _⟩ rfl hl.1 rfl (Nat.le_of_ble_eq_true rfl) dL_law_1350 (fun r_2 u_ H locs h hw => ?_)
  obtain ⟨S_2, rfl⟩ : ∃ z9 : RT, z9 = u_ := ⟨_, rfl⟩
  have hw : Hw s z A (fW z qX qP qK qN qL qG F ++ (pW z qP P ++ (pW z qK K ++ (mW z qG qT G ++ (pW z qT T ++ (nW z qN N_1 ++ (lW z qL L ++ (sW z qS S_2)))))))) H locs := hw
  try dsimp only at h
  obtain ⟨er, hI⟩ := h
  subst er
  refine lv_icmp_eq (tgt := 1463) hx hb dL_law_1353 (by decide) (fun _ => ?_) (fun c9 => absurd rfl c9)
  exact hK F P K G T N_1 L S_2 H locs ls hI hw hl
set_option maxHeartbeats 4000000 in
set_option maxRecDepth 100000 in
theorem lc_38 {p : Program} {l : Launch} {e : Env} {s : State} {m : MethodId} {below : List Frame} {meth : Method} {c : Code} {z : KT} {A : Nat → Prop} {b L9 : Nat} {xs : Nat → Int32} {Inv : RT → RT → RT → RT → RT → RT → RT → RT → Prop} {qX : Nat → Nat} {qS : Nat → Nat} {qL : Nat → Nat} {qN : Nat → Nat} {qG : Nat → Nat} {qP : Nat → Nat} {qK : Nat → Nat} {qT : Nat → Nat} (M : Mc p s m #[Value.ref b] meth c code 4 ret R_law z A) (hX : va_X b L9 xs s s.heap) (hbl : b < s.heap.size) (hbA : ¬ A b) (hst : St_clear Inv) (x3 : Int32) (hin : ∀ j : Nat, j < 7 → vp_in (x3 + nI j) L9) (hK : ∀ (F P K G T N L S : RT) (H : Heap) (locs : List Loc) (ls : Array Slot), Inv F P K G T N L S → Hw s z A (fW z qX qP qK qN qL qG F ++ (pW z qP P ++ (pW z qK K ++ (mW z qG qT G ++ (pW z qT T ++ (nW z qN N ++ (lW z qL L ++ (sW z qS S)))))))) H locs → lv_has ls 4 [(0, .ref b), (1, .ref (qX 0)), (2, .ref (qS 0)), (3, .int x3)] → W p l e room_1 s m #[Value.ref b] below meth c H locs 50 946 (lw_Z below #[Value.ref b] s) (F0 m 1463 ls [])) (F P K G T N L S : RT) (H : Heap) (locs : List Loc) (ls : Array Slot) (hI : Inv F P K G T N L S) (hw : Hw s z A (fW z qX qP qK qN qL qG F ++ (pW z qP P ++ (pW z qK K ++ (mW z qG qT G ++ (pW z qT T ++ (nW z qN N ++ (lW z qL L ++ (sW z qS S)))))))) H locs) (hl : lv_has ls 4 [(0, .ref b), (1, .ref (qX 0)), (2, .ref (qS 0)), (3, .int x3)]) : W p l e room_1 s m #[Value.ref b] below meth c H locs 50 946 (lw_Z below #[Value.ref b] s) (F0 m 1358 ls []) := by
  obtain ⟨hx, hb, -, -, hown, hts, -, -, -, hN, hsr, -⟩ := id M
  have h := hst F P K G T N L S hI
  refine lv_aload_n hx hb dL_law_1358 rfl (lv_at hl 1 rfl) ?_
  refine frL_Vi (wN := fun u : RT => (fW z qX qP qK qN qL qG F ++ (pW z qP P ++ (pW z qK K ++ (mW z qG qT G ++ (pW z qT T ++ (nW z qN u ++ (lW z qL L ++ (sW z qS S))))))))) M (m_X6_clear l z qX qL qN qG qP qK qT F P K G T N L _ h) (cwV 0 hts (gdV cd_X6_clear ml_L_171 im_X6_clear se_X6_clear in_X6) rfl rfl rfl hdV_X6_clear ⟨(Nat.le_of_ble_eq_true rfl), (Nat.le_of_ble_eq_true rfl)⟩) cut_37 prm_37 0 rfl rfl rfl hw ⟨Nat.le_refl _, Nat.le_refl _⟩ rfl hl.1 rfl (Nat.le_of_ble_eq_true rfl) dL_law_1359 (fun r_1 u_ H locs h hw => ?_)
  obtain ⟨N_1, rfl⟩ : ∃ z9 : RT, z9 = u_ := ⟨_, rfl⟩
  have hw : Hw s z A (fW z qX qP qK qN qL qG F ++ (pW z qP P ++ (pW z qK K ++ (mW z qG qT G ++ (pW z qT T ++ (nW z qN N_1 ++ (lW z qL L ++ (sW z qS S)))))))) H locs := hw
  try dsimp only at h
  refine lv_aload_n hx hb dL_law_1362 rfl (lv_at hl 2 rfl) ?_
  refine frL_Vi (wN := fun u : RT => (fW z qX qP qK qN qL qG F ++ (pW z qP P ++ (pW z qK K ++ (mW z qG qT G ++ (pW z qT T ++ (nW z qN N_1 ++ (lW z qL L ++ (sW z qS u))))))))) M (m_X7_clear l z qS S _ h) (cwV 0 hts (gdV cd_X7_clear ml_L_174 im_X7_clear se_X7_clear in_X7) rfl rfl rfl hdV_X7_clear ⟨(Nat.le_of_ble_eq_true rfl), (Nat.le_of_ble_eq_true rfl)⟩) cut_28 prm_28 0 rfl rfl rfl hw ⟨Nat.le_refl _, Nat.le_refl _⟩ rfl hl.1 rfl (Nat.le_of_ble_eq_true rfl) dL_law_1363 (fun r_2 u_ H locs h hw => ?_)
  obtain ⟨S_2, rfl⟩ : ∃ z9 : RT, z9 = u_ := ⟨_, rfl⟩
  have hw : Hw s z A (fW z qX qP qK qN qL qG F ++ (pW z qP P ++ (pW z qK K ++ (mW z qG qT G ++ (pW z qT T ++ (nW z qN N_1 ++ (lW z qL L ++ (sW z qS S_2)))))))) H locs := hw
  try dsimp only at h
  obtain ⟨er, hI⟩ := h
  subst er
  refine lv_icmp_eq (tgt := 1463) hx hb dL_law_1366 (by decide) (fun _ => ?_) (fun c9 => absurd rfl c9)
  exact hK F P K G T N_1 L S_2 H locs ls hI hw hl
set_option maxHeartbeats 4000000 in
set_option maxRecDepth 100000 in
theorem lc_39 {p : Program} {l : Launch} {e : Env} {s : State} {m : MethodId} {below : List Frame} {meth : Method} {c : Code} {z : KT} {A : Nat → Prop} {b L9 : Nat} {xs : Nat → Int32} {Inv : RT → RT → RT → RT → RT → RT → RT → RT → Prop} {qX : Nat → Nat} {qS : Nat → Nat} {qL : Nat → Nat} {qN : Nat → Nat} {qG : Nat → Nat} {qP : Nat → Nat} {qK : Nat → Nat} {qT : Nat → Nat} (M : Mc p s m #[Value.ref b] meth c code 4 ret R_law z A) (hX : va_X b L9 xs s s.heap) (hbl : b < s.heap.size) (hbA : ¬ A b) (hst : St_lots Inv) (x3 : Int32) (hin : ∀ j : Nat, j < 7 → vp_in (x3 + nI j) L9) (hK : ∀ (F P K G T N L S : RT) (H : Heap) (locs : List Loc) (ls : Array Slot), Inv F P K G T N L S → Hw s z A (fW z qX qP qK qN qL qG F ++ (pW z qP P ++ (pW z qK K ++ (mW z qG qT G ++ (pW z qT T ++ (nW z qN N ++ (lW z qL L ++ (sW z qS S)))))))) H locs → lv_has ls 4 [(0, .ref b), (1, .ref (qX 0)), (2, .ref (qS 0)), (3, .int x3)] → W p l e room_1 s m #[Value.ref b] below meth c H locs 50 946 (lw_Z below #[Value.ref b] s) (F0 m 1463 ls [])) (F P K G T N L S : RT) (H : Heap) (locs : List Loc) (ls : Array Slot) (hI : Inv F P K G T N L S) (hw : Hw s z A (fW z qX qP qK qN qL qG F ++ (pW z qP P ++ (pW z qK K ++ (mW z qG qT G ++ (pW z qT T ++ (nW z qN N ++ (lW z qL L ++ (sW z qS S)))))))) H locs) (hl : lv_has ls 4 [(0, .ref b), (1, .ref (qX 0)), (2, .ref (qS 0)), (3, .int x3)]) : W p l e room_1 s m #[Value.ref b] below meth c H locs 50 946 (lw_Z below #[Value.ref b] s) (F0 m 1371 ls []) := by
  obtain ⟨hx, hb, -, -, hown, hts, -, -, -, hN, hsr, -⟩ := id M
  have h := hst F P K G T N L S hI (xs (x3 + (1 : Int32)).toNatClampNeg) (xs (x3 + (2 : Int32)).toNatClampNeg) (xs (x3 + (3 : Int32)).toNatClampNeg)
  refine lv_aload_n hx hb dL_law_1371 rfl (lv_at hl 1 rfl) ?_
  refine lv_aload_n hx hb dL_law_1372 rfl (lv_at hl 0 rfl) ?_
  refine lv_iload_n hx hb dL_law_1373 rfl (lv_at hl 3 rfl) ?_
  refine lv_iconst (v := 1) hx hb dL_law_1374 (by decide) ?_
  refine lv_iadd hx hb dL_law_1375 ?_
  refine va_sld hx hb hX hbl hbA hw.2.2 (hin 1 (by decide)) dL_law_1376 ?_
  refine lv_aload_n hx hb dL_law_1377 rfl (lv_at hl 0 rfl) ?_
  refine lv_iload_n hx hb dL_law_1378 rfl (lv_at hl 3 rfl) ?_
  refine lv_iconst (v := 2) hx hb dL_law_1379 (by decide) ?_
  refine lv_iadd hx hb dL_law_1380 ?_
  refine va_sld hx hb hX hbl hbA hw.2.2 (hin 2 (by decide)) dL_law_1381 ?_
  refine lv_aload_n hx hb dL_law_1382 rfl (lv_at hl 0 rfl) ?_
  refine lv_iload_n hx hb dL_law_1383 rfl (lv_at hl 3 rfl) ?_
  refine lv_iconst (v := 3) hx hb dL_law_1384 (by decide) ?_
  refine lv_iadd hx hb dL_law_1385 ?_
  refine va_sld hx hb hX hbl hbA hw.2.2 (hin 3 (by decide)) dL_law_1386 ?_
  refine frL_Vi (wN := fun u : RT × RT => (fW z qX qP qK qN qL qG u.1 ++ (pW z qP P ++ (pW z qK K ++ (mW z qG qT G ++ (pW z qT u.2 ++ (nW z qN N ++ (lW z qL L ++ (sW z qS S))))))))) M (m_X6_lots l z qX qL qN qG qP qK qT F P K G T N L (xs (x3 + (1 : Int32)).toNatClampNeg) (xs (x3 + (2 : Int32)).toNatClampNeg) (xs (x3 + (3 : Int32)).toNatClampNeg) _ h) (cwV 3 hts (gdV cd_X6_lots ml_L_175 im_X6_lots se_X6_lots in_X6) rfl rfl rfl hdV_X6_lots ⟨(Nat.le_of_ble_eq_true rfl), (Nat.le_of_ble_eq_true rfl)⟩) cut_32 prm_32 0 rfl rfl rfl hw ⟨Nat.le_refl _, Nat.le_refl _⟩ rfl hl.1 rfl (Nat.le_of_ble_eq_true rfl) dL_law_1387 (fun r_1 u_ H locs h hw => ?_)
  obtain ⟨F_1, T_1⟩ := u_
  have hw : Hw s z A (fW z qX qP qK qN qL qG F_1 ++ (pW z qP P ++ (pW z qK K ++ (mW z qG qT G ++ (pW z qT T_1 ++ (nW z qN N ++ (lW z qL L ++ (sW z qS S)))))))) H locs := hw
  try dsimp only at h
  refine lv_aload_n hx hb dL_law_1390 rfl (lv_at hl 2 rfl) ?_
  refine lv_aload_n hx hb dL_law_1391 rfl (lv_at hl 0 rfl) ?_
  refine lv_iload_n hx hb dL_law_1392 rfl (lv_at hl 3 rfl) ?_
  refine lv_iconst (v := 1) hx hb dL_law_1393 (by decide) ?_
  refine lv_iadd hx hb dL_law_1394 ?_
  refine va_sld hx hb hX hbl hbA hw.2.2 (hin 1 (by decide)) dL_law_1395 ?_
  refine lv_aload_n hx hb dL_law_1396 rfl (lv_at hl 0 rfl) ?_
  refine lv_iload_n hx hb dL_law_1397 rfl (lv_at hl 3 rfl) ?_
  refine lv_iconst (v := 2) hx hb dL_law_1398 (by decide) ?_
  refine lv_iadd hx hb dL_law_1399 ?_
  refine va_sld hx hb hX hbl hbA hw.2.2 (hin 2 (by decide)) dL_law_1400 ?_
  refine lv_aload_n hx hb dL_law_1401 rfl (lv_at hl 0 rfl) ?_
  refine lv_iload_n hx hb dL_law_1402 rfl (lv_at hl 3 rfl) ?_
  refine lv_iconst (v := 3) hx hb dL_law_1403 (by decide) ?_
  refine lv_iadd hx hb dL_law_1404 ?_
  refine va_sld hx hb hX hbl hbA hw.2.2 (hin 3 (by decide)) dL_law_1405 ?_
  refine frL_Vi (wN := fun u : RT => (fW z qX qP qK qN qL qG F_1 ++ (pW z qP P ++ (pW z qK K ++ (mW z qG qT G ++ (pW z qT T_1 ++ (nW z qN N ++ (lW z qL L ++ (sW z qS u))))))))) M (m_X7_lots l z qS S (xs (x3 + (1 : Int32)).toNatClampNeg) (xs (x3 + (2 : Int32)).toNatClampNeg) (xs (x3 + (3 : Int32)).toNatClampNeg) _ h) (cwV 3 hts (gdV cd_X7_lots ml_L_178 im_X7_lots se_X7_lots in_X7) rfl rfl rfl hdV_X7_lots ⟨(Nat.le_of_ble_eq_true rfl), (Nat.le_of_ble_eq_true rfl)⟩) cut_28 prm_28 0 rfl rfl rfl hw ⟨Nat.le_refl _, Nat.le_refl _⟩ rfl hl.1 rfl (Nat.le_of_ble_eq_true rfl) dL_law_1406 (fun r_2 u_ H locs h hw => ?_)
  obtain ⟨S_2, rfl⟩ : ∃ z9 : RT, z9 = u_ := ⟨_, rfl⟩
  have hw : Hw s z A (fW z qX qP qK qN qL qG F_1 ++ (pW z qP P ++ (pW z qK K ++ (mW z qG qT G ++ (pW z qT T_1 ++ (nW z qN N ++ (lW z qL L ++ (sW z qS S_2)))))))) H locs := hw
  try dsimp only at h
  obtain ⟨er, hI⟩ := h
  subst er
  refine lv_icmp_eq (tgt := 1463) hx hb dL_law_1409 (by decide) (fun _ => ?_) (fun c9 => absurd rfl c9)
  exact hK F_1 P K G T_1 N L S_2 H locs ls hI hw hl
set_option maxHeartbeats 4000000 in
set_option maxRecDepth 100000 in
theorem lc_40 {p : Program} {l : Launch} {e : Env} {s : State} {m : MethodId} {below : List Frame} {meth : Method} {c : Code} {z : KT} {A : Nat → Prop} {b L9 : Nat} {xs : Nat → Int32} {Inv : RT → RT → RT → RT → RT → RT → RT → RT → Prop} {qX : Nat → Nat} {qS : Nat → Nat} {qL : Nat → Nat} {qN : Nat → Nat} {qG : Nat → Nat} {qP : Nat → Nat} {qK : Nat → Nat} {qT : Nat → Nat} (M : Mc p s m #[Value.ref b] meth c code 4 ret R_law z A) (hX : va_X b L9 xs s s.heap) (hbl : b < s.heap.size) (hbA : ¬ A b) (hst : St_image Inv) (x3 : Int32) (hin : ∀ j : Nat, j < 7 → vp_in (x3 + nI j) L9) (hK : ∀ (F P K G T N L S : RT) (H : Heap) (locs : List Loc) (ls : Array Slot), Inv F P K G T N L S → Hw s z A (fW z qX qP qK qN qL qG F ++ (pW z qP P ++ (pW z qK K ++ (mW z qG qT G ++ (pW z qT T ++ (nW z qN N ++ (lW z qL L ++ (sW z qS S)))))))) H locs → lv_has ls 4 [(0, .ref b), (1, .ref (qX 0)), (2, .ref (qS 0)), (3, .int x3)] → W p l e room_1 s m #[Value.ref b] below meth c H locs 50 946 (lw_Z below #[Value.ref b] s) (F0 m 1463 ls [])) (F P K G T N L S : RT) (H : Heap) (locs : List Loc) (ls : Array Slot) (hI : Inv F P K G T N L S) (hw : Hw s z A (fW z qX qP qK qN qL qG F ++ (pW z qP P ++ (pW z qK K ++ (mW z qG qT G ++ (pW z qT T ++ (nW z qN N ++ (lW z qL L ++ (sW z qS S)))))))) H locs) (hl : lv_has ls 4 [(0, .ref b), (1, .ref (qX 0)), (2, .ref (qS 0)), (3, .int x3)]) : W p l e room_1 s m #[Value.ref b] below meth c H locs 50 946 (lw_Z below #[Value.ref b] s) (F0 m 1414 ls []) := by
  obtain ⟨hx, hb, -, -, hown, hts, -, -, -, hN, hsr, -⟩ := id M
  have h := hst F P K G T N L S hI
  refine lv_aload_n hx hb dL_law_1414 rfl (lv_at hl 1 rfl) ?_
  refine frL_Vi (wN := fun u : RT × RT => (fW z qX qP qK qN qL qG u.1 ++ (pW z qP P ++ (pW z qK u.2 ++ (mW z qG qT G ++ (pW z qT T ++ (nW z qN N ++ (lW z qL L ++ (sW z qS S))))))))) M (m_X6_image l z qX qL qN qG qP qK qT F P K G T N L _ h) (cwV 0 hts (gdV cd_X6_image ml_L_179 im_X6_image se_X6_image in_X6) rfl rfl rfl hdV_X6_image ⟨(Nat.le_of_ble_eq_true rfl), (Nat.le_of_ble_eq_true rfl)⟩) cut_38 prm_38 0 rfl rfl rfl hw ⟨Nat.le_refl _, Nat.le_refl _⟩ rfl hl.1 rfl (Nat.le_of_ble_eq_true rfl) dL_law_1415 (fun r_1 u_ H locs h hw => ?_)
  obtain ⟨F_1, K_1⟩ := u_
  have hw : Hw s z A (fW z qX qP qK qN qL qG F_1 ++ (pW z qP P ++ (pW z qK K_1 ++ (mW z qG qT G ++ (pW z qT T ++ (nW z qN N ++ (lW z qL L ++ (sW z qS S)))))))) H locs := hw
  try dsimp only at h
  refine lv_aload_n hx hb dL_law_1418 rfl (lv_at hl 2 rfl) ?_
  refine frL_Vi (wN := fun u : RT => (fW z qX qP qK qN qL qG F_1 ++ (pW z qP P ++ (pW z qK K_1 ++ (mW z qG qT G ++ (pW z qT T ++ (nW z qN N ++ (lW z qL L ++ (sW z qS u))))))))) M (m_X7_image l z qS S _ h) (cwV 0 hts (gdV cd_X7_image ml_L_182 im_X7_image se_X7_image in_X7) rfl rfl rfl hdV_X7_image ⟨(Nat.le_of_ble_eq_true rfl), (Nat.le_of_ble_eq_true rfl)⟩) cut_28 prm_28 0 rfl rfl rfl hw ⟨Nat.le_refl _, Nat.le_refl _⟩ rfl hl.1 rfl (Nat.le_of_ble_eq_true rfl) dL_law_1419 (fun r_2 u_ H locs h hw => ?_)
  obtain ⟨S_2, rfl⟩ : ∃ z9 : RT, z9 = u_ := ⟨_, rfl⟩
  have hw : Hw s z A (fW z qX qP qK qN qL qG F_1 ++ (pW z qP P ++ (pW z qK K_1 ++ (mW z qG qT G ++ (pW z qT T ++ (nW z qN N ++ (lW z qL L ++ (sW z qS S_2)))))))) H locs := hw
  try dsimp only at h
  obtain ⟨er, hI⟩ := h
  subst er
  refine lv_icmp_eq (tgt := 1463) hx hb dL_law_1422 (by decide) (fun _ => ?_) (fun c9 => absurd rfl c9)
  exact hK F_1 P K_1 G T N L S_2 H locs ls hI hw hl
set_option maxHeartbeats 4000000 in
set_option maxRecDepth 100000 in
theorem lc_41 {p : Program} {l : Launch} {e : Env} {s : State} {m : MethodId} {below : List Frame} {meth : Method} {c : Code} {z : KT} {A : Nat → Prop} {b L9 : Nat} {xs : Nat → Int32} {Inv : RT → RT → RT → RT → RT → RT → RT → RT → Prop} {qX : Nat → Nat} {qS : Nat → Nat} {qL : Nat → Nat} {qN : Nat → Nat} {qG : Nat → Nat} {qP : Nat → Nat} {qK : Nat → Nat} {qT : Nat → Nat} (M : Mc p s m #[Value.ref b] meth c code 4 ret R_law z A) (hX : va_X b L9 xs s s.heap) (hbl : b < s.heap.size) (hbA : ¬ A b) (hst : St_on Inv) (x3 : Int32) (hin : ∀ j : Nat, j < 7 → vp_in (x3 + nI j) L9) (hK : ∀ (F P K G T N L S : RT) (H : Heap) (locs : List Loc) (ls : Array Slot), Inv F P K G T N L S → Hw s z A (fW z qX qP qK qN qL qG F ++ (pW z qP P ++ (pW z qK K ++ (mW z qG qT G ++ (pW z qT T ++ (nW z qN N ++ (lW z qL L ++ (sW z qS S)))))))) H locs → lv_has ls 4 [(0, .ref b), (1, .ref (qX 0)), (2, .ref (qS 0)), (3, .int x3)] → W p l e room_1 s m #[Value.ref b] below meth c H locs 50 946 (lw_Z below #[Value.ref b] s) (F0 m 1463 ls [])) (F P K G T N L S : RT) (H : Heap) (locs : List Loc) (ls : Array Slot) (hI : Inv F P K G T N L S) (hw : Hw s z A (fW z qX qP qK qN qL qG F ++ (pW z qP P ++ (pW z qK K ++ (mW z qG qT G ++ (pW z qT T ++ (nW z qN N ++ (lW z qL L ++ (sW z qS S)))))))) H locs) (hl : lv_has ls 4 [(0, .ref b), (1, .ref (qX 0)), (2, .ref (qS 0)), (3, .int x3)]) : W p l e room_1 s m #[Value.ref b] below meth c H locs 50 946 (lw_Z below #[Value.ref b] s) (F0 m 1427 ls []) := by
  obtain ⟨hx, hb, -, -, hown, hts, -, -, -, hN, hsr, -⟩ := id M
  have h := hst F P K G T N L S hI
  refine lv_aload_n hx hb dL_law_1427 rfl (lv_at hl 1 rfl) ?_
  refine frL_Vi (wN := fun u : RT × RT => (fW z qX qP qK qN qL qG u.1 ++ (pW z qP u.2 ++ (pW z qK K ++ (mW z qG qT G ++ (pW z qT T ++ (nW z qN N ++ (lW z qL L ++ (sW z qS S))))))))) M (m_X6_on l z qX qL qN qG qP qK qT F P K G T N L _ h) (cwV 0 hts (gdV cd_X6_on ml_L_183 im_X6_on se_X6_on in_X6) rfl rfl rfl hdV_X6_on ⟨(Nat.le_of_ble_eq_true rfl), (Nat.le_of_ble_eq_true rfl)⟩) cut_31 prm_31 0 rfl rfl rfl hw ⟨Nat.le_refl _, Nat.le_refl _⟩ rfl hl.1 rfl (Nat.le_of_ble_eq_true rfl) dL_law_1428 (fun r_1 u_ H locs h hw => ?_)
  obtain ⟨F_1, P_1⟩ := u_
  have hw : Hw s z A (fW z qX qP qK qN qL qG F_1 ++ (pW z qP P_1 ++ (pW z qK K ++ (mW z qG qT G ++ (pW z qT T ++ (nW z qN N ++ (lW z qL L ++ (sW z qS S)))))))) H locs := hw
  try dsimp only at h
  refine lv_aload_n hx hb dL_law_1431 rfl (lv_at hl 2 rfl) ?_
  refine frL_Vi (wN := fun u : RT => (fW z qX qP qK qN qL qG F_1 ++ (pW z qP P_1 ++ (pW z qK K ++ (mW z qG qT G ++ (pW z qT T ++ (nW z qN N ++ (lW z qL L ++ (sW z qS u))))))))) M (m_X7_on l z qS S _ h) (cwV 0 hts (gdV cd_X7_on ml_L_186 im_X7_on se_X7_on in_X7) rfl rfl rfl hdV_X7_on ⟨(Nat.le_of_ble_eq_true rfl), (Nat.le_of_ble_eq_true rfl)⟩) cut_28 prm_28 0 rfl rfl rfl hw ⟨Nat.le_refl _, Nat.le_refl _⟩ rfl hl.1 rfl (Nat.le_of_ble_eq_true rfl) dL_law_1432 (fun r_2 u_ H locs h hw => ?_)
  obtain ⟨S_2, rfl⟩ : ∃ z9 : RT, z9 = u_ := ⟨_, rfl⟩
  have hw : Hw s z A (fW z qX qP qK qN qL qG F_1 ++ (pW z qP P_1 ++ (pW z qK K ++ (mW z qG qT G ++ (pW z qT T ++ (nW z qN N ++ (lW z qL L ++ (sW z qS S_2)))))))) H locs := hw
  try dsimp only at h
  obtain ⟨er, hI⟩ := h
  subst er
  refine lv_icmp_eq (tgt := 1463) hx hb dL_law_1435 (by decide) (fun _ => ?_) (fun c9 => absurd rfl c9)
  exact hK F_1 P_1 K G T N L S_2 H locs ls hI hw hl
set_option maxHeartbeats 4000000 in
set_option maxRecDepth 100000 in
theorem lc_42 {p : Program} {l : Launch} {e : Env} {s : State} {m : MethodId} {below : List Frame} {meth : Method} {c : Code} {z : KT} {A : Nat → Prop} {b L9 : Nat} {xs : Nat → Int32} {Inv : RT → RT → RT → RT → RT → RT → RT → RT → Prop} {qX : Nat → Nat} {qS : Nat → Nat} {qL : Nat → Nat} {qN : Nat → Nat} {qG : Nat → Nat} {qP : Nat → Nat} {qK : Nat → Nat} {qT : Nat → Nat} (M : Mc p s m #[Value.ref b] meth c code 4 ret R_law z A) (hX : va_X b L9 xs s s.heap) (hbl : b < s.heap.size) (hbA : ¬ A b) (hst : St_count Inv) (x3 : Int32) (hin : ∀ j : Nat, j < 7 → vp_in (x3 + nI j) L9) (hK : ∀ (F P K G T N L S : RT) (H : Heap) (locs : List Loc) (ls : Array Slot), Inv F P K G T N L S → Hw s z A (fW z qX qP qK qN qL qG F ++ (pW z qP P ++ (pW z qK K ++ (mW z qG qT G ++ (pW z qT T ++ (nW z qN N ++ (lW z qL L ++ (sW z qS S)))))))) H locs → lv_has ls 4 [(0, .ref b), (1, .ref (qX 0)), (2, .ref (qS 0)), (3, .int x3)] → W p l e room_1 s m #[Value.ref b] below meth c H locs 50 946 (lw_Z below #[Value.ref b] s) (F0 m 1463 ls [])) (F P K G T N L S : RT) (H : Heap) (locs : List Loc) (ls : Array Slot) (hI : Inv F P K G T N L S) (hw : Hw s z A (fW z qX qP qK qN qL qG F ++ (pW z qP P ++ (pW z qK K ++ (mW z qG qT G ++ (pW z qT T ++ (nW z qN N ++ (lW z qL L ++ (sW z qS S)))))))) H locs) (hl : lv_has ls 4 [(0, .ref b), (1, .ref (qX 0)), (2, .ref (qS 0)), (3, .int x3)]) : W p l e room_1 s m #[Value.ref b] below meth c H locs 50 946 (lw_Z below #[Value.ref b] s) (F0 m 1440 ls []) := by
  obtain ⟨hx, hb, -, -, hown, hts, -, -, -, hN, hsr, -⟩ := id M
  have h := hst F P K G T N L S hI (xs (x3 + (1 : Int32)).toNatClampNeg)
  refine lv_aload_n hx hb dL_law_1440 rfl (lv_at hl 1 rfl) ?_
  refine lv_aload_n hx hb dL_law_1441 rfl (lv_at hl 0 rfl) ?_
  refine lv_iload_n hx hb dL_law_1442 rfl (lv_at hl 3 rfl) ?_
  refine lv_iconst (v := 1) hx hb dL_law_1443 (by decide) ?_
  refine lv_iadd hx hb dL_law_1444 ?_
  refine va_sld hx hb hX hbl hbA hw.2.2 (hin 1 (by decide)) dL_law_1445 ?_
  refine frL_Vi (wN := fun _ : Unit => (fW z qX qP qK qN qL qG F ++ (pW z qP P ++ (pW z qK K ++ (mW z qG qT G ++ (pW z qT T ++ (nW z qN N ++ (lW z qL L ++ (sW z qS S))))))))) M (m_X6_count l z qX qL qN qG qP qK qT F P K G T N L (xs (x3 + (1 : Int32)).toNatClampNeg) _ h) (cwV 1 hts (gdV cd_X6_count ml_L_187 im_X6_count se_X6_count in_X6) rfl rfl rfl hdV_X6_count ⟨(Nat.le_of_ble_eq_true rfl), (Nat.le_of_ble_eq_true rfl)⟩) cut_34 prm_34 0 rfl rfl rfl hw ⟨Nat.le_refl _, Nat.le_refl _⟩ rfl hl.1 rfl (Nat.le_of_ble_eq_true rfl) dL_law_1446 (fun r_1 u_ H locs h hw => ?_)
  have hw : Hw s z A (fW z qX qP qK qN qL qG F ++ (pW z qP P ++ (pW z qK K ++ (mW z qG qT G ++ (pW z qT T ++ (nW z qN N ++ (lW z qL L ++ (sW z qS S)))))))) H locs := hw
  try dsimp only at h
  refine lv_aload_n hx hb dL_law_1449 rfl (lv_at hl 2 rfl) ?_
  refine lv_aload_n hx hb dL_law_1450 rfl (lv_at hl 0 rfl) ?_
  refine lv_iload_n hx hb dL_law_1451 rfl (lv_at hl 3 rfl) ?_
  refine lv_iconst (v := 1) hx hb dL_law_1452 (by decide) ?_
  refine lv_iadd hx hb dL_law_1453 ?_
  refine va_sld hx hb hX hbl hbA hw.2.2 (hin 1 (by decide)) dL_law_1454 ?_
  refine frL_Vi (wN := fun _ : Unit => (fW z qX qP qK qN qL qG F ++ (pW z qP P ++ (pW z qK K ++ (mW z qG qT G ++ (pW z qT T ++ (nW z qN N ++ (lW z qL L ++ (sW z qS S))))))))) M (m_X7_count l z qS S (xs (x3 + (1 : Int32)).toNatClampNeg) _ h) (cwV 1 hts (gdV cd_X7_count ml_L_190 im_X7_count se_X7_count in_X7) rfl rfl rfl hdV_X7_count ⟨(Nat.le_of_ble_eq_true rfl), (Nat.le_of_ble_eq_true rfl)⟩) cut_35 prm_35 0 rfl rfl rfl hw ⟨Nat.le_refl _, Nat.le_refl _⟩ rfl hl.1 rfl (Nat.le_of_ble_eq_true rfl) dL_law_1455 (fun r_2 u_ H locs h hw => ?_)
  have hw : Hw s z A (fW z qX qP qK qN qL qG F ++ (pW z qP P ++ (pW z qK K ++ (mW z qG qT G ++ (pW z qT T ++ (nW z qN N ++ (lW z qL L ++ (sW z qS S)))))))) H locs := hw
  try dsimp only at h
  obtain ⟨er, hI⟩ := h
  subst er
  refine lv_icmp_eq (tgt := 1463) hx hb dL_law_1458 (by decide) (fun _ => ?_) (fun c9 => absurd rfl c9)
  exact hK F P K G T N L S H locs ls hI hw hl
