/-! ===== CORE 2: single instructions over the cells ===== -/
theorem Cut.none (ws : va_W) : Cut ws [] ws := ⟨[], List.range' 0 ws.length, rfl, range_get ws, rfl, va_nd_range _ 0, fun i _ h => by simp at h⟩
theorem Prm.none (ws : va_W) : Prm ws (fun _ : Unit => []) (fun _ => ws) := ⟨List.range' 0 ws.length, va_nd_range _ 0, fun _ => by rw [List.append_nil]; exact range_get ws⟩
def set2 (P : RT) (r i : Nat) (v : Int32) : RT := fun a b => if a = r then (if b = i then v else P a b) else P a b
def cpy2 (P : RT) (r : Nat) (f : Nat → Int32) (sp dp n : Nat) : RT := fun a => if a = r then va_cpy f (P a) sp dp n else P a
section INS
variable {p : Program} {l : Launch} {e : Env} {R : Room} {s : State} {m : MethodId} {args : Array Value} {below : List Frame} {meth : Method} {c : Code} {H : Heap} {locs : List Loc} {Q : State → Prop} {cc : ByteArray} {nL : Nat} {ret : Option FieldType} {own : String} {z : KT} {A : Nat → Prop} {pc : Nat} {ls : Array Slot} {rest : List Value} {ws : va_W} {a : Nat}
theorem gt_f {C ref : String} {T : u_T} {N ci index : Nat} {fs : List Value} {v : Value} (M : Mc p s m args meth c cc nL ret own z A) (hin : ∀ w ∈ u_ws C T N, w ∈ wsL_law) (hw : Hw s z A ws H locs) (q0 : Nat) (he : ws[q0]? = some (a, .inr (ci, fs))) (hc : vwCl[ci]? = some (C, T, N)) (k : Nat) (hk : k < N) (hl : Cond.fieldLink own index ref (T k).2.1 (T k).2.2.1 ∈ wsL_law) (href : (T k).1 = ref) (hv : fs[k]? = some v) (hdg : decode cc pc = .ok (.getfield index, 3))
    (kk : W p l e R s m args below meth c H locs 0 0 Q (F0 m (pc + 3) ls (v :: rest))) : W p l e R s m args below meth c H locs 0 0 Q (F0 m pc ls (.ref a :: rest)) := by
  subst href
  exact va_get M.1 M.2.1 M.2.2.2.2.2.1 hin M.2.2.2.2.1 M.2.2.2.2.2.2.2.1 hw.1 q0 he hc k hk (M.2.2.2.2.2.1 _ hl) (fun _ h => h) hv hdg kk
theorem ld_i {n : Nat} {f : Nat → Int32} {i : Int32} (M : Mc p s m args meth c cc nL ret own z A) (hw : Hw s z A ws H locs) (q0 : Nat) (ha : ws[q0]? = some (a, .inl (zI z, n, .inl f))) (hin : vp_in i n) (hdg : decode cc pc = .ok (.iaload, 1))
    (kk : W p l e R s m args below meth c H locs 0 0 Q (F0 m (pc + 1) ls (.int (f i.toNatClampNeg) :: rest))) : W p l e R s m args below meth c H locs 0 0 Q (F0 m pc ls (.int i :: .ref a :: rest)) :=
  va_iald M.1 M.2.1 M.2.2.2.2.2.2.2.1 hw.1 q0 0 ha rfl hin hdg kk
theorem al_i {n : Nat} {f : Nat → Int32} {v : Int32} (M : Mc p s m args meth c cc nL ret own z A) (hw : Hw s z A ws H locs) (q0 : Nat) (ha : ws[q0]? = some (a, .inl (zI z, n, .inl f))) (hv : Int32.ofNat n = v) (hdg : decode cc pc = .ok (.arraylength, 1))
    (kk : W p l e R s m args below meth c H locs 0 0 Q (F0 m (pc + 1) ls (.int v :: rest))) : W p l e R s m args below meth c H locs 0 0 Q (F0 m pc ls (.ref a :: rest)) :=
  va_alen M.1 M.2.1 M.2.2.2.2.2.2.2.1 hw.1 q0 0 ha rfl hv hdg kk
theorem st_i {P : RT} {r n : Nat} {f : Nat → Int32} {i x : Int32} {wN : RT → va_W} (M : Mc p s m args meth c cc nL ret own z A) (hw : Hw s z A ws H locs) (q0 : Nat) (ha : ws[q0]? = some (a, .inl (zI z, n, .inl f))) (hset : ws.set q0 (a, .inl (zI z, n, .inl (upd f i.toNatClampNeg x))) = wN (set2 P r i.toNatClampNeg x)) (hin : vp_in i n) (hdg : decode cc pc = .ok (.iastore, 1))
    (kk : ∀ (P1 : RT) (H1 : Heap) (locs1 : List Loc), P1 = set2 P r i.toNatClampNeg x → Hw s z A (wN P1) H1 locs1 → W p l e R s m args below meth c H1 locs1 0 0 Q (F0 m (pc + 1) ls rest)) : W p l e R s m args below meth c H locs 0 0 Q (F0 m pc ls (.int x :: .int i :: .ref a :: rest)) := by
  refine va_iast M.1 M.2.1 M.2.2.2.2.2.2.2.1 hw.1 hw.2.1 hw.2.2 q0 0 ha rfl hin hdg (fun H1 locs1 hP hD hS => ?_)
  rw [hset] at hP hD
  exact kk _ H1 locs1 rfl ⟨hP, hD, hS⟩
theorem st_f {C ref : String} {T : u_T} {N ci index r j : Nat} {P : RT} {fs : List Value} {x : Int32} {ty : FieldType} {ty0 : Nat → FieldType} {wN : RT → va_W} (M : Mc p s m args meth c cc nL ret own z A) (hin : ∀ w ∈ u_ws C T N, w ∈ wsL_law) (hty : ∀ k, k < N → parseFieldDescriptor (T k).2.2.1 = some (ty0 k)) (hnm : ∀ a, a < N → ∀ b, b < N → a ≠ b → (T a).2.1 ≠ (T b).2.1) (hw : Hw s z A ws H locs) (q0 : Nat) (he : ws[q0]? = some (a, .inr (ci, fs))) (hc : vwCl[ci]? = some (C, T, N)) (k : Nat) (hk : k < N) (hl : Cond.fieldLink own index ref (T k).2.1 (T k).2.2.1 ∈ wsL_law) (href : (T k).1 = ref) (hfin : (T k).2.2.2 = false) (hd : ty0 k = ty) (hn : narrow ty (.int x) = .int x) (hfit : fits ty (.int x) = true) (hlen : k < fs.length)
    (hset : ws.set q0 (a, .inr (ci, fs.set k (.int x))) = wN (set2 P r j x)) (hdg : decode cc pc = .ok (.putfield index, 3))
    (kk : ∀ (P1 : RT) (H1 : Heap) (locs1 : List Loc), P1 = set2 P r j x → Hw s z A (wN P1) H1 locs1 → W p l e R s m args below meth c H1 locs1 0 0 Q (F0 m (pc + 3) ls rest)) : W p l e R s m args below meth c H locs 0 0 Q (F0 m pc ls (.int x :: .ref a :: rest)) := by
  subst href
  refine va_put M.1 M.2.1 M.2.2.2.2.2.1 hin ty0 hty hnm M.2.2.2.2.1 M.2.2.2.2.2.2.2.1 hw.1 hw.2.1 hw.2.2 q0 he hc k hk (M.2.2.2.2.2.1 _ hl) (fun _ h => h) hfin (by rw [← hd]; exact hty k hk) hn hfit hlen hdg (fun H1 locs1 hP hD hS => ?_)
  rw [hset] at hP hD
  exact kk _ H1 locs1 rfl ⟨hP, hD, hS⟩
theorem mx_i {index : Nat} {x y : Int32} (M : Mc p s m args meth c cc nL ret own z A) (hl : Cond.methodLink own index Lib.Math.max.name ∈ wsL_law) (hsz : ls.size = nL) (hf : 1 ≤ R.frames) (hloc : (rest.map fun v => v.category).sum + 13 ≤ R.locals) (hdg : decode cc pc = .ok (.invokestatic index, 3))
    (kk : W p l e R s m args below meth c H locs 0 0 Q (F0 m (pc + 3) ls (.int (if x < y then y else x) :: rest))) : W p l e R s m args below meth c H locs 0 0 Q (F0 m pc ls (.int y :: .int x :: rest)) :=
  va_mmax M.1 M.2.1 (by rw [M.2.2.2.1, hsz]) M.2.2.2.2.1 (M.2.2.2.2.2.1 _ hl) (M.2.2.2.2.2.1 _ st_mmax) (M.2.2.2.2.2.1 _ in_Math) (M.2.2.2.2.2.1 _ cd_mmax) hf hloc (Nat.zero_le _) (Nat.zero_le _) hdg kk
theorem mn_i {index : Nat} {x y : Int32} (M : Mc p s m args meth c cc nL ret own z A) (hl : Cond.methodLink own index Lib.Math.min.name ∈ wsL_law) (hsz : ls.size = nL) (hf : 1 ≤ R.frames) (hloc : (rest.map fun v => v.category).sum + 13 ≤ R.locals) (hdg : decode cc pc = .ok (.invokestatic index, 3))
    (kk : W p l e R s m args below meth c H locs 0 0 Q (F0 m (pc + 3) ls (.int (if y < x then y else x) :: rest))) : W p l e R s m args below meth c H locs 0 0 Q (F0 m pc ls (.int y :: .int x :: rest)) :=
  va_mmin M.1 M.2.1 (by rw [M.2.2.2.1, hsz]) M.2.2.2.2.1 (M.2.2.2.2.2.1 _ hl) (M.2.2.2.2.2.1 _ st_mmin) (M.2.2.2.2.2.1 _ in_Math) (M.2.2.2.2.2.1 _ cd_mmin) hf hloc (Nat.zero_le _) (Nat.zero_le _) hdg kk
theorem ab_i {index : Nat} {x : Int32} (M : Mc p s m args meth c cc nL ret own z A) (hl : Cond.methodLink own index Lib.Math.abs.name ∈ wsL_law) (hsz : ls.size = nL) (hf : 1 ≤ R.frames) (hloc : (rest.map fun v => v.category).sum + 13 ≤ R.locals) (hdg : decode cc pc = .ok (.invokestatic index, 3))
    (kk : W p l e R s m args below meth c H locs 0 0 Q (F0 m (pc + 3) ls (.int (if 0 ≤ x then x else 0 - x) :: rest))) : W p l e R s m args below meth c H locs 0 0 Q (F0 m pc ls (.int x :: rest)) :=
  va_mabs M.1 M.2.1 (by rw [M.2.2.2.1, hsz]) M.2.2.2.2.1 (M.2.2.2.2.2.1 _ hl) (M.2.2.2.2.2.1 _ st_mabs) (M.2.2.2.2.2.1 _ in_Math) (M.2.2.2.2.2.1 _ cd_mabs) hf hloc (Nat.zero_le _) (Nat.zero_le _) hdg kk
theorem cp_i {index : Nat} {P : RT} {r n0 n1 a0 : Nat} {f g : Nat → Int32} {wN : RT → va_W} {n : Int32} (M : Mc p s m args meth c cc nL ret own z A) (hl : Cond.methodLink own index arraycopyName ∈ wsL_law) (hsz : ls.size = nL) (hw : Hw s z A ws H locs) (q0 q1 : Nat) (ha0 : ws[q0]? = some (a0, .inl (zI z, n0, .inl f))) (ha1 : ws[q1]? = some (a, .inl (zI z, n1, .inl g))) (hset : ws.set q1 (a, .inl (zI z, n1, .inl (va_cpy f g 0 0 n.toNatClampNeg))) = wN (cpy2 P r f 0 0 n.toNatClampNeg)) (h3 : ¬ n < 0 ∧ n.toNatClampNeg ≤ n0 ∧ n.toNatClampNeg ≤ n1) (hf : 1 ≤ R.frames) (hloc : (rest.map fun v => v.category).sum + (nativeFrameWords "java/lang/System" "arraycopy" 5 + 11) ≤ R.locals) (hdg : decode cc pc = .ok (.invokestatic index, 3))
    (kk : ∀ (P1 : RT) (H1 : Heap) (locs1 : List Loc), P1 = cpy2 P r f 0 0 n.toNatClampNeg → Hw s z A (wN P1) H1 locs1 → W p l e R s m args below meth c H1 locs1 0 0 Q (F0 m (pc + 3) ls rest)) : W p l e R s m args below meth c H locs 0 0 Q (F0 m pc ls (.int n :: .int 0 :: .ref a :: .int 0 :: .ref a0 :: rest)) := by
  refine va_copyi (sp := 0) (dp := 0) (ty := .int) M.1 M.2.1 (by rw [M.2.2.2.1, hsz]) M.2.2.2.2.1 (M.2.2.2.2.2.1 _ hl) (M.2.2.2.2.2.1 _ nt_arraycopy) (M.2.2.2.2.2.1 _ st_arraycopy) (M.2.2.2.2.2.1 _ in_System) M.2.2.2.2.2.2.2.1 hw.1 hw.2.1 hw.2.2 q0 q1 0 0 ha0 ha1 rfl rfl rfl (by decide) (by decide) h3.1 (by rw [sb_cl0, Nat.zero_add]; exact h3.2.1) (by rw [sb_cl0, Nat.zero_add]; exact h3.2.2) (fun i _ => rfl) hf hloc hdg (fun H1 locs1 hP hD hS => ?_)
  rw [sb_cl0, hset] at hP hD
  exact kk _ H1 locs1 rfl ⟨hP, hD, hS⟩
end INS
