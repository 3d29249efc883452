section NewRows
variable {E : Ev} {rm : Room} {g : Gd} {A : Nat → Prop} {nL : Nat} {Q : State → Prop} {cs ss : Nat} {ws : va_W} {lv : List (Nat × Value)} {pc : Nat} {st : List Value} {own : String} {cc : ByteArray} {wl : List Cond} {ret : Option FieldType}
theorem ra_uniq {s : State} {c1 c2 : ClassId} {ty : FieldType} (h1 : va_RA s c1 ty) (h2 : va_RA s c2 ty) : c1 = c2 := by
  cases ty with
  | object C =>
    obtain ⟨_, _, _, _, _, e1⟩ := h1
    obtain ⟨_, _, _, _, _, e2⟩ := h2
    exact Option.some.inj (e1.symm.trans e2)
  | _ => exact Option.some.inj (Eq.trans (Eq.symm h1) h2)
theorem j_ws (ws' : va_W) (h : ws = ws') (k : J E rm g A nL Q cs ss ws' lv pc st) : J E rm g A nL Q cs ss ws lv pc st := h ▸ k
theorem j_cs (cs' ss' : Nat) (h1 : cs = cs') (h2 : ss = ss') (k : J E rm g A nL Q cs' ss' ws lv pc st) : J E rm g A nL Q cs ss ws lv pc st := h1 ▸ h2 ▸ k
theorem j_wide (cs' ss' : Nat) (h1 : cs ≤ cs') (h2 : ss ≤ ss') (k : J E rm g A nL Q cs' ss' ws lv pc st) : J E rm g A nL Q cs ss ws lv pc st := fun H locs ls hP hD hS hl => W.widen h1 h2 (k H locs ls hP hD hS hl)
theorem j_objinit (C : Cx E g A own cc wl nL ret) {index a : Nat} (h1 : Cond.methodLink own index objectInit ∈ wl) (h2 : Cond.instanceMethod objectInit ∈ wl) (h3 : Cond.code objectInit ⟨#[0xb1]⟩ 1 none ∈ wl) (hfr : 1 ≤ rm.frames) (hlo : ∀ ls : Array Slot, 2 * (F0 (eM E) pc ls (.ref a :: st)).monitorRoom + (st.map fun v => v.category).sum + 12 ≤ rm.locals) (d : decode cc pc = .ok (.invokespecial index, 3)) (kk : J E rm g A nL Q cs ss ws lv (pc + 3) st) : J E rm g A nL Q cs ss ws lv pc (.ref a :: st) := by
  intro H locs ls hP hD hS hl
  refine W.objInit C.hx C.hb C.ho (C.ht _ h1) (C.ht _ h2) (C.ht _ h3) rfl (by rw [C.hm]; exact hl.1) rfl d hfr (hlo ls) ?_
  exact W.eq (g2 := F0 (eM E) (pc + 3) ls st) rfl (kk H locs ls hP hD hS hl)
theorem j_new (C : Cx E g A own cc wl nL ret) {index ci N : Nat} {Cn : String} {T : u_T} {ty0 : Nat → FieldType} (fs : List Value) (hin : ∀ w ∈ u_ws Cn T N, w ∈ wl) (hty : ∀ k, k < N → parseFieldDescriptor (T k).2.2.1 = some (ty0 k)) (h1 : Cond.classLink own index Cn ∈ wl) (h2 : Cond.instantiable Cn N ∈ wl) (h3 : Cond.initialized Cn ∈ wl) (hc : vwCl[ci]? = some (Cn, T, N)) (hfs : ∀ j, j < N → defaultValue (ty0 j) = vp_V fs j) (hcs : cs + 1 ≤ rm.cells) (hss : ss + N ≤ rm.slots) (d : decode cc pc = .ok (.new index, 3)) (kk : ∀ q : Nat, J E rm g A nL Q (cs + 1) (ss + N) (ws ++ [(q, .inr (ci, fs))]) lv (pc + 3) (.ref q :: st)) : J E rm g A nL Q cs ss ws lv pc st := fun H locs ls hP hD hS hl => va_new C.hx C.hb C.ht hin ty0 hty C.ho (C.ht _ h1) (C.ht _ h2) (C.ht _ h3) C.hK hP hD hS C.hA hc hfs hcs hss d (fun q H1 hP1 hD1 hS1 => kk q H1 locs ls hP1 hD1 hS1 hl)
theorem j_newa (C : Cx E g A own cc wl nL ret) {atype : ArrayType} {n : Int32} {N' t : Nat} {ty : FieldType} {a0 : vp_A} (harr : Cond.arrayClass ty ∈ wl) (hty : newarray.typeOf atype = ty) (ht : (tysG g)[t]? = some (g.2.1 t, ty)) (ha : ∀ cA : ClassId, vp_cell cA a0 = arrV cA N' (fun _ => defaultValue ty)) (hn : ¬ n < 0) (hN : n.toNatClampNeg = N') (hbytes : N' * componentBytes ty ≤ 536870912) (hcs : cs + 1 ≤ rm.cells) (hss : ss + N' ≤ rm.slots) (d : decode cc pc = .ok (.newarray atype, 2)) (kk : ∀ q : Nat, J E rm g A nL Q (cs + 1) (ss + N') (ws ++ [(q, .inl (g.2.1 t, a0))]) lv (pc + 2) (.ref q :: st)) : J E rm g A nL Q cs ss ws lv pc (.int n :: st) := by
  intro H locs ls hP hD hS hl
  refine va_newa C.hx C.hb (by rw [hty]; exact C.ht _ harr) hty C.hK hP hD hS C.hA ha hn hN hbytes hcs hss d (fun q cA H1 hK1 hP1 hD1 hS1 => ?_)
  have e : cA = g.2.1 t := ra_uniq (hK1.2 5 _ rfl).2 (C.hK.2 t _ ht).2
  subst e
  exact kk q H1 locs ls hP1 hD1 hS1 hl
theorem j_newq (C : Cx E g A own cc wl nL ret) {index : Nat} {n : Int32} {N' t : Nat} {Cn : String} (hcl : Cond.classLink own index Cn ∈ wl) (hao : va_AO Cn (eS E)) (ht : (tysG g)[t]? = some (g.2.1 t, .object Cn)) (hn : ¬ n < 0) (hN : n.toNatClampNeg = N') (hbytes : N' * 4 ≤ 536870912) (hcs : cs + 1 ≤ rm.cells) (hss : ss + N' ≤ rm.slots) (d : decode cc pc = .ok (.anewarray index, 3)) (kk : ∀ q : Nat, J E rm g A nL Q (cs + 1) (ss + N') (ws ++ [(q, .inl (g.2.1 t, N', .inr (.inr (.inr (.inr (fun _ => none))))))]) lv (pc + 3) (.ref q :: st)) : J E rm g A nL Q cs ss ws lv pc (.int n :: st) := by
  intro H locs ls hP hD hS hl
  refine va_newq C.hx C.hb C.ho (C.ht _ hcl) hao C.hK hP hD hS C.hA hn hN hbytes hcs hss d (fun q cA H1 hK1 hP1 hD1 hS1 => ?_)
  have e : cA = g.2.1 t := ra_uniq (hK1.2 5 _ rfl).2 (C.hK.2 t _ ht).2
  subst e
  exact kk q H1 locs ls hP1 hD1 hS1 hl
theorem j_aast (C : Cx E g A own cc wl nL ret) {a n v t ci : Nat} {r : vw_C} {vs : List Value} {f : Nat → Option Nat} {i : Int32} (q0 qk : Nat) (ws' : va_W) (ha : ws[q0]? = some (a, .inl (g.2.1 t, n, .inr (.inr (.inr (.inr f)))))) (ht : (tysG g)[t]? = some (g.2.1 t, .object r.1)) (hv : ws[qk]? = some (v, .inr (ci, vs))) (hc : vwCl[ci]? = some r) (hi : vp_in i n) (hw : ws.set q0 (a, .inl (g.2.1 t, n, .inr (.inr (.inr (.inr (va_up f i.toNatClampNeg (some v))))))) = ws') (d : decode cc pc = .ok (.aastore, 1)) (kk : J E rm g A nL Q cs ss ws' lv (pc + 1) st) : J E rm g A nL Q cs ss ws lv pc (.ref v :: .int i :: .ref a :: st) := fun H locs ls hP hD hS hl => va_astq C.hx C.hb C.hK hP hD hS q0 t qk ci ha ht hv hc hi d (fun H1 locs1 hP1 hD1 hS1 => kk H1 locs1 ls (hw ▸ hP1) (hw ▸ hD1) hS1 hl)
theorem j_aastO (C : Cx E g A own cc wl nL ret) {a n v t ci : Nat} {En : String} {r : vw_C} {vs : List Value} {f : Nat → Option Nat} {i : Int32} (q0 qk : Nat) (ws' : va_W) (ha : ws[q0]? = some (a, .inl (g.2.1 t, n, .inr (.inr (.inr (.inr f)))))) (ht : (tysG g)[t]? = some (g.2.1 t, .object En)) (hq : (r.1, En) ∈ sxY) (hv : ws[qk]? = some (v, .inr (ci, vs))) (hc : vwCl[ci]? = some r) (hi : vp_in i n) (hw : ws.set q0 (a, .inl (g.2.1 t, n, .inr (.inr (.inr (.inr (va_up f i.toNatClampNeg (some v))))))) = ws') (d : decode cc pc = .ok (.aastore, 1)) (kk : J E rm g A nL Q cs ss ws' lv (pc + 1) st) : J E rm g A nL Q cs ss ws lv pc (.ref v :: .int i :: .ref a :: st) := fun H locs ls hP hD hS hl => va_astqO C.hx C.hb C.hK hP hD hS q0 t qk ci ha ht (C.hS.2.2.2.2.1 _ hq) hv hc hi d (fun H1 locs1 hP1 hD1 hS1 => kk H1 locs1 ls (hw ▸ hP1) (hw ▸ hD1) hS1 hl)
/-- contracts of methods that make cells: the world behind is one of those that P9 tells -/
def CtN (l : Launch) (g : Gd) (y : MethodName) (wl : List Cond) (rm : Room) (av : List Value) (ws : va_W) (P9 : va_W → Prop) (mc ms : Nat) : Prop := ∀ sz : Nat, Met l y wl rm (PreW g av ws sz) (va_Qv (S := va_W) P9 (fun w t => va_P g.1 vwCl w t.heap ∧ va_K g.1 vwCl (tysG g) t ∧ va_D (va_A ws sz) w) (va_A ws sz)) mc ms (va_A ws sz)
def QN (E : Ev) (g : Gd) (A : Nat → Prop) (P9 : va_W → Prop) (cs ss : Nat) : State → Prop := MQ (eB E) (va_Qv (S := va_W) P9 (fun w t => va_P g.1 vwCl w t.heap ∧ va_K g.1 vwCl (tysG g) t ∧ va_D A w) A) (eA E) (eS E) cs ss A
theorem j_vretN (C : Cx E g A own cc wl nL none) {P9 : va_W → Prop} (d : decode cc pc = .ok (.return_, 1)) (h : P9 ws) : J E rm g A nL (QN E g A P9 cs ss) cs ss ws lv pc [] := fun H locs ls hP hD hS hl => W.vret C.hx C.hb C.hr (fun t ht hW => ⟨⟨ws, rfl, h, by rw [ht]; exact hP, va_K.moved hW.alike C.hK, hD⟩, hS.F ht⟩) hS.2.2 d C.hl
theorem CtN.of {l : Launch} {g : Gd} {y : MethodName} {wl wl' : List Cond} {rm : Room} {av : List Value} {ws : va_W} {P9 : va_W → Prop} {mc ms : Nat} {own : String} {cc : ByteArray} {nL : Nat} {ret : Option FieldType} (hy : plainName y.cls = true) (hc : y.cls = own) (hw : wl = Cond.code y cc nL ret :: wl') (hn : (lg_sl av).length ≤ nL)
    (body : ∀ (E : Ev) (A : Nat → Prop), E.2.1 = l → (eH E).name = y.name → Cx E g A own cc wl nL ret → J E rm g A nL (QN E g A P9 mc ms) 0 0 ws (lv_args 0 av) 0 []) : CtN l g y wl rm av ws P9 mc ms := by
  intro sz
  refine Met.ofW (cc := cc) (maxL := nL) (ret := ret) hy hw ?_
  intro p e s m args below meth c s₁ B hml hv
  obtain ⟨rfl, hsz, hP, hK, hD0, hX⟩ := hv
  subst hsz
  have hown : s.vm.findClass own = some m.cls := by rw [← hc]; exact findClass_of_methodNamed B.named
  have hts := atoms_spec (ws := wl) B.pre
  have hl := lv_entry av (n := nL) hn
  rw [lg_entry_eq]
  exact body (p, l, e, s, m, av.toArray, below, meth, c) (va_A ws s.heap.size) rfl (name_of_methodNamed B.named B.method).1 ⟨B.exec, B.bytes, hown, hts, hK, hml, fun q h => Or.inr h, B.returns, B.notSynchronized, hX⟩ s.heap [] _ hP (hD0.self (sz := s.heap.size)) va_S.rf hl
theorem j_ciN (C : Cx E g A own cc wl nL ret) {index maxL n mc ms b : Nat} {y : MethodName} {bytes : ByteArray} {wl' wl'' : List Cond} {rm' : Room} {wc : va_W} {P9 : va_W → Prop} {stk : List Value} (As : List Value) (isC isR : List Nat) (hM : CtN E.2.1 g y wl' rm' (.ref b :: As) wc P9 mc ms) (hG : GoodIn wl wl') (hw : wl' = Cond.code y bytes maxL none :: wl'') (hcs : rm'.cells = mc) (hss : rm'.slots = ms) (hini : Cond.initialized y.cls ∈ wl) (hl0 : Cond.methodLink own index y ∈ wl) (hinst : Cond.instanceMethod y ∈ wl) (hy : y.name = "<init>") (hd : y.cls ≠ "java/lang/invoke/MethodHandle" ∧ y.cls ≠ "java/lang/invoke/VarHandle" ∧ (parseMethodDescriptor y.desc).map (fun d => d.parameters.length) = some n) (hR : rm'.frames + 1 ≤ rm.frames ∧ 8 + (maxL + 11) + rm'.locals ≤ rm.locals) (hC : isC.map (fun i => ws[i]?) = wc.map some) (hRb : (isR.map (fun i => ws[i]?)).all Option.isSome = true) (hnC : va_nd isC = true) (hnR : va_nd isR = true) (hdis : ∀ i ∈ isR, i ∉ isC) (hlen : As.length = n) (hst : stk = As.reverse ++ .ref b :: st) (hroom : (st.map fun v => v.category).sum ≤ 8) (hcc : cs + mc ≤ rm.cells ∧ ss + ms ≤ rm.slots) (d : decode cc pc = .ok (.invokespecial index, 3)) (kk : ∀ w : va_W, P9 w → J E rm g A nL Q (cs + mc) (ss + ms) ((isR.filterMap (fun i => ws[i]?)) ++ w) lv (pc + 3) st) : J E rm g A nL Q cs ss ws lv pc stk := by
  subst hst
  intro H locs ls hP hD hS hl
  have hPc := hP.sub (ws' := wc) isC (fm_of hC)
  have hDc := hD.sub (ws' := wc) isC hnC hC
  have hFc := va_free (wc := wc) hD hS C.hA isC hC
  refine va_callv (va_runI (As := As) (rest := st) ⟨C.hx, C.hb, C.hm, C.ho, C.ht⟩ (hM H.size) (cwI n C.ht hG hw hcs hss (C.ht _ hini) (C.ht _ hl0) (C.ht _ hinst) hy hd hR) ⟨fun a U g9 mk q => by obtain ⟨q0, q1, qP, qK, qD, qS⟩ := q; exact ⟨q0, q1, qP, va_K.moved (u := U) (U := U.calling g9 mk a) (Vm.Alike.refl U.vm) qK, qD, qS.calling⟩, fun U hU hW => ⟨rfl, by rw [hU], by rw [hU]; exact hPc, va_K.moved hW.alike C.hK, hDc.weaken (fun _ _ _ _ => trivial), SX.step C.hS hS hU hW hFc⟩⟩ rfl hlen hl.1 rfl (lv_room hroom) d hcc) hS (fun q _ h => hFc q h) hFc (fun u t H1 locs1 ht hvm hw1 hB hz1 hk1 hS1 => ?_)
  obtain ⟨hP1, hK1, hD1⟩ := hB
  rw [ht] at hP1
  obtain ⟨hP2, hD2⟩ := va_join hP hD isC isR hC (mapfm hRb) hnR hdis hk1 hFc hP1 hD1
  exact kk u hw1 H1 locs1 ls hP2 hD2 hS1 hl
theorem j_cnN (C : Cx E g A own cc wl nL ret) {index maxL n mc ms b : Nat} {host : String} {y : MethodName} {bytes : ByteArray} {wl' wl'' : List Cond} {rm' : Room} {wc : va_W} {P9 : va_W → Prop} {stk : List Value} (As : List Value) (isC isR : List Nat) (hM : CtN E.2.1 g y wl' rm' (.ref b :: As) wc P9 mc ms) (hG : GoodIn wl wl') (hw : wl' = Cond.code y bytes maxL none :: wl'') (hcs : rm'.cells = mc) (hss : rm'.slots = ms) (hini : Cond.initialized y.cls ∈ wl) (hq : (own, index, y, host) ∈ sxM) (hinst : Cond.instanceMethod y ∈ wl) (hy : y.name = "<init>") (hd : y.cls ≠ "java/lang/invoke/MethodHandle" ∧ y.cls ≠ "java/lang/invoke/VarHandle" ∧ (parseMethodDescriptor y.desc).map (fun d => d.parameters.length) = some n) (hR : rm'.frames + 1 ≤ rm.frames ∧ 8 + (maxL + 11) + rm'.locals ≤ rm.locals) (hC : isC.map (fun i => ws[i]?) = wc.map some) (hRb : (isR.map (fun i => ws[i]?)).all Option.isSome = true) (hnC : va_nd isC = true) (hnR : va_nd isR = true) (hdis : ∀ i ∈ isR, i ∉ isC) (hlen : As.length = n) (hst : stk = As.reverse ++ .ref b :: st) (hroom : (st.map fun v => v.category).sum ≤ 8) (hcc : cs + mc ≤ rm.cells ∧ ss + ms ≤ rm.slots) (d : decode cc pc = .ok (.invokespecial index, 3)) (kk : ∀ w : va_W, P9 w → J E rm g A nL Q (cs + mc) (ss + ms) ((isR.filterMap (fun i => ws[i]?)) ++ w) lv (pc + 3) st) : J E rm g A nL Q cs ss ws lv pc stk := by
  subst hst
  intro H locs ls hP hD hS hl
  have hPc := hP.sub (ws' := wc) isC (fm_of hC)
  have hDc := hD.sub (ws' := wc) isC hnC hC
  have hFc := va_free (wc := wc) hD hS C.hA isC hC
  refine va_callv (va_runIN (As := As) (rest := st) (host := host) ⟨C.hx, C.hb, C.hm, C.ho, C.ht⟩ (hM H.size) ⟨va_cnB n C.ht hG hw hcs hss (C.hS.2.2.2.2.2.2.2.1 _ hq) (C.ht _ hini) hd hR, hy, C.ht _ hinst⟩ ⟨fun a U g9 mk q => by obtain ⟨q0, q1, qP, qK, qD, qS⟩ := q; exact ⟨q0, q1, qP, va_K.moved (u := U) (U := U.calling g9 mk a) (Vm.Alike.refl U.vm) qK, qD, qS.calling⟩, fun U hU hW => ⟨rfl, by rw [hU], by rw [hU]; exact hPc, va_K.moved hW.alike C.hK, hDc.weaken (fun _ _ _ _ => trivial), SX.step C.hS hS hU hW hFc⟩⟩ rfl hlen hl.1 rfl (lv_room hroom) d hcc) hS (fun q _ h => hFc q h) hFc (fun u t H1 locs1 ht hvm hw1 hB hz1 hk1 hS1 => ?_)
  obtain ⟨hP1, hK1, hD1⟩ := hB
  rw [ht] at hP1
  obtain ⟨hP2, hD2⟩ := va_join hP hD isC isR hC (mapfm hRb) hnR hdis hk1 hFc hP1 hD1
  exact kk u hw1 H1 locs1 ls hP2 hD2 hS1 hl
end NewRows
