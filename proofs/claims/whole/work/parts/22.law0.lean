section LawRows
variable {E : Ev} {rm : Room} {g : Gd} {A : Nat → Prop} {nL : Nat} {Q : State → Prop} {cs ss : Nat} {ws : va_W} {lv : List (Nat × Value)} {pc : Nat} {st : List Value} {own : String} {cc : ByteArray} {wl : List Cond} {ret : Option FieldType}
theorem j_sld (C : Cx E g A own cc wl nL ret) {b L : Nat} {xs : Nat → Int32} (hX : va_X b L xs (eS E) (eS E).heap) (hbl : b < (eS E).heap.size) (hbA : ¬ A b) {i : Int32} (hi : vp_in i L) (d : decode cc pc = .ok (.iaload, 1)) (kk : J E rm g A nL Q cs ss ws lv (pc + 1) (.int (xs i.toNatClampNeg) :: st)) : J E rm g A nL Q cs ss ws lv pc (.int i :: .ref b :: st) := fun H locs ls hP hD hS hl => va_sld C.hx C.hb hX hbl hbA hS hi d (kk H locs ls hP hD hS hl)
theorem j_slen (C : Cx E g A own cc wl nL ret) {b L : Nat} {xs : Nat → Int32} (hX : va_X b L xs (eS E) (eS E).heap) (hbl : b < (eS E).heap.size) (hbA : ¬ A b) (d : decode cc pc = .ok (.arraylength, 1)) (kk : J E rm g A nL Q cs ss ws lv (pc + 1) (.int (nI L) :: st)) : J E rm g A nL Q cs ss ws lv pc (.ref b :: st) := fun H locs ls hP hD hS hl => va_slen C.hx C.hb hX hbl hbA hS d (kk H locs ls hP hD hS hl)
end LawRows
set_option maxRecDepth 20000 in
theorem kcl : Cond.constantLong RL 13 4294967295 ∈ lw_tbl := by decide +kernel
theorem j_perm {E : Ev} {rm : Room} {g : Gd} {A : Nat → Prop} {nL : Nat} {Q : State → Prop} {cs ss : Nat} {ws : va_W} {lv : List (Nat × Value)} {pc : Nat} {st : List Value} (is : List Nat) (ws' : va_W) (hn : va_nd is = true) (h : is.map (fun i => ws[i]?) = ws'.map some) (k : J E rm g A nL Q cs ss ws' lv pc st) : J E rm g A nL Q cs ss ws lv pc st := fun H locs ls hP hD hS hl => k H locs ls (hP.sub is (fm_of h)) (hD.sub is hn h) hS hl
/-- the callee's cells put where they belong: at each place either what was there, or the callee's cell of that number -/
def mrg (wc : va_W) : List (Option Nat) → va_W → va_W
  | none :: sel, w :: ws => w :: mrg wc sel ws
  | some j :: sel, w :: ws => wc.getD j w :: mrg wc sel ws
  | _, ws => ws
def selOk (isC : List Nat) : List (Option Nat) → Nat → Bool
  | [], _ => true
  | none :: sel, k => !(isC.contains k) && selOk isC sel (k + 1)
  | some j :: sel, k => (isC[j]? == some k) && selOk isC sel (k + 1)
theorem mrg_get (wc : va_W) (isC : List Nat) (hl : isC.length = wc.length) : ∀ (sel : List (Option Nat)) (ws : va_W) (i : Nat), selOk isC sel i = true → sel.length = ws.length → ∀ (k : Nat) (q : Nat × va_E), (mrg wc sel ws)[k]? = some q → (∃ j : Nat, isC[j]? = some (i + k) ∧ wc[j]? = some q ∧ ∃ q0, ws[k]? = some q0) ∨ (i + k ∉ isC ∧ ws[k]? = some q) := by
  intro sel
  induction sel with
  | nil => intro ws i _ hn k q h; cases ws with
    | nil => simp [mrg] at h
    | cons w ws => cases hn
  | cons o sel ih =>
    intro ws i hs hn k q h
    cases ws with
    | nil => cases hn
    | cons w ws =>
      cases o with
      | none =>
        simp only [selOk, Bool.and_eq_true, Bool.not_eq_true'] at hs
        cases k with
        | zero =>
          refine Or.inr ⟨?_, h⟩
          intro z
          have := hs.1
          rw [Nat.add_zero] at z
          simp [z] at this
        | succ k =>
          rcases ih ws (i + 1) hs.2 (by simpa using hn) k q h with ⟨j, a, b, c⟩ | ⟨a, b⟩
          · exact Or.inl ⟨j, by rw [a]; congr 1; omega, b, c⟩
          · exact Or.inr ⟨by rw [show i + (k + 1) = i + 1 + k by omega]; exact a, b⟩
      | some j =>
        simp only [selOk, Bool.and_eq_true, beq_iff_eq] at hs
        cases k with
        | zero =>
          refine Or.inl ⟨j, hs.1, ?_, w, rfl⟩
          have hj : j < wc.length := by rw [← hl]; exact (List.getElem?_eq_some_iff.mp hs.1).1
          have h' : some (wc.getD j w) = some q := h
          rw [List.getD_eq_getElem?_getD, List.getElem?_eq_getElem hj] at h'
          rw [List.getElem?_eq_getElem hj]
          exact h'
        | succ k =>
          rcases ih ws (i + 1) hs.2 (by simpa using hn) k q h with ⟨j, a, b, c⟩ | ⟨a, b⟩
          · exact Or.inl ⟨j, by rw [a]; congr 1; omega, b, c⟩
          · exact Or.inr ⟨by rw [show i + (k + 1) = i + 1 + k by omega]; exact a, b⟩
theorem va_putAll {A0 : Nat → Prop} {D : va_G} {cl : List vw_C} {ws wc w1 : va_W} {H H1 : Heap} (hP : va_P D cl ws H) (hD : va_D A0 ws) (isC : List Nat) (sel : List (Option Nat)) (hsel : selOk isC sel 0 = true) (hsl : sel.length = ws.length) (hC : isC.map (fun i => ws[i]?) = wc.map some) (ha : w1.map Prod.fst = wc.map Prod.fst)
    (hk : ∀ q : Nat, q < H.size → ¬ va_A wc H.size q → H1[q]? = H[q]?) (hP1 : va_P D cl w1 H1) : va_P D cl (mrg w1 sel ws) H1 ∧ va_D A0 (mrg w1 sel ws) := by
  have at1 : ∀ (j i : Nat), isC[j]? = some i → ∃ c, wc[j]? = some c ∧ ws[i]? = some c := by
    intro j i hj
    have h1 : (isC.map (fun i => ws[i]?))[j]? = some (ws[i]?) := by rw [List.getElem?_map, hj]; rfl
    rw [hC, List.getElem?_map] at h1
    cases hw : wc[j]? with
    | none => rw [hw] at h1; cases h1
    | some c => rw [hw] at h1; exact ⟨c, rfl, (Option.some.inj h1).symm⟩
  have at2 : ∀ (j : Nat) (c : Nat × va_E), wc[j]? = some c → ∃ i, isC[j]? = some i ∧ ws[i]? = some c := by
    intro j c hj
    have h1 : (wc.map some)[j]? = some (some c) := by rw [List.getElem?_map, hj]; rfl
    rw [← hC, List.getElem?_map] at h1
    cases hw : isC[j]? with
    | none => rw [hw] at h1; cases h1
    | some i => rw [hw] at h1; exact ⟨i, rfl, Option.some.inj h1⟩
  have l1 : isC.length = wc.length := by have := congrArg List.length hC; simpa using this
  have l2 : w1.length = wc.length := by have := congrArg List.length ha; simpa using this
  have get := mrg_get w1 isC (by omega) sel ws 0 hsel hsl
  have ad : ∀ (k : Nat) (q : Nat × va_E), (mrg w1 sel ws)[k]? = some q → ∃ q0, ws[k]? = some q0 ∧ q0.1 = q.1 := by
    intro k q h
    rcases get k q h with ⟨j, a, b, -⟩ | ⟨a, b⟩
    · rw [Nat.zero_add] at a
      obtain ⟨c, c1, c2⟩ := at1 j k a
      refine ⟨c, c2, ?_⟩
      have h3 : (w1.map Prod.fst)[j]? = some q.1 := by rw [List.getElem?_map, b]; rfl
      rw [ha, List.getElem?_map, c1] at h3
      exact Option.some.inj h3
    · exact ⟨q, b, rfl⟩
  refine ⟨?_, ?_, ?_⟩
  · intro k q hq
    rcases get k q hq with ⟨j, a, b, -⟩ | ⟨h1, h2⟩
    · exact hP1 j q b
    · rw [Nat.zero_add] at h1
      refine (hP k q h2).kept (hk q.1 (hP k q h2).lt ?_)
      rintro (⟨j, e, hj⟩ | z)
      · obtain ⟨i, hi, hw⟩ := at2 j _ hj
        have : i = k := hD.1 i k _ _ hw h2 rfl
        exact h1 (this ▸ List.mem_of_getElem? hi)
      · exact absurd (hP k q h2).lt (Nat.not_lt.mpr z)
  · intro i j p q hp hq e
    obtain ⟨p0, a1, a2⟩ := ad i p hp
    obtain ⟨q0, b1, b2⟩ := ad j q hq
    exact hD.1 i j p0 q0 a1 b1 (a2.trans (e.trans b2.symm))
  · intro k q hq
    obtain ⟨q0, a1, a2⟩ := ad k q hq
    rw [← a2]
    exact hD.2 k q0 a1
theorem j_kvI {E : Ev} {rm : Room} {g : Gd} {A : Nat → Prop} {nL : Nat} {Q : State → Prop} {cs ss : Nat} {ws : va_W} {lv : List (Nat × Value)} {pc : Nat} {st : List Value} {own : String} {cc : ByteArray} {wl : List Cond} {ret : Option FieldType} (C : Cx E g A own cc wl nL ret) {index maxL n : Nat} {y : MethodName} {bytes : ByteArray} {ret' : Option FieldType} {wl' wl'' : List Cond} {rm' : Room} {wc wc' : va_W} {stk : List Value} {r0 : Int32} {ci b N : Nat} {Cn : String} {T : u_T} {fs : List Value} (As : List Value) (isC : List Nat) (sel : List (Option Nat)) (ws' : va_W) (hM : CtI E.2.1 g y wl' rm' (.ref b :: As) wc r0 wc') (hG : GoodIn wl (wsV own index Cn y wl')) (hw : wl' = Cond.code y bytes maxL ret' :: wl'') (hcs : rm'.cells = 0) (hss : rm'.slots = 0) (hd : y.cls = Cn ∧ y.cls ≠ "java/lang/invoke/MethodHandle" ∧ y.cls ≠ "java/lang/invoke/VarHandle" ∧ (parseMethodDescriptor y.desc).map (fun d => d.parameters.length) = some n) (hR : rm'.frames + 1 ≤ rm.frames ∧ 8 + (maxL + 11) + rm'.locals ≤ rm.locals) (hC : isC.map (fun i => ws[i]?) = wc.map some) (ha : wc'.map Prod.fst = wc.map Prod.fst) (hnC : va_nd isC = true) (hsel : selOk isC sel 0 = true) (hsl : sel.length = ws.length) (q0 : Nat) (hrc : vwCl[ci]? = some (Cn, T, N)) (hre : wc[q0]? = some (b, .inr (ci, fs))) (hws : mrg wc' sel ws = ws') (hlen : As.length = n) (hst : stk = As.reverse ++ .ref b :: st) (hroom : (st.map fun v => v.category).sum ≤ 8) (hcc : cs ≤ rm.cells ∧ ss ≤ rm.slots) (d : decode cc pc = .ok (.invokevirtual index, 3)) (kk : J E rm g A nL Q cs ss ws' lv (pc + 3) (.int r0 :: st)) : J E rm g A nL Q cs ss ws lv pc stk := by
  subst hst
  intro H locs ls hP hD hS hl
  have hPc := hP.sub (ws' := wc) isC (fm_of hC)
  have hDc := hD.sub (ws' := wc) isC hnC hC
  have hFc := va_free (wc := wc) hD hS C.hA isC hC
  refine va_calli (va_runV (As := As) (rest := st) ⟨C.hx, C.hb, C.hm, C.ho, C.ht⟩ (hM H.size) (cwV n C.ht hG hw hcs hss hd hR) ⟨fun a U g9 mk q => by obtain ⟨q0, q1, qP, qK, qD, qS⟩ := q; exact ⟨q0, q1, qP, va_K.moved (u := U) (U := U.calling g9 mk a) (Vm.Alike.refl U.vm) qK, qD, qS.calling⟩, va_recv C.hK hPc hrc hre, fun U hU hW => ⟨rfl, by rw [hU], by rw [hU]; exact hPc, va_K.moved hW.alike C.hK, hDc.weaken (fun _ _ _ _ => trivial), SX.step C.hS hS hU hW hFc⟩⟩ rfl hlen hl.1 rfl (lv_room hroom) d hcc) hS (fun q _ h => hFc q h) hFc (fun r u t H1 locs1 ht hvm hw1 hB hz1 hk1 hS1 => ?_)
  obtain ⟨hP1, hK1, hD1⟩ := hB
  rw [ht] at hP1
  obtain ⟨hP2, hD2⟩ := va_putAll hP hD isC sel hsel hsl hC ha hk1 hP1
  subst hw1
  subst hws
  exact kk H1 locs1 ls hP2 hD2 hS1 hl
