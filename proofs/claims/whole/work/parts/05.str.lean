section StrRows
variable {E : Ev} {rm : Room} {g : Gd} {A : Nat → Prop} {nL : Nat} {Q : State → Prop} {cs ss : Nat} {ws : va_W} {lv : List (Nat × Value)} {pc : Nat} {st : List Value} {own : String} {cc : ByteArray} {wl : List Cond} {ret : Option FieldType}
theorem j_ldcS (C : Cx E g A "ShutWays$Text" cc wl nL ret) {index : Nat} (k : Nat) (hk : k < 11) (hi : (sxI.getD k (0, "")).1 = index) (d : decode cc pc = .ok (.ldc index, 2)) (kk : J E rm g A nL Q cs ss ws lv (pc + 2) (.ref (g.2.2.1 k) :: st)) : J E rm g A nL Q cs ss ws lv pc st := by
  subst hi
  exact fun H locs ls hP hD hS hl => va_ldcS C.hx C.hb C.ho (C.hS.2.1 k hk) d (kk H locs ls hP hD hS hl)
theorem j_gets (C : Cx E g A own cc wl nL ret) {index : Nat} {Cn n dd ref : String} {v : Value} (hZ : va_Z Cn n dd v A (eS E) (eS E).heap) (hl0 : Cond.fieldLink own index ref n dd ∈ wl) (hr : Cn = ref) (d : decode cc pc = .ok (.getstatic index, 3)) (kk : J E rm g A nL Q cs ss ws lv (pc + 3) (v :: st)) : J E rm g A nL Q cs ss ws lv pc st := fun H locs ls hP hD hS hl => va_gets C.hx C.hb hZ hS C.ho (C.ht _ hl0) (fun x h => hr ▸ h) d (kk H locs ls hP hD hS hl)
theorem j_getS (C : Cx E g A own cc wl nL ret) {index q : Nat} {o n dd ref : String} {v : Value} (hE : va_OF o n dd v q A (eS E) (eS E).heap) (hl0 : Cond.fieldLink own index ref n dd ∈ wl) (hr : o = ref) (d : decode cc pc = .ok (.getfield index, 3)) (kk : J E rm g A nL Q cs ss ws lv (pc + 3) (v :: st)) : J E rm g A nL Q cs ss ws lv pc (.ref q :: st) := fun H locs ls hP hD hS hl => vk_getf C.hx C.hb hE hS C.ho (C.ht _ hl0) (fun x h => hr ▸ h) d (kk H locs ls hP hD hS hl)
theorem j_tlen (C : Cx E g A own cc wl nL ret) {ty : FieldType} {t N : Nat} {f : Nat → Value} (hT : va_T ty t N f A (eS E) (eS E).heap) (d : decode cc pc = .ok (.arraylength, 1)) (kk : J E rm g A nL Q cs ss ws lv (pc + 1) (.int (nI N) :: st)) : J E rm g A nL Q cs ss ws lv pc (.ref t :: st) := fun H locs ls hP hD hS hl => va_tlen C.hx C.hb hT hS rfl d (kk H locs ls hP hD hS hl)
theorem j_tb (C : Cx E g A own cc wl nL ret) {t N : Nat} {f : Nat → Value} {i : Int32} {v : Value} (hT : va_T .byte t N f A (eS E) (eS E).heap) (hi : vp_in i N) (hv : f i.toNatClampNeg = v) (d : decode cc pc = .ok (.baload, 1)) (kk : J E rm g A nL Q cs ss ws lv (pc + 1) (v :: st)) : J E rm g A nL Q cs ss ws lv pc (.int i :: .ref t :: st) := fun H locs ls hP hD hS hl => va_tb C.hx C.hb hT hS hi hv d (kk H locs ls hP hD hS hl)
theorem j_i2c (C : Cx E g A own cc wl nL ret) {x : Int32} (d : decode cc pc = .ok (.i2c, 1)) (k : J E rm g A nL Q cs ss ws lv (pc + 1) (.int (x.toUInt32 % 65536).toInt32 :: st)) : J E rm g A nL Q cs ss ws lv pc (.int x :: st) := fun H locs ls hP hD hS hl => lv_i2c C.hx C.hb d rfl (k H locs ls hP hD hS hl)
theorem j_nret {ty : FieldType} (C : Cx E g A own cc wl nL (some ty)) {v r0 : Int32} {wsE : va_W} (d : decode cc pc = .ok (.ireturn, 1)) (hn : narrow ty (.int v) = .int v) (hv : v = r0) (hw : ws = wsE) : J E rm g A nL (QI E g A r0 wsE cs ss) cs ss ws lv pc [.int v] := fun H locs ls hP hD hS hl => W.zret C.hx C.hb C.hr hn (fun t ht hW => ⟨⟨v, (), rfl, hv, by rw [ht, ← hw]; exact hP, va_K.moved hW.alike C.hK, hw ▸ hD⟩, hS.F ht⟩) hS.2.2 d C.hl
theorem j_instS (C : Cx E g A own cc wl nL ret) {index ci a N : Nat} {Cn : String} {T : u_T} {fs : List Value} (q0 : Nat) (hl0 : Cond.classLink own index Cn ∈ wl) (he : ws[q0]? = some (a, .inr (ci, fs))) (hc : vwCl[ci]? = some (Cn, T, N)) (d : decode cc pc = .ok (.instanceof index, 3)) (kk : J E rm g A nL Q cs ss ws lv (pc + 3) (.int 1 :: st)) : J E rm g A nL Q cs ss ws lv pc (.ref a :: st) := fun H locs ls hP hD hS hl => va_instS C.hx C.hb C.ho (C.ht _ hl0) (C.hK.1 ci _ hc).2 (va_recv C.hK hP hc he) d (kk H locs ls hP hD hS hl)
theorem j_instY (C : Cx E g A own cc wl nL ret) {index ci a N : Nat} {Cn nm : String} {T : u_T} {fs : List Value} (q0 : Nat) (hl0 : Cond.classLink own index nm ∈ wl) (he : ws[q0]? = some (a, .inr (ci, fs))) (hc : vwCl[ci]? = some (Cn, T, N)) (hq : (Cn, nm) ∈ sxY) (d : decode cc pc = .ok (.instanceof index, 3)) (kk : J E rm g A nL Q cs ss ws lv (pc + 3) (.int 1 :: st)) : J E rm g A nL Q cs ss ws lv pc (.ref a :: st) := fun H locs ls hP hD hS hl => va_instY C.hx C.hb C.ho (C.ht _ hl0) (C.hS.2.2.2.2.1 _ hq) (va_recv C.hK hP hc he) d (kk H locs ls hP hD hS hl)
theorem j_instN (C : Cx E g A own cc wl nL ret) {index ci a N : Nat} {Cn nm : String} {T : u_T} {fs : List Value} (q0 : Nat) (hl0 : Cond.classLink own index nm ∈ wl) (he : ws[q0]? = some (a, .inr (ci, fs))) (hc : vwCl[ci]? = some (Cn, T, N)) (hq : (Cn, nm) ∈ sxN) (d : decode cc pc = .ok (.instanceof index, 3)) (kk : J E rm g A nL Q cs ss ws lv (pc + 3) (.int 0 :: st)) : J E rm g A nL Q cs ss ws lv pc (.ref a :: st) := fun H locs ls hP hD hS hl => va_instNo C.hx C.hb C.ho (C.ht _ hl0) (C.hS.2.2.2.2.2.1 _ hq) (va_recv C.hK hP hc he) d (kk H locs ls hP hD hS hl)
end StrRows
/-- the char at i of the constant text k -/
def sch (k : Nat) (i : Int32) : Int32 := ((((bytS.getD k []).getD i.toNatClampNeg 0) &&& 255).toUInt32 % 65536).toInt32
abbrev rmS0 : Room := { frames := 0, cells := 0, slots := 0, locals := 0 }
abbrev rmS1 : Room := { frames := 1, cells := 0, slots := 0, locals := 20 }
abbrev rmS2 : Room := { frames := 1, cells := 0, slots := 0, locals := 22 }
abbrev rmS3 : Room := { frames := 2, cells := 0, slots := 0, locals := 43 }
abbrev rmS4 : Room := { frames := 3, cells := 0, slots := 0, locals := 64 }
theorem cs_coder (l : Launch) (g : Gd) (k : Nat) (hk : k < 11) : CtI l g yJ0_coder_7d493 wsJ0_coder_7d493 rmS0 [.ref (g.2.2.1 k)] [] 0 [] := by
  refine CtI.of (by decide) rfl rfl (Nat.le_of_ble_eq_true rfl) (fun E A _ C => ?_)
  show J E rmS0 g A 1 (QI E g A 0 [] 0 0) 0 0 [] [(0, .ref (g.2.2.1 k))] 0 []
  refine j_gets C C.hS.2.2.1 (by decide +kernel) rfl dJ0_coder_7d493_0 ?_
  refine j_if_eq C 13 dJ0_coder_7d493_3 (by decide) (fun c => absurd c (by decide)) (fun _ => ?_)
  refine j_aload_n C 0 dJ0_coder_7d493_6 rfl rfl ?_
  refine j_getS C (C.hS.1.1 k hk).2.1 (by decide +kernel) rfl dJ0_coder_7d493_7 ?_
  refine j_goto C 14 dJ0_coder_7d493_10 (by decide) ?_
  exact j_nret C dJ0_coder_7d493_14 rfl rfl rfl
theorem cs_length (l : Launch) (g : Gd) (k : Nat) (hk : k < 11) : CtI l g yJ0_length_8abf5 wsJ0_length_8abf5 rmS1 [.ref (g.2.2.1 k)] [] (nI (lenS.getD k 0)) [] := by
  refine CtI.of (by decide) rfl rfl (Nat.le_of_ble_eq_true rfl) (fun E A _ C => ?_)
  show J E rmS1 g A 1 (QI E g A (nI (lenS.getD k 0)) [] 0 0) 0 0 [] [(0, .ref (g.2.2.1 k))] 0 []
  refine j_aload_n C 0 dJ0_length_8abf5_0 rfl rfl ?_
  refine j_getS C (C.hS.1.1 k hk).2.2.1 (by decide +kernel) rfl dJ0_length_8abf5_1 ?_
  refine j_tlen C (C.hS.1.1 k hk).2.2.2 dJ0_length_8abf5_4 ?_
  refine j_aload_n C 0 dJ0_length_8abf5_5 rfl rfl ?_
  refine j_ctI C (n := 0) k hk [] [] [] [] [] (cs_coder E.2.1 g k hk) gJ0_length_8abf5_J0_coder_7d493 rfl rfl rfl (by decide +kernel) ⟨Nat.le_of_ble_eq_true rfl, Nat.le_of_ble_eq_true rfl⟩ rfl rfl (by decide) (by decide) (by decide) (by decide) rfl rfl rfl (Nat.le_of_ble_eq_true rfl) ⟨Nat.zero_le _, Nat.zero_le _⟩ dJ0_length_8abf5_6 ?_
  refine j_ishr C dJ0_length_8abf5_9 ?_
  exact j_iret C dJ0_length_8abf5_10 (sb_shr0 _) rfl
theorem cs_latin (l : Launch) (g : Gd) (k : Nat) (hk : k < 11) : CtI l g yJ0_isLatin1_aae02 wsJ0_isLatin1_aae02 rmS0 [.ref (g.2.2.1 k)] [] 1 [] := by
  refine CtI.of (by decide) rfl rfl (Nat.le_of_ble_eq_true rfl) (fun E A _ C => ?_)
  show J E rmS0 g A 1 (QI E g A 1 [] 0 0) 0 0 [] [(0, .ref (g.2.2.1 k))] 0 []
  refine j_gets C C.hS.2.2.1 (by decide +kernel) rfl dJ0_isLatin1_aae02_0 ?_
  refine j_if_eq C 17 dJ0_isLatin1_aae02_3 (by decide) (fun c => absurd c (by decide)) (fun _ => ?_)
  refine j_aload_n C 0 dJ0_isLatin1_aae02_6 rfl rfl ?_
  refine j_getS C (C.hS.1.1 k hk).2.1 (by decide +kernel) rfl dJ0_isLatin1_aae02_7 ?_
  refine j_if_ne C 17 dJ0_isLatin1_aae02_10 (by decide) (fun c => absurd rfl c) (fun _ => ?_)
  refine j_iconst C dJ0_isLatin1_aae02_13 (v := 1) (by decide) ?_
  refine j_goto C 18 dJ0_isLatin1_aae02_14 (by decide) ?_
  exact j_zret C dJ0_isLatin1_aae02_18 (Or.inr rfl) rfl rfl
theorem cs_pre (l : Launch) (g : Gd) {i n : Int32} (h0 : ¬ i < 0) (h1 : i < n) (v : Value) (hv : v = .null ∨ ∃ a, v = .ref a) : CtI l g yJ3_checkIndex_8e157 wsJ3_checkIndex_8e157 rmS0 [.int i, .int n, v] [] i [] := by
  have key : ∀ (E : Ev) (A : Nat → Prop), Cx E g A RJ3 cJ3_checkIndex_8e157 wsJ3_checkIndex_8e157 3 (some .int) → J E rmS0 g A 3 (QI E g A i [] 0 0) 0 0 [] [(0, .int i), (1, .int n), (2, v)] 0 [] := by
    intro E A C
    refine j_iload_n C 0 dJ3_checkIndex_8e157_0 rfl rfl ?_
    refine j_if_lt C 9 dJ3_checkIndex_8e157_1 (by decide) (fun c => absurd c h0) (fun _ => ?_)
    refine j_iload_n C 0 dJ3_checkIndex_8e157_4 rfl rfl ?_
    refine j_iload_n C 1 dJ3_checkIndex_8e157_5 rfl rfl ?_
    refine j_icmp_lt C 16 dJ3_checkIndex_8e157_6 (by decide) (fun _ => ?_) (fun c => absurd h1 c)
    refine j_iload_n C 0 dJ3_checkIndex_8e157_16 rfl rfl ?_
    exact j_iret C dJ3_checkIndex_8e157_17 rfl rfl
  rcases hv with rfl | ⟨a, rfl⟩
  · exact CtI.of (by decide) rfl rfl (Nat.le_of_ble_eq_true rfl) (fun E A _ C => key E A C)
  · exact CtI.of (by decide) rfl rfl (Nat.le_of_ble_eq_true rfl) (fun E A _ C => key E A C)
theorem cs_check (l : Launch) (g : Gd) {i n : Int32} (h0 : ¬ i < 0) (h1 : i < n) : CtV l g yJ0_checkIndex_df160 wsJ0_checkIndex_df160 rmS2 [.int i, .int n] [] [] := by
  refine CtV.of (by decide) rfl rfl (Nat.le_of_ble_eq_true rfl) (fun E A _ C => ?_)
  show J E rmS2 g A 2 (QV E g A [] 0 0) 0 0 [] [(0, .int i), (1, .int n)] 0 []
  refine j_iload_n C 0 dJ0_checkIndex_df160_0 rfl rfl ?_
  refine j_iload_n C 1 dJ0_checkIndex_df160_1 rfl rfl ?_
  rcases C.hS.2.2.2.1 with hZ | ⟨a, hZ⟩
  · refine j_gets C hZ (by decide +kernel) rfl dJ0_checkIndex_df160_2 ?_
    refine j_csI C (n := 3) [.int i, .int n, .null] [] [] [] [] (cs_pre E.2.1 g h0 h1 .null (Or.inl rfl)) gJ0_checkIndex_df160_J3_checkIndex_8e157 rfl rfl rfl (by decide +kernel) ⟨Nat.le_of_ble_eq_true rfl, Nat.le_of_ble_eq_true rfl⟩ rfl rfl (by decide) (by decide) (by decide) (by decide) rfl rfl rfl (Nat.le_of_ble_eq_true rfl) ⟨Nat.zero_le _, Nat.zero_le _⟩ dJ0_checkIndex_df160_5 ?_
    refine j_pop C dJ0_checkIndex_df160_8 rfl ?_
    exact j_vret C dJ0_checkIndex_df160_9 rfl
  · refine j_gets C hZ (by decide +kernel) rfl dJ0_checkIndex_df160_2 ?_
    refine j_csI C (n := 3) [.int i, .int n, .ref a] [] [] [] [] (cs_pre E.2.1 g h0 h1 (.ref a) (Or.inr ⟨a, rfl⟩)) gJ0_checkIndex_df160_J3_checkIndex_8e157 rfl rfl rfl (by decide +kernel) ⟨Nat.le_of_ble_eq_true rfl, Nat.le_of_ble_eq_true rfl⟩ rfl rfl (by decide) (by decide) (by decide) (by decide) rfl rfl rfl (Nat.le_of_ble_eq_true rfl) ⟨Nat.zero_le _, Nat.zero_le _⟩ dJ0_checkIndex_df160_5 ?_
    refine j_pop C dJ0_checkIndex_df160_8 rfl ?_
    exact j_vret C dJ0_checkIndex_df160_9 rfl
theorem lenS_small : ∀ k, k < 11 → lenS.getD k 0 < 2 ^ 31 := by decide
theorem cs_latinAt (l : Launch) (g : Gd) (k : Nat) (hk : k < 11) {i : Int32} (hi : vp_in i (lenS.getD k 0)) : CtI l g yJ1_charAt_3b067 wsJ1_charAt_3b067 rmS3 [.ref (g.2.2.2 k), .int i] [] (sch k i) [] := by
  have h0 : ¬ i < 0 := fun q => hi (Or.inl q)
  have h1 : i < nI (lenS.getD k 0) := by
    obtain ⟨j, hj, rfl⟩ := vp_in_of hi (lenS_small k hk)
    exact nI_lt hj (lenS_small k hk)
  refine CtI.of (by decide) rfl rfl (Nat.le_of_ble_eq_true rfl) (fun E A _ C => ?_)
  show J E rmS3 g A 2 (QI E g A (sch k i) [] 0 0) 0 0 [] [(0, .ref (g.2.2.2 k)), (1, .int i)] 0 []
  refine j_iload_n C 1 dJ1_charAt_3b067_0 rfl rfl ?_
  refine j_aload_n C 0 dJ1_charAt_3b067_1 rfl rfl ?_
  refine j_tlen C (C.hS.1.1 k hk).2.2.2 dJ1_charAt_3b067_2 ?_
  refine j_csV C (n := 2) [.int i, .int (nI (lenS.getD k 0))] [] [] [] [] (cs_check E.2.1 g h0 h1) gJ1_charAt_3b067_J0_checkIndex_df160 rfl rfl rfl (by decide +kernel) ⟨Nat.le_of_ble_eq_true rfl, Nat.le_of_ble_eq_true rfl⟩ rfl rfl (by decide) (by decide) (by decide) (by decide) rfl rfl rfl (Nat.le_of_ble_eq_true rfl) ⟨Nat.zero_le _, Nat.zero_le _⟩ dJ1_charAt_3b067_3 ?_
  refine j_aload_n C 0 dJ1_charAt_3b067_6 rfl rfl ?_
  refine j_iload_n C 1 dJ1_charAt_3b067_7 rfl rfl ?_
  refine j_tb C (v := .int ((bytS.getD k []).getD i.toNatClampNeg 0)) (C.hS.1.1 k hk).2.2.2 hi rfl dJ1_charAt_3b067_8 ?_
  refine j_sipush C dJ1_charAt_3b067_9 (v := 255) (by decide) ?_
  refine j_iand C dJ1_charAt_3b067_12 ?_
  refine j_i2c C dJ1_charAt_3b067_13 ?_
  exact j_nret C dJ1_charAt_3b067_14 (pk_nc _) rfl rfl
theorem cs_charAt (l : Launch) (g : Gd) (k : Nat) (hk : k < 11) {i : Int32} (hi : vp_in i (lenS.getD k 0)) : CtI l g yJ0_charAt_5068e wsJ0_charAt_5068e rmS4 [.ref (g.2.2.1 k), .int i] [] (sch k i) [] := by
  refine CtI.of (by decide) rfl rfl (Nat.le_of_ble_eq_true rfl) (fun E A _ C => ?_)
  show J E rmS4 g A 2 (QI E g A (sch k i) [] 0 0) 0 0 [] [(0, .ref (g.2.2.1 k)), (1, .int i)] 0 []
  refine j_aload_n C 0 dJ0_charAt_5068e_0 rfl rfl ?_
  refine j_ctI C (n := 0) k hk [] [] [] [] [] (cs_latin E.2.1 g k hk) gJ0_charAt_5068e_J0_isLatin1_aae02 rfl rfl rfl (by decide +kernel) ⟨Nat.le_of_ble_eq_true rfl, Nat.le_of_ble_eq_true rfl⟩ rfl rfl (by decide) (by decide) (by decide) (by decide) rfl rfl rfl (Nat.le_of_ble_eq_true rfl) ⟨Nat.zero_le _, Nat.zero_le _⟩ dJ0_charAt_5068e_1 ?_
  refine j_if_eq C 16 dJ0_charAt_5068e_4 (by decide) (fun c => absurd c (by decide)) (fun _ => ?_)
  refine j_aload_n C 0 dJ0_charAt_5068e_7 rfl rfl ?_
  refine j_getS C (C.hS.1.1 k hk).2.2.1 (by decide +kernel) rfl dJ0_charAt_5068e_8 ?_
  refine j_iload_n C 1 dJ0_charAt_5068e_11 rfl rfl ?_
  refine j_csI C (n := 2) [.ref (g.2.2.2 k), .int i] [] [] [] [] (cs_latinAt E.2.1 g k hk hi) gJ0_charAt_5068e_J1_charAt_3b067 rfl rfl rfl (by decide +kernel) ⟨Nat.le_of_ble_eq_true rfl, Nat.le_of_ble_eq_true rfl⟩ rfl rfl (by decide) (by decide) (by decide) (by decide) rfl rfl rfl (Nat.le_of_ble_eq_true rfl) ⟨Nat.zero_le _, Nat.zero_le _⟩ dJ0_charAt_5068e_12 ?_
  exact j_nret C dJ0_charAt_5068e_15 (pk_nc _) rfl rfl
