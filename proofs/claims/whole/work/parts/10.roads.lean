/-- the fuel of every loop -/
def FU : Nat := 1000000
abbrev rm_Arrays_fill : Room := { frames := 0, cells := 0, slots := 0, locals := 0 }
def Wd_Arrays_fill (g : Gd) (p_a0 : Nat) (n_a0 : Nat) (f_a0 : Nat → Int32) : va_W := [(p_a0, .inl (g.2.1 0, n_a0, .inl f_a0))]
noncomputable def b_Arrays_fill_5 (k_5 : Int32 → Int32 → Int32 → Nat → (Nat → Int32) → Option ((Nat → Int32))) (x1 : Int32) (x2 : Int32) (x3 : Int32) (n_a0 : Nat) (f_a0 : Nat → Int32) : Option ((Nat → Int32)) := if x3 ≤ x2 then some f_a0 else gix x2 n_a0 (k_5 x1 (x2 + 1) x3 n_a0 (upd f_a0 x2.toNatClampNeg x1))
noncomputable def f_Arrays_fill_5 (n : Nat) : Int32 → Int32 → Int32 → Nat → (Nat → Int32) → Option ((Nat → Int32)) := Nat.rec (motive := fun _ => Int32 → Int32 → Int32 → Nat → (Nat → Int32) → Option ((Nat → Int32))) (fun _ _ _ _ _ => none) (fun _ ih => b_Arrays_fill_5 ih) n
set_option maxHeartbeats 4000000 in
set_option maxRecDepth 100000 in
theorem jb_Arrays_fill_5 {E : Ev} {g : Gd} {A : Nat → Prop} (C : Cx E g A RJ7 cJ7_fill_53178 wsJ7_fill_53178 4 none) (p_a0 : Nat) {ρ : (Nat → Int32)} {k_5 : Int32 → Int32 → Int32 → Nat → (Nat → Int32) → Option ((Nat → Int32))} (hk_5 : ∀ (x1 : Int32) (x2 : Int32) (x3 : Int32) (n_a0 : Nat) (f_a0 : Nat → Int32), k_5 x1 x2 x3 n_a0 f_a0 = some ρ → J E rm_Arrays_fill g A 4 (QV E g A (Wd_Arrays_fill g p_a0 n_a0 ρ) 0 0) 0 0 (Wd_Arrays_fill g p_a0 n_a0 f_a0) [(0, .ref p_a0), (1, .int x1), (2, .int x2), (3, .int x3)] 5 []) (x1 : Int32) (x2 : Int32) (x3 : Int32) (n_a0 : Nat) (f_a0 : Nat → Int32) (hf : b_Arrays_fill_5 k_5 x1 x2 x3 n_a0 f_a0 = some ρ) : J E rm_Arrays_fill g A 4 (QV E g A (Wd_Arrays_fill g p_a0 n_a0 ρ) 0 0) 0 0 (Wd_Arrays_fill g p_a0 n_a0 f_a0) [(0, .ref p_a0), (1, .int x1), (2, .int x2), (3, .int x3)] 5 [] := by
  unfold b_Arrays_fill_5 at hf
  refine j_iload_n C 2 dJ7_fill_53178_5 rfl rfl ?_
  refine j_iload_n C 3 dJ7_fill_53178_6 rfl rfl ?_
  refine j_icmp_ge C 20 dJ7_fill_53178_7 (by decide) (fun c_1 => ?_) (fun c_1 => ?_)
  · replace hf := ifp c_1 hf
    obtain rfl := Option.some.inj hf
    exact j_vret C dJ7_fill_53178_20 rfl
  · replace hf := ifn c_1 hf
    refine j_aload_n C 0 dJ7_fill_53178_10 rfl rfl ?_
    refine j_iload_n C 2 dJ7_fill_53178_11 rfl rfl ?_
    refine j_iload_n C 1 dJ7_fill_53178_12 rfl rfl ?_
    obtain ⟨hi2, hf⟩ := gix_some hf
    refine j_iast C 0 (Wd_Arrays_fill g p_a0 n_a0 (upd f_a0 x2.toNatClampNeg x1)) rfl hi2 rfl dJ7_fill_53178_13 ?_
    refine j_iinc C (v := (x2 + 1)) 2 [(2, .int (x2 + 1)), (0, .ref p_a0), (1, .int x1), (3, .int x3)] dJ7_fill_53178_14 rfl (by first | rfl | decide) (by decide) rfl ?_
    refine j_goto C 5 dJ7_fill_53178_17 (by decide) ?_
    refine j_lv [1, 2, 0, 3] rfl ?_
    exact hk_5 x1 (x2 + 1) x3 n_a0 (upd f_a0 x2.toNatClampNeg x1) hf
set_option maxHeartbeats 4000000 in
set_option maxRecDepth 100000 in
theorem j_Arrays_fill_5 {E : Ev} {g : Gd} {A : Nat → Prop} (C : Cx E g A RJ7 cJ7_fill_53178 wsJ7_fill_53178 4 none) (p_a0 : Nat) {ρ : (Nat → Int32)} : ∀ (n : Nat) (x1 : Int32) (x2 : Int32) (x3 : Int32) (n_a0 : Nat) (f_a0 : Nat → Int32), f_Arrays_fill_5 n x1 x2 x3 n_a0 f_a0 = some ρ → J E rm_Arrays_fill g A 4 (QV E g A (Wd_Arrays_fill g p_a0 n_a0 ρ) 0 0) 0 0 (Wd_Arrays_fill g p_a0 n_a0 f_a0) [(0, .ref p_a0), (1, .int x1), (2, .int x2), (3, .int x3)] 5 [] := by
  intro n
  induction n with
  | zero => intro x1 x2 x3 n_a0 f_a0 h; have h0 : (none : Option ((Nat → Int32))) = some ρ := h; cases h0
  | succ n ih => intro x1 x2 x3 n_a0 f_a0 h; exact jb_Arrays_fill_5 C p_a0 ih x1 x2 x3 n_a0 f_a0 h
noncomputable def f_Arrays_fill (x1 : Int32) (n_a0 : Nat) (f_a0 : Nat → Int32) : Option ((Nat → Int32)) := f_Arrays_fill_5 FU x1 0 (nI n_a0) n_a0 f_a0
set_option maxHeartbeats 4000000 in
set_option maxRecDepth 100000 in
theorem c_Arrays_fill (l : Launch) (g : Gd) (p_a0 : Nat) (n_a0 : Nat) (f_a0 : Nat → Int32) (x1 : Int32) {ρ : (Nat → Int32)} (hf : f_Arrays_fill x1 n_a0 f_a0 = some ρ) : CtV l g yJ7_fill_53178 wsJ7_fill_53178 rm_Arrays_fill [.ref p_a0, .int x1] (Wd_Arrays_fill g p_a0 n_a0 f_a0) (Wd_Arrays_fill g p_a0 n_a0 ρ) := by
  refine CtV.of (by decide) rfl rfl (Nat.le_of_ble_eq_true rfl) (fun E A _ C => ?_)
  unfold f_Arrays_fill at hf
  show J E rm_Arrays_fill g A 4 (QV E g A (Wd_Arrays_fill g p_a0 n_a0 ρ) 0 0) 0 0 (Wd_Arrays_fill g p_a0 n_a0 f_a0) [(0, .ref p_a0), (1, .int x1)] 0 []
  refine j_iconst C dJ7_fill_53178_0 (v := 0) (by decide) ?_
  refine j_istore_n C [(2, .int 0), (0, .ref p_a0), (1, .int x1)] dJ7_fill_53178_1 rfl (by decide) rfl ?_
  refine j_aload_n C 1 dJ7_fill_53178_2 rfl rfl ?_
  refine j_alen C (t := 0) 0 rfl rfl dJ7_fill_53178_3 ?_
  refine j_istore_n C [(3, .int (nI n_a0)), (2, .int 0), (0, .ref p_a0), (1, .int x1)] dJ7_fill_53178_4 rfl (by decide) rfl ?_
  refine j_lv [2, 3, 1, 0] rfl ?_
  exact j_Arrays_fill_5 C p_a0 FU x1 0 (nI n_a0) n_a0 f_a0 hf
abbrev rm_Integer_bitCount : Room := { frames := 0, cells := 0, slots := 0, locals := 0 }
def Wd_Integer_bitCount (g : Gd)  : va_W := []
theorem kc_265_Integer_bitCount : Cond.constant RJ6 265 1431655765 ∈ wsJ6_bitCount_0f7a4 := by decide +kernel
theorem kc_266_Integer_bitCount : Cond.constant RJ6 266 858993459 ∈ wsJ6_bitCount_0f7a4 := by decide +kernel
theorem kc_267_Integer_bitCount : Cond.constant RJ6 267 252645135 ∈ wsJ6_bitCount_0f7a4 := by decide +kernel
noncomputable def f_Integer_bitCount (x0 : Int32) : Option (Int32) := nmI (x0 - (((x0.toUInt32 >>> ((1 : Int32).toUInt32 &&& Int32.toUInt32 31)).toInt32) &&& 1431655765)) (fun z1 => nmI ((z1 &&& 858993459) + (((z1.toUInt32 >>> ((2 : Int32).toUInt32 &&& Int32.toUInt32 31)).toInt32) &&& 858993459)) (fun z2 => nmI ((z2 + ((z2.toUInt32 >>> ((4 : Int32).toUInt32 &&& Int32.toUInt32 31)).toInt32)) &&& 252645135) (fun z3 => nmI (z3 + ((z3.toUInt32 >>> ((8 : Int32).toUInt32 &&& Int32.toUInt32 31)).toInt32)) (fun z4 => nmI (z4 + ((z4.toUInt32 >>> ((16 : Int32).toUInt32 &&& Int32.toUInt32 31)).toInt32)) (fun z5 => some (z5 &&& 63))))))
set_option maxHeartbeats 4000000 in
set_option maxRecDepth 100000 in
theorem c_Integer_bitCount (l : Launch) (g : Gd) (x0 : Int32) {ρ : Int32} (hf : f_Integer_bitCount x0 = some ρ) : CtI l g yJ6_bitCount_0f7a4 wsJ6_bitCount_0f7a4 rm_Integer_bitCount [.int x0] (Wd_Integer_bitCount g ) ρ (Wd_Integer_bitCount g ) := by
  refine CtI.of (by decide) rfl rfl (Nat.le_of_ble_eq_true rfl) (fun E A _ C => ?_)
  unfold f_Integer_bitCount at hf
  show J E rm_Integer_bitCount g A 1 (QI E g A ρ (Wd_Integer_bitCount g ) 0 0) 0 0 (Wd_Integer_bitCount g ) [(0, .int x0)] 0 []
  refine j_iload_n C 0 dJ6_bitCount_0f7a4_0 rfl rfl ?_
  refine j_iload_n C 0 dJ6_bitCount_0f7a4_1 rfl rfl ?_
  refine j_iconst C dJ6_bitCount_0f7a4_2 (v := 1) (by decide) ?_
  refine j_iushr C dJ6_bitCount_0f7a4_3 ?_
  refine j_ldcw C (v := 1431655765) kc_265_Integer_bitCount dJ6_bitCount_0f7a4_4 ?_
  refine j_iand C dJ6_bitCount_0f7a4_7 ?_
  refine j_isub C dJ6_bitCount_0f7a4_8 ?_
  obtain ⟨z1, e_z1, hf⟩ := nmI_some hf
  refine j_nmi e_z1 ?_
  refine j_istore_n C [(0, .int z1)] dJ6_bitCount_0f7a4_9 rfl (by decide) rfl ?_
  refine j_iload_n C 0 dJ6_bitCount_0f7a4_10 rfl rfl ?_
  refine j_ldcw C (v := 858993459) kc_266_Integer_bitCount dJ6_bitCount_0f7a4_11 ?_
  refine j_iand C dJ6_bitCount_0f7a4_14 ?_
  refine j_iload_n C 0 dJ6_bitCount_0f7a4_15 rfl rfl ?_
  refine j_pc 16 rfl ?_
  refine j_iconst C dJ6_bitCount_0f7a4_16 (v := 2) (by decide) ?_
  refine j_iushr C dJ6_bitCount_0f7a4_17 ?_
  refine j_ldcw C (v := 858993459) kc_266_Integer_bitCount dJ6_bitCount_0f7a4_18 ?_
  refine j_iand C dJ6_bitCount_0f7a4_21 ?_
  refine j_iadd C dJ6_bitCount_0f7a4_22 ?_
  obtain ⟨z2, e_z2, hf⟩ := nmI_some hf
  refine j_nmi e_z2 ?_
  refine j_istore_n C [(0, .int z2)] dJ6_bitCount_0f7a4_23 rfl (by decide) rfl ?_
  refine j_iload_n C 0 dJ6_bitCount_0f7a4_24 rfl rfl ?_
  refine j_iload_n C 0 dJ6_bitCount_0f7a4_25 rfl rfl ?_
  refine j_iconst C dJ6_bitCount_0f7a4_26 (v := 4) (by decide) ?_
  refine j_iushr C dJ6_bitCount_0f7a4_27 ?_
  refine j_iadd C dJ6_bitCount_0f7a4_28 ?_
  refine j_ldcw C (v := 252645135) kc_267_Integer_bitCount dJ6_bitCount_0f7a4_29 ?_
  refine j_pc 32 rfl ?_
  refine j_iand C dJ6_bitCount_0f7a4_32 ?_
  obtain ⟨z3, e_z3, hf⟩ := nmI_some hf
  refine j_nmi e_z3 ?_
  refine j_istore_n C [(0, .int z3)] dJ6_bitCount_0f7a4_33 rfl (by decide) rfl ?_
  refine j_iload_n C 0 dJ6_bitCount_0f7a4_34 rfl rfl ?_
  refine j_iload_n C 0 dJ6_bitCount_0f7a4_35 rfl rfl ?_
  refine j_bipush C dJ6_bitCount_0f7a4_36 (v := 8) (by decide) ?_
  refine j_iushr C dJ6_bitCount_0f7a4_38 ?_
  refine j_iadd C dJ6_bitCount_0f7a4_39 ?_
  obtain ⟨z4, e_z4, hf⟩ := nmI_some hf
  refine j_nmi e_z4 ?_
  refine j_istore_n C [(0, .int z4)] dJ6_bitCount_0f7a4_40 rfl (by decide) rfl ?_
  refine j_iload_n C 0 dJ6_bitCount_0f7a4_41 rfl rfl ?_
  refine j_iload_n C 0 dJ6_bitCount_0f7a4_42 rfl rfl ?_
  refine j_bipush C dJ6_bitCount_0f7a4_43 (v := 16) (by decide) ?_
  refine j_iushr C dJ6_bitCount_0f7a4_45 ?_
  refine j_pc 46 rfl ?_
  refine j_iadd C dJ6_bitCount_0f7a4_46 ?_
  obtain ⟨z5, e_z5, hf⟩ := nmI_some hf
  refine j_nmi e_z5 ?_
  refine j_istore_n C [(0, .int z5)] dJ6_bitCount_0f7a4_47 rfl (by decide) rfl ?_
  refine j_iload_n C 0 dJ6_bitCount_0f7a4_48 rfl rfl ?_
  refine j_bipush C dJ6_bitCount_0f7a4_49 (v := 63) (by decide) ?_
  refine j_iand C dJ6_bitCount_0f7a4_51 ?_
  obtain rfl := Option.some.inj hf
  exact j_iret C dJ6_bitCount_0f7a4_52 rfl rfl
abbrev rm_Days_start : Room := { frames := 1, cells := 0, slots := 0, locals := 23 }
def Wd_Days_start (g : Gd) (p_a0 : Nat) (p_a0_shut : Nat) (v_a0_gone : Int32) (n_a0_shut : Nat) (f_a0_shut : Nat → Int32) : va_W := [(p_a0, .inr (0, [.int v_a0_gone, .ref p_a0_shut])), (p_a0_shut, .inl (g.2.1 0, n_a0_shut, .inl f_a0_shut))]
theorem iw_Days_start_1 : ∀ w ∈ wsX10, w ∈ wsX1_start := fun w h => List.mem_cons_of_mem _ (List.mem_append_right _ h)
theorem fl_9_Days_start : Cond.fieldLink RX1 9 "ShutWays$Days" (TX1 0).2.1 (TX1 0).2.2.1 ∈ wsX1_start := by decide +kernel
theorem fl_15_Days_start : Cond.fieldLink RX1 15 "ShutWays$Days" (TX1 1).2.1 (TX1 1).2.2.1 ∈ wsX1_start := by decide +kernel
noncomputable def f_Days_start (v_a0_gone : Int32) (n_a0_shut : Nat) (f_a0_shut : Nat → Int32) : Option (Int32 × (Nat → Int32)) := (f_Arrays_fill 0 n_a0_shut f_a0_shut).bind (fun r1 => some (0, r1))
set_option maxHeartbeats 4000000 in
set_option maxRecDepth 100000 in
theorem c_Days_start (l : Launch) (g : Gd) (p_a0 : Nat) (p_a0_shut : Nat) (v_a0_gone : Int32) (n_a0_shut : Nat) (f_a0_shut : Nat → Int32) {ρ : Int32 × (Nat → Int32)} (hf : f_Days_start v_a0_gone n_a0_shut f_a0_shut = some ρ) : CtV l g yX1_start wsX1_start rm_Days_start [.ref p_a0] (Wd_Days_start g p_a0 p_a0_shut v_a0_gone n_a0_shut f_a0_shut) (Wd_Days_start g p_a0 p_a0_shut ρ.1 n_a0_shut ρ.2) := by
  refine CtV.of (by decide) rfl rfl (Nat.le_of_ble_eq_true rfl) (fun E A _ C => ?_)
  unfold f_Days_start at hf
  show J E rm_Days_start g A 1 (QV E g A (Wd_Days_start g p_a0 p_a0_shut ρ.1 n_a0_shut ρ.2) 0 0) 0 0 (Wd_Days_start g p_a0 p_a0_shut v_a0_gone n_a0_shut f_a0_shut) [(0, .ref p_a0)] 0 []
  refine j_aload_n C 0 dX1_start_0 rfl rfl ?_
  refine j_iconst C dX1_start_1 (v := 0) (by decide) ?_
  refine j_put C (ci := 0) 0 0 (Wd_Days_start g p_a0 p_a0_shut 0 n_a0_shut f_a0_shut) iw_Days_start_1 tyX1_ok nmX1 rfl rfl (by decide) fl_9_Days_start rfl rfl rfl rfl (Nat.le_of_ble_eq_true rfl) rfl dX1_start_2 ?_
  refine j_aload_n C 0 dX1_start_5 rfl rfl ?_
  refine j_get C (ci := 0) 0 1 iw_Days_start_1 rfl rfl (by decide) fl_15_Days_start rfl rfl dX1_start_6 ?_
  refine j_iconst C dX1_start_9 (v := 0) (by decide) ?_
  obtain ⟨r1, hc2, hf⟩ := bnd hf
  refine j_csV C (n := 2) [.ref p_a0_shut, .int 0] [1] [0] [0, 1] (Wd_Days_start g p_a0 p_a0_shut 0 n_a0_shut r1) (c_Arrays_fill E.2.1 g p_a0_shut n_a0_shut f_a0_shut 0 hc2) gX1_start_J7_fill_53178 rfl rfl rfl (by decide +kernel) ⟨Nat.le_of_ble_eq_true rfl, Nat.le_of_ble_eq_true rfl⟩ rfl rfl (by decide) (by decide) (by decide) (by decide) rfl rfl rfl (Nat.le_of_ble_eq_true rfl) ⟨Nat.zero_le _, Nat.zero_le _⟩ dX1_start_10 ?_
  obtain rfl := Option.some.inj hf
  exact j_vret C dX1_start_13 rfl
abbrev rm_Days_copyFrom : Room := { frames := 1, cells := 0, slots := 0, locals := 40 }
def Wd_Days_copyFrom (g : Gd) (p_a0 : Nat) (p_a1 : Nat) (p_a1_shut : Nat) (p_a0_shut : Nat) (v_a0_gone : Int32) (v_a1_gone : Int32) (n_a1_shut : Nat) (f_a1_shut : Nat → Int32) (n_a0_shut : Nat) (f_a0_shut : Nat → Int32) : va_W := [(p_a0, .inr (0, [.int v_a0_gone, .ref p_a0_shut])), (p_a1, .inr (0, [.int v_a1_gone, .ref p_a1_shut])), (p_a1_shut, .inl (g.2.1 0, n_a1_shut, .inl f_a1_shut)), (p_a0_shut, .inl (g.2.1 0, n_a0_shut, .inl f_a0_shut))]
theorem iw_Days_copyFrom_1 : ∀ w ∈ wsX10, w ∈ wsX1_copyFrom := fun w h => List.mem_cons_of_mem _ (List.mem_append_right _ h)
theorem fl_9_Days_copyFrom : Cond.fieldLink RX1 9 "ShutWays$Days" (TX1 0).2.1 (TX1 0).2.2.1 ∈ wsX1_copyFrom := by decide +kernel
theorem fl_15_Days_copyFrom : Cond.fieldLink RX1 15 "ShutWays$Days" (TX1 1).2.1 (TX1 1).2.2.1 ∈ wsX1_copyFrom := by decide +kernel
theorem ac0_25_Days_copyFrom : Cond.methodLink RX1 25 arraycopyName ∈ wsX1_copyFrom := by decide +kernel
theorem ac1_25_Days_copyFrom : Cond.native arraycopyName ∈ wsX1_copyFrom := by decide +kernel
theorem ac2_25_Days_copyFrom : Cond.static arraycopyName ∈ wsX1_copyFrom := by decide +kernel
theorem ac3_25_Days_copyFrom : Cond.initialized "java/lang/System" ∈ wsX1_copyFrom := by decide +kernel
noncomputable def f_Days_copyFrom (v_a0_gone : Int32) (v_a1_gone : Int32) (n_a1_shut : Nat) (f_a1_shut : Nat → Int32) (n_a0_shut : Nat) (f_a0_shut : Nat → Int32) : Option (Int32 × (Nat → Int32)) := if ((nI n_a0_shut) < 0 ∨ ¬ (0 : Int32).toNatClampNeg + (nI n_a0_shut).toNatClampNeg ≤ n_a1_shut ∨ ¬ (0 : Int32).toNatClampNeg + (nI n_a0_shut).toNatClampNeg ≤ n_a0_shut) then none else some (v_a1_gone, (va_cpy f_a1_shut f_a0_shut (0 : Int32).toNatClampNeg (0 : Int32).toNatClampNeg (nI n_a0_shut).toNatClampNeg))
set_option maxHeartbeats 4000000 in
set_option maxRecDepth 100000 in
theorem c_Days_copyFrom (l : Launch) (g : Gd) (p_a0 : Nat) (p_a1 : Nat) (p_a1_shut : Nat) (p_a0_shut : Nat) (v_a0_gone : Int32) (v_a1_gone : Int32) (n_a1_shut : Nat) (f_a1_shut : Nat → Int32) (n_a0_shut : Nat) (f_a0_shut : Nat → Int32) {ρ : Int32 × (Nat → Int32)} (hf : f_Days_copyFrom v_a0_gone v_a1_gone n_a1_shut f_a1_shut n_a0_shut f_a0_shut = some ρ) : CtV l g yX1_copyFrom wsX1_copyFrom rm_Days_copyFrom [.ref p_a0, .ref p_a1] (Wd_Days_copyFrom g p_a0 p_a1 p_a1_shut p_a0_shut v_a0_gone v_a1_gone n_a1_shut f_a1_shut n_a0_shut f_a0_shut) (Wd_Days_copyFrom g p_a0 p_a1 p_a1_shut p_a0_shut ρ.1 v_a1_gone n_a1_shut f_a1_shut n_a0_shut ρ.2) := by
  refine CtV.of (by decide) rfl rfl (Nat.le_of_ble_eq_true rfl) (fun E A _ C => ?_)
  unfold f_Days_copyFrom at hf
  show J E rm_Days_copyFrom g A 2 (QV E g A (Wd_Days_copyFrom g p_a0 p_a1 p_a1_shut p_a0_shut ρ.1 v_a1_gone n_a1_shut f_a1_shut n_a0_shut ρ.2) 0 0) 0 0 (Wd_Days_copyFrom g p_a0 p_a1 p_a1_shut p_a0_shut v_a0_gone v_a1_gone n_a1_shut f_a1_shut n_a0_shut f_a0_shut) [(0, .ref p_a0), (1, .ref p_a1)] 0 []
  refine j_aload_n C 0 dX1_copyFrom_0 rfl rfl ?_
  refine j_aload_n C 1 dX1_copyFrom_1 rfl rfl ?_
  refine j_get C (ci := 0) 1 0 iw_Days_copyFrom_1 rfl rfl (by decide) fl_9_Days_copyFrom rfl rfl dX1_copyFrom_2 ?_
  refine j_put C (ci := 0) 0 0 (Wd_Days_copyFrom g p_a0 p_a1 p_a1_shut p_a0_shut v_a1_gone v_a1_gone n_a1_shut f_a1_shut n_a0_shut f_a0_shut) iw_Days_copyFrom_1 tyX1_ok nmX1 rfl rfl (by decide) fl_9_Days_copyFrom rfl rfl rfl rfl (Nat.le_of_ble_eq_true rfl) rfl dX1_copyFrom_5 ?_
  refine j_aload_n C 1 dX1_copyFrom_8 rfl rfl ?_
  refine j_get C (ci := 0) 1 1 iw_Days_copyFrom_1 rfl rfl (by decide) fl_15_Days_copyFrom rfl rfl dX1_copyFrom_9 ?_
  refine j_iconst C dX1_copyFrom_12 (v := 0) (by decide) ?_
  refine j_aload_n C 0 dX1_copyFrom_13 rfl rfl ?_
  refine j_get C (ci := 0) 0 1 iw_Days_copyFrom_1 rfl rfl (by decide) fl_15_Days_copyFrom rfl rfl dX1_copyFrom_14 ?_
  refine j_iconst C dX1_copyFrom_17 (v := 0) (by decide) ?_
  refine j_aload_n C 0 dX1_copyFrom_18 rfl rfl ?_
  refine j_get C (ci := 0) 0 1 iw_Days_copyFrom_1 rfl rfl (by decide) fl_15_Days_copyFrom rfl rfl dX1_copyFrom_19 ?_
  refine j_alen C (t := 0) 3 rfl rfl dX1_copyFrom_22 ?_
  by_cases ha1 : ((nI n_a0_shut) < 0 ∨ ¬ (0 : Int32).toNatClampNeg + (nI n_a0_shut).toNatClampNeg ≤ n_a1_shut ∨ ¬ (0 : Int32).toNatClampNeg + (nI n_a0_shut).toNatClampNeg ≤ n_a0_shut)
  · rw [if_pos ha1] at hf; cases hf
  replace hf := ifn ha1 hf
  refine j_copyi C 2 3 (Wd_Days_copyFrom g p_a0 p_a1 p_a1_shut p_a0_shut v_a1_gone v_a1_gone n_a1_shut f_a1_shut n_a0_shut (va_cpy f_a1_shut f_a0_shut (0 : Int32).toNatClampNeg (0 : Int32).toNatClampNeg (nI n_a0_shut).toNatClampNeg)) ac0_25_Days_copyFrom ac1_25_Days_copyFrom ac2_25_Days_copyFrom ac3_25_Days_copyFrom rfl rfl (by decide) (by decide) (fun q => ha1 (Or.inl q)) (Decidable.of_not_not (fun q => ha1 (Or.inr (Or.inl q)))) (Decidable.of_not_not (fun q => ha1 (Or.inr (Or.inr q)))) (Nat.le_of_ble_eq_true rfl) (Nat.le_of_ble_eq_true rfl) rfl dX1_copyFrom_23 ?_
  obtain rfl := Option.some.inj hf
  exact j_vret C dX1_copyFrom_26 rfl
abbrev rm_Days_next : Room := { frames := 0, cells := 0, slots := 0, locals := 0 }
def Wd_Days_next (g : Gd) (p_a0 : Nat) (p_a0_shut : Nat) (v_a0_gone : Int32) (n_a0_shut : Nat) (f_a0_shut : Nat → Int32) : va_W := [(p_a0, .inr (0, [.int v_a0_gone, .ref p_a0_shut])), (p_a0_shut, .inl (g.2.1 0, n_a0_shut, .inl f_a0_shut))]
theorem iw_Days_next_1 : ∀ w ∈ wsX10, w ∈ wsX1_next := fun w h => List.mem_cons_of_mem _ (List.mem_append_right _ h)
theorem fl_15_Days_next : Cond.fieldLink RX1 15 "ShutWays$Days" (TX1 1).2.1 (TX1 1).2.2.1 ∈ wsX1_next := by decide +kernel
theorem fl_9_Days_next : Cond.fieldLink RX1 9 "ShutWays$Days" (TX1 0).2.1 (TX1 0).2.2.1 ∈ wsX1_next := by decide +kernel
noncomputable def f_Days_next_30 (k_2 : Int32 → Int32 → Int32 → Int32 → Nat → (Nat → Int32) → Option (Int32 × (Nat → Int32))) (x1 : Int32) (x2 : Int32) (x3 : Int32) (v_a0_gone : Int32) (n_a0_shut : Nat) (f_a0_shut : Nat → Int32) : Option (Int32 × (Nat → Int32)) := k_2 x1 x2 (x3 + 1) v_a0_gone n_a0_shut f_a0_shut
set_option maxHeartbeats 4000000 in
set_option maxRecDepth 100000 in
theorem j_Days_next_30 {E : Ev} {g : Gd} {A : Nat → Prop} (C : Cx E g A RX1 cX1_next wsX1_next 4 none) (p_a0 : Nat) (p_a0_shut : Nat) {ρ : Int32 × (Nat → Int32)} {k_2 : Int32 → Int32 → Int32 → Int32 → Nat → (Nat → Int32) → Option (Int32 × (Nat → Int32))} (hk_2 : ∀ (x1 : Int32) (x2 : Int32) (x3 : Int32) (v_a0_gone : Int32) (n_a0_shut : Nat) (f_a0_shut : Nat → Int32), k_2 x1 x2 x3 v_a0_gone n_a0_shut f_a0_shut = some ρ → J E rm_Days_next g A 4 (QV E g A (Wd_Days_next g p_a0 p_a0_shut ρ.1 n_a0_shut ρ.2) 0 0) 0 0 (Wd_Days_next g p_a0 p_a0_shut v_a0_gone n_a0_shut f_a0_shut) [(0, .ref p_a0), (1, .int x1), (2, .int x2), (3, .int x3)] 2 []) (x1 : Int32) (x2 : Int32) (x3 : Int32) (v_a0_gone : Int32) (n_a0_shut : Nat) (f_a0_shut : Nat → Int32) (hf : f_Days_next_30 k_2 x1 x2 x3 v_a0_gone n_a0_shut f_a0_shut = some ρ) : J E rm_Days_next g A 4 (QV E g A (Wd_Days_next g p_a0 p_a0_shut ρ.1 n_a0_shut ρ.2) 0 0) 0 0 (Wd_Days_next g p_a0 p_a0_shut v_a0_gone n_a0_shut f_a0_shut) [(0, .ref p_a0), (1, .int x1), (2, .int x2), (3, .int x3)] 30 [] := by
  unfold f_Days_next_30 at hf
  refine j_iinc C (v := (x3 + 1)) 3 [(3, .int (x3 + 1)), (0, .ref p_a0), (1, .int x1), (2, .int x2)] dX1_next_30 rfl (by first | rfl | decide) (by decide) rfl ?_
  refine j_goto C 2 dX1_next_33 (by decide) ?_
  refine j_lv [1, 2, 3, 0] rfl ?_
  exact hk_2 x1 x2 (x3 + 1) v_a0_gone n_a0_shut f_a0_shut hf
noncomputable def f_Days_next_56 (v_a0_gone : Int32) (n_a0_shut : Nat) (f_a0_shut : Nat → Int32) : Option (Int32 × (Nat → Int32)) := nmI (v_a0_gone + 1) (fun z10 => some (z10, f_a0_shut))
set_option maxHeartbeats 4000000 in
set_option maxRecDepth 100000 in
theorem j_Days_next_56 {E : Ev} {g : Gd} {A : Nat → Prop} (C : Cx E g A RX1 cX1_next wsX1_next 4 none) (p_a0 : Nat) (p_a0_shut : Nat) {ρ : Int32 × (Nat → Int32)} (v_a0_gone : Int32) (n_a0_shut : Nat) (f_a0_shut : Nat → Int32) (hf : f_Days_next_56 v_a0_gone n_a0_shut f_a0_shut = some ρ) : J E rm_Days_next g A 4 (QV E g A (Wd_Days_next g p_a0 p_a0_shut ρ.1 n_a0_shut ρ.2) 0 0) 0 0 (Wd_Days_next g p_a0 p_a0_shut v_a0_gone n_a0_shut f_a0_shut) [(0, .ref p_a0)] 56 [] := by
  unfold f_Days_next_56 at hf
  refine j_aload_n C 0 dX1_next_56 rfl rfl ?_
  refine j_dup C dX1_next_57 rfl ?_
  refine j_get C (ci := 0) 0 0 iw_Days_next_1 rfl rfl (by decide) fl_9_Days_next rfl rfl dX1_next_58 ?_
  refine j_iconst C dX1_next_61 (v := 1) (by decide) ?_
  refine j_iadd C dX1_next_62 ?_
  obtain ⟨z10, e_z10, hf⟩ := nmI_some hf
  refine j_nmi e_z10 ?_
  refine j_put C (ci := 0) 0 0 (Wd_Days_next g p_a0 p_a0_shut z10 n_a0_shut f_a0_shut) iw_Days_next_1 tyX1_ok nmX1 rfl rfl (by decide) fl_9_Days_next rfl rfl rfl rfl (Nat.le_of_ble_eq_true rfl) rfl dX1_next_63 ?_
  obtain rfl := Option.some.inj hf
  exact j_vret C dX1_next_66 rfl
noncomputable def b_Days_next_2 (k_2 : Int32 → Int32 → Int32 → Int32 → Nat → (Nat → Int32) → Option (Int32 × (Nat → Int32))) (x1 : Int32) (x2 : Int32) (x3 : Int32) (v_a0_gone : Int32) (n_a0_shut : Nat) (f_a0_shut : Nat → Int32) : Option (Int32 × (Nat → Int32)) := if (nI n_a0_shut) ≤ x3 then if x1 < 0 then f_Days_next_56 v_a0_gone n_a0_shut f_a0_shut else if (nI n_a0_shut) ≤ x1 then f_Days_next_56 v_a0_gone n_a0_shut f_a0_shut else gix x1 n_a0_shut (f_Days_next_56 v_a0_gone n_a0_shut (upd f_a0_shut x1.toNatClampNeg x2)) else gix x3 n_a0_shut (if (f_a0_shut x3.toNatClampNeg) ≤ 0 then f_Days_next_30 k_2 x1 x2 x3 v_a0_gone n_a0_shut f_a0_shut else gix x3 n_a0_shut (nmI ((f_a0_shut x3.toNatClampNeg) - 1) (fun z8 => gix x3 n_a0_shut (f_Days_next_30 k_2 x1 x2 x3 v_a0_gone n_a0_shut (upd f_a0_shut x3.toNatClampNeg z8)))))
noncomputable def f_Days_next_2 (n : Nat) : Int32 → Int32 → Int32 → Int32 → Nat → (Nat → Int32) → Option (Int32 × (Nat → Int32)) := Nat.rec (motive := fun _ => Int32 → Int32 → Int32 → Int32 → Nat → (Nat → Int32) → Option (Int32 × (Nat → Int32))) (fun _ _ _ _ _ _ => none) (fun _ ih => b_Days_next_2 ih) n
set_option maxHeartbeats 4000000 in
set_option maxRecDepth 100000 in
theorem jb_Days_next_2 {E : Ev} {g : Gd} {A : Nat → Prop} (C : Cx E g A RX1 cX1_next wsX1_next 4 none) (p_a0 : Nat) (p_a0_shut : Nat) {ρ : Int32 × (Nat → Int32)} {k_2 : Int32 → Int32 → Int32 → Int32 → Nat → (Nat → Int32) → Option (Int32 × (Nat → Int32))} (hk_2 : ∀ (x1 : Int32) (x2 : Int32) (x3 : Int32) (v_a0_gone : Int32) (n_a0_shut : Nat) (f_a0_shut : Nat → Int32), k_2 x1 x2 x3 v_a0_gone n_a0_shut f_a0_shut = some ρ → J E rm_Days_next g A 4 (QV E g A (Wd_Days_next g p_a0 p_a0_shut ρ.1 n_a0_shut ρ.2) 0 0) 0 0 (Wd_Days_next g p_a0 p_a0_shut v_a0_gone n_a0_shut f_a0_shut) [(0, .ref p_a0), (1, .int x1), (2, .int x2), (3, .int x3)] 2 []) (x1 : Int32) (x2 : Int32) (x3 : Int32) (v_a0_gone : Int32) (n_a0_shut : Nat) (f_a0_shut : Nat → Int32) (hf : b_Days_next_2 k_2 x1 x2 x3 v_a0_gone n_a0_shut f_a0_shut = some ρ) : J E rm_Days_next g A 4 (QV E g A (Wd_Days_next g p_a0 p_a0_shut ρ.1 n_a0_shut ρ.2) 0 0) 0 0 (Wd_Days_next g p_a0 p_a0_shut v_a0_gone n_a0_shut f_a0_shut) [(0, .ref p_a0), (1, .int x1), (2, .int x2), (3, .int x3)] 2 [] := by
  unfold b_Days_next_2 at hf
  refine j_iload_n C 3 dX1_next_2 rfl rfl ?_
  refine j_aload_n C 0 dX1_next_3 rfl rfl ?_
  refine j_get C (ci := 0) 0 1 iw_Days_next_1 rfl rfl (by decide) fl_15_Days_next rfl rfl dX1_next_4 ?_
  refine j_alen C (t := 0) 1 rfl rfl dX1_next_7 ?_
  refine j_icmp_ge C 36 dX1_next_8 (by decide) (fun c_1 => ?_) (fun c_1 => ?_)
  · replace hf := ifp c_1 hf
    refine j_iload_n C 1 dX1_next_36 rfl rfl ?_
    refine j_if_lt C 56 dX1_next_37 (by decide) (fun c_2 => ?_) (fun c_2 => ?_)
    · replace hf := ifp c_2 hf
      refine j_lv [0] rfl ?_
      exact j_Days_next_56 C p_a0 p_a0_shut v_a0_gone n_a0_shut f_a0_shut hf
    · replace hf := ifn c_2 hf
      refine j_iload_n C 1 dX1_next_40 rfl rfl ?_
      refine j_aload_n C 0 dX1_next_41 rfl rfl ?_
      refine j_get C (ci := 0) 0 1 iw_Days_next_1 rfl rfl (by decide) fl_15_Days_next rfl rfl dX1_next_42 ?_
      refine j_alen C (t := 0) 1 rfl rfl dX1_next_45 ?_
      refine j_icmp_ge C 56 dX1_next_46 (by decide) (fun c_3 => ?_) (fun c_3 => ?_)
      · replace hf := ifp c_3 hf
        refine j_lv [0] rfl ?_
        exact j_Days_next_56 C p_a0 p_a0_shut v_a0_gone n_a0_shut f_a0_shut hf
      · replace hf := ifn c_3 hf
        refine j_aload_n C 0 dX1_next_49 rfl rfl ?_
        refine j_get C (ci := 0) 0 1 iw_Days_next_1 rfl rfl (by decide) fl_15_Days_next rfl rfl dX1_next_50 ?_
        refine j_iload_n C 1 dX1_next_53 rfl rfl ?_
        refine j_iload_n C 2 dX1_next_54 rfl rfl ?_
        obtain ⟨hi4, hf⟩ := gix_some hf
        refine j_iast C 1 (Wd_Days_next g p_a0 p_a0_shut v_a0_gone n_a0_shut (upd f_a0_shut x1.toNatClampNeg x2)) rfl hi4 rfl dX1_next_55 ?_
        refine j_lv [0] rfl ?_
        exact j_Days_next_56 C p_a0 p_a0_shut v_a0_gone n_a0_shut (upd f_a0_shut x1.toNatClampNeg x2) hf
  · replace hf := ifn c_1 hf
    refine j_aload_n C 0 dX1_next_11 rfl rfl ?_
    refine j_get C (ci := 0) 0 1 iw_Days_next_1 rfl rfl (by decide) fl_15_Days_next rfl rfl dX1_next_12 ?_
    refine j_iload_n C 3 dX1_next_15 rfl rfl ?_
    obtain ⟨hi5, hf⟩ := gix_some hf
    refine j_iald C 1 rfl hi5 dX1_next_16 ?_
    refine j_if_le C 30 dX1_next_17 (by decide) (fun c_6 => ?_) (fun c_6 => ?_)
    · replace hf := ifp c_6 hf
      exact j_Days_next_30 C p_a0 p_a0_shut hk_2 x1 x2 x3 v_a0_gone n_a0_shut f_a0_shut hf
    · replace hf := ifn c_6 hf
      refine j_aload_n C 0 dX1_next_20 rfl rfl ?_
      refine j_get C (ci := 0) 0 1 iw_Days_next_1 rfl rfl (by decide) fl_15_Days_next rfl rfl dX1_next_21 ?_
      refine j_iload_n C 3 dX1_next_24 rfl rfl ?_
      refine j_dup2 C dX1_next_25 rfl rfl ?_
      obtain ⟨hi7, hf⟩ := gix_some hf
      refine j_iald C 1 rfl hi7 dX1_next_26 ?_
      refine j_iconst C dX1_next_27 (v := 1) (by decide) ?_
      refine j_isub C dX1_next_28 ?_
      obtain ⟨z8, e_z8, hf⟩ := nmI_some hf
      refine j_nmi e_z8 ?_
      obtain ⟨hi9, hf⟩ := gix_some hf
      refine j_iast C 1 (Wd_Days_next g p_a0 p_a0_shut v_a0_gone n_a0_shut (upd f_a0_shut x3.toNatClampNeg z8)) rfl hi9 rfl dX1_next_29 ?_
      exact j_Days_next_30 C p_a0 p_a0_shut hk_2 x1 x2 x3 v_a0_gone n_a0_shut (upd f_a0_shut x3.toNatClampNeg z8) hf
set_option maxHeartbeats 4000000 in
set_option maxRecDepth 100000 in
theorem j_Days_next_2 {E : Ev} {g : Gd} {A : Nat → Prop} (C : Cx E g A RX1 cX1_next wsX1_next 4 none) (p_a0 : Nat) (p_a0_shut : Nat) {ρ : Int32 × (Nat → Int32)} : ∀ (n : Nat) (x1 : Int32) (x2 : Int32) (x3 : Int32) (v_a0_gone : Int32) (n_a0_shut : Nat) (f_a0_shut : Nat → Int32), f_Days_next_2 n x1 x2 x3 v_a0_gone n_a0_shut f_a0_shut = some ρ → J E rm_Days_next g A 4 (QV E g A (Wd_Days_next g p_a0 p_a0_shut ρ.1 n_a0_shut ρ.2) 0 0) 0 0 (Wd_Days_next g p_a0 p_a0_shut v_a0_gone n_a0_shut f_a0_shut) [(0, .ref p_a0), (1, .int x1), (2, .int x2), (3, .int x3)] 2 [] := by
  intro n
  induction n with
  | zero => intro x1 x2 x3 v_a0_gone n_a0_shut f_a0_shut h; have h0 : (none : Option (Int32 × (Nat → Int32))) = some ρ := h; cases h0
  | succ n ih => intro x1 x2 x3 v_a0_gone n_a0_shut f_a0_shut h; exact jb_Days_next_2 C p_a0 p_a0_shut ih x1 x2 x3 v_a0_gone n_a0_shut f_a0_shut h
noncomputable def f_Days_next (x1 : Int32) (x2 : Int32) (v_a0_gone : Int32) (n_a0_shut : Nat) (f_a0_shut : Nat → Int32) : Option (Int32 × (Nat → Int32)) := f_Days_next_2 FU x1 x2 0 v_a0_gone n_a0_shut f_a0_shut
set_option maxHeartbeats 4000000 in
set_option maxRecDepth 100000 in
theorem c_Days_next (l : Launch) (g : Gd) (p_a0 : Nat) (p_a0_shut : Nat) (v_a0_gone : Int32) (n_a0_shut : Nat) (f_a0_shut : Nat → Int32) (x1 : Int32) (x2 : Int32) {ρ : Int32 × (Nat → Int32)} (hf : f_Days_next x1 x2 v_a0_gone n_a0_shut f_a0_shut = some ρ) : CtV l g yX1_next wsX1_next rm_Days_next [.ref p_a0, .int x1, .int x2] (Wd_Days_next g p_a0 p_a0_shut v_a0_gone n_a0_shut f_a0_shut) (Wd_Days_next g p_a0 p_a0_shut ρ.1 n_a0_shut ρ.2) := by
  refine CtV.of (by decide) rfl rfl (Nat.le_of_ble_eq_true rfl) (fun E A _ C => ?_)
  unfold f_Days_next at hf
  show J E rm_Days_next g A 4 (QV E g A (Wd_Days_next g p_a0 p_a0_shut ρ.1 n_a0_shut ρ.2) 0 0) 0 0 (Wd_Days_next g p_a0 p_a0_shut v_a0_gone n_a0_shut f_a0_shut) [(0, .ref p_a0), (1, .int x1), (2, .int x2)] 0 []
  refine j_iconst C dX1_next_0 (v := 0) (by decide) ?_
  refine j_istore_n C [(3, .int 0), (0, .ref p_a0), (1, .int x1), (2, .int x2)] dX1_next_1 rfl (by decide) rfl ?_
  refine j_lv [1, 2, 3, 0] rfl ?_
  exact j_Days_next_2 C p_a0 p_a0_shut FU x1 x2 0 v_a0_gone n_a0_shut f_a0_shut hf
abbrev rm_Days_shutSet : Room := { frames := 0, cells := 0, slots := 0, locals := 0 }
def Wd_Days_shutSet (g : Gd) (p_a0 : Nat) (p_a0_shut : Nat) (v_a0_gone : Int32) (n_a0_shut : Nat) (f_a0_shut : Nat → Int32) : va_W := [(p_a0, .inr (0, [.int v_a0_gone, .ref p_a0_shut])), (p_a0_shut, .inl (g.2.1 0, n_a0_shut, .inl f_a0_shut))]
theorem iw_Days_shutSet_1 : ∀ w ∈ wsX10, w ∈ wsX1_shutSet := fun w h => List.mem_cons_of_mem _ (List.mem_append_right _ h)
theorem fl_15_Days_shutSet : Cond.fieldLink RX1 15 "ShutWays$Days" (TX1 1).2.1 (TX1 1).2.2.1 ∈ wsX1_shutSet := by decide +kernel
noncomputable def f_Days_shutSet_28 (k_4 : Int32 → Int32 → Nat → (Nat → Int32) → Option (Int32)) (x1 : Int32) (x2 : Int32) (n_a0_shut : Nat) (f_a0_shut : Nat → Int32) : Option (Int32) := k_4 x1 (x2 + 1) n_a0_shut f_a0_shut
set_option maxHeartbeats 4000000 in
set_option maxRecDepth 100000 in
theorem j_Days_shutSet_28 {E : Ev} {g : Gd} {A : Nat → Prop} (C : Cx E g A RX1 cX1_shutSet wsX1_shutSet 3 (some .int)) (p_a0 : Nat) (p_a0_shut : Nat) (v_a0_gone : Int32) {ρ : Int32} {k_4 : Int32 → Int32 → Nat → (Nat → Int32) → Option (Int32)} (hk_4 : ∀ (x1 : Int32) (x2 : Int32) (n_a0_shut : Nat) (f_a0_shut : Nat → Int32), k_4 x1 x2 n_a0_shut f_a0_shut = some ρ → J E rm_Days_shutSet g A 3 (QI E g A ρ (Wd_Days_shutSet g p_a0 p_a0_shut v_a0_gone n_a0_shut f_a0_shut) 0 0) 0 0 (Wd_Days_shutSet g p_a0 p_a0_shut v_a0_gone n_a0_shut f_a0_shut) [(0, .ref p_a0), (1, .int x1), (2, .int x2)] 4 []) (x1 : Int32) (x2 : Int32) (n_a0_shut : Nat) (f_a0_shut : Nat → Int32) (hf : f_Days_shutSet_28 k_4 x1 x2 n_a0_shut f_a0_shut = some ρ) : J E rm_Days_shutSet g A 3 (QI E g A ρ (Wd_Days_shutSet g p_a0 p_a0_shut v_a0_gone n_a0_shut f_a0_shut) 0 0) 0 0 (Wd_Days_shutSet g p_a0 p_a0_shut v_a0_gone n_a0_shut f_a0_shut) [(0, .ref p_a0), (1, .int x1), (2, .int x2)] 28 [] := by
  unfold f_Days_shutSet_28 at hf
  refine j_iinc C (v := (x2 + 1)) 2 [(2, .int (x2 + 1)), (0, .ref p_a0), (1, .int x1)] dX1_shutSet_28 rfl (by first | rfl | decide) (by decide) rfl ?_
  refine j_goto C 4 dX1_shutSet_31 (by decide) ?_
  refine j_lv [1, 2, 0] rfl ?_
  exact hk_4 x1 (x2 + 1) n_a0_shut f_a0_shut hf
noncomputable def b_Days_shutSet_4 (k_4 : Int32 → Int32 → Nat → (Nat → Int32) → Option (Int32)) (x1 : Int32) (x2 : Int32) (n_a0_shut : Nat) (f_a0_shut : Nat → Int32) : Option (Int32) := if (nI n_a0_shut) ≤ x2 then some x1 else gix x2 n_a0_shut (if (f_a0_shut x2.toNatClampNeg) ≤ 0 then f_Days_shutSet_28 k_4 x1 x2 n_a0_shut f_a0_shut else nmI (x1 ||| (1 <<< (x2 &&& 31))) (fun z4 => f_Days_shutSet_28 k_4 z4 x2 n_a0_shut f_a0_shut))
noncomputable def f_Days_shutSet_4 (n : Nat) : Int32 → Int32 → Nat → (Nat → Int32) → Option (Int32) := Nat.rec (motive := fun _ => Int32 → Int32 → Nat → (Nat → Int32) → Option (Int32)) (fun _ _ _ _ => none) (fun _ ih => b_Days_shutSet_4 ih) n
set_option maxHeartbeats 4000000 in
set_option maxRecDepth 100000 in
theorem jb_Days_shutSet_4 {E : Ev} {g : Gd} {A : Nat → Prop} (C : Cx E g A RX1 cX1_shutSet wsX1_shutSet 3 (some .int)) (p_a0 : Nat) (p_a0_shut : Nat) (v_a0_gone : Int32) {ρ : Int32} {k_4 : Int32 → Int32 → Nat → (Nat → Int32) → Option (Int32)} (hk_4 : ∀ (x1 : Int32) (x2 : Int32) (n_a0_shut : Nat) (f_a0_shut : Nat → Int32), k_4 x1 x2 n_a0_shut f_a0_shut = some ρ → J E rm_Days_shutSet g A 3 (QI E g A ρ (Wd_Days_shutSet g p_a0 p_a0_shut v_a0_gone n_a0_shut f_a0_shut) 0 0) 0 0 (Wd_Days_shutSet g p_a0 p_a0_shut v_a0_gone n_a0_shut f_a0_shut) [(0, .ref p_a0), (1, .int x1), (2, .int x2)] 4 []) (x1 : Int32) (x2 : Int32) (n_a0_shut : Nat) (f_a0_shut : Nat → Int32) (hf : b_Days_shutSet_4 k_4 x1 x2 n_a0_shut f_a0_shut = some ρ) : J E rm_Days_shutSet g A 3 (QI E g A ρ (Wd_Days_shutSet g p_a0 p_a0_shut v_a0_gone n_a0_shut f_a0_shut) 0 0) 0 0 (Wd_Days_shutSet g p_a0 p_a0_shut v_a0_gone n_a0_shut f_a0_shut) [(0, .ref p_a0), (1, .int x1), (2, .int x2)] 4 [] := by
  unfold b_Days_shutSet_4 at hf
  refine j_iload_n C 2 dX1_shutSet_4 rfl rfl ?_
  refine j_aload_n C 0 dX1_shutSet_5 rfl rfl ?_
  refine j_get C (ci := 0) 0 1 iw_Days_shutSet_1 rfl rfl (by decide) fl_15_Days_shutSet rfl rfl dX1_shutSet_6 ?_
  refine j_alen C (t := 0) 1 rfl rfl dX1_shutSet_9 ?_
  refine j_icmp_ge C 34 dX1_shutSet_10 (by decide) (fun c_1 => ?_) (fun c_1 => ?_)
  · replace hf := ifp c_1 hf
    refine j_iload_n C 1 dX1_shutSet_34 rfl rfl ?_
    obtain rfl := Option.some.inj hf
    exact j_iret C dX1_shutSet_35 rfl rfl
  · replace hf := ifn c_1 hf
    refine j_aload_n C 0 dX1_shutSet_13 rfl rfl ?_
    refine j_get C (ci := 0) 0 1 iw_Days_shutSet_1 rfl rfl (by decide) fl_15_Days_shutSet rfl rfl dX1_shutSet_14 ?_
    refine j_iload_n C 2 dX1_shutSet_17 rfl rfl ?_
    obtain ⟨hi2, hf⟩ := gix_some hf
    refine j_iald C 1 rfl hi2 dX1_shutSet_18 ?_
    refine j_if_le C 28 dX1_shutSet_19 (by decide) (fun c_3 => ?_) (fun c_3 => ?_)
    · replace hf := ifp c_3 hf
      exact j_Days_shutSet_28 C p_a0 p_a0_shut v_a0_gone hk_4 x1 x2 n_a0_shut f_a0_shut hf
    · replace hf := ifn c_3 hf
      refine j_iload_n C 1 dX1_shutSet_22 rfl rfl ?_
      refine j_iconst C dX1_shutSet_23 (v := 1) (by decide) ?_
      refine j_pc 24 rfl ?_
      refine j_iload_n C 2 dX1_shutSet_24 rfl rfl ?_
      refine j_ishl C dX1_shutSet_25 ?_
      refine j_ior C dX1_shutSet_26 ?_
      obtain ⟨z4, e_z4, hf⟩ := nmI_some hf
      refine j_nmi e_z4 ?_
      refine j_istore_n C [(1, .int z4), (0, .ref p_a0), (2, .int x2)] dX1_shutSet_27 rfl (by decide) rfl ?_
      refine j_lv [1, 0, 2] rfl ?_
      exact j_Days_shutSet_28 C p_a0 p_a0_shut v_a0_gone hk_4 z4 x2 n_a0_shut f_a0_shut hf
set_option maxHeartbeats 4000000 in
set_option maxRecDepth 100000 in
theorem j_Days_shutSet_4 {E : Ev} {g : Gd} {A : Nat → Prop} (C : Cx E g A RX1 cX1_shutSet wsX1_shutSet 3 (some .int)) (p_a0 : Nat) (p_a0_shut : Nat) (v_a0_gone : Int32) {ρ : Int32} : ∀ (n : Nat) (x1 : Int32) (x2 : Int32) (n_a0_shut : Nat) (f_a0_shut : Nat → Int32), f_Days_shutSet_4 n x1 x2 n_a0_shut f_a0_shut = some ρ → J E rm_Days_shutSet g A 3 (QI E g A ρ (Wd_Days_shutSet g p_a0 p_a0_shut v_a0_gone n_a0_shut f_a0_shut) 0 0) 0 0 (Wd_Days_shutSet g p_a0 p_a0_shut v_a0_gone n_a0_shut f_a0_shut) [(0, .ref p_a0), (1, .int x1), (2, .int x2)] 4 [] := by
  intro n
  induction n with
  | zero => intro x1 x2 n_a0_shut f_a0_shut h; have h0 : (none : Option (Int32)) = some ρ := h; cases h0
  | succ n ih => intro x1 x2 n_a0_shut f_a0_shut h; exact jb_Days_shutSet_4 C p_a0 p_a0_shut v_a0_gone ih x1 x2 n_a0_shut f_a0_shut h
noncomputable def f_Days_shutSet (n_a0_shut : Nat) (f_a0_shut : Nat → Int32) : Option (Int32) := f_Days_shutSet_4 FU 0 0 n_a0_shut f_a0_shut
set_option maxHeartbeats 4000000 in
set_option maxRecDepth 100000 in
theorem c_Days_shutSet (l : Launch) (g : Gd) (p_a0 : Nat) (p_a0_shut : Nat) (v_a0_gone : Int32) (n_a0_shut : Nat) (f_a0_shut : Nat → Int32) {ρ : Int32} (hf : f_Days_shutSet n_a0_shut f_a0_shut = some ρ) : CtI l g yX1_shutSet wsX1_shutSet rm_Days_shutSet [.ref p_a0] (Wd_Days_shutSet g p_a0 p_a0_shut v_a0_gone n_a0_shut f_a0_shut) ρ (Wd_Days_shutSet g p_a0 p_a0_shut v_a0_gone n_a0_shut f_a0_shut) := by
  refine CtI.of (by decide) rfl rfl (Nat.le_of_ble_eq_true rfl) (fun E A _ C => ?_)
  unfold f_Days_shutSet at hf
  show J E rm_Days_shutSet g A 3 (QI E g A ρ (Wd_Days_shutSet g p_a0 p_a0_shut v_a0_gone n_a0_shut f_a0_shut) 0 0) 0 0 (Wd_Days_shutSet g p_a0 p_a0_shut v_a0_gone n_a0_shut f_a0_shut) [(0, .ref p_a0)] 0 []
  refine j_iconst C dX1_shutSet_0 (v := 0) (by decide) ?_
  refine j_istore_n C [(1, .int 0), (0, .ref p_a0)] dX1_shutSet_1 rfl (by decide) rfl ?_
  refine j_iconst C dX1_shutSet_2 (v := 0) (by decide) ?_
  refine j_istore_n C [(2, .int 0), (1, .int 0), (0, .ref p_a0)] dX1_shutSet_3 rfl (by decide) rfl ?_
  refine j_lv [2, 1, 0] rfl ?_
  exact j_Days_shutSet_4 C p_a0 p_a0_shut v_a0_gone FU 0 0 n_a0_shut f_a0_shut hf
abbrev rm_Roads_has : Room := { frames := 0, cells := 0, slots := 0, locals := 0 }
def Wd_Roads_has (g : Gd) (p_a0 : Nat) (u_a0_from : Value) (u_a0_to : Value) (u_a0_yards : Value) (u_a0_paid : Value) (v_a0_count : Int32) : va_W := [(p_a0, .inr (6, [u_a0_from, u_a0_to, u_a0_yards, u_a0_paid, .int v_a0_count]))]
theorem iw_Roads_has_7 : ∀ w ∈ wsX70, w ∈ wsX7_has := fun w h => List.mem_cons_of_mem _ (List.mem_append_right _ h)
theorem fl_9_Roads_has : Cond.fieldLink RX7 9 "ShutWays$Roads" (TX7 4).2.1 (TX7 4).2.2.1 ∈ wsX7_has := by decide +kernel
noncomputable def f_Roads_has_17 (y0 : Int32) (v_a0_count : Int32) : Option (Int32) := gz y0 (some y0)
set_option maxHeartbeats 4000000 in
set_option maxRecDepth 100000 in
theorem j_Roads_has_17 {E : Ev} {g : Gd} {A : Nat → Prop} (C : Cx E g A RX7 cX7_has wsX7_has 2 (some .boolean)) (p_a0 : Nat) (u_a0_from : Value) (u_a0_to : Value) (u_a0_yards : Value) (u_a0_paid : Value) {ρ : Int32} (y0 : Int32) (v_a0_count : Int32) (hf : f_Roads_has_17 y0 v_a0_count = some ρ) : J E rm_Roads_has g A 2 (QI E g A ρ (Wd_Roads_has g p_a0 u_a0_from u_a0_to u_a0_yards u_a0_paid v_a0_count) 0 0) 0 0 (Wd_Roads_has g p_a0 u_a0_from u_a0_to u_a0_yards u_a0_paid v_a0_count) [] 17 [.int y0] := by
  unfold f_Roads_has_17 at hf
  obtain ⟨hz3, hf⟩ := gz_some hf
  obtain rfl := Option.some.inj hf
  exact j_zret C dX7_has_17 hz3 rfl rfl
noncomputable def f_Roads_has_16 (v_a0_count : Int32) : Option (Int32) := f_Roads_has_17 0 v_a0_count
set_option maxHeartbeats 4000000 in
set_option maxRecDepth 100000 in
theorem j_Roads_has_16 {E : Ev} {g : Gd} {A : Nat → Prop} (C : Cx E g A RX7 cX7_has wsX7_has 2 (some .boolean)) (p_a0 : Nat) (u_a0_from : Value) (u_a0_to : Value) (u_a0_yards : Value) (u_a0_paid : Value) {ρ : Int32} (v_a0_count : Int32) (hf : f_Roads_has_16 v_a0_count = some ρ) : J E rm_Roads_has g A 2 (QI E g A ρ (Wd_Roads_has g p_a0 u_a0_from u_a0_to u_a0_yards u_a0_paid v_a0_count) 0 0) 0 0 (Wd_Roads_has g p_a0 u_a0_from u_a0_to u_a0_yards u_a0_paid v_a0_count) [] 16 [] := by
  unfold f_Roads_has_16 at hf
  refine j_iconst C dX7_has_16 (v := 0) (by decide) ?_
  exact j_Roads_has_17 C p_a0 u_a0_from u_a0_to u_a0_yards u_a0_paid 0 v_a0_count hf
noncomputable def f_Roads_has (x1 : Int32) (v_a0_count : Int32) : Option (Int32) := if x1 < 0 then f_Roads_has_16 v_a0_count else if v_a0_count ≤ x1 then f_Roads_has_16 v_a0_count else f_Roads_has_17 1 v_a0_count
set_option maxHeartbeats 4000000 in
set_option maxRecDepth 100000 in
theorem c_Roads_has (l : Launch) (g : Gd) (p_a0 : Nat) (u_a0_from : Value) (u_a0_to : Value) (u_a0_yards : Value) (u_a0_paid : Value) (v_a0_count : Int32) (x1 : Int32) {ρ : Int32} (hf : f_Roads_has x1 v_a0_count = some ρ) : CtI l g yX7_has wsX7_has rm_Roads_has [.ref p_a0, .int x1] (Wd_Roads_has g p_a0 u_a0_from u_a0_to u_a0_yards u_a0_paid v_a0_count) ρ (Wd_Roads_has g p_a0 u_a0_from u_a0_to u_a0_yards u_a0_paid v_a0_count) := by
  refine CtI.of (by decide) rfl rfl (Nat.le_of_ble_eq_true rfl) (fun E A _ C => ?_)
  unfold f_Roads_has at hf
  show J E rm_Roads_has g A 2 (QI E g A ρ (Wd_Roads_has g p_a0 u_a0_from u_a0_to u_a0_yards u_a0_paid v_a0_count) 0 0) 0 0 (Wd_Roads_has g p_a0 u_a0_from u_a0_to u_a0_yards u_a0_paid v_a0_count) [(0, .ref p_a0), (1, .int x1)] 0 []
  refine j_iload_n C 1 dX7_has_0 rfl rfl ?_
  refine j_if_lt C 16 dX7_has_1 (by decide) (fun c_1 => ?_) (fun c_1 => ?_)
  · replace hf := ifp c_1 hf
    refine j_lv [] rfl ?_
    exact j_Roads_has_16 C p_a0 u_a0_from u_a0_to u_a0_yards u_a0_paid v_a0_count hf
  · replace hf := ifn c_1 hf
    refine j_iload_n C 1 dX7_has_4 rfl rfl ?_
    refine j_aload_n C 0 dX7_has_5 rfl rfl ?_
    refine j_get C (ci := 6) 0 4 iw_Roads_has_7 rfl rfl (by decide) fl_9_Roads_has rfl rfl dX7_has_6 ?_
    refine j_icmp_ge C 16 dX7_has_9 (by decide) (fun c_2 => ?_) (fun c_2 => ?_)
    · replace hf := ifp c_2 hf
      refine j_lv [] rfl ?_
      exact j_Roads_has_16 C p_a0 u_a0_from u_a0_to u_a0_yards u_a0_paid v_a0_count hf
    · replace hf := ifn c_2 hf
      refine j_iconst C dX7_has_12 (v := 1) (by decide) ?_
      refine j_goto C 17 dX7_has_13 (by decide) ?_
      refine j_lv [] rfl ?_
      exact j_Roads_has_17 C p_a0 u_a0_from u_a0_to u_a0_yards u_a0_paid 1 v_a0_count hf
abbrev rm_Roads_add : Room := { frames := 0, cells := 0, slots := 0, locals := 0 }
def Wd_Roads_add (g : Gd) (p_a0 : Nat) (p_a0_from : Nat) (p_a0_to : Nat) (p_a0_yards : Nat) (p_a0_paid : Nat) (v_a0_count : Int32) (n_a0_from : Nat) (f_a0_from : Nat → Int32) (n_a0_to : Nat) (f_a0_to : Nat → Int32) (n_a0_yards : Nat) (f_a0_yards : Nat → Int32) (n_a0_paid : Nat) (f_a0_paid : Nat → Int32) : va_W := [(p_a0, .inr (6, [.ref p_a0_from, .ref p_a0_to, .ref p_a0_yards, .ref p_a0_paid, .int v_a0_count])), (p_a0_from, .inl (g.2.1 0, n_a0_from, .inl f_a0_from)), (p_a0_to, .inl (g.2.1 0, n_a0_to, .inl f_a0_to)), (p_a0_yards, .inl (g.2.1 0, n_a0_yards, .inl f_a0_yards)), (p_a0_paid, .inl (g.2.1 0, n_a0_paid, .inl f_a0_paid))]
theorem iw_Roads_add_7 : ∀ w ∈ wsX70, w ∈ wsX7_add := fun w h => List.mem_cons_of_mem _ (List.mem_append_right _ h)
theorem fl_9_Roads_add : Cond.fieldLink RX7 9 "ShutWays$Roads" (TX7 4).2.1 (TX7 4).2.2.1 ∈ wsX7_add := by decide +kernel
theorem fl_15_Roads_add : Cond.fieldLink RX7 15 "ShutWays$Roads" (TX7 0).2.1 (TX7 0).2.2.1 ∈ wsX7_add := by decide +kernel
theorem fl_19_Roads_add : Cond.fieldLink RX7 19 "ShutWays$Roads" (TX7 1).2.1 (TX7 1).2.2.1 ∈ wsX7_add := by decide +kernel
theorem fl_22_Roads_add : Cond.fieldLink RX7 22 "ShutWays$Roads" (TX7 2).2.1 (TX7 2).2.2.1 ∈ wsX7_add := by decide +kernel
theorem fl_25_Roads_add : Cond.fieldLink RX7 25 "ShutWays$Roads" (TX7 3).2.1 (TX7 3).2.2.1 ∈ wsX7_add := by decide +kernel
noncomputable def f_Roads_add (x1 : Int32) (x2 : Int32) (x3 : Int32) (x4 : Int32) (v_a0_count : Int32) (n_a0_from : Nat) (f_a0_from : Nat → Int32) (n_a0_to : Nat) (f_a0_to : Nat → Int32) (n_a0_yards : Nat) (f_a0_yards : Nat → Int32) (n_a0_paid : Nat) (f_a0_paid : Nat → Int32) : Option (Int32 × (Nat → Int32) × (Nat → Int32) × (Nat → Int32) × (Nat → Int32)) := if v_a0_count < (nI n_a0_from) then gix v_a0_count n_a0_from (gix v_a0_count n_a0_to (gix v_a0_count n_a0_yards (gix v_a0_count n_a0_paid (nmI (v_a0_count + 1) (fun z6 => some (z6, (upd f_a0_from v_a0_count.toNatClampNeg x1), (upd f_a0_to v_a0_count.toNatClampNeg x2), (upd f_a0_yards v_a0_count.toNatClampNeg x3), (upd f_a0_paid v_a0_count.toNatClampNeg x4))))))) else some (v_a0_count, f_a0_from, f_a0_to, f_a0_yards, f_a0_paid)
set_option maxHeartbeats 4000000 in
set_option maxRecDepth 100000 in
theorem c_Roads_add (l : Launch) (g : Gd) (p_a0 : Nat) (p_a0_from : Nat) (p_a0_to : Nat) (p_a0_yards : Nat) (p_a0_paid : Nat) (v_a0_count : Int32) (n_a0_from : Nat) (f_a0_from : Nat → Int32) (n_a0_to : Nat) (f_a0_to : Nat → Int32) (n_a0_yards : Nat) (f_a0_yards : Nat → Int32) (n_a0_paid : Nat) (f_a0_paid : Nat → Int32) (x1 : Int32) (x2 : Int32) (x3 : Int32) (x4 : Int32) {ρ : Int32 × (Nat → Int32) × (Nat → Int32) × (Nat → Int32) × (Nat → Int32)} (hf : f_Roads_add x1 x2 x3 x4 v_a0_count n_a0_from f_a0_from n_a0_to f_a0_to n_a0_yards f_a0_yards n_a0_paid f_a0_paid = some ρ) : CtV l g yX7_add wsX7_add rm_Roads_add [.ref p_a0, .int x1, .int x2, .int x3, .int x4] (Wd_Roads_add g p_a0 p_a0_from p_a0_to p_a0_yards p_a0_paid v_a0_count n_a0_from f_a0_from n_a0_to f_a0_to n_a0_yards f_a0_yards n_a0_paid f_a0_paid) (Wd_Roads_add g p_a0 p_a0_from p_a0_to p_a0_yards p_a0_paid ρ.1 n_a0_from ρ.2.1 n_a0_to ρ.2.2.1 n_a0_yards ρ.2.2.2.1 n_a0_paid ρ.2.2.2.2) := by
  refine CtV.of (by decide) rfl rfl (Nat.le_of_ble_eq_true rfl) (fun E A _ C => ?_)
  unfold f_Roads_add at hf
  show J E rm_Roads_add g A 5 (QV E g A (Wd_Roads_add g p_a0 p_a0_from p_a0_to p_a0_yards p_a0_paid ρ.1 n_a0_from ρ.2.1 n_a0_to ρ.2.2.1 n_a0_yards ρ.2.2.2.1 n_a0_paid ρ.2.2.2.2) 0 0) 0 0 (Wd_Roads_add g p_a0 p_a0_from p_a0_to p_a0_yards p_a0_paid v_a0_count n_a0_from f_a0_from n_a0_to f_a0_to n_a0_yards f_a0_yards n_a0_paid f_a0_paid) [(0, .ref p_a0), (1, .int x1), (2, .int x2), (3, .int x3), (4, .int x4)] 0 []
  refine j_aload_n C 0 dX7_add_0 rfl rfl ?_
  refine j_get C (ci := 6) 0 4 iw_Roads_add_7 rfl rfl (by decide) fl_9_Roads_add rfl rfl dX7_add_1 ?_
  refine j_aload_n C 0 dX7_add_4 rfl rfl ?_
  refine j_get C (ci := 6) 0 0 iw_Roads_add_7 rfl rfl (by decide) fl_15_Roads_add rfl rfl dX7_add_5 ?_
  refine j_alen C (t := 0) 1 rfl rfl dX7_add_8 ?_
  refine j_icmp_lt C 13 dX7_add_9 (by decide) (fun c_1 => ?_) (fun c_1 => ?_)
  · replace hf := ifp c_1 hf
    refine j_aload_n C 0 dX7_add_13 rfl rfl ?_
    refine j_get C (ci := 6) 0 0 iw_Roads_add_7 rfl rfl (by decide) fl_15_Roads_add rfl rfl dX7_add_14 ?_
    refine j_aload_n C 0 dX7_add_17 rfl rfl ?_
    refine j_get C (ci := 6) 0 4 iw_Roads_add_7 rfl rfl (by decide) fl_9_Roads_add rfl rfl dX7_add_18 ?_
    refine j_iload_n C 1 dX7_add_21 rfl rfl ?_
    obtain ⟨hi2, hf⟩ := gix_some hf
    refine j_iast C 1 (Wd_Roads_add g p_a0 p_a0_from p_a0_to p_a0_yards p_a0_paid v_a0_count n_a0_from (upd f_a0_from v_a0_count.toNatClampNeg x1) n_a0_to f_a0_to n_a0_yards f_a0_yards n_a0_paid f_a0_paid) rfl hi2 rfl dX7_add_22 ?_
    refine j_pc 23 rfl ?_
    refine j_aload_n C 0 dX7_add_23 rfl rfl ?_
    refine j_get C (ci := 6) 0 1 iw_Roads_add_7 rfl rfl (by decide) fl_19_Roads_add rfl rfl dX7_add_24 ?_
    refine j_aload_n C 0 dX7_add_27 rfl rfl ?_
    refine j_get C (ci := 6) 0 4 iw_Roads_add_7 rfl rfl (by decide) fl_9_Roads_add rfl rfl dX7_add_28 ?_
    refine j_iload_n C 2 dX7_add_31 rfl rfl ?_
    obtain ⟨hi3, hf⟩ := gix_some hf
    refine j_iast C 2 (Wd_Roads_add g p_a0 p_a0_from p_a0_to p_a0_yards p_a0_paid v_a0_count n_a0_from (upd f_a0_from v_a0_count.toNatClampNeg x1) n_a0_to (upd f_a0_to v_a0_count.toNatClampNeg x2) n_a0_yards f_a0_yards n_a0_paid f_a0_paid) rfl hi3 rfl dX7_add_32 ?_
    refine j_aload_n C 0 dX7_add_33 rfl rfl ?_
    refine j_get C (ci := 6) 0 2 iw_Roads_add_7 rfl rfl (by decide) fl_22_Roads_add rfl rfl dX7_add_34 ?_
    refine j_aload_n C 0 dX7_add_37 rfl rfl ?_
    refine j_get C (ci := 6) 0 4 iw_Roads_add_7 rfl rfl (by decide) fl_9_Roads_add rfl rfl dX7_add_38 ?_
    refine j_iload_n C 3 dX7_add_41 rfl rfl ?_
    obtain ⟨hi4, hf⟩ := gix_some hf
    refine j_iast C 3 (Wd_Roads_add g p_a0 p_a0_from p_a0_to p_a0_yards p_a0_paid v_a0_count n_a0_from (upd f_a0_from v_a0_count.toNatClampNeg x1) n_a0_to (upd f_a0_to v_a0_count.toNatClampNeg x2) n_a0_yards (upd f_a0_yards v_a0_count.toNatClampNeg x3) n_a0_paid f_a0_paid) rfl hi4 rfl dX7_add_42 ?_
    refine j_pc 43 rfl ?_
    refine j_aload_n C 0 dX7_add_43 rfl rfl ?_
    refine j_get C (ci := 6) 0 3 iw_Roads_add_7 rfl rfl (by decide) fl_25_Roads_add rfl rfl dX7_add_44 ?_
    refine j_aload_n C 0 dX7_add_47 rfl rfl ?_
    refine j_get C (ci := 6) 0 4 iw_Roads_add_7 rfl rfl (by decide) fl_9_Roads_add rfl rfl dX7_add_48 ?_
    refine j_iload C 4 dX7_add_51 rfl ?_
    obtain ⟨hi5, hf⟩ := gix_some hf
    refine j_iast C 4 (Wd_Roads_add g p_a0 p_a0_from p_a0_to p_a0_yards p_a0_paid v_a0_count n_a0_from (upd f_a0_from v_a0_count.toNatClampNeg x1) n_a0_to (upd f_a0_to v_a0_count.toNatClampNeg x2) n_a0_yards (upd f_a0_yards v_a0_count.toNatClampNeg x3) n_a0_paid (upd f_a0_paid v_a0_count.toNatClampNeg x4)) rfl hi5 rfl dX7_add_53 ?_
    refine j_aload_n C 0 dX7_add_54 rfl rfl ?_
    refine j_dup C dX7_add_55 rfl ?_
    refine j_get C (ci := 6) 0 4 iw_Roads_add_7 rfl rfl (by decide) fl_9_Roads_add rfl rfl dX7_add_56 ?_
    refine j_iconst C dX7_add_59 (v := 1) (by decide) ?_
    refine j_iadd C dX7_add_60 ?_
    obtain ⟨z6, e_z6, hf⟩ := nmI_some hf
    refine j_nmi e_z6 ?_
    refine j_put C (ci := 6) 0 4 (Wd_Roads_add g p_a0 p_a0_from p_a0_to p_a0_yards p_a0_paid z6 n_a0_from (upd f_a0_from v_a0_count.toNatClampNeg x1) n_a0_to (upd f_a0_to v_a0_count.toNatClampNeg x2) n_a0_yards (upd f_a0_yards v_a0_count.toNatClampNeg x3) n_a0_paid (upd f_a0_paid v_a0_count.toNatClampNeg x4)) iw_Roads_add_7 tyX7_ok nmX7 rfl rfl (by decide) fl_9_Roads_add rfl rfl rfl rfl (Nat.le_of_ble_eq_true rfl) rfl dX7_add_61 ?_
    obtain rfl := Option.some.inj hf
    exact j_vret C dX7_add_64 rfl
  · replace hf := ifn c_1 hf
    obtain rfl := Option.some.inj hf
    exact j_vret C dX7_add_12 rfl
abbrev rm_Roads_copyFrom : Room := { frames := 1, cells := 0, slots := 0, locals := 24 }
def Wd_Roads_copyFrom (g : Gd) (p_a0 : Nat) (p_a1 : Nat) (p_a1_from : Nat) (p_a1_to : Nat) (p_a1_yards : Nat) (p_a1_paid : Nat) (p_a0_from : Nat) (p_a0_to : Nat) (p_a0_yards : Nat) (p_a0_paid : Nat) (v_a0_count : Int32) (v_a1_count : Int32) (n_a1_from : Nat) (f_a1_from : Nat → Int32) (n_a1_to : Nat) (f_a1_to : Nat → Int32) (n_a1_yards : Nat) (f_a1_yards : Nat → Int32) (n_a1_paid : Nat) (f_a1_paid : Nat → Int32) (n_a0_from : Nat) (f_a0_from : Nat → Int32) (n_a0_to : Nat) (f_a0_to : Nat → Int32) (n_a0_yards : Nat) (f_a0_yards : Nat → Int32) (n_a0_paid : Nat) (f_a0_paid : Nat → Int32) : va_W := [(p_a0, .inr (6, [.ref p_a0_from, .ref p_a0_to, .ref p_a0_yards, .ref p_a0_paid, .int v_a0_count])), (p_a1, .inr (6, [.ref p_a1_from, .ref p_a1_to, .ref p_a1_yards, .ref p_a1_paid, .int v_a1_count])), (p_a1_from, .inl (g.2.1 0, n_a1_from, .inl f_a1_from)), (p_a1_to, .inl (g.2.1 0, n_a1_to, .inl f_a1_to)), (p_a1_yards, .inl (g.2.1 0, n_a1_yards, .inl f_a1_yards)), (p_a1_paid, .inl (g.2.1 0, n_a1_paid, .inl f_a1_paid)), (p_a0_from, .inl (g.2.1 0, n_a0_from, .inl f_a0_from)), (p_a0_to, .inl (g.2.1 0, n_a0_to, .inl f_a0_to)), (p_a0_yards, .inl (g.2.1 0, n_a0_yards, .inl f_a0_yards)), (p_a0_paid, .inl (g.2.1 0, n_a0_paid, .inl f_a0_paid))]
theorem iw_Roads_copyFrom_7 : ∀ w ∈ wsX70, w ∈ wsX7_copyFrom := fun w h => List.mem_cons_of_mem _ (List.mem_append_right _ h)
theorem fl_9_Roads_copyFrom : Cond.fieldLink RX7 9 "ShutWays$Roads" (TX7 4).2.1 (TX7 4).2.2.1 ∈ wsX7_copyFrom := by decide +kernel
theorem fl_15_Roads_copyFrom : Cond.fieldLink RX7 15 "ShutWays$Roads" (TX7 0).2.1 (TX7 0).2.2.1 ∈ wsX7_copyFrom := by decide +kernel
theorem fl_19_Roads_copyFrom : Cond.fieldLink RX7 19 "ShutWays$Roads" (TX7 1).2.1 (TX7 1).2.2.1 ∈ wsX7_copyFrom := by decide +kernel
theorem fl_22_Roads_copyFrom : Cond.fieldLink RX7 22 "ShutWays$Roads" (TX7 2).2.1 (TX7 2).2.2.1 ∈ wsX7_copyFrom := by decide +kernel
theorem fl_25_Roads_copyFrom : Cond.fieldLink RX7 25 "ShutWays$Roads" (TX7 3).2.1 (TX7 3).2.2.1 ∈ wsX7_copyFrom := by decide +kernel
noncomputable def b_Roads_copyFrom_7 (k_7 : Int32 → Int32 → Int32 → Nat → (Nat → Int32) → Nat → (Nat → Int32) → Nat → (Nat → Int32) → Nat → (Nat → Int32) → Nat → (Nat → Int32) → Nat → (Nat → Int32) → Nat → (Nat → Int32) → Nat → (Nat → Int32) → Option (Int32 × (Nat → Int32) × (Nat → Int32) × (Nat → Int32) × (Nat → Int32))) (x2 : Int32) (v_a0_count : Int32) (v_a1_count : Int32) (n_a1_from : Nat) (f_a1_from : Nat → Int32) (n_a1_to : Nat) (f_a1_to : Nat → Int32) (n_a1_yards : Nat) (f_a1_yards : Nat → Int32) (n_a1_paid : Nat) (f_a1_paid : Nat → Int32) (n_a0_from : Nat) (f_a0_from : Nat → Int32) (n_a0_to : Nat) (f_a0_to : Nat → Int32) (n_a0_yards : Nat) (f_a0_yards : Nat → Int32) (n_a0_paid : Nat) (f_a0_paid : Nat → Int32) : Option (Int32 × (Nat → Int32) × (Nat → Int32) × (Nat → Int32) × (Nat → Int32)) := if v_a1_count ≤ x2 then some (v_a0_count, f_a0_from, f_a0_to, f_a0_yards, f_a0_paid) else gix x2 n_a1_from (gix x2 n_a1_to (gix x2 n_a1_yards (gix x2 n_a1_paid ((f_Roads_add (f_a1_from x2.toNatClampNeg) (f_a1_to x2.toNatClampNeg) (f_a1_yards x2.toNatClampNeg) (f_a1_paid x2.toNatClampNeg) v_a0_count n_a0_from f_a0_from n_a0_to f_a0_to n_a0_yards f_a0_yards n_a0_paid f_a0_paid).bind (fun r6 => k_7 (x2 + 1) r6.1 v_a1_count n_a1_from f_a1_from n_a1_to f_a1_to n_a1_yards f_a1_yards n_a1_paid f_a1_paid n_a0_from r6.2.1 n_a0_to r6.2.2.1 n_a0_yards r6.2.2.2.1 n_a0_paid r6.2.2.2.2)))))
noncomputable def f_Roads_copyFrom_7 (n : Nat) : Int32 → Int32 → Int32 → Nat → (Nat → Int32) → Nat → (Nat → Int32) → Nat → (Nat → Int32) → Nat → (Nat → Int32) → Nat → (Nat → Int32) → Nat → (Nat → Int32) → Nat → (Nat → Int32) → Nat → (Nat → Int32) → Option (Int32 × (Nat → Int32) × (Nat → Int32) × (Nat → Int32) × (Nat → Int32)) := Nat.rec (motive := fun _ => Int32 → Int32 → Int32 → Nat → (Nat → Int32) → Nat → (Nat → Int32) → Nat → (Nat → Int32) → Nat → (Nat → Int32) → Nat → (Nat → Int32) → Nat → (Nat → Int32) → Nat → (Nat → Int32) → Nat → (Nat → Int32) → Option (Int32 × (Nat → Int32) × (Nat → Int32) × (Nat → Int32) × (Nat → Int32))) (fun _ _ _ _ _ _ _ _ _ _ _ _ _ _ _ _ _ _ _ => none) (fun _ ih => b_Roads_copyFrom_7 ih) n
set_option maxHeartbeats 4000000 in
set_option maxRecDepth 100000 in
theorem jb_Roads_copyFrom_7 {E : Ev} {g : Gd} {A : Nat → Prop} (C : Cx E g A RX7 cX7_copyFrom wsX7_copyFrom 3 none) (p_a0 : Nat) (p_a1 : Nat) (p_a1_from : Nat) (p_a1_to : Nat) (p_a1_yards : Nat) (p_a1_paid : Nat) (p_a0_from : Nat) (p_a0_to : Nat) (p_a0_yards : Nat) (p_a0_paid : Nat) {ρ : Int32 × (Nat → Int32) × (Nat → Int32) × (Nat → Int32) × (Nat → Int32)} {k_7 : Int32 → Int32 → Int32 → Nat → (Nat → Int32) → Nat → (Nat → Int32) → Nat → (Nat → Int32) → Nat → (Nat → Int32) → Nat → (Nat → Int32) → Nat → (Nat → Int32) → Nat → (Nat → Int32) → Nat → (Nat → Int32) → Option (Int32 × (Nat → Int32) × (Nat → Int32) × (Nat → Int32) × (Nat → Int32))} (hk_7 : ∀ (x2 : Int32) (v_a0_count : Int32) (v_a1_count : Int32) (n_a1_from : Nat) (f_a1_from : Nat → Int32) (n_a1_to : Nat) (f_a1_to : Nat → Int32) (n_a1_yards : Nat) (f_a1_yards : Nat → Int32) (n_a1_paid : Nat) (f_a1_paid : Nat → Int32) (n_a0_from : Nat) (f_a0_from : Nat → Int32) (n_a0_to : Nat) (f_a0_to : Nat → Int32) (n_a0_yards : Nat) (f_a0_yards : Nat → Int32) (n_a0_paid : Nat) (f_a0_paid : Nat → Int32), k_7 x2 v_a0_count v_a1_count n_a1_from f_a1_from n_a1_to f_a1_to n_a1_yards f_a1_yards n_a1_paid f_a1_paid n_a0_from f_a0_from n_a0_to f_a0_to n_a0_yards f_a0_yards n_a0_paid f_a0_paid = some ρ → J E rm_Roads_copyFrom g A 3 (QV E g A (Wd_Roads_copyFrom g p_a0 p_a1 p_a1_from p_a1_to p_a1_yards p_a1_paid p_a0_from p_a0_to p_a0_yards p_a0_paid ρ.1 v_a1_count n_a1_from f_a1_from n_a1_to f_a1_to n_a1_yards f_a1_yards n_a1_paid f_a1_paid n_a0_from ρ.2.1 n_a0_to ρ.2.2.1 n_a0_yards ρ.2.2.2.1 n_a0_paid ρ.2.2.2.2) 0 0) 0 0 (Wd_Roads_copyFrom g p_a0 p_a1 p_a1_from p_a1_to p_a1_yards p_a1_paid p_a0_from p_a0_to p_a0_yards p_a0_paid v_a0_count v_a1_count n_a1_from f_a1_from n_a1_to f_a1_to n_a1_yards f_a1_yards n_a1_paid f_a1_paid n_a0_from f_a0_from n_a0_to f_a0_to n_a0_yards f_a0_yards n_a0_paid f_a0_paid) [(0, .ref p_a0), (1, .ref p_a1), (2, .int x2)] 7 []) (x2 : Int32) (v_a0_count : Int32) (v_a1_count : Int32) (n_a1_from : Nat) (f_a1_from : Nat → Int32) (n_a1_to : Nat) (f_a1_to : Nat → Int32) (n_a1_yards : Nat) (f_a1_yards : Nat → Int32) (n_a1_paid : Nat) (f_a1_paid : Nat → Int32) (n_a0_from : Nat) (f_a0_from : Nat → Int32) (n_a0_to : Nat) (f_a0_to : Nat → Int32) (n_a0_yards : Nat) (f_a0_yards : Nat → Int32) (n_a0_paid : Nat) (f_a0_paid : Nat → Int32) (hf : b_Roads_copyFrom_7 k_7 x2 v_a0_count v_a1_count n_a1_from f_a1_from n_a1_to f_a1_to n_a1_yards f_a1_yards n_a1_paid f_a1_paid n_a0_from f_a0_from n_a0_to f_a0_to n_a0_yards f_a0_yards n_a0_paid f_a0_paid = some ρ) : J E rm_Roads_copyFrom g A 3 (QV E g A (Wd_Roads_copyFrom g p_a0 p_a1 p_a1_from p_a1_to p_a1_yards p_a1_paid p_a0_from p_a0_to p_a0_yards p_a0_paid ρ.1 v_a1_count n_a1_from f_a1_from n_a1_to f_a1_to n_a1_yards f_a1_yards n_a1_paid f_a1_paid n_a0_from ρ.2.1 n_a0_to ρ.2.2.1 n_a0_yards ρ.2.2.2.1 n_a0_paid ρ.2.2.2.2) 0 0) 0 0 (Wd_Roads_copyFrom g p_a0 p_a1 p_a1_from p_a1_to p_a1_yards p_a1_paid p_a0_from p_a0_to p_a0_yards p_a0_paid v_a0_count v_a1_count n_a1_from f_a1_from n_a1_to f_a1_to n_a1_yards f_a1_yards n_a1_paid f_a1_paid n_a0_from f_a0_from n_a0_to f_a0_to n_a0_yards f_a0_yards n_a0_paid f_a0_paid) [(0, .ref p_a0), (1, .ref p_a1), (2, .int x2)] 7 [] := by
  unfold b_Roads_copyFrom_7 at hf
  refine j_iload_n C 2 dX7_copyFrom_7 rfl rfl ?_
  refine j_aload_n C 1 dX7_copyFrom_8 rfl rfl ?_
  refine j_get C (ci := 6) 1 4 iw_Roads_copyFrom_7 rfl rfl (by decide) fl_9_Roads_copyFrom rfl rfl dX7_copyFrom_9 ?_
  refine j_icmp_ge C 49 dX7_copyFrom_12 (by decide) (fun c_1 => ?_) (fun c_1 => ?_)
  · replace hf := ifp c_1 hf
    obtain rfl := Option.some.inj hf
    exact j_vret C dX7_copyFrom_49 rfl
  · replace hf := ifn c_1 hf
    refine j_aload_n C 0 dX7_copyFrom_15 rfl rfl ?_
    refine j_aload_n C 1 dX7_copyFrom_16 rfl rfl ?_
    refine j_get C (ci := 6) 1 0 iw_Roads_copyFrom_7 rfl rfl (by decide) fl_15_Roads_copyFrom rfl rfl dX7_copyFrom_17 ?_
    refine j_iload_n C 2 dX7_copyFrom_20 rfl rfl ?_
    obtain ⟨hi2, hf⟩ := gix_some hf
    refine j_iald C 2 rfl hi2 dX7_copyFrom_21 ?_
    refine j_aload_n C 1 dX7_copyFrom_22 rfl rfl ?_
    refine j_get C (ci := 6) 1 1 iw_Roads_copyFrom_7 rfl rfl (by decide) fl_19_Roads_copyFrom rfl rfl dX7_copyFrom_23 ?_
    refine j_iload_n C 2 dX7_copyFrom_26 rfl rfl ?_
    refine j_pc 27 rfl ?_
    obtain ⟨hi3, hf⟩ := gix_some hf
    refine j_iald C 3 rfl hi3 dX7_copyFrom_27 ?_
    refine j_aload_n C 1 dX7_copyFrom_28 rfl rfl ?_
    refine j_get C (ci := 6) 1 2 iw_Roads_copyFrom_7 rfl rfl (by decide) fl_22_Roads_copyFrom rfl rfl dX7_copyFrom_29 ?_
    refine j_iload_n C 2 dX7_copyFrom_32 rfl rfl ?_
    obtain ⟨hi4, hf⟩ := gix_some hf
    refine j_iald C 4 rfl hi4 dX7_copyFrom_33 ?_
    refine j_aload_n C 1 dX7_copyFrom_34 rfl rfl ?_
    refine j_get C (ci := 6) 1 3 iw_Roads_copyFrom_7 rfl rfl (by decide) fl_25_Roads_copyFrom rfl rfl dX7_copyFrom_35 ?_
    refine j_iload_n C 2 dX7_copyFrom_38 rfl rfl ?_
    obtain ⟨hi5, hf⟩ := gix_some hf
    refine j_iald C 5 rfl hi5 dX7_copyFrom_39 ?_
    obtain ⟨r6, hc7, hf⟩ := bnd hf
    refine j_cvV C (n := 4) (ci := 6) [.int (f_a1_from x2.toNatClampNeg), .int (f_a1_to x2.toNatClampNeg), .int (f_a1_yards x2.toNatClampNeg), .int (f_a1_paid x2.toNatClampNeg)] [0, 6, 7, 8, 9] [1, 2, 3, 4, 5] [5, 0, 1, 2, 3, 4, 6, 7, 8, 9] (Wd_Roads_copyFrom g p_a0 p_a1 p_a1_from p_a1_to p_a1_yards p_a1_paid p_a0_from p_a0_to p_a0_yards p_a0_paid r6.1 v_a1_count n_a1_from f_a1_from n_a1_to f_a1_to n_a1_yards f_a1_yards n_a1_paid f_a1_paid n_a0_from r6.2.1 n_a0_to r6.2.2.1 n_a0_yards r6.2.2.2.1 n_a0_paid r6.2.2.2.2) (c_Roads_add E.2.1 g p_a0 p_a0_from p_a0_to p_a0_yards p_a0_paid v_a0_count n_a0_from f_a0_from n_a0_to f_a0_to n_a0_yards f_a0_yards n_a0_paid f_a0_paid (f_a1_from x2.toNatClampNeg) (f_a1_to x2.toNatClampNeg) (f_a1_yards x2.toNatClampNeg) (f_a1_paid x2.toNatClampNeg) hc7) gX7_copyFrom_X7_add rfl rfl rfl (by decide +kernel) ⟨Nat.le_of_ble_eq_true rfl, Nat.le_of_ble_eq_true rfl⟩ rfl rfl (by decide) (by decide) (by decide) 0 rfl rfl (by decide) rfl rfl rfl (Nat.le_of_ble_eq_true rfl) ⟨Nat.zero_le _, Nat.zero_le _⟩ dX7_copyFrom_40 ?_
    refine j_iinc C (v := (x2 + 1)) 2 [(2, .int (x2 + 1)), (0, .ref p_a0), (1, .ref p_a1)] dX7_copyFrom_43 rfl (by first | rfl | decide) (by decide) rfl ?_
    refine j_goto C 7 dX7_copyFrom_46 (by decide) ?_
    refine j_lv [1, 2, 0] rfl ?_
    exact hk_7 (x2 + 1) r6.1 v_a1_count n_a1_from f_a1_from n_a1_to f_a1_to n_a1_yards f_a1_yards n_a1_paid f_a1_paid n_a0_from r6.2.1 n_a0_to r6.2.2.1 n_a0_yards r6.2.2.2.1 n_a0_paid r6.2.2.2.2 hf
set_option maxHeartbeats 4000000 in
set_option maxRecDepth 100000 in
theorem j_Roads_copyFrom_7 {E : Ev} {g : Gd} {A : Nat → Prop} (C : Cx E g A RX7 cX7_copyFrom wsX7_copyFrom 3 none) (p_a0 : Nat) (p_a1 : Nat) (p_a1_from : Nat) (p_a1_to : Nat) (p_a1_yards : Nat) (p_a1_paid : Nat) (p_a0_from : Nat) (p_a0_to : Nat) (p_a0_yards : Nat) (p_a0_paid : Nat) {ρ : Int32 × (Nat → Int32) × (Nat → Int32) × (Nat → Int32) × (Nat → Int32)} : ∀ (n : Nat) (x2 : Int32) (v_a0_count : Int32) (v_a1_count : Int32) (n_a1_from : Nat) (f_a1_from : Nat → Int32) (n_a1_to : Nat) (f_a1_to : Nat → Int32) (n_a1_yards : Nat) (f_a1_yards : Nat → Int32) (n_a1_paid : Nat) (f_a1_paid : Nat → Int32) (n_a0_from : Nat) (f_a0_from : Nat → Int32) (n_a0_to : Nat) (f_a0_to : Nat → Int32) (n_a0_yards : Nat) (f_a0_yards : Nat → Int32) (n_a0_paid : Nat) (f_a0_paid : Nat → Int32), f_Roads_copyFrom_7 n x2 v_a0_count v_a1_count n_a1_from f_a1_from n_a1_to f_a1_to n_a1_yards f_a1_yards n_a1_paid f_a1_paid n_a0_from f_a0_from n_a0_to f_a0_to n_a0_yards f_a0_yards n_a0_paid f_a0_paid = some ρ → J E rm_Roads_copyFrom g A 3 (QV E g A (Wd_Roads_copyFrom g p_a0 p_a1 p_a1_from p_a1_to p_a1_yards p_a1_paid p_a0_from p_a0_to p_a0_yards p_a0_paid ρ.1 v_a1_count n_a1_from f_a1_from n_a1_to f_a1_to n_a1_yards f_a1_yards n_a1_paid f_a1_paid n_a0_from ρ.2.1 n_a0_to ρ.2.2.1 n_a0_yards ρ.2.2.2.1 n_a0_paid ρ.2.2.2.2) 0 0) 0 0 (Wd_Roads_copyFrom g p_a0 p_a1 p_a1_from p_a1_to p_a1_yards p_a1_paid p_a0_from p_a0_to p_a0_yards p_a0_paid v_a0_count v_a1_count n_a1_from f_a1_from n_a1_to f_a1_to n_a1_yards f_a1_yards n_a1_paid f_a1_paid n_a0_from f_a0_from n_a0_to f_a0_to n_a0_yards f_a0_yards n_a0_paid f_a0_paid) [(0, .ref p_a0), (1, .ref p_a1), (2, .int x2)] 7 [] := by
  intro n
  induction n with
  | zero => intro x2 v_a0_count v_a1_count n_a1_from f_a1_from n_a1_to f_a1_to n_a1_yards f_a1_yards n_a1_paid f_a1_paid n_a0_from f_a0_from n_a0_to f_a0_to n_a0_yards f_a0_yards n_a0_paid f_a0_paid h; have h0 : (none : Option (Int32 × (Nat → Int32) × (Nat → Int32) × (Nat → Int32) × (Nat → Int32))) = some ρ := h; cases h0
  | succ n ih => intro x2 v_a0_count v_a1_count n_a1_from f_a1_from n_a1_to f_a1_to n_a1_yards f_a1_yards n_a1_paid f_a1_paid n_a0_from f_a0_from n_a0_to f_a0_to n_a0_yards f_a0_yards n_a0_paid f_a0_paid h; exact jb_Roads_copyFrom_7 C p_a0 p_a1 p_a1_from p_a1_to p_a1_yards p_a1_paid p_a0_from p_a0_to p_a0_yards p_a0_paid ih x2 v_a0_count v_a1_count n_a1_from f_a1_from n_a1_to f_a1_to n_a1_yards f_a1_yards n_a1_paid f_a1_paid n_a0_from f_a0_from n_a0_to f_a0_to n_a0_yards f_a0_yards n_a0_paid f_a0_paid h
noncomputable def f_Roads_copyFrom (v_a0_count : Int32) (v_a1_count : Int32) (n_a1_from : Nat) (f_a1_from : Nat → Int32) (n_a1_to : Nat) (f_a1_to : Nat → Int32) (n_a1_yards : Nat) (f_a1_yards : Nat → Int32) (n_a1_paid : Nat) (f_a1_paid : Nat → Int32) (n_a0_from : Nat) (f_a0_from : Nat → Int32) (n_a0_to : Nat) (f_a0_to : Nat → Int32) (n_a0_yards : Nat) (f_a0_yards : Nat → Int32) (n_a0_paid : Nat) (f_a0_paid : Nat → Int32) : Option (Int32 × (Nat → Int32) × (Nat → Int32) × (Nat → Int32) × (Nat → Int32)) := f_Roads_copyFrom_7 FU 0 0 v_a1_count n_a1_from f_a1_from n_a1_to f_a1_to n_a1_yards f_a1_yards n_a1_paid f_a1_paid n_a0_from f_a0_from n_a0_to f_a0_to n_a0_yards f_a0_yards n_a0_paid f_a0_paid
set_option maxHeartbeats 4000000 in
set_option maxRecDepth 100000 in
theorem c_Roads_copyFrom (l : Launch) (g : Gd) (p_a0 : Nat) (p_a1 : Nat) (p_a1_from : Nat) (p_a1_to : Nat) (p_a1_yards : Nat) (p_a1_paid : Nat) (p_a0_from : Nat) (p_a0_to : Nat) (p_a0_yards : Nat) (p_a0_paid : Nat) (v_a0_count : Int32) (v_a1_count : Int32) (n_a1_from : Nat) (f_a1_from : Nat → Int32) (n_a1_to : Nat) (f_a1_to : Nat → Int32) (n_a1_yards : Nat) (f_a1_yards : Nat → Int32) (n_a1_paid : Nat) (f_a1_paid : Nat → Int32) (n_a0_from : Nat) (f_a0_from : Nat → Int32) (n_a0_to : Nat) (f_a0_to : Nat → Int32) (n_a0_yards : Nat) (f_a0_yards : Nat → Int32) (n_a0_paid : Nat) (f_a0_paid : Nat → Int32) {ρ : Int32 × (Nat → Int32) × (Nat → Int32) × (Nat → Int32) × (Nat → Int32)} (hf : f_Roads_copyFrom v_a0_count v_a1_count n_a1_from f_a1_from n_a1_to f_a1_to n_a1_yards f_a1_yards n_a1_paid f_a1_paid n_a0_from f_a0_from n_a0_to f_a0_to n_a0_yards f_a0_yards n_a0_paid f_a0_paid = some ρ) : CtV l g yX7_copyFrom wsX7_copyFrom rm_Roads_copyFrom [.ref p_a0, .ref p_a1] (Wd_Roads_copyFrom g p_a0 p_a1 p_a1_from p_a1_to p_a1_yards p_a1_paid p_a0_from p_a0_to p_a0_yards p_a0_paid v_a0_count v_a1_count n_a1_from f_a1_from n_a1_to f_a1_to n_a1_yards f_a1_yards n_a1_paid f_a1_paid n_a0_from f_a0_from n_a0_to f_a0_to n_a0_yards f_a0_yards n_a0_paid f_a0_paid) (Wd_Roads_copyFrom g p_a0 p_a1 p_a1_from p_a1_to p_a1_yards p_a1_paid p_a0_from p_a0_to p_a0_yards p_a0_paid ρ.1 v_a1_count n_a1_from f_a1_from n_a1_to f_a1_to n_a1_yards f_a1_yards n_a1_paid f_a1_paid n_a0_from ρ.2.1 n_a0_to ρ.2.2.1 n_a0_yards ρ.2.2.2.1 n_a0_paid ρ.2.2.2.2) := by
  refine CtV.of (by decide) rfl rfl (Nat.le_of_ble_eq_true rfl) (fun E A _ C => ?_)
  unfold f_Roads_copyFrom at hf
  show J E rm_Roads_copyFrom g A 3 (QV E g A (Wd_Roads_copyFrom g p_a0 p_a1 p_a1_from p_a1_to p_a1_yards p_a1_paid p_a0_from p_a0_to p_a0_yards p_a0_paid ρ.1 v_a1_count n_a1_from f_a1_from n_a1_to f_a1_to n_a1_yards f_a1_yards n_a1_paid f_a1_paid n_a0_from ρ.2.1 n_a0_to ρ.2.2.1 n_a0_yards ρ.2.2.2.1 n_a0_paid ρ.2.2.2.2) 0 0) 0 0 (Wd_Roads_copyFrom g p_a0 p_a1 p_a1_from p_a1_to p_a1_yards p_a1_paid p_a0_from p_a0_to p_a0_yards p_a0_paid v_a0_count v_a1_count n_a1_from f_a1_from n_a1_to f_a1_to n_a1_yards f_a1_yards n_a1_paid f_a1_paid n_a0_from f_a0_from n_a0_to f_a0_to n_a0_yards f_a0_yards n_a0_paid f_a0_paid) [(0, .ref p_a0), (1, .ref p_a1)] 0 []
  refine j_aload_n C 0 dX7_copyFrom_0 rfl rfl ?_
  refine j_iconst C dX7_copyFrom_1 (v := 0) (by decide) ?_
  refine j_put C (ci := 6) 0 4 (Wd_Roads_copyFrom g p_a0 p_a1 p_a1_from p_a1_to p_a1_yards p_a1_paid p_a0_from p_a0_to p_a0_yards p_a0_paid 0 v_a1_count n_a1_from f_a1_from n_a1_to f_a1_to n_a1_yards f_a1_yards n_a1_paid f_a1_paid n_a0_from f_a0_from n_a0_to f_a0_to n_a0_yards f_a0_yards n_a0_paid f_a0_paid) iw_Roads_copyFrom_7 tyX7_ok nmX7 rfl rfl (by decide) fl_9_Roads_copyFrom rfl rfl rfl rfl (Nat.le_of_ble_eq_true rfl) rfl dX7_copyFrom_2 ?_
  refine j_iconst C dX7_copyFrom_5 (v := 0) (by decide) ?_
  refine j_istore_n C [(2, .int 0), (0, .ref p_a0), (1, .ref p_a1)] dX7_copyFrom_6 rfl (by decide) rfl ?_
  refine j_lv [1, 2, 0] rfl ?_
  exact j_Roads_copyFrom_7 C p_a0 p_a1 p_a1_from p_a1_to p_a1_yards p_a1_paid p_a0_from p_a0_to p_a0_yards p_a0_paid FU 0 0 v_a1_count n_a1_from f_a1_from n_a1_to f_a1_to n_a1_yards f_a1_yards n_a1_paid f_a1_paid n_a0_from f_a0_from n_a0_to f_a0_to n_a0_yards f_a0_yards n_a0_paid f_a0_paid hf
abbrev rm_Roads_tell : Room := { frames := 0, cells := 0, slots := 0, locals := 0 }
def Wd_Roads_tell (g : Gd) (p_a0 : Nat) (p_a0_from : Nat) (p_a0_to : Nat) (p_a0_yards : Nat) (p_a0_paid : Nat) (v_a0_count : Int32) (n_a0_from : Nat) (f_a0_from : Nat → Int32) (n_a0_to : Nat) (f_a0_to : Nat → Int32) (n_a0_yards : Nat) (f_a0_yards : Nat → Int32) (n_a0_paid : Nat) (f_a0_paid : Nat → Int32) : va_W := [(p_a0, .inr (6, [.ref p_a0_from, .ref p_a0_to, .ref p_a0_yards, .ref p_a0_paid, .int v_a0_count])), (p_a0_from, .inl (g.2.1 0, n_a0_from, .inl f_a0_from)), (p_a0_to, .inl (g.2.1 0, n_a0_to, .inl f_a0_to)), (p_a0_yards, .inl (g.2.1 0, n_a0_yards, .inl f_a0_yards)), (p_a0_paid, .inl (g.2.1 0, n_a0_paid, .inl f_a0_paid))]
theorem iw_Roads_tell_7 : ∀ w ∈ wsX70, w ∈ wsX7_tell := fun w h => List.mem_cons_of_mem _ (List.mem_append_right _ h)
theorem fl_15_Roads_tell : Cond.fieldLink RX7 15 "ShutWays$Roads" (TX7 0).2.1 (TX7 0).2.2.1 ∈ wsX7_tell := by decide +kernel
theorem fl_19_Roads_tell : Cond.fieldLink RX7 19 "ShutWays$Roads" (TX7 1).2.1 (TX7 1).2.2.1 ∈ wsX7_tell := by decide +kernel
theorem fl_22_Roads_tell : Cond.fieldLink RX7 22 "ShutWays$Roads" (TX7 2).2.1 (TX7 2).2.2.1 ∈ wsX7_tell := by decide +kernel
theorem fl_25_Roads_tell : Cond.fieldLink RX7 25 "ShutWays$Roads" (TX7 3).2.1 (TX7 3).2.2.1 ∈ wsX7_tell := by decide +kernel
noncomputable def f_Roads_tell (x1 : Int32) (x2 : Int32) (n_a0_from : Nat) (f_a0_from : Nat → Int32) (n_a0_to : Nat) (f_a0_to : Nat → Int32) (n_a0_yards : Nat) (f_a0_yards : Nat → Int32) (n_a0_paid : Nat) (f_a0_paid : Nat → Int32) : Option (Int32) := if x2 = 0 then gix x1 n_a0_from (some (f_a0_from x1.toNatClampNeg)) else if x2 = 1 then gix x1 n_a0_to (some (f_a0_to x1.toNatClampNeg)) else if x2 = 2 then gix x1 n_a0_yards (some (f_a0_yards x1.toNatClampNeg)) else if x2 = 3 then gix x1 n_a0_paid (some (f_a0_paid x1.toNatClampNeg)) else some (-3)
set_option maxHeartbeats 4000000 in
set_option maxRecDepth 100000 in
theorem c_Roads_tell (l : Launch) (g : Gd) (p_a0 : Nat) (p_a0_from : Nat) (p_a0_to : Nat) (p_a0_yards : Nat) (p_a0_paid : Nat) (v_a0_count : Int32) (n_a0_from : Nat) (f_a0_from : Nat → Int32) (n_a0_to : Nat) (f_a0_to : Nat → Int32) (n_a0_yards : Nat) (f_a0_yards : Nat → Int32) (n_a0_paid : Nat) (f_a0_paid : Nat → Int32) (x1 : Int32) (x2 : Int32) {ρ : Int32} (hf : f_Roads_tell x1 x2 n_a0_from f_a0_from n_a0_to f_a0_to n_a0_yards f_a0_yards n_a0_paid f_a0_paid = some ρ) : CtI l g yX7_tell wsX7_tell rm_Roads_tell [.ref p_a0, .int x1, .int x2] (Wd_Roads_tell g p_a0 p_a0_from p_a0_to p_a0_yards p_a0_paid v_a0_count n_a0_from f_a0_from n_a0_to f_a0_to n_a0_yards f_a0_yards n_a0_paid f_a0_paid) ρ (Wd_Roads_tell g p_a0 p_a0_from p_a0_to p_a0_yards p_a0_paid v_a0_count n_a0_from f_a0_from n_a0_to f_a0_to n_a0_yards f_a0_yards n_a0_paid f_a0_paid) := by
  refine CtI.of (by decide) rfl rfl (Nat.le_of_ble_eq_true rfl) (fun E A _ C => ?_)
  unfold f_Roads_tell at hf
  show J E rm_Roads_tell g A 3 (QI E g A ρ (Wd_Roads_tell g p_a0 p_a0_from p_a0_to p_a0_yards p_a0_paid v_a0_count n_a0_from f_a0_from n_a0_to f_a0_to n_a0_yards f_a0_yards n_a0_paid f_a0_paid) 0 0) 0 0 (Wd_Roads_tell g p_a0 p_a0_from p_a0_to p_a0_yards p_a0_paid v_a0_count n_a0_from f_a0_from n_a0_to f_a0_to n_a0_yards f_a0_yards n_a0_paid f_a0_paid) [(0, .ref p_a0), (1, .int x1), (2, .int x2)] 0 []
  refine j_iload_n C 2 dX7_tell_0 rfl rfl ?_
  by_cases c_1 : x2 = 0
  · replace hf := ifp c_1 hf
    refine j_tsIn C (v := 0) 32 dX7_tell_1 c_1 (by decide) (by decide) (by rfl) (by decide) ?_
    refine j_aload_n C 0 dX7_tell_32 rfl rfl ?_
    refine j_get C (ci := 6) 0 0 iw_Roads_tell_7 rfl rfl (by decide) fl_15_Roads_tell rfl rfl dX7_tell_33 ?_
    refine j_iload_n C 1 dX7_tell_36 rfl rfl ?_
    obtain ⟨hi2, hf⟩ := gix_some hf
    refine j_iald C 1 rfl hi2 dX7_tell_37 ?_
    obtain rfl := Option.some.inj hf
    exact j_iret C dX7_tell_38 rfl rfl
  · replace hf := ifn c_1 hf
    by_cases c_3 : x2 = 1
    · replace hf := ifp c_3 hf
      refine j_tsIn C (v := 1) 39 dX7_tell_1 c_3 (by decide) (by decide) (by rfl) (by decide) ?_
      refine j_aload_n C 0 dX7_tell_39 rfl rfl ?_
      refine j_get C (ci := 6) 0 1 iw_Roads_tell_7 rfl rfl (by decide) fl_19_Roads_tell rfl rfl dX7_tell_40 ?_
      refine j_iload_n C 1 dX7_tell_43 rfl rfl ?_
      obtain ⟨hi4, hf⟩ := gix_some hf
      refine j_iald C 2 rfl hi4 dX7_tell_44 ?_
      obtain rfl := Option.some.inj hf
      exact j_iret C dX7_tell_45 rfl rfl
    · replace hf := ifn c_3 hf
      by_cases c_5 : x2 = 2
      · replace hf := ifp c_5 hf
        refine j_tsIn C (v := 2) 46 dX7_tell_1 c_5 (by decide) (by decide) (by rfl) (by decide) ?_
        refine j_aload_n C 0 dX7_tell_46 rfl rfl ?_
        refine j_get C (ci := 6) 0 2 iw_Roads_tell_7 rfl rfl (by decide) fl_22_Roads_tell rfl rfl dX7_tell_47 ?_
        refine j_iload_n C 1 dX7_tell_50 rfl rfl ?_
        obtain ⟨hi6, hf⟩ := gix_some hf
        refine j_iald C 3 rfl hi6 dX7_tell_51 ?_
        obtain rfl := Option.some.inj hf
        exact j_iret C dX7_tell_52 rfl rfl
      · replace hf := ifn c_5 hf
        by_cases c_7 : x2 = 3
        · replace hf := ifp c_7 hf
          refine j_tsIn C (v := 3) 53 dX7_tell_1 c_7 (by decide) (by decide) (by rfl) (by decide) ?_
          refine j_aload_n C 0 dX7_tell_53 rfl rfl ?_
          refine j_get C (ci := 6) 0 3 iw_Roads_tell_7 rfl rfl (by decide) fl_25_Roads_tell rfl rfl dX7_tell_54 ?_
          refine j_iload_n C 1 dX7_tell_57 rfl rfl ?_
          obtain ⟨hi8, hf⟩ := gix_some hf
          refine j_iald C 4 rfl hi8 dX7_tell_58 ?_
          obtain rfl := Option.some.inj hf
          exact j_iret C dX7_tell_59 rfl rfl
        · replace hf := ifn c_7 hf
          refine j_tsOut C 60 dX7_tell_1 (by have t0 := lv_neT c_1 (show ((0 : Int32)).toInt = 0 by decide); have t1 := lv_neT c_3 (show ((1 : Int32)).toInt = 1 by decide); have t2 := lv_neT c_5 (show ((2 : Int32)).toInt = 2 by decide); have t3 := lv_neT c_7 (show ((3 : Int32)).toInt = 3 by decide); omega) (by decide) ?_
          refine j_bipush C dX7_tell_60 (v := (-3)) (by decide) ?_
          obtain rfl := Option.some.inj hf
          exact j_iret C dX7_tell_62 rfl rfl
abbrev rm_Roads_paidFor : Room := { frames := 0, cells := 0, slots := 0, locals := 0 }
def Wd_Roads_paidFor (g : Gd) (p_a0 : Nat) (p_a0_paid : Nat) (u_a0_from : Value) (u_a0_to : Value) (u_a0_yards : Value) (v_a0_count : Int32) (n_a0_paid : Nat) (f_a0_paid : Nat → Int32) : va_W := [(p_a0, .inr (6, [u_a0_from, u_a0_to, u_a0_yards, .ref p_a0_paid, .int v_a0_count])), (p_a0_paid, .inl (g.2.1 0, n_a0_paid, .inl f_a0_paid))]
theorem iw_Roads_paidFor_7 : ∀ w ∈ wsX70, w ∈ wsX7_paidFor := fun w h => List.mem_cons_of_mem _ (List.mem_append_right _ h)
theorem fl_9_Roads_paidFor : Cond.fieldLink RX7 9 "ShutWays$Roads" (TX7 4).2.1 (TX7 4).2.2.1 ∈ wsX7_paidFor := by decide +kernel
theorem fl_25_Roads_paidFor : Cond.fieldLink RX7 25 "ShutWays$Roads" (TX7 3).2.1 (TX7 3).2.2.1 ∈ wsX7_paidFor := by decide +kernel
noncomputable def f_Roads_paidFor_29 (k_4 : Int32 → Int32 → Int32 → Int32 → Nat → (Nat → Int32) → Option (Int32)) (x1 : Int32) (x2 : Int32) (x3 : Int32) (v_a0_count : Int32) (n_a0_paid : Nat) (f_a0_paid : Nat → Int32) : Option (Int32) := k_4 x1 x2 (x3 + 1) v_a0_count n_a0_paid f_a0_paid
set_option maxHeartbeats 4000000 in
set_option maxRecDepth 100000 in
theorem j_Roads_paidFor_29 {E : Ev} {g : Gd} {A : Nat → Prop} (C : Cx E g A RX7 cX7_paidFor wsX7_paidFor 4 (some .int)) (p_a0 : Nat) (p_a0_paid : Nat) (u_a0_from : Value) (u_a0_to : Value) (u_a0_yards : Value) {ρ : Int32} {k_4 : Int32 → Int32 → Int32 → Int32 → Nat → (Nat → Int32) → Option (Int32)} (hk_4 : ∀ (x1 : Int32) (x2 : Int32) (x3 : Int32) (v_a0_count : Int32) (n_a0_paid : Nat) (f_a0_paid : Nat → Int32), k_4 x1 x2 x3 v_a0_count n_a0_paid f_a0_paid = some ρ → J E rm_Roads_paidFor g A 4 (QI E g A ρ (Wd_Roads_paidFor g p_a0 p_a0_paid u_a0_from u_a0_to u_a0_yards v_a0_count n_a0_paid f_a0_paid) 0 0) 0 0 (Wd_Roads_paidFor g p_a0 p_a0_paid u_a0_from u_a0_to u_a0_yards v_a0_count n_a0_paid f_a0_paid) [(0, .ref p_a0), (1, .int x1), (2, .int x2), (3, .int x3)] 4 []) (x1 : Int32) (x2 : Int32) (x3 : Int32) (v_a0_count : Int32) (n_a0_paid : Nat) (f_a0_paid : Nat → Int32) (hf : f_Roads_paidFor_29 k_4 x1 x2 x3 v_a0_count n_a0_paid f_a0_paid = some ρ) : J E rm_Roads_paidFor g A 4 (QI E g A ρ (Wd_Roads_paidFor g p_a0 p_a0_paid u_a0_from u_a0_to u_a0_yards v_a0_count n_a0_paid f_a0_paid) 0 0) 0 0 (Wd_Roads_paidFor g p_a0 p_a0_paid u_a0_from u_a0_to u_a0_yards v_a0_count n_a0_paid f_a0_paid) [(0, .ref p_a0), (1, .int x1), (2, .int x2), (3, .int x3)] 29 [] := by
  unfold f_Roads_paidFor_29 at hf
  refine j_iinc C (v := (x3 + 1)) 3 [(3, .int (x3 + 1)), (0, .ref p_a0), (1, .int x1), (2, .int x2)] dX7_paidFor_29 rfl (by first | rfl | decide) (by decide) rfl ?_
  refine j_goto C 4 dX7_paidFor_32 (by decide) ?_
  refine j_lv [1, 2, 3, 0] rfl ?_
  exact hk_4 x1 x2 (x3 + 1) v_a0_count n_a0_paid f_a0_paid hf
noncomputable def b_Roads_paidFor_4 (k_4 : Int32 → Int32 → Int32 → Int32 → Nat → (Nat → Int32) → Option (Int32)) (x1 : Int32) (x2 : Int32) (x3 : Int32) (v_a0_count : Int32) (n_a0_paid : Nat) (f_a0_paid : Nat → Int32) : Option (Int32) := if v_a0_count ≤ x3 then some x2 else if (x1 &&& (1 <<< (x3 &&& 31))) = 0 then f_Roads_paidFor_29 k_4 x1 x2 x3 v_a0_count n_a0_paid f_a0_paid else gix x3 n_a0_paid (nmI (x2 + (f_a0_paid x3.toNatClampNeg)) (fun z4 => f_Roads_paidFor_29 k_4 x1 z4 x3 v_a0_count n_a0_paid f_a0_paid))
noncomputable def f_Roads_paidFor_4 (n : Nat) : Int32 → Int32 → Int32 → Int32 → Nat → (Nat → Int32) → Option (Int32) := Nat.rec (motive := fun _ => Int32 → Int32 → Int32 → Int32 → Nat → (Nat → Int32) → Option (Int32)) (fun _ _ _ _ _ _ => none) (fun _ ih => b_Roads_paidFor_4 ih) n
set_option maxHeartbeats 4000000 in
set_option maxRecDepth 100000 in
theorem jb_Roads_paidFor_4 {E : Ev} {g : Gd} {A : Nat → Prop} (C : Cx E g A RX7 cX7_paidFor wsX7_paidFor 4 (some .int)) (p_a0 : Nat) (p_a0_paid : Nat) (u_a0_from : Value) (u_a0_to : Value) (u_a0_yards : Value) {ρ : Int32} {k_4 : Int32 → Int32 → Int32 → Int32 → Nat → (Nat → Int32) → Option (Int32)} (hk_4 : ∀ (x1 : Int32) (x2 : Int32) (x3 : Int32) (v_a0_count : Int32) (n_a0_paid : Nat) (f_a0_paid : Nat → Int32), k_4 x1 x2 x3 v_a0_count n_a0_paid f_a0_paid = some ρ → J E rm_Roads_paidFor g A 4 (QI E g A ρ (Wd_Roads_paidFor g p_a0 p_a0_paid u_a0_from u_a0_to u_a0_yards v_a0_count n_a0_paid f_a0_paid) 0 0) 0 0 (Wd_Roads_paidFor g p_a0 p_a0_paid u_a0_from u_a0_to u_a0_yards v_a0_count n_a0_paid f_a0_paid) [(0, .ref p_a0), (1, .int x1), (2, .int x2), (3, .int x3)] 4 []) (x1 : Int32) (x2 : Int32) (x3 : Int32) (v_a0_count : Int32) (n_a0_paid : Nat) (f_a0_paid : Nat → Int32) (hf : b_Roads_paidFor_4 k_4 x1 x2 x3 v_a0_count n_a0_paid f_a0_paid = some ρ) : J E rm_Roads_paidFor g A 4 (QI E g A ρ (Wd_Roads_paidFor g p_a0 p_a0_paid u_a0_from u_a0_to u_a0_yards v_a0_count n_a0_paid f_a0_paid) 0 0) 0 0 (Wd_Roads_paidFor g p_a0 p_a0_paid u_a0_from u_a0_to u_a0_yards v_a0_count n_a0_paid f_a0_paid) [(0, .ref p_a0), (1, .int x1), (2, .int x2), (3, .int x3)] 4 [] := by
  unfold b_Roads_paidFor_4 at hf
  refine j_iload_n C 3 dX7_paidFor_4 rfl rfl ?_
  refine j_aload_n C 0 dX7_paidFor_5 rfl rfl ?_
  refine j_get C (ci := 6) 0 4 iw_Roads_paidFor_7 rfl rfl (by decide) fl_9_Roads_paidFor rfl rfl dX7_paidFor_6 ?_
  refine j_icmp_ge C 35 dX7_paidFor_9 (by decide) (fun c_1 => ?_) (fun c_1 => ?_)
  · replace hf := ifp c_1 hf
    refine j_iload_n C 2 dX7_paidFor_35 rfl rfl ?_
    obtain rfl := Option.some.inj hf
    exact j_iret C dX7_paidFor_36 rfl rfl
  · replace hf := ifn c_1 hf
    refine j_iload_n C 1 dX7_paidFor_12 rfl rfl ?_
    refine j_iconst C dX7_paidFor_13 (v := 1) (by decide) ?_
    refine j_iload_n C 3 dX7_paidFor_14 rfl rfl ?_
    refine j_ishl C dX7_paidFor_15 ?_
    refine j_iand C dX7_paidFor_16 ?_
    refine j_if_eq C 29 dX7_paidFor_17 (by decide) (fun c_2 => ?_) (fun c_2 => ?_)
    · replace hf := ifp c_2 hf
      exact j_Roads_paidFor_29 C p_a0 p_a0_paid u_a0_from u_a0_to u_a0_yards hk_4 x1 x2 x3 v_a0_count n_a0_paid f_a0_paid hf
    · replace hf := ifn c_2 hf
      refine j_iload_n C 2 dX7_paidFor_20 rfl rfl ?_
      refine j_aload_n C 0 dX7_paidFor_21 rfl rfl ?_
      refine j_pc 22 rfl ?_
      refine j_get C (ci := 6) 0 3 iw_Roads_paidFor_7 rfl rfl (by decide) fl_25_Roads_paidFor rfl rfl dX7_paidFor_22 ?_
      refine j_iload_n C 3 dX7_paidFor_25 rfl rfl ?_
      obtain ⟨hi3, hf⟩ := gix_some hf
      refine j_iald C 1 rfl hi3 dX7_paidFor_26 ?_
      refine j_iadd C dX7_paidFor_27 ?_
      obtain ⟨z4, e_z4, hf⟩ := nmI_some hf
      refine j_nmi e_z4 ?_
      refine j_istore_n C [(2, .int z4), (0, .ref p_a0), (1, .int x1), (3, .int x3)] dX7_paidFor_28 rfl (by decide) rfl ?_
      refine j_lv [1, 2, 0, 3] rfl ?_
      exact j_Roads_paidFor_29 C p_a0 p_a0_paid u_a0_from u_a0_to u_a0_yards hk_4 x1 z4 x3 v_a0_count n_a0_paid f_a0_paid hf
set_option maxHeartbeats 4000000 in
set_option maxRecDepth 100000 in
theorem j_Roads_paidFor_4 {E : Ev} {g : Gd} {A : Nat → Prop} (C : Cx E g A RX7 cX7_paidFor wsX7_paidFor 4 (some .int)) (p_a0 : Nat) (p_a0_paid : Nat) (u_a0_from : Value) (u_a0_to : Value) (u_a0_yards : Value) {ρ : Int32} : ∀ (n : Nat) (x1 : Int32) (x2 : Int32) (x3 : Int32) (v_a0_count : Int32) (n_a0_paid : Nat) (f_a0_paid : Nat → Int32), f_Roads_paidFor_4 n x1 x2 x3 v_a0_count n_a0_paid f_a0_paid = some ρ → J E rm_Roads_paidFor g A 4 (QI E g A ρ (Wd_Roads_paidFor g p_a0 p_a0_paid u_a0_from u_a0_to u_a0_yards v_a0_count n_a0_paid f_a0_paid) 0 0) 0 0 (Wd_Roads_paidFor g p_a0 p_a0_paid u_a0_from u_a0_to u_a0_yards v_a0_count n_a0_paid f_a0_paid) [(0, .ref p_a0), (1, .int x1), (2, .int x2), (3, .int x3)] 4 [] := by
  intro n
  induction n with
  | zero => intro x1 x2 x3 v_a0_count n_a0_paid f_a0_paid h; have h0 : (none : Option (Int32)) = some ρ := h; cases h0
  | succ n ih => intro x1 x2 x3 v_a0_count n_a0_paid f_a0_paid h; exact jb_Roads_paidFor_4 C p_a0 p_a0_paid u_a0_from u_a0_to u_a0_yards ih x1 x2 x3 v_a0_count n_a0_paid f_a0_paid h
noncomputable def f_Roads_paidFor (x1 : Int32) (v_a0_count : Int32) (n_a0_paid : Nat) (f_a0_paid : Nat → Int32) : Option (Int32) := f_Roads_paidFor_4 FU x1 0 0 v_a0_count n_a0_paid f_a0_paid
set_option maxHeartbeats 4000000 in
set_option maxRecDepth 100000 in
theorem c_Roads_paidFor (l : Launch) (g : Gd) (p_a0 : Nat) (p_a0_paid : Nat) (u_a0_from : Value) (u_a0_to : Value) (u_a0_yards : Value) (v_a0_count : Int32) (n_a0_paid : Nat) (f_a0_paid : Nat → Int32) (x1 : Int32) {ρ : Int32} (hf : f_Roads_paidFor x1 v_a0_count n_a0_paid f_a0_paid = some ρ) : CtI l g yX7_paidFor wsX7_paidFor rm_Roads_paidFor [.ref p_a0, .int x1] (Wd_Roads_paidFor g p_a0 p_a0_paid u_a0_from u_a0_to u_a0_yards v_a0_count n_a0_paid f_a0_paid) ρ (Wd_Roads_paidFor g p_a0 p_a0_paid u_a0_from u_a0_to u_a0_yards v_a0_count n_a0_paid f_a0_paid) := by
  refine CtI.of (by decide) rfl rfl (Nat.le_of_ble_eq_true rfl) (fun E A _ C => ?_)
  unfold f_Roads_paidFor at hf
  show J E rm_Roads_paidFor g A 4 (QI E g A ρ (Wd_Roads_paidFor g p_a0 p_a0_paid u_a0_from u_a0_to u_a0_yards v_a0_count n_a0_paid f_a0_paid) 0 0) 0 0 (Wd_Roads_paidFor g p_a0 p_a0_paid u_a0_from u_a0_to u_a0_yards v_a0_count n_a0_paid f_a0_paid) [(0, .ref p_a0), (1, .int x1)] 0 []
  refine j_iconst C dX7_paidFor_0 (v := 0) (by decide) ?_
  refine j_istore_n C [(2, .int 0), (0, .ref p_a0), (1, .int x1)] dX7_paidFor_1 rfl (by decide) rfl ?_
  refine j_iconst C dX7_paidFor_2 (v := 0) (by decide) ?_
  refine j_istore_n C [(3, .int 0), (2, .int 0), (0, .ref p_a0), (1, .int x1)] dX7_paidFor_3 rfl (by decide) rfl ?_
  refine j_lv [2, 3, 1, 0] rfl ?_
  exact j_Roads_paidFor_4 C p_a0 p_a0_paid u_a0_from u_a0_to u_a0_yards FU x1 0 0 v_a0_count n_a0_paid f_a0_paid hf
abbrev rm_Roads_leaving : Room := { frames := 0, cells := 0, slots := 0, locals := 0 }
def Wd_Roads_leaving (g : Gd) (p_a0 : Nat) (p_a0_from : Nat) (p_a0_to : Nat) (u_a0_yards : Value) (u_a0_paid : Value) (v_a0_count : Int32) (n_a0_from : Nat) (f_a0_from : Nat → Int32) (n_a0_to : Nat) (f_a0_to : Nat → Int32) : va_W := [(p_a0, .inr (6, [.ref p_a0_from, .ref p_a0_to, u_a0_yards, u_a0_paid, .int v_a0_count])), (p_a0_from, .inl (g.2.1 0, n_a0_from, .inl f_a0_from)), (p_a0_to, .inl (g.2.1 0, n_a0_to, .inl f_a0_to))]
theorem iw_Roads_leaving_7 : ∀ w ∈ wsX70, w ∈ wsX7_leaving := fun w h => List.mem_cons_of_mem _ (List.mem_append_right _ h)
theorem fl_9_Roads_leaving : Cond.fieldLink RX7 9 "ShutWays$Roads" (TX7 4).2.1 (TX7 4).2.2.1 ∈ wsX7_leaving := by decide +kernel
theorem fl_15_Roads_leaving : Cond.fieldLink RX7 15 "ShutWays$Roads" (TX7 0).2.1 (TX7 0).2.2.1 ∈ wsX7_leaving := by decide +kernel
theorem fl_19_Roads_leaving : Cond.fieldLink RX7 19 "ShutWays$Roads" (TX7 1).2.1 (TX7 1).2.2.1 ∈ wsX7_leaving := by decide +kernel
noncomputable def f_Roads_leaving_37 (k_4 : Int32 → Int32 → Int32 → Int32 → Nat → (Nat → Int32) → Nat → (Nat → Int32) → Option (Int32)) (x1 : Int32) (x2 : Int32) (x3 : Int32) (v_a0_count : Int32) (n_a0_from : Nat) (f_a0_from : Nat → Int32) (n_a0_to : Nat) (f_a0_to : Nat → Int32) : Option (Int32) := k_4 x1 x2 (x3 + 1) v_a0_count n_a0_from f_a0_from n_a0_to f_a0_to
set_option maxHeartbeats 4000000 in
set_option maxRecDepth 100000 in
theorem j_Roads_leaving_37 {E : Ev} {g : Gd} {A : Nat → Prop} (C : Cx E g A RX7 cX7_leaving wsX7_leaving 4 (some .int)) (p_a0 : Nat) (p_a0_from : Nat) (p_a0_to : Nat) (u_a0_yards : Value) (u_a0_paid : Value) {ρ : Int32} {k_4 : Int32 → Int32 → Int32 → Int32 → Nat → (Nat → Int32) → Nat → (Nat → Int32) → Option (Int32)} (hk_4 : ∀ (x1 : Int32) (x2 : Int32) (x3 : Int32) (v_a0_count : Int32) (n_a0_from : Nat) (f_a0_from : Nat → Int32) (n_a0_to : Nat) (f_a0_to : Nat → Int32), k_4 x1 x2 x3 v_a0_count n_a0_from f_a0_from n_a0_to f_a0_to = some ρ → J E rm_Roads_leaving g A 4 (QI E g A ρ (Wd_Roads_leaving g p_a0 p_a0_from p_a0_to u_a0_yards u_a0_paid v_a0_count n_a0_from f_a0_from n_a0_to f_a0_to) 0 0) 0 0 (Wd_Roads_leaving g p_a0 p_a0_from p_a0_to u_a0_yards u_a0_paid v_a0_count n_a0_from f_a0_from n_a0_to f_a0_to) [(0, .ref p_a0), (1, .int x1), (2, .int x2), (3, .int x3)] 4 []) (x1 : Int32) (x2 : Int32) (x3 : Int32) (v_a0_count : Int32) (n_a0_from : Nat) (f_a0_from : Nat → Int32) (n_a0_to : Nat) (f_a0_to : Nat → Int32) (hf : f_Roads_leaving_37 k_4 x1 x2 x3 v_a0_count n_a0_from f_a0_from n_a0_to f_a0_to = some ρ) : J E rm_Roads_leaving g A 4 (QI E g A ρ (Wd_Roads_leaving g p_a0 p_a0_from p_a0_to u_a0_yards u_a0_paid v_a0_count n_a0_from f_a0_from n_a0_to f_a0_to) 0 0) 0 0 (Wd_Roads_leaving g p_a0 p_a0_from p_a0_to u_a0_yards u_a0_paid v_a0_count n_a0_from f_a0_from n_a0_to f_a0_to) [(0, .ref p_a0), (1, .int x1), (2, .int x2), (3, .int x3)] 37 [] := by
  unfold f_Roads_leaving_37 at hf
  refine j_iinc C (v := (x3 + 1)) 3 [(3, .int (x3 + 1)), (0, .ref p_a0), (1, .int x1), (2, .int x2)] dX7_leaving_37 rfl (by first | rfl | decide) (by decide) rfl ?_
  refine j_goto C 4 dX7_leaving_40 (by decide) ?_
  refine j_lv [1, 2, 3, 0] rfl ?_
  exact hk_4 x1 x2 (x3 + 1) v_a0_count n_a0_from f_a0_from n_a0_to f_a0_to hf
noncomputable def b_Roads_leaving_4 (k_4 : Int32 → Int32 → Int32 → Int32 → Nat → (Nat → Int32) → Nat → (Nat → Int32) → Option (Int32)) (x1 : Int32) (x2 : Int32) (x3 : Int32) (v_a0_count : Int32) (n_a0_from : Nat) (f_a0_from : Nat → Int32) (n_a0_to : Nat) (f_a0_to : Nat → Int32) : Option (Int32) := if v_a0_count ≤ x3 then some x2 else gix x3 n_a0_from (gix x3 n_a0_to (if (((x1 >>> ((f_a0_from x3.toNatClampNeg) &&& 31)) ^^^ (x1 >>> ((f_a0_to x3.toNatClampNeg) &&& 31))) &&& 1) = 0 then f_Roads_leaving_37 k_4 x1 x2 x3 v_a0_count n_a0_from f_a0_from n_a0_to f_a0_to else f_Roads_leaving_37 k_4 x1 (x2 + 1) x3 v_a0_count n_a0_from f_a0_from n_a0_to f_a0_to))
noncomputable def f_Roads_leaving_4 (n : Nat) : Int32 → Int32 → Int32 → Int32 → Nat → (Nat → Int32) → Nat → (Nat → Int32) → Option (Int32) := Nat.rec (motive := fun _ => Int32 → Int32 → Int32 → Int32 → Nat → (Nat → Int32) → Nat → (Nat → Int32) → Option (Int32)) (fun _ _ _ _ _ _ _ _ => none) (fun _ ih => b_Roads_leaving_4 ih) n
set_option maxHeartbeats 4000000 in
set_option maxRecDepth 100000 in
theorem jb_Roads_leaving_4 {E : Ev} {g : Gd} {A : Nat → Prop} (C : Cx E g A RX7 cX7_leaving wsX7_leaving 4 (some .int)) (p_a0 : Nat) (p_a0_from : Nat) (p_a0_to : Nat) (u_a0_yards : Value) (u_a0_paid : Value) {ρ : Int32} {k_4 : Int32 → Int32 → Int32 → Int32 → Nat → (Nat → Int32) → Nat → (Nat → Int32) → Option (Int32)} (hk_4 : ∀ (x1 : Int32) (x2 : Int32) (x3 : Int32) (v_a0_count : Int32) (n_a0_from : Nat) (f_a0_from : Nat → Int32) (n_a0_to : Nat) (f_a0_to : Nat → Int32), k_4 x1 x2 x3 v_a0_count n_a0_from f_a0_from n_a0_to f_a0_to = some ρ → J E rm_Roads_leaving g A 4 (QI E g A ρ (Wd_Roads_leaving g p_a0 p_a0_from p_a0_to u_a0_yards u_a0_paid v_a0_count n_a0_from f_a0_from n_a0_to f_a0_to) 0 0) 0 0 (Wd_Roads_leaving g p_a0 p_a0_from p_a0_to u_a0_yards u_a0_paid v_a0_count n_a0_from f_a0_from n_a0_to f_a0_to) [(0, .ref p_a0), (1, .int x1), (2, .int x2), (3, .int x3)] 4 []) (x1 : Int32) (x2 : Int32) (x3 : Int32) (v_a0_count : Int32) (n_a0_from : Nat) (f_a0_from : Nat → Int32) (n_a0_to : Nat) (f_a0_to : Nat → Int32) (hf : b_Roads_leaving_4 k_4 x1 x2 x3 v_a0_count n_a0_from f_a0_from n_a0_to f_a0_to = some ρ) : J E rm_Roads_leaving g A 4 (QI E g A ρ (Wd_Roads_leaving g p_a0 p_a0_from p_a0_to u_a0_yards u_a0_paid v_a0_count n_a0_from f_a0_from n_a0_to f_a0_to) 0 0) 0 0 (Wd_Roads_leaving g p_a0 p_a0_from p_a0_to u_a0_yards u_a0_paid v_a0_count n_a0_from f_a0_from n_a0_to f_a0_to) [(0, .ref p_a0), (1, .int x1), (2, .int x2), (3, .int x3)] 4 [] := by
  unfold b_Roads_leaving_4 at hf
  refine j_iload_n C 3 dX7_leaving_4 rfl rfl ?_
  refine j_aload_n C 0 dX7_leaving_5 rfl rfl ?_
  refine j_get C (ci := 6) 0 4 iw_Roads_leaving_7 rfl rfl (by decide) fl_9_Roads_leaving rfl rfl dX7_leaving_6 ?_
  refine j_icmp_ge C 43 dX7_leaving_9 (by decide) (fun c_1 => ?_) (fun c_1 => ?_)
  · replace hf := ifp c_1 hf
    refine j_iload_n C 2 dX7_leaving_43 rfl rfl ?_
    obtain rfl := Option.some.inj hf
    exact j_iret C dX7_leaving_44 rfl rfl
  · replace hf := ifn c_1 hf
    refine j_iload_n C 1 dX7_leaving_12 rfl rfl ?_
    refine j_aload_n C 0 dX7_leaving_13 rfl rfl ?_
    refine j_get C (ci := 6) 0 0 iw_Roads_leaving_7 rfl rfl (by decide) fl_15_Roads_leaving rfl rfl dX7_leaving_14 ?_
    refine j_iload_n C 3 dX7_leaving_17 rfl rfl ?_
    obtain ⟨hi2, hf⟩ := gix_some hf
    refine j_iald C 1 rfl hi2 dX7_leaving_18 ?_
    refine j_ishr C dX7_leaving_19 ?_
    refine j_iload_n C 1 dX7_leaving_20 rfl rfl ?_
    refine j_aload_n C 0 dX7_leaving_21 rfl rfl ?_
    refine j_pc 22 rfl ?_
    refine j_get C (ci := 6) 0 1 iw_Roads_leaving_7 rfl rfl (by decide) fl_19_Roads_leaving rfl rfl dX7_leaving_22 ?_
    refine j_iload_n C 3 dX7_leaving_25 rfl rfl ?_
    obtain ⟨hi3, hf⟩ := gix_some hf
    refine j_iald C 2 rfl hi3 dX7_leaving_26 ?_
    refine j_ishr C dX7_leaving_27 ?_
    refine j_ixor C dX7_leaving_28 ?_
    refine j_iconst C dX7_leaving_29 (v := 1) (by decide) ?_
    refine j_iand C dX7_leaving_30 ?_
    refine j_if_eq C 37 dX7_leaving_31 (by decide) (fun c_4 => ?_) (fun c_4 => ?_)
    · replace hf := ifp c_4 hf
      exact j_Roads_leaving_37 C p_a0 p_a0_from p_a0_to u_a0_yards u_a0_paid hk_4 x1 x2 x3 v_a0_count n_a0_from f_a0_from n_a0_to f_a0_to hf
    · replace hf := ifn c_4 hf
      refine j_iinc C (v := (x2 + 1)) 2 [(2, .int (x2 + 1)), (0, .ref p_a0), (1, .int x1), (3, .int x3)] dX7_leaving_34 rfl (by first | rfl | decide) (by decide) rfl ?_
      refine j_lv [1, 2, 0, 3] rfl ?_
      exact j_Roads_leaving_37 C p_a0 p_a0_from p_a0_to u_a0_yards u_a0_paid hk_4 x1 (x2 + 1) x3 v_a0_count n_a0_from f_a0_from n_a0_to f_a0_to hf
set_option maxHeartbeats 4000000 in
set_option maxRecDepth 100000 in
theorem j_Roads_leaving_4 {E : Ev} {g : Gd} {A : Nat → Prop} (C : Cx E g A RX7 cX7_leaving wsX7_leaving 4 (some .int)) (p_a0 : Nat) (p_a0_from : Nat) (p_a0_to : Nat) (u_a0_yards : Value) (u_a0_paid : Value) {ρ : Int32} : ∀ (n : Nat) (x1 : Int32) (x2 : Int32) (x3 : Int32) (v_a0_count : Int32) (n_a0_from : Nat) (f_a0_from : Nat → Int32) (n_a0_to : Nat) (f_a0_to : Nat → Int32), f_Roads_leaving_4 n x1 x2 x3 v_a0_count n_a0_from f_a0_from n_a0_to f_a0_to = some ρ → J E rm_Roads_leaving g A 4 (QI E g A ρ (Wd_Roads_leaving g p_a0 p_a0_from p_a0_to u_a0_yards u_a0_paid v_a0_count n_a0_from f_a0_from n_a0_to f_a0_to) 0 0) 0 0 (Wd_Roads_leaving g p_a0 p_a0_from p_a0_to u_a0_yards u_a0_paid v_a0_count n_a0_from f_a0_from n_a0_to f_a0_to) [(0, .ref p_a0), (1, .int x1), (2, .int x2), (3, .int x3)] 4 [] := by
  intro n
  induction n with
  | zero => intro x1 x2 x3 v_a0_count n_a0_from f_a0_from n_a0_to f_a0_to h; have h0 : (none : Option (Int32)) = some ρ := h; cases h0
  | succ n ih => intro x1 x2 x3 v_a0_count n_a0_from f_a0_from n_a0_to f_a0_to h; exact jb_Roads_leaving_4 C p_a0 p_a0_from p_a0_to u_a0_yards u_a0_paid ih x1 x2 x3 v_a0_count n_a0_from f_a0_from n_a0_to f_a0_to h
noncomputable def f_Roads_leaving (x1 : Int32) (v_a0_count : Int32) (n_a0_from : Nat) (f_a0_from : Nat → Int32) (n_a0_to : Nat) (f_a0_to : Nat → Int32) : Option (Int32) := f_Roads_leaving_4 FU x1 0 0 v_a0_count n_a0_from f_a0_from n_a0_to f_a0_to
set_option maxHeartbeats 4000000 in
set_option maxRecDepth 100000 in
theorem c_Roads_leaving (l : Launch) (g : Gd) (p_a0 : Nat) (p_a0_from : Nat) (p_a0_to : Nat) (u_a0_yards : Value) (u_a0_paid : Value) (v_a0_count : Int32) (n_a0_from : Nat) (f_a0_from : Nat → Int32) (n_a0_to : Nat) (f_a0_to : Nat → Int32) (x1 : Int32) {ρ : Int32} (hf : f_Roads_leaving x1 v_a0_count n_a0_from f_a0_from n_a0_to f_a0_to = some ρ) : CtI l g yX7_leaving wsX7_leaving rm_Roads_leaving [.ref p_a0, .int x1] (Wd_Roads_leaving g p_a0 p_a0_from p_a0_to u_a0_yards u_a0_paid v_a0_count n_a0_from f_a0_from n_a0_to f_a0_to) ρ (Wd_Roads_leaving g p_a0 p_a0_from p_a0_to u_a0_yards u_a0_paid v_a0_count n_a0_from f_a0_from n_a0_to f_a0_to) := by
  refine CtI.of (by decide) rfl rfl (Nat.le_of_ble_eq_true rfl) (fun E A _ C => ?_)
  unfold f_Roads_leaving at hf
  show J E rm_Roads_leaving g A 4 (QI E g A ρ (Wd_Roads_leaving g p_a0 p_a0_from p_a0_to u_a0_yards u_a0_paid v_a0_count n_a0_from f_a0_from n_a0_to f_a0_to) 0 0) 0 0 (Wd_Roads_leaving g p_a0 p_a0_from p_a0_to u_a0_yards u_a0_paid v_a0_count n_a0_from f_a0_from n_a0_to f_a0_to) [(0, .ref p_a0), (1, .int x1)] 0 []
  refine j_iconst C dX7_leaving_0 (v := 0) (by decide) ?_
  refine j_istore_n C [(2, .int 0), (0, .ref p_a0), (1, .int x1)] dX7_leaving_1 rfl (by decide) rfl ?_
  refine j_iconst C dX7_leaving_2 (v := 0) (by decide) ?_
  refine j_istore_n C [(3, .int 0), (2, .int 0), (0, .ref p_a0), (1, .int x1)] dX7_leaving_3 rfl (by decide) rfl ?_
  refine j_lv [2, 3, 1, 0] rfl ?_
  exact j_Roads_leaving_4 C p_a0 p_a0_from p_a0_to u_a0_yards u_a0_paid FU x1 0 0 v_a0_count n_a0_from f_a0_from n_a0_to f_a0_to hf
