abbrev rm_Way_isThere : Room := { frames := 0, cells := 0, slots := 0, locals := 0 }
def Wd_Way_isThere (g : Gd) (p_a0 : Nat) (u_a0_street : Value) (v_a0_count : Int32) (v_a0_set : Int32) (v_a0_yards : Int32) (u_a0_far : Value) : va_W := [(p_a0, .inr (9, [u_a0_street, .int v_a0_count, .int v_a0_set, .int v_a0_yards, u_a0_far]))]
theorem iw_Way_isThere_10 : ∀ w ∈ wsX100, w ∈ wsX10_isThere := fun w h => List.mem_cons_of_mem _ (List.mem_append_right _ h)
theorem fl_15_Way_isThere : Cond.fieldLink RX10 15 "ShutWays$Way" (TX10 1).2.1 (TX10 1).2.2.1 ∈ wsX10_isThere := by decide +kernel
noncomputable def f_Way_isThere_12 (y0 : Int32) (v_a0_count : Int32) : Option (Int32) := gz y0 (some y0)
set_option maxHeartbeats 4000000 in
set_option maxRecDepth 100000 in
theorem j_Way_isThere_12 {E : Ev} {g : Gd} {A : Nat → Prop} (C : Cx E g A RX10 cX10_isThere wsX10_isThere 1 (some .boolean)) (p_a0 : Nat) (u_a0_street : Value) (v_a0_set : Int32) (v_a0_yards : Int32) (u_a0_far : Value) {ρ : Int32} (y0 : Int32) (v_a0_count : Int32) (hf : f_Way_isThere_12 y0 v_a0_count = some ρ) : J E rm_Way_isThere g A 1 (QI E g A ρ (Wd_Way_isThere g p_a0 u_a0_street v_a0_count v_a0_set v_a0_yards u_a0_far) 0 0) 0 0 (Wd_Way_isThere g p_a0 u_a0_street v_a0_count v_a0_set v_a0_yards u_a0_far) [] 12 [.int y0] := by
  unfold f_Way_isThere_12 at hf
  obtain ⟨hz2, hf⟩ := gz_some hf
  obtain rfl := Option.some.inj hf
  exact j_zret C dX10_isThere_12 hz2 rfl rfl
noncomputable def f_Way_isThere (v_a0_count : Int32) : Option (Int32) := if v_a0_count ≤ 0 then f_Way_isThere_12 0 v_a0_count else f_Way_isThere_12 1 v_a0_count
set_option maxHeartbeats 4000000 in
set_option maxRecDepth 100000 in
theorem c_Way_isThere (l : Launch) (g : Gd) (p_a0 : Nat) (u_a0_street : Value) (v_a0_count : Int32) (v_a0_set : Int32) (v_a0_yards : Int32) (u_a0_far : Value) {ρ : Int32} (hf : f_Way_isThere v_a0_count = some ρ) : CtI l g yX10_isThere wsX10_isThere rm_Way_isThere [.ref p_a0] (Wd_Way_isThere g p_a0 u_a0_street v_a0_count v_a0_set v_a0_yards u_a0_far) ρ (Wd_Way_isThere g p_a0 u_a0_street v_a0_count v_a0_set v_a0_yards u_a0_far) := by
  refine CtI.of (by decide) rfl rfl (Nat.le_of_ble_eq_true rfl) (fun E A _ C => ?_)
  unfold f_Way_isThere at hf
  show J E rm_Way_isThere g A 1 (QI E g A ρ (Wd_Way_isThere g p_a0 u_a0_street v_a0_count v_a0_set v_a0_yards u_a0_far) 0 0) 0 0 (Wd_Way_isThere g p_a0 u_a0_street v_a0_count v_a0_set v_a0_yards u_a0_far) [(0, .ref p_a0)] 0 []
  refine j_aload_n C 0 dX10_isThere_0 rfl rfl ?_
  refine j_get C (ci := 9) 0 1 iw_Way_isThere_10 rfl rfl (by decide) fl_15_Way_isThere rfl rfl dX10_isThere_1 ?_
  refine j_if_le C 11 dX10_isThere_4 (by decide) (fun c_1 => ?_) (fun c_1 => ?_)
  · replace hf := ifp c_1 hf
    refine j_iconst C dX10_isThere_11 (v := 0) (by decide) ?_
    refine j_lv [] rfl ?_
    exact j_Way_isThere_12 C p_a0 u_a0_street v_a0_set v_a0_yards u_a0_far 0 v_a0_count hf
  · replace hf := ifn c_1 hf
    refine j_iconst C dX10_isThere_7 (v := 1) (by decide) ?_
    refine j_goto C 12 dX10_isThere_8 (by decide) ?_
    refine j_lv [] rfl ?_
    exact j_Way_isThere_12 C p_a0 u_a0_street v_a0_set v_a0_yards u_a0_far 1 v_a0_count hf
abbrev rm_Way_comesNearer : Room := { frames := 0, cells := 0, slots := 0, locals := 0 }
def Wd_Way_comesNearer (g : Gd) (p_a0 : Nat) (p_a0_far : Nat) (u_a0_street : Value) (v_a0_count : Int32) (v_a0_set : Int32) (v_a0_yards : Int32) (n_a0_far : Nat) (f_a0_far : Nat → Int32) : va_W := [(p_a0, .inr (9, [u_a0_street, .int v_a0_count, .int v_a0_set, .int v_a0_yards, .ref p_a0_far])), (p_a0_far, .inl (g.2.1 0, n_a0_far, .inl f_a0_far))]
theorem iw_Way_comesNearer_10 : ∀ w ∈ wsX100, w ∈ wsX10_comesNearer := fun w h => List.mem_cons_of_mem _ (List.mem_append_right _ h)
theorem fl_25_Way_comesNearer : Cond.fieldLink RX10 25 "ShutWays$Way" (TX10 4).2.1 (TX10 4).2.2.1 ∈ wsX10_comesNearer := by decide +kernel
noncomputable def f_Way_comesNearer (x1 : Int32) (x2 : Int32) (x3 : Int32) (n_a0_far : Nat) (f_a0_far : Nat → Int32) : Option (Int32 × (Nat → Int32)) := gix x1 n_a0_far (gix x2 n_a0_far (if (f_a0_far x1.toNatClampNeg) ≤ ((f_a0_far x2.toNatClampNeg) + x3) then gix x2 n_a0_far (gix x1 n_a0_far (if (f_a0_far x2.toNatClampNeg) ≤ ((f_a0_far x1.toNatClampNeg) + x3) then some (0, f_a0_far) else gix x1 n_a0_far (nmI ((f_a0_far x1.toNatClampNeg) + x3) (fun z8 => gix x2 n_a0_far (some (1, (upd f_a0_far x2.toNatClampNeg z8))))))) else gix x2 n_a0_far (nmI ((f_a0_far x2.toNatClampNeg) + x3) (fun z11 => gix x1 n_a0_far (some (1, (upd f_a0_far x1.toNatClampNeg z11)))))))
set_option maxHeartbeats 4000000 in
set_option maxRecDepth 100000 in
theorem c_Way_comesNearer (l : Launch) (g : Gd) (p_a0 : Nat) (p_a0_far : Nat) (u_a0_street : Value) (v_a0_count : Int32) (v_a0_set : Int32) (v_a0_yards : Int32) (n_a0_far : Nat) (f_a0_far : Nat → Int32) (x1 : Int32) (x2 : Int32) (x3 : Int32) {ρ : Int32 × (Nat → Int32)} (hf : f_Way_comesNearer x1 x2 x3 n_a0_far f_a0_far = some ρ) : CtI l g yX10_comesNearer wsX10_comesNearer rm_Way_comesNearer [.ref p_a0, .int x1, .int x2, .int x3] (Wd_Way_comesNearer g p_a0 p_a0_far u_a0_street v_a0_count v_a0_set v_a0_yards n_a0_far f_a0_far) ρ.1 (Wd_Way_comesNearer g p_a0 p_a0_far u_a0_street v_a0_count v_a0_set v_a0_yards n_a0_far ρ.2) := by
  refine CtI.of (by decide) rfl rfl (Nat.le_of_ble_eq_true rfl) (fun E A _ C => ?_)
  unfold f_Way_comesNearer at hf
  show J E rm_Way_comesNearer g A 4 (QI E g A ρ.1 (Wd_Way_comesNearer g p_a0 p_a0_far u_a0_street v_a0_count v_a0_set v_a0_yards n_a0_far ρ.2) 0 0) 0 0 (Wd_Way_comesNearer g p_a0 p_a0_far u_a0_street v_a0_count v_a0_set v_a0_yards n_a0_far f_a0_far) [(0, .ref p_a0), (1, .int x1), (2, .int x2), (3, .int x3)] 0 []
  refine j_aload_n C 0 dX10_comesNearer_0 rfl rfl ?_
  refine j_get C (ci := 9) 0 4 iw_Way_comesNearer_10 rfl rfl (by decide) fl_25_Way_comesNearer rfl rfl dX10_comesNearer_1 ?_
  refine j_iload_n C 1 dX10_comesNearer_4 rfl rfl ?_
  obtain ⟨hi1, hf⟩ := gix_some hf
  refine j_iald C 1 rfl hi1 dX10_comesNearer_5 ?_
  refine j_aload_n C 0 dX10_comesNearer_6 rfl rfl ?_
  refine j_get C (ci := 9) 0 4 iw_Way_comesNearer_10 rfl rfl (by decide) fl_25_Way_comesNearer rfl rfl dX10_comesNearer_7 ?_
  refine j_iload_n C 2 dX10_comesNearer_10 rfl rfl ?_
  obtain ⟨hi2, hf⟩ := gix_some hf
  refine j_iald C 1 rfl hi2 dX10_comesNearer_11 ?_
  refine j_iload_n C 3 dX10_comesNearer_12 rfl rfl ?_
  refine j_iadd C dX10_comesNearer_13 ?_
  refine j_icmp_le C 33 dX10_comesNearer_14 (by decide) (fun c_3 => ?_) (fun c_3 => ?_)
  · replace hf := ifp c_3 hf
    refine j_aload_n C 0 dX10_comesNearer_33 rfl rfl ?_
    refine j_pc 34 rfl ?_
    refine j_get C (ci := 9) 0 4 iw_Way_comesNearer_10 rfl rfl (by decide) fl_25_Way_comesNearer rfl rfl dX10_comesNearer_34 ?_
    refine j_iload_n C 2 dX10_comesNearer_37 rfl rfl ?_
    obtain ⟨hi4, hf⟩ := gix_some hf
    refine j_iald C 1 rfl hi4 dX10_comesNearer_38 ?_
    refine j_aload_n C 0 dX10_comesNearer_39 rfl rfl ?_
    refine j_get C (ci := 9) 0 4 iw_Way_comesNearer_10 rfl rfl (by decide) fl_25_Way_comesNearer rfl rfl dX10_comesNearer_40 ?_
    refine j_iload_n C 1 dX10_comesNearer_43 rfl rfl ?_
    obtain ⟨hi5, hf⟩ := gix_some hf
    refine j_iald C 1 rfl hi5 dX10_comesNearer_44 ?_
    refine j_iload_n C 3 dX10_comesNearer_45 rfl rfl ?_
    refine j_iadd C dX10_comesNearer_46 ?_
    refine j_icmp_le C 66 dX10_comesNearer_47 (by decide) (fun c_6 => ?_) (fun c_6 => ?_)
    · replace hf := ifp c_6 hf
      refine j_iconst C dX10_comesNearer_66 (v := 0) (by decide) ?_
      obtain rfl := Option.some.inj hf
      exact j_zret C dX10_comesNearer_67 (Or.inl rfl) rfl rfl
    · replace hf := ifn c_6 hf
      refine j_aload_n C 0 dX10_comesNearer_50 rfl rfl ?_
      refine j_get C (ci := 9) 0 4 iw_Way_comesNearer_10 rfl rfl (by decide) fl_25_Way_comesNearer rfl rfl dX10_comesNearer_51 ?_
      refine j_iload_n C 2 dX10_comesNearer_54 rfl rfl ?_
      refine j_aload_n C 0 dX10_comesNearer_55 rfl rfl ?_
      refine j_get C (ci := 9) 0 4 iw_Way_comesNearer_10 rfl rfl (by decide) fl_25_Way_comesNearer rfl rfl dX10_comesNearer_56 ?_
      refine j_iload_n C 1 dX10_comesNearer_59 rfl rfl ?_
      obtain ⟨hi7, hf⟩ := gix_some hf
      refine j_iald C 1 rfl hi7 dX10_comesNearer_60 ?_
      refine j_iload_n C 3 dX10_comesNearer_61 rfl rfl ?_
      refine j_iadd C dX10_comesNearer_62 ?_
      obtain ⟨z8, e_z8, hf⟩ := nmI_some hf
      refine j_nmi e_z8 ?_
      obtain ⟨hi9, hf⟩ := gix_some hf
      refine j_iast C 1 (Wd_Way_comesNearer g p_a0 p_a0_far u_a0_street v_a0_count v_a0_set v_a0_yards n_a0_far (upd f_a0_far x2.toNatClampNeg z8)) rfl hi9 rfl dX10_comesNearer_63 ?_
      refine j_iconst C dX10_comesNearer_64 (v := 1) (by decide) ?_
      obtain rfl := Option.some.inj hf
      exact j_zret C dX10_comesNearer_65 (Or.inr rfl) rfl rfl
  · replace hf := ifn c_3 hf
    refine j_aload_n C 0 dX10_comesNearer_17 rfl rfl ?_
    refine j_pc 18 rfl ?_
    refine j_get C (ci := 9) 0 4 iw_Way_comesNearer_10 rfl rfl (by decide) fl_25_Way_comesNearer rfl rfl dX10_comesNearer_18 ?_
    refine j_iload_n C 1 dX10_comesNearer_21 rfl rfl ?_
    refine j_aload_n C 0 dX10_comesNearer_22 rfl rfl ?_
    refine j_get C (ci := 9) 0 4 iw_Way_comesNearer_10 rfl rfl (by decide) fl_25_Way_comesNearer rfl rfl dX10_comesNearer_23 ?_
    refine j_iload_n C 2 dX10_comesNearer_26 rfl rfl ?_
    obtain ⟨hi10, hf⟩ := gix_some hf
    refine j_iald C 1 rfl hi10 dX10_comesNearer_27 ?_
    refine j_iload_n C 3 dX10_comesNearer_28 rfl rfl ?_
    refine j_iadd C dX10_comesNearer_29 ?_
    obtain ⟨z11, e_z11, hf⟩ := nmI_some hf
    refine j_nmi e_z11 ?_
    obtain ⟨hi12, hf⟩ := gix_some hf
    refine j_iast C 1 (Wd_Way_comesNearer g p_a0 p_a0_far u_a0_street v_a0_count v_a0_set v_a0_yards n_a0_far (upd f_a0_far x1.toNatClampNeg z11)) rfl hi12 rfl dX10_comesNearer_30 ?_
    refine j_iconst C dX10_comesNearer_31 (v := 1) (by decide) ?_
    obtain rfl := Option.some.inj hf
    exact j_zret C dX10_comesNearer_32 (Or.inr rfl) rfl rfl
abbrev rm_Way_measure : Room := { frames := 1, cells := 0, slots := 0, locals := 23 }
def Wd_Way_measure (g : Gd) (p_a0 : Nat) (p_a1 : Nat) (p_a2 : Nat) (p_a0_far : Nat) (p_a1_from : Nat) (p_a1_to : Nat) (p_a1_yards : Nat) (u_a0_street : Value) (v_a0_count : Int32) (v_a0_set : Int32) (v_a0_yards : Int32) (u_a1_paid : Value) (v_a1_count : Int32) (n_a2 : Nat) (f_a2 : Nat → Int32) (n_a0_far : Nat) (f_a0_far : Nat → Int32) (n_a1_from : Nat) (f_a1_from : Nat → Int32) (n_a1_to : Nat) (f_a1_to : Nat → Int32) (n_a1_yards : Nat) (f_a1_yards : Nat → Int32) : va_W := [(p_a0, .inr (9, [u_a0_street, .int v_a0_count, .int v_a0_set, .int v_a0_yards, .ref p_a0_far])), (p_a1, .inr (6, [.ref p_a1_from, .ref p_a1_to, .ref p_a1_yards, u_a1_paid, .int v_a1_count])), (p_a2, .inl (g.2.1 0, n_a2, .inl f_a2)), (p_a0_far, .inl (g.2.1 0, n_a0_far, .inl f_a0_far)), (p_a1_from, .inl (g.2.1 0, n_a1_from, .inl f_a1_from)), (p_a1_to, .inl (g.2.1 0, n_a1_to, .inl f_a1_to)), (p_a1_yards, .inl (g.2.1 0, n_a1_yards, .inl f_a1_yards))]
theorem iw_Way_measure_7 : ∀ w ∈ wsX70, w ∈ wsX10_measure := fun w h => List.mem_cons_of_mem _ (List.mem_append_right _ h)
theorem iw_Way_measure_10 : ∀ w ∈ wsX100, w ∈ wsX10_measure := fun w h => List.mem_cons_of_mem _ (List.mem_append_left _ (List.mem_append_right _ h))
theorem fl_25_Way_measure : Cond.fieldLink RX10 25 "ShutWays$Way" (TX10 4).2.1 (TX10 4).2.2.1 ∈ wsX10_measure := by decide +kernel
theorem kc_32_Way_measure : Cond.constant RX10 32 1000000 ∈ wsX10_measure := by decide +kernel
theorem fl_43_Way_measure : Cond.fieldLink RX10 43 "ShutWays$Roads" (TX7 4).2.1 (TX7 4).2.2.1 ∈ wsX10_measure := by decide +kernel
theorem fl_46_Way_measure : Cond.fieldLink RX10 46 "ShutWays$Roads" (TX7 0).2.1 (TX7 0).2.2.1 ∈ wsX10_measure := by decide +kernel
theorem fl_49_Way_measure : Cond.fieldLink RX10 49 "ShutWays$Roads" (TX7 1).2.1 (TX7 1).2.2.1 ∈ wsX10_measure := by decide +kernel
theorem fl_52_Way_measure : Cond.fieldLink RX10 52 "ShutWays$Roads" (TX7 2).2.1 (TX7 2).2.2.1 ∈ wsX10_measure := by decide +kernel
noncomputable def f_Way_measure_87 (k_22 : Int32 → Int32 → Int32 → Nat → (Nat → Int32) → Nat → (Nat → Int32) → Nat → (Nat → Int32) → Nat → (Nat → Int32) → Nat → (Nat → Int32) → Option ((Nat → Int32))) (k_40 : Int32 → Int32 → Int32 → Int32 → Nat → (Nat → Int32) → Nat → (Nat → Int32) → Nat → (Nat → Int32) → Nat → (Nat → Int32) → Nat → (Nat → Int32) → Option ((Nat → Int32))) (x4 : Int32) (x5 : Int32) (x6 : Int32) (v_a1_count : Int32) (n_a2 : Nat) (f_a2 : Nat → Int32) (n_a0_far : Nat) (f_a0_far : Nat → Int32) (n_a1_from : Nat) (f_a1_from : Nat → Int32) (n_a1_to : Nat) (f_a1_to : Nat → Int32) (n_a1_yards : Nat) (f_a1_yards : Nat → Int32) : Option ((Nat → Int32)) := k_40 x4 x5 (x6 + 1) v_a1_count n_a2 f_a2 n_a0_far f_a0_far n_a1_from f_a1_from n_a1_to f_a1_to n_a1_yards f_a1_yards
set_option maxHeartbeats 4000000 in
set_option maxRecDepth 100000 in
theorem j_Way_measure_87 {E : Ev} {g : Gd} {A : Nat → Prop} (C : Cx E g A RX10 cX10_measure wsX10_measure 7 none) (p_a0 : Nat) (p_a1 : Nat) (p_a2 : Nat) (p_a0_far : Nat) (p_a1_from : Nat) (p_a1_to : Nat) (p_a1_yards : Nat) (u_a0_street : Value) (v_a0_count : Int32) (v_a0_set : Int32) (v_a0_yards : Int32) (u_a1_paid : Value) {ρ : (Nat → Int32)} {k_22 : Int32 → Int32 → Int32 → Nat → (Nat → Int32) → Nat → (Nat → Int32) → Nat → (Nat → Int32) → Nat → (Nat → Int32) → Nat → (Nat → Int32) → Option ((Nat → Int32))} (hk_22 : ∀ (x4 : Int32) (x5 : Int32) (v_a1_count : Int32) (n_a2 : Nat) (f_a2 : Nat → Int32) (n_a0_far : Nat) (f_a0_far : Nat → Int32) (n_a1_from : Nat) (f_a1_from : Nat → Int32) (n_a1_to : Nat) (f_a1_to : Nat → Int32) (n_a1_yards : Nat) (f_a1_yards : Nat → Int32), k_22 x4 x5 v_a1_count n_a2 f_a2 n_a0_far f_a0_far n_a1_from f_a1_from n_a1_to f_a1_to n_a1_yards f_a1_yards = some ρ → J E rm_Way_measure g A 7 (QV E g A (Wd_Way_measure g p_a0 p_a1 p_a2 p_a0_far p_a1_from p_a1_to p_a1_yards u_a0_street v_a0_count v_a0_set v_a0_yards u_a1_paid v_a1_count n_a2 f_a2 n_a0_far ρ n_a1_from f_a1_from n_a1_to f_a1_to n_a1_yards f_a1_yards) 0 0) 0 0 (Wd_Way_measure g p_a0 p_a1 p_a2 p_a0_far p_a1_from p_a1_to p_a1_yards u_a0_street v_a0_count v_a0_set v_a0_yards u_a1_paid v_a1_count n_a2 f_a2 n_a0_far f_a0_far n_a1_from f_a1_from n_a1_to f_a1_to n_a1_yards f_a1_yards) [(0, .ref p_a0), (1, .ref p_a1), (2, .ref p_a2), (4, .int x4), (5, .int x5)] 22 []) {k_40 : Int32 → Int32 → Int32 → Int32 → Nat → (Nat → Int32) → Nat → (Nat → Int32) → Nat → (Nat → Int32) → Nat → (Nat → Int32) → Nat → (Nat → Int32) → Option ((Nat → Int32))} (hk_40 : ∀ (x4 : Int32) (x5 : Int32) (x6 : Int32) (v_a1_count : Int32) (n_a2 : Nat) (f_a2 : Nat → Int32) (n_a0_far : Nat) (f_a0_far : Nat → Int32) (n_a1_from : Nat) (f_a1_from : Nat → Int32) (n_a1_to : Nat) (f_a1_to : Nat → Int32) (n_a1_yards : Nat) (f_a1_yards : Nat → Int32), k_40 x4 x5 x6 v_a1_count n_a2 f_a2 n_a0_far f_a0_far n_a1_from f_a1_from n_a1_to f_a1_to n_a1_yards f_a1_yards = some ρ → J E rm_Way_measure g A 7 (QV E g A (Wd_Way_measure g p_a0 p_a1 p_a2 p_a0_far p_a1_from p_a1_to p_a1_yards u_a0_street v_a0_count v_a0_set v_a0_yards u_a1_paid v_a1_count n_a2 f_a2 n_a0_far ρ n_a1_from f_a1_from n_a1_to f_a1_to n_a1_yards f_a1_yards) 0 0) 0 0 (Wd_Way_measure g p_a0 p_a1 p_a2 p_a0_far p_a1_from p_a1_to p_a1_yards u_a0_street v_a0_count v_a0_set v_a0_yards u_a1_paid v_a1_count n_a2 f_a2 n_a0_far f_a0_far n_a1_from f_a1_from n_a1_to f_a1_to n_a1_yards f_a1_yards) [(0, .ref p_a0), (1, .ref p_a1), (2, .ref p_a2), (4, .int x4), (5, .int x5), (6, .int x6)] 40 []) (x4 : Int32) (x5 : Int32) (x6 : Int32) (v_a1_count : Int32) (n_a2 : Nat) (f_a2 : Nat → Int32) (n_a0_far : Nat) (f_a0_far : Nat → Int32) (n_a1_from : Nat) (f_a1_from : Nat → Int32) (n_a1_to : Nat) (f_a1_to : Nat → Int32) (n_a1_yards : Nat) (f_a1_yards : Nat → Int32) (hf : f_Way_measure_87 k_22 k_40 x4 x5 x6 v_a1_count n_a2 f_a2 n_a0_far f_a0_far n_a1_from f_a1_from n_a1_to f_a1_to n_a1_yards f_a1_yards = some ρ) : J E rm_Way_measure g A 7 (QV E g A (Wd_Way_measure g p_a0 p_a1 p_a2 p_a0_far p_a1_from p_a1_to p_a1_yards u_a0_street v_a0_count v_a0_set v_a0_yards u_a1_paid v_a1_count n_a2 f_a2 n_a0_far ρ n_a1_from f_a1_from n_a1_to f_a1_to n_a1_yards f_a1_yards) 0 0) 0 0 (Wd_Way_measure g p_a0 p_a1 p_a2 p_a0_far p_a1_from p_a1_to p_a1_yards u_a0_street v_a0_count v_a0_set v_a0_yards u_a1_paid v_a1_count n_a2 f_a2 n_a0_far f_a0_far n_a1_from f_a1_from n_a1_to f_a1_to n_a1_yards f_a1_yards) [(0, .ref p_a0), (1, .ref p_a1), (2, .ref p_a2), (4, .int x4), (5, .int x5), (6, .int x6)] 87 [] := by
  unfold f_Way_measure_87 at hf
  refine j_iinc C (v := (x6 + 1)) 5 [(6, .int (x6 + 1)), (0, .ref p_a0), (1, .ref p_a1), (2, .ref p_a2), (4, .int x4), (5, .int x5)] dX10_measure_87 rfl (by first | rfl | decide) (by decide) rfl ?_
  refine j_goto C 40 dX10_measure_90 (by decide) ?_
  refine j_lv [1, 2, 3, 4, 5, 0] rfl ?_
  exact hk_40 x4 x5 (x6 + 1) v_a1_count n_a2 f_a2 n_a0_far f_a0_far n_a1_from f_a1_from n_a1_to f_a1_to n_a1_yards f_a1_yards hf
noncomputable def b_Way_measure_40 (k_22 : Int32 → Int32 → Int32 → Nat → (Nat → Int32) → Nat → (Nat → Int32) → Nat → (Nat → Int32) → Nat → (Nat → Int32) → Nat → (Nat → Int32) → Option ((Nat → Int32))) (k_40 : Int32 → Int32 → Int32 → Int32 → Nat → (Nat → Int32) → Nat → (Nat → Int32) → Nat → (Nat → Int32) → Nat → (Nat → Int32) → Nat → (Nat → Int32) → Option ((Nat → Int32))) (x4 : Int32) (x5 : Int32) (x6 : Int32) (v_a1_count : Int32) (n_a2 : Nat) (f_a2 : Nat → Int32) (n_a0_far : Nat) (f_a0_far : Nat → Int32) (n_a1_from : Nat) (f_a1_from : Nat → Int32) (n_a1_to : Nat) (f_a1_to : Nat → Int32) (n_a1_yards : Nat) (f_a1_yards : Nat → Int32) : Option ((Nat → Int32)) := if v_a1_count ≤ x6 then k_22 x4 (x5 + 1) v_a1_count n_a2 f_a2 n_a0_far f_a0_far n_a1_from f_a1_from n_a1_to f_a1_to n_a1_yards f_a1_yards else gix x6 n_a2 (if (f_a2 x6.toNatClampNeg) = 0 then gix x6 n_a1_from (gix x6 n_a1_to (gix x6 n_a1_yards ((f_Way_comesNearer (f_a1_from x6.toNatClampNeg) (f_a1_to x6.toNatClampNeg) (f_a1_yards x6.toNatClampNeg) n_a0_far f_a0_far).bind (fun r12 => if r12.1 = 0 then f_Way_measure_87 k_22 k_40 x4 x5 x6 v_a1_count n_a2 f_a2 n_a0_far r12.2 n_a1_from f_a1_from n_a1_to f_a1_to n_a1_yards f_a1_yards else f_Way_measure_87 k_22 k_40 1 x5 x6 v_a1_count n_a2 f_a2 n_a0_far r12.2 n_a1_from f_a1_from n_a1_to f_a1_to n_a1_yards f_a1_yards)))) else f_Way_measure_87 k_22 k_40 x4 x5 x6 v_a1_count n_a2 f_a2 n_a0_far f_a0_far n_a1_from f_a1_from n_a1_to f_a1_to n_a1_yards f_a1_yards)
noncomputable def f_Way_measure_40 (k_22 : Int32 → Int32 → Int32 → Nat → (Nat → Int32) → Nat → (Nat → Int32) → Nat → (Nat → Int32) → Nat → (Nat → Int32) → Nat → (Nat → Int32) → Option ((Nat → Int32))) (n : Nat) : Int32 → Int32 → Int32 → Int32 → Nat → (Nat → Int32) → Nat → (Nat → Int32) → Nat → (Nat → Int32) → Nat → (Nat → Int32) → Nat → (Nat → Int32) → Option ((Nat → Int32)) := Nat.rec (motive := fun _ => Int32 → Int32 → Int32 → Int32 → Nat → (Nat → Int32) → Nat → (Nat → Int32) → Nat → (Nat → Int32) → Nat → (Nat → Int32) → Nat → (Nat → Int32) → Option ((Nat → Int32))) (fun _ _ _ _ _ _ _ _ _ _ _ _ _ _ => none) (fun _ ih => b_Way_measure_40 k_22 ih) n
set_option maxHeartbeats 4000000 in
set_option maxRecDepth 100000 in
theorem jb_Way_measure_40 {E : Ev} {g : Gd} {A : Nat → Prop} (C : Cx E g A RX10 cX10_measure wsX10_measure 7 none) (p_a0 : Nat) (p_a1 : Nat) (p_a2 : Nat) (p_a0_far : Nat) (p_a1_from : Nat) (p_a1_to : Nat) (p_a1_yards : Nat) (u_a0_street : Value) (v_a0_count : Int32) (v_a0_set : Int32) (v_a0_yards : Int32) (u_a1_paid : Value) {ρ : (Nat → Int32)} {k_22 : Int32 → Int32 → Int32 → Nat → (Nat → Int32) → Nat → (Nat → Int32) → Nat → (Nat → Int32) → Nat → (Nat → Int32) → Nat → (Nat → Int32) → Option ((Nat → Int32))} (hk_22 : ∀ (x4 : Int32) (x5 : Int32) (v_a1_count : Int32) (n_a2 : Nat) (f_a2 : Nat → Int32) (n_a0_far : Nat) (f_a0_far : Nat → Int32) (n_a1_from : Nat) (f_a1_from : Nat → Int32) (n_a1_to : Nat) (f_a1_to : Nat → Int32) (n_a1_yards : Nat) (f_a1_yards : Nat → Int32), k_22 x4 x5 v_a1_count n_a2 f_a2 n_a0_far f_a0_far n_a1_from f_a1_from n_a1_to f_a1_to n_a1_yards f_a1_yards = some ρ → J E rm_Way_measure g A 7 (QV E g A (Wd_Way_measure g p_a0 p_a1 p_a2 p_a0_far p_a1_from p_a1_to p_a1_yards u_a0_street v_a0_count v_a0_set v_a0_yards u_a1_paid v_a1_count n_a2 f_a2 n_a0_far ρ n_a1_from f_a1_from n_a1_to f_a1_to n_a1_yards f_a1_yards) 0 0) 0 0 (Wd_Way_measure g p_a0 p_a1 p_a2 p_a0_far p_a1_from p_a1_to p_a1_yards u_a0_street v_a0_count v_a0_set v_a0_yards u_a1_paid v_a1_count n_a2 f_a2 n_a0_far f_a0_far n_a1_from f_a1_from n_a1_to f_a1_to n_a1_yards f_a1_yards) [(0, .ref p_a0), (1, .ref p_a1), (2, .ref p_a2), (4, .int x4), (5, .int x5)] 22 []) {k_40 : Int32 → Int32 → Int32 → Int32 → Nat → (Nat → Int32) → Nat → (Nat → Int32) → Nat → (Nat → Int32) → Nat → (Nat → Int32) → Nat → (Nat → Int32) → Option ((Nat → Int32))} (hk_40 : ∀ (x4 : Int32) (x5 : Int32) (x6 : Int32) (v_a1_count : Int32) (n_a2 : Nat) (f_a2 : Nat → Int32) (n_a0_far : Nat) (f_a0_far : Nat → Int32) (n_a1_from : Nat) (f_a1_from : Nat → Int32) (n_a1_to : Nat) (f_a1_to : Nat → Int32) (n_a1_yards : Nat) (f_a1_yards : Nat → Int32), k_40 x4 x5 x6 v_a1_count n_a2 f_a2 n_a0_far f_a0_far n_a1_from f_a1_from n_a1_to f_a1_to n_a1_yards f_a1_yards = some ρ → J E rm_Way_measure g A 7 (QV E g A (Wd_Way_measure g p_a0 p_a1 p_a2 p_a0_far p_a1_from p_a1_to p_a1_yards u_a0_street v_a0_count v_a0_set v_a0_yards u_a1_paid v_a1_count n_a2 f_a2 n_a0_far ρ n_a1_from f_a1_from n_a1_to f_a1_to n_a1_yards f_a1_yards) 0 0) 0 0 (Wd_Way_measure g p_a0 p_a1 p_a2 p_a0_far p_a1_from p_a1_to p_a1_yards u_a0_street v_a0_count v_a0_set v_a0_yards u_a1_paid v_a1_count n_a2 f_a2 n_a0_far f_a0_far n_a1_from f_a1_from n_a1_to f_a1_to n_a1_yards f_a1_yards) [(0, .ref p_a0), (1, .ref p_a1), (2, .ref p_a2), (4, .int x4), (5, .int x5), (6, .int x6)] 40 []) (x4 : Int32) (x5 : Int32) (x6 : Int32) (v_a1_count : Int32) (n_a2 : Nat) (f_a2 : Nat → Int32) (n_a0_far : Nat) (f_a0_far : Nat → Int32) (n_a1_from : Nat) (f_a1_from : Nat → Int32) (n_a1_to : Nat) (f_a1_to : Nat → Int32) (n_a1_yards : Nat) (f_a1_yards : Nat → Int32) (hf : b_Way_measure_40 k_22 k_40 x4 x5 x6 v_a1_count n_a2 f_a2 n_a0_far f_a0_far n_a1_from f_a1_from n_a1_to f_a1_to n_a1_yards f_a1_yards = some ρ) : J E rm_Way_measure g A 7 (QV E g A (Wd_Way_measure g p_a0 p_a1 p_a2 p_a0_far p_a1_from p_a1_to p_a1_yards u_a0_street v_a0_count v_a0_set v_a0_yards u_a1_paid v_a1_count n_a2 f_a2 n_a0_far ρ n_a1_from f_a1_from n_a1_to f_a1_to n_a1_yards f_a1_yards) 0 0) 0 0 (Wd_Way_measure g p_a0 p_a1 p_a2 p_a0_far p_a1_from p_a1_to p_a1_yards u_a0_street v_a0_count v_a0_set v_a0_yards u_a1_paid v_a1_count n_a2 f_a2 n_a0_far f_a0_far n_a1_from f_a1_from n_a1_to f_a1_to n_a1_yards f_a1_yards) [(0, .ref p_a0), (1, .ref p_a1), (2, .ref p_a2), (4, .int x4), (5, .int x5), (6, .int x6)] 40 [] := by
  unfold b_Way_measure_40 at hf
  refine j_iload C 5 dX10_measure_40 rfl ?_
  refine j_aload_n C 1 dX10_measure_42 rfl rfl ?_
  refine j_get C (ci := 6) 1 4 iw_Way_measure_7 rfl rfl (by decide) fl_43_Way_measure rfl rfl dX10_measure_43 ?_
  refine j_icmp_ge C 93 dX10_measure_46 (by decide) (fun c_6 => ?_) (fun c_6 => ?_)
  · replace hf := ifp c_6 hf
    refine j_iinc C (v := (x5 + 1)) 4 [(5, .int (x5 + 1)), (0, .ref p_a0), (1, .ref p_a1), (2, .ref p_a2), (4, .int x4), (6, .int x6)] dX10_measure_93 rfl (by first | rfl | decide) (by decide) rfl ?_
    refine j_goto C 22 dX10_measure_96 (by decide) ?_
    refine j_lv [1, 2, 3, 4, 0] rfl ?_
    exact hk_22 x4 (x5 + 1) v_a1_count n_a2 f_a2 n_a0_far f_a0_far n_a1_from f_a1_from n_a1_to f_a1_to n_a1_yards f_a1_yards hf
  · replace hf := ifn c_6 hf
    refine j_aload_n C 2 dX10_measure_49 rfl rfl ?_
    refine j_iload C 5 dX10_measure_50 rfl ?_
    obtain ⟨hi7, hf⟩ := gix_some hf
    refine j_iald C 2 rfl hi7 dX10_measure_52 ?_
    refine j_if_ne C 87 dX10_measure_53 (by decide) (fun c_8 => ?_) (fun c_8 => ?_)
    · replace hf := ifn c_8 hf
      exact j_Way_measure_87 C p_a0 p_a1 p_a2 p_a0_far p_a1_from p_a1_to p_a1_yards u_a0_street v_a0_count v_a0_set v_a0_yards u_a1_paid hk_22 hk_40 x4 x5 x6 v_a1_count n_a2 f_a2 n_a0_far f_a0_far n_a1_from f_a1_from n_a1_to f_a1_to n_a1_yards f_a1_yards hf
    · replace hf := ifp c_8 hf
      refine j_aload_n C 0 dX10_measure_56 rfl rfl ?_
      refine j_aload_n C 1 dX10_measure_57 rfl rfl ?_
      refine j_get C (ci := 6) 1 0 iw_Way_measure_7 rfl rfl (by decide) fl_46_Way_measure rfl rfl dX10_measure_58 ?_
      refine j_iload C 5 dX10_measure_61 rfl ?_
      refine j_pc 63 rfl ?_
      obtain ⟨hi9, hf⟩ := gix_some hf
      refine j_iald C 4 rfl hi9 dX10_measure_63 ?_
      refine j_aload_n C 1 dX10_measure_64 rfl rfl ?_
      refine j_get C (ci := 6) 1 1 iw_Way_measure_7 rfl rfl (by decide) fl_49_Way_measure rfl rfl dX10_measure_65 ?_
      refine j_iload C 5 dX10_measure_68 rfl ?_
      obtain ⟨hi10, hf⟩ := gix_some hf
      refine j_iald C 5 rfl hi10 dX10_measure_70 ?_
      refine j_aload_n C 1 dX10_measure_71 rfl rfl ?_
      refine j_get C (ci := 6) 1 2 iw_Way_measure_7 rfl rfl (by decide) fl_52_Way_measure rfl rfl dX10_measure_72 ?_
      refine j_iload C 5 dX10_measure_75 rfl ?_
      obtain ⟨hi11, hf⟩ := gix_some hf
      refine j_iald C 6 rfl hi11 dX10_measure_77 ?_
      obtain ⟨r12, hc13, hf⟩ := bnd hf
      refine j_cvI C (n := 3) (ci := 9) [.int (f_a1_from x6.toNatClampNeg), .int (f_a1_to x6.toNatClampNeg), .int (f_a1_yards x6.toNatClampNeg)] [0, 3] [1, 2, 4, 5, 6] [5, 0, 1, 6, 2, 3, 4] (Wd_Way_measure g p_a0 p_a1 p_a2 p_a0_far p_a1_from p_a1_to p_a1_yards u_a0_street v_a0_count v_a0_set v_a0_yards u_a1_paid v_a1_count n_a2 f_a2 n_a0_far r12.2 n_a1_from f_a1_from n_a1_to f_a1_to n_a1_yards f_a1_yards) (c_Way_comesNearer E.2.1 g p_a0 p_a0_far u_a0_street v_a0_count v_a0_set v_a0_yards n_a0_far f_a0_far (f_a1_from x6.toNatClampNeg) (f_a1_to x6.toNatClampNeg) (f_a1_yards x6.toNatClampNeg) hc13) gX10_measure_X10_comesNearer rfl rfl rfl (by decide +kernel) ⟨Nat.le_of_ble_eq_true rfl, Nat.le_of_ble_eq_true rfl⟩ rfl rfl (by decide) (by decide) (by decide) 0 rfl rfl (by decide) rfl rfl rfl (Nat.le_of_ble_eq_true rfl) ⟨Nat.zero_le _, Nat.zero_le _⟩ dX10_measure_78 ?_
      refine j_if_eq C 87 dX10_measure_81 (by decide) (fun c_14 => ?_) (fun c_14 => ?_)
      · replace hf := ifp c_14 hf
        exact j_Way_measure_87 C p_a0 p_a1 p_a2 p_a0_far p_a1_from p_a1_to p_a1_yards u_a0_street v_a0_count v_a0_set v_a0_yards u_a1_paid hk_22 hk_40 x4 x5 x6 v_a1_count n_a2 f_a2 n_a0_far r12.2 n_a1_from f_a1_from n_a1_to f_a1_to n_a1_yards f_a1_yards hf
      · replace hf := ifn c_14 hf
        refine j_iconst C dX10_measure_84 (v := 1) (by decide) ?_
        refine j_pc 85 rfl ?_
        refine j_istore C [(4, .int 1), (0, .ref p_a0), (1, .ref p_a1), (2, .ref p_a2), (5, .int x5), (6, .int x6)] dX10_measure_85 (by decide) rfl ?_
        refine j_lv [1, 2, 3, 0, 4, 5] rfl ?_
        exact j_Way_measure_87 C p_a0 p_a1 p_a2 p_a0_far p_a1_from p_a1_to p_a1_yards u_a0_street v_a0_count v_a0_set v_a0_yards u_a1_paid hk_22 hk_40 1 x5 x6 v_a1_count n_a2 f_a2 n_a0_far r12.2 n_a1_from f_a1_from n_a1_to f_a1_to n_a1_yards f_a1_yards hf
set_option maxHeartbeats 4000000 in
set_option maxRecDepth 100000 in
theorem j_Way_measure_40 {E : Ev} {g : Gd} {A : Nat → Prop} (C : Cx E g A RX10 cX10_measure wsX10_measure 7 none) (p_a0 : Nat) (p_a1 : Nat) (p_a2 : Nat) (p_a0_far : Nat) (p_a1_from : Nat) (p_a1_to : Nat) (p_a1_yards : Nat) (u_a0_street : Value) (v_a0_count : Int32) (v_a0_set : Int32) (v_a0_yards : Int32) (u_a1_paid : Value) {ρ : (Nat → Int32)} {k_22 : Int32 → Int32 → Int32 → Nat → (Nat → Int32) → Nat → (Nat → Int32) → Nat → (Nat → Int32) → Nat → (Nat → Int32) → Nat → (Nat → Int32) → Option ((Nat → Int32))} (hk_22 : ∀ (x4 : Int32) (x5 : Int32) (v_a1_count : Int32) (n_a2 : Nat) (f_a2 : Nat → Int32) (n_a0_far : Nat) (f_a0_far : Nat → Int32) (n_a1_from : Nat) (f_a1_from : Nat → Int32) (n_a1_to : Nat) (f_a1_to : Nat → Int32) (n_a1_yards : Nat) (f_a1_yards : Nat → Int32), k_22 x4 x5 v_a1_count n_a2 f_a2 n_a0_far f_a0_far n_a1_from f_a1_from n_a1_to f_a1_to n_a1_yards f_a1_yards = some ρ → J E rm_Way_measure g A 7 (QV E g A (Wd_Way_measure g p_a0 p_a1 p_a2 p_a0_far p_a1_from p_a1_to p_a1_yards u_a0_street v_a0_count v_a0_set v_a0_yards u_a1_paid v_a1_count n_a2 f_a2 n_a0_far ρ n_a1_from f_a1_from n_a1_to f_a1_to n_a1_yards f_a1_yards) 0 0) 0 0 (Wd_Way_measure g p_a0 p_a1 p_a2 p_a0_far p_a1_from p_a1_to p_a1_yards u_a0_street v_a0_count v_a0_set v_a0_yards u_a1_paid v_a1_count n_a2 f_a2 n_a0_far f_a0_far n_a1_from f_a1_from n_a1_to f_a1_to n_a1_yards f_a1_yards) [(0, .ref p_a0), (1, .ref p_a1), (2, .ref p_a2), (4, .int x4), (5, .int x5)] 22 []) : ∀ (n : Nat) (x4 : Int32) (x5 : Int32) (x6 : Int32) (v_a1_count : Int32) (n_a2 : Nat) (f_a2 : Nat → Int32) (n_a0_far : Nat) (f_a0_far : Nat → Int32) (n_a1_from : Nat) (f_a1_from : Nat → Int32) (n_a1_to : Nat) (f_a1_to : Nat → Int32) (n_a1_yards : Nat) (f_a1_yards : Nat → Int32), f_Way_measure_40 k_22 n x4 x5 x6 v_a1_count n_a2 f_a2 n_a0_far f_a0_far n_a1_from f_a1_from n_a1_to f_a1_to n_a1_yards f_a1_yards = some ρ → J E rm_Way_measure g A 7 (QV E g A (Wd_Way_measure g p_a0 p_a1 p_a2 p_a0_far p_a1_from p_a1_to p_a1_yards u_a0_street v_a0_count v_a0_set v_a0_yards u_a1_paid v_a1_count n_a2 f_a2 n_a0_far ρ n_a1_from f_a1_from n_a1_to f_a1_to n_a1_yards f_a1_yards) 0 0) 0 0 (Wd_Way_measure g p_a0 p_a1 p_a2 p_a0_far p_a1_from p_a1_to p_a1_yards u_a0_street v_a0_count v_a0_set v_a0_yards u_a1_paid v_a1_count n_a2 f_a2 n_a0_far f_a0_far n_a1_from f_a1_from n_a1_to f_a1_to n_a1_yards f_a1_yards) [(0, .ref p_a0), (1, .ref p_a1), (2, .ref p_a2), (4, .int x4), (5, .int x5), (6, .int x6)] 40 [] := by
  intro n
  induction n with
  | zero => intro x4 x5 x6 v_a1_count n_a2 f_a2 n_a0_far f_a0_far n_a1_from f_a1_from n_a1_to f_a1_to n_a1_yards f_a1_yards h; have h0 : (none : Option ((Nat → Int32))) = some ρ := h; cases h0
  | succ n ih => intro x4 x5 x6 v_a1_count n_a2 f_a2 n_a0_far f_a0_far n_a1_from f_a1_from n_a1_to f_a1_to n_a1_yards f_a1_yards h; exact jb_Way_measure_40 C p_a0 p_a1 p_a2 p_a0_far p_a1_from p_a1_to p_a1_yards u_a0_street v_a0_count v_a0_set v_a0_yards u_a1_paid hk_22 ih x4 x5 x6 v_a1_count n_a2 f_a2 n_a0_far f_a0_far n_a1_from f_a1_from n_a1_to f_a1_to n_a1_yards f_a1_yards h
noncomputable def b_Way_measure_22 (k_22 : Int32 → Int32 → Int32 → Nat → (Nat → Int32) → Nat → (Nat → Int32) → Nat → (Nat → Int32) → Nat → (Nat → Int32) → Nat → (Nat → Int32) → Option ((Nat → Int32))) (x4 : Int32) (x5 : Int32) (v_a1_count : Int32) (n_a2 : Nat) (f_a2 : Nat → Int32) (n_a0_far : Nat) (f_a0_far : Nat → Int32) (n_a1_from : Nat) (f_a1_from : Nat → Int32) (n_a1_to : Nat) (f_a1_to : Nat → Int32) (n_a1_yards : Nat) (f_a1_yards : Nat → Int32) : Option ((Nat → Int32)) := if 8 ≤ x5 then some f_a0_far else if x4 = 0 then some f_a0_far else f_Way_measure_40 k_22 FU 0 x5 0 v_a1_count n_a2 f_a2 n_a0_far f_a0_far n_a1_from f_a1_from n_a1_to f_a1_to n_a1_yards f_a1_yards
noncomputable def f_Way_measure_22 (n : Nat) : Int32 → Int32 → Int32 → Nat → (Nat → Int32) → Nat → (Nat → Int32) → Nat → (Nat → Int32) → Nat → (Nat → Int32) → Nat → (Nat → Int32) → Option ((Nat → Int32)) := Nat.rec (motive := fun _ => Int32 → Int32 → Int32 → Nat → (Nat → Int32) → Nat → (Nat → Int32) → Nat → (Nat → Int32) → Nat → (Nat → Int32) → Nat → (Nat → Int32) → Option ((Nat → Int32))) (fun _ _ _ _ _ _ _ _ _ _ _ _ _ => none) (fun _ ih => b_Way_measure_22 ih) n
set_option maxHeartbeats 4000000 in
set_option maxRecDepth 100000 in
theorem jb_Way_measure_22 {E : Ev} {g : Gd} {A : Nat → Prop} (C : Cx E g A RX10 cX10_measure wsX10_measure 7 none) (p_a0 : Nat) (p_a1 : Nat) (p_a2 : Nat) (p_a0_far : Nat) (p_a1_from : Nat) (p_a1_to : Nat) (p_a1_yards : Nat) (u_a0_street : Value) (v_a0_count : Int32) (v_a0_set : Int32) (v_a0_yards : Int32) (u_a1_paid : Value) {ρ : (Nat → Int32)} {k_22 : Int32 → Int32 → Int32 → Nat → (Nat → Int32) → Nat → (Nat → Int32) → Nat → (Nat → Int32) → Nat → (Nat → Int32) → Nat → (Nat → Int32) → Option ((Nat → Int32))} (hk_22 : ∀ (x4 : Int32) (x5 : Int32) (v_a1_count : Int32) (n_a2 : Nat) (f_a2 : Nat → Int32) (n_a0_far : Nat) (f_a0_far : Nat → Int32) (n_a1_from : Nat) (f_a1_from : Nat → Int32) (n_a1_to : Nat) (f_a1_to : Nat → Int32) (n_a1_yards : Nat) (f_a1_yards : Nat → Int32), k_22 x4 x5 v_a1_count n_a2 f_a2 n_a0_far f_a0_far n_a1_from f_a1_from n_a1_to f_a1_to n_a1_yards f_a1_yards = some ρ → J E rm_Way_measure g A 7 (QV E g A (Wd_Way_measure g p_a0 p_a1 p_a2 p_a0_far p_a1_from p_a1_to p_a1_yards u_a0_street v_a0_count v_a0_set v_a0_yards u_a1_paid v_a1_count n_a2 f_a2 n_a0_far ρ n_a1_from f_a1_from n_a1_to f_a1_to n_a1_yards f_a1_yards) 0 0) 0 0 (Wd_Way_measure g p_a0 p_a1 p_a2 p_a0_far p_a1_from p_a1_to p_a1_yards u_a0_street v_a0_count v_a0_set v_a0_yards u_a1_paid v_a1_count n_a2 f_a2 n_a0_far f_a0_far n_a1_from f_a1_from n_a1_to f_a1_to n_a1_yards f_a1_yards) [(0, .ref p_a0), (1, .ref p_a1), (2, .ref p_a2), (4, .int x4), (5, .int x5)] 22 []) (x4 : Int32) (x5 : Int32) (v_a1_count : Int32) (n_a2 : Nat) (f_a2 : Nat → Int32) (n_a0_far : Nat) (f_a0_far : Nat → Int32) (n_a1_from : Nat) (f_a1_from : Nat → Int32) (n_a1_to : Nat) (f_a1_to : Nat → Int32) (n_a1_yards : Nat) (f_a1_yards : Nat → Int32) (hf : b_Way_measure_22 k_22 x4 x5 v_a1_count n_a2 f_a2 n_a0_far f_a0_far n_a1_from f_a1_from n_a1_to f_a1_to n_a1_yards f_a1_yards = some ρ) : J E rm_Way_measure g A 7 (QV E g A (Wd_Way_measure g p_a0 p_a1 p_a2 p_a0_far p_a1_from p_a1_to p_a1_yards u_a0_street v_a0_count v_a0_set v_a0_yards u_a1_paid v_a1_count n_a2 f_a2 n_a0_far ρ n_a1_from f_a1_from n_a1_to f_a1_to n_a1_yards f_a1_yards) 0 0) 0 0 (Wd_Way_measure g p_a0 p_a1 p_a2 p_a0_far p_a1_from p_a1_to p_a1_yards u_a0_street v_a0_count v_a0_set v_a0_yards u_a1_paid v_a1_count n_a2 f_a2 n_a0_far f_a0_far n_a1_from f_a1_from n_a1_to f_a1_to n_a1_yards f_a1_yards) [(0, .ref p_a0), (1, .ref p_a1), (2, .ref p_a2), (4, .int x4), (5, .int x5)] 22 [] := by
  unfold b_Way_measure_22 at hf
  refine j_iload C 4 dX10_measure_22 rfl ?_
  refine j_bipush C dX10_measure_24 (v := 8) (by decide) ?_
  refine j_icmp_ge C 99 dX10_measure_26 (by decide) (fun c_4 => ?_) (fun c_4 => ?_)
  · replace hf := ifp c_4 hf
    obtain rfl := Option.some.inj hf
    exact j_vret C dX10_measure_99 rfl
  · replace hf := ifn c_4 hf
    refine j_iload C 3 dX10_measure_29 rfl ?_
    refine j_if_eq C 99 dX10_measure_31 (by decide) (fun c_5 => ?_) (fun c_5 => ?_)
    · replace hf := ifp c_5 hf
      obtain rfl := Option.some.inj hf
      exact j_vret C dX10_measure_99 rfl
    · replace hf := ifn c_5 hf
      refine j_iconst C dX10_measure_34 (v := 0) (by decide) ?_
      refine j_istore C [(4, .int 0), (0, .ref p_a0), (1, .ref p_a1), (2, .ref p_a2), (5, .int x5)] dX10_measure_35 (by decide) rfl ?_
      refine j_iconst C dX10_measure_37 (v := 0) (by decide) ?_
      refine j_istore C [(6, .int 0), (4, .int 0), (0, .ref p_a0), (1, .ref p_a1), (2, .ref p_a2), (5, .int x5)] dX10_measure_38 (by decide) rfl ?_
      refine j_lv [2, 3, 4, 1, 5, 0] rfl ?_
      exact j_Way_measure_40 C p_a0 p_a1 p_a2 p_a0_far p_a1_from p_a1_to p_a1_yards u_a0_street v_a0_count v_a0_set v_a0_yards u_a1_paid hk_22 FU 0 x5 0 v_a1_count n_a2 f_a2 n_a0_far f_a0_far n_a1_from f_a1_from n_a1_to f_a1_to n_a1_yards f_a1_yards hf
set_option maxHeartbeats 4000000 in
set_option maxRecDepth 100000 in
theorem j_Way_measure_22 {E : Ev} {g : Gd} {A : Nat → Prop} (C : Cx E g A RX10 cX10_measure wsX10_measure 7 none) (p_a0 : Nat) (p_a1 : Nat) (p_a2 : Nat) (p_a0_far : Nat) (p_a1_from : Nat) (p_a1_to : Nat) (p_a1_yards : Nat) (u_a0_street : Value) (v_a0_count : Int32) (v_a0_set : Int32) (v_a0_yards : Int32) (u_a1_paid : Value) {ρ : (Nat → Int32)} : ∀ (n : Nat) (x4 : Int32) (x5 : Int32) (v_a1_count : Int32) (n_a2 : Nat) (f_a2 : Nat → Int32) (n_a0_far : Nat) (f_a0_far : Nat → Int32) (n_a1_from : Nat) (f_a1_from : Nat → Int32) (n_a1_to : Nat) (f_a1_to : Nat → Int32) (n_a1_yards : Nat) (f_a1_yards : Nat → Int32), f_Way_measure_22 n x4 x5 v_a1_count n_a2 f_a2 n_a0_far f_a0_far n_a1_from f_a1_from n_a1_to f_a1_to n_a1_yards f_a1_yards = some ρ → J E rm_Way_measure g A 7 (QV E g A (Wd_Way_measure g p_a0 p_a1 p_a2 p_a0_far p_a1_from p_a1_to p_a1_yards u_a0_street v_a0_count v_a0_set v_a0_yards u_a1_paid v_a1_count n_a2 f_a2 n_a0_far ρ n_a1_from f_a1_from n_a1_to f_a1_to n_a1_yards f_a1_yards) 0 0) 0 0 (Wd_Way_measure g p_a0 p_a1 p_a2 p_a0_far p_a1_from p_a1_to p_a1_yards u_a0_street v_a0_count v_a0_set v_a0_yards u_a1_paid v_a1_count n_a2 f_a2 n_a0_far f_a0_far n_a1_from f_a1_from n_a1_to f_a1_to n_a1_yards f_a1_yards) [(0, .ref p_a0), (1, .ref p_a1), (2, .ref p_a2), (4, .int x4), (5, .int x5)] 22 [] := by
  intro n
  induction n with
  | zero => intro x4 x5 v_a1_count n_a2 f_a2 n_a0_far f_a0_far n_a1_from f_a1_from n_a1_to f_a1_to n_a1_yards f_a1_yards h; have h0 : (none : Option ((Nat → Int32))) = some ρ := h; cases h0
  | succ n ih => intro x4 x5 v_a1_count n_a2 f_a2 n_a0_far f_a0_far n_a1_from f_a1_from n_a1_to f_a1_to n_a1_yards f_a1_yards h; exact jb_Way_measure_22 C p_a0 p_a1 p_a2 p_a0_far p_a1_from p_a1_to p_a1_yards u_a0_street v_a0_count v_a0_set v_a0_yards u_a1_paid ih x4 x5 v_a1_count n_a2 f_a2 n_a0_far f_a0_far n_a1_from f_a1_from n_a1_to f_a1_to n_a1_yards f_a1_yards h
noncomputable def f_Way_measure (x3 : Int32) (v_a1_count : Int32) (n_a2 : Nat) (f_a2 : Nat → Int32) (n_a0_far : Nat) (f_a0_far : Nat → Int32) (n_a1_from : Nat) (f_a1_from : Nat → Int32) (n_a1_to : Nat) (f_a1_to : Nat → Int32) (n_a1_yards : Nat) (f_a1_yards : Nat → Int32) : Option ((Nat → Int32)) := (f_Arrays_fill 1000000 n_a0_far f_a0_far).bind (fun r1 => gix x3 n_a0_far (f_Way_measure_22 FU 1 0 v_a1_count n_a2 f_a2 n_a0_far (upd r1 x3.toNatClampNeg 0) n_a1_from f_a1_from n_a1_to f_a1_to n_a1_yards f_a1_yards))
set_option maxHeartbeats 4000000 in
set_option maxRecDepth 100000 in
theorem c_Way_measure (l : Launch) (g : Gd) (p_a0 : Nat) (p_a1 : Nat) (p_a2 : Nat) (p_a0_far : Nat) (p_a1_from : Nat) (p_a1_to : Nat) (p_a1_yards : Nat) (u_a0_street : Value) (v_a0_count : Int32) (v_a0_set : Int32) (v_a0_yards : Int32) (u_a1_paid : Value) (v_a1_count : Int32) (n_a2 : Nat) (f_a2 : Nat → Int32) (n_a0_far : Nat) (f_a0_far : Nat → Int32) (n_a1_from : Nat) (f_a1_from : Nat → Int32) (n_a1_to : Nat) (f_a1_to : Nat → Int32) (n_a1_yards : Nat) (f_a1_yards : Nat → Int32) (x3 : Int32) {ρ : (Nat → Int32)} (hf : f_Way_measure x3 v_a1_count n_a2 f_a2 n_a0_far f_a0_far n_a1_from f_a1_from n_a1_to f_a1_to n_a1_yards f_a1_yards = some ρ) : CtV l g yX10_measure wsX10_measure rm_Way_measure [.ref p_a0, .ref p_a1, .ref p_a2, .int x3] (Wd_Way_measure g p_a0 p_a1 p_a2 p_a0_far p_a1_from p_a1_to p_a1_yards u_a0_street v_a0_count v_a0_set v_a0_yards u_a1_paid v_a1_count n_a2 f_a2 n_a0_far f_a0_far n_a1_from f_a1_from n_a1_to f_a1_to n_a1_yards f_a1_yards) (Wd_Way_measure g p_a0 p_a1 p_a2 p_a0_far p_a1_from p_a1_to p_a1_yards u_a0_street v_a0_count v_a0_set v_a0_yards u_a1_paid v_a1_count n_a2 f_a2 n_a0_far ρ n_a1_from f_a1_from n_a1_to f_a1_to n_a1_yards f_a1_yards) := by
  refine CtV.of (by decide) rfl rfl (Nat.le_of_ble_eq_true rfl) (fun E A _ C => ?_)
  unfold f_Way_measure at hf
  show J E rm_Way_measure g A 7 (QV E g A (Wd_Way_measure g p_a0 p_a1 p_a2 p_a0_far p_a1_from p_a1_to p_a1_yards u_a0_street v_a0_count v_a0_set v_a0_yards u_a1_paid v_a1_count n_a2 f_a2 n_a0_far ρ n_a1_from f_a1_from n_a1_to f_a1_to n_a1_yards f_a1_yards) 0 0) 0 0 (Wd_Way_measure g p_a0 p_a1 p_a2 p_a0_far p_a1_from p_a1_to p_a1_yards u_a0_street v_a0_count v_a0_set v_a0_yards u_a1_paid v_a1_count n_a2 f_a2 n_a0_far f_a0_far n_a1_from f_a1_from n_a1_to f_a1_to n_a1_yards f_a1_yards) [(0, .ref p_a0), (1, .ref p_a1), (2, .ref p_a2), (3, .int x3)] 0 []
  refine j_aload_n C 0 dX10_measure_0 rfl rfl ?_
  refine j_get C (ci := 9) 0 4 iw_Way_measure_10 rfl rfl (by decide) fl_25_Way_measure rfl rfl dX10_measure_1 ?_
  refine j_ldc C (v := 1000000) kc_32_Way_measure dX10_measure_4 ?_
  obtain ⟨r1, hc2, hf⟩ := bnd hf
  refine j_csV C (n := 2) [.ref p_a0_far, .int 1000000] [3] [0, 1, 2, 4, 5, 6] [0, 1, 2, 6, 3, 4, 5] (Wd_Way_measure g p_a0 p_a1 p_a2 p_a0_far p_a1_from p_a1_to p_a1_yards u_a0_street v_a0_count v_a0_set v_a0_yards u_a1_paid v_a1_count n_a2 f_a2 n_a0_far r1 n_a1_from f_a1_from n_a1_to f_a1_to n_a1_yards f_a1_yards) (c_Arrays_fill E.2.1 g p_a0_far n_a0_far f_a0_far 1000000 hc2) gX10_measure_J7_fill_53178 rfl rfl rfl (by decide +kernel) ⟨Nat.le_of_ble_eq_true rfl, Nat.le_of_ble_eq_true rfl⟩ rfl rfl (by decide) (by decide) (by decide) (by decide) rfl rfl rfl (Nat.le_of_ble_eq_true rfl) ⟨Nat.zero_le _, Nat.zero_le _⟩ dX10_measure_6 ?_
  refine j_aload_n C 0 dX10_measure_9 rfl rfl ?_
  refine j_get C (ci := 9) 0 4 iw_Way_measure_10 rfl rfl (by decide) fl_25_Way_measure rfl rfl dX10_measure_10 ?_
  refine j_iload_n C 3 dX10_measure_13 rfl rfl ?_
  refine j_iconst C dX10_measure_14 (v := 0) (by decide) ?_
  obtain ⟨hi3, hf⟩ := gix_some hf
  refine j_iast C 3 (Wd_Way_measure g p_a0 p_a1 p_a2 p_a0_far p_a1_from p_a1_to p_a1_yards u_a0_street v_a0_count v_a0_set v_a0_yards u_a1_paid v_a1_count n_a2 f_a2 n_a0_far (upd r1 x3.toNatClampNeg 0) n_a1_from f_a1_from n_a1_to f_a1_to n_a1_yards f_a1_yards) rfl hi3 rfl dX10_measure_15 ?_
  refine j_iconst C dX10_measure_16 (v := 1) (by decide) ?_
  refine j_istore C [(4, .int 1), (0, .ref p_a0), (1, .ref p_a1), (2, .ref p_a2), (3, .int x3)] dX10_measure_17 (by decide) rfl ?_
  refine j_iconst C dX10_measure_19 (v := 0) (by decide) ?_
  refine j_pc 20 rfl ?_
  refine j_istore C [(5, .int 0), (4, .int 1), (0, .ref p_a0), (1, .ref p_a1), (2, .ref p_a2), (3, .int x3)] dX10_measure_20 (by decide) rfl ?_
  refine j_lv [2, 3, 4, 1, 0] rfl ?_
  exact j_Way_measure_22 C p_a0 p_a1 p_a2 p_a0_far p_a1_from p_a1_to p_a1_yards u_a0_street v_a0_count v_a0_set v_a0_yards u_a1_paid FU 1 0 v_a1_count n_a2 f_a2 n_a0_far (upd r1 x3.toNatClampNeg 0) n_a1_from f_a1_from n_a1_to f_a1_to n_a1_yards f_a1_yards hf
abbrev rm_Way_leastOnward : Room := { frames := 0, cells := 0, slots := 0, locals := 0 }
def Wd_Way_leastOnward (g : Gd) (p_a0 : Nat) (p_a1 : Nat) (p_a2 : Nat) (p_a0_far : Nat) (p_a1_yards : Nat) (p_a1_from : Nat) (p_a1_to : Nat) (u_a0_street : Value) (v_a0_count : Int32) (v_a0_set : Int32) (v_a0_yards : Int32) (u_a1_paid : Value) (v_a1_count : Int32) (n_a2 : Nat) (f_a2 : Nat → Int32) (n_a0_far : Nat) (f_a0_far : Nat → Int32) (n_a1_yards : Nat) (f_a1_yards : Nat → Int32) (n_a1_from : Nat) (f_a1_from : Nat → Int32) (n_a1_to : Nat) (f_a1_to : Nat → Int32) : va_W := [(p_a0, .inr (9, [u_a0_street, .int v_a0_count, .int v_a0_set, .int v_a0_yards, .ref p_a0_far])), (p_a1, .inr (6, [.ref p_a1_from, .ref p_a1_to, .ref p_a1_yards, u_a1_paid, .int v_a1_count])), (p_a2, .inl (g.2.1 0, n_a2, .inl f_a2)), (p_a0_far, .inl (g.2.1 0, n_a0_far, .inl f_a0_far)), (p_a1_yards, .inl (g.2.1 0, n_a1_yards, .inl f_a1_yards)), (p_a1_from, .inl (g.2.1 0, n_a1_from, .inl f_a1_from)), (p_a1_to, .inl (g.2.1 0, n_a1_to, .inl f_a1_to))]
theorem iw_Way_leastOnward_7 : ∀ w ∈ wsX70, w ∈ wsX10_leastOnward := fun w h => List.mem_cons_of_mem _ (List.mem_append_left _ (List.mem_append_right _ h))
theorem iw_Way_leastOnward_10 : ∀ w ∈ wsX100, w ∈ wsX10_leastOnward := fun w h => List.mem_cons_of_mem _ (List.mem_append_right _ h)
theorem fl_43_Way_leastOnward : Cond.fieldLink RX10 43 "ShutWays$Roads" (TX7 4).2.1 (TX7 4).2.2.1 ∈ wsX10_leastOnward := by decide +kernel
theorem fl_25_Way_leastOnward : Cond.fieldLink RX10 25 "ShutWays$Way" (TX10 4).2.1 (TX10 4).2.2.1 ∈ wsX10_leastOnward := by decide +kernel
theorem fl_52_Way_leastOnward : Cond.fieldLink RX10 52 "ShutWays$Roads" (TX7 2).2.1 (TX7 2).2.2.1 ∈ wsX10_leastOnward := by decide +kernel
theorem fl_46_Way_leastOnward : Cond.fieldLink RX10 46 "ShutWays$Roads" (TX7 0).2.1 (TX7 0).2.2.1 ∈ wsX10_leastOnward := by decide +kernel
theorem fl_49_Way_leastOnward : Cond.fieldLink RX10 49 "ShutWays$Roads" (TX7 1).2.1 (TX7 1).2.2.1 ∈ wsX10_leastOnward := by decide +kernel
noncomputable def f_Way_leastOnward_106 (k_3 : Int32 → Int32 → Int32 → Nat → (Nat → Int32) → Nat → (Nat → Int32) → Nat → (Nat → Int32) → Nat → (Nat → Int32) → Nat → (Nat → Int32) → Option (Int32)) (x3 : Int32) (x4 : Int32) (v_a1_count : Int32) (n_a2 : Nat) (f_a2 : Nat → Int32) (n_a0_far : Nat) (f_a0_far : Nat → Int32) (n_a1_yards : Nat) (f_a1_yards : Nat → Int32) (n_a1_from : Nat) (f_a1_from : Nat → Int32) (n_a1_to : Nat) (f_a1_to : Nat → Int32) : Option (Int32) := k_3 x3 (x4 + 1) v_a1_count n_a2 f_a2 n_a0_far f_a0_far n_a1_yards f_a1_yards n_a1_from f_a1_from n_a1_to f_a1_to
set_option maxHeartbeats 4000000 in
set_option maxRecDepth 100000 in
theorem j_Way_leastOnward_106 {E : Ev} {g : Gd} {A : Nat → Prop} (C : Cx E g A RX10 cX10_leastOnward wsX10_leastOnward 7 (some .int)) (p_a0 : Nat) (p_a1 : Nat) (p_a2 : Nat) (p_a0_far : Nat) (p_a1_yards : Nat) (p_a1_from : Nat) (p_a1_to : Nat) (u_a0_street : Value) (v_a0_count : Int32) (v_a0_set : Int32) (v_a0_yards : Int32) (u_a1_paid : Value) {ρ : Int32} {k_3 : Int32 → Int32 → Int32 → Nat → (Nat → Int32) → Nat → (Nat → Int32) → Nat → (Nat → Int32) → Nat → (Nat → Int32) → Nat → (Nat → Int32) → Option (Int32)} (hk_3 : ∀ (x3 : Int32) (x4 : Int32) (v_a1_count : Int32) (n_a2 : Nat) (f_a2 : Nat → Int32) (n_a0_far : Nat) (f_a0_far : Nat → Int32) (n_a1_yards : Nat) (f_a1_yards : Nat → Int32) (n_a1_from : Nat) (f_a1_from : Nat → Int32) (n_a1_to : Nat) (f_a1_to : Nat → Int32), k_3 x3 x4 v_a1_count n_a2 f_a2 n_a0_far f_a0_far n_a1_yards f_a1_yards n_a1_from f_a1_from n_a1_to f_a1_to = some ρ → J E rm_Way_leastOnward g A 7 (QI E g A ρ (Wd_Way_leastOnward g p_a0 p_a1 p_a2 p_a0_far p_a1_yards p_a1_from p_a1_to u_a0_street v_a0_count v_a0_set v_a0_yards u_a1_paid v_a1_count n_a2 f_a2 n_a0_far f_a0_far n_a1_yards f_a1_yards n_a1_from f_a1_from n_a1_to f_a1_to) 0 0) 0 0 (Wd_Way_leastOnward g p_a0 p_a1 p_a2 p_a0_far p_a1_yards p_a1_from p_a1_to u_a0_street v_a0_count v_a0_set v_a0_yards u_a1_paid v_a1_count n_a2 f_a2 n_a0_far f_a0_far n_a1_yards f_a1_yards n_a1_from f_a1_from n_a1_to f_a1_to) [(0, .ref p_a0), (1, .ref p_a1), (2, .ref p_a2), (3, .int x3), (4, .int x4)] 3 []) (x3 : Int32) (x4 : Int32) (v_a1_count : Int32) (n_a2 : Nat) (f_a2 : Nat → Int32) (n_a0_far : Nat) (f_a0_far : Nat → Int32) (n_a1_yards : Nat) (f_a1_yards : Nat → Int32) (n_a1_from : Nat) (f_a1_from : Nat → Int32) (n_a1_to : Nat) (f_a1_to : Nat → Int32) (hf : f_Way_leastOnward_106 k_3 x3 x4 v_a1_count n_a2 f_a2 n_a0_far f_a0_far n_a1_yards f_a1_yards n_a1_from f_a1_from n_a1_to f_a1_to = some ρ) : J E rm_Way_leastOnward g A 7 (QI E g A ρ (Wd_Way_leastOnward g p_a0 p_a1 p_a2 p_a0_far p_a1_yards p_a1_from p_a1_to u_a0_street v_a0_count v_a0_set v_a0_yards u_a1_paid v_a1_count n_a2 f_a2 n_a0_far f_a0_far n_a1_yards f_a1_yards n_a1_from f_a1_from n_a1_to f_a1_to) 0 0) 0 0 (Wd_Way_leastOnward g p_a0 p_a1 p_a2 p_a0_far p_a1_yards p_a1_from p_a1_to u_a0_street v_a0_count v_a0_set v_a0_yards u_a1_paid v_a1_count n_a2 f_a2 n_a0_far f_a0_far n_a1_yards f_a1_yards n_a1_from f_a1_from n_a1_to f_a1_to) [(0, .ref p_a0), (1, .ref p_a1), (2, .ref p_a2), (3, .int x3), (4, .int x4)] 106 [] := by
  unfold f_Way_leastOnward_106 at hf
  refine j_iinc C (v := (x4 + 1)) 4 [(4, .int (x4 + 1)), (0, .ref p_a0), (1, .ref p_a1), (2, .ref p_a2), (3, .int x3)] dX10_leastOnward_106 rfl (by first | rfl | decide) (by decide) rfl ?_
  refine j_goto C 3 dX10_leastOnward_109 (by decide) ?_
  refine j_lv [1, 2, 3, 4, 0] rfl ?_
  exact hk_3 x3 (x4 + 1) v_a1_count n_a2 f_a2 n_a0_far f_a0_far n_a1_yards f_a1_yards n_a1_from f_a1_from n_a1_to f_a1_to hf
noncomputable def f_Way_leastOnward_89 (k_3 : Int32 → Int32 → Int32 → Nat → (Nat → Int32) → Nat → (Nat → Int32) → Nat → (Nat → Int32) → Nat → (Nat → Int32) → Nat → (Nat → Int32) → Option (Int32)) (x3 : Int32) (x4 : Int32) (y0 : Int32) (v_a1_count : Int32) (n_a2 : Nat) (f_a2 : Nat → Int32) (n_a0_far : Nat) (f_a0_far : Nat → Int32) (n_a1_yards : Nat) (f_a1_yards : Nat → Int32) (n_a1_from : Nat) (f_a1_from : Nat → Int32) (n_a1_to : Nat) (f_a1_to : Nat → Int32) : Option (Int32) := gix x4 n_a2 (if (f_a2 x4.toNatClampNeg) = 0 then if y0 = 0 then f_Way_leastOnward_106 k_3 x3 x4 v_a1_count n_a2 f_a2 n_a0_far f_a0_far n_a1_yards f_a1_yards n_a1_from f_a1_from n_a1_to f_a1_to else some x4 else f_Way_leastOnward_106 k_3 x3 x4 v_a1_count n_a2 f_a2 n_a0_far f_a0_far n_a1_yards f_a1_yards n_a1_from f_a1_from n_a1_to f_a1_to)
set_option maxHeartbeats 4000000 in
set_option maxRecDepth 100000 in
theorem j_Way_leastOnward_89 {E : Ev} {g : Gd} {A : Nat → Prop} (C : Cx E g A RX10 cX10_leastOnward wsX10_leastOnward 7 (some .int)) (p_a0 : Nat) (p_a1 : Nat) (p_a2 : Nat) (p_a0_far : Nat) (p_a1_yards : Nat) (p_a1_from : Nat) (p_a1_to : Nat) (u_a0_street : Value) (v_a0_count : Int32) (v_a0_set : Int32) (v_a0_yards : Int32) (u_a1_paid : Value) {ρ : Int32} {k_3 : Int32 → Int32 → Int32 → Nat → (Nat → Int32) → Nat → (Nat → Int32) → Nat → (Nat → Int32) → Nat → (Nat → Int32) → Nat → (Nat → Int32) → Option (Int32)} (hk_3 : ∀ (x3 : Int32) (x4 : Int32) (v_a1_count : Int32) (n_a2 : Nat) (f_a2 : Nat → Int32) (n_a0_far : Nat) (f_a0_far : Nat → Int32) (n_a1_yards : Nat) (f_a1_yards : Nat → Int32) (n_a1_from : Nat) (f_a1_from : Nat → Int32) (n_a1_to : Nat) (f_a1_to : Nat → Int32), k_3 x3 x4 v_a1_count n_a2 f_a2 n_a0_far f_a0_far n_a1_yards f_a1_yards n_a1_from f_a1_from n_a1_to f_a1_to = some ρ → J E rm_Way_leastOnward g A 7 (QI E g A ρ (Wd_Way_leastOnward g p_a0 p_a1 p_a2 p_a0_far p_a1_yards p_a1_from p_a1_to u_a0_street v_a0_count v_a0_set v_a0_yards u_a1_paid v_a1_count n_a2 f_a2 n_a0_far f_a0_far n_a1_yards f_a1_yards n_a1_from f_a1_from n_a1_to f_a1_to) 0 0) 0 0 (Wd_Way_leastOnward g p_a0 p_a1 p_a2 p_a0_far p_a1_yards p_a1_from p_a1_to u_a0_street v_a0_count v_a0_set v_a0_yards u_a1_paid v_a1_count n_a2 f_a2 n_a0_far f_a0_far n_a1_yards f_a1_yards n_a1_from f_a1_from n_a1_to f_a1_to) [(0, .ref p_a0), (1, .ref p_a1), (2, .ref p_a2), (3, .int x3), (4, .int x4)] 3 []) (x3 : Int32) (x4 : Int32) (y0 : Int32) (v_a1_count : Int32) (n_a2 : Nat) (f_a2 : Nat → Int32) (n_a0_far : Nat) (f_a0_far : Nat → Int32) (n_a1_yards : Nat) (f_a1_yards : Nat → Int32) (n_a1_from : Nat) (f_a1_from : Nat → Int32) (n_a1_to : Nat) (f_a1_to : Nat → Int32) (hf : f_Way_leastOnward_89 k_3 x3 x4 y0 v_a1_count n_a2 f_a2 n_a0_far f_a0_far n_a1_yards f_a1_yards n_a1_from f_a1_from n_a1_to f_a1_to = some ρ) : J E rm_Way_leastOnward g A 7 (QI E g A ρ (Wd_Way_leastOnward g p_a0 p_a1 p_a2 p_a0_far p_a1_yards p_a1_from p_a1_to u_a0_street v_a0_count v_a0_set v_a0_yards u_a1_paid v_a1_count n_a2 f_a2 n_a0_far f_a0_far n_a1_yards f_a1_yards n_a1_from f_a1_from n_a1_to f_a1_to) 0 0) 0 0 (Wd_Way_leastOnward g p_a0 p_a1 p_a2 p_a0_far p_a1_yards p_a1_from p_a1_to u_a0_street v_a0_count v_a0_set v_a0_yards u_a1_paid v_a1_count n_a2 f_a2 n_a0_far f_a0_far n_a1_yards f_a1_yards n_a1_from f_a1_from n_a1_to f_a1_to) [(0, .ref p_a0), (1, .ref p_a1), (2, .ref p_a2), (3, .int x3), (4, .int x4)] 89 [.int y0] := by
  unfold f_Way_leastOnward_89 at hf
  refine j_istore C [(6, .int y0), (0, .ref p_a0), (1, .ref p_a1), (2, .ref p_a2), (3, .int x3), (4, .int x4)] dX10_leastOnward_89 (by decide) rfl ?_
  refine j_aload_n C 3 dX10_leastOnward_91 rfl rfl ?_
  refine j_iload C 5 dX10_leastOnward_92 rfl ?_
  obtain ⟨hi10, hf⟩ := gix_some hf
  refine j_iald C 2 rfl hi10 dX10_leastOnward_94 ?_
  refine j_if_ne C 106 dX10_leastOnward_95 (by decide) (fun c_11 => ?_) (fun c_11 => ?_)
  · replace hf := ifn c_11 hf
    refine j_lv [1, 2, 3, 4, 5] rfl ?_
    exact j_Way_leastOnward_106 C p_a0 p_a1 p_a2 p_a0_far p_a1_yards p_a1_from p_a1_to u_a0_street v_a0_count v_a0_set v_a0_yards u_a1_paid hk_3 x3 x4 v_a1_count n_a2 f_a2 n_a0_far f_a0_far n_a1_yards f_a1_yards n_a1_from f_a1_from n_a1_to f_a1_to hf
  · replace hf := ifp c_11 hf
    refine j_iload C 0 dX10_leastOnward_98 rfl ?_
    refine j_if_eq C 106 dX10_leastOnward_100 (by decide) (fun c_12 => ?_) (fun c_12 => ?_)
    · replace hf := ifp c_12 hf
      refine j_lv [1, 2, 3, 4, 5] rfl ?_
      exact j_Way_leastOnward_106 C p_a0 p_a1 p_a2 p_a0_far p_a1_yards p_a1_from p_a1_to u_a0_street v_a0_count v_a0_set v_a0_yards u_a1_paid hk_3 x3 x4 v_a1_count n_a2 f_a2 n_a0_far f_a0_far n_a1_yards f_a1_yards n_a1_from f_a1_from n_a1_to f_a1_to hf
    · replace hf := ifn c_12 hf
      refine j_iload C 5 dX10_leastOnward_103 rfl ?_
      obtain rfl := Option.some.inj hf
      exact j_iret C dX10_leastOnward_105 rfl rfl
noncomputable def f_Way_leastOnward_84 (k_3 : Int32 → Int32 → Int32 → Nat → (Nat → Int32) → Nat → (Nat → Int32) → Nat → (Nat → Int32) → Nat → (Nat → Int32) → Nat → (Nat → Int32) → Option (Int32)) (x3 : Int32) (x4 : Int32) (v_a1_count : Int32) (n_a2 : Nat) (f_a2 : Nat → Int32) (n_a0_far : Nat) (f_a0_far : Nat → Int32) (n_a1_yards : Nat) (f_a1_yards : Nat → Int32) (n_a1_from : Nat) (f_a1_from : Nat → Int32) (n_a1_to : Nat) (f_a1_to : Nat → Int32) : Option (Int32) := f_Way_leastOnward_89 k_3 x3 x4 1 v_a1_count n_a2 f_a2 n_a0_far f_a0_far n_a1_yards f_a1_yards n_a1_from f_a1_from n_a1_to f_a1_to
set_option maxHeartbeats 4000000 in
set_option maxRecDepth 100000 in
theorem j_Way_leastOnward_84 {E : Ev} {g : Gd} {A : Nat → Prop} (C : Cx E g A RX10 cX10_leastOnward wsX10_leastOnward 7 (some .int)) (p_a0 : Nat) (p_a1 : Nat) (p_a2 : Nat) (p_a0_far : Nat) (p_a1_yards : Nat) (p_a1_from : Nat) (p_a1_to : Nat) (u_a0_street : Value) (v_a0_count : Int32) (v_a0_set : Int32) (v_a0_yards : Int32) (u_a1_paid : Value) {ρ : Int32} {k_3 : Int32 → Int32 → Int32 → Nat → (Nat → Int32) → Nat → (Nat → Int32) → Nat → (Nat → Int32) → Nat → (Nat → Int32) → Nat → (Nat → Int32) → Option (Int32)} (hk_3 : ∀ (x3 : Int32) (x4 : Int32) (v_a1_count : Int32) (n_a2 : Nat) (f_a2 : Nat → Int32) (n_a0_far : Nat) (f_a0_far : Nat → Int32) (n_a1_yards : Nat) (f_a1_yards : Nat → Int32) (n_a1_from : Nat) (f_a1_from : Nat → Int32) (n_a1_to : Nat) (f_a1_to : Nat → Int32), k_3 x3 x4 v_a1_count n_a2 f_a2 n_a0_far f_a0_far n_a1_yards f_a1_yards n_a1_from f_a1_from n_a1_to f_a1_to = some ρ → J E rm_Way_leastOnward g A 7 (QI E g A ρ (Wd_Way_leastOnward g p_a0 p_a1 p_a2 p_a0_far p_a1_yards p_a1_from p_a1_to u_a0_street v_a0_count v_a0_set v_a0_yards u_a1_paid v_a1_count n_a2 f_a2 n_a0_far f_a0_far n_a1_yards f_a1_yards n_a1_from f_a1_from n_a1_to f_a1_to) 0 0) 0 0 (Wd_Way_leastOnward g p_a0 p_a1 p_a2 p_a0_far p_a1_yards p_a1_from p_a1_to u_a0_street v_a0_count v_a0_set v_a0_yards u_a1_paid v_a1_count n_a2 f_a2 n_a0_far f_a0_far n_a1_yards f_a1_yards n_a1_from f_a1_from n_a1_to f_a1_to) [(0, .ref p_a0), (1, .ref p_a1), (2, .ref p_a2), (3, .int x3), (4, .int x4)] 3 []) (x3 : Int32) (x4 : Int32) (v_a1_count : Int32) (n_a2 : Nat) (f_a2 : Nat → Int32) (n_a0_far : Nat) (f_a0_far : Nat → Int32) (n_a1_yards : Nat) (f_a1_yards : Nat → Int32) (n_a1_from : Nat) (f_a1_from : Nat → Int32) (n_a1_to : Nat) (f_a1_to : Nat → Int32) (hf : f_Way_leastOnward_84 k_3 x3 x4 v_a1_count n_a2 f_a2 n_a0_far f_a0_far n_a1_yards f_a1_yards n_a1_from f_a1_from n_a1_to f_a1_to = some ρ) : J E rm_Way_leastOnward g A 7 (QI E g A ρ (Wd_Way_leastOnward g p_a0 p_a1 p_a2 p_a0_far p_a1_yards p_a1_from p_a1_to u_a0_street v_a0_count v_a0_set v_a0_yards u_a1_paid v_a1_count n_a2 f_a2 n_a0_far f_a0_far n_a1_yards f_a1_yards n_a1_from f_a1_from n_a1_to f_a1_to) 0 0) 0 0 (Wd_Way_leastOnward g p_a0 p_a1 p_a2 p_a0_far p_a1_yards p_a1_from p_a1_to u_a0_street v_a0_count v_a0_set v_a0_yards u_a1_paid v_a1_count n_a2 f_a2 n_a0_far f_a0_far n_a1_yards f_a1_yards n_a1_from f_a1_from n_a1_to f_a1_to) [(0, .ref p_a0), (1, .ref p_a1), (2, .ref p_a2), (3, .int x3), (4, .int x4)] 84 [] := by
  unfold f_Way_leastOnward_84 at hf
  refine j_iconst C dX10_leastOnward_84 (v := 1) (by decide) ?_
  refine j_goto C 89 dX10_leastOnward_85 (by decide) ?_
  exact j_Way_leastOnward_89 C p_a0 p_a1 p_a2 p_a0_far p_a1_yards p_a1_from p_a1_to u_a0_street v_a0_count v_a0_set v_a0_yards u_a1_paid hk_3 x3 x4 1 v_a1_count n_a2 f_a2 n_a0_far f_a0_far n_a1_yards f_a1_yards n_a1_from f_a1_from n_a1_to f_a1_to hf
noncomputable def f_Way_leastOnward_88 (k_3 : Int32 → Int32 → Int32 → Nat → (Nat → Int32) → Nat → (Nat → Int32) → Nat → (Nat → Int32) → Nat → (Nat → Int32) → Nat → (Nat → Int32) → Option (Int32)) (x3 : Int32) (x4 : Int32) (v_a1_count : Int32) (n_a2 : Nat) (f_a2 : Nat → Int32) (n_a0_far : Nat) (f_a0_far : Nat → Int32) (n_a1_yards : Nat) (f_a1_yards : Nat → Int32) (n_a1_from : Nat) (f_a1_from : Nat → Int32) (n_a1_to : Nat) (f_a1_to : Nat → Int32) : Option (Int32) := f_Way_leastOnward_89 k_3 x3 x4 0 v_a1_count n_a2 f_a2 n_a0_far f_a0_far n_a1_yards f_a1_yards n_a1_from f_a1_from n_a1_to f_a1_to
set_option maxHeartbeats 4000000 in
set_option maxRecDepth 100000 in
theorem j_Way_leastOnward_88 {E : Ev} {g : Gd} {A : Nat → Prop} (C : Cx E g A RX10 cX10_leastOnward wsX10_leastOnward 7 (some .int)) (p_a0 : Nat) (p_a1 : Nat) (p_a2 : Nat) (p_a0_far : Nat) (p_a1_yards : Nat) (p_a1_from : Nat) (p_a1_to : Nat) (u_a0_street : Value) (v_a0_count : Int32) (v_a0_set : Int32) (v_a0_yards : Int32) (u_a1_paid : Value) {ρ : Int32} {k_3 : Int32 → Int32 → Int32 → Nat → (Nat → Int32) → Nat → (Nat → Int32) → Nat → (Nat → Int32) → Nat → (Nat → Int32) → Nat → (Nat → Int32) → Option (Int32)} (hk_3 : ∀ (x3 : Int32) (x4 : Int32) (v_a1_count : Int32) (n_a2 : Nat) (f_a2 : Nat → Int32) (n_a0_far : Nat) (f_a0_far : Nat → Int32) (n_a1_yards : Nat) (f_a1_yards : Nat → Int32) (n_a1_from : Nat) (f_a1_from : Nat → Int32) (n_a1_to : Nat) (f_a1_to : Nat → Int32), k_3 x3 x4 v_a1_count n_a2 f_a2 n_a0_far f_a0_far n_a1_yards f_a1_yards n_a1_from f_a1_from n_a1_to f_a1_to = some ρ → J E rm_Way_leastOnward g A 7 (QI E g A ρ (Wd_Way_leastOnward g p_a0 p_a1 p_a2 p_a0_far p_a1_yards p_a1_from p_a1_to u_a0_street v_a0_count v_a0_set v_a0_yards u_a1_paid v_a1_count n_a2 f_a2 n_a0_far f_a0_far n_a1_yards f_a1_yards n_a1_from f_a1_from n_a1_to f_a1_to) 0 0) 0 0 (Wd_Way_leastOnward g p_a0 p_a1 p_a2 p_a0_far p_a1_yards p_a1_from p_a1_to u_a0_street v_a0_count v_a0_set v_a0_yards u_a1_paid v_a1_count n_a2 f_a2 n_a0_far f_a0_far n_a1_yards f_a1_yards n_a1_from f_a1_from n_a1_to f_a1_to) [(0, .ref p_a0), (1, .ref p_a1), (2, .ref p_a2), (3, .int x3), (4, .int x4)] 3 []) (x3 : Int32) (x4 : Int32) (v_a1_count : Int32) (n_a2 : Nat) (f_a2 : Nat → Int32) (n_a0_far : Nat) (f_a0_far : Nat → Int32) (n_a1_yards : Nat) (f_a1_yards : Nat → Int32) (n_a1_from : Nat) (f_a1_from : Nat → Int32) (n_a1_to : Nat) (f_a1_to : Nat → Int32) (hf : f_Way_leastOnward_88 k_3 x3 x4 v_a1_count n_a2 f_a2 n_a0_far f_a0_far n_a1_yards f_a1_yards n_a1_from f_a1_from n_a1_to f_a1_to = some ρ) : J E rm_Way_leastOnward g A 7 (QI E g A ρ (Wd_Way_leastOnward g p_a0 p_a1 p_a2 p_a0_far p_a1_yards p_a1_from p_a1_to u_a0_street v_a0_count v_a0_set v_a0_yards u_a1_paid v_a1_count n_a2 f_a2 n_a0_far f_a0_far n_a1_yards f_a1_yards n_a1_from f_a1_from n_a1_to f_a1_to) 0 0) 0 0 (Wd_Way_leastOnward g p_a0 p_a1 p_a2 p_a0_far p_a1_yards p_a1_from p_a1_to u_a0_street v_a0_count v_a0_set v_a0_yards u_a1_paid v_a1_count n_a2 f_a2 n_a0_far f_a0_far n_a1_yards f_a1_yards n_a1_from f_a1_from n_a1_to f_a1_to) [(0, .ref p_a0), (1, .ref p_a1), (2, .ref p_a2), (3, .int x3), (4, .int x4)] 88 [] := by
  unfold f_Way_leastOnward_88 at hf
  refine j_iconst C dX10_leastOnward_88 (v := 0) (by decide) ?_
  exact j_Way_leastOnward_89 C p_a0 p_a1 p_a2 p_a0_far p_a1_yards p_a1_from p_a1_to u_a0_street v_a0_count v_a0_set v_a0_yards u_a1_paid hk_3 x3 x4 0 v_a1_count n_a2 f_a2 n_a0_far f_a0_far n_a1_yards f_a1_yards n_a1_from f_a1_from n_a1_to f_a1_to hf
noncomputable def f_Way_leastOnward_56 (k_3 : Int32 → Int32 → Int32 → Nat → (Nat → Int32) → Nat → (Nat → Int32) → Nat → (Nat → Int32) → Nat → (Nat → Int32) → Nat → (Nat → Int32) → Option (Int32)) (x3 : Int32) (x4 : Int32) (x5 : Int32) (v_a1_count : Int32) (n_a2 : Nat) (f_a2 : Nat → Int32) (n_a0_far : Nat) (f_a0_far : Nat → Int32) (n_a1_yards : Nat) (f_a1_yards : Nat → Int32) (n_a1_from : Nat) (f_a1_from : Nat → Int32) (n_a1_to : Nat) (f_a1_to : Nat → Int32) : Option (Int32) := gix x4 n_a1_to (if (f_a1_to x4.toNatClampNeg) = x3 then gix x4 n_a1_from (gix (f_a1_from x4.toNatClampNeg) n_a0_far (if (f_a0_far (f_a1_from x4.toNatClampNeg).toNatClampNeg) = x5 then f_Way_leastOnward_84 k_3 x3 x4 v_a1_count n_a2 f_a2 n_a0_far f_a0_far n_a1_yards f_a1_yards n_a1_from f_a1_from n_a1_to f_a1_to else f_Way_leastOnward_88 k_3 x3 x4 v_a1_count n_a2 f_a2 n_a0_far f_a0_far n_a1_yards f_a1_yards n_a1_from f_a1_from n_a1_to f_a1_to)) else f_Way_leastOnward_88 k_3 x3 x4 v_a1_count n_a2 f_a2 n_a0_far f_a0_far n_a1_yards f_a1_yards n_a1_from f_a1_from n_a1_to f_a1_to)
set_option maxHeartbeats 4000000 in
set_option maxRecDepth 100000 in
theorem j_Way_leastOnward_56 {E : Ev} {g : Gd} {A : Nat → Prop} (C : Cx E g A RX10 cX10_leastOnward wsX10_leastOnward 7 (some .int)) (p_a0 : Nat) (p_a1 : Nat) (p_a2 : Nat) (p_a0_far : Nat) (p_a1_yards : Nat) (p_a1_from : Nat) (p_a1_to : Nat) (u_a0_street : Value) (v_a0_count : Int32) (v_a0_set : Int32) (v_a0_yards : Int32) (u_a1_paid : Value) {ρ : Int32} {k_3 : Int32 → Int32 → Int32 → Nat → (Nat → Int32) → Nat → (Nat → Int32) → Nat → (Nat → Int32) → Nat → (Nat → Int32) → Nat → (Nat → Int32) → Option (Int32)} (hk_3 : ∀ (x3 : Int32) (x4 : Int32) (v_a1_count : Int32) (n_a2 : Nat) (f_a2 : Nat → Int32) (n_a0_far : Nat) (f_a0_far : Nat → Int32) (n_a1_yards : Nat) (f_a1_yards : Nat → Int32) (n_a1_from : Nat) (f_a1_from : Nat → Int32) (n_a1_to : Nat) (f_a1_to : Nat → Int32), k_3 x3 x4 v_a1_count n_a2 f_a2 n_a0_far f_a0_far n_a1_yards f_a1_yards n_a1_from f_a1_from n_a1_to f_a1_to = some ρ → J E rm_Way_leastOnward g A 7 (QI E g A ρ (Wd_Way_leastOnward g p_a0 p_a1 p_a2 p_a0_far p_a1_yards p_a1_from p_a1_to u_a0_street v_a0_count v_a0_set v_a0_yards u_a1_paid v_a1_count n_a2 f_a2 n_a0_far f_a0_far n_a1_yards f_a1_yards n_a1_from f_a1_from n_a1_to f_a1_to) 0 0) 0 0 (Wd_Way_leastOnward g p_a0 p_a1 p_a2 p_a0_far p_a1_yards p_a1_from p_a1_to u_a0_street v_a0_count v_a0_set v_a0_yards u_a1_paid v_a1_count n_a2 f_a2 n_a0_far f_a0_far n_a1_yards f_a1_yards n_a1_from f_a1_from n_a1_to f_a1_to) [(0, .ref p_a0), (1, .ref p_a1), (2, .ref p_a2), (3, .int x3), (4, .int x4)] 3 []) (x3 : Int32) (x4 : Int32) (x5 : Int32) (v_a1_count : Int32) (n_a2 : Nat) (f_a2 : Nat → Int32) (n_a0_far : Nat) (f_a0_far : Nat → Int32) (n_a1_yards : Nat) (f_a1_yards : Nat → Int32) (n_a1_from : Nat) (f_a1_from : Nat → Int32) (n_a1_to : Nat) (f_a1_to : Nat → Int32) (hf : f_Way_leastOnward_56 k_3 x3 x4 x5 v_a1_count n_a2 f_a2 n_a0_far f_a0_far n_a1_yards f_a1_yards n_a1_from f_a1_from n_a1_to f_a1_to = some ρ) : J E rm_Way_leastOnward g A 7 (QI E g A ρ (Wd_Way_leastOnward g p_a0 p_a1 p_a2 p_a0_far p_a1_yards p_a1_from p_a1_to u_a0_street v_a0_count v_a0_set v_a0_yards u_a1_paid v_a1_count n_a2 f_a2 n_a0_far f_a0_far n_a1_yards f_a1_yards n_a1_from f_a1_from n_a1_to f_a1_to) 0 0) 0 0 (Wd_Way_leastOnward g p_a0 p_a1 p_a2 p_a0_far p_a1_yards p_a1_from p_a1_to u_a0_street v_a0_count v_a0_set v_a0_yards u_a1_paid v_a1_count n_a2 f_a2 n_a0_far f_a0_far n_a1_yards f_a1_yards n_a1_from f_a1_from n_a1_to f_a1_to) [(0, .ref p_a0), (1, .ref p_a1), (2, .ref p_a2), (3, .int x3), (4, .int x4), (5, .int x5)] 56 [] := by
  unfold f_Way_leastOnward_56 at hf
  refine j_aload_n C 1 dX10_leastOnward_56 rfl rfl ?_
  refine j_get C (ci := 6) 1 1 iw_Way_leastOnward_7 rfl rfl (by decide) fl_49_Way_leastOnward rfl rfl dX10_leastOnward_57 ?_
  refine j_iload C 4 dX10_leastOnward_60 rfl ?_
  obtain ⟨hi13, hf⟩ := gix_some hf
  refine j_iald C 6 rfl hi13 dX10_leastOnward_62 ?_
  refine j_iload_n C 3 dX10_leastOnward_63 rfl rfl ?_
  refine j_icmp_ne C 88 dX10_leastOnward_64 (by decide) (fun c_14 => ?_) (fun c_14 => ?_)
  · replace hf := ifn c_14 hf
    refine j_lv [0, 1, 2, 3, 4] rfl ?_
    exact j_Way_leastOnward_88 C p_a0 p_a1 p_a2 p_a0_far p_a1_yards p_a1_from p_a1_to u_a0_street v_a0_count v_a0_set v_a0_yards u_a1_paid hk_3 x3 x4 v_a1_count n_a2 f_a2 n_a0_far f_a0_far n_a1_yards f_a1_yards n_a1_from f_a1_from n_a1_to f_a1_to hf
  · replace hf := ifp c_14 hf
    refine j_aload_n C 0 dX10_leastOnward_67 rfl rfl ?_
    refine j_get C (ci := 9) 0 4 iw_Way_leastOnward_10 rfl rfl (by decide) fl_25_Way_leastOnward rfl rfl dX10_leastOnward_68 ?_
    refine j_aload_n C 1 dX10_leastOnward_71 rfl rfl ?_
    refine j_get C (ci := 6) 1 0 iw_Way_leastOnward_7 rfl rfl (by decide) fl_46_Way_leastOnward rfl rfl dX10_leastOnward_72 ?_
    refine j_iload C 4 dX10_leastOnward_75 rfl ?_
    obtain ⟨hi15, hf⟩ := gix_some hf
    refine j_iald C 5 rfl hi15 dX10_leastOnward_77 ?_
    refine j_pc 78 rfl ?_
    obtain ⟨hi16, hf⟩ := gix_some hf
    refine j_iald C 3 rfl hi16 dX10_leastOnward_78 ?_
    refine j_iload C 5 dX10_leastOnward_79 rfl ?_
    refine j_icmp_ne C 88 dX10_leastOnward_81 (by decide) (fun c_17 => ?_) (fun c_17 => ?_)
    · replace hf := ifn c_17 hf
      refine j_lv [0, 1, 2, 3, 4] rfl ?_
      exact j_Way_leastOnward_88 C p_a0 p_a1 p_a2 p_a0_far p_a1_yards p_a1_from p_a1_to u_a0_street v_a0_count v_a0_set v_a0_yards u_a1_paid hk_3 x3 x4 v_a1_count n_a2 f_a2 n_a0_far f_a0_far n_a1_yards f_a1_yards n_a1_from f_a1_from n_a1_to f_a1_to hf
    · replace hf := ifp c_17 hf
      refine j_lv [0, 1, 2, 3, 4] rfl ?_
      exact j_Way_leastOnward_84 C p_a0 p_a1 p_a2 p_a0_far p_a1_yards p_a1_from p_a1_to u_a0_street v_a0_count v_a0_set v_a0_yards u_a1_paid hk_3 x3 x4 v_a1_count n_a2 f_a2 n_a0_far f_a0_far n_a1_yards f_a1_yards n_a1_from f_a1_from n_a1_to f_a1_to hf
noncomputable def b_Way_leastOnward_3 (k_3 : Int32 → Int32 → Int32 → Nat → (Nat → Int32) → Nat → (Nat → Int32) → Nat → (Nat → Int32) → Nat → (Nat → Int32) → Nat → (Nat → Int32) → Option (Int32)) (x3 : Int32) (x4 : Int32) (v_a1_count : Int32) (n_a2 : Nat) (f_a2 : Nat → Int32) (n_a0_far : Nat) (f_a0_far : Nat → Int32) (n_a1_yards : Nat) (f_a1_yards : Nat → Int32) (n_a1_from : Nat) (f_a1_from : Nat → Int32) (n_a1_to : Nat) (f_a1_to : Nat → Int32) : Option (Int32) := if v_a1_count ≤ x4 then some (-1) else gix x3 n_a0_far (gix x4 n_a1_yards (nmI ((f_a0_far x3.toNatClampNeg) - (f_a1_yards x4.toNatClampNeg)) (fun z4 => gix x4 n_a1_from (if (f_a1_from x4.toNatClampNeg) = x3 then gix x4 n_a1_to (gix (f_a1_to x4.toNatClampNeg) n_a0_far (if (f_a0_far (f_a1_to x4.toNatClampNeg).toNatClampNeg) = z4 then f_Way_leastOnward_84 k_3 x3 x4 v_a1_count n_a2 f_a2 n_a0_far f_a0_far n_a1_yards f_a1_yards n_a1_from f_a1_from n_a1_to f_a1_to else f_Way_leastOnward_56 k_3 x3 x4 z4 v_a1_count n_a2 f_a2 n_a0_far f_a0_far n_a1_yards f_a1_yards n_a1_from f_a1_from n_a1_to f_a1_to)) else f_Way_leastOnward_56 k_3 x3 x4 z4 v_a1_count n_a2 f_a2 n_a0_far f_a0_far n_a1_yards f_a1_yards n_a1_from f_a1_from n_a1_to f_a1_to))))
noncomputable def f_Way_leastOnward_3 (n : Nat) : Int32 → Int32 → Int32 → Nat → (Nat → Int32) → Nat → (Nat → Int32) → Nat → (Nat → Int32) → Nat → (Nat → Int32) → Nat → (Nat → Int32) → Option (Int32) := Nat.rec (motive := fun _ => Int32 → Int32 → Int32 → Nat → (Nat → Int32) → Nat → (Nat → Int32) → Nat → (Nat → Int32) → Nat → (Nat → Int32) → Nat → (Nat → Int32) → Option (Int32)) (fun _ _ _ _ _ _ _ _ _ _ _ _ _ => none) (fun _ ih => b_Way_leastOnward_3 ih) n
set_option maxHeartbeats 4000000 in
set_option maxRecDepth 100000 in
theorem jb_Way_leastOnward_3 {E : Ev} {g : Gd} {A : Nat → Prop} (C : Cx E g A RX10 cX10_leastOnward wsX10_leastOnward 7 (some .int)) (p_a0 : Nat) (p_a1 : Nat) (p_a2 : Nat) (p_a0_far : Nat) (p_a1_yards : Nat) (p_a1_from : Nat) (p_a1_to : Nat) (u_a0_street : Value) (v_a0_count : Int32) (v_a0_set : Int32) (v_a0_yards : Int32) (u_a1_paid : Value) {ρ : Int32} {k_3 : Int32 → Int32 → Int32 → Nat → (Nat → Int32) → Nat → (Nat → Int32) → Nat → (Nat → Int32) → Nat → (Nat → Int32) → Nat → (Nat → Int32) → Option (Int32)} (hk_3 : ∀ (x3 : Int32) (x4 : Int32) (v_a1_count : Int32) (n_a2 : Nat) (f_a2 : Nat → Int32) (n_a0_far : Nat) (f_a0_far : Nat → Int32) (n_a1_yards : Nat) (f_a1_yards : Nat → Int32) (n_a1_from : Nat) (f_a1_from : Nat → Int32) (n_a1_to : Nat) (f_a1_to : Nat → Int32), k_3 x3 x4 v_a1_count n_a2 f_a2 n_a0_far f_a0_far n_a1_yards f_a1_yards n_a1_from f_a1_from n_a1_to f_a1_to = some ρ → J E rm_Way_leastOnward g A 7 (QI E g A ρ (Wd_Way_leastOnward g p_a0 p_a1 p_a2 p_a0_far p_a1_yards p_a1_from p_a1_to u_a0_street v_a0_count v_a0_set v_a0_yards u_a1_paid v_a1_count n_a2 f_a2 n_a0_far f_a0_far n_a1_yards f_a1_yards n_a1_from f_a1_from n_a1_to f_a1_to) 0 0) 0 0 (Wd_Way_leastOnward g p_a0 p_a1 p_a2 p_a0_far p_a1_yards p_a1_from p_a1_to u_a0_street v_a0_count v_a0_set v_a0_yards u_a1_paid v_a1_count n_a2 f_a2 n_a0_far f_a0_far n_a1_yards f_a1_yards n_a1_from f_a1_from n_a1_to f_a1_to) [(0, .ref p_a0), (1, .ref p_a1), (2, .ref p_a2), (3, .int x3), (4, .int x4)] 3 []) (x3 : Int32) (x4 : Int32) (v_a1_count : Int32) (n_a2 : Nat) (f_a2 : Nat → Int32) (n_a0_far : Nat) (f_a0_far : Nat → Int32) (n_a1_yards : Nat) (f_a1_yards : Nat → Int32) (n_a1_from : Nat) (f_a1_from : Nat → Int32) (n_a1_to : Nat) (f_a1_to : Nat → Int32) (hf : b_Way_leastOnward_3 k_3 x3 x4 v_a1_count n_a2 f_a2 n_a0_far f_a0_far n_a1_yards f_a1_yards n_a1_from f_a1_from n_a1_to f_a1_to = some ρ) : J E rm_Way_leastOnward g A 7 (QI E g A ρ (Wd_Way_leastOnward g p_a0 p_a1 p_a2 p_a0_far p_a1_yards p_a1_from p_a1_to u_a0_street v_a0_count v_a0_set v_a0_yards u_a1_paid v_a1_count n_a2 f_a2 n_a0_far f_a0_far n_a1_yards f_a1_yards n_a1_from f_a1_from n_a1_to f_a1_to) 0 0) 0 0 (Wd_Way_leastOnward g p_a0 p_a1 p_a2 p_a0_far p_a1_yards p_a1_from p_a1_to u_a0_street v_a0_count v_a0_set v_a0_yards u_a1_paid v_a1_count n_a2 f_a2 n_a0_far f_a0_far n_a1_yards f_a1_yards n_a1_from f_a1_from n_a1_to f_a1_to) [(0, .ref p_a0), (1, .ref p_a1), (2, .ref p_a2), (3, .int x3), (4, .int x4)] 3 [] := by
  unfold b_Way_leastOnward_3 at hf
  refine j_iload C 4 dX10_leastOnward_3 rfl ?_
  refine j_aload_n C 1 dX10_leastOnward_5 rfl rfl ?_
  refine j_get C (ci := 6) 1 4 iw_Way_leastOnward_7 rfl rfl (by decide) fl_43_Way_leastOnward rfl rfl dX10_leastOnward_6 ?_
  refine j_icmp_ge C 112 dX10_leastOnward_9 (by decide) (fun c_1 => ?_) (fun c_1 => ?_)
  · replace hf := ifp c_1 hf
    refine j_iconst C dX10_leastOnward_112 (v := (-1)) (by decide) ?_
    obtain rfl := Option.some.inj hf
    exact j_iret C dX10_leastOnward_113 rfl rfl
  · replace hf := ifn c_1 hf
    refine j_aload_n C 0 dX10_leastOnward_12 rfl rfl ?_
    refine j_get C (ci := 9) 0 4 iw_Way_leastOnward_10 rfl rfl (by decide) fl_25_Way_leastOnward rfl rfl dX10_leastOnward_13 ?_
    refine j_iload_n C 3 dX10_leastOnward_16 rfl rfl ?_
    obtain ⟨hi2, hf⟩ := gix_some hf
    refine j_iald C 3 rfl hi2 dX10_leastOnward_17 ?_
    refine j_aload_n C 1 dX10_leastOnward_18 rfl rfl ?_
    refine j_get C (ci := 6) 1 2 iw_Way_leastOnward_7 rfl rfl (by decide) fl_52_Way_leastOnward rfl rfl dX10_leastOnward_19 ?_
    refine j_iload C 4 dX10_leastOnward_22 rfl ?_
    obtain ⟨hi3, hf⟩ := gix_some hf
    refine j_iald C 4 rfl hi3 dX10_leastOnward_24 ?_
    refine j_pc 25 rfl ?_
    refine j_isub C dX10_leastOnward_25 ?_
    obtain ⟨z4, e_z4, hf⟩ := nmI_some hf
    refine j_nmi e_z4 ?_
    refine j_istore C [(5, .int z4), (0, .ref p_a0), (1, .ref p_a1), (2, .ref p_a2), (3, .int x3), (4, .int x4)] dX10_leastOnward_26 (by decide) rfl ?_
    refine j_aload_n C 2 dX10_leastOnward_28 rfl rfl ?_
    refine j_get C (ci := 6) 1 0 iw_Way_leastOnward_7 rfl rfl (by decide) fl_46_Way_leastOnward rfl rfl dX10_leastOnward_29 ?_
    refine j_iload C 5 dX10_leastOnward_32 rfl ?_
    obtain ⟨hi5, hf⟩ := gix_some hf
    refine j_iald C 5 rfl hi5 dX10_leastOnward_34 ?_
    refine j_iload_n C 4 dX10_leastOnward_35 rfl rfl ?_
    refine j_icmp_ne C 56 dX10_leastOnward_36 (by decide) (fun c_6 => ?_) (fun c_6 => ?_)
    · replace hf := ifn c_6 hf
      refine j_lv [1, 2, 3, 4, 5, 0] rfl ?_
      exact j_Way_leastOnward_56 C p_a0 p_a1 p_a2 p_a0_far p_a1_yards p_a1_from p_a1_to u_a0_street v_a0_count v_a0_set v_a0_yards u_a1_paid hk_3 x3 x4 z4 v_a1_count n_a2 f_a2 n_a0_far f_a0_far n_a1_yards f_a1_yards n_a1_from f_a1_from n_a1_to f_a1_to hf
    · replace hf := ifp c_6 hf
      refine j_aload_n C 1 dX10_leastOnward_39 rfl rfl ?_
      refine j_get C (ci := 9) 0 4 iw_Way_leastOnward_10 rfl rfl (by decide) fl_25_Way_leastOnward rfl rfl dX10_leastOnward_40 ?_
      refine j_aload_n C 2 dX10_leastOnward_43 rfl rfl ?_
      refine j_get C (ci := 6) 1 1 iw_Way_leastOnward_7 rfl rfl (by decide) fl_49_Way_leastOnward rfl rfl dX10_leastOnward_44 ?_
      refine j_iload C 5 dX10_leastOnward_47 rfl ?_
      obtain ⟨hi7, hf⟩ := gix_some hf
      refine j_iald C 6 rfl hi7 dX10_leastOnward_49 ?_
      obtain ⟨hi8, hf⟩ := gix_some hf
      refine j_iald C 3 rfl hi8 dX10_leastOnward_50 ?_
      refine j_iload C 0 dX10_leastOnward_51 rfl ?_
      refine j_icmp_eq C 84 dX10_leastOnward_53 (by decide) (fun c_9 => ?_) (fun c_9 => ?_)
      · replace hf := ifp c_9 hf
        refine j_lv [1, 2, 3, 4, 5] rfl ?_
        exact j_Way_leastOnward_84 C p_a0 p_a1 p_a2 p_a0_far p_a1_yards p_a1_from p_a1_to u_a0_street v_a0_count v_a0_set v_a0_yards u_a1_paid hk_3 x3 x4 v_a1_count n_a2 f_a2 n_a0_far f_a0_far n_a1_yards f_a1_yards n_a1_from f_a1_from n_a1_to f_a1_to hf
      · replace hf := ifn c_9 hf
        refine j_lv [1, 2, 3, 4, 5, 0] rfl ?_
        exact j_Way_leastOnward_56 C p_a0 p_a1 p_a2 p_a0_far p_a1_yards p_a1_from p_a1_to u_a0_street v_a0_count v_a0_set v_a0_yards u_a1_paid hk_3 x3 x4 z4 v_a1_count n_a2 f_a2 n_a0_far f_a0_far n_a1_yards f_a1_yards n_a1_from f_a1_from n_a1_to f_a1_to hf
set_option maxHeartbeats 4000000 in
set_option maxRecDepth 100000 in
theorem j_Way_leastOnward_3 {E : Ev} {g : Gd} {A : Nat → Prop} (C : Cx E g A RX10 cX10_leastOnward wsX10_leastOnward 7 (some .int)) (p_a0 : Nat) (p_a1 : Nat) (p_a2 : Nat) (p_a0_far : Nat) (p_a1_yards : Nat) (p_a1_from : Nat) (p_a1_to : Nat) (u_a0_street : Value) (v_a0_count : Int32) (v_a0_set : Int32) (v_a0_yards : Int32) (u_a1_paid : Value) {ρ : Int32} : ∀ (n : Nat) (x3 : Int32) (x4 : Int32) (v_a1_count : Int32) (n_a2 : Nat) (f_a2 : Nat → Int32) (n_a0_far : Nat) (f_a0_far : Nat → Int32) (n_a1_yards : Nat) (f_a1_yards : Nat → Int32) (n_a1_from : Nat) (f_a1_from : Nat → Int32) (n_a1_to : Nat) (f_a1_to : Nat → Int32), f_Way_leastOnward_3 n x3 x4 v_a1_count n_a2 f_a2 n_a0_far f_a0_far n_a1_yards f_a1_yards n_a1_from f_a1_from n_a1_to f_a1_to = some ρ → J E rm_Way_leastOnward g A 7 (QI E g A ρ (Wd_Way_leastOnward g p_a0 p_a1 p_a2 p_a0_far p_a1_yards p_a1_from p_a1_to u_a0_street v_a0_count v_a0_set v_a0_yards u_a1_paid v_a1_count n_a2 f_a2 n_a0_far f_a0_far n_a1_yards f_a1_yards n_a1_from f_a1_from n_a1_to f_a1_to) 0 0) 0 0 (Wd_Way_leastOnward g p_a0 p_a1 p_a2 p_a0_far p_a1_yards p_a1_from p_a1_to u_a0_street v_a0_count v_a0_set v_a0_yards u_a1_paid v_a1_count n_a2 f_a2 n_a0_far f_a0_far n_a1_yards f_a1_yards n_a1_from f_a1_from n_a1_to f_a1_to) [(0, .ref p_a0), (1, .ref p_a1), (2, .ref p_a2), (3, .int x3), (4, .int x4)] 3 [] := by
  intro n
  induction n with
  | zero => intro x3 x4 v_a1_count n_a2 f_a2 n_a0_far f_a0_far n_a1_yards f_a1_yards n_a1_from f_a1_from n_a1_to f_a1_to h; have h0 : (none : Option (Int32)) = some ρ := h; cases h0
  | succ n ih => intro x3 x4 v_a1_count n_a2 f_a2 n_a0_far f_a0_far n_a1_yards f_a1_yards n_a1_from f_a1_from n_a1_to f_a1_to h; exact jb_Way_leastOnward_3 C p_a0 p_a1 p_a2 p_a0_far p_a1_yards p_a1_from p_a1_to u_a0_street v_a0_count v_a0_set v_a0_yards u_a1_paid ih x3 x4 v_a1_count n_a2 f_a2 n_a0_far f_a0_far n_a1_yards f_a1_yards n_a1_from f_a1_from n_a1_to f_a1_to h
noncomputable def f_Way_leastOnward (x3 : Int32) (v_a1_count : Int32) (n_a2 : Nat) (f_a2 : Nat → Int32) (n_a0_far : Nat) (f_a0_far : Nat → Int32) (n_a1_yards : Nat) (f_a1_yards : Nat → Int32) (n_a1_from : Nat) (f_a1_from : Nat → Int32) (n_a1_to : Nat) (f_a1_to : Nat → Int32) : Option (Int32) := f_Way_leastOnward_3 FU x3 0 v_a1_count n_a2 f_a2 n_a0_far f_a0_far n_a1_yards f_a1_yards n_a1_from f_a1_from n_a1_to f_a1_to
set_option maxHeartbeats 4000000 in
set_option maxRecDepth 100000 in
theorem c_Way_leastOnward (l : Launch) (g : Gd) (p_a0 : Nat) (p_a1 : Nat) (p_a2 : Nat) (p_a0_far : Nat) (p_a1_yards : Nat) (p_a1_from : Nat) (p_a1_to : Nat) (u_a0_street : Value) (v_a0_count : Int32) (v_a0_set : Int32) (v_a0_yards : Int32) (u_a1_paid : Value) (v_a1_count : Int32) (n_a2 : Nat) (f_a2 : Nat → Int32) (n_a0_far : Nat) (f_a0_far : Nat → Int32) (n_a1_yards : Nat) (f_a1_yards : Nat → Int32) (n_a1_from : Nat) (f_a1_from : Nat → Int32) (n_a1_to : Nat) (f_a1_to : Nat → Int32) (x3 : Int32) {ρ : Int32} (hf : f_Way_leastOnward x3 v_a1_count n_a2 f_a2 n_a0_far f_a0_far n_a1_yards f_a1_yards n_a1_from f_a1_from n_a1_to f_a1_to = some ρ) : CtI l g yX10_leastOnward wsX10_leastOnward rm_Way_leastOnward [.ref p_a0, .ref p_a1, .ref p_a2, .int x3] (Wd_Way_leastOnward g p_a0 p_a1 p_a2 p_a0_far p_a1_yards p_a1_from p_a1_to u_a0_street v_a0_count v_a0_set v_a0_yards u_a1_paid v_a1_count n_a2 f_a2 n_a0_far f_a0_far n_a1_yards f_a1_yards n_a1_from f_a1_from n_a1_to f_a1_to) ρ (Wd_Way_leastOnward g p_a0 p_a1 p_a2 p_a0_far p_a1_yards p_a1_from p_a1_to u_a0_street v_a0_count v_a0_set v_a0_yards u_a1_paid v_a1_count n_a2 f_a2 n_a0_far f_a0_far n_a1_yards f_a1_yards n_a1_from f_a1_from n_a1_to f_a1_to) := by
  refine CtI.of (by decide) rfl rfl (Nat.le_of_ble_eq_true rfl) (fun E A _ C => ?_)
  unfold f_Way_leastOnward at hf
  show J E rm_Way_leastOnward g A 7 (QI E g A ρ (Wd_Way_leastOnward g p_a0 p_a1 p_a2 p_a0_far p_a1_yards p_a1_from p_a1_to u_a0_street v_a0_count v_a0_set v_a0_yards u_a1_paid v_a1_count n_a2 f_a2 n_a0_far f_a0_far n_a1_yards f_a1_yards n_a1_from f_a1_from n_a1_to f_a1_to) 0 0) 0 0 (Wd_Way_leastOnward g p_a0 p_a1 p_a2 p_a0_far p_a1_yards p_a1_from p_a1_to u_a0_street v_a0_count v_a0_set v_a0_yards u_a1_paid v_a1_count n_a2 f_a2 n_a0_far f_a0_far n_a1_yards f_a1_yards n_a1_from f_a1_from n_a1_to f_a1_to) [(0, .ref p_a0), (1, .ref p_a1), (2, .ref p_a2), (3, .int x3)] 0 []
  refine j_iconst C dX10_leastOnward_0 (v := 0) (by decide) ?_
  refine j_istore C [(4, .int 0), (0, .ref p_a0), (1, .ref p_a1), (2, .ref p_a2), (3, .int x3)] dX10_leastOnward_1 (by decide) rfl ?_
  refine j_lv [1, 2, 3, 4, 0] rfl ?_
  exact j_Way_leastOnward_3 C p_a0 p_a1 p_a2 p_a0_far p_a1_yards p_a1_from p_a1_to u_a0_street v_a0_count v_a0_set v_a0_yards u_a1_paid FU x3 0 v_a1_count n_a2 f_a2 n_a0_far f_a0_far n_a1_yards f_a1_yards n_a1_from f_a1_from n_a1_to f_a1_to hf
abbrev rm_Way_walk : Room := { frames := 1, cells := 0, slots := 0, locals := 26 }
def Wd_Way_walk (g : Gd) (p_a0 : Nat) (p_a1 : Nat) (p_a2 : Nat) (p_a0_street : Nat) (p_a0_far : Nat) (p_a1_yards : Nat) (p_a1_from : Nat) (p_a1_to : Nat) (v_a0_count : Int32) (v_a0_set : Int32) (v_a0_yards : Int32) (u_a1_paid : Value) (v_a1_count : Int32) (n_a2 : Nat) (f_a2 : Nat → Int32) (n_a0_street : Nat) (f_a0_street : Nat → Int32) (n_a0_far : Nat) (f_a0_far : Nat → Int32) (n_a1_yards : Nat) (f_a1_yards : Nat → Int32) (n_a1_from : Nat) (f_a1_from : Nat → Int32) (n_a1_to : Nat) (f_a1_to : Nat → Int32) : va_W := [(p_a0, .inr (9, [.ref p_a0_street, .int v_a0_count, .int v_a0_set, .int v_a0_yards, .ref p_a0_far])), (p_a1, .inr (6, [.ref p_a1_from, .ref p_a1_to, .ref p_a1_yards, u_a1_paid, .int v_a1_count])), (p_a2, .inl (g.2.1 0, n_a2, .inl f_a2)), (p_a0_street, .inl (g.2.1 0, n_a0_street, .inl f_a0_street)), (p_a0_far, .inl (g.2.1 0, n_a0_far, .inl f_a0_far)), (p_a1_yards, .inl (g.2.1 0, n_a1_yards, .inl f_a1_yards)), (p_a1_from, .inl (g.2.1 0, n_a1_from, .inl f_a1_from)), (p_a1_to, .inl (g.2.1 0, n_a1_to, .inl f_a1_to))]
theorem iw_Way_walk_7 : ∀ w ∈ wsX70, w ∈ wsX10_walk := fun w h => List.mem_cons_of_mem _ (List.mem_append_right _ h)
theorem iw_Way_walk_10 : ∀ w ∈ wsX100, w ∈ wsX10_walk := fun w h => List.mem_cons_of_mem _ (List.mem_append_left _ (List.mem_append_right _ h))
theorem fl_9_Way_walk : Cond.fieldLink RX10 9 "ShutWays$Way" (TX10 0).2.1 (TX10 0).2.2.1 ∈ wsX10_walk := by decide +kernel
theorem fl_15_Way_walk : Cond.fieldLink RX10 15 "ShutWays$Way" (TX10 1).2.1 (TX10 1).2.2.1 ∈ wsX10_walk := by decide +kernel
theorem fl_19_Way_walk : Cond.fieldLink RX10 19 "ShutWays$Way" (TX10 2).2.1 (TX10 2).2.2.1 ∈ wsX10_walk := by decide +kernel
theorem fl_46_Way_walk : Cond.fieldLink RX10 46 "ShutWays$Roads" (TX7 0).2.1 (TX7 0).2.2.1 ∈ wsX10_walk := by decide +kernel
theorem fl_49_Way_walk : Cond.fieldLink RX10 49 "ShutWays$Roads" (TX7 1).2.1 (TX7 1).2.2.1 ∈ wsX10_walk := by decide +kernel
noncomputable def f_Way_walk_103 (k_6 : Int32 → Int32 → Int32 → Int32 → Int32 → Int32 → Nat → (Nat → Int32) → Nat → (Nat → Int32) → Nat → (Nat → Int32) → Nat → (Nat → Int32) → Nat → (Nat → Int32) → Nat → (Nat → Int32) → Option (Int32 × Int32 × (Nat → Int32))) (x4 : Int32) (x6 : Int32) (y0 : Int32) (v_a0_count : Int32) (v_a0_set : Int32) (v_a1_count : Int32) (n_a2 : Nat) (f_a2 : Nat → Int32) (n_a0_street : Nat) (f_a0_street : Nat → Int32) (n_a0_far : Nat) (f_a0_far : Nat → Int32) (n_a1_yards : Nat) (f_a1_yards : Nat → Int32) (n_a1_from : Nat) (f_a1_from : Nat → Int32) (n_a1_to : Nat) (f_a1_to : Nat → Int32) : Option (Int32 × Int32 × (Nat → Int32)) := k_6 x4 y0 (x6 + 1) v_a0_count v_a0_set v_a1_count n_a2 f_a2 n_a0_street f_a0_street n_a0_far f_a0_far n_a1_yards f_a1_yards n_a1_from f_a1_from n_a1_to f_a1_to
set_option maxHeartbeats 4000000 in
set_option maxRecDepth 100000 in
theorem j_Way_walk_103 {E : Ev} {g : Gd} {A : Nat → Prop} (C : Cx E g A RX10 cX10_walk wsX10_walk 8 none) (p_a0 : Nat) (p_a1 : Nat) (p_a2 : Nat) (p_a0_street : Nat) (p_a0_far : Nat) (p_a1_yards : Nat) (p_a1_from : Nat) (p_a1_to : Nat) (v_a0_yards : Int32) (u_a1_paid : Value) {ρ : Int32 × Int32 × (Nat → Int32)} {k_6 : Int32 → Int32 → Int32 → Int32 → Int32 → Int32 → Nat → (Nat → Int32) → Nat → (Nat → Int32) → Nat → (Nat → Int32) → Nat → (Nat → Int32) → Nat → (Nat → Int32) → Nat → (Nat → Int32) → Option (Int32 × Int32 × (Nat → Int32))} (hk_6 : ∀ (x4 : Int32) (x5 : Int32) (x6 : Int32) (v_a0_count : Int32) (v_a0_set : Int32) (v_a1_count : Int32) (n_a2 : Nat) (f_a2 : Nat → Int32) (n_a0_street : Nat) (f_a0_street : Nat → Int32) (n_a0_far : Nat) (f_a0_far : Nat → Int32) (n_a1_yards : Nat) (f_a1_yards : Nat → Int32) (n_a1_from : Nat) (f_a1_from : Nat → Int32) (n_a1_to : Nat) (f_a1_to : Nat → Int32), k_6 x4 x5 x6 v_a0_count v_a0_set v_a1_count n_a2 f_a2 n_a0_street f_a0_street n_a0_far f_a0_far n_a1_yards f_a1_yards n_a1_from f_a1_from n_a1_to f_a1_to = some ρ → J E rm_Way_walk g A 8 (QV E g A (Wd_Way_walk g p_a0 p_a1 p_a2 p_a0_street p_a0_far p_a1_yards p_a1_from p_a1_to ρ.1 ρ.2.1 v_a0_yards u_a1_paid v_a1_count n_a2 f_a2 n_a0_street ρ.2.2 n_a0_far f_a0_far n_a1_yards f_a1_yards n_a1_from f_a1_from n_a1_to f_a1_to) 0 0) 0 0 (Wd_Way_walk g p_a0 p_a1 p_a2 p_a0_street p_a0_far p_a1_yards p_a1_from p_a1_to v_a0_count v_a0_set v_a0_yards u_a1_paid v_a1_count n_a2 f_a2 n_a0_street f_a0_street n_a0_far f_a0_far n_a1_yards f_a1_yards n_a1_from f_a1_from n_a1_to f_a1_to) [(0, .ref p_a0), (1, .ref p_a1), (2, .ref p_a2), (4, .int x4), (5, .int x5), (6, .int x6)] 6 []) (x4 : Int32) (x6 : Int32) (y0 : Int32) (v_a0_count : Int32) (v_a0_set : Int32) (v_a1_count : Int32) (n_a2 : Nat) (f_a2 : Nat → Int32) (n_a0_street : Nat) (f_a0_street : Nat → Int32) (n_a0_far : Nat) (f_a0_far : Nat → Int32) (n_a1_yards : Nat) (f_a1_yards : Nat → Int32) (n_a1_from : Nat) (f_a1_from : Nat → Int32) (n_a1_to : Nat) (f_a1_to : Nat → Int32) (hf : f_Way_walk_103 k_6 x4 x6 y0 v_a0_count v_a0_set v_a1_count n_a2 f_a2 n_a0_street f_a0_street n_a0_far f_a0_far n_a1_yards f_a1_yards n_a1_from f_a1_from n_a1_to f_a1_to = some ρ) : J E rm_Way_walk g A 8 (QV E g A (Wd_Way_walk g p_a0 p_a1 p_a2 p_a0_street p_a0_far p_a1_yards p_a1_from p_a1_to ρ.1 ρ.2.1 v_a0_yards u_a1_paid v_a1_count n_a2 f_a2 n_a0_street ρ.2.2 n_a0_far f_a0_far n_a1_yards f_a1_yards n_a1_from f_a1_from n_a1_to f_a1_to) 0 0) 0 0 (Wd_Way_walk g p_a0 p_a1 p_a2 p_a0_street p_a0_far p_a1_yards p_a1_from p_a1_to v_a0_count v_a0_set v_a0_yards u_a1_paid v_a1_count n_a2 f_a2 n_a0_street f_a0_street n_a0_far f_a0_far n_a1_yards f_a1_yards n_a1_from f_a1_from n_a1_to f_a1_to) [(0, .ref p_a0), (1, .ref p_a1), (2, .ref p_a2), (4, .int x4), (6, .int x6)] 103 [.int y0] := by
  unfold f_Way_walk_103 at hf
  refine j_istore C [(5, .int y0), (0, .ref p_a0), (1, .ref p_a1), (2, .ref p_a2), (4, .int x4), (6, .int x6)] dX10_walk_103 (by decide) rfl ?_
  refine j_iinc C (v := (x6 + 1)) 5 [(6, .int (x6 + 1)), (5, .int y0), (0, .ref p_a0), (1, .ref p_a1), (2, .ref p_a2), (4, .int x4)] dX10_walk_105 rfl (by first | rfl | decide) (by decide) rfl ?_
  refine j_goto C 6 dX10_walk_108 (by decide) ?_
  refine j_lv [2, 3, 4, 5, 1, 0] rfl ?_
  exact hk_6 x4 y0 (x6 + 1) v_a0_count v_a0_set v_a1_count n_a2 f_a2 n_a0_street f_a0_street n_a0_far f_a0_far n_a1_yards f_a1_yards n_a1_from f_a1_from n_a1_to f_a1_to hf
noncomputable def b_Way_walk_6 (k_6 : Int32 → Int32 → Int32 → Int32 → Int32 → Int32 → Nat → (Nat → Int32) → Nat → (Nat → Int32) → Nat → (Nat → Int32) → Nat → (Nat → Int32) → Nat → (Nat → Int32) → Nat → (Nat → Int32) → Option (Int32 × Int32 × (Nat → Int32))) (x4 : Int32) (x5 : Int32) (x6 : Int32) (v_a0_count : Int32) (v_a0_set : Int32) (v_a1_count : Int32) (n_a2 : Nat) (f_a2 : Nat → Int32) (n_a0_street : Nat) (f_a0_street : Nat → Int32) (n_a0_far : Nat) (f_a0_far : Nat → Int32) (n_a1_yards : Nat) (f_a1_yards : Nat → Int32) (n_a1_from : Nat) (f_a1_from : Nat → Int32) (n_a1_to : Nat) (f_a1_to : Nat → Int32) : Option (Int32 × Int32 × (Nat → Int32)) := if (nI n_a0_street) ≤ x6 then some (v_a0_count, v_a0_set, f_a0_street) else if x5 = x4 then some (v_a0_count, v_a0_set, f_a0_street) else (f_Way_leastOnward x5 v_a1_count n_a2 f_a2 n_a0_far f_a0_far n_a1_yards f_a1_yards n_a1_from f_a1_from n_a1_to f_a1_to).bind (fun r3 => if r3 = (-1) then some (v_a0_count, v_a0_set, f_a0_street) else gix v_a0_count n_a0_street (nmI (v_a0_count + 1) (fun z7 => nmI (v_a0_set ||| (1 <<< (r3 &&& 31))) (fun z8 => gix r3 n_a1_from (if (f_a1_from r3.toNatClampNeg) = x5 then gix r3 n_a1_to (f_Way_walk_103 k_6 x4 x6 (f_a1_to r3.toNatClampNeg) z7 z8 v_a1_count n_a2 f_a2 n_a0_street (upd f_a0_street v_a0_count.toNatClampNeg r3) n_a0_far f_a0_far n_a1_yards f_a1_yards n_a1_from f_a1_from n_a1_to f_a1_to) else gix r3 n_a1_from (f_Way_walk_103 k_6 x4 x6 (f_a1_from r3.toNatClampNeg) z7 z8 v_a1_count n_a2 f_a2 n_a0_street (upd f_a0_street v_a0_count.toNatClampNeg r3) n_a0_far f_a0_far n_a1_yards f_a1_yards n_a1_from f_a1_from n_a1_to f_a1_to))))))
noncomputable def f_Way_walk_6 (n : Nat) : Int32 → Int32 → Int32 → Int32 → Int32 → Int32 → Nat → (Nat → Int32) → Nat → (Nat → Int32) → Nat → (Nat → Int32) → Nat → (Nat → Int32) → Nat → (Nat → Int32) → Nat → (Nat → Int32) → Option (Int32 × Int32 × (Nat → Int32)) := Nat.rec (motive := fun _ => Int32 → Int32 → Int32 → Int32 → Int32 → Int32 → Nat → (Nat → Int32) → Nat → (Nat → Int32) → Nat → (Nat → Int32) → Nat → (Nat → Int32) → Nat → (Nat → Int32) → Nat → (Nat → Int32) → Option (Int32 × Int32 × (Nat → Int32))) (fun _ _ _ _ _ _ _ _ _ _ _ _ _ _ _ _ _ _ => none) (fun _ ih => b_Way_walk_6 ih) n
set_option maxHeartbeats 4000000 in
set_option maxRecDepth 100000 in
theorem jb_Way_walk_6 {E : Ev} {g : Gd} {A : Nat → Prop} (C : Cx E g A RX10 cX10_walk wsX10_walk 8 none) (p_a0 : Nat) (p_a1 : Nat) (p_a2 : Nat) (p_a0_street : Nat) (p_a0_far : Nat) (p_a1_yards : Nat) (p_a1_from : Nat) (p_a1_to : Nat) (v_a0_yards : Int32) (u_a1_paid : Value) {ρ : Int32 × Int32 × (Nat → Int32)} {k_6 : Int32 → Int32 → Int32 → Int32 → Int32 → Int32 → Nat → (Nat → Int32) → Nat → (Nat → Int32) → Nat → (Nat → Int32) → Nat → (Nat → Int32) → Nat → (Nat → Int32) → Nat → (Nat → Int32) → Option (Int32 × Int32 × (Nat → Int32))} (hk_6 : ∀ (x4 : Int32) (x5 : Int32) (x6 : Int32) (v_a0_count : Int32) (v_a0_set : Int32) (v_a1_count : Int32) (n_a2 : Nat) (f_a2 : Nat → Int32) (n_a0_street : Nat) (f_a0_street : Nat → Int32) (n_a0_far : Nat) (f_a0_far : Nat → Int32) (n_a1_yards : Nat) (f_a1_yards : Nat → Int32) (n_a1_from : Nat) (f_a1_from : Nat → Int32) (n_a1_to : Nat) (f_a1_to : Nat → Int32), k_6 x4 x5 x6 v_a0_count v_a0_set v_a1_count n_a2 f_a2 n_a0_street f_a0_street n_a0_far f_a0_far n_a1_yards f_a1_yards n_a1_from f_a1_from n_a1_to f_a1_to = some ρ → J E rm_Way_walk g A 8 (QV E g A (Wd_Way_walk g p_a0 p_a1 p_a2 p_a0_street p_a0_far p_a1_yards p_a1_from p_a1_to ρ.1 ρ.2.1 v_a0_yards u_a1_paid v_a1_count n_a2 f_a2 n_a0_street ρ.2.2 n_a0_far f_a0_far n_a1_yards f_a1_yards n_a1_from f_a1_from n_a1_to f_a1_to) 0 0) 0 0 (Wd_Way_walk g p_a0 p_a1 p_a2 p_a0_street p_a0_far p_a1_yards p_a1_from p_a1_to v_a0_count v_a0_set v_a0_yards u_a1_paid v_a1_count n_a2 f_a2 n_a0_street f_a0_street n_a0_far f_a0_far n_a1_yards f_a1_yards n_a1_from f_a1_from n_a1_to f_a1_to) [(0, .ref p_a0), (1, .ref p_a1), (2, .ref p_a2), (4, .int x4), (5, .int x5), (6, .int x6)] 6 []) (x4 : Int32) (x5 : Int32) (x6 : Int32) (v_a0_count : Int32) (v_a0_set : Int32) (v_a1_count : Int32) (n_a2 : Nat) (f_a2 : Nat → Int32) (n_a0_street : Nat) (f_a0_street : Nat → Int32) (n_a0_far : Nat) (f_a0_far : Nat → Int32) (n_a1_yards : Nat) (f_a1_yards : Nat → Int32) (n_a1_from : Nat) (f_a1_from : Nat → Int32) (n_a1_to : Nat) (f_a1_to : Nat → Int32) (hf : b_Way_walk_6 k_6 x4 x5 x6 v_a0_count v_a0_set v_a1_count n_a2 f_a2 n_a0_street f_a0_street n_a0_far f_a0_far n_a1_yards f_a1_yards n_a1_from f_a1_from n_a1_to f_a1_to = some ρ) : J E rm_Way_walk g A 8 (QV E g A (Wd_Way_walk g p_a0 p_a1 p_a2 p_a0_street p_a0_far p_a1_yards p_a1_from p_a1_to ρ.1 ρ.2.1 v_a0_yards u_a1_paid v_a1_count n_a2 f_a2 n_a0_street ρ.2.2 n_a0_far f_a0_far n_a1_yards f_a1_yards n_a1_from f_a1_from n_a1_to f_a1_to) 0 0) 0 0 (Wd_Way_walk g p_a0 p_a1 p_a2 p_a0_street p_a0_far p_a1_yards p_a1_from p_a1_to v_a0_count v_a0_set v_a0_yards u_a1_paid v_a1_count n_a2 f_a2 n_a0_street f_a0_street n_a0_far f_a0_far n_a1_yards f_a1_yards n_a1_from f_a1_from n_a1_to f_a1_to) [(0, .ref p_a0), (1, .ref p_a1), (2, .ref p_a2), (4, .int x4), (5, .int x5), (6, .int x6)] 6 [] := by
  unfold b_Way_walk_6 at hf
  refine j_iload C 5 dX10_walk_6 rfl ?_
  refine j_aload_n C 0 dX10_walk_8 rfl rfl ?_
  refine j_get C (ci := 9) 0 0 iw_Way_walk_10 rfl rfl (by decide) fl_9_Way_walk rfl rfl dX10_walk_9 ?_
  refine j_alen C (t := 0) 3 rfl rfl dX10_walk_12 ?_
  refine j_icmp_ge C 111 dX10_walk_13 (by decide) (fun c_1 => ?_) (fun c_1 => ?_)
  · replace hf := ifp c_1 hf
    obtain rfl := Option.some.inj hf
    exact j_vret C dX10_walk_111 rfl
  · replace hf := ifn c_1 hf
    refine j_iload C 4 dX10_walk_16 rfl ?_
    refine j_iload C 3 dX10_walk_18 rfl ?_
    refine j_icmp_eq C 111 dX10_walk_20 (by decide) (fun c_2 => ?_) (fun c_2 => ?_)
    · replace hf := ifp c_2 hf
      obtain rfl := Option.some.inj hf
      exact j_vret C dX10_walk_111 rfl
    · replace hf := ifn c_2 hf
      refine j_aload_n C 0 dX10_walk_23 rfl rfl ?_
      refine j_aload_n C 1 dX10_walk_24 rfl rfl ?_
      refine j_aload_n C 2 dX10_walk_25 rfl rfl ?_
      refine j_iload C 4 dX10_walk_26 rfl ?_
      refine j_pc 28 rfl ?_
      obtain ⟨r3, hc4, hf⟩ := bnd hf
      refine j_cvI C (n := 3) (ci := 9) [.ref p_a1, .ref p_a2, .int x5] [0, 1, 2, 4, 5, 6, 7] [3] [1, 2, 3, 0, 4, 5, 6, 7] (Wd_Way_walk g p_a0 p_a1 p_a2 p_a0_street p_a0_far p_a1_yards p_a1_from p_a1_to v_a0_count v_a0_set v_a0_yards u_a1_paid v_a1_count n_a2 f_a2 n_a0_street f_a0_street n_a0_far f_a0_far n_a1_yards f_a1_yards n_a1_from f_a1_from n_a1_to f_a1_to) (c_Way_leastOnward E.2.1 g p_a0 p_a1 p_a2 p_a0_far p_a1_yards p_a1_from p_a1_to (.ref p_a0_street) v_a0_count v_a0_set v_a0_yards u_a1_paid v_a1_count n_a2 f_a2 n_a0_far f_a0_far n_a1_yards f_a1_yards n_a1_from f_a1_from n_a1_to f_a1_to x5 hc4) gX10_walk_X10_leastOnward rfl rfl rfl (by decide +kernel) ⟨Nat.le_of_ble_eq_true rfl, Nat.le_of_ble_eq_true rfl⟩ rfl rfl (by decide) (by decide) (by decide) 0 rfl rfl (by decide) rfl rfl rfl (Nat.le_of_ble_eq_true rfl) ⟨Nat.zero_le _, Nat.zero_le _⟩ dX10_walk_28 ?_
      refine j_istore C [(7, .int r3), (0, .ref p_a0), (1, .ref p_a1), (2, .ref p_a2), (4, .int x4), (5, .int x5), (6, .int x6)] dX10_walk_31 (by decide) rfl ?_
      refine j_iload C 0 dX10_walk_33 rfl ?_
      refine j_iconst C dX10_walk_35 (v := (-1)) (by decide) ?_
      refine j_icmp_ne C 40 dX10_walk_36 (by decide) (fun c_5 => ?_) (fun c_5 => ?_)
      · replace hf := ifn c_5 hf
        refine j_aload_n C 1 dX10_walk_40 rfl rfl ?_
        refine j_get C (ci := 9) 0 0 iw_Way_walk_10 rfl rfl (by decide) fl_9_Way_walk rfl rfl dX10_walk_41 ?_
        refine j_aload_n C 1 dX10_walk_44 rfl rfl ?_
        refine j_get C (ci := 9) 0 1 iw_Way_walk_10 rfl rfl (by decide) fl_15_Way_walk rfl rfl dX10_walk_45 ?_
        refine j_iload C 0 dX10_walk_48 rfl ?_
        obtain ⟨hi6, hf⟩ := gix_some hf
        refine j_iast C 3 (Wd_Way_walk g p_a0 p_a1 p_a2 p_a0_street p_a0_far p_a1_yards p_a1_from p_a1_to v_a0_count v_a0_set v_a0_yards u_a1_paid v_a1_count n_a2 f_a2 n_a0_street (upd f_a0_street v_a0_count.toNatClampNeg r3) n_a0_far f_a0_far n_a1_yards f_a1_yards n_a1_from f_a1_from n_a1_to f_a1_to) rfl hi6 rfl dX10_walk_50 ?_
        refine j_aload_n C 1 dX10_walk_51 rfl rfl ?_
        refine j_pc 52 rfl ?_
        refine j_dup C dX10_walk_52 rfl ?_
        refine j_get C (ci := 9) 0 1 iw_Way_walk_10 rfl rfl (by decide) fl_15_Way_walk rfl rfl dX10_walk_53 ?_
        refine j_iconst C dX10_walk_56 (v := 1) (by decide) ?_
        refine j_iadd C dX10_walk_57 ?_
        obtain ⟨z7, e_z7, hf⟩ := nmI_some hf
        refine j_nmi e_z7 ?_
        refine j_put C (ci := 9) 0 1 (Wd_Way_walk g p_a0 p_a1 p_a2 p_a0_street p_a0_far p_a1_yards p_a1_from p_a1_to z7 v_a0_set v_a0_yards u_a1_paid v_a1_count n_a2 f_a2 n_a0_street (upd f_a0_street v_a0_count.toNatClampNeg r3) n_a0_far f_a0_far n_a1_yards f_a1_yards n_a1_from f_a1_from n_a1_to f_a1_to) iw_Way_walk_10 tyX10_ok nmX10 rfl rfl (by decide) fl_15_Way_walk rfl rfl rfl rfl (Nat.le_of_ble_eq_true rfl) rfl dX10_walk_58 ?_
        refine j_aload_n C 1 dX10_walk_61 rfl rfl ?_
        refine j_dup C dX10_walk_62 rfl ?_
        refine j_get C (ci := 9) 0 2 iw_Way_walk_10 rfl rfl (by decide) fl_19_Way_walk rfl rfl dX10_walk_63 ?_
        refine j_iconst C dX10_walk_66 (v := 1) (by decide) ?_
        refine j_iload C 0 dX10_walk_67 rfl ?_
        refine j_ishl C dX10_walk_69 ?_
        refine j_ior C dX10_walk_70 ?_
        refine j_pc 71 rfl ?_
        obtain ⟨z8, e_z8, hf⟩ := nmI_some hf
        refine j_nmi e_z8 ?_
        refine j_put C (ci := 9) 0 2 (Wd_Way_walk g p_a0 p_a1 p_a2 p_a0_street p_a0_far p_a1_yards p_a1_from p_a1_to z7 z8 v_a0_yards u_a1_paid v_a1_count n_a2 f_a2 n_a0_street (upd f_a0_street v_a0_count.toNatClampNeg r3) n_a0_far f_a0_far n_a1_yards f_a1_yards n_a1_from f_a1_from n_a1_to f_a1_to) iw_Way_walk_10 tyX10_ok nmX10 rfl rfl (by decide) fl_19_Way_walk rfl rfl rfl rfl (Nat.le_of_ble_eq_true rfl) rfl dX10_walk_71 ?_
        refine j_aload_n C 2 dX10_walk_74 rfl rfl ?_
        refine j_get C (ci := 6) 1 0 iw_Way_walk_7 rfl rfl (by decide) fl_46_Way_walk rfl rfl dX10_walk_75 ?_
        refine j_iload C 0 dX10_walk_78 rfl ?_
        obtain ⟨hi9, hf⟩ := gix_some hf
        refine j_iald C 6 rfl hi9 dX10_walk_80 ?_
        refine j_iload C 5 dX10_walk_81 rfl ?_
        refine j_icmp_ne C 96 dX10_walk_83 (by decide) (fun c_10 => ?_) (fun c_10 => ?_)
        · replace hf := ifn c_10 hf
          refine j_aload_n C 2 dX10_walk_96 rfl rfl ?_
          refine j_get C (ci := 6) 1 0 iw_Way_walk_7 rfl rfl (by decide) fl_46_Way_walk rfl rfl dX10_walk_97 ?_
          refine j_iload C 0 dX10_walk_100 rfl ?_
          obtain ⟨hi11, hf⟩ := gix_some hf
          refine j_iald C 6 rfl hi11 dX10_walk_102 ?_
          refine j_lv [1, 2, 3, 4, 6] rfl ?_
          exact j_Way_walk_103 C p_a0 p_a1 p_a2 p_a0_street p_a0_far p_a1_yards p_a1_from p_a1_to v_a0_yards u_a1_paid hk_6 x4 x6 (f_a1_from r3.toNatClampNeg) z7 z8 v_a1_count n_a2 f_a2 n_a0_street (upd f_a0_street v_a0_count.toNatClampNeg r3) n_a0_far f_a0_far n_a1_yards f_a1_yards n_a1_from f_a1_from n_a1_to f_a1_to hf
        · replace hf := ifp c_10 hf
          refine j_aload_n C 2 dX10_walk_86 rfl rfl ?_
          refine j_get C (ci := 6) 1 1 iw_Way_walk_7 rfl rfl (by decide) fl_49_Way_walk rfl rfl dX10_walk_87 ?_
          refine j_iload C 0 dX10_walk_90 rfl ?_
          obtain ⟨hi12, hf⟩ := gix_some hf
          refine j_iald C 7 rfl hi12 dX10_walk_92 ?_
          refine j_goto C 103 dX10_walk_93 (by decide) ?_
          refine j_lv [1, 2, 3, 4, 6] rfl ?_
          exact j_Way_walk_103 C p_a0 p_a1 p_a2 p_a0_street p_a0_far p_a1_yards p_a1_from p_a1_to v_a0_yards u_a1_paid hk_6 x4 x6 (f_a1_to r3.toNatClampNeg) z7 z8 v_a1_count n_a2 f_a2 n_a0_street (upd f_a0_street v_a0_count.toNatClampNeg r3) n_a0_far f_a0_far n_a1_yards f_a1_yards n_a1_from f_a1_from n_a1_to f_a1_to hf
      · replace hf := ifp c_5 hf
        obtain rfl := Option.some.inj hf
        exact j_vret C dX10_walk_39 rfl
set_option maxHeartbeats 4000000 in
set_option maxRecDepth 100000 in
theorem j_Way_walk_6 {E : Ev} {g : Gd} {A : Nat → Prop} (C : Cx E g A RX10 cX10_walk wsX10_walk 8 none) (p_a0 : Nat) (p_a1 : Nat) (p_a2 : Nat) (p_a0_street : Nat) (p_a0_far : Nat) (p_a1_yards : Nat) (p_a1_from : Nat) (p_a1_to : Nat) (v_a0_yards : Int32) (u_a1_paid : Value) {ρ : Int32 × Int32 × (Nat → Int32)} : ∀ (n : Nat) (x4 : Int32) (x5 : Int32) (x6 : Int32) (v_a0_count : Int32) (v_a0_set : Int32) (v_a1_count : Int32) (n_a2 : Nat) (f_a2 : Nat → Int32) (n_a0_street : Nat) (f_a0_street : Nat → Int32) (n_a0_far : Nat) (f_a0_far : Nat → Int32) (n_a1_yards : Nat) (f_a1_yards : Nat → Int32) (n_a1_from : Nat) (f_a1_from : Nat → Int32) (n_a1_to : Nat) (f_a1_to : Nat → Int32), f_Way_walk_6 n x4 x5 x6 v_a0_count v_a0_set v_a1_count n_a2 f_a2 n_a0_street f_a0_street n_a0_far f_a0_far n_a1_yards f_a1_yards n_a1_from f_a1_from n_a1_to f_a1_to = some ρ → J E rm_Way_walk g A 8 (QV E g A (Wd_Way_walk g p_a0 p_a1 p_a2 p_a0_street p_a0_far p_a1_yards p_a1_from p_a1_to ρ.1 ρ.2.1 v_a0_yards u_a1_paid v_a1_count n_a2 f_a2 n_a0_street ρ.2.2 n_a0_far f_a0_far n_a1_yards f_a1_yards n_a1_from f_a1_from n_a1_to f_a1_to) 0 0) 0 0 (Wd_Way_walk g p_a0 p_a1 p_a2 p_a0_street p_a0_far p_a1_yards p_a1_from p_a1_to v_a0_count v_a0_set v_a0_yards u_a1_paid v_a1_count n_a2 f_a2 n_a0_street f_a0_street n_a0_far f_a0_far n_a1_yards f_a1_yards n_a1_from f_a1_from n_a1_to f_a1_to) [(0, .ref p_a0), (1, .ref p_a1), (2, .ref p_a2), (4, .int x4), (5, .int x5), (6, .int x6)] 6 [] := by
  intro n
  induction n with
  | zero => intro x4 x5 x6 v_a0_count v_a0_set v_a1_count n_a2 f_a2 n_a0_street f_a0_street n_a0_far f_a0_far n_a1_yards f_a1_yards n_a1_from f_a1_from n_a1_to f_a1_to h; have h0 : (none : Option (Int32 × Int32 × (Nat → Int32))) = some ρ := h; cases h0
  | succ n ih => intro x4 x5 x6 v_a0_count v_a0_set v_a1_count n_a2 f_a2 n_a0_street f_a0_street n_a0_far f_a0_far n_a1_yards f_a1_yards n_a1_from f_a1_from n_a1_to f_a1_to h; exact jb_Way_walk_6 C p_a0 p_a1 p_a2 p_a0_street p_a0_far p_a1_yards p_a1_from p_a1_to v_a0_yards u_a1_paid ih x4 x5 x6 v_a0_count v_a0_set v_a1_count n_a2 f_a2 n_a0_street f_a0_street n_a0_far f_a0_far n_a1_yards f_a1_yards n_a1_from f_a1_from n_a1_to f_a1_to h
noncomputable def f_Way_walk (x3 : Int32) (x4 : Int32) (v_a0_count : Int32) (v_a0_set : Int32) (v_a1_count : Int32) (n_a2 : Nat) (f_a2 : Nat → Int32) (n_a0_street : Nat) (f_a0_street : Nat → Int32) (n_a0_far : Nat) (f_a0_far : Nat → Int32) (n_a1_yards : Nat) (f_a1_yards : Nat → Int32) (n_a1_from : Nat) (f_a1_from : Nat → Int32) (n_a1_to : Nat) (f_a1_to : Nat → Int32) : Option (Int32 × Int32 × (Nat → Int32)) := f_Way_walk_6 FU x4 x3 0 v_a0_count v_a0_set v_a1_count n_a2 f_a2 n_a0_street f_a0_street n_a0_far f_a0_far n_a1_yards f_a1_yards n_a1_from f_a1_from n_a1_to f_a1_to
set_option maxHeartbeats 4000000 in
set_option maxRecDepth 100000 in
theorem c_Way_walk (l : Launch) (g : Gd) (p_a0 : Nat) (p_a1 : Nat) (p_a2 : Nat) (p_a0_street : Nat) (p_a0_far : Nat) (p_a1_yards : Nat) (p_a1_from : Nat) (p_a1_to : Nat) (v_a0_count : Int32) (v_a0_set : Int32) (v_a0_yards : Int32) (u_a1_paid : Value) (v_a1_count : Int32) (n_a2 : Nat) (f_a2 : Nat → Int32) (n_a0_street : Nat) (f_a0_street : Nat → Int32) (n_a0_far : Nat) (f_a0_far : Nat → Int32) (n_a1_yards : Nat) (f_a1_yards : Nat → Int32) (n_a1_from : Nat) (f_a1_from : Nat → Int32) (n_a1_to : Nat) (f_a1_to : Nat → Int32) (x3 : Int32) (x4 : Int32) {ρ : Int32 × Int32 × (Nat → Int32)} (hf : f_Way_walk x3 x4 v_a0_count v_a0_set v_a1_count n_a2 f_a2 n_a0_street f_a0_street n_a0_far f_a0_far n_a1_yards f_a1_yards n_a1_from f_a1_from n_a1_to f_a1_to = some ρ) : CtV l g yX10_walk wsX10_walk rm_Way_walk [.ref p_a0, .ref p_a1, .ref p_a2, .int x3, .int x4] (Wd_Way_walk g p_a0 p_a1 p_a2 p_a0_street p_a0_far p_a1_yards p_a1_from p_a1_to v_a0_count v_a0_set v_a0_yards u_a1_paid v_a1_count n_a2 f_a2 n_a0_street f_a0_street n_a0_far f_a0_far n_a1_yards f_a1_yards n_a1_from f_a1_from n_a1_to f_a1_to) (Wd_Way_walk g p_a0 p_a1 p_a2 p_a0_street p_a0_far p_a1_yards p_a1_from p_a1_to ρ.1 ρ.2.1 v_a0_yards u_a1_paid v_a1_count n_a2 f_a2 n_a0_street ρ.2.2 n_a0_far f_a0_far n_a1_yards f_a1_yards n_a1_from f_a1_from n_a1_to f_a1_to) := by
  refine CtV.of (by decide) rfl rfl (Nat.le_of_ble_eq_true rfl) (fun E A _ C => ?_)
  unfold f_Way_walk at hf
  show J E rm_Way_walk g A 8 (QV E g A (Wd_Way_walk g p_a0 p_a1 p_a2 p_a0_street p_a0_far p_a1_yards p_a1_from p_a1_to ρ.1 ρ.2.1 v_a0_yards u_a1_paid v_a1_count n_a2 f_a2 n_a0_street ρ.2.2 n_a0_far f_a0_far n_a1_yards f_a1_yards n_a1_from f_a1_from n_a1_to f_a1_to) 0 0) 0 0 (Wd_Way_walk g p_a0 p_a1 p_a2 p_a0_street p_a0_far p_a1_yards p_a1_from p_a1_to v_a0_count v_a0_set v_a0_yards u_a1_paid v_a1_count n_a2 f_a2 n_a0_street f_a0_street n_a0_far f_a0_far n_a1_yards f_a1_yards n_a1_from f_a1_from n_a1_to f_a1_to) [(0, .ref p_a0), (1, .ref p_a1), (2, .ref p_a2), (3, .int x3), (4, .int x4)] 0 []
  refine j_iload_n C 3 dX10_walk_0 rfl rfl ?_
  refine j_istore C [(5, .int x3), (0, .ref p_a0), (1, .ref p_a1), (2, .ref p_a2), (3, .int x3), (4, .int x4)] dX10_walk_1 (by decide) rfl ?_
  refine j_iconst C dX10_walk_3 (v := 0) (by decide) ?_
  refine j_istore C [(6, .int 0), (5, .int x3), (0, .ref p_a0), (1, .ref p_a1), (2, .ref p_a2), (3, .int x3), (4, .int x4)] dX10_walk_4 (by decide) rfl ?_
  refine j_lv [2, 3, 4, 6, 1, 0] rfl ?_
  exact j_Way_walk_6 C p_a0 p_a1 p_a2 p_a0_street p_a0_far p_a1_yards p_a1_from p_a1_to v_a0_yards u_a1_paid FU x4 x3 0 v_a0_count v_a0_set v_a1_count n_a2 f_a2 n_a0_street f_a0_street n_a0_far f_a0_far n_a1_yards f_a1_yards n_a1_from f_a1_from n_a1_to f_a1_to hf
abbrev rm_Way_find : Room := { frames := 2, cells := 0, slots := 0, locals := 53 }
def Wd_Way_find (g : Gd) (p_a0 : Nat) (p_a1 : Nat) (p_a2 : Nat) (p_a0_far : Nat) (p_a1_from : Nat) (p_a1_to : Nat) (p_a1_yards : Nat) (p_a0_street : Nat) (v_a0_count : Int32) (v_a0_set : Int32) (v_a0_yards : Int32) (u_a1_paid : Value) (v_a1_count : Int32) (n_a2 : Nat) (f_a2 : Nat → Int32) (n_a0_far : Nat) (f_a0_far : Nat → Int32) (n_a1_from : Nat) (f_a1_from : Nat → Int32) (n_a1_to : Nat) (f_a1_to : Nat → Int32) (n_a1_yards : Nat) (f_a1_yards : Nat → Int32) (n_a0_street : Nat) (f_a0_street : Nat → Int32) : va_W := [(p_a0, .inr (9, [.ref p_a0_street, .int v_a0_count, .int v_a0_set, .int v_a0_yards, .ref p_a0_far])), (p_a1, .inr (6, [.ref p_a1_from, .ref p_a1_to, .ref p_a1_yards, u_a1_paid, .int v_a1_count])), (p_a2, .inl (g.2.1 0, n_a2, .inl f_a2)), (p_a0_far, .inl (g.2.1 0, n_a0_far, .inl f_a0_far)), (p_a1_from, .inl (g.2.1 0, n_a1_from, .inl f_a1_from)), (p_a1_to, .inl (g.2.1 0, n_a1_to, .inl f_a1_to)), (p_a1_yards, .inl (g.2.1 0, n_a1_yards, .inl f_a1_yards)), (p_a0_street, .inl (g.2.1 0, n_a0_street, .inl f_a0_street))]
theorem iw_Way_find_10 : ∀ w ∈ wsX100, w ∈ wsX10_find := fun w h => List.mem_cons_of_mem _ (List.mem_append_left _ (List.mem_append_right _ h))
theorem fl_15_Way_find : Cond.fieldLink RX10 15 "ShutWays$Way" (TX10 1).2.1 (TX10 1).2.2.1 ∈ wsX10_find := by decide +kernel
theorem fl_19_Way_find : Cond.fieldLink RX10 19 "ShutWays$Way" (TX10 2).2.1 (TX10 2).2.2.1 ∈ wsX10_find := by decide +kernel
theorem fl_25_Way_find : Cond.fieldLink RX10 25 "ShutWays$Way" (TX10 4).2.1 (TX10 4).2.2.1 ∈ wsX10_find := by decide +kernel
theorem fl_22_Way_find : Cond.fieldLink RX10 22 "ShutWays$Way" (TX10 3).2.1 (TX10 3).2.2.1 ∈ wsX10_find := by decide +kernel
theorem kc_32_Way_find : Cond.constant RX10 32 1000000 ∈ wsX10_find := by decide +kernel
noncomputable def f_Way_find (x3 : Int32) (x4 : Int32) (v_a0_count : Int32) (v_a0_set : Int32) (v_a0_yards : Int32) (v_a1_count : Int32) (n_a2 : Nat) (f_a2 : Nat → Int32) (n_a0_far : Nat) (f_a0_far : Nat → Int32) (n_a1_from : Nat) (f_a1_from : Nat → Int32) (n_a1_to : Nat) (f_a1_to : Nat → Int32) (n_a1_yards : Nat) (f_a1_yards : Nat → Int32) (n_a0_street : Nat) (f_a0_street : Nat → Int32) : Option (Int32 × Int32 × Int32 × (Nat → Int32) × (Nat → Int32)) := (f_Way_measure x4 v_a1_count n_a2 f_a2 n_a0_far f_a0_far n_a1_from f_a1_from n_a1_to f_a1_to n_a1_yards f_a1_yards).bind (fun r1 => gix x3 n_a0_far (nmI (r1 x3.toNatClampNeg) (fun z4 => if 1000000 ≤ z4 then some (0, 0, z4, r1, f_a0_street) else (f_Way_walk x3 x4 0 0 v_a1_count n_a2 f_a2 n_a0_street f_a0_street n_a0_far r1 n_a1_yards f_a1_yards n_a1_from f_a1_from n_a1_to f_a1_to).bind (fun r6 => some (r6.1, r6.2.1, z4, r1, r6.2.2)))))
set_option maxHeartbeats 4000000 in
set_option maxRecDepth 100000 in
theorem c_Way_find (l : Launch) (g : Gd) (p_a0 : Nat) (p_a1 : Nat) (p_a2 : Nat) (p_a0_far : Nat) (p_a1_from : Nat) (p_a1_to : Nat) (p_a1_yards : Nat) (p_a0_street : Nat) (v_a0_count : Int32) (v_a0_set : Int32) (v_a0_yards : Int32) (u_a1_paid : Value) (v_a1_count : Int32) (n_a2 : Nat) (f_a2 : Nat → Int32) (n_a0_far : Nat) (f_a0_far : Nat → Int32) (n_a1_from : Nat) (f_a1_from : Nat → Int32) (n_a1_to : Nat) (f_a1_to : Nat → Int32) (n_a1_yards : Nat) (f_a1_yards : Nat → Int32) (n_a0_street : Nat) (f_a0_street : Nat → Int32) (x3 : Int32) (x4 : Int32) {ρ : Int32 × Int32 × Int32 × (Nat → Int32) × (Nat → Int32)} (hf : f_Way_find x3 x4 v_a0_count v_a0_set v_a0_yards v_a1_count n_a2 f_a2 n_a0_far f_a0_far n_a1_from f_a1_from n_a1_to f_a1_to n_a1_yards f_a1_yards n_a0_street f_a0_street = some ρ) : CtV l g yX10_find wsX10_find rm_Way_find [.ref p_a0, .ref p_a1, .ref p_a2, .int x3, .int x4] (Wd_Way_find g p_a0 p_a1 p_a2 p_a0_far p_a1_from p_a1_to p_a1_yards p_a0_street v_a0_count v_a0_set v_a0_yards u_a1_paid v_a1_count n_a2 f_a2 n_a0_far f_a0_far n_a1_from f_a1_from n_a1_to f_a1_to n_a1_yards f_a1_yards n_a0_street f_a0_street) (Wd_Way_find g p_a0 p_a1 p_a2 p_a0_far p_a1_from p_a1_to p_a1_yards p_a0_street ρ.1 ρ.2.1 ρ.2.2.1 u_a1_paid v_a1_count n_a2 f_a2 n_a0_far ρ.2.2.2.1 n_a1_from f_a1_from n_a1_to f_a1_to n_a1_yards f_a1_yards n_a0_street ρ.2.2.2.2) := by
  refine CtV.of (by decide) rfl rfl (Nat.le_of_ble_eq_true rfl) (fun E A _ C => ?_)
  unfold f_Way_find at hf
  show J E rm_Way_find g A 5 (QV E g A (Wd_Way_find g p_a0 p_a1 p_a2 p_a0_far p_a1_from p_a1_to p_a1_yards p_a0_street ρ.1 ρ.2.1 ρ.2.2.1 u_a1_paid v_a1_count n_a2 f_a2 n_a0_far ρ.2.2.2.1 n_a1_from f_a1_from n_a1_to f_a1_to n_a1_yards f_a1_yards n_a0_street ρ.2.2.2.2) 0 0) 0 0 (Wd_Way_find g p_a0 p_a1 p_a2 p_a0_far p_a1_from p_a1_to p_a1_yards p_a0_street v_a0_count v_a0_set v_a0_yards u_a1_paid v_a1_count n_a2 f_a2 n_a0_far f_a0_far n_a1_from f_a1_from n_a1_to f_a1_to n_a1_yards f_a1_yards n_a0_street f_a0_street) [(0, .ref p_a0), (1, .ref p_a1), (2, .ref p_a2), (3, .int x3), (4, .int x4)] 0 []
  refine j_aload_n C 0 dX10_find_0 rfl rfl ?_
  refine j_iconst C dX10_find_1 (v := 0) (by decide) ?_
  refine j_put C (ci := 9) 0 1 (Wd_Way_find g p_a0 p_a1 p_a2 p_a0_far p_a1_from p_a1_to p_a1_yards p_a0_street 0 v_a0_set v_a0_yards u_a1_paid v_a1_count n_a2 f_a2 n_a0_far f_a0_far n_a1_from f_a1_from n_a1_to f_a1_to n_a1_yards f_a1_yards n_a0_street f_a0_street) iw_Way_find_10 tyX10_ok nmX10 rfl rfl (by decide) fl_15_Way_find rfl rfl rfl rfl (Nat.le_of_ble_eq_true rfl) rfl dX10_find_2 ?_
  refine j_aload_n C 0 dX10_find_5 rfl rfl ?_
  refine j_iconst C dX10_find_6 (v := 0) (by decide) ?_
  refine j_put C (ci := 9) 0 2 (Wd_Way_find g p_a0 p_a1 p_a2 p_a0_far p_a1_from p_a1_to p_a1_yards p_a0_street 0 0 v_a0_yards u_a1_paid v_a1_count n_a2 f_a2 n_a0_far f_a0_far n_a1_from f_a1_from n_a1_to f_a1_to n_a1_yards f_a1_yards n_a0_street f_a0_street) iw_Way_find_10 tyX10_ok nmX10 rfl rfl (by decide) fl_19_Way_find rfl rfl rfl rfl (Nat.le_of_ble_eq_true rfl) rfl dX10_find_7 ?_
  refine j_aload_n C 0 dX10_find_10 rfl rfl ?_
  refine j_aload_n C 1 dX10_find_11 rfl rfl ?_
  refine j_aload_n C 2 dX10_find_12 rfl rfl ?_
  refine j_iload C 4 dX10_find_13 rfl ?_
  obtain ⟨r1, hc2, hf⟩ := bnd hf
  refine j_cvV C (n := 3) (ci := 9) [.ref p_a1, .ref p_a2, .int x4] [0, 1, 2, 3, 4, 5, 6] [7] [1, 2, 3, 4, 5, 6, 7, 0] (Wd_Way_find g p_a0 p_a1 p_a2 p_a0_far p_a1_from p_a1_to p_a1_yards p_a0_street 0 0 v_a0_yards u_a1_paid v_a1_count n_a2 f_a2 n_a0_far r1 n_a1_from f_a1_from n_a1_to f_a1_to n_a1_yards f_a1_yards n_a0_street f_a0_street) (c_Way_measure E.2.1 g p_a0 p_a1 p_a2 p_a0_far p_a1_from p_a1_to p_a1_yards (.ref p_a0_street) 0 0 v_a0_yards u_a1_paid v_a1_count n_a2 f_a2 n_a0_far f_a0_far n_a1_from f_a1_from n_a1_to f_a1_to n_a1_yards f_a1_yards x4 hc2) gX10_find_X10_measure rfl rfl rfl (by decide +kernel) ⟨Nat.le_of_ble_eq_true rfl, Nat.le_of_ble_eq_true rfl⟩ rfl rfl (by decide) (by decide) (by decide) 0 rfl rfl (by decide) rfl rfl rfl (Nat.le_of_ble_eq_true rfl) ⟨Nat.zero_le _, Nat.zero_le _⟩ dX10_find_15 ?_
  refine j_aload_n C 0 dX10_find_18 rfl rfl ?_
  refine j_pc 19 rfl ?_
  refine j_aload_n C 0 dX10_find_19 rfl rfl ?_
  refine j_get C (ci := 9) 0 4 iw_Way_find_10 rfl rfl (by decide) fl_25_Way_find rfl rfl dX10_find_20 ?_
  refine j_iload_n C 3 dX10_find_23 rfl rfl ?_
  obtain ⟨hi3, hf⟩ := gix_some hf
  refine j_iald C 3 rfl hi3 dX10_find_24 ?_
  obtain ⟨z4, e_z4, hf⟩ := nmI_some hf
  refine j_nmi e_z4 ?_
  refine j_put C (ci := 9) 0 3 (Wd_Way_find g p_a0 p_a1 p_a2 p_a0_far p_a1_from p_a1_to p_a1_yards p_a0_street 0 0 z4 u_a1_paid v_a1_count n_a2 f_a2 n_a0_far r1 n_a1_from f_a1_from n_a1_to f_a1_to n_a1_yards f_a1_yards n_a0_street f_a0_street) iw_Way_find_10 tyX10_ok nmX10 rfl rfl (by decide) fl_22_Way_find rfl rfl rfl rfl (Nat.le_of_ble_eq_true rfl) rfl dX10_find_25 ?_
  refine j_aload_n C 0 dX10_find_28 rfl rfl ?_
  refine j_get C (ci := 9) 0 3 iw_Way_find_10 rfl rfl (by decide) fl_22_Way_find rfl rfl dX10_find_29 ?_
  refine j_ldc C (v := 1000000) kc_32_Way_find dX10_find_32 ?_
  refine j_icmp_ge C 46 dX10_find_34 (by decide) (fun c_5 => ?_) (fun c_5 => ?_)
  · replace hf := ifp c_5 hf
    obtain rfl := Option.some.inj hf
    exact j_vret C dX10_find_46 rfl
  · replace hf := ifn c_5 hf
    refine j_aload_n C 0 dX10_find_37 rfl rfl ?_
    refine j_aload_n C 1 dX10_find_38 rfl rfl ?_
    refine j_aload_n C 2 dX10_find_39 rfl rfl ?_
    refine j_pc 40 rfl ?_
    refine j_iload_n C 3 dX10_find_40 rfl rfl ?_
    refine j_iload C 4 dX10_find_41 rfl ?_
    obtain ⟨r6, hc7, hf⟩ := bnd hf
    refine j_cvV C (n := 4) (ci := 9) [.ref p_a1, .ref p_a2, .int x3, .int x4] [0, 1, 2, 7, 3, 6, 4, 5] [] [0, 1, 2, 4, 6, 7, 5, 3] (Wd_Way_find g p_a0 p_a1 p_a2 p_a0_far p_a1_from p_a1_to p_a1_yards p_a0_street r6.1 r6.2.1 z4 u_a1_paid v_a1_count n_a2 f_a2 n_a0_far r1 n_a1_from f_a1_from n_a1_to f_a1_to n_a1_yards f_a1_yards n_a0_street r6.2.2) (c_Way_walk E.2.1 g p_a0 p_a1 p_a2 p_a0_street p_a0_far p_a1_yards p_a1_from p_a1_to 0 0 z4 u_a1_paid v_a1_count n_a2 f_a2 n_a0_street f_a0_street n_a0_far r1 n_a1_yards f_a1_yards n_a1_from f_a1_from n_a1_to f_a1_to x3 x4 hc7) gX10_find_X10_walk rfl rfl rfl (by decide +kernel) ⟨Nat.le_of_ble_eq_true rfl, Nat.le_of_ble_eq_true rfl⟩ rfl rfl (by decide) (by decide) (by decide) 0 rfl rfl (by decide) rfl rfl rfl (Nat.le_of_ble_eq_true rfl) ⟨Nat.zero_le _, Nat.zero_le _⟩ dX10_find_43 ?_
    obtain rfl := Option.some.inj hf
    exact j_vret C dX10_find_46 rfl
abbrev rm_Trail_halfOf : Room := { frames := 0, cells := 0, slots := 0, locals := 0 }
def Wd_Trail_halfOf (g : Gd) (p_a0 : Nat) (p_a1 : Nat) (p_a1_shut : Nat) (u_a0_low : Value) (u_a0_high : Value) (v_a1_gone : Int32) (n_a1_shut : Nat) (f_a1_shut : Nat → Int32) : va_W := [(p_a0, .inr (8, [u_a0_low, u_a0_high])), (p_a1, .inr (0, [.int v_a1_gone, .ref p_a1_shut])), (p_a1_shut, .inl (g.2.1 0, n_a1_shut, .inl f_a1_shut))]
theorem iw_Trail_halfOf_1 : ∀ w ∈ wsX10, w ∈ wsX9_halfOf := fun w h => List.mem_cons_of_mem _ (List.mem_append_right _ h)
theorem fl_24_Trail_halfOf : Cond.fieldLink RX9 24 "ShutWays$Days" (TX1 1).2.1 (TX1 1).2.2.1 ∈ wsX9_halfOf := by decide +kernel
noncomputable def b_Trail_halfOf_5 (k_5 : Int32 → Int64 → Int32 → Nat → (Nat → Int32) → Option (Int64)) (x2 : Int32) (x3 : Int64) (x5 : Int32) (n_a1_shut : Nat) (f_a1_shut : Nat → Int32) : Option (Int64) := if (x2 + 6) ≤ x5 then some x3 else gix x5 n_a1_shut (nmL ((x3 <<< (((7 : Int32)).toInt64 &&& 63)) ||| (f_a1_shut x5.toNatClampNeg).toInt64) (fun z3 => k_5 x2 z3 (x5 + 1) n_a1_shut f_a1_shut))
noncomputable def f_Trail_halfOf_5 (n : Nat) : Int32 → Int64 → Int32 → Nat → (Nat → Int32) → Option (Int64) := Nat.rec (motive := fun _ => Int32 → Int64 → Int32 → Nat → (Nat → Int32) → Option (Int64)) (fun _ _ _ _ _ => none) (fun _ ih => b_Trail_halfOf_5 ih) n
set_option maxHeartbeats 4000000 in
set_option maxRecDepth 100000 in
theorem jb_Trail_halfOf_5 {E : Ev} {g : Gd} {A : Nat → Prop} (C : Cx E g A RX9 cX9_halfOf wsX9_halfOf 6 (some .long)) (p_a0 : Nat) (p_a1 : Nat) (p_a1_shut : Nat) (u_a0_low : Value) (u_a0_high : Value) (v_a1_gone : Int32) {ρ : Int64} {k_5 : Int32 → Int64 → Int32 → Nat → (Nat → Int32) → Option (Int64)} (hk_5 : ∀ (x2 : Int32) (x3 : Int64) (x5 : Int32) (n_a1_shut : Nat) (f_a1_shut : Nat → Int32), k_5 x2 x3 x5 n_a1_shut f_a1_shut = some ρ → J E rm_Trail_halfOf g A 6 (QL E g A ρ (Wd_Trail_halfOf g p_a0 p_a1 p_a1_shut u_a0_low u_a0_high v_a1_gone n_a1_shut f_a1_shut) 0 0) 0 0 (Wd_Trail_halfOf g p_a0 p_a1 p_a1_shut u_a0_low u_a0_high v_a1_gone n_a1_shut f_a1_shut) [(1, .ref p_a1), (2, .int x2), (3, .long x3), (5, .int x5)] 5 []) (x2 : Int32) (x3 : Int64) (x5 : Int32) (n_a1_shut : Nat) (f_a1_shut : Nat → Int32) (hf : b_Trail_halfOf_5 k_5 x2 x3 x5 n_a1_shut f_a1_shut = some ρ) : J E rm_Trail_halfOf g A 6 (QL E g A ρ (Wd_Trail_halfOf g p_a0 p_a1 p_a1_shut u_a0_low u_a0_high v_a1_gone n_a1_shut f_a1_shut) 0 0) 0 0 (Wd_Trail_halfOf g p_a0 p_a1 p_a1_shut u_a0_low u_a0_high v_a1_gone n_a1_shut f_a1_shut) [(1, .ref p_a1), (2, .int x2), (3, .long x3), (5, .int x5)] 5 [] := by
  unfold b_Trail_halfOf_5 at hf
  refine j_iload C 3 dX9_halfOf_5 rfl ?_
  refine j_iload_n C 1 dX9_halfOf_7 rfl rfl ?_
  refine j_bipush C dX9_halfOf_8 (v := 6) (by decide) ?_
  refine j_iadd C dX9_halfOf_10 ?_
  refine j_icmp_ge C 34 dX9_halfOf_11 (by decide) (fun c_1 => ?_) (fun c_1 => ?_)
  · replace hf := ifp c_1 hf
    refine j_lload_n C 2 dX9_halfOf_34 rfl rfl ?_
    obtain rfl := Option.some.inj hf
    exact j_lret C dX9_halfOf_35 rfl rfl
  · replace hf := ifn c_1 hf
    refine j_lload_n C 2 dX9_halfOf_14 rfl rfl ?_
    refine j_bipush C dX9_halfOf_15 (v := 7) (by decide) ?_
    refine j_lshl C dX9_halfOf_17 ?_
    refine j_aload_n C 0 dX9_halfOf_18 rfl rfl ?_
    refine j_get C (ci := 0) 1 1 iw_Trail_halfOf_1 rfl rfl (by decide) fl_24_Trail_halfOf rfl rfl dX9_halfOf_19 ?_
    refine j_iload C 3 dX9_halfOf_22 rfl ?_
    obtain ⟨hi2, hf⟩ := gix_some hf
    refine j_iald C 2 rfl hi2 dX9_halfOf_24 ?_
    refine j_pc 25 rfl ?_
    refine j_i2l C dX9_halfOf_25 ?_
    refine j_lor C dX9_halfOf_26 ?_
    obtain ⟨z3, e_z3, hf⟩ := nmL_some hf
    refine j_nml e_z3 ?_
    refine j_lstore_n C [(3, .long z3), (1, .ref p_a1), (2, .int x2), (5, .int x5)] dX9_halfOf_27 rfl (by decide) rfl ?_
    refine j_iinc C (v := (x5 + 1)) 3 [(5, .int (x5 + 1)), (3, .long z3), (1, .ref p_a1), (2, .int x2)] dX9_halfOf_28 rfl (by first | rfl | decide) (by decide) rfl ?_
    refine j_goto C 5 dX9_halfOf_31 (by decide) ?_
    refine j_lv [2, 3, 1, 0] rfl ?_
    exact hk_5 x2 z3 (x5 + 1) n_a1_shut f_a1_shut hf
set_option maxHeartbeats 4000000 in
set_option maxRecDepth 100000 in
theorem j_Trail_halfOf_5 {E : Ev} {g : Gd} {A : Nat → Prop} (C : Cx E g A RX9 cX9_halfOf wsX9_halfOf 6 (some .long)) (p_a0 : Nat) (p_a1 : Nat) (p_a1_shut : Nat) (u_a0_low : Value) (u_a0_high : Value) (v_a1_gone : Int32) {ρ : Int64} : ∀ (n : Nat) (x2 : Int32) (x3 : Int64) (x5 : Int32) (n_a1_shut : Nat) (f_a1_shut : Nat → Int32), f_Trail_halfOf_5 n x2 x3 x5 n_a1_shut f_a1_shut = some ρ → J E rm_Trail_halfOf g A 6 (QL E g A ρ (Wd_Trail_halfOf g p_a0 p_a1 p_a1_shut u_a0_low u_a0_high v_a1_gone n_a1_shut f_a1_shut) 0 0) 0 0 (Wd_Trail_halfOf g p_a0 p_a1 p_a1_shut u_a0_low u_a0_high v_a1_gone n_a1_shut f_a1_shut) [(1, .ref p_a1), (2, .int x2), (3, .long x3), (5, .int x5)] 5 [] := by
  intro n
  induction n with
  | zero => intro x2 x3 x5 n_a1_shut f_a1_shut h; have h0 : (none : Option (Int64)) = some ρ := h; cases h0
  | succ n ih => intro x2 x3 x5 n_a1_shut f_a1_shut h; exact jb_Trail_halfOf_5 C p_a0 p_a1 p_a1_shut u_a0_low u_a0_high v_a1_gone ih x2 x3 x5 n_a1_shut f_a1_shut h
noncomputable def f_Trail_halfOf (x2 : Int32) (n_a1_shut : Nat) (f_a1_shut : Nat → Int32) : Option (Int64) := f_Trail_halfOf_5 FU x2 0 x2 n_a1_shut f_a1_shut
set_option maxHeartbeats 4000000 in
set_option maxRecDepth 100000 in
theorem c_Trail_halfOf (l : Launch) (g : Gd) (p_a0 : Nat) (p_a1 : Nat) (p_a1_shut : Nat) (u_a0_low : Value) (u_a0_high : Value) (v_a1_gone : Int32) (n_a1_shut : Nat) (f_a1_shut : Nat → Int32) (x2 : Int32) {ρ : Int64} (hf : f_Trail_halfOf x2 n_a1_shut f_a1_shut = some ρ) : CtL l g yX9_halfOf wsX9_halfOf rm_Trail_halfOf [.ref p_a0, .ref p_a1, .int x2] (Wd_Trail_halfOf g p_a0 p_a1 p_a1_shut u_a0_low u_a0_high v_a1_gone n_a1_shut f_a1_shut) ρ (Wd_Trail_halfOf g p_a0 p_a1 p_a1_shut u_a0_low u_a0_high v_a1_gone n_a1_shut f_a1_shut) := by
  refine CtL.of (by decide) rfl rfl (Nat.le_of_ble_eq_true rfl) (fun E A _ C => ?_)
  unfold f_Trail_halfOf at hf
  show J E rm_Trail_halfOf g A 6 (QL E g A ρ (Wd_Trail_halfOf g p_a0 p_a1 p_a1_shut u_a0_low u_a0_high v_a1_gone n_a1_shut f_a1_shut) 0 0) 0 0 (Wd_Trail_halfOf g p_a0 p_a1 p_a1_shut u_a0_low u_a0_high v_a1_gone n_a1_shut f_a1_shut) [(0, .ref p_a0), (1, .ref p_a1), (2, .int x2)] 0 []
  refine j_lconst C dX9_halfOf_0 (v := 0) (by decide) ?_
  refine j_lstore_n C [(3, .long 0), (0, .ref p_a0), (1, .ref p_a1), (2, .int x2)] dX9_halfOf_1 rfl (by decide) rfl ?_
  refine j_iload_n C 3 dX9_halfOf_2 rfl rfl ?_
  refine j_istore C [(5, .int x2), (3, .long 0), (0, .ref p_a0), (1, .ref p_a1), (2, .int x2)] dX9_halfOf_3 (by decide) rfl ?_
  refine j_lv [3, 4, 1, 0] rfl ?_
  exact j_Trail_halfOf_5 C p_a0 p_a1 p_a1_shut u_a0_low u_a0_high v_a1_gone FU x2 0 x2 n_a1_shut f_a1_shut hf
abbrev rm_Trail_put : Room := { frames := 1, cells := 0, slots := 0, locals := 25 }
def Wd_Trail_put (g : Gd) (p_a0 : Nat) (p_a2 : Nat) (p_a0_low : Nat) (p_a2_shut : Nat) (p_a0_high : Nat) (v_a2_gone : Int32) (n_a0_low : Nat) (f_a0_low : Nat → Int64) (n_a2_shut : Nat) (f_a2_shut : Nat → Int32) (n_a0_high : Nat) (f_a0_high : Nat → Int64) : va_W := [(p_a0, .inr (8, [.ref p_a0_low, .ref p_a0_high])), (p_a2, .inr (0, [.int v_a2_gone, .ref p_a2_shut])), (p_a0_low, .inl (g.2.1 1, n_a0_low, .inr (.inl f_a0_low))), (p_a2_shut, .inl (g.2.1 0, n_a2_shut, .inl f_a2_shut)), (p_a0_high, .inl (g.2.1 1, n_a0_high, .inr (.inl f_a0_high)))]
theorem iw_Trail_put_9 : ∀ w ∈ wsX90, w ∈ wsX9_put := fun w h => List.mem_cons_of_mem _ (List.mem_append_left _ (List.mem_append_right _ h))
theorem fl_9_Trail_put : Cond.fieldLink RX9 9 "ShutWays$Trail" (TX9 0).2.1 (TX9 0).2.2.1 ∈ wsX9_put := by decide +kernel
theorem kc_22_Trail_put : Cond.constantLong RX9 22 2 ∈ wsX9_put := by decide +kernel
theorem fl_15_Trail_put : Cond.fieldLink RX9 15 "ShutWays$Trail" (TX9 1).2.1 (TX9 1).2.2.1 ∈ wsX9_put := by decide +kernel
noncomputable def f_Trail_put (x1 : Int32) (x3 : Int32) (n_a0_low : Nat) (f_a0_low : Nat → Int64) (n_a2_shut : Nat) (f_a2_shut : Nat → Int32) (n_a0_high : Nat) (f_a0_high : Nat → Int64) : Option ((Nat → Int64) × (Nat → Int64)) := if x1 < 0 then some (f_a0_low, f_a0_high) else if x1 < (nI n_a0_low) then (f_Trail_halfOf 0 n_a2_shut f_a2_shut).bind (fun r3 => nmL ((r3 * 2) + x3.toInt64) (fun z5 => gix x1 n_a0_low ((f_Trail_halfOf 6 n_a2_shut f_a2_shut).bind (fun r7 => gix x1 n_a0_high (some ((vp_updL f_a0_low x1.toNatClampNeg z5), (vp_updL f_a0_high x1.toNatClampNeg r7))))))) else some (f_a0_low, f_a0_high)
set_option maxHeartbeats 4000000 in
set_option maxRecDepth 100000 in
theorem c_Trail_put (l : Launch) (g : Gd) (p_a0 : Nat) (p_a2 : Nat) (p_a0_low : Nat) (p_a2_shut : Nat) (p_a0_high : Nat) (v_a2_gone : Int32) (n_a0_low : Nat) (f_a0_low : Nat → Int64) (n_a2_shut : Nat) (f_a2_shut : Nat → Int32) (n_a0_high : Nat) (f_a0_high : Nat → Int64) (x1 : Int32) (x3 : Int32) {ρ : (Nat → Int64) × (Nat → Int64)} (hf : f_Trail_put x1 x3 n_a0_low f_a0_low n_a2_shut f_a2_shut n_a0_high f_a0_high = some ρ) : CtV l g yX9_put wsX9_put rm_Trail_put [.ref p_a0, .int x1, .ref p_a2, .int x3] (Wd_Trail_put g p_a0 p_a2 p_a0_low p_a2_shut p_a0_high v_a2_gone n_a0_low f_a0_low n_a2_shut f_a2_shut n_a0_high f_a0_high) (Wd_Trail_put g p_a0 p_a2 p_a0_low p_a2_shut p_a0_high v_a2_gone n_a0_low ρ.1 n_a2_shut f_a2_shut n_a0_high ρ.2) := by
  refine CtV.of (by decide) rfl rfl (Nat.le_of_ble_eq_true rfl) (fun E A _ C => ?_)
  unfold f_Trail_put at hf
  show J E rm_Trail_put g A 4 (QV E g A (Wd_Trail_put g p_a0 p_a2 p_a0_low p_a2_shut p_a0_high v_a2_gone n_a0_low ρ.1 n_a2_shut f_a2_shut n_a0_high ρ.2) 0 0) 0 0 (Wd_Trail_put g p_a0 p_a2 p_a0_low p_a2_shut p_a0_high v_a2_gone n_a0_low f_a0_low n_a2_shut f_a2_shut n_a0_high f_a0_high) [(0, .ref p_a0), (1, .int x1), (2, .ref p_a2), (3, .int x3)] 0 []
  refine j_iload_n C 1 dX9_put_0 rfl rfl ?_
  refine j_if_lt C 13 dX9_put_1 (by decide) (fun c_1 => ?_) (fun c_1 => ?_)
  · replace hf := ifp c_1 hf
    obtain rfl := Option.some.inj hf
    exact j_vret C dX9_put_13 rfl
  · replace hf := ifn c_1 hf
    refine j_iload_n C 1 dX9_put_4 rfl rfl ?_
    refine j_aload_n C 0 dX9_put_5 rfl rfl ?_
    refine j_get C (ci := 8) 0 0 iw_Trail_put_9 rfl rfl (by decide) fl_9_Trail_put rfl rfl dX9_put_6 ?_
    refine j_alen C (t := 1) 2 rfl rfl dX9_put_9 ?_
    refine j_icmp_lt C 14 dX9_put_10 (by decide) (fun c_2 => ?_) (fun c_2 => ?_)
    · replace hf := ifp c_2 hf
      refine j_aload_n C 0 dX9_put_14 rfl rfl ?_
      refine j_get C (ci := 8) 0 0 iw_Trail_put_9 rfl rfl (by decide) fl_9_Trail_put rfl rfl dX9_put_15 ?_
      refine j_iload_n C 1 dX9_put_18 rfl rfl ?_
      refine j_aload_n C 0 dX9_put_19 rfl rfl ?_
      refine j_aload_n C 2 dX9_put_20 rfl rfl ?_
      refine j_pc 21 rfl ?_
      refine j_iconst C dX9_put_21 (v := 0) (by decide) ?_
      obtain ⟨r3, hc4, hf⟩ := bnd hf
      refine j_cvL C (n := 2) (ci := 8) [.ref p_a2, .int 0] [0, 1, 3] [2, 4] [2, 3, 0, 4, 1] (Wd_Trail_put g p_a0 p_a2 p_a0_low p_a2_shut p_a0_high v_a2_gone n_a0_low f_a0_low n_a2_shut f_a2_shut n_a0_high f_a0_high) (c_Trail_halfOf E.2.1 g p_a0 p_a2 p_a2_shut (.ref p_a0_low) (.ref p_a0_high) v_a2_gone n_a2_shut f_a2_shut 0 hc4) gX9_put_X9_halfOf rfl rfl rfl (by decide +kernel) ⟨Nat.le_of_ble_eq_true rfl, Nat.le_of_ble_eq_true rfl⟩ rfl rfl (by decide) (by decide) (by decide) 0 rfl rfl (by decide) rfl rfl rfl (Nat.le_of_ble_eq_true rfl) ⟨Nat.zero_le _, Nat.zero_le _⟩ dX9_put_22 ?_
      refine j_ldc2 C (v := 2) kc_22_Trail_put dX9_put_25 ?_
      refine j_lmul C dX9_put_28 ?_
      refine j_iload_n C 3 dX9_put_29 rfl rfl ?_
      refine j_i2l C dX9_put_30 ?_
      refine j_ladd C dX9_put_31 ?_
      obtain ⟨z5, e_z5, hf⟩ := nmL_some hf
      refine j_nml e_z5 ?_
      obtain ⟨hi6, hf⟩ := gix_some hf
      refine j_last C 2 (Wd_Trail_put g p_a0 p_a2 p_a0_low p_a2_shut p_a0_high v_a2_gone n_a0_low (vp_updL f_a0_low x1.toNatClampNeg z5) n_a2_shut f_a2_shut n_a0_high f_a0_high) rfl hi6 rfl dX9_put_32 ?_
      refine j_aload_n C 0 dX9_put_33 rfl rfl ?_
      refine j_get C (ci := 8) 0 1 iw_Trail_put_9 rfl rfl (by decide) fl_15_Trail_put rfl rfl dX9_put_34 ?_
      refine j_iload_n C 1 dX9_put_37 rfl rfl ?_
      refine j_aload_n C 0 dX9_put_38 rfl rfl ?_
      refine j_pc 39 rfl ?_
      refine j_aload_n C 2 dX9_put_39 rfl rfl ?_
      refine j_bipush C dX9_put_40 (v := 6) (by decide) ?_
      obtain ⟨r7, hc8, hf⟩ := bnd hf
      refine j_cvL C (n := 2) (ci := 8) [.ref p_a2, .int 6] [0, 1, 3] [2, 4] [2, 3, 0, 4, 1] (Wd_Trail_put g p_a0 p_a2 p_a0_low p_a2_shut p_a0_high v_a2_gone n_a0_low (vp_updL f_a0_low x1.toNatClampNeg z5) n_a2_shut f_a2_shut n_a0_high f_a0_high) (c_Trail_halfOf E.2.1 g p_a0 p_a2 p_a2_shut (.ref p_a0_low) (.ref p_a0_high) v_a2_gone n_a2_shut f_a2_shut 6 hc8) gX9_put_X9_halfOf rfl rfl rfl (by decide +kernel) ⟨Nat.le_of_ble_eq_true rfl, Nat.le_of_ble_eq_true rfl⟩ rfl rfl (by decide) (by decide) (by decide) 0 rfl rfl (by decide) rfl rfl rfl (Nat.le_of_ble_eq_true rfl) ⟨Nat.zero_le _, Nat.zero_le _⟩ dX9_put_42 ?_
      obtain ⟨hi9, hf⟩ := gix_some hf
      refine j_last C 4 (Wd_Trail_put g p_a0 p_a2 p_a0_low p_a2_shut p_a0_high v_a2_gone n_a0_low (vp_updL f_a0_low x1.toNatClampNeg z5) n_a2_shut f_a2_shut n_a0_high (vp_updL f_a0_high x1.toNatClampNeg r7)) rfl hi9 rfl dX9_put_45 ?_
      obtain rfl := Option.some.inj hf
      exact j_vret C dX9_put_46 rfl
    · replace hf := ifn c_2 hf
      obtain rfl := Option.some.inj hf
      exact j_vret C dX9_put_13 rfl
abbrev rm_Trail_firstLike : Room := { frames := 0, cells := 0, slots := 0, locals := 0 }
def Wd_Trail_firstLike (g : Gd) (p_a0 : Nat) (p_a0_low : Nat) (p_a0_high : Nat) (n_a0_low : Nat) (f_a0_low : Nat → Int64) (n_a0_high : Nat) (f_a0_high : Nat → Int64) : va_W := [(p_a0, .inr (8, [.ref p_a0_low, .ref p_a0_high])), (p_a0_low, .inl (g.2.1 1, n_a0_low, .inr (.inl f_a0_low))), (p_a0_high, .inl (g.2.1 1, n_a0_high, .inr (.inl f_a0_high)))]
theorem iw_Trail_firstLike_9 : ∀ w ∈ wsX90, w ∈ wsX9_firstLike := fun w h => List.mem_cons_of_mem _ (List.mem_append_right _ h)
theorem fl_9_Trail_firstLike : Cond.fieldLink RX9 9 "ShutWays$Trail" (TX9 0).2.1 (TX9 0).2.2.1 ∈ wsX9_firstLike := by decide +kernel
theorem fl_15_Trail_firstLike : Cond.fieldLink RX9 15 "ShutWays$Trail" (TX9 1).2.1 (TX9 1).2.2.1 ∈ wsX9_firstLike := by decide +kernel
noncomputable def f_Trail_firstLike_50 (k_2 : Int32 → Int32 → Nat → (Nat → Int64) → Nat → (Nat → Int64) → Option (Int32)) (x1 : Int32) (x2 : Int32) (n_a0_low : Nat) (f_a0_low : Nat → Int64) (n_a0_high : Nat) (f_a0_high : Nat → Int64) : Option (Int32) := k_2 x1 (x2 + 1) n_a0_low f_a0_low n_a0_high f_a0_high
set_option maxHeartbeats 4000000 in
set_option maxRecDepth 100000 in
theorem j_Trail_firstLike_50 {E : Ev} {g : Gd} {A : Nat → Prop} (C : Cx E g A RX9 cX9_firstLike wsX9_firstLike 3 (some .int)) (p_a0 : Nat) (p_a0_low : Nat) (p_a0_high : Nat) {ρ : Int32} {k_2 : Int32 → Int32 → Nat → (Nat → Int64) → Nat → (Nat → Int64) → Option (Int32)} (hk_2 : ∀ (x1 : Int32) (x2 : Int32) (n_a0_low : Nat) (f_a0_low : Nat → Int64) (n_a0_high : Nat) (f_a0_high : Nat → Int64), k_2 x1 x2 n_a0_low f_a0_low n_a0_high f_a0_high = some ρ → J E rm_Trail_firstLike g A 3 (QI E g A ρ (Wd_Trail_firstLike g p_a0 p_a0_low p_a0_high n_a0_low f_a0_low n_a0_high f_a0_high) 0 0) 0 0 (Wd_Trail_firstLike g p_a0 p_a0_low p_a0_high n_a0_low f_a0_low n_a0_high f_a0_high) [(0, .ref p_a0), (1, .int x1), (2, .int x2)] 2 []) (x1 : Int32) (x2 : Int32) (n_a0_low : Nat) (f_a0_low : Nat → Int64) (n_a0_high : Nat) (f_a0_high : Nat → Int64) (hf : f_Trail_firstLike_50 k_2 x1 x2 n_a0_low f_a0_low n_a0_high f_a0_high = some ρ) : J E rm_Trail_firstLike g A 3 (QI E g A ρ (Wd_Trail_firstLike g p_a0 p_a0_low p_a0_high n_a0_low f_a0_low n_a0_high f_a0_high) 0 0) 0 0 (Wd_Trail_firstLike g p_a0 p_a0_low p_a0_high n_a0_low f_a0_low n_a0_high f_a0_high) [(0, .ref p_a0), (1, .int x1), (2, .int x2)] 50 [] := by
  unfold f_Trail_firstLike_50 at hf
  refine j_iinc C (v := (x2 + 1)) 2 [(2, .int (x2 + 1)), (0, .ref p_a0), (1, .int x1)] dX9_firstLike_50 rfl (by first | rfl | decide) (by decide) rfl ?_
  refine j_goto C 2 dX9_firstLike_53 (by decide) ?_
  refine j_lv [1, 2, 0] rfl ?_
  exact hk_2 x1 (x2 + 1) n_a0_low f_a0_low n_a0_high f_a0_high hf
noncomputable def f_Trail_firstLike_56 (x1 : Int32) (n_a0_low : Nat) (f_a0_low : Nat → Int64) (n_a0_high : Nat) (f_a0_high : Nat → Int64) : Option (Int32) := some x1
set_option maxHeartbeats 4000000 in
set_option maxRecDepth 100000 in
theorem j_Trail_firstLike_56 {E : Ev} {g : Gd} {A : Nat → Prop} (C : Cx E g A RX9 cX9_firstLike wsX9_firstLike 3 (some .int)) (p_a0 : Nat) (p_a0_low : Nat) (p_a0_high : Nat) {ρ : Int32} (x1 : Int32) (n_a0_low : Nat) (f_a0_low : Nat → Int64) (n_a0_high : Nat) (f_a0_high : Nat → Int64) (hf : f_Trail_firstLike_56 x1 n_a0_low f_a0_low n_a0_high f_a0_high = some ρ) : J E rm_Trail_firstLike g A 3 (QI E g A ρ (Wd_Trail_firstLike g p_a0 p_a0_low p_a0_high n_a0_low f_a0_low n_a0_high f_a0_high) 0 0) 0 0 (Wd_Trail_firstLike g p_a0 p_a0_low p_a0_high n_a0_low f_a0_low n_a0_high f_a0_high) [(1, .int x1)] 56 [] := by
  unfold f_Trail_firstLike_56 at hf
  refine j_iload_n C 0 dX9_firstLike_56 rfl rfl ?_
  obtain rfl := Option.some.inj hf
  exact j_iret C dX9_firstLike_57 rfl rfl
noncomputable def b_Trail_firstLike_2 (k_2 : Int32 → Int32 → Nat → (Nat → Int64) → Nat → (Nat → Int64) → Option (Int32)) (x1 : Int32) (x2 : Int32) (n_a0_low : Nat) (f_a0_low : Nat → Int64) (n_a0_high : Nat) (f_a0_high : Nat → Int64) : Option (Int32) := if x1 ≤ x2 then f_Trail_firstLike_56 x1 n_a0_low f_a0_low n_a0_high f_a0_high else if (nI n_a0_low) ≤ x1 then f_Trail_firstLike_56 x1 n_a0_low f_a0_low n_a0_high f_a0_high else gix x2 n_a0_low (gix x1 n_a0_low (if (lg_cmp (f_a0_low x2.toNatClampNeg) (f_a0_low x1.toNatClampNeg)) = 0 then gix x2 n_a0_high (gix x1 n_a0_high (if (lg_cmp (f_a0_high x2.toNatClampNeg) (f_a0_high x1.toNatClampNeg)) = 0 then some x2 else f_Trail_firstLike_50 k_2 x1 x2 n_a0_low f_a0_low n_a0_high f_a0_high)) else f_Trail_firstLike_50 k_2 x1 x2 n_a0_low f_a0_low n_a0_high f_a0_high))
noncomputable def f_Trail_firstLike_2 (n : Nat) : Int32 → Int32 → Nat → (Nat → Int64) → Nat → (Nat → Int64) → Option (Int32) := Nat.rec (motive := fun _ => Int32 → Int32 → Nat → (Nat → Int64) → Nat → (Nat → Int64) → Option (Int32)) (fun _ _ _ _ _ _ => none) (fun _ ih => b_Trail_firstLike_2 ih) n
set_option maxHeartbeats 4000000 in
set_option maxRecDepth 100000 in
theorem jb_Trail_firstLike_2 {E : Ev} {g : Gd} {A : Nat → Prop} (C : Cx E g A RX9 cX9_firstLike wsX9_firstLike 3 (some .int)) (p_a0 : Nat) (p_a0_low : Nat) (p_a0_high : Nat) {ρ : Int32} {k_2 : Int32 → Int32 → Nat → (Nat → Int64) → Nat → (Nat → Int64) → Option (Int32)} (hk_2 : ∀ (x1 : Int32) (x2 : Int32) (n_a0_low : Nat) (f_a0_low : Nat → Int64) (n_a0_high : Nat) (f_a0_high : Nat → Int64), k_2 x1 x2 n_a0_low f_a0_low n_a0_high f_a0_high = some ρ → J E rm_Trail_firstLike g A 3 (QI E g A ρ (Wd_Trail_firstLike g p_a0 p_a0_low p_a0_high n_a0_low f_a0_low n_a0_high f_a0_high) 0 0) 0 0 (Wd_Trail_firstLike g p_a0 p_a0_low p_a0_high n_a0_low f_a0_low n_a0_high f_a0_high) [(0, .ref p_a0), (1, .int x1), (2, .int x2)] 2 []) (x1 : Int32) (x2 : Int32) (n_a0_low : Nat) (f_a0_low : Nat → Int64) (n_a0_high : Nat) (f_a0_high : Nat → Int64) (hf : b_Trail_firstLike_2 k_2 x1 x2 n_a0_low f_a0_low n_a0_high f_a0_high = some ρ) : J E rm_Trail_firstLike g A 3 (QI E g A ρ (Wd_Trail_firstLike g p_a0 p_a0_low p_a0_high n_a0_low f_a0_low n_a0_high f_a0_high) 0 0) 0 0 (Wd_Trail_firstLike g p_a0 p_a0_low p_a0_high n_a0_low f_a0_low n_a0_high f_a0_high) [(0, .ref p_a0), (1, .int x1), (2, .int x2)] 2 [] := by
  unfold b_Trail_firstLike_2 at hf
  refine j_iload_n C 2 dX9_firstLike_2 rfl rfl ?_
  refine j_iload_n C 1 dX9_firstLike_3 rfl rfl ?_
  refine j_icmp_ge C 56 dX9_firstLike_4 (by decide) (fun c_1 => ?_) (fun c_1 => ?_)
  · replace hf := ifp c_1 hf
    refine j_lv [1] rfl ?_
    exact j_Trail_firstLike_56 C p_a0 p_a0_low p_a0_high x1 n_a0_low f_a0_low n_a0_high f_a0_high hf
  · replace hf := ifn c_1 hf
    refine j_iload_n C 1 dX9_firstLike_7 rfl rfl ?_
    refine j_aload_n C 0 dX9_firstLike_8 rfl rfl ?_
    refine j_get C (ci := 8) 0 0 iw_Trail_firstLike_9 rfl rfl (by decide) fl_9_Trail_firstLike rfl rfl dX9_firstLike_9 ?_
    refine j_alen C (t := 1) 1 rfl rfl dX9_firstLike_12 ?_
    refine j_icmp_ge C 56 dX9_firstLike_13 (by decide) (fun c_2 => ?_) (fun c_2 => ?_)
    · replace hf := ifp c_2 hf
      refine j_lv [1] rfl ?_
      exact j_Trail_firstLike_56 C p_a0 p_a0_low p_a0_high x1 n_a0_low f_a0_low n_a0_high f_a0_high hf
    · replace hf := ifn c_2 hf
      refine j_aload_n C 0 dX9_firstLike_16 rfl rfl ?_
      refine j_get C (ci := 8) 0 0 iw_Trail_firstLike_9 rfl rfl (by decide) fl_9_Trail_firstLike rfl rfl dX9_firstLike_17 ?_
      refine j_iload_n C 2 dX9_firstLike_20 rfl rfl ?_
      obtain ⟨hi3, hf⟩ := gix_some hf
      refine j_lald C 1 rfl hi3 dX9_firstLike_21 ?_
      refine j_pc 22 rfl ?_
      refine j_aload_n C 0 dX9_firstLike_22 rfl rfl ?_
      refine j_get C (ci := 8) 0 0 iw_Trail_firstLike_9 rfl rfl (by decide) fl_9_Trail_firstLike rfl rfl dX9_firstLike_23 ?_
      refine j_iload_n C 1 dX9_firstLike_26 rfl rfl ?_
      obtain ⟨hi4, hf⟩ := gix_some hf
      refine j_lald C 1 rfl hi4 dX9_firstLike_27 ?_
      refine j_lcmp C dX9_firstLike_28 ?_
      refine j_if_ne C 50 dX9_firstLike_29 (by decide) (fun c_5 => ?_) (fun c_5 => ?_)
      · replace hf := ifn c_5 hf
        exact j_Trail_firstLike_50 C p_a0 p_a0_low p_a0_high hk_2 x1 x2 n_a0_low f_a0_low n_a0_high f_a0_high hf
      · replace hf := ifp c_5 hf
        refine j_aload_n C 0 dX9_firstLike_32 rfl rfl ?_
        refine j_get C (ci := 8) 0 1 iw_Trail_firstLike_9 rfl rfl (by decide) fl_15_Trail_firstLike rfl rfl dX9_firstLike_33 ?_
        refine j_iload_n C 2 dX9_firstLike_36 rfl rfl ?_
        obtain ⟨hi6, hf⟩ := gix_some hf
        refine j_lald C 2 rfl hi6 dX9_firstLike_37 ?_
        refine j_aload_n C 0 dX9_firstLike_38 rfl rfl ?_
        refine j_get C (ci := 8) 0 1 iw_Trail_firstLike_9 rfl rfl (by decide) fl_15_Trail_firstLike rfl rfl dX9_firstLike_39 ?_
        refine j_iload_n C 1 dX9_firstLike_42 rfl rfl ?_
        obtain ⟨hi7, hf⟩ := gix_some hf
        refine j_lald C 2 rfl hi7 dX9_firstLike_43 ?_
        refine j_lcmp C dX9_firstLike_44 ?_
        refine j_if_ne C 50 dX9_firstLike_45 (by decide) (fun c_8 => ?_) (fun c_8 => ?_)
        · replace hf := ifn c_8 hf
          exact j_Trail_firstLike_50 C p_a0 p_a0_low p_a0_high hk_2 x1 x2 n_a0_low f_a0_low n_a0_high f_a0_high hf
        · replace hf := ifp c_8 hf
          refine j_iload_n C 2 dX9_firstLike_48 rfl rfl ?_
          obtain rfl := Option.some.inj hf
          exact j_iret C dX9_firstLike_49 rfl rfl
set_option maxHeartbeats 4000000 in
set_option maxRecDepth 100000 in
theorem j_Trail_firstLike_2 {E : Ev} {g : Gd} {A : Nat → Prop} (C : Cx E g A RX9 cX9_firstLike wsX9_firstLike 3 (some .int)) (p_a0 : Nat) (p_a0_low : Nat) (p_a0_high : Nat) {ρ : Int32} : ∀ (n : Nat) (x1 : Int32) (x2 : Int32) (n_a0_low : Nat) (f_a0_low : Nat → Int64) (n_a0_high : Nat) (f_a0_high : Nat → Int64), f_Trail_firstLike_2 n x1 x2 n_a0_low f_a0_low n_a0_high f_a0_high = some ρ → J E rm_Trail_firstLike g A 3 (QI E g A ρ (Wd_Trail_firstLike g p_a0 p_a0_low p_a0_high n_a0_low f_a0_low n_a0_high f_a0_high) 0 0) 0 0 (Wd_Trail_firstLike g p_a0 p_a0_low p_a0_high n_a0_low f_a0_low n_a0_high f_a0_high) [(0, .ref p_a0), (1, .int x1), (2, .int x2)] 2 [] := by
  intro n
  induction n with
  | zero => intro x1 x2 n_a0_low f_a0_low n_a0_high f_a0_high h; have h0 : (none : Option (Int32)) = some ρ := h; cases h0
  | succ n ih => intro x1 x2 n_a0_low f_a0_low n_a0_high f_a0_high h; exact jb_Trail_firstLike_2 C p_a0 p_a0_low p_a0_high ih x1 x2 n_a0_low f_a0_low n_a0_high f_a0_high h
noncomputable def f_Trail_firstLike (x1 : Int32) (n_a0_low : Nat) (f_a0_low : Nat → Int64) (n_a0_high : Nat) (f_a0_high : Nat → Int64) : Option (Int32) := f_Trail_firstLike_2 FU x1 0 n_a0_low f_a0_low n_a0_high f_a0_high
set_option maxHeartbeats 4000000 in
set_option maxRecDepth 100000 in
theorem c_Trail_firstLike (l : Launch) (g : Gd) (p_a0 : Nat) (p_a0_low : Nat) (p_a0_high : Nat) (n_a0_low : Nat) (f_a0_low : Nat → Int64) (n_a0_high : Nat) (f_a0_high : Nat → Int64) (x1 : Int32) {ρ : Int32} (hf : f_Trail_firstLike x1 n_a0_low f_a0_low n_a0_high f_a0_high = some ρ) : CtI l g yX9_firstLike wsX9_firstLike rm_Trail_firstLike [.ref p_a0, .int x1] (Wd_Trail_firstLike g p_a0 p_a0_low p_a0_high n_a0_low f_a0_low n_a0_high f_a0_high) ρ (Wd_Trail_firstLike g p_a0 p_a0_low p_a0_high n_a0_low f_a0_low n_a0_high f_a0_high) := by
  refine CtI.of (by decide) rfl rfl (Nat.le_of_ble_eq_true rfl) (fun E A _ C => ?_)
  unfold f_Trail_firstLike at hf
  show J E rm_Trail_firstLike g A 3 (QI E g A ρ (Wd_Trail_firstLike g p_a0 p_a0_low p_a0_high n_a0_low f_a0_low n_a0_high f_a0_high) 0 0) 0 0 (Wd_Trail_firstLike g p_a0 p_a0_low p_a0_high n_a0_low f_a0_low n_a0_high f_a0_high) [(0, .ref p_a0), (1, .int x1)] 0 []
  refine j_iconst C dX9_firstLike_0 (v := 0) (by decide) ?_
  refine j_istore_n C [(2, .int 0), (0, .ref p_a0), (1, .int x1)] dX9_firstLike_1 rfl (by decide) rfl ?_
  refine j_lv [1, 2, 0] rfl ?_
  exact j_Trail_firstLike_2 C p_a0 p_a0_low p_a0_high FU x1 0 n_a0_low f_a0_low n_a0_high f_a0_high hf
