set_option maxRecDepth 20000 in
theorem sx7 : ∀ i, i < 11 → Cond.stringRef "ShutWays$Text" (sxI.getD i (0, "")).1 (sxI.getD i (0, "")).2 ∈ tables_1 := by decide +kernel
set_option maxRecDepth 20000 in
theorem sx8 : ∀ q ∈ sxY, Cond.castable q.1 q.2 ∈ tables_1 := by decide +kernel
set_option maxRecDepth 20000 in
theorem sx9 : ∀ q ∈ sxN, Cond.not (Cond.castable q.1 q.2) ∈ flN := by decide +kernel
set_option maxRecDepth 20000 in
theorem sx10 : Cond.declares sxP ∈ tables_1 := by decide +kernel
set_option maxRecDepth 20000 in
theorem sx11 : ∀ q ∈ sxM, Cond.methodLinkNest q.1 q.2.1 q.2.2.1 q.2.2.2 ∈ tables_1 := by decide +kernel
set_option maxRecDepth 20000 in
theorem sx12 : Cond.arrayOver (.object "ShutWays$Council") ∈ tables_1 ∧ Cond.arrayOver (.object "ShutWays$Days") ∈ tables_1 ∧ Cond.arrayClass .int ∈ tables_1 ∧ Cond.arrayClass .long ∈ tables_1 ∧ Cond.arrayClass .boolean ∈ tables_1 := by decide +kernel
set_option maxRecDepth 20000 in
theorem sx13 : Cond.laysStatic "java/lang/String" "COMPACT_STRINGS" "Z" ∈ tables_1 ∧ Cond.initialized "java/lang/String" ∈ tables_1 ∧ Cond.eq (.static "java/lang/String" "COMPACT_STRINGS" "Z") (.int 1) ∈ flN ∧ Cond.laysStatic "jdk/internal/util/Preconditions" "SIOOBE_FORMATTER" "Ljava/util/function/BiFunction;" ∈ tables_1 ∧ Cond.initialized "jdk/internal/util/Preconditions" ∈ tables_1 ∧ Cond.isRef (.static "jdk/internal/util/Preconditions" "SIOOBE_FORMATTER" "Ljava/util/function/BiFunction;") ∈ flN := by decide +kernel
theorem SX_start {args : Array Value} {s : State} (hal : ∀ w ∈ tables_1, w.before args s = true) (hall : ∀ w ∈ flN, w.before args s = true) (D : va_G) (cy : Nat → ClassId) : ∃ adK adV : Nat → Nat, SX (D, cy, adK, adV) (fun q => s.heap.size ≤ q) s s.heap := by
  have hA : ∀ a : Nat, a < s.heap.size → ¬ (fun q => s.heap.size ≤ q) a := fun a h => Nat.not_le.mpr h
  obtain ⟨adK, adV, hvS, hvE⟩ := vk_Sof (args := args) (s := s) (N := 11) (tm := tmS) (len := lenS) (byt := bytS) (A := fun q => s.heap.size ≤ q) (by decide) (fun i hi => hall _ (sx1 i hi)) (fun i hi => hall _ (sx2 i hi)) (fun i hi => hall _ (sx3 i hi)) (fun i hi => hall _ (sx4 i hi)) (fun i hi j hj => hall _ (sx5 i hi j hj)) (fun i j hi hj hij => (sx6 i hi j hj hij).imp (hall _) (hall _)) hA
  refine ⟨adK, adV, hvS, fun i hi => vk_R.of (hal _ (sx7 i hi)) (hvE i hi), va_Zof (hal _ sx13.1) (hal _ sx13.2.1) (va_eqt (hall _ sx13.2.2.1)) hA, va_Zqof (hal _ sx13.2.2.2.1) (hal _ sx13.2.2.2.2.1) (hall _ sx13.2.2.2.2.2) hA, fun q hq => va_Nw.of rfl (hal _ (sx8 q hq)), fun q hq => va_Nc.of (hall _ (sx9 q hq)), va_Nw.of rfl (hal _ sx10), fun q hq => va_Nw.of rfl (hal _ (sx11 q hq)), va_AO.of (hal _ sx12.1), va_AO.of (hal _ sx12.2.1)⟩
theorem arr_prim {args : Array Value} {s : State} {ty : FieldType} (h : (Cond.arrayClass ty).before args s = true) (hp : ∀ cA, s.vm.findClass ("[" ++ ty.toString) = some cA → va_RA s cA ty) : ∃ cA, ArrOfT s cA ty ∧ va_RA s cA ty := by
  obtain ⟨c, k, comp, h1, h2, h3⟩ := Cond.arrayClass_spec h
  exact ⟨c, fun n z => ⟨fun k h => (by cases h), k, h2, comp, h3⟩, hp c h1⟩
theorem arr_over {s : State} {Cn : String} (h : va_AO Cn s) : ∃ cA, ArrOfT s cA (.object Cn) ∧ va_RA s cA (.object Cn) := by
  obtain ⟨comp, c, k, h1, h2, h3, h4, h5⟩ := Cond.arrayOver_spec h
  exact ⟨c, fun n z => ⟨(fun k h => by cases h), k, h3, comp, h4⟩, k, comp, h3, h4, h1, h5⟩
