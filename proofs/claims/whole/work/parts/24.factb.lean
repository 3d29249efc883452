set_option maxRecDepth 20000 in
theorem sx6_0 : ∀ j, j < 11 → 0 ≠ j → (Cond.not (Cond.eq (tmS 0) (tmS j)) ∈ flN ∨ Cond.not (Cond.eq (tmS j) (tmS 0)) ∈ flN) := by decide +kernel
set_option maxRecDepth 20000 in
theorem sx6_1 : ∀ j, j < 11 → 1 ≠ j → (Cond.not (Cond.eq (tmS 1) (tmS j)) ∈ flN ∨ Cond.not (Cond.eq (tmS j) (tmS 1)) ∈ flN) := by decide +kernel
set_option maxRecDepth 20000 in
theorem sx6_2 : ∀ j, j < 11 → 2 ≠ j → (Cond.not (Cond.eq (tmS 2) (tmS j)) ∈ flN ∨ Cond.not (Cond.eq (tmS j) (tmS 2)) ∈ flN) := by decide +kernel
set_option maxRecDepth 20000 in
theorem sx6_3 : ∀ j, j < 11 → 3 ≠ j → (Cond.not (Cond.eq (tmS 3) (tmS j)) ∈ flN ∨ Cond.not (Cond.eq (tmS j) (tmS 3)) ∈ flN) := by decide +kernel
set_option maxRecDepth 20000 in
theorem sx6_4 : ∀ j, j < 11 → 4 ≠ j → (Cond.not (Cond.eq (tmS 4) (tmS j)) ∈ flN ∨ Cond.not (Cond.eq (tmS j) (tmS 4)) ∈ flN) := by decide +kernel
set_option maxRecDepth 20000 in
theorem sx6_5 : ∀ j, j < 11 → 5 ≠ j → (Cond.not (Cond.eq (tmS 5) (tmS j)) ∈ flN ∨ Cond.not (Cond.eq (tmS j) (tmS 5)) ∈ flN) := by decide +kernel
set_option maxRecDepth 20000 in
theorem sx6_6 : ∀ j, j < 11 → 6 ≠ j → (Cond.not (Cond.eq (tmS 6) (tmS j)) ∈ flN ∨ Cond.not (Cond.eq (tmS j) (tmS 6)) ∈ flN) := by decide +kernel
set_option maxRecDepth 20000 in
theorem sx6_7 : ∀ j, j < 11 → 7 ≠ j → (Cond.not (Cond.eq (tmS 7) (tmS j)) ∈ flN ∨ Cond.not (Cond.eq (tmS j) (tmS 7)) ∈ flN) := by decide +kernel
set_option maxRecDepth 20000 in
theorem sx6_8 : ∀ j, j < 11 → 8 ≠ j → (Cond.not (Cond.eq (tmS 8) (tmS j)) ∈ flN ∨ Cond.not (Cond.eq (tmS j) (tmS 8)) ∈ flN) := by decide +kernel
set_option maxRecDepth 20000 in
theorem sx6_9 : ∀ j, j < 11 → 9 ≠ j → (Cond.not (Cond.eq (tmS 9) (tmS j)) ∈ flN ∨ Cond.not (Cond.eq (tmS j) (tmS 9)) ∈ flN) := by decide +kernel
set_option maxRecDepth 20000 in
theorem sx6_10 : ∀ j, j < 11 → 10 ≠ j → (Cond.not (Cond.eq (tmS 10) (tmS j)) ∈ flN ∨ Cond.not (Cond.eq (tmS j) (tmS 10)) ∈ flN) := by decide +kernel
theorem sx6 : ∀ i, i < 11 → ∀ j, j < 11 → i ≠ j → (Cond.not (Cond.eq (tmS i) (tmS j)) ∈ flN ∨ Cond.not (Cond.eq (tmS j) (tmS i)) ∈ flN) := by
  intro i hi
  match i, hi with
  | 0, _ => exact sx6_0
  | 1, _ => exact sx6_1
  | 2, _ => exact sx6_2
  | 3, _ => exact sx6_3
  | 4, _ => exact sx6_4
  | 5, _ => exact sx6_5
  | 6, _ => exact sx6_6
  | 7, _ => exact sx6_7
  | 8, _ => exact sx6_8
  | 9, _ => exact sx6_9
  | 10, _ => exact sx6_10
  | i + 11, h => exact absurd h (by omega)

