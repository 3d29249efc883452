theorem inv_start : INV x0V m0V := by
  refine ⟨4, 0, ⟨0, by decide, rfl, rfl, fun i h => absurd h (Nat.not_lt_zero _)⟩, ⟨⟨by decide, by decide, by decide⟩, ⟨rfl, rfl⟩, ⟨rfl, rfl, rfl⟩, fun s h => absurd h (Nat.not_lt_zero _), ⟨0, by decide, rfl, rfl, fun s h => absurd h (Nat.not_lt_zero _)⟩, ⟨0, 1, by decide, by decide, by decide, rfl, rfl, rfl, rfl⟩, Or.inl ⟨rfl, rfl⟩, ⟨0, by decide, rfl, rfl⟩, ⟨2, by decide, by decide, rfl, rfl⟩, ⟨10, by decide, by decide, rfl, rfl⟩⟩, ⟨0, by decide, rfl, rfl, fun s _ => ⟨0, by decide, rfl, rfl, fun _ => rfl⟩⟩, Or.inl ⟨rfl, rfl⟩, Or.inl ⟨rfl, rfl⟩, ⟨0, by decide, rfl, rfl, fun i h => absurd h (Nat.not_lt_zero _)⟩⟩
theorem pl_erase : PL_erase INV := by
  intro x m hI
  obtain ⟨C, K, ⟨n, hn, e1, e2, hb⟩, hP, hD, h0, h1, hN⟩ := hI
  exact ⟨_, rfl, _, rfl, e1.trans e2.symm, C, K, ⟨0, by decide, rfl, rfl, fun i h => absurd h (Nat.not_lt_zero _)⟩, hP, hD, h0, h1, hN⟩
theorem pl_forget : PL_forget INV := by
  intro x m hI
  obtain ⟨C, K, hT, hP, hD, h0, h1, ⟨n, hn, e1, e2, hb⟩⟩ := hI
  exact ⟨_, rfl, _, rfl, e1.trans e2.symm, C, K, hT, hP, hD, h0, h1, ⟨0, by decide, rfl, rfl, fun i h => absurd h (Nat.not_lt_zero _)⟩⟩
/-- what the guards answer -/
theorem outside_ok (v a b : Int32) : f_ShutWays_isOutside v a b = some (if v < a ∨ b < v then 1 else 0) := by
  unfold f_ShutWays_isOutside f_ShutWays_isOutside_10 f_ShutWays_isOutside_15
  by_cases c1 : v < a
  · rw [if_pos c1, if_pos (Or.inl c1)]; rfl
  · rw [if_neg c1]
    by_cases c2 : v ≤ b
    · rw [if_pos c2, if_neg (by rintro (h | h); exact c1 h; exact absurd c2 (Int32.not_le.mpr h))]; rfl
    · rw [if_neg c2, if_pos (Or.inr (Int32.not_le.mp c2))]; rfl
theorem in_ok (v a b : Int32) : f_ShutWaysModel_in v a b = some (if v < a ∨ b < v then 0 else 1) := by
  unfold f_ShutWaysModel_in f_ShutWaysModel_in_14 f_ShutWaysModel_in_15
  by_cases c1 : v < a
  · rw [if_pos c1, if_pos (Or.inl c1)]; rfl
  · rw [if_neg c1]
    by_cases c2 : b < v
    · rw [if_pos c2, if_pos (Or.inr c2)]; rfl
    · rw [if_neg c2, if_neg (by rintro (h | h); exact c1 h; exact c2 h)]; rfl
theorem i32_ix (v : Int32) {K : Nat} (hK : K < 2 ^ 31) : v < 0 ∨ nI K ≤ v ∨ ∃ j : Nat, j < K ∧ v = nI j := pk_ix v hK
theorem has_ok (v : Int32) {K : Nat} (hK : K < 2 ^ 31) : (f_Roads_has v (nI K) = some 0 ∧ ¬ ∃ j : Nat, j < K ∧ v = nI j) ∨ (f_Roads_has v (nI K) = some 1 ∧ ∃ j : Nat, j < K ∧ v = nI j) := by
  unfold f_Roads_has f_Roads_has_16 f_Roads_has_17
  rcases i32_ix v hK with h | h | ⟨j, hj, rfl⟩
  · left
    rw [if_pos h]
    refine ⟨rfl, ?_⟩
    rintro ⟨j, hj, rfl⟩
    exact nI_pos (by omega) h
  · left
    refine ⟨?_, ?_⟩
    · by_cases c : v < 0
      · rw [if_pos c]; rfl
      · rw [if_neg c, if_pos h]; rfl
    · rintro ⟨j, hj, rfl⟩
      exact nI_ge hj hK h
  · right
    rw [if_neg (nI_pos (by omega)), if_neg (nI_ge hj hK)]
    exact ⟨rfl, j, hj, rfl⟩
theorem isStreet_ok (v : Int32) {K : Nat} (hK : K ≤ 12) : (f_ShutWaysModel_isStreet v (nI K) = some 0 ∧ ¬ ∃ j : Nat, j < K ∧ v = nI j) ∨ (f_ShutWaysModel_isStreet v (nI K) = some 1 ∧ ∃ j : Nat, j < K ∧ v = nI j) := by
  unfold f_ShutWaysModel_isStreet
  rw [in_ok]
  show (gz (if v < 0 ∨ nI K - 1 < v then 0 else 1) _ = _ ∧ _) ∨ _
  rcases i32_ix v (show K < 2 ^ 31 by omega) with h | h | ⟨j, hj, rfl⟩
  · left
    rw [if_pos (Or.inl h)]
    refine ⟨rfl, ?_⟩
    rintro ⟨j, hj, rfl⟩
    exact nI_pos (by omega) h
  · left
    have h2 : nI K - 1 < v := by
      apply Int32.lt_iff_toInt_lt.mpr
      have e : (nI K - 1 : Int32) = nI K - nI 1 := rfl
      have h3 := Int32.le_iff_toInt_le.mp h
      rw [e, pk_sub_toInt (by omega) (by decide)]
      rw [nI_toInt (by omega)] at h3
      omega
    rw [if_pos (Or.inr h2)]
    refine ⟨rfl, ?_⟩
    rintro ⟨j, hj, rfl⟩
    exact nI_ge hj (by omega) h
  · right
    have h2 : ¬ (nI j < 0 ∨ nI K - 1 < nI j) := by
      rintro (z | z)
      · exact nI_pos (by omega) z
      · have z := Int32.lt_iff_toInt_lt.mp z
        have e : (nI K - 1 : Int32) = nI K - nI 1 := rfl
        rw [e, pk_sub_toInt (by omega) (by decide), nI_toInt (by omega)] at z
        omega
    rw [if_neg h2]
    exact ⟨rfl, j, hj, rfl⟩
