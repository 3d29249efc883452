/-! ===== ranges, bits ===== -/
theorem i32_rng {v : Int32} {a b : Nat} (ha : a < 2 ^ 31) (hb : b < 2 ^ 30) (h : ¬ (v < nI a ∨ nI b < v)) : ∃ k : Nat, a ≤ k ∧ k ≤ b ∧ v = nI k := by
  rcases i32_ix v (show b + 1 < 2 ^ 31 by omega) with c | c | ⟨k, hk, rfl⟩
  · exact absurd (Or.inl (Int32.lt_of_lt_of_le c (nI_pos' ha))) h
  · exact absurd (Or.inr (Int32.lt_of_lt_of_le (nI_lt (Nat.lt_succ_self b) (by omega)) c)) h
  · refine ⟨k, ?_, by omega, rfl⟩
    rcases Nat.lt_or_ge k a with q | q
    · exact absurd (Or.inl (nI_lt q ha)) h
    · exact q
theorem rng_ok {k a b : Nat} (h1 : a ≤ k) (h2 : k ≤ b) (hb : b < 2 ^ 31) : ¬ (nI k < nI a ∨ nI b < nI k) := by
  rintro (c | c)
  · exact nI_nlt h1 (by omega) c
  · exact nI_nlt h2 hb c
theorem sh_ix : ∀ i, i < 16 → ((nI i &&& 31).toBitVec.smod 32).toNat = i := by decide +kernel
theorem nI_shr {S i : Nat} (hS : S < 2 ^ 31) (hi : i < 16) : nI S >>> (nI i &&& 31) = nI (S / 2 ^ i) := pk_shrN hS _ i (sh_ix i hi)
theorem nI_and (a b : Nat) : nI a &&& nI b = nI (a &&& b) := by
  apply Int32.toBitVec_inj.mp
  show BitVec.ofNat 32 a &&& BitVec.ofNat 32 b = BitVec.ofNat 32 (a &&& b)
  exact BitVec.ofNat_and.symm
theorem nI_xor (a b : Nat) : nI a ^^^ nI b = nI (a ^^^ b) := by
  apply Int32.toBitVec_inj.mp
  show BitVec.ofNat 32 a ^^^ BitVec.ofNat 32 b = BitVec.ofNat 32 (a ^^^ b)
  exact BitVec.ofNat_xor.symm
theorem nI_z {a : Nat} (h : a < 2 ^ 31) : nI a = 0 ↔ a = 0 := nI_eq (b := 0) h (by decide)
theorem mhas_ok {S i : Nat} (hS : S < 2 ^ 31) (hi : i < 16) : f_ShutWaysModel_has (nI S) (nI i) = some (if S.testBit i = true then 1 else 0) := by
  have hd : S / 2 ^ i < 2 ^ 31 := Nat.lt_of_le_of_lt (Nat.div_le_self _ _) hS
  have hb : S.testBit i = decide (S / 2 ^ i % 2 = 1) := Nat.testBit_eq_decide_div_mod_eq
  unfold f_ShutWaysModel_has f_ShutWaysModel_has_14
  rw [nI_shr hS hi, nI_par hd, hb]
  rcases Nat.mod_two_eq_zero_or_one (S / 2 ^ i) with c | c
  · rw [c, if_neg (show ¬ nI 0 = 1 by decide)]
    rfl
  · rw [c, if_pos (show nI 1 = 1 from rfl)]
    rfl
theorem and_bit {S i : Nat} : S &&& 2 ^ i = 0 ↔ S.testBit i = false := by
  constructor
  · intro h
    have h2 := congrArg (fun t => Nat.testBit t i) h
    simp only [Nat.testBit_and, Nat.testBit_two_pow_self, Bool.and_true, Nat.zero_testBit] at h2
    exact h2
  · intro h
    apply Nat.eq_of_testBit_eq
    intro j
    rw [Nat.testBit_and, Nat.zero_testBit]
    by_cases q : i = j
    · subst q; rw [h]; rfl
    · rw [Nat.testBit_two_pow_of_ne q, Bool.and_false]
theorem cand_ok {S i : Nat} (hS : S < 2 ^ 31) : nI S &&& nI (2 ^ i) = 0 ↔ S.testBit i = false := by
  rw [nI_and]
  exact (nI_z (Nat.lt_of_le_of_lt Nat.and_le_left hS)).trans and_bit
theorem chas_ok {S i : Nat} (hS : S < 2 ^ 31) (hi : i < 16) : nI S &&& (1 <<< (nI i &&& 31)) = 0 ↔ S.testBit i = false := by
  rw [nI_bit i hi]
  exact cand_ok hS
theorem lv_ok {S a b : Nat} (hS : S < 2 ^ 31) (ha : a < 16) (hb : b < 16) : ((nI S >>> (nI a &&& 31)) ^^^ (nI S >>> (nI b &&& 31))) &&& 1 = 0 ↔ S.testBit a = S.testBit b := by
  have hA : S / 2 ^ a < 2 ^ 31 := Nat.lt_of_le_of_lt (Nat.div_le_self _ _) hS
  have hB : S / 2 ^ b < 2 ^ 31 := Nat.lt_of_le_of_lt (Nat.div_le_self _ _) hS
  have e1 : S.testBit a = decide (S / 2 ^ a % 2 = 1) := Nat.testBit_eq_decide_div_mod_eq
  have e2 : S.testBit b = decide (S / 2 ^ b % 2 = 1) := Nat.testBit_eq_decide_div_mod_eq
  rw [nI_shr hS ha, nI_shr hS hb, nI_xor, nI_par (Nat.xor_lt_two_pow hA hB), e1, e2]
  generalize S / 2 ^ a = A at *
  generalize S / 2 ^ b = B at *
  rw [nI_z (by omega)]
  have h := Nat.xor_mod_two_eq_one (a := A) (b := B)
  rcases Nat.mod_two_eq_zero_or_one A with ca | ca <;> rcases Nat.mod_two_eq_zero_or_one B with cb | cb <;> rcases Nat.mod_two_eq_zero_or_one (A ^^^ B) with cx | cx <;> rw [ca, cb, cx] at h <;> rw [ca, cb, cx] <;> simp at h ⊢
/-! ===== what is shut, by bits ===== -/
def ssm (sh : Nat → Nat) : Nat → Nat
  | 0 => 0
  | n + 1 => ssm sh n ||| (if sh n = 0 then 0 else 2 ^ n)
def cnz (sh : Nat → Nat) : Nat → Nat
  | 0 => 0
  | n + 1 => cnz sh n + (if sh n = 0 then 0 else 1)
def pct (N : Nat) : Nat → Nat
  | 0 => 0
  | n + 1 => pct N n + (if N.testBit n = true then 1 else 0)
theorem ssm_bit (sh : Nat → Nat) (i : Nat) : ∀ n, (ssm sh n).testBit i = (decide (i < n) && !decide (sh i = 0))
  | 0 => by
    show (0 : Nat).testBit i = _
    rw [Nat.zero_testBit]
    simp
  | n + 1 => by
    show (ssm sh n ||| (if sh n = 0 then 0 else 2 ^ n)).testBit i = _
    rw [Nat.testBit_or, ssm_bit sh i n]
    by_cases c : i = n
    · subst c
      by_cases z : sh i = 0
      · simp [z]
      · simp [z]
    · have e : (if sh n = 0 then 0 else 2 ^ n).testBit i = false := by
        by_cases z : sh n = 0
        · rw [if_pos z]; exact Nat.zero_testBit i
        · rw [if_neg z]; exact Nat.testBit_two_pow_of_ne (Ne.symm c)
      rw [e, Bool.or_false]
      have : decide (i < n) = decide (i < n + 1) := by
        apply decide_eq_decide.mpr
        omega
      rw [this]
theorem ssm_lt (sh : Nat → Nat) : ∀ n, ssm sh n < 2 ^ n
  | 0 => by show 0 < 2 ^ 0; decide
  | n + 1 => by
    show (ssm sh n ||| (if sh n = 0 then 0 else 2 ^ n)) < 2 ^ (n + 1)
    have h1 := ssm_lt sh n
    have h2 : 2 ^ n < 2 ^ (n + 1) := Nat.pow_lt_pow_right (by decide) (Nat.lt_succ_self n)
    apply Nat.or_lt_two_pow
    · omega
    · split <;> omega
theorem ssm_zero {sh : Nat → Nat} {K : Nat} : ∀ n, K ≤ n → (∀ s, K ≤ s → s < n → sh s = 0) → ssm sh n = ssm sh K := by
  intro n
  induction n with
  | zero => intro h _; rw [show K = 0 by omega]
  | succ n ih =>
    intro h hz
    by_cases c : K = n + 1
    · rw [c]
    · show (ssm sh n ||| (if sh n = 0 then 0 else 2 ^ n)) = _
      rw [if_pos (hz n (by omega) (Nat.lt_succ_self n)), Nat.or_zero]
      exact ih (by omega) (fun s a b => hz s a (by omega))
theorem cnz_zero {sh : Nat → Nat} {K : Nat} : ∀ n, K ≤ n → (∀ s, K ≤ s → s < n → sh s = 0) → cnz sh n = cnz sh K := by
  intro n
  induction n with
  | zero => intro h _; rw [show K = 0 by omega]
  | succ n ih =>
    intro h hz
    by_cases c : K = n + 1
    · rw [c]
    · show cnz sh n + (if sh n = 0 then 0 else 1) = _
      rw [if_pos (hz n (by omega) (Nat.lt_succ_self n)), Nat.add_zero]
      exact ih (by omega) (fun s a b => hz s a (by omega))
theorem bitc : ∀ a, a < 64 → ∀ b, b < 64 → f_Integer_bitCount (nI (64 * a + b)) = some (nI (pct (64 * a + b) 12)) := by decide +kernel
theorem bitCount_ok {N : Nat} (h : N < 4096) : f_Integer_bitCount (nI N) = some (nI (pct N 12)) := by
  have := bitc (N / 64) (by omega) (N % 64) (by omega)
  rw [show 64 * (N / 64) + N % 64 = N by omega] at this
  exact this
section Shut
variable {K : Nat} {sh : Nat → Nat} {F : Nat → Int32}
theorem shutSet4 (S : CodS K sh F) : ∀ n i, i ≤ 16 → 16 - i < n → f_Days_shutSet_4 n (nI (ssm sh i)) (nI i) 16 F = some (nI (ssm sh 16)) := by
  intro n
  induction n with
  | zero => intro i _ h; omega
  | succ n ih =>
    intro i hi hn
    rw [show f_Days_shutSet_4 (n + 1) = b_Days_shutSet_4 (f_Days_shutSet_4 n) from rfl]
    unfold b_Days_shutSet_4 f_Days_shutSet_28
    by_cases c : i = 16
    · subst c
      rw [if_pos (nI_le (Nat.le_refl _) (by decide))]
    · have hi' : i < 16 := by omega
      obtain ⟨b1, b2, b3⟩ := S i hi'
      have h := ih (i + 1) (by omega) (by omega)
      rw [if_neg (nI_ge hi' (by decide)), gixN hi' (by decide), nIc (by omega), b2]
      simp only [nmI, nI_1, nI_bit i hi', nI_or]
      by_cases z : sh i = 0
      · rw [if_pos (show nI (sh i) ≤ 0 from nI_le (b := 0) (by omega) (by decide))]
        rw [show ssm sh (i + 1) = ssm sh i by show (ssm sh i ||| _) = _; rw [if_pos z, Nat.or_zero]] at h
        exact h
      · rw [if_neg (nI_nle (by omega) (by omega))]
        rw [show ssm sh (i + 1) = ssm sh i ||| 2 ^ i by show (ssm sh i ||| _) = _; rw [if_neg z]] at h
        exact h
theorem CodS.z16 (S : CodS K sh F) (hK : K ≤ 16) : ssm sh 16 = ssm sh K := ssm_zero 16 hK (fun s a b => (S s b).2.2 a)
theorem shutSet_ok (S : CodS K sh F) (hK : K ≤ 16) : f_Days_shutSet 16 F = some (nI (ssm sh K)) := by
  unfold f_Days_shutSet
  have hFU : 20 < FU := by rw [FU_eq]; decide
  generalize FU = N at hFU ⊢
  have h := shutSet4 S N 0 (by omega) (by omega)
  rw [S.z16 hK] at h
  exact h
theorem openAll2 : ∀ (n i : Nat) (F : Nat → Int32), i ≤ 16 → 16 - i < n → (∀ s, s < i → F s = 0) → ∃ F' : Nat → Int32, f_ShutWaysModel_openAll_2 n (nI i) 16 F = some F' ∧ ∀ s, s < 16 → F' s = 0 := by
  intro n
  induction n with
  | zero => intro i _ _ h; omega
  | succ n ih =>
    intro i F hi hn h0
    rw [show f_ShutWaysModel_openAll_2 (n + 1) = b_ShutWaysModel_openAll_2 (f_ShutWaysModel_openAll_2 n) from rfl]
    unfold b_ShutWaysModel_openAll_2
    by_cases c : i = 16
    · subst c
      rw [if_pos (show (16 : Int32) ≤ nI 16 by decide)]
      exact ⟨F, rfl, h0⟩
    · rw [if_neg (show ¬ (16 : Int32) ≤ nI i from nI_ge (b := 16) (by omega) (by decide)), gixN (by omega) (by decide), nIc (by omega), nI_1]
      refine ih (i + 1) _ (by omega) (by omega) ?_
      intro s hs
      by_cases e : s = i
      · subst e; exact pk_us
      · rw [pk_un e]; exact h0 s (by omega)
theorem openAll_ok (F : Nat → Int32) : ∃ F' : Nat → Int32, f_ShutWaysModel_openAll 16 F = some F' ∧ CodS K (fun _ => 0) F' := by
  unfold f_ShutWaysModel_openAll
  have hFU : 20 < FU := by rw [FU_eq]; decide
  generalize FU = N at hFU ⊢
  obtain ⟨F', h1, h2⟩ := openAll2 N 0 F (by omega) (by omega) (fun s hs => absurd hs (Nat.not_lt_zero _))
  rw [nI_0] at h1
  exact ⟨F', h1, fun s hs => ⟨Nat.zero_le _, h2 s hs, fun _ => rfl⟩⟩
theorem mfair4 (S : CodS K sh F) (hK : K ≤ 16) : ∀ n i, i ≤ K → K - i < n → ∃ F' : Nat → Int32, f_ShutWaysModel_fair_4 n (nI (cnz sh i)) (nI i) (nI K) 16 F = some (nI (cnz sh K), F') ∧ CodS K (fun _ => 0) F' := by
  intro n
  induction n with
  | zero => intro i _ h; omega
  | succ n ih =>
    intro i hi hn
    rw [show f_ShutWaysModel_fair_4 (n + 1) = b_ShutWaysModel_fair_4 (f_ShutWaysModel_fair_4 n) from rfl]
    unfold b_ShutWaysModel_fair_4 f_ShutWaysModel_fair_27
    by_cases c : i = K
    · subst c
      obtain ⟨F', h1, h2⟩ := openAll_ok (K := i) F
      rw [if_pos (nI_le (Nat.le_refl _) (by omega)), h1, Option.bind_some]
      exact ⟨F', rfl, h2⟩
    · have hi' : i < K := by omega
      obtain ⟨b1, b2, b3⟩ := S i (by omega)
      have h := ih (i + 1) (by omega) (by omega)
      rw [if_neg (nI_ge hi' (by omega)), gixN (show i < 16 by omega) (by decide), nIc (by omega), b2]
      simp only [nI_1]
      by_cases z : sh i = 0
      · rw [if_pos (show nI (sh i) ≤ 0 from nI_le (b := 0) (by omega) (by decide))]
        rw [show cnz sh (i + 1) = cnz sh i by show cnz sh i + _ = _; rw [if_pos z, Nat.add_zero]] at h
        rw [Int32.add_zero]
        exact h
      · rw [if_neg (nI_nle (by omega) (by omega))]
        rw [show cnz sh (i + 1) = cnz sh i + 1 by show cnz sh i + _ = _; rw [if_neg z]] at h
        exact h
end Shut
theorem pl_fair : PL_fair INV := by
  intro x m hI
  obtain ⟨C, K, hT, hP, hD, h0, h1, hN⟩ := hI
  obtain ⟨d, sh, hd, e1, e2, S1, S2⟩ := hD.g
  obtain ⟨⟨-, -, hK⟩, -, ⟨-, e4, -⟩, -⟩ := id hP
  have hFU : 20 < FU := by rw [FU_eq]; decide
  obtain ⟨g, g1, g2, -⟩ := fill_ok 0 (N := 16) (by decide) x.2.2.2.2.2.2.2.2.1.2
  have hz : ∀ s, K ≤ s → s < 16 → sh s = 0 := fun s a b => (S1 s b).2.2 a
  have hc : f_Integer_bitCount (nI (ssm sh K)) = some (nI (cnz sh K)) := by
    have hlt : ssm sh K < 4096 := Nat.lt_of_lt_of_le (ssm_lt sh K) (Nat.pow_le_pow_right (by decide) hK : 2 ^ K ≤ 2 ^ 12)
    rw [bitCount_ok hlt]
    have e : ∀ n, n ≤ 16 → pct (ssm sh K) n = cnz sh n := by
      intro n
      induction n with
      | zero => intro _; rfl
      | succ n ih =>
        intro hn
        show pct (ssm sh K) n + (if (ssm sh K).testBit n = true then 1 else 0) = cnz sh n + (if sh n = 0 then 0 else 1)
        rw [ih (by omega), ssm_bit]
        by_cases c : n < K
        · by_cases z : sh n = 0
          · simp [z]
          · simp [z, c]
        · have := hz n (by omega) (by omega)
          simp [c, this]
    rw [e 12 (by decide), cnz_zero 12 hK (fun s a b => hz s a (by omega))]
  obtain ⟨F', m1, m2⟩ := mfair4 S2 (show K ≤ 16 by omega) FU 0 (Nat.zero_le _) (by omega)
  refine ⟨(nI (cnz sh K), g), ?_, (nI (cnz sh K), F'), ?_, rfl, C, K, hT, hP, ?_, h0, h1, hN⟩
  · unfold f_ShutWays_fair
    rw [shutSet_ok S1 (by omega), Option.bind_some, hc, Option.bind_some, g1, Option.bind_some]
  · unfold f_ShutWaysModel_fair
    rw [e4]
    exact m1
  · show IDays K x.2.2.2.2.2.2.2.2.1.1 g m.1.2.2.2.2.2.2.2.2.1 F'
    rw [e1, e2]
    exact IDays.of hd (fun s hs => ⟨Nat.zero_le _, g2 s hs, fun _ => rfl⟩) m2
