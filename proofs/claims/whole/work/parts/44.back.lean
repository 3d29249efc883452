theorem back_out {a1 : Int32} (c : a1 < 0 ∨ 1 < a1) (isK : Nat → Int32) (tg g0 : Int32) (s0 ts : Nat → Int32) (g1 : Int32) (s1 : Nat → Int32) : f_ShutWays_back a1 2 isK tg g0 16 s0 16 ts g1 16 s1 = some (-2, tg, ts) := by
  unfold f_ShutWays_back
  rw [outside_ok, if_pos c, Option.bind_some, if_neg one_ne]
theorem mback_out {a1 : Int32} (c : a1 < 0 ∨ 1 < a1) (day : Int32) (isK image shut : Nat → Int32) : f_ShutWaysModel_back a1 day 2 isK 34 image 16 shut = some (-2, day, shut) := by
  unfold f_ShutWaysModel_back
  generalize FU = N
  rw [in_ok, if_pos c, Option.bind_some, if_pos rfl]
theorem back_not {i : Nat} (hi : i < 2) {isK : Nat → Int32} (h : isK i = 0) (tg g0 : Int32) (s0 ts : Nat → Int32) (g1 : Int32) (s1 : Nat → Int32) : f_ShutWays_back (nI i) 2 isK tg g0 16 s0 16 ts g1 16 s1 = some (-4, tg, ts) := by
  unfold f_ShutWays_back
  rw [outside_ok, if_neg (nI_two hi), Option.bind_some, if_pos rfl, gixN hi (by decide), nIc (by omega), h, if_pos rfl]
theorem mback_not {i : Nat} (hi : i < 2) {isK : Nat → Int32} (h : isK i = 0) (day : Int32) (image shut : Nat → Int32) : f_ShutWaysModel_back (nI i) day 2 isK 34 image 16 shut = some (-4, day, shut) := by
  unfold f_ShutWaysModel_back
  generalize FU = N
  rw [in_ok, if_neg (nI_two hi), Option.bind_some, if_neg one_ne, gixN hi (by decide), nIc (by omega), h, if_pos rfl]
theorem back_0 {isK : Nat → Int32} (h : isK 0 = 1) (tg g0 : Int32) (s0 ts : Nat → Int32) (g1 : Int32) (s1 : Nat → Int32) : ∃ F : Nat → Int32, f_ShutWays_back (nI 0) 2 isK tg g0 16 s0 16 ts g1 16 s1 = some (g0, g0, F) ∧ ∀ s, s < 16 → F s = s0 s := by
  obtain ⟨F, q1, q2⟩ := copy_ok tg g0 s0 ts
  refine ⟨F, ?_, q2⟩
  unfold f_ShutWays_back
  rw [outside_ok, if_neg (nI_two (i := 0) (by decide)), Option.bind_some, if_pos rfl, gixN (by decide) (by decide), nIc (by decide), h, if_neg one_ne, if_pos (show nI 0 = 0 from rfl), q1, Option.bind_some]
theorem back_1 {isK : Nat → Int32} (h : isK 1 = 1) (tg g0 : Int32) (s0 ts : Nat → Int32) (g1 : Int32) (s1 : Nat → Int32) : ∃ F : Nat → Int32, f_ShutWays_back (nI 1) 2 isK tg g0 16 s0 16 ts g1 16 s1 = some (g1, g1, F) ∧ ∀ s, s < 16 → F s = s1 s := by
  obtain ⟨F, q1, q2⟩ := copy_ok tg g1 s1 ts
  refine ⟨F, ?_, q2⟩
  unfold f_ShutWays_back
  rw [outside_ok, if_neg (nI_two (i := 1) (by decide)), Option.bind_some, if_pos rfl, gixN (by decide) (by decide), nIc (by decide), h, if_neg one_ne, if_neg (show ¬ nI 1 = 0 by decide), if_pos (show nI 1 = 1 from rfl), q1, Option.bind_some]
theorem mback_ok {i : Nat} (hi : i < 2) {isK : Nat → Int32} (h : isK i = 1) (day : Int32) (image shut : Nat → Int32) : ∃ F : Nat → Int32, f_ShutWaysModel_back (nI i) day 2 isK 34 image 16 shut = some (image (17 * i + 16), image (17 * i + 16), F) ∧ ∀ s, s < 16 → F s = image (17 * i + s) := by
  have hFU : 16 - 0 < FU := by rw [FU_eq]; decide
  unfold f_ShutWaysModel_back
  generalize FU = N at hFU ⊢
  have e : ((17 * nI i) + 16 : Int32) = nI (17 * i + 16) := e17 i 16
  obtain ⟨F, h1, h2, h3⟩ := back42 hi (image (17 * i + 16)) isK image N 0 shut (by omega) hFU
  rw [nI_0] at h1
  refine ⟨F, ?_, fun s hs => h2 s (by omega) hs⟩
  rw [in_ok, if_neg (nI_two hi), Option.bind_some, if_neg one_ne, gixN hi (by decide), nIc (show i < 2 ^ 31 by omega), h, if_neg one_ne, e, gixN (show 17 * i + 16 < 34 by omega) (by decide : 34 < 2 ^ 31), nIc (show 17 * i + 16 < 2 ^ 31 by omega)]
  exact h1
theorem pl_back : PL_back INV := by
  intro x m a1 hI
  obtain ⟨C, K, hT, hP, hD, h0, h1, hN⟩ := hI
  rcases two_cases a1 with c | rfl | rfl
  · exact ⟨_, back_out c _ _ _ _ _ _ _, _, mback_out c _ _ _ _, rfl, C, K, hT, hP, hD, h0, h1, hN⟩
  · rcases id h0 with ⟨a, b⟩ | ⟨a, b, hd⟩
    · exact ⟨_, back_not (i := 0) (by decide) a _ _ _ _ _ _, _, mback_not (i := 0) (by decide) b _ _ _, rfl, C, K, hT, hP, hD, h0, h1, hN⟩
    · obtain ⟨F, q1, q2⟩ := back_0 a x.2.2.2.2.2.2.2.2.1.1 x.2.2.2.2.2.2.2.2.2.2.1.1 x.2.2.2.2.2.2.2.2.2.2.1.2 x.2.2.2.2.2.2.2.2.1.2 x.2.2.2.2.2.2.2.2.2.2.2.1.1 x.2.2.2.2.2.2.2.2.2.2.2.1.2
      obtain ⟨G, w1, w2⟩ := mback_ok (i := 0) (by decide) b m.1.2.2.2.2.2.2.2.2.1 m.2.2.2.2.1.2.2.1 m.2.2.2.2.1.1
      exact ⟨_, q1, _, w1, hd.eq.1, C, K, hT, hP, hd.congr rfl rfl q2 w2, h0, h1, hN⟩
  · rcases id h1 with ⟨a, b⟩ | ⟨a, b, hd⟩
    · exact ⟨_, back_not (i := 1) (by decide) a _ _ _ _ _ _, _, mback_not (i := 1) (by decide) b _ _ _, rfl, C, K, hT, hP, hD, h0, h1, hN⟩
    · obtain ⟨F, q1, q2⟩ := back_1 a x.2.2.2.2.2.2.2.2.1.1 x.2.2.2.2.2.2.2.2.2.2.1.1 x.2.2.2.2.2.2.2.2.2.2.1.2 x.2.2.2.2.2.2.2.2.1.2 x.2.2.2.2.2.2.2.2.2.2.2.1.1 x.2.2.2.2.2.2.2.2.2.2.2.1.2
      obtain ⟨G, w1, w2⟩ := mback_ok (i := 1) (by decide) b m.1.2.2.2.2.2.2.2.2.1 m.2.2.2.2.1.2.2.1 m.2.2.2.2.1.1
      exact ⟨_, q1, _, w1, hd.eq.1, C, K, hT, hP, hd.congr rfl rfl q2 w2, h0, h1, hN⟩
/-- byte k of a word -/
def bv (w : Int64) (k : Nat) : Int32 := ((w >>> ((8 * nI k).toInt64 &&& 63)) &&& 255).toInt32
theorem bv_byte (w : Int64) (k : Nat) : ∃ b : Nat, b < 256 ∧ bv w k = nI b := by
  unfold bv
  rw [Int64.toInt32_and]
  exact pk_andE _ (m := 255) 8 (by decide)
theorem sort_ok : ∀ b, b < 256 → f_Text_sortOf (nI b) = some (nI (srt b)) := by decide +kernel
theorem append19 (w : Int64) {n c : Nat} (hnc : n + c ≤ 200) : ∀ (N k : Nat) (f g : Nat → Int32), k ≤ c → c - k < N → ∃ B S : Nat → Int32, f_Text_append_19 N w (nI c) (nI k) (nI (n + k)) 200 f 200 g = some (1, nI (n + c), B, S) ∧ (∀ i, i < n + k → B i = f i ∧ S i = g i) ∧ (∀ j, k ≤ j → j < c → ∃ b : Nat, b < 256 ∧ bv w j = nI b ∧ B (n + j) = nI b ∧ S (n + j) = nI (srt b)) := by
  intro N
  induction N with
  | zero => intro k _ _ _ h; omega
  | succ N ih =>
    intro k f g hk hN
    rw [show f_Text_append_19 (N + 1) = b_Text_append_19 (f_Text_append_19 N) from rfl]
    unfold b_Text_append_19
    by_cases e : k = c
    · subst e
      rw [if_pos (nI_le (Nat.le_refl _) (by omega))]
      exact ⟨f, g, rfl, fun i _ => ⟨rfl, rfl⟩, fun j h1 h2 => by omega⟩
    · rw [if_neg (nI_ge (by omega) (by omega))]
      obtain ⟨b, hb, eb⟩ := bv_byte w k
      have eb' : ((w >>> ((8 * nI k).toInt64 &&& 63)) &&& 255).toInt32 = nI b := eb
      simp only [nmI, eb', gixN (show n + k < 200 by omega) (by decide : 200 < 2 ^ 31), nIc (show n + k < 2 ^ 31 by omega), pk_us, sort_ok b hb, Option.bind_some, nI_1]
      obtain ⟨B, S, h1, h2, h3⟩ := ih (k + 1) (upd f (n + k) (nI b)) (upd g (n + k) (nI (srt b))) (by omega) (by omega)
      refine ⟨B, S, h1, ?_, ?_⟩
      · intro i hi
        obtain ⟨a1, a2⟩ := h2 i (by omega)
        exact ⟨a1.trans (pk_un (by omega)), a2.trans (pk_un (by omega))⟩
      · intro j a c'
        by_cases ej : j = k
        · subst ej
          obtain ⟨a1, a2⟩ := h2 (n + j) (by omega)
          exact ⟨b, hb, eb, a1.trans pk_us, a2.trans pk_us⟩
        · exact h3 j (by omega) c'
theorem mwrite31 (w : Int64) {n c : Nat} (hnc : n + c ≤ 200) : ∀ (N k : Nat) (f : Nat → Int32), k ≤ c → c - k < N → ∃ B : Nat → Int32, f_ShutWaysModel_write_31 N w (nI c) (nI k) (nI n) 200 f = some (nI (n + c), nI (n + c), B) ∧ (∀ i, i < n + k → B i = f i) ∧ (∀ j, k ≤ j → j < c → B (n + j) = bv w j) := by
  intro N
  induction N with
  | zero => intro k _ _ h; omega
  | succ N ih =>
    intro k f hk hN
    rw [show f_ShutWaysModel_write_31 (N + 1) = b_ShutWaysModel_write_31 (f_ShutWaysModel_write_31 N) from rfl]
    unfold b_ShutWaysModel_write_31
    by_cases e : k = c
    · subst e
      rw [if_pos (nI_le (Nat.le_refl _) (by omega))]
      simp only [nmI, nI_add]
      exact ⟨f, rfl, fun i _ => rfl, fun j h1 h2 => by omega⟩
    · rw [if_neg (nI_ge (by omega) (by omega))]
      simp only [nmI, nI_add, gixN (show n + k < 200 by omega) (by decide : 200 < 2 ^ 31), nIc (show n + k < 2 ^ 31 by omega), nI_1]
      obtain ⟨B, h1, h2, h3⟩ := ih (k + 1) (upd f (n + k) (bv w k)) (by omega) (by omega)
      refine ⟨B, h1, ?_, ?_⟩
      · intro i hi
        exact (h2 i (by omega)).trans (pk_un (by omega))
      · intro j a c'
        by_cases ej : j = k
        · subst ej
          exact (h2 (n + j) (by omega)).trans pk_us
        · exact h3 j (by omega) c'
theorem pl_write : PL_write INV := by
  intro x m w a2 hI
  obtain ⟨C, K, ⟨n, hn, e1, e2, hb⟩, hP, hD, h0, h1, hN⟩ := hI
  have hFU : 200 < FU := by rw [FU_eq]; decide
  by_cases c : a2 < 1 ∨ 8 < a2
  · refine ⟨(-3, x.2.1.1, x.2.1.2.2.2.2.2.2.2.2.1, x.2.1.2.2.2.2.2.2.2.2.2), ?_, (-3, m.1.2.2.2.2.2.2.2.1, m.2.2.2.1), ?_, rfl, C, K, ⟨n, hn, e1, e2, hb⟩, hP, hD, h0, h1, hN⟩
    · unfold f_ShutWays_write
      rw [outside_ok, if_pos c, Option.bind_some, if_neg one_ne]
    · unfold f_ShutWaysModel_write
      generalize FU = N
      rw [in_ok, if_pos c, Option.bind_some, if_pos rfl]
  · obtain ⟨k, hk1, hk2, rfl⟩ : ∃ k : Nat, 1 ≤ k ∧ k ≤ 8 ∧ a2 = nI k := by
      rcases i32_ix a2 (show 9 < 2 ^ 31 by decide) with h | h | ⟨k, hk, rfl⟩
      · exact absurd (Or.inl (Int32.lt_trans h (by decide))) c
      · exact absurd (Or.inr (Int32.lt_of_lt_of_le (by decide : (8 : Int32) < nI 9) h)) c
      · refine ⟨k, ?_, by omega, rfl⟩
        rcases Nat.eq_zero_or_pos k with z | z
        · subst z; exact absurd (Or.inl (by decide)) c
        · exact z
    unfold f_ShutWays_write f_ShutWays_write_37 f_Text_append f_ShutWaysModel_write
    generalize FU = N at hFU ⊢
    rw [outside_ok, in_ok, if_neg c, if_neg c, e1, e2]
    simp only [Option.bind_some, reduceIte, if_neg one_ne, nI_add]
    have e200 : (200 : Int32) = nI 200 := rfl
    by_cases q : n + k ≤ 200
    · obtain ⟨B, S, a1, a2, a3⟩ := append19 w q N 0 x.2.1.2.2.2.2.2.2.2.2.1 x.2.1.2.2.2.2.2.2.2.2.2 (by omega) (by omega)
      obtain ⟨T, b1, b2, b3⟩ := mwrite31 w q N 0 m.2.2.2.1 (by omega) (by omega)
      rw [nI_0, Nat.add_zero] at a1
      rw [nI_0] at b1
      rw [if_pos (nI_le q (by omega)), if_pos (show nI (n + k) ≤ 200 from nI_le (b := 200) q (by decide)), a1, b1]
      simp only [Option.bind_some, if_neg one_ne]
      refine ⟨_, rfl, _, rfl, rfl, C, K, ⟨n + k, q, rfl, rfl, ?_⟩, hP, hD, h0, h1, hN⟩
      intro i hi
      by_cases z : i < n
      · obtain ⟨b, y1, y2, y3, y4⟩ := hb i z
        exact ⟨b, y1, (a2 i (by omega)).1.trans y2, (b2 i (by omega)).trans y3, (a2 i (by omega)).2.trans y4⟩
      · obtain ⟨b, y1, y2, y3, y4⟩ := a3 (i - n) (by omega) (by omega)
        have ei : n + (i - n) = i := by omega
        rw [ei] at y3 y4
        have y5 := b3 (i - n) (by omega) (by omega)
        rw [ei] at y5
        exact ⟨b, y1, y3, y5.trans y2, y4⟩
    · rw [if_neg (nI_ge (by omega) (by omega)), if_neg (show ¬ nI (n + k) ≤ 200 from nI_ge (a := 200) (by omega) (by omega))]
      simp only [Option.bind_some, reduceIte]
      exact ⟨_, rfl, _, rfl, rfl, C, K, ⟨n, hn, rfl, rfl, hb⟩, hP, hD, h0, h1, hN⟩
