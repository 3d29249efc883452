theorem copy_ok (g0 g1 : Int32) (f1 f0 : Nat → Int32) : ∃ F : Nat → Int32, f_Days_copyFrom g0 g1 16 f1 16 f0 = some (g1, F) ∧ ∀ s, s < 16 → F s = f1 s := by
  unfold f_Days_copyFrom
  rw [if_neg (by decide)]
  refine ⟨_, rfl, ?_⟩
  intro s hs
  have e0 : (0 : Int32).toNatClampNeg = 0 := by decide
  have e16 : (nI 16).toNatClampNeg = 16 := by decide
  rw [e0, e16, pk_cpy_in (by omega) (by omega)]
  congr 1
  omega
theorem narB1 : vp_nar .boolean 1 = 1 := rfl
theorem narB0 : vp_nar .boolean 0 = 0 := rfl
theorem e17 (i s : Nat) : (17 * nI i + nI s : Int32) = nI (17 * i + s) := by
  rw [show (17 : Int32) = nI 17 from rfl, pk_mul, nI_add]
theorem keep30 {i : Nat} (hi : i < 2) (day : Int32) (isK shut : Nat → Int32) : ∀ (n s : Nat) (image : Nat → Int32), s ≤ 16 → 16 - s < n → ∃ im : Nat → Int32, f_ShutWaysModel_keep_30 n (nI i) (nI s) day 34 image 2 isK 16 shut = some (day, im, upd isK i 1) ∧ (∀ t, s ≤ t → t < 16 → im (17 * i + t) = shut t) ∧ (∀ k, (k < 17 * i + s ∨ 17 * i + 16 ≤ k) → im k = image k) := by
  intro n
  induction n with
  | zero => intro s _ _ h; omega
  | succ n ih =>
    intro s image hs hn
    rw [show f_ShutWaysModel_keep_30 (n + 1) = b_ShutWaysModel_keep_30 (f_ShutWaysModel_keep_30 n) from rfl]
    unfold b_ShutWaysModel_keep_30
    by_cases c : s = 16
    · subst c
      rw [if_pos (show (16 : Int32) ≤ nI 16 from nI_le (a := 16) (Nat.le_refl _) (by decide)), gixN hi (by decide), nIc (by omega), narB1]
      exact ⟨image, rfl, fun t h1 h2 => by omega, fun _ _ => rfl⟩
    · rw [if_neg (show ¬ (16 : Int32) ≤ nI s from nI_ge (b := 16) (by omega) (by decide)), gixN (by omega) (by decide)]
      simp only [nmI, e17, nI_1, nIc (show s < 2 ^ 31 by omega), nIc (show 17 * i + s < 2 ^ 31 by omega), gixN (show 17 * i + s < 34 by omega) (by decide : 34 < 2 ^ 31)]
      obtain ⟨im, h1, h2, h3⟩ := ih (s + 1) (upd image (17 * i + s) (shut s)) (by omega) (by omega)
      refine ⟨im, h1, ?_, ?_⟩
      · intro t a b
        by_cases e : t = s
        · subst e
          rw [h3 _ (by omega)]
          exact pk_us
        · exact h2 t (by omega) b
      · intro k a
        rw [h3 k (by omega)]
        exact pk_un (by omega)
theorem back42 {i : Nat} (hi : i < 2) (day : Int32) (isK image : Nat → Int32) : ∀ (n s : Nat) (shut : Nat → Int32), s ≤ 16 → 16 - s < n → ∃ sh : Nat → Int32, f_ShutWaysModel_back_42 n (nI i) (nI s) day 2 isK 34 image 16 shut = some (day, day, sh) ∧ (∀ t, s ≤ t → t < 16 → sh t = image (17 * i + t)) ∧ (∀ t, t < s → sh t = shut t) := by
  intro n
  induction n with
  | zero => intro s _ _ h; omega
  | succ n ih =>
    intro s shut hs hn
    rw [show f_ShutWaysModel_back_42 (n + 1) = b_ShutWaysModel_back_42 (f_ShutWaysModel_back_42 n) from rfl]
    unfold b_ShutWaysModel_back_42
    by_cases c : s = 16
    · subst c
      rw [if_pos (show (16 : Int32) ≤ nI 16 from nI_le (a := 16) (Nat.le_refl _) (by decide))]
      exact ⟨shut, rfl, fun t h1 h2 => by omega, fun _ _ => rfl⟩
    · rw [if_neg (show ¬ (16 : Int32) ≤ nI s from nI_ge (b := 16) (by omega) (by decide))]
      simp only [nmI, e17, nI_1, nIc (show s < 2 ^ 31 by omega), nIc (show 17 * i + s < 2 ^ 31 by omega), gixN (show 17 * i + s < 34 by omega) (by decide : 34 < 2 ^ 31), gixN (show s < 16 by omega) (by decide : 16 < 2 ^ 31)]
      obtain ⟨sh, h1, h2, h3⟩ := ih (s + 1) (upd shut s (image (17 * i + s))) (by omega) (by omega)
      refine ⟨sh, h1, ?_, ?_⟩
      · intro t a b
        by_cases e : t = s
        · subst e
          rw [h3 _ (by omega)]
          exact pk_us
        · exact h2 t (by omega) b
      · intro t a
        rw [h3 t (by omega)]
        exact pk_un (by omega)
theorem IDays.congr {K : Nat} {gone mday gone' mday' : Int32} {shut mshut shut' mshut' : Nat → Int32} (h : IDays K gone shut mday mshut) (e1 : gone' = gone) (e2 : mday' = mday) (e3 : ∀ s, s < 16 → shut' s = shut s) (e4 : ∀ s, s < 16 → mshut' s = mshut s) : IDays K gone' shut' mday' mshut' := by
  obtain ⟨d, hd, a, b, hs⟩ := h
  refine ⟨d, hd, e1.trans a, e2.trans b, fun s q => ?_⟩
  obtain ⟨h, h1, h2, h3, h4⟩ := hs s q
  exact ⟨h, h1, (e3 s q).trans h2, (e4 s q).trans h3, h4⟩
theorem IKept.congr {K i : Nat} {isK misK isK' misK' : Nat → Int32} {gone : Int32} {shut image image' : Nat → Int32} (h : IKept K i isK misK gone shut image) (e1 : isK' i = isK i) (e2 : misK' i = misK i) (e3 : ∀ s, s ≤ 16 → image' (17 * i + s) = image (17 * i + s)) : IKept K i isK' misK' gone shut image' := by
  rcases h with ⟨a, b⟩ | ⟨a, b, c⟩
  · exact Or.inl ⟨e1.trans a, e2.trans b⟩
  · exact Or.inr ⟨e1.trans a, e2.trans b, c.congr rfl (e3 16 (by decide)) (fun _ _ => rfl) (fun s h => e3 s (by omega))⟩
theorem two_cases (v : Int32) : (v < 0 ∨ 1 < v) ∨ v = nI 0 ∨ v = nI 1 := by
  rcases i32_ix v (show 2 < 2 ^ 31 by decide) with h | h | ⟨k, hk, rfl⟩
  · exact Or.inl (Or.inl h)
  · exact Or.inl (Or.inr (Int32.lt_of_lt_of_le (by decide : (1 : Int32) < nI 2) h))
  · rcases (show k = 0 ∨ k = 1 by omega) with rfl | rfl
    · exact Or.inr (Or.inl rfl)
    · exact Or.inr (Or.inr rfl)
theorem swkeep0 (g0 tg : Int32) (ts s0 isK : Nat → Int32) (g1 : Int32) (s1 : Nat → Int32) : ∃ F : Nat → Int32, f_ShutWays_keep (nI 0) g0 tg 16 ts 16 s0 2 isK g1 16 s1 = some (tg, tg, F, upd isK 0 1, g1, s1) ∧ ∀ s, s < 16 → F s = ts s := by
  obtain ⟨F, q1, q2⟩ := copy_ok g0 tg ts s0
  refine ⟨F, ?_, q2⟩
  unfold f_ShutWays_keep
  rw [outside_ok, if_neg (show ¬ (nI 0 < 0 ∨ 1 < nI 0) by decide)]
  simp only [Option.bind_some, if_pos (show nI 0 = 0 from rfl), if_pos (show (0 : Int32) = 0 from rfl), reduceIte, q1, gixN (show 0 < 2 by decide) (by decide : 2 < 2 ^ 31), nIc (show 0 < 2 ^ 31 by decide), narB1]
theorem swkeep1 (g0 tg : Int32) (ts s0 isK : Nat → Int32) (g1 : Int32) (s1 : Nat → Int32) : ∃ F : Nat → Int32, f_ShutWays_keep (nI 1) g0 tg 16 ts 16 s0 2 isK g1 16 s1 = some (tg, g0, s0, upd isK 1 1, tg, F) ∧ ∀ s, s < 16 → F s = ts s := by
  obtain ⟨F, q1, q2⟩ := copy_ok g1 tg ts s1
  refine ⟨F, ?_, q2⟩
  unfold f_ShutWays_keep
  rw [outside_ok, if_neg (show ¬ (nI 1 < 0 ∨ 1 < nI 1) by decide)]
  simp only [Option.bind_some, if_neg (show ¬ nI 1 = 0 by decide), if_pos (show nI 1 = 1 from rfl), if_pos (show (0 : Int32) = 0 from rfl), reduceIte, q1, gixN (show 1 < 2 by decide) (by decide : 2 < 2 ^ 31), nIc (show 1 < 2 ^ 31 by decide), narB1]
theorem nI_two {i : Nat} (hi : i < 2) : ¬ (nI i < 0 ∨ 1 < nI i) := by
  rcases (show i = 0 ∨ i = 1 by omega) with rfl | rfl <;> decide
theorem mkeep_eq {i : Nat} (hi : i < 2) (day : Int32) (image isK shut : Nat → Int32) : f_ShutWaysModel_keep (nI i) day 34 image 2 isK 16 shut = f_ShutWaysModel_keep_30 FU (nI i) (nI 0) day 34 (upd image (17 * i + 16) day) 2 isK 16 shut := by
  unfold f_ShutWaysModel_keep
  generalize FU = N
  have e : ((17 * nI i) + 16 : Int32) = nI (17 * i + 16) := e17 i 16
  rw [in_ok, if_neg (nI_two hi), Option.bind_some, if_neg one_ne, e, gixN (show 17 * i + 16 < 34 by omega) (by decide : 34 < 2 ^ 31), nIc (show 17 * i + 16 < 2 ^ 31 by omega), nI_0]
theorem mkeep_ok {i : Nat} (hi : i < 2) (day : Int32) (image isK shut : Nat → Int32) : ∃ im : Nat → Int32, f_ShutWaysModel_keep (nI i) day 34 image 2 isK 16 shut = some (day, im, upd isK i 1) ∧ (∀ t, t < 16 → im (17 * i + t) = shut t) ∧ im (17 * i + 16) = day ∧ (∀ k, (k < 17 * i ∨ 17 * i + 16 < k) → im k = image k) := by
  have hFU : 16 - 0 < FU := by rw [FU_eq]; decide
  rw [mkeep_eq hi]
  generalize FU = N at hFU ⊢
  obtain ⟨im, h1, h2, h3⟩ := keep30 hi day isK shut N 0 (upd image (17 * i + 16) day) (by omega) hFU
  refine ⟨im, h1, fun t ht => h2 t (by omega) ht, ?_, ?_⟩
  · rw [h3 _ (by omega)]; exact pk_us
  · intro k hk
    rw [h3 k (by omega)]
    exact pk_un (by omega)
theorem keep_out {a1 : Int32} (c : a1 < 0 ∨ 1 < a1) (g0 tg : Int32) (ts s0 isK : Nat → Int32) (g1 : Int32) (s1 : Nat → Int32) : f_ShutWays_keep a1 g0 tg 16 ts 16 s0 2 isK g1 16 s1 = some (-2, g0, s0, isK, g1, s1) := by
  unfold f_ShutWays_keep
  rw [outside_ok, if_pos c, Option.bind_some, if_neg one_ne]
theorem mkeep_out {a1 : Int32} (c : a1 < 0 ∨ 1 < a1) (day : Int32) (image isK shut : Nat → Int32) : f_ShutWaysModel_keep a1 day 34 image 2 isK 16 shut = some (-2, image, isK) := by
  unfold f_ShutWaysModel_keep
  generalize FU = N
  rw [in_ok, if_pos c, Option.bind_some, if_pos rfl]
theorem pl_keep : PL_keep INV := by
  intro x m a1 hI
  obtain ⟨C, K, hT, hP, hD, h0, h1, hN⟩ := hI
  rcases two_cases a1 with c | rfl | rfl
  · exact ⟨_, keep_out c _ _ _ _ _ _ _, _, mkeep_out c _ _ _ _, rfl, C, K, hT, hP, hD, h0, h1, hN⟩
  · obtain ⟨F, q1, q2⟩ := swkeep0 x.2.2.2.2.2.2.2.2.2.2.1.1 x.2.2.2.2.2.2.2.2.1.1 x.2.2.2.2.2.2.2.2.1.2 x.2.2.2.2.2.2.2.2.2.2.1.2 x.1.2.1 x.2.2.2.2.2.2.2.2.2.2.2.1.1 x.2.2.2.2.2.2.2.2.2.2.2.1.2
    obtain ⟨im, w1, w2, w3, w4⟩ := mkeep_ok (i := 0) (by decide) m.1.2.2.2.2.2.2.2.2.1 m.2.2.2.2.1.2.2.1 m.2.2.2.2.1.2.2.2.1 m.2.2.2.2.1.1
    exact ⟨_, q1, _, w1, hD.eq.1, C, K, hT, hP, hD, Or.inr ⟨pk_us (f := x.1.2.1) (k := 0) (x := 1), pk_us (f := m.2.2.2.2.1.2.2.2.1) (k := 0) (x := 1), hD.congr rfl w3 q2 (fun s hs => w2 s hs)⟩, h1.congr (pk_un (f := x.1.2.1) (x := 1) (j := 1) (k := 0) (by decide)) (pk_un (f := m.2.2.2.2.1.2.2.2.1) (x := 1) (j := 1) (k := 0) (by decide)) (fun s hs => w4 _ (by omega)), hN⟩
  · obtain ⟨F, q1, q2⟩ := swkeep1 x.2.2.2.2.2.2.2.2.2.2.1.1 x.2.2.2.2.2.2.2.2.1.1 x.2.2.2.2.2.2.2.2.1.2 x.2.2.2.2.2.2.2.2.2.2.1.2 x.1.2.1 x.2.2.2.2.2.2.2.2.2.2.2.1.1 x.2.2.2.2.2.2.2.2.2.2.2.1.2
    obtain ⟨im, w1, w2, w3, w4⟩ := mkeep_ok (i := 1) (by decide) m.1.2.2.2.2.2.2.2.2.1 m.2.2.2.2.1.2.2.1 m.2.2.2.2.1.2.2.2.1 m.2.2.2.2.1.1
    exact ⟨_, q1, _, w1, hD.eq.1, C, K, hT, hP, hD, h0.congr (pk_un (f := x.1.2.1) (x := 1) (j := 0) (k := 1) (by decide)) (pk_un (f := m.2.2.2.2.1.2.2.2.1) (x := 1) (j := 0) (k := 1) (by decide)) (fun s hs => w4 _ (by omega)), Or.inr ⟨pk_us (f := x.1.2.1) (k := 1) (x := 1), pk_us (f := m.2.2.2.2.1.2.2.2.1) (k := 1) (x := 1), hD.congr rfl w3 q2 (fun s hs => w2 s hs)⟩, hN⟩
