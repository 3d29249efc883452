theorem one_ne : ¬ (1 : Int32) = 0 := by decide
theorem tell_ok {N j : Nat} (hj : j < N) (hN : N < 2 ^ 31) {sf st sy sp : Nat → Int32} (a2 : Int32) : f_Roads_tell (nI j) a2 N sf N st N sy N sp = some (if a2 = 0 then sf j else if a2 = 1 then st j else if a2 = 2 then sy j else if a2 = 3 then sp j else -3) := by
  unfold f_Roads_tell
  simp only [gixN hj hN, nIc (show j < 2 ^ 31 by omega)]
  by_cases c0 : a2 = 0
  · rw [if_pos c0, if_pos c0]
  · rw [if_neg c0, if_neg c0]
    by_cases c1 : a2 = 1
    · rw [if_pos c1, if_pos c1]
    · rw [if_neg c1, if_neg c1]
      by_cases c2 : a2 = 2
      · rw [if_pos c2, if_pos c2]
      · rw [if_neg c2, if_neg c2]
        by_cases c3 : a2 = 3
        · rw [if_pos c3, if_pos c3]
        · rw [if_neg c3, if_neg c3]
theorem street_core {C K : Nat} (hK : K ≤ 12) {sf st sy sp mf mt my mp sh msh : Nat → Int32} (hr : ∀ s, s < K → IRoad C s sf st sy sp (mf s) (mt s) (my s) (mp s)) (hd : ∀ s, s < 16 → sh s = msh s) (a1 a2 : Int32) :
    ∃ r, f_ShutWays_street a1 a2 (nI K) 16 sf 16 st 16 sy 16 sp 16 sh = some r ∧ f_ShutWaysModel_street a1 a2 (nI K) 16 mf 16 mt 16 my 12 mp 16 msh = some r := by
  unfold f_ShutWays_street f_ShutWays_street_46 f_ShutWaysModel_street
  rcases has_ok a1 (show K < 2 ^ 31 by omega) with ⟨h1, n1⟩ | ⟨h1, j, hj, rfl⟩
  · rcases isStreet_ok a1 hK with ⟨h2, n2⟩ | ⟨h2, n2⟩
    · rw [h1, h2]; exact ⟨-2, rfl, rfl⟩
    · exact absurd n2 n1
  · rcases isStreet_ok (nI j) hK with ⟨h2, n2⟩ | ⟨h2, n2⟩
    · exact absurd ⟨j, hj, rfl⟩ n2
    · obtain ⟨a, b, y, p, -, -, -, -, -, -, e1, e2, e3, e4, e5, e6, e7, e8⟩ := hr j hj
      rw [h1, h2]
      simp only [Option.bind_some, if_neg one_ne, gixN (show j < 16 by omega) (by decide : 16 < 2 ^ 31), gixN (show j < 12 by omega) (by decide : 12 < 2 ^ 31), nIc (show j < 2 ^ 31 by omega), tell_ok (show j < 16 by omega) (by decide : 16 < 2 ^ 31), e1, e2, e3, e4, e5, e6, e7, e8, hd j (by omega)]
      by_cases c4 : a2 = 4
      · subst c4
        exact ⟨msh j, by rw [if_pos rfl], by rw [if_neg (by decide), if_neg (by decide), if_neg (by decide), if_neg (by decide), if_pos rfl]⟩
      · rw [if_neg c4, if_neg c4]
        refine ⟨_, rfl, ?_⟩
        by_cases c0 : a2 = 0
        · rw [if_pos c0, if_pos c0]
        · rw [if_neg c0, if_neg c0]
          by_cases c1 : a2 = 1
          · rw [if_pos c1, if_pos c1]
          · rw [if_neg c1, if_neg c1]
            by_cases c2 : a2 = 2
            · rw [if_pos c2, if_pos c2]
            · rw [if_neg c2, if_neg c2]
              by_cases c3 : a2 = 3
              · rw [if_pos c3, if_pos c3]
              · rw [if_neg c3, if_neg c3]
theorem IDays.eq {K : Nat} {gone mday : Int32} {shut mshut : Nat → Int32} (h : IDays K gone shut mday mshut) : gone = mday ∧ ∀ s, s < 16 → shut s = mshut s := by
  obtain ⟨d, -, e1, e2, hs⟩ := h
  refine ⟨e1.trans e2.symm, fun s hs' => ?_⟩
  obtain ⟨h, -, a, b, -⟩ := hs s hs'
  exact a.trans b.symm
theorem pl_street : PL_street INV := by
  intro x m a1 a2 hI
  obtain ⟨C, K, hT, hP, hD, h0, h1, hN⟩ := id hI
  obtain ⟨⟨-, -, hK⟩, -, ⟨e1, e2, -⟩, hr, -⟩ := id hP
  obtain ⟨r, q1, q2⟩ := street_core hK hr hD.eq.2 a1 a2
  rw [← e1] at q1
  rw [← e2] at q2
  exact ⟨r, q1, r, q2, rfl, hI⟩
theorem lane_core {C ln : Nat} (hl : ln ≤ 4) {lf lt ly lp mlane : Nat → Int32} (hr : ∀ l, l < ln → IRoad C l lf lt ly lp (mlane (4 * l)) (mlane (4 * l + 1)) (mlane (4 * l + 2)) (mlane (4 * l + 3))) (a1 a2 : Int32) :
    ∃ r, f_ShutWays_lane a1 a2 (nI ln) 4 lf 4 lt 4 ly 4 lp = some r ∧ f_ShutWaysModel_lane a1 a2 (nI ln) 16 mlane = some r := by
  unfold f_ShutWays_lane f_ShutWaysModel_lane f_ShutWaysModel_lane_41
  have hs : ∀ v : Int32, f_ShutWaysModel_isStreet v (nI ln) = (f_ShutWaysModel_in v 0 (nI ln - 1)).bind (fun r1 => gz r1 (some r1)) := fun v => rfl
  rcases has_ok a1 (show ln < 2 ^ 31 by omega) with ⟨h1, n1⟩ | ⟨h1, j, hj, rfl⟩
  · have e : f_ShutWaysModel_in a1 0 (nI ln - 1) = some 0 := by
      rcases isStreet_ok a1 (show ln ≤ 12 by omega) with ⟨h2, n2⟩ | ⟨h2, n2⟩
      · rw [hs, in_ok] at h2
        rw [in_ok]
        by_cases c : a1 < 0 ∨ nI ln - 1 < a1
        · rw [if_pos c]
        · rw [if_neg c] at h2
          exact absurd h2 (by decide)
      · exact absurd n2 n1
    rw [h1, e]
    exact ⟨-2, rfl, rfl⟩
  · have e : f_ShutWaysModel_in (nI j) 0 (nI ln - 1) = some 1 := by
      rcases isStreet_ok (nI j) (show ln ≤ 12 by omega) with ⟨h2, n2⟩ | ⟨h2, n2⟩
      · exact absurd ⟨j, hj, rfl⟩ n2
      · rw [hs, in_ok] at h2
        rw [in_ok]
        by_cases c : nI j < 0 ∨ nI ln - 1 < nI j
        · rw [if_pos c] at h2
          exact absurd h2 (by decide)
        · rw [if_neg c]
    obtain ⟨a, b, y, p, -, -, -, -, -, -, e1, e2, e3, e4, e5, e6, e7, e8⟩ := hr j hj
    rw [h1, e, in_ok]
    simp only [Option.bind_some, if_neg one_ne, tell_ok (show j < 4 by omega) (by decide : 4 < 2 ^ 31)]
    refine ⟨_, rfl, ?_⟩
    have key : ∀ k : Nat, k < 4 → (gix (4 * nI j + nI k) 16 (some (mlane (4 * nI j + nI k).toNatClampNeg)) : Option Int32) = some (mlane (4 * j + k)) := by
      intro k hk
      have e9 : (4 * nI j + nI k : Int32) = nI (4 * j + k) := by
        rw [show (4 : Int32) = nI 4 from rfl, pk_mul, nI_add]
      rw [e9, gixN (by omega) (by decide), nIc (by omega)]
    by_cases c0 : a2 = 0
    · subst c0
      rw [if_pos rfl, if_neg (by decide), e1]
      exact (key 0 (by decide)).trans (by rw [Nat.add_zero, e2])
    · rw [if_neg c0]
      by_cases c1 : a2 = 1
      · subst c1
        rw [if_pos rfl, if_neg (by decide), e3]
        exact (key 1 (by decide)).trans (by rw [e4])
      · rw [if_neg c1]
        by_cases c2 : a2 = 2
        · subst c2
          rw [if_pos rfl, if_neg (by decide), e5]
          exact (key 2 (by decide)).trans (by rw [e6])
        · rw [if_neg c2]
          by_cases c3 : a2 = 3
          · subst c3
            rw [if_pos rfl, if_neg (by decide), e7]
            exact (key 3 (by decide)).trans (by rw [e8])
          · rw [if_neg c3]
            have c : a2 < 0 ∨ 3 < a2 := by
              rcases i32_ix a2 (show 4 < 2 ^ 31 by decide) with h | h | ⟨k, hk, rfl⟩
              · exact Or.inl h
              · right
                have h := Int32.le_iff_toInt_le.mp h
                apply Int32.lt_iff_toInt_lt.mpr
                rw [nI_toInt (by decide)] at h
                have : (3 : Int32).toInt = 3 := by decide
                omega
              · exfalso
                rcases (show k = 0 ∨ k = 1 ∨ k = 2 ∨ k = 3 by omega) with rfl | rfl | rfl | rfl
                · exact c0 rfl
                · exact c1 rfl
                · exact c2 rfl
                · exact c3 rfl
            rw [if_pos c, if_pos rfl]
theorem pl_lane : PL_lane INV := by
  intro x m a1 a2 hI
  obtain ⟨C, K, hT, hP, hD, h0, h1, hN⟩ := id hI
  obtain ⟨-, -, -, -, ⟨ln, hl, e1, e2, hr⟩, -⟩ := id hP
  obtain ⟨r, q1, q2⟩ := lane_core hl hr a1 a2
  rw [← e1] at q1
  rw [← e2] at q2
  exact ⟨r, q1, r, q2, rfl, hI⟩
theorem night_core {K n : Nat} (hK : K ≤ 12) (hn : n ≤ 12) {told tell : Nat → Int32} (hb : ∀ i, i < n → told i = tell i ∧ (told i = -1 ∨ ∃ s : Nat, s < K ∧ told i = nI s)) (a1 : Int32) :
    ∃ (r : Int32) (n' : Nat) (t1 t2 : Nat → Int32), f_ShutWays_night a1 (nI n) (nI K) 12 told = some (r, nI n', t1) ∧ f_ShutWaysModel_night a1 (nI K) (nI n) 12 tell = some (r, nI n', t2) ∧ n' ≤ 12 ∧ ∀ i, i < n' → t1 i = t2 i ∧ (t1 i = -1 ∨ ∃ s : Nat, s < K ∧ t1 i = nI s) := by
  have go : (a1 = -1 ∨ ∃ s : Nat, s < K ∧ a1 = nI s) → ∃ (r : Int32) (n' : Nat) (t1 t2 : Nat → Int32), f_ShutWays_night_22 a1 (nI n) (nI K) 12 told = some (r, nI n', t1) ∧ f_ShutWaysModel_night_16 a1 (nI K) (nI n) 12 tell = some (r, nI n', t2) ∧ n' ≤ 12 ∧ ∀ i, i < n' → t1 i = t2 i ∧ (t1 i = -1 ∨ ∃ s : Nat, s < K ∧ t1 i = nI s) := by
    intro ha
    unfold f_ShutWays_night_22 f_ShutWaysModel_night_16
    by_cases c : n = 12
    · subst c
      rw [if_neg (nI_nlt (Nat.le_refl _) (by decide)), if_pos (show nI 12 = 12 from rfl)]
      exact ⟨-5, 12, told, tell, rfl, rfl, by decide, hb⟩
    · rw [if_pos (nI_lt (by omega) (by decide)), if_neg (show ¬ nI n = 12 from nI_ne (b := 12) (by omega) (by decide) c), gixN (by omega) (by decide), gixN (by omega) (by decide)]
      simp only [nmI, nI_1, nIc (show n < 2 ^ 31 by omega)]
      refine ⟨_, n + 1, _, _, rfl, rfl, by omega, ?_⟩
      intro i hi
      by_cases e : i = n
      · subst e
        rw [pk_us, pk_us]
        exact ⟨rfl, ha⟩
      · rw [pk_un e, pk_un e]
        exact hb i (by omega)
  unfold f_ShutWays_night f_ShutWaysModel_night
  by_cases c : a1 = -1
  · rw [if_pos c, if_pos c]
    exact go (Or.inl c)
  · rw [if_neg c, if_neg c]
    rcases has_ok a1 (show K < 2 ^ 31 by omega) with ⟨h1, n1⟩ | ⟨h1, j, hj, rfl⟩
    · rcases isStreet_ok a1 hK with ⟨h2, n2⟩ | ⟨h2, n2⟩
      · rw [h1, h2]
        exact ⟨-2, n, told, tell, rfl, rfl, hn, hb⟩
      · exact absurd n2 n1
    · rcases isStreet_ok (nI j) hK with ⟨h2, n2⟩ | ⟨h2, n2⟩
      · exact absurd ⟨j, hj, rfl⟩ n2
      · rw [h1, h2]
        exact go (Or.inr ⟨j, hj, rfl⟩)
theorem pl_night : PL_night INV := by
  intro x m a1 hI
  obtain ⟨C, K, hT, hP, hD, h0, h1, ⟨n, hn, e1, e2, hb⟩⟩ := hI
  obtain ⟨⟨-, -, hK⟩, -, ⟨e3, e4, -⟩, -⟩ := id hP
  obtain ⟨r, n', t1, t2, q1, q2, h3, h4⟩ := night_core hK hn hb a1
  rw [← e1, ← e3] at q1
  rw [← e4, ← e2] at q2
  exact ⟨_, q1, _, q2, rfl, C, K, hT, hP, hD, h0, h1, n', h3, rfl, rfl, h4⟩
theorem flood_core {K : Nat} (hK : K ≤ 12) {sh msh : Nat → Int32} (hs : ∀ s, s < 16 → ∃ h : Nat, h ≤ 99 ∧ sh s = nI h ∧ msh s = nI h ∧ (K ≤ s → h = 0)) (a1 a2 : Int32) :
    ∃ (r : Int32) (t1 t2 : Nat → Int32), f_ShutWays_flood a1 a2 (nI K) 16 sh = some (r, t1) ∧ f_ShutWaysModel_flood a1 a2 (nI K) 16 msh = some (r, t2) ∧ ∀ s, s < 16 → ∃ h : Nat, h ≤ 99 ∧ t1 s = nI h ∧ t2 s = nI h ∧ (K ≤ s → h = 0) := by
  unfold f_ShutWays_flood f_ShutWaysModel_flood f_ShutWaysModel_flood_49
  rcases has_ok a1 (show K < 2 ^ 31 by omega) with ⟨h1, n1⟩ | ⟨h1, j, hj, rfl⟩
  · rcases isStreet_ok a1 hK with ⟨h2, n2⟩ | ⟨h2, n2⟩
    · rw [h1, h2]
      exact ⟨-2, sh, msh, rfl, rfl, hs⟩
    · exact absurd n2 n1
  · rcases isStreet_ok (nI j) hK with ⟨h2, n2⟩ | ⟨h2, n2⟩
    · exact absurd ⟨j, hj, rfl⟩ n2
    · rw [h1, h2]
      simp only [Option.bind_some, if_neg one_ne, outside_ok, in_ok]
      by_cases c : a2 < 1 ∨ 99 < a2
      · rw [if_pos c, if_pos c, if_neg one_ne, if_pos rfl]
        exact ⟨-3, sh, msh, rfl, rfl, hs⟩
      · rw [if_neg c, if_neg c, if_pos rfl, if_neg one_ne]
        obtain ⟨k, hk1, hk2, rfl⟩ : ∃ k : Nat, 1 ≤ k ∧ k ≤ 99 ∧ a2 = nI k := by
          rcases i32_ix a2 (show 100 < 2 ^ 31 by decide) with h | h | ⟨k, hk, rfl⟩
          · exact absurd (Or.inl (Int32.lt_trans h (by decide))) c
          · exact absurd (Or.inr (Int32.lt_of_lt_of_le (by decide : (99 : Int32) < nI 100) h)) c
          · refine ⟨k, ?_, by omega, rfl⟩
            rcases Nat.eq_zero_or_pos k with z | z
            · subst z; exact absurd (Or.inl (by decide)) c
            · exact z
        obtain ⟨h, hh, e1, e2, e3⟩ := hs j (by omega)
        simp only [gixN (show j < 16 by omega) (by decide : 16 < 2 ^ 31), nIc (show j < 2 ^ 31 by omega), e1, e2, nmI, pk_us]
        have fin : ∀ v : Nat, v ≤ 99 → ∀ s, s < 16 → ∃ h : Nat, h ≤ 99 ∧ upd sh j (nI v) s = nI h ∧ upd msh j (nI v) s = nI h ∧ (K ≤ s → h = 0) := by
          intro v hv s hs'
          by_cases e : s = j
          · subst e
            exact ⟨v, hv, pk_us, pk_us, fun z => by omega⟩
          · rw [pk_un e, pk_un e]
            exact hs s hs'
        by_cases q : k ≤ h
        · rw [if_neg (nI_nlt q (by omega)), if_pos (nI_le q (by omega))]
          exact ⟨nI h, _, _, rfl, rfl, fin h hh⟩
        · rw [if_pos (nI_lt (by omega) (by omega)), if_neg (nI_ge (by omega) (by omega))]
          exact ⟨nI k, _, _, rfl, rfl, fin k hk2⟩
theorem pl_flood : PL_flood INV := by
  intro x m a1 a2 hI
  obtain ⟨C, K, hT, hP, ⟨d, hd, e1, e2, hs⟩, h0, h1, hN⟩ := hI
  obtain ⟨⟨-, -, hK⟩, -, ⟨e3, e4, -⟩, -⟩ := id hP
  obtain ⟨r, t1, t2, q1, q2, h3⟩ := flood_core hK hs a1 a2
  rw [← e3] at q1
  rw [← e4] at q2
  exact ⟨_, q1, _, q2, rfl, C, K, hT, hP, ⟨d, hd, e1, e2, h3⟩, h0, h1, hN⟩
