/-! ===== numbers of the machine and of the mathematics ===== -/
theorem gixN {α : Type} {i N : Nat} {k : Option α} (h : i < N) (hN : N < 2 ^ 31) : gix (nI i) N k = k := gix_ok (vp_in_nI h hN)
theorem nIc {n : Nat} (h : n < 2 ^ 31) : (nI n).toNatClampNeg = n := nI_clamp h
theorem FU_eq : FU = 1000000 := rfl
theorem nI_subeq {a b x : Nat} (ha : a < 2 ^ 30) (hb : b < 2 ^ 30) (hx : x < 2 ^ 30) : nI x = nI a - nI b ↔ x + b = a := by
  constructor
  · intro h
    have h1 : (nI x).toInt = (nI a - nI b).toInt := by rw [h]
    rw [pk_sub_toInt ha hb, nI_toInt (by omega)] at h1
    omega
  · intro h
    rw [← h, pk_sub (by omega)]
    congr 1
    omega
theorem nI_ne {a b : Nat} (ha : a < 2 ^ 31) (hb : b < 2 ^ 31) (h : a ≠ b) : ¬ nI a = nI b := fun e => h ((nI_eq ha hb).mp e)
theorem nI_m1 {a : Nat} (ha : a < 2 ^ 31) : ¬ nI a = -1 := by
  intro h
  have h1 : (nI a).toInt = (-1 : Int32).toInt := by rw [h]
  rw [nI_toInt ha] at h1
  have : (-1 : Int32).toInt = -1 := by decide
  omega
theorem fill_loop (x : Int32) {N : Nat} (hN : N < 2 ^ 30) : ∀ (n j : Nat) (f : Nat → Int32), j ≤ N → N - j < n → ∃ g : Nat → Int32, f_Arrays_fill_5 n x (nI j) (nI N) N f = some g ∧ (∀ i, j ≤ i → i < N → g i = x) ∧ (∀ i, (i < j ∨ N ≤ i) → g i = f i) := by
  intro n
  induction n with
  | zero => intro j f _ h; omega
  | succ n ih =>
    intro j f hj hn
    rw [show f_Arrays_fill_5 (n + 1) = b_Arrays_fill_5 (f_Arrays_fill_5 n) from rfl]
    unfold b_Arrays_fill_5
    by_cases c : j = N
    · subst c
      rw [if_pos (nI_le (Nat.le_refl _) (by omega))]
      exact ⟨f, rfl, fun i h1 h2 => by omega, fun i _ => rfl⟩
    · rw [if_neg (nI_ge (by omega) (by omega)), gixN (by omega) (by omega), nI_1, nIc (by omega)]
      obtain ⟨g, h1, h2, h3⟩ := ih (j + 1) (upd f j x) (by omega) (by omega)
      refine ⟨g, h1, ?_, ?_⟩
      · intro i a b
        by_cases e : i = j
        · subst e; rw [h3 i (by omega)]; exact pk_us
        · exact h2 i (by omega) b
      · intro i a
        rw [h3 i (by omega)]
        exact pk_un (by omega)
theorem fill_ok (x : Int32) {N : Nat} (hN : N < 100000) (f : Nat → Int32) : ∃ g : Nat → Int32, f_Arrays_fill x N f = some g ∧ (∀ i, i < N → g i = x) ∧ (∀ i, N ≤ i → g i = f i) := by
  obtain ⟨g, h1, h2, h3⟩ := fill_loop x (N := N) (by omega) FU 0 f (Nat.zero_le _) (by rw [FU_eq]; omega)
  exact ⟨g, h1, fun i h => h2 i (Nat.zero_le _) h, fun i h => h3 i (Or.inr h)⟩
/-- streets as the machine has them and as numbers -/
def Cod (K C : Nat) (fr to ya sh : Nat → Nat) (frF toF yaF shF : Nat → Int32) : Prop :=
  ∀ s, s < K → frF s = nI (fr s) ∧ toF s = nI (to s) ∧ yaF s = nI (ya s) ∧ shF s = nI (sh s) ∧ fr s < C ∧ to s < C ∧ fr s ≠ to s ∧ 1 ≤ ya s ∧ ya s ≤ 198 ∧ sh s ≤ 99
theorem near_ok {a b y : Nat} {F : Nat → Int32} {D : Nat → Nat} (ha : a < 8) (hb : b < 8) (hF : ∀ v, v < 8 → F v = nI (D v)) (hD : ∀ v, D v ≤ FARn) (hy : y ≤ 198) :
    ∃ (r : Int32) (G : Nat → Int32), f_Way_comesNearer (nI a) (nI b) (nI y) 8 F = some (r, G) ∧ ((r = 1 ∧ (D b + y < D a ∨ D a + y < D b)) ∨ (r = 0 ∧ ¬ D b + y < D a ∧ ¬ D a + y < D b)) ∧
      ∀ v, v < 8 → G v = nI ((if D b + y < D a then updN D a (D b + y) else if D a + y < D b then updN D b (D a + y) else D) v) := by
  have f1 : FARn = 1000000 := rfl
  have da := hD a
  have db := hD b
  unfold f_Way_comesNearer
  simp only [gixN ha (by decide : 8 < 2 ^ 31), gixN hb (by decide : 8 < 2 ^ 31), nIc (show a < 2 ^ 31 by omega), nIc (show b < 2 ^ 31 by omega), hF a ha, hF b hb, nI_add, nmI]
  by_cases c1 : D b + y < D a
  · rw [if_neg (nI_ge c1 (by omega))]
    refine ⟨1, _, rfl, Or.inl ⟨rfl, Or.inl c1⟩, ?_⟩
    intro v hv
    rw [if_pos c1]
    by_cases e : v = a
    · subst e; rw [pk_us, updN_self]
    · rw [pk_un e, updN_ne _ _ e, hF v hv]
  · rw [if_pos (nI_le (by omega) (by omega))]
    by_cases c2 : D a + y < D b
    · rw [if_neg (nI_ge c2 (by omega))]
      refine ⟨1, _, rfl, Or.inl ⟨rfl, Or.inr c2⟩, ?_⟩
      intro v hv
      rw [if_neg c1, if_pos c2]
      by_cases e : v = b
      · subst e; rw [pk_us, updN_self]
      · rw [pk_un e, updN_ne _ _ e, hF v hv]
    · rw [if_pos (nI_le (by omega) (by omega))]
      refine ⟨0, _, rfl, Or.inr ⟨rfl, c1, c2⟩, ?_⟩
      intro v hv
      rw [if_neg c1, if_neg c2, hF v hv]
section Meas
variable {K C : Nat} {fr to ya sh : Nat → Nat} {frF toF yaF shF : Nat → Int32}
theorem meas40 (hK : K ≤ 16) (hC : C ≤ 8) (H : Cod K C fr to ya sh frF toF yaF shF) {D : Nat → Nat} (hD : ∀ v, D v ≤ FARn) (x5 : Int32) (k22 : Int32 → Int32 → Int32 → Nat → (Nat → Int32) → Nat → (Nat → Int32) → Nat → (Nat → Int32) → Nat → (Nat → Int32) → Nat → (Nat → Int32) → Option ((Nat → Int32))) :
    ∀ (n s : Nat) (x4 : Int32) (F : Nat → Int32), s ≤ K → K - s < n → (∀ v, v < 8 → F v = nI (rxs fr to ya sh s D v)) → (x4 = 1 ∨ (x4 = 0 ∧ rxs fr to ya sh s D = D)) →
      ∃ (x4' : Int32) (F' : Nat → Int32), f_Way_measure_40 k22 n x4 x5 (nI s) (nI K) 16 shF 8 F 16 frF 16 toF 16 yaF = k22 x4' (x5 + 1) (nI K) 16 shF 8 F' 16 frF 16 toF 16 yaF ∧ (∀ v, v < 8 → F' v = nI (rxs fr to ya sh K D v)) ∧ (x4' = 1 ∨ (x4' = 0 ∧ rxs fr to ya sh K D = D)) := by
  intro n
  induction n with
  | zero => intro s _ _ _ h; omega
  | succ n ih =>
    intro s x4 F hs hn hF hx
    rw [show f_Way_measure_40 k22 (n + 1) = b_Way_measure_40 k22 (f_Way_measure_40 k22 n) from rfl]
    unfold b_Way_measure_40
    by_cases c : s = K
    · subst c
      rw [if_pos (nI_le (Nat.le_refl _) (by omega))]
      exact ⟨x4, F, rfl, hF, hx⟩
    · have hsK : s < K := by omega
      obtain ⟨e1, e2, e3, e4, b1, b2, b3, b4, b5, b6⟩ := H s hsK
      have hDs : ∀ v, rxs fr to ya sh s D v ≤ FARn := fun v => Nat.le_trans (rxs_le D v s) (hD v)
      rw [if_neg (nI_ge hsK (by omega)), gixN (by omega) (by decide)]
      simp only [nIc (show s < 2 ^ 31 by omega), e1, e2, e3, e4, gixN (show s < 16 by omega) (by decide : 16 < 2 ^ 31), f_Way_measure_87, nI_1]
      by_cases c0 : sh s = 0
      · rw [if_pos (by rw [c0]; rfl)]
        obtain ⟨r, G, h1, h2, h3⟩ := near_ok (a := fr s) (b := to s) (y := ya s) (F := F) (D := rxs fr to ya sh s D) (by omega) (by omega) hF hDs (by omega)
        have eG : ∀ v, v < 8 → G v = nI (rxs fr to ya sh (s + 1) D v) := by
          intro v hv
          rw [h3 v hv]
          show _ = nI (rx fr to ya sh (rxs fr to ya sh s D) s v)
          unfold rx
          rw [if_pos c0]
        rw [h1]
        show ∃ x4' F', (if r = 0 then _ else _) = _ ∧ _
        rcases h2 with ⟨rfl, h2⟩ | ⟨rfl, h2, h4⟩
        · rw [if_neg (by decide)]
          exact ih (s + 1) 1 G (by omega) (by omega) eG (Or.inl rfl)
        · rw [if_pos rfl]
          refine ih (s + 1) x4 G (by omega) (by omega) eG ?_
          rcases hx with hx | ⟨hx, hx2⟩
          · exact Or.inl hx
          · refine Or.inr ⟨hx, ?_⟩
            show rx fr to ya sh (rxs fr to ya sh s D) s = D
            unfold rx
            rw [if_pos c0, if_neg h2, if_neg h4, hx2]
      · rw [if_neg (nI_ne0 (by omega) (by omega))]
        have er : rxs fr to ya sh (s + 1) D = rxs fr to ya sh s D := by
          show rx fr to ya sh (rxs fr to ya sh s D) s = _
          unfold rx
          rw [if_neg c0]
        refine ih (s + 1) x4 F (by omega) (by omega) (by rw [er]; exact hF) (by rw [er]; exact hx)
theorem rnds_stay {D : Nat → Nat} {t : Nat} (h : rxs fr to ya sh K (rnds fr to ya sh K t D) = rnds fr to ya sh K t D) : ∀ j, rnds fr to ya sh K (t + j) D = rnds fr to ya sh K t D
  | 0 => rfl
  | j + 1 => by
    show rxs fr to ya sh K (rnds fr to ya sh K (t + j) D) = _
    rw [rnds_stay h j, h]
theorem meas22 (hK : K ≤ 16) (hC : C ≤ 8) (H : Cod K C fr to ya sh frF toF yaF shF) {q : Nat} {E : Nat → Nat} (hE : ∀ k, C ≤ k + 1 → rnds fr to ya sh K k (D0 q) = E) :
    ∀ (n t : Nat) (x4 : Int32) (F : Nat → Int32), t ≤ 8 → 8 - t < n → (∀ v, v < 8 → F v = nI (rnds fr to ya sh K t (D0 q) v)) → (x4 = 1 ∨ (x4 = 0 ∧ rxs fr to ya sh K (rnds fr to ya sh K t (D0 q)) = rnds fr to ya sh K t (D0 q))) →
      ∃ F' : Nat → Int32, f_Way_measure_22 n x4 (nI t) (nI K) 16 shF 8 F 16 frF 16 toF 16 yaF = some F' ∧ ∀ v, v < 8 → F' v = nI (E v) := by
  intro n
  induction n with
  | zero => intro t _ _ _ h; omega
  | succ n ih =>
    intro t x4 F ht hn hF hx
    rw [show f_Way_measure_22 (n + 1) = b_Way_measure_22 (f_Way_measure_22 n) from rfl]
    unfold b_Way_measure_22
    have e8 : (8 : Int32) = nI 8 := rfl
    have top : ∀ v, rnds fr to ya sh K t (D0 q) v ≤ FARn := fun v => Nat.le_trans (rnds_le (D0 q) K v t) (by unfold D0; split; exact Nat.zero_le _; exact Nat.le_refl _)
    by_cases c : t = 8
    · subst c
      rw [if_pos (by rw [e8]; exact nI_le (Nat.le_refl _) (by decide))]
      exact ⟨F, rfl, fun v hv => by rw [hF v hv, hE 8 (by omega)]⟩
    · rw [if_neg (by rw [e8]; exact nI_ge (by omega) (by decide))]
      rcases hx with rfl | ⟨rfl, hx⟩
      · rw [if_neg (by decide)]
        obtain ⟨x4', F', h1, h2, h3⟩ := meas40 (x5 := nI t) hK hC H top (f_Way_measure_22 n) FU 0 0 F (Nat.zero_le _) (by rw [FU_eq]; omega) hF (Or.inr ⟨rfl, rfl⟩)
        rw [nI_0] at h1
        rw [h1, nI_1]
        refine ih (t + 1) x4' F' (by omega) (by omega) h2 ?_
        rcases h3 with h3 | ⟨h3, h4⟩
        · exact Or.inl h3
        · refine Or.inr ⟨h3, ?_⟩
          show rxs fr to ya sh K (rxs fr to ya sh K (rnds fr to ya sh K t (D0 q))) = rxs fr to ya sh K (rnds fr to ya sh K t (D0 q))
          rw [h4, h4]
      · rw [if_pos rfl]
        refine ⟨F, rfl, fun v hv => ?_⟩
        rw [hF v hv, ← rnds_stay hx 8, hE (t + 8) (by omega)]
theorem measure_ok (hK : K ≤ 16) (hC : C ≤ 8) (H : Cod K C fr to ya sh frF toF yaF shF) {q : Nat} (hq : q < C) {E : Nat → Nat} (hE : ∀ k, C ≤ k + 1 → rnds fr to ya sh K k (D0 q) = E) (F : Nat → Int32) :
    ∃ F' : Nat → Int32, f_Way_measure (nI q) (nI K) 16 shF 8 F 16 frF 16 toF 16 yaF = some F' ∧ ∀ v, v < 8 → F' v = nI (E v) := by
  unfold f_Way_measure
  obtain ⟨g, h1, h2, h3⟩ := fill_ok 1000000 (N := 8) (by decide) F
  rw [h1]
  show ∃ F', gix (nI q) 8 _ = some F' ∧ _
  rw [gixN (by omega) (by decide), nIc (by omega)]
  refine meas22 hK hC H hE FU 0 1 (upd g q 0) (Nat.zero_le _) (by rw [FU_eq]; decide) ?_ (Or.inl rfl)
  intro v hv
  show _ = nI (D0 q v)
  unfold D0
  by_cases e : v = q
  · subst e; rw [pk_us, if_pos rfl]; rfl
  · rw [pk_un e, if_neg e, h2 v hv]; rfl
end Meas
