/-! ===== the reference's layWay ===== -/
theorem nI_dec (i : Nat) : nI i + (-1) = nI i - 1 := (Int32.sub_eq_add_neg _ _).symm
section Lay
variable {K C q : Nat} {fr to ya y0 sh : Nat → Nat} {frF toF shF yF en : Nat → Int32} {cb : Nat → Bool} {ct : Nat} {x1 : Int32}
theorem behind_ok {s a : Nat} (hs : s < 16) (e1 : frF s = nI (fr s)) (e2 : toF s = nI (to s)) (b1 : fr s < 8) (b2 : to s < 8) (ha : a < 8) : f_ShutWaysModel_behind (nI s) (nI a) 16 frF 16 toF = some (if fr s = a then nI (to s) else if to s = a then nI (fr s) else -1) := by
  unfold f_ShutWaysModel_behind f_ShutWaysModel_behind_39
  simp only [gixN hs (by decide : 16 < 2 ^ 31), nIc (show s < 2 ^ 31 by omega), e1, e2, nI_eq (show fr s < 2 ^ 31 by omega) (show a < 2 ^ 31 by omega), nI_eq (show to s < 2 ^ 31 by omega) (show a < 2 ^ 31 by omega)]
  by_cases c1 : fr s = a
  · rw [if_pos c1, if_pos c1]
  · rw [if_neg c1, if_neg c1]
    by_cases c2 : to s = a
    · rw [if_pos c2, if_pos c2]
    · rw [if_neg c2, if_neg c2]
theorem lay87 {C : Nat} (hC : C ≤ 8) (k38 : _) (k48 : _) {s : Nat} (hs : s < 16) (e1 : frF s = nI (fr s)) (e2 : toF s = nI (to s)) (b1 : fr s < C) (b2 : to s < C) (b3 : fr s ≠ to s) (b5 : ya s ≤ 198) (b0 : sh s = 0) {D : Nat → Nat} (hD : ∀ v, D v ≤ FARn) {L : Nat → Int32} (hL : ∀ v, v < C → L v = nI (D v)) (x2 u v co tw ca dy al wm : Int32) (huv : v + u = nI (ya s)) (wy : Nat → Int32) :
    ∃ L' : Nat → Int32, f_ShutWaysModel_layWay_87 k38 k48 x1 x2 (nI s) u v co tw ca dy al wm 8 L 4 en 16 shF 16 yF 16 frF 16 toF 16 wy = k48 x1 x2 (nI (s + 1)) co tw ca dy al wm 8 L' 4 en 16 shF 16 yF 16 frF 16 toF 16 wy ∧ ∀ v, v < C → L' v = nI (rx fr to ya sh D s v) := by
  have f1 : FARn = 1000000 := rfl
  have da := hD (fr s)
  have db := hD (to s)
  have er : rx fr to ya sh D s = if D (to s) + ya s < D (fr s) then updN D (fr s) (D (to s) + ya s) else if D (fr s) + ya s < D (to s) then updN D (to s) (D (fr s) + ya s) else D := by unfold rx; rw [if_pos b0]
  rw [er]
  have hM1 : ∀ A, upd L (fr s) A (to s) = nI (D (to s)) := fun A => (pk_un (Ne.symm b3)).trans (hL _ (by omega))
  have hM2 : ∀ A, upd L (fr s) A (fr s) = A := fun A => pk_us
  unfold f_ShutWaysModel_layWay_87 f_ShutWaysModel_layWay_156 f_ShutWaysModel_layWay_223 f_ShutWaysModel_layWay_224
  simp only [gixN hs (by decide : 16 < 2 ^ 31), nIc (show s < 2 ^ 31 by omega), e1, e2, gixN (show fr s < 8 by omega) (by decide : 8 < 2 ^ 31), gixN (show to s < 8 by omega) (by decide : 8 < 2 ^ 31), nIc (show fr s < 2 ^ 31 by omega), nIc (show to s < 2 ^ 31 by omega), hL (fr s) (by omega), hL (to s) (by omega), huv, nI_add, hM1, hM2, nI_1]
  by_cases c1 : D (to s) + ya s < D (fr s)
  · rw [if_neg (nI_ge c1 (by omega)), if_pos (nI_le (show D (to s) ≤ D (to s) + ya s + ya s by omega) (by omega)), if_pos c1]
    refine ⟨_, rfl, fun v hv => ?_⟩
    by_cases z : v = to s
    · subst z
      rw [pk_us, updN_ne _ _ (Ne.symm b3)]
    · rw [pk_un z]
      by_cases z2 : v = fr s
      · subst z2; rw [pk_us, updN_self]
      · rw [pk_un z2, updN_ne _ _ z2, hL v hv]
  · rw [if_pos (nI_le (show D (fr s) ≤ D (to s) + ya s by omega) (by omega)), if_neg c1]
    by_cases c2 : D (fr s) + ya s < D (to s)
    · rw [if_neg (nI_ge c2 (by omega)), if_pos c2]
      refine ⟨_, rfl, fun v hv => ?_⟩
      by_cases z : v = to s
      · subst z
        rw [pk_us, updN_self]
      · rw [pk_un z, updN_ne _ _ z]
        by_cases z2 : v = fr s
        · subst z2; rw [pk_us]
        · rw [pk_un z2, hL v hv]
    · rw [if_pos (nI_le (show D (to s) ≤ D (fr s) + ya s by omega) (by omega)), if_neg c2]
      refine ⟨_, rfl, fun v hv => ?_⟩
      by_cases z : v = to s
      · subst z
        rw [pk_us]
      · rw [pk_un z]
        by_cases z2 : v = fr s
        · subst z2; rw [pk_us]
        · rw [pk_un z2, hL v hv]
/-- the streets as the reference has them: a cart makes a street longer -/
def CodM (K C : Nat) (fr to ya y0 sh : Nat → Nat) (frF toF yF shF : Nat → Int32) (cb : Nat → Bool) (ct : Nat) (x1 : Int32) : Prop :=
  (∀ s, s < K → f_ShutWaysModel_has x1 (nI s) = some (if cb s = true then 1 else 0)) ∧ (∀ s, s < K → ya s = y0 s + (if cb s = true then ct else 0)) ∧ (∀ s, s < K → yF s = nI (y0 s)) ∧ Cod K C fr to ya sh frF toF (fun s => nI (ya s)) shF
theorem lay48 (hK : K ≤ 16) (hC : C ≤ 8) (H : CodM K C fr to ya y0 sh frF toF yF shF cb ct x1) (k38 : _) {D : Nat → Nat} (hD : ∀ v, D v ≤ FARn) (x2 co tw dy wm : Int32) (wy : Nat → Int32) :
    ∀ (n s : Nat) (L : Nat → Int32), s ≤ K → K - s < n → (∀ v, v < C → L v = nI (rxs fr to ya sh s D v)) →
      ∃ L' : Nat → Int32, f_ShutWaysModel_layWay_48 k38 n x1 x2 (nI s) co tw (nI ct) dy (nI K) wm 8 L 4 en 16 shF 16 yF 16 frF 16 toF 16 wy = k38 x1 (x2 + 1) co tw (nI ct) dy (nI K) wm 8 L' 4 en 16 shF 16 yF 16 frF 16 toF 16 wy ∧ ∀ v, v < C → L' v = nI (rxs fr to ya sh K D v) := by
  intro n
  induction n with
  | zero => intro s _ _ h; omega
  | succ n ih =>
    intro s L hs hn hL
    rw [show f_ShutWaysModel_layWay_48 k38 (n + 1) = b_ShutWaysModel_layWay_48 k38 (f_ShutWaysModel_layWay_48 k38 n) from rfl]
    unfold b_ShutWaysModel_layWay_48
    by_cases c : s = K
    · subst c
      rw [if_pos (nI_le (Nat.le_refl _) (by omega))]
      exact ⟨L, rfl, hL⟩
    · have hsK : s < K := by omega
      obtain ⟨Hc, Hy, HF, HC⟩ := H
      obtain ⟨e1, e2, e3, e4, b1, b2, b3, b4, b5, b6⟩ := HC s hsK
      have hDs : ∀ v, rxs fr to ya sh s D v ≤ FARn := fun v => Nat.le_trans (rxs_le D v s) (hD v)
      rw [if_neg (nI_ge hsK (by omega)), gixN (by omega) (by decide), nIc (by omega), e4, gixN (by omega) (by decide), HF s hsK, Hc s hsK, Option.bind_some]
      by_cases c0 : sh s = 0
      · rw [if_pos (by rw [c0]; rfl)]
        have go : ∀ u : Int32, nI (y0 s) + u = nI (ya s) → ∃ L' : Nat → Int32, f_ShutWaysModel_layWay_87 k38 (f_ShutWaysModel_layWay_48 k38 n) x1 x2 (nI s) u (nI (y0 s)) co tw (nI ct) dy (nI K) wm 8 L 4 en 16 shF 16 yF 16 frF 16 toF 16 wy = k38 x1 (x2 + 1) co tw (nI ct) dy (nI K) wm 8 L' 4 en 16 shF 16 yF 16 frF 16 toF 16 wy ∧ ∀ v, v < C → L' v = nI (rxs fr to ya sh K D v) := by
          intro u hu
          obtain ⟨L', w1, w2⟩ := lay87 (x1 := x1) (en := en) (shF := shF) (yF := yF) (ya := ya) (sh := sh) hC k38 (f_ShutWaysModel_layWay_48 k38 n) (show s < 16 by omega) e1 e2 b1 b2 b3 b5 c0 hDs hL x2 u (nI (y0 s)) co tw (nI ct) dy (nI K) wm hu wy
          rw [w1]
          exact ih (s + 1) L' (by omega) (by omega) w2
        by_cases cc : cb s = true
        · rw [if_pos cc, if_neg one_ne]
          exact go _ (by rw [nI_add, Hy s hsK, if_pos cc])
        · rw [if_neg cc, if_pos rfl]
          refine go 0 ?_
          rw [Hy s hsK, if_neg cc]
          exact Int32.add_zero _
      · rw [if_neg (nI_ne0 (show 0 < sh s by omega) (by omega))]
        have er : rxs fr to ya sh (s + 1) D = rxs fr to ya sh s D := by
          show rx fr to ya sh (rxs fr to ya sh s D) s = _
          unfold rx
          rw [if_neg c0]
        unfold f_ShutWaysModel_layWay_224
        rw [nI_1]
        exact ih (s + 1) L (by omega) (by omega) (by rw [er]; exact hL)
/-- the least street that leads on, looked for from the last one down -/
theorem lay277 (hK : K ≤ 16) (hC : C ≤ 8) (H : CodM K C fr to ya y0 sh frF toF yF shF cb ct x1) (k259 : _) {E : Nat → Nat} (hE : ∀ v, E v ≤ FARn) {L : Nat → Int32} (hL : ∀ v, v < C → L v = nI (E v)) {a : Nat} (ha : a < C) (hx : nxs fr to ya sh E K a < K) {k : Nat} (hk : k < 16) (co tw dy : Int32) (wy : Nat → Int32) :
    ∀ (n j : Nat), j ≤ K → j < n →
      f_ShutWaysModel_layWay_277 k259 n x1 (nI a) (if lst (onb fr to ya sh E a) (K - j) j < K then nI (lst (onb fr to ya sh E a) (K - j) j) else -1) (nI j - 1) co tw (nI ct) dy (nI K) (nI k) 8 L 4 en 16 shF 16 yF 16 frF 16 toF 16 wy
        = k259 x1 (nI (oth fr to (nxs fr to ya sh E K a) a)) co tw (nI ct) dy (nI K) (nI (k + 1)) 8 L 4 en 16 shF 16 yF 16 frF 16 toF 16 (upd wy k (nI (nxs fr to ya sh E K a))) := by
  have f1 : FARn = 1000000 := rfl
  obtain ⟨Hc, Hy, HF, HC⟩ := H
  intro n
  induction n with
  | zero => intro j _ h; omega
  | succ n ih =>
    intro j hj hn
    rw [show f_ShutWaysModel_layWay_277 k259 (n + 1) = b_ShutWaysModel_layWay_277 k259 (f_ShutWaysModel_layWay_277 k259 n) from rfl]
    unfold b_ShutWaysModel_layWay_277
    cases j with
    | zero =>
      have hx' : lst (onb fr to ya sh E a) K 0 < K := hx
      obtain ⟨y1, y2, y3, y4⟩ := on_step (C := C) (sh := sh) (ya := ya) (E := E) (a := a) HC.b4 hx
      rw [if_pos (show nI 0 - 1 < 0 by decide), Nat.sub_zero, if_pos hx']
      rw [show lst (onb fr to ya sh E a) K 0 = nxs fr to ya sh E K a from rfl]
      generalize nxs fr to ya sh E K a = s at *
      obtain ⟨e1, e2, e3, e4, b1, b2, b3, b4, b5, b6⟩ := HC s hx
      rw [gixN hk (by decide), behind_ok (fr := fr) (to := to) (by omega) e1 e2 (by omega) (by omega) (by omega)]
      simp only [nmI, Option.bind_some, nIc (show k < 2 ^ 31 by omega), nI_1]
      congr 1
      unfold oth
      rcases y4 with ⟨j1, j2⟩ | ⟨j1, j2⟩
      · rw [if_pos j1, if_pos j1]
      · rw [if_neg (by omega), if_pos j1, if_neg (by omega)]
    | succ i =>
      have hi : i < K := by omega
      obtain ⟨e1, e2, e3, e4, b1, b2, b3, b4, b5, b6⟩ := HC i hi
      have hEa := hE a
      have hEf := hE (fr i)
      have hEt := hE (to i)
      have el : lst (onb fr to ya sh E a) (K - i) i = if onb fr to ya sh E a i = true then i else lst (onb fr to ya sh E a) (K - (i + 1)) (i + 1) := by
        rw [show K - i = (K - (i + 1)) + 1 by omega]; rfl
      have nxt := ih i (by omega) (by omega)
      rw [el] at nxt
      rw [nI_pred, if_neg (nI_pos (by omega)), gixN (by omega) (by decide), nIc (by omega), HF i hi, Hc i hi, Option.bind_some]
      have go : ∀ u : Int32, nI (y0 i) + u = nI (ya i) → f_ShutWaysModel_layWay_306 k259 (f_ShutWaysModel_layWay_277 k259 n) x1 (nI a) (if lst (onb fr to ya sh E a) (K - (i + 1)) (i + 1) < K then nI (lst (onb fr to ya sh E a) (K - (i + 1)) (i + 1)) else -1) (nI i) u (nI (y0 i)) co tw (nI ct) dy (nI K) (nI k) 8 L 4 en 16 shF 16 yF 16 frF 16 toF 16 wy
        = k259 x1 (nI (oth fr to (nxs fr to ya sh E K a) a)) co tw (nI ct) dy (nI K) (nI (k + 1)) 8 L 4 en 16 shF 16 yF 16 frF 16 toF 16 (upd wy k (nI (nxs fr to ya sh E K a))) := by
        intro u hu
        unfold f_ShutWaysModel_layWay_306 f_ShutWaysModel_layWay_358 f_ShutWaysModel_layWay_359
        rw [behind_ok (fr := fr) (to := to) (by omega) e1 e2 (by omega) (by omega) (by omega), Option.bind_some, gixN (by omega) (by decide), nIc (show i < 2 ^ 31 by omega), e4, hu, nI_dec]
        by_cases c0 : sh i = 0
        · have hz : nI (sh i) = 0 := by rw [c0]; rfl
          rw [if_pos hz]
          by_cases c1 : fr i = a
          · rw [if_pos c1, if_neg (nI_m1 (show to i < 2 ^ 31 by omega)), gixN (show to i < 8 by omega) (by decide), gixN (show a < 8 by omega) (by decide), nIc (show to i < 2 ^ 31 by omega), nIc (show a < 2 ^ 31 by omega), hL _ (show to i < C by omega), hL _ (show a < C by omega), nI_add]
            by_cases c2 : E (to i) + ya i = E a
            · have on : onb fr to ya sh E a i = true := by unfold onb; simp [c0, c1, c2]
              rw [if_pos on, if_pos hi] at nxt
              rw [if_pos (by rw [c2]), nxt]
            · have on : ¬ onb fr to ya sh E a i = true := by unfold onb; simp [c0, c1, c2]; omega
              rw [if_neg on] at nxt
              rw [if_neg (nI_ne (by omega) (by omega) c2), nxt]
          · rw [if_neg c1]
            by_cases c3 : to i = a
            · rw [if_pos c3, if_neg (nI_m1 (show fr i < 2 ^ 31 by omega)), gixN (show fr i < 8 by omega) (by decide), gixN (show a < 8 by omega) (by decide), nIc (show fr i < 2 ^ 31 by omega), nIc (show a < 2 ^ 31 by omega), hL _ (show fr i < C by omega), hL _ (show a < C by omega), nI_add]
              by_cases c2 : E (fr i) + ya i = E a
              · have on : onb fr to ya sh E a i = true := by unfold onb; simp [c0, c3, c2]
                rw [if_pos on, if_pos hi] at nxt
                rw [if_pos (by rw [c2]), nxt]
              · have on : ¬ onb fr to ya sh E a i = true := by unfold onb; simp [c0, c1, c3, c2]
                rw [if_neg on] at nxt
                rw [if_neg (nI_ne (by omega) (by omega) c2), nxt]
            · have on : ¬ onb fr to ya sh E a i = true := by unfold onb; simp [c0, c1, c3]
              rw [if_neg on] at nxt
              rw [if_neg c3, if_pos rfl, nxt]
        · have on : ¬ onb fr to ya sh E a i = true := by unfold onb; simp [c0]
          have hz : ¬ nI (sh i) = 0 := nI_ne0 (show 0 < sh i by omega) (by omega)
          rw [if_neg on] at nxt
          rw [if_neg hz, nxt]
      by_cases cc : cb i = true
      · rw [if_pos cc, if_neg one_ne]
        exact go _ (by rw [nI_add, Hy i hi, if_pos cc])
      · rw [if_neg cc, if_pos rfl]
        refine go 0 ?_
        rw [Hy i hi, if_neg cc]
        exact Int32.add_zero _
end Lay
