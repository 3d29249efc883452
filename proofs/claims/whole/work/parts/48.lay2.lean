section Lay2
variable {K C q : Nat} {fr to ya y0 sh : Nat → Nat} {frF toF shF yF en : Nat → Int32} {cb : Nat → Bool} {ct : Nat} {x1 : Int32}
theorem lay259 (hK : K ≤ 16) (hC : C ≤ 8) (H : CodM K C fr to ya y0 sh frF toF yF shF cb ct x1) {E : Nat → Nat} (hE : ∀ v, E v ≤ FARn) {L : Nat → Int32} (hL : ∀ v, v < C → L v = nI (E v)) (hq : q < C) (hFe : Feas fr to ya sh K E) (hT : Tight fr to ya sh K q E) (co tw dy : Int32) {mk : Nat} (hmk : mk < C) (hm : f_ShutWaysModel_market tw dy 4 en = some (nI mk)) (hqu : f_ShutWaysModel_quay tw dy 4 en = some (nI q)) :
    ∀ (n a k : Nat) (S : Nat → Int32), a < C → E a < FARn → rk E a C + k ≤ 7 → 8 - k < n → ∃ (S' : Nat → Int32), f_ShutWaysModel_layWay_259 n x1 (nI a) co tw (nI ct) dy (nI K) (nI k) 8 L 4 en 16 shF 16 yF 16 frF 16 toF 16 S = some (nI (E mk), nI (k + (wlk fr to ya sh E K q (8 - k) a).length), L, S') ∧ (∀ i, i < k → S' i = S i) ∧ ∀ i, i < (wlk fr to ya sh E K q (8 - k) a).length → S' (k + i) = nI ((wlk fr to ya sh E K q (8 - k) a).getD i 0) := by
  have hFU : 20 < FU := by rw [FU_eq]; decide
  intro n
  induction n with
  | zero => intro a k S _ _ _ h; omega
  | succ n ih =>
    intro a k S ha hfar hr hn
    rw [show f_ShutWaysModel_layWay_259 (n + 1) = b_ShutWaysModel_layWay_259 (f_ShutWaysModel_layWay_259 n) from rfl]
    unfold b_ShutWaysModel_layWay_259
    generalize FU = N at hFU ⊢
    rw [show 8 - k = (8 - (k + 1)) + 1 by omega, hqu, Option.bind_some]
    by_cases c : a = q
    · subst c
      rw [if_pos rfl, hm, Option.bind_some, gixN (by omega) (by decide), nIc (by omega), hL _ (by omega)]
      have e : wlk fr to ya sh E K a ((8 - (k + 1)) + 1) a = [] := if_pos rfl
      rw [e]
      exact ⟨S, rfl, fun _ _ => rfl, fun i h => absurd h (Nat.not_lt_zero _)⟩
    · have hx := on_ex hFe hT c hfar
      obtain ⟨y1, y2, y3, y4⟩ := on_step (C := C) (sh := sh) (ya := ya) (E := E) (a := a) H.2.2.2.b4 hx
      have e : wlk fr to ya sh E K q ((8 - (k + 1)) + 1) a = nxs fr to ya sh E K a :: wlk fr to ya sh E K q (8 - (k + 1)) (oth fr to (nxs fr to ya sh E K a) a) := if_neg c
      have hlt : E (oth fr to (nxs fr to ya sh E K a) a) < E a := by have := H.2.2.2.b4 _ hx; omega
      have hrk := rk_lt hlt C y1
      have fd : ∀ s : Nat, (if lst (onb fr to ya sh E a) (K - K) K < K then nI (lst (onb fr to ya sh E a) (K - K) K) else (-1 : Int32)) = -1 := by
        intro _
        rw [Nat.sub_self]
        show (if K < K then _ else _) = _
        exact if_neg (Nat.lt_irrefl _)
      have w0 := lay277 (en := en) hK hC H (f_ShutWaysModel_layWay_259 n) hE hL ha hx (k := k) (by omega) co tw dy S N K (Nat.le_refl _) (by omega)
      rw [fd 0] at w0
      rw [e, if_neg (nI_ne (by omega) (by omega) c), w0]
      generalize hs : nxs fr to ya sh E K a = s at *
      obtain ⟨S', w1, w3, w4⟩ := ih (oth fr to s a) (k + 1) (upd S k (nI s)) y1 (by omega) (by omega) (by omega)
      refine ⟨S', ?_, ?_, ?_⟩
      · rw [w1]
        show some (nI (E mk), nI (k + 1 + _), L, S') = some (nI (E mk), nI (k + (_ + 1)), L, S')
        rw [show k + 1 + (wlk fr to ya sh E K q (8 - (k + 1)) (oth fr to s a)).length = k + ((wlk fr to ya sh E K q (8 - (k + 1)) (oth fr to s a)).length + 1) by omega]
      · intro i hi
        rw [w3 i (by omega)]
        exact pk_un (by omega)
      · intro i hi
        cases i with
        | zero =>
          rw [Nat.add_zero, w3 k (by omega)]
          exact pk_us
        | succ i =>
          have := w4 i (by simpa using hi)
          rw [show k + (i + 1) = k + 1 + i by omega, this]
          rfl
theorem lay38 (hK : K ≤ 16) (hC : C ≤ 8) (H : CodM K C fr to ya y0 sh frF toF yF shF cb ct x1) (hq : q < C) (tw dy wm : Int32) {a : Nat} (ha : a < C) (hm : f_ShutWaysModel_market tw dy 4 en = some (nI a)) (hqu : f_ShutWaysModel_quay tw dy 4 en = some (nI q)) (S : Nat → Int32) :
    ∀ (n t : Nat) (L : Nat → Int32), t ≤ C → C - t < n → (∀ v, v < C → L v = nI (rnds fr to ya sh K t (D0 q) v)) → ∃ (L' S' : Nat → Int32), f_ShutWaysModel_layWay_38 n x1 (nI t) (nI C) tw (nI ct) dy (nI K) wm 8 L 4 en 16 shF 16 yF 16 frF 16 toF 16 S = some (if dst fr to ya sh K q a < FARn then nI (dst fr to ya sh K q a) else -1, nI (wyl fr to ya sh K q a).length, L', S') ∧ ∀ i, i < (wyl fr to ya sh K q a).length → S' i = nI ((wyl fr to ya sh K q a).getD i 0) := by
  obtain ⟨h1, h2, h3, h4, h5⟩ := dst_spec (sh := sh) hC hq H.2.2.2.b
  have hFU : 20 < FU := by rw [FU_eq]; decide
  have f1 : FARn = 1000000 := rfl
  intro n
  induction n with
  | zero => intro t _ _ h; omega
  | succ n ih =>
    intro t L ht hn hL
    rw [show f_ShutWaysModel_layWay_38 (n + 1) = b_ShutWaysModel_layWay_38 (f_ShutWaysModel_layWay_38 n) from rfl]
    unfold b_ShutWaysModel_layWay_38
    generalize FU = N at hFU ⊢
    by_cases c : t = C
    · subst c
      rw [if_pos (nI_le (Nat.le_refl _) (by omega)), hm, Option.bind_some, gixN (by omega) (by decide), nIc (by omega)]
      have hL' : ∀ v, v < t → L v = nI (dst fr to ya sh K q v) := fun v hv => by rw [hL v hv, h1 t (by omega)]
      rw [hL' a (by omega)]
      have hda := h5 a
      by_cases c2 : dst fr to ya sh K q a < FARn
      · have e : wyl fr to ya sh K q a = wlk fr to ya sh (dst fr to ya sh K q) K q 8 a := if_pos c2
        obtain ⟨S', w1, w3, w4⟩ := lay259 hK hC H h5 hL' hq h2 h3 (nI t) tw dy ha hm hqu N a 0 S ha c2 (by have := rk_self (dst fr to ya sh K q) a t ha; omega) (by omega)
        rw [nI_0, Nat.sub_zero, ← e, Nat.zero_add] at w1
        rw [Nat.sub_zero, ← e] at w4
        rw [if_pos (show nI (dst fr to ya sh K q a) < 1000000 from nI_lt (b := 1000000) (by omega) (by decide)), w1, if_pos c2]
        refine ⟨L, S', rfl, fun i hi => ?_⟩
        have := w4 i hi
        rw [Nat.zero_add] at this
        exact this
      · have e : wyl fr to ya sh K q a = [] := if_neg c2
        rw [if_neg (show ¬ nI (dst fr to ya sh K q a) < 1000000 from nI_nlt (b := 1000000) (by omega) (by omega)), e, if_neg c2]
        exact ⟨L, S, rfl, fun i hi => absurd hi (Nat.not_lt_zero _)⟩
    · have top : ∀ v, rnds fr to ya sh K t (D0 q) v ≤ FARn := fun v => Nat.le_trans (rnds_le (D0 q) K v t) (by unfold D0; split; exact Nat.zero_le _; exact Nat.le_refl _)
      rw [if_neg (nI_ge (by omega) (by omega))]
      obtain ⟨L', w1, w2⟩ := lay48 (en := en) hK hC H (f_ShutWaysModel_layWay_38 n) top (nI t) (nI C) tw dy wm S N 0 L (Nat.zero_le _) (by omega) hL
      rw [nI_0, nI_1] at w1
      rw [w1]
      exact ih (t + 1) L' (by omega) (by omega) w2
theorem lay2 (hC : C ≤ 8) (hq : q < C) (tw dy wm ca al : Int32) (hqu : f_ShutWaysModel_quay tw dy 4 en = some (nI q)) (S : Nat → Int32) :
    ∀ (n c : Nat) (L : Nat → Int32), c ≤ C → C - c < n → (∀ v, v < c → L v = nI (D0 q v)) → ∃ L' : Nat → Int32, f_ShutWaysModel_layWay_2 n x1 (nI c) (nI C) tw ca dy al wm 8 L 4 en 16 shF 16 yF 16 frF 16 toF 16 S = f_ShutWaysModel_layWay_38 FU x1 0 (nI C) tw ca dy al wm 8 L' 4 en 16 shF 16 yF 16 frF 16 toF 16 S ∧ (∀ v, v < C → L' v = nI (D0 q v)) := by
  intro n
  induction n with
  | zero => intro t _ _ h; omega
  | succ n ih =>
    intro c L hc hn hL
    rw [show f_ShutWaysModel_layWay_2 (n + 1) = b_ShutWaysModel_layWay_2 (f_ShutWaysModel_layWay_2 n) from rfl]
    unfold b_ShutWaysModel_layWay_2 f_ShutWaysModel_layWay_29
    by_cases e : c = C
    · subst e
      rw [if_pos (nI_le (Nat.le_refl _) (by omega))]
      exact ⟨L, rfl, hL⟩
    · rw [if_neg (nI_ge (by omega) (by omega)), hqu, Option.bind_some, gixN (by omega) (by decide), nIc (by omega), nI_1]
      have go : ∀ z : Int32, z = nI (D0 q c) → ∃ L' : Nat → Int32, f_ShutWaysModel_layWay_2 n x1 (nI (c + 1)) (nI C) tw ca dy al wm 8 (upd L c z) 4 en 16 shF 16 yF 16 frF 16 toF 16 S = f_ShutWaysModel_layWay_38 FU x1 0 (nI C) tw ca dy al wm 8 L' 4 en 16 shF 16 yF 16 frF 16 toF 16 S ∧ (∀ v, v < C → L' v = nI (D0 q v)) := by
        intro z hz
        refine ih (c + 1) _ (by omega) (by omega) ?_
        intro v hv
        by_cases ev : v = c
        · subst ev; rw [pk_us, hz]
        · rw [pk_un ev]; exact hL v (by omega)
      by_cases ec : c = q
      · rw [if_pos (by rw [ec])]
        refine go 0 ?_
        unfold D0
        rw [if_pos ec]
        rfl
      · rw [if_neg (nI_ne (by omega) (by omega) ec), gixN (by omega) (by decide)]
        refine go 1000000 ?_
        unfold D0
        rw [if_neg ec]
        rfl
theorem layWay_ok (hK : K ≤ 16) (hC : C ≤ 8) (H : CodM K C fr to ya y0 sh frF toF yF shF cb ct x1) (hq : q < C) (tw dy wm : Int32) {a : Nat} (ha : a < C) (hm : f_ShutWaysModel_market tw dy 4 en = some (nI a)) (hqu : f_ShutWaysModel_quay tw dy 4 en = some (nI q)) (L S : Nat → Int32) :
    ∃ (L' S' : Nat → Int32), f_ShutWaysModel_layWay x1 (nI C) tw (nI ct) dy (nI K) wm 8 L 4 en 16 shF 16 yF 16 frF 16 toF 16 S = some (if dst fr to ya sh K q a < FARn then nI (dst fr to ya sh K q a) else -1, nI (wyl fr to ya sh K q a).length, L', S') ∧ ∀ i, i < (wyl fr to ya sh K q a).length → S' i = nI ((wyl fr to ya sh K q a).getD i 0) := by
  have hFU : 20 < FU := by rw [FU_eq]; decide
  unfold f_ShutWaysModel_layWay
  obtain ⟨L1, w1, w2⟩ := lay2 (x1 := x1) (shF := shF) (yF := yF) (frF := frF) (toF := toF) hC hq tw dy wm (nI ct) (nI K) hqu S FU 0 L (Nat.zero_le _) (by omega) (fun v hv => absurd hv (Nat.not_lt_zero _))
  rw [nI_0] at w1
  rw [w1]
  generalize FU = N at hFU ⊢
  have h := lay38 hK hC H hq tw dy wm ha hm hqu S N 0 L1 (Nat.zero_le _) (by omega) w2
  rw [nI_0] at h
  exact h
end Lay2
