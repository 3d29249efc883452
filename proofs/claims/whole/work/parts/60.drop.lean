/-! ===== a cart less on a street of the way leaves it on the way ===== -/
section Drop
variable {fr to ya yb sh : Nat → Nat} {K C q s0 c : Nat}
theorem feas_j {E : Nat → Nat} (h : Feas fr to ya sh K E) {s v w : Nat} (hs : s < K) (h0 : sh s = 0) (hj : Joins fr to s v w) : E v ≤ E w + ya s := by
  obtain ⟨f1, f2⟩ := h s hs h0
  rcases hj with ⟨j1, j2⟩ | ⟨j1, j2⟩
  · rw [← j1, ← j2]; exact f1
  · rw [← j1, ← j2]; exact f2
theorem onb_of {E : Nat → Nat} {s a w : Nat} (h0 : sh s = 0) (hj : Joins fr to s a w) (e : E w + ya s = E a) : onb fr to ya sh E a s = true := by
  unfold onb
  rcases hj with ⟨j1, j2⟩ | ⟨j1, j2⟩
  · subst j1; subst j2; simp [h0, e]
  · subst j1; subst j2; simp [h0, e]
theorem nxs_le {E : Nat → Nat} {s a : Nat} (h : onb fr to ya sh E a s = true) (hs : s < K) : nxs fr to ya sh E K a ≤ s := by
  obtain ⟨-, -, h3, -⟩ := lst_spec (onb fr to ya sh E a) K 0
  rcases Nat.lt_or_ge s (nxs fr to ya sh E K a) with z | z
  · have := h3 s (Nat.zero_le _) z
    rw [this] at h
    cases h
  · exact z
theorem drop_low {E F : Nat → Nat} (hE : Feas fr to ya sh K E) (hE0 : E q = 0) (hEf : ∀ v, E v ≤ FARn) (hT : Tight fr to yb sh K q F) (hb2 : ∀ s, s < K → 1 ≤ yb s) (es : ∀ s, s < K → sh s = 0 → s ≠ s0 → ya s = yb s) : ∀ k v, F v ≤ k → F v ≤ F (fr s0) → F v ≤ F (to s0) → E v ≤ F v := by
  intro k
  induction k with
  | zero =>
    intro v hk h1 h2
    by_cases e : v = q
    · rw [e, hE0]; exact Nat.zero_le _
    · rcases hT v e with h | ⟨s, w, hs, h0, hj, hle⟩
      · rw [h]; exact hEf v
      · have := hb2 s hs; omega
  | succ k ih =>
    intro v hk h1 h2
    by_cases e : v = q
    · rw [e, hE0]; exact Nat.zero_le _
    · rcases hT v e with h | ⟨s, w, hs, h0, hj, hle⟩
      · rw [h]; exact hEf v
      · have b := hb2 s hs
        have ne : s ≠ s0 := by
          intro z
          subst z
          rcases hj with ⟨j1, j2⟩ | ⟨j1, j2⟩
          · rw [j2] at h2; omega
          · rw [j2] at h1; omega
        have e1 := es s hs h0 ne
        have e2 := ih w (by omega) (by omega) (by omega)
        have e3 := feas_j hE hs h0 hj
        omega
theorem drop_up {E F : Nat → Nat} (hE : Feas fr to ya sh K E) (hE0 : E q = 0) (hEf : ∀ v, E v ≤ FARn) (hT : Tight fr to yb sh K q F) (hb2 : ∀ s, s < K → 1 ≤ yb s) (e0 : ya s0 = yb s0 + c) (es : ∀ s, s < K → sh s = 0 → s ≠ s0 → ya s = yb s) : ∀ k v, F v ≤ k → E v ≤ F v + c := by
  intro k
  induction k with
  | zero =>
    intro v hk
    by_cases e : v = q
    · rw [e, hE0]; exact Nat.zero_le _
    · rcases hT v e with h | ⟨s, w, hs, h0, hj, hle⟩
      · have := hEf v; omega
      · have := hb2 s hs; omega
  | succ k ih =>
    intro v hk
    by_cases e : v = q
    · rw [e, hE0]; exact Nat.zero_le _
    · rcases hT v e with h | ⟨s, w, hs, h0, hj, hle⟩
      · have := hEf v; omega
      · have b := hb2 s hs
        have e3 := feas_j hE hs h0 hj
        by_cases z : s = s0
        · subst z
          have e4 : E w ≤ F w := by
            rcases hj with ⟨j1, j2⟩ | ⟨j1, j2⟩
            · exact drop_low hE hE0 hEf hT hb2 es (F w) w (Nat.le_refl _) (by rw [j1]; omega) (by rw [j2]; exact Nat.le_refl _)
            · exact drop_low hE hE0 hEf hT hb2 es (F w) w (Nat.le_refl _) (by rw [j2]; exact Nat.le_refl _) (by rw [j1]; omega)
          omega
        · have e1 := es s hs h0 z
          have e2 := ih w (by omega)
          omega
theorem drop_way {E F : Nat → Nat} (hb : ∀ s, s < K → fr s < C ∧ to s < C ∧ fr s ≠ to s ∧ 1 ≤ ya s) (hE : Feas fr to ya sh K E) (hTE : Tight fr to ya sh K q E) (hF : Feas fr to yb sh K F) (hle : ∀ v, F v ≤ E v) (e0 : ya s0 = yb s0 + c) (es : ∀ s, s < K → sh s = 0 → s ≠ s0 → ya s = yb s) : ∀ f a, a < C → E a < FARn → s0 ∈ wlk fr to ya sh E K q f a → F a + c ≤ E a := by
  intro f
  induction f with
  | zero => intro a _ _ h; cases h
  | succ f ih =>
    intro a ha hfar h
    by_cases z : a = q
    · rw [show wlk fr to ya sh E K q (f + 1) a = [] from if_pos z] at h
      cases h
    · rw [show wlk fr to ya sh E K q (f + 1) a = nxs fr to ya sh E K a :: wlk fr to ya sh E K q f (oth fr to (nxs fr to ya sh E K a) a) from if_neg z] at h
      have hx := on_ex hE hTE z hfar
      obtain ⟨y1, y2, y3, y4⟩ := on_step (C := C) (sh := sh) (ya := ya) (E := E) (a := a) hb hx
      generalize nxs fr to ya sh E K a = s at *
      have g := feas_j hF hx y3 y4
      have bs := hb s hx
      by_cases e : s = s0
      · subst e
        have := hle (oth fr to s a)
        omega
      · have e1 := es s hx y3 e
        rcases List.mem_cons.mp h with w | w
        · exact absurd w.symm e
        · have := ih _ y1 (by omega) w
          omega
theorem drop_walk {E F : Nat → Nat} (hb : ∀ s, s < K → fr s < C ∧ to s < C ∧ fr s ≠ to s ∧ 1 ≤ ya s) (hb2 : ∀ s, s < K → 1 ≤ yb s) (hE : Feas fr to ya sh K E) (hTE : Tight fr to ya sh K q E) (hF : Feas fr to yb sh K F) (hTF : Tight fr to yb sh K q F) (hle : ∀ v, F v ≤ E v) (hup : ∀ v, E v ≤ F v + c) (e0 : ya s0 = yb s0 + c) (es : ∀ s, s < K → sh s = 0 → s ≠ s0 → ya s = yb s) : ∀ f a, a < C → E a < FARn → s0 ∈ wlk fr to ya sh E K q f a → s0 ∈ wlk fr to yb sh F K q f a := by
  intro f
  induction f with
  | zero => intro a _ _ h; cases h
  | succ f ih =>
    intro a ha hfar h
    have hEa := drop_way hb hE hTE hF hle e0 es (f + 1) a ha hfar h
    have hEa2 := hup a
    by_cases z : a = q
    · rw [show wlk fr to ya sh E K q (f + 1) a = [] from if_pos z] at h
      cases h
    · rw [show wlk fr to ya sh E K q (f + 1) a = nxs fr to ya sh E K a :: wlk fr to ya sh E K q f (oth fr to (nxs fr to ya sh E K a) a) from if_neg z] at h
      rw [show wlk fr to yb sh F K q (f + 1) a = nxs fr to yb sh F K a :: wlk fr to yb sh F K q f (oth fr to (nxs fr to yb sh F K a) a) from if_neg z]
      have hx := on_ex hE hTE z hfar
      have hx2 := on_ex hF hTF z (by omega)
      have hm : ∀ s, onb fr to ya sh E a s = true → s < K → nxs fr to ya sh E K a ≤ s := fun s p1 p2 => nxs_le p1 p2
      have hm2 : ∀ s, onb fr to yb sh F a s = true → s < K → nxs fr to yb sh F K a ≤ s := fun s p1 p2 => nxs_le p1 p2
      obtain ⟨y1, y2, y3, y4⟩ := on_step (C := C) (sh := sh) (ya := ya) (E := E) (a := a) hb hx
      obtain ⟨x1, x2, x3, x4⟩ := on_step (C := C) (sh := sh) (ya := yb) (E := F) (a := a) (fun s hs => ⟨(hb s hs).1, (hb s hs).2.1, (hb s hs).2.2.1, hb2 s hs⟩) hx2
      generalize nxs fr to ya sh E K a = s at *
      generalize nxs fr to yb sh F K a = s' at *
      by_cases e : s' = s0
      · rw [e]; exact List.mem_cons_self ..
      · have e1 := es s' hx2 x3 e
        have e2 := hup (oth fr to s' a)
        have e3 := feas_j hE hx2 x3 x4
        have l1 := hm s' (onb_of x3 x4 (by omega)) hx2
        have bs := hb s hx
        have g := feas_j hF hx y3 y4
        by_cases e5 : s = s0
        · have e6 := hle (oth fr to s a)
          have e0' : ya s = yb s + c := by rw [e5]; exact e0
          have l2 := hm2 s (onb_of y3 y4 (by omega)) hx
          omega
        · have e7 := es s hx y3 e5
          rcases List.mem_cons.mp h with w | w
          · exact absurd w.symm e5
          · have e8 := drop_way hb hE hTE hF hle e0 es f _ y1 (by omega) w
            have l2 := hm2 s (onb_of y3 y4 (by omega)) hx
            have e9 : s' = s := by omega
            rw [e9]
            exact List.mem_cons_of_mem _ (ih _ y1 (by omega) w)
theorem drop_core (hC : C ≤ 8) (hq : q < C) (hb : ∀ s, s < K → fr s < C ∧ to s < C ∧ fr s ≠ to s ∧ 1 ≤ ya s) (hb2 : ∀ s, s < K → 1 ≤ yb s) (e0 : ya s0 = yb s0 + c) (es : ∀ s, s < K → sh s = 0 → s ≠ s0 → ya s = yb s) {a : Nat} (ha : a < C) (h : s0 ∈ wyl fr to ya sh K q a) : s0 ∈ wyl fr to yb sh K q a := by
  obtain ⟨-, h2, h3, h4, h5⟩ := dst_spec (sh := sh) hC hq (fun s hs => ⟨(hb s hs).1, (hb s hs).2.1, (hb s hs).2.2.2⟩)
  obtain ⟨-, g2, g3, g4, g5⟩ := dst_spec (ya := yb) (sh := sh) hC hq (fun s hs => ⟨(hb s hs).1, (hb s hs).2.1, hb2 s hs⟩)
  have hle : ∀ v, dst fr to yb sh K q v ≤ dst fr to ya sh K q v := by
    intro v
    show _ ≤ rnds fr to ya sh K 8 (D0 q) v
    refine rnds_C (E := dst fr to yb sh K q) ?_ ?_ 8 v
    · intro s hs h0
      obtain ⟨f1, f2⟩ := g2 s hs h0
      have : yb s ≤ ya s := by
        by_cases e : s = s0
        · rw [e, e0]; omega
        · rw [es s hs h0 e]; exact Nat.le_refl _
      omega
    · intro v
      unfold D0
      by_cases e : v = q
      · rw [if_pos e, e, g4]; exact Nat.le_refl _
      · rw [if_neg e]; exact g5 v
  have hup := fun v => drop_up h2 h4 h5 g3 hb2 e0 es (dst fr to yb sh K q v) v (Nat.le_refl _)
  unfold wyl at h ⊢
  by_cases z : dst fr to ya sh K q a < FARn
  · rw [if_pos z] at h
    rw [if_pos (Nat.lt_of_le_of_lt (hle a) z)]
    exact drop_walk hb hb2 h2 h3 g2 g3 hle hup e0 es 8 a ha z h
  · rw [if_neg z] at h
    cases h
end Drop
/-! ===== the cheapest, least set ===== -/
def Bs (p : Nat → Prop) (cost : Nat → Nat) (n : Nat) (b c : Int32) : Prop := (b = -1 ∧ ∀ T, T < n → ¬ p T) ∨ ∃ v, v < n ∧ b = nI v ∧ c = nI (cost v) ∧ p v ∧ ∀ T, T < n → p T → cost v ≤ cost T ∧ (T < v → cost v < cost T)
theorem Bs.keep {p : Nat → Prop} {cost : Nat → Nat} {n : Nat} {b c : Int32} (h : Bs p cost n b c) (hn : ¬ p n) : Bs p cost (n + 1) b c := by
  rcases h with ⟨h1, h2⟩ | ⟨v, v1, v2, v3, v4, v5⟩
  · refine Or.inl ⟨h1, fun T hT => ?_⟩
    by_cases e : T = n
    · rw [e]; exact hn
    · exact h2 T (by omega)
  · refine Or.inr ⟨v, by omega, v2, v3, v4, fun T hT hp => ?_⟩
    by_cases e : T = n
    · rw [e] at hp; exact absurd hp hn
    · exact v5 T (by omega) hp
theorem Bs.dear {p : Nat → Prop} {cost : Nat → Nat} {n v : Nat} {b c : Int32} (h : Bs p cost n b c) (hv : b = nI v) (hv2 : v < 2 ^ 31) (hn : n < 2 ^ 31) (hc : cost v ≤ cost n) : Bs p cost (n + 1) b c := by
  rcases h with ⟨h1, h2⟩ | ⟨w, v1, v2, v3, v4, v5⟩
  · exact absurd (hv.symm.trans h1) (nI_m1 hv2)
  · have e : w = v := (nI_eq (by omega) hv2).mp (v2.symm.trans hv)
    subst e
    refine Or.inr ⟨w, by omega, v2, v3, v4, fun T hT hp => ?_⟩
    by_cases e : T = n
    · subst e; exact ⟨hc, fun z => absurd z (by omega)⟩
    · exact v5 T (by omega) hp
theorem Bs.take {p : Nat → Prop} {cost : Nat → Nat} {n : Nat} {b c : Int32} (h : Bs p cost n b c) (hp : p n) (hc : b = -1 ∨ ∀ v, v < 2 ^ 31 → b = nI v → cost n < cost v) (hn : n < 2 ^ 31) : Bs p cost (n + 1) (nI n) (nI (cost n)) := by
  refine Or.inr ⟨n, Nat.lt_succ_self n, rfl, rfl, hp, fun T hT hpT => ?_⟩
  by_cases e : T = n
  · subst e; exact ⟨Nat.le_refl _, fun z => absurd z (Nat.lt_irrefl _)⟩
  · rcases h with ⟨h1, h2⟩ | ⟨w, v1, v2, v3, v4, v5⟩
    · exact absurd hpT (h2 T (by omega))
    · have l1 : cost n < cost w := by
        rcases hc with z | z
        · exact absurd (v2.symm.trans z) (nI_m1 (by omega))
        · exact z w (by omega) v2
      have l2 := v5 T (by omega) hpT
      exact ⟨by omega, fun _ => by omega⟩
theorem Bs.same {p1 p2 : Nat → Prop} {cost : Nat → Nat} {n : Nat} {b c b2 c2 : Int32} (h1 : Bs p1 cost n b c) (h2 : Bs p2 cost n b2 c2) (h12 : ∀ T, T < n → p1 T → p2 T) (h21 : ∀ T, T < n → p2 T → ∃ T', T' ≤ T ∧ p1 T' ∧ cost T' ≤ cost T) : b = b2 ∧ (b = -1 ∨ c = c2) := by
  rcases h1 with ⟨a1, a2⟩ | ⟨v, v1, v2, v3, v4, v5⟩
  · rcases h2 with ⟨b1, b2'⟩ | ⟨w, w1, w2, w3, w4, w5⟩
    · exact ⟨a1.trans b1.symm, Or.inl a1⟩
    · obtain ⟨T', t1, t2, t3⟩ := h21 w w1 w4
      exact absurd t2 (a2 T' (by omega))
  · rcases h2 with ⟨b1, b2'⟩ | ⟨w, w1, w2, w3, w4, w5⟩
    · exact absurd (h12 v v1 v4) (b2' v v1)
    · obtain ⟨T', t1, t2, t3⟩ := h21 w w1 w4
      have q1 := w5 T' (by omega) (h12 T' (by omega) t2)
      have e1 : T' = w := by omega
      subst e1
      have q2 := w5 v v1 (h12 v v1 v4)
      have q3 := v5 T' w1 t2
      have e2 : v = T' := by omega
      subst e2
      exact ⟨v2.trans w2.symm, Or.inr (v3.trans w3.symm)⟩
