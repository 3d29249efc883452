/-! ===== the way of a day as numbers; the class's Way.find ===== -/
section Find
variable (fr to ya sh : Nat → Nat) (K q : Nat)
def dst : Nat → Nat := rnds fr to ya sh K 8 (D0 q)
def wyl (a : Nat) : List Nat := if dst fr to ya sh K q a < FARn then wlk fr to ya sh (dst fr to ya sh K q) K q 8 a else []
end Find
section FindT
variable {K C q : Nat} {fr to ya sh : Nat → Nat} {frF toF yaF shF : Nat → Int32}
theorem dst_spec (hC : C ≤ 8) (hq : q < C) (hb : ∀ s, s < K → fr s < C ∧ to s < C ∧ 1 ≤ ya s) : (∀ k, C ≤ k + 1 → rnds fr to ya sh K k (D0 q) = dst fr to ya sh K q) ∧ Feas fr to ya sh K (dst fr to ya sh K q) ∧ Tight fr to ya sh K q (dst fr to ya sh K q) ∧ dst fr to ya sh K q q = 0 ∧ ∀ v, dst fr to ya sh K q v ≤ FARn := by
  obtain ⟨E, h1, h2, h3, h4, h5⟩ := settle (sh := sh) hC hq hb
  have e : dst fr to ya sh K q = E := h1 8 (by omega)
  rw [e]
  exact ⟨h1, h2, h3, h4, h5⟩
theorem Cod.b (H : Cod K C fr to ya sh frF toF yaF shF) : ∀ s, s < K → fr s < C ∧ to s < C ∧ 1 ≤ ya s := fun s hs => ⟨(H s hs).2.2.2.2.1, (H s hs).2.2.2.2.2.1, (H s hs).2.2.2.2.2.2.2.1⟩
theorem Cod.b4 (H : Cod K C fr to ya sh frF toF yaF shF) : ∀ s, s < K → fr s < C ∧ to s < C ∧ fr s ≠ to s ∧ 1 ≤ ya s := fun s hs => ⟨(H s hs).2.2.2.2.1, (H s hs).2.2.2.2.2.1, (H s hs).2.2.2.2.2.2.1, (H s hs).2.2.2.2.2.2.2.1⟩
theorem wlk_mem {E : Nat → Nat} (hb : ∀ s, s < K → fr s < C ∧ to s < C ∧ fr s ≠ to s ∧ 1 ≤ ya s) (hF : Feas fr to ya sh K E) (hT : Tight fr to ya sh K q E) : ∀ (f a : Nat), a < C → E a < FARn → ∀ s, s ∈ wlk fr to ya sh E K q f a → s < K ∧ sh s = 0 := by
  intro f
  induction f with
  | zero => intro a _ _ s hs; cases hs
  | succ f ih =>
    intro a ha hfar s hs
    by_cases c : a = q
    · have e : wlk fr to ya sh E K q (f + 1) a = [] := if_pos c
      rw [e] at hs
      cases hs
    · have e : wlk fr to ya sh E K q (f + 1) a = nxs fr to ya sh E K a :: wlk fr to ya sh E K q f (oth fr to (nxs fr to ya sh E K a) a) := if_neg c
      have hx := on_ex hF hT c hfar
      obtain ⟨y1, y2, y3, y4⟩ := on_step (C := C) (sh := sh) (ya := ya) (E := E) (a := a) hb hx
      rw [e] at hs
      rcases List.mem_cons.mp hs with h | h
      · rw [h]; exact ⟨hx, y3⟩
      · exact ih _ y1 (by omega) s h
theorem wyl_mem (hC : C ≤ 8) (hq : q < C) (hb : ∀ s, s < K → fr s < C ∧ to s < C ∧ fr s ≠ to s ∧ 1 ≤ ya s) {a : Nat} (ha : a < C) : ∀ s, s ∈ wyl fr to ya sh K q a → s < K ∧ sh s = 0 := by
  obtain ⟨h1, h2, h3, h4, h5⟩ := dst_spec (sh := sh) hC hq (fun s hs => ⟨(hb s hs).1, (hb s hs).2.1, (hb s hs).2.2.2⟩)
  intro s hs
  unfold wyl at hs
  by_cases c : dst fr to ya sh K q a < FARn
  · rw [if_pos c] at hs
    exact wlk_mem hb h2 h3 8 a ha c s hs
  · rw [if_neg c] at hs
    cases hs
theorem wyl_nil {a : Nat} (haq : a ≠ q) : wyl fr to ya sh K q a = [] ↔ ¬ dst fr to ya sh K q a < FARn := by
  unfold wyl
  by_cases c : dst fr to ya sh K q a < FARn
  · rw [if_pos c]
    have e : wlk fr to ya sh (dst fr to ya sh K q) K q 8 a = nxs fr to ya sh (dst fr to ya sh K q) K a :: wlk fr to ya sh (dst fr to ya sh K q) K q 7 (oth fr to (nxs fr to ya sh (dst fr to ya sh K q) K a) a) := if_neg haq
    rw [e]
    exact ⟨fun h => absurd h (by intro z; cases z), fun h => absurd c h⟩
  · rw [if_neg c]
    exact ⟨fun _ => c, fun _ => rfl⟩
theorem find_ok (hK : K ≤ 16) (hC : C ≤ 8) (H : Cod K C fr to ya sh frF toF yaF shF) (hq : q < C) {a : Nat} (ha : a < C) (c0 s0 y0 : Int32) (far S : Nat → Int32) :
    ∃ F S' : Nat → Int32, f_Way_find (nI a) (nI q) c0 s0 y0 (nI K) 16 shF 8 far 16 frF 16 toF 16 yaF 8 S = some (nI (wyl fr to ya sh K q a).length, nI (mskA 0 (wyl fr to ya sh K q a)), nI (dst fr to ya sh K q a), F, S') ∧ (wyl fr to ya sh K q a).length ≤ 7 ∧ ∀ i, i < (wyl fr to ya sh K q a).length → S' i = nI ((wyl fr to ya sh K q a).getD i 0) := by
  obtain ⟨h1, h2, h3, h4, h5⟩ := dst_spec (sh := sh) hC hq H.b
  obtain ⟨F, m1, m2⟩ := measure_ok hK hC H hq h1 far
  have f1 : FARn = 1000000 := rfl
  have hda := h5 a
  unfold f_Way_find
  rw [m1, Option.bind_some, gixN (by omega) (by decide), nIc (by omega), m2 a (by omega)]
  simp only [nmI]
  by_cases c : dst fr to ya sh K q a < FARn
  · have e : wyl fr to ya sh K q a = wlk fr to ya sh (dst fr to ya sh K q) K q 8 a := if_pos c
    have hFU : 8 - 0 < FU := by rw [FU_eq]; decide
    unfold f_Way_walk
    generalize FU = N at hFU ⊢
    obtain ⟨S', w1, w2, w3, w4⟩ := walk6 hK hC H m2 h5 hq h2 h3 N a 0 0 S ha c (by have := rk_self (dst fr to ya sh K q) a C ha; omega) hFU
    rw [nI_0, Nat.sub_zero, ← e, Nat.zero_add] at w1
    rw [Nat.sub_zero, ← e, Nat.zero_add] at w2
    rw [Nat.sub_zero, ← e] at w4
    rw [if_neg (show ¬ (1000000 : Int32) ≤ nI (dst fr to ya sh K q a) from nI_ge (b := 1000000) c (by decide)), w1, Option.bind_some]
    refine ⟨F, S', rfl, w2, fun i hi => ?_⟩
    have := w4 i hi
    rw [Nat.zero_add] at this
    exact this
  · have e : wyl fr to ya sh K q a = [] := if_neg c
    rw [if_pos (show (1000000 : Int32) ≤ nI (dst fr to ya sh K q a) from nI_le (a := 1000000) (by omega) (by omega)), e]
    exact ⟨F, S, rfl, by decide, fun i hi => absurd hi (Nat.not_lt_zero _)⟩
end FindT
