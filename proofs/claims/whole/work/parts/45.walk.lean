/-! ===== the way: at each corner the least open street that leads on ===== -/
def onb (fr to ya sh E : Nat → Nat) (a s : Nat) : Bool := decide (sh s = 0) && ((decide (fr s = a) && decide (E (to s) + ya s = E a)) || (decide (to s = a) && decide (E (fr s) + ya s = E a)))
def lst (p : Nat → Bool) : Nat → Nat → Nat
  | 0, i => i
  | n + 1, i => if p i = true then i else lst p n (i + 1)
theorem lst_spec (p : Nat → Bool) : ∀ n i, i ≤ lst p n i ∧ lst p n i ≤ i + n ∧ (∀ j, i ≤ j → j < lst p n i → p j = false) ∧ (lst p n i < i + n → p (lst p n i) = true) := by
  intro n
  induction n with
  | zero => intro i; exact ⟨Nat.le_refl _, Nat.le_refl _, fun j h1 h2 => absurd h2 (Nat.not_lt.mpr h1), fun h => absurd h (Nat.lt_irrefl _)⟩
  | succ n ih =>
    intro i
    unfold lst
    by_cases c : p i = true
    · rw [if_pos c]
      exact ⟨Nat.le_refl _, by omega, fun j h1 h2 => absurd h2 (Nat.not_lt.mpr h1), fun _ => c⟩
    · rw [if_neg c]
      obtain ⟨h1, h2, h3, h4⟩ := ih (i + 1)
      refine ⟨by omega, by omega, ?_, fun h => h4 (by omega)⟩
      intro j a b
      by_cases e : j = i
      · subst e; simpa using c
      · exact h3 j (by omega) b
theorem lst_lt {p : Nat → Bool} {K s : Nat} (hs : s < K) (h : p s = true) : lst p K 0 < K := by
  obtain ⟨-, h2, h3, -⟩ := lst_spec p K 0
  rcases Nat.lt_or_ge (lst p K 0) K with q | q
  · exact q
  · have := h3 s (Nat.zero_le _) (by omega)
    rw [this] at h
    cases h
section Walk
variable (fr to ya sh E : Nat → Nat) (K q : Nat)
def nxs (a : Nat) : Nat := lst (onb fr to ya sh E a) K 0
def oth (s a : Nat) : Nat := if fr s = a then to s else fr s
def wlk : Nat → Nat → List Nat
  | 0, _ => []
  | f + 1, a => if a = q then [] else nxs fr to ya sh E K a :: wlk f (oth fr to (nxs fr to ya sh E K a) a)
end Walk
def mskA (a : Nat) (w : List Nat) : Nat := w.foldl (fun a s => a ||| 2 ^ s) a
theorem nI_or (a b : Nat) : nI a ||| nI b = nI (a ||| b) := by
  apply Int32.toBitVec_inj.mp
  show BitVec.ofNat 32 a ||| BitVec.ofNat 32 b = BitVec.ofNat 32 (a ||| b)
  exact BitVec.ofNat_or.symm
theorem nI_bit : ∀ s, s < 16 → (1 : Int32) <<< (nI s &&& 31) = nI (2 ^ s) := by decide +kernel
section WalkC
variable {K C : Nat} {fr to ya sh E : Nat → Nat} {frF toF yaF shF F : Nat → Int32}
/-- from a corner with a way there is a street that leads on -/
theorem on_ex {q a : Nat} (hF : Feas fr to ya sh K E) (hT : Tight fr to ya sh K q E) (ha : a ≠ q) (hfar : E a < FARn) : nxs fr to ya sh E K a < K := by
  rcases hT a ha with h | ⟨s, w, hs, h0, hj, hle⟩
  · omega
  · obtain ⟨f1, f2⟩ := hF s hs h0
    apply lst_lt hs
    unfold onb
    rcases hj with ⟨j1, j2⟩ | ⟨j1, j2⟩
    · subst j1; subst j2
      have e1 : E (to s) + ya s = E (fr s) := by omega
      simp [h0, e1]
    · subst j1; subst j2
      have e1 : E (fr s) + ya s = E (to s) := by omega
      simp [h0, e1]
theorem on_step {a : Nat} (H : ∀ s, s < K → fr s < C ∧ to s < C ∧ fr s ≠ to s ∧ 1 ≤ ya s) (h : nxs fr to ya sh E K a < K) : oth fr to (nxs fr to ya sh E K a) a < C ∧ E (oth fr to (nxs fr to ya sh E K a) a) + ya (nxs fr to ya sh E K a) = E a ∧ sh (nxs fr to ya sh E K a) = 0 ∧ Joins fr to (nxs fr to ya sh E K a) a (oth fr to (nxs fr to ya sh E K a) a) := by
  have hp := (lst_spec (onb fr to ya sh E a) K 0).2.2.2 (by rw [Nat.zero_add]; exact h)
  have hp : onb fr to ya sh E a (nxs fr to ya sh E K a) = true := hp
  generalize nxs fr to ya sh E K a = s at h hp
  obtain ⟨b1, b2, b3, b4⟩ := H s h
  unfold onb at hp
  simp only [Bool.and_eq_true, Bool.or_eq_true, decide_eq_true_eq] at hp
  unfold oth
  obtain ⟨h0, hp⟩ := hp
  rcases hp with ⟨e1, e2⟩ | ⟨e1, e2⟩
  · rw [if_pos e1]
    exact ⟨b2, e2, h0, Or.inl ⟨e1, rfl⟩⟩
  · rw [if_neg (by omega)]
    exact ⟨b1, e2, h0, Or.inr ⟨e1, rfl⟩⟩
theorem least3 (hK : K ≤ 16) (hC : C ≤ 8) (H : Cod K C fr to ya sh frF toF yaF shF) (hF : ∀ v, v < 8 → F v = nI (E v)) (hE : ∀ v, E v ≤ FARn) {a : Nat} (ha : a < C) :
    ∀ (n s : Nat), s ≤ K → K - s < n → f_Way_leastOnward_3 n (nI a) (nI s) (nI K) 16 shF 8 F 16 yaF 16 frF 16 toF = some (if lst (onb fr to ya sh E a) (K - s) s < K then nI (lst (onb fr to ya sh E a) (K - s) s) else -1) := by
  intro n
  induction n with
  | zero => intro s _ h; omega
  | succ n ih =>
    intro s hs hn
    rw [show f_Way_leastOnward_3 (n + 1) = b_Way_leastOnward_3 (f_Way_leastOnward_3 n) from rfl]
    unfold b_Way_leastOnward_3
    have f1 : FARn = 1000000 := rfl
    by_cases c : s = K
    · subst c
      rw [if_pos (nI_le (Nat.le_refl _) (by omega)), Nat.sub_self]
      show _ = some (if s < s then _ else _)
      rw [if_neg (Nat.lt_irrefl _)]
    · have hsK : s < K := by omega
      obtain ⟨e1, e2, e3, e4, b1, b2, b3, b4, b5, b6⟩ := H s hsK
      have hEa := hE a
      have hEf := hE (fr s)
      have hEt := hE (to s)
      have el : lst (onb fr to ya sh E a) (K - s) s = if onb fr to ya sh E a s = true then s else lst (onb fr to ya sh E a) (K - (s + 1)) (s + 1) := by
        rw [show K - s = (K - (s + 1)) + 1 by omega]; rfl
      rw [if_neg (nI_ge hsK (by omega)), el]
      have nxt := ih (s + 1) (by omega) (by omega)
      simp only [f_Way_leastOnward_56, f_Way_leastOnward_84, f_Way_leastOnward_88, f_Way_leastOnward_89, f_Way_leastOnward_106, nmI, gixN (show a < 8 by omega) (by decide : 8 < 2 ^ 31), gixN (show s < 16 by omega) (by decide : 16 < 2 ^ 31), nIc (show s < 2 ^ 31 by omega), nIc (show a < 2 ^ 31 by omega), e1, e2, e3, e4, hF a (by omega), gixN (show fr s < 8 by omega) (by decide : 8 < 2 ^ 31), gixN (show to s < 8 by omega) (by decide : 8 < 2 ^ 31), nIc (show fr s < 2 ^ 31 by omega), nIc (show to s < 2 ^ 31 by omega), hF (fr s) (by omega), hF (to s) (by omega), nI_1, nxt, nI_eq (show fr s < 2 ^ 31 by omega) (show a < 2 ^ 31 by omega), nI_eq (show to s < 2 ^ 31 by omega) (show a < 2 ^ 31 by omega), nI_subeq (show E a < 2 ^ 30 by omega) (show ya s < 2 ^ 30 by omega) (show E (to s) < 2 ^ 30 by omega), nI_subeq (show E a < 2 ^ 30 by omega) (show ya s < 2 ^ 30 by omega) (show E (fr s) < 2 ^ 30 by omega), if_neg one_ne, reduceIte]
      by_cases c0 : sh s = 0
      · have hz : nI (sh s) = 0 := by rw [c0]; rfl
        simp only [if_pos hz]
        by_cases c1 : fr s = a
        · simp only [if_pos c1]
          by_cases c2 : E (to s) + ya s = E a
          · have on : onb fr to ya sh E a s = true := by unfold onb; simp [c0, c1, c2]
            simp only [if_pos c2, if_pos on, if_pos hsK]
          · have on : ¬ onb fr to ya sh E a s = true := by unfold onb; simp [c0, c1, c2]; omega
            simp only [if_neg c2, if_neg on, if_neg (show ¬ to s = a by omega)]
        · simp only [if_neg c1]
          by_cases c3 : to s = a
          · simp only [if_pos c3]
            by_cases c2 : E (fr s) + ya s = E a
            · have on : onb fr to ya sh E a s = true := by unfold onb; simp [c0, c3, c2]
              simp only [if_pos c2, if_pos on, if_pos hsK]
            · have on : ¬ onb fr to ya sh E a s = true := by unfold onb; simp [c0, c1, c3, c2]
              simp only [if_neg c2, if_neg on]
          · have on : ¬ onb fr to ya sh E a s = true := by unfold onb; simp [c0, c1, c3]
            simp only [if_neg c3, if_neg on]
      · have on : ¬ onb fr to ya sh E a s = true := by unfold onb; simp [c0]
        have hz : ¬ nI (sh s) = 0 := nI_ne0 (show 0 < sh s by omega) (by omega)
        simp only [if_neg hz, if_neg on, ite_self]
theorem least_ok (hK : K ≤ 16) (hC : C ≤ 8) (H : Cod K C fr to ya sh frF toF yaF shF) (hF : ∀ v, v < 8 → F v = nI (E v)) (hE : ∀ v, E v ≤ FARn) {a : Nat} (ha : a < C) :
    f_Way_leastOnward (nI a) (nI K) 16 shF 8 F 16 yaF 16 frF 16 toF = some (if nxs fr to ya sh E K a < K then nI (nxs fr to ya sh E K a) else -1) := by
  unfold f_Way_leastOnward
  have hFU : K - 0 < FU := by rw [FU_eq]; omega
  generalize FU = N at hFU ⊢
  have h := least3 hK hC H hF hE ha N 0 (Nat.zero_le _) hFU
  rw [nI_0, Nat.sub_zero] at h
  exact h
theorem walk6 (hK : K ≤ 16) (hC : C ≤ 8) (H : Cod K C fr to ya sh frF toF yaF shF) (hF : ∀ v, v < 8 → F v = nI (E v)) (hE : ∀ v, E v ≤ FARn) {q : Nat} (hq : q < C) (hFe : Feas fr to ya sh K E) (hT : Tight fr to ya sh K q E) :
    ∀ (n a k st : Nat) (S : Nat → Int32), a < C → E a < FARn → rk E a C + k ≤ 7 → 8 - k < n → ∃ (S' : Nat → Int32), f_Way_walk_6 n (nI q) (nI a) (nI k) (nI k) (nI st) (nI K) 16 shF 8 S 8 F 16 yaF 16 frF 16 toF = some (nI (k + (wlk fr to ya sh E K q (8 - k) a).length), nI (mskA st (wlk fr to ya sh E K q (8 - k) a)), S') ∧ k + (wlk fr to ya sh E K q (8 - k) a).length ≤ 7 ∧ (∀ i, i < k → S' i = S i) ∧ ∀ i, i < (wlk fr to ya sh E K q (8 - k) a).length → S' (k + i) = nI ((wlk fr to ya sh E K q (8 - k) a).getD i 0) := by
  intro n
  induction n with
  | zero => intro a k st S _ _ _ h; omega
  | succ n ih =>
    intro a k st S ha hfar hr hn
    rw [show f_Way_walk_6 (n + 1) = b_Way_walk_6 (f_Way_walk_6 n) from rfl]
    unfold b_Way_walk_6
    rw [show 8 - k = (8 - (k + 1)) + 1 by omega]
    rw [if_neg (nI_ge (show k < 8 by omega) (by decide))]
    by_cases c : a = q
    · subst c
      rw [if_pos rfl]
      have e : wlk fr to ya sh E K a ((8 - (k + 1)) + 1) a = [] := if_pos rfl
      rw [e]
      exact ⟨S, rfl, by show k + 0 ≤ 7; omega, fun _ _ => rfl, fun i h => absurd h (Nat.not_lt_zero _)⟩
    · have hx := on_ex hFe hT c hfar
      obtain ⟨y1, y2, y3, y4⟩ := on_step (C := C) (sh := sh) (ya := ya) (E := E) (a := a) (fun s hs => ⟨(H s hs).2.2.2.2.1, (H s hs).2.2.2.2.2.1, (H s hs).2.2.2.2.2.2.1, (H s hs).2.2.2.2.2.2.2.1⟩) hx
      have e : wlk fr to ya sh E K q ((8 - (k + 1)) + 1) a = nxs fr to ya sh E K a :: wlk fr to ya sh E K q (8 - (k + 1)) (oth fr to (nxs fr to ya sh E K a) a) := if_neg c
      rw [e, if_neg (nI_ne (by omega) (by omega) c), least_ok hK hC H hF hE ha, if_pos hx]
      generalize hs : nxs fr to ya sh E K a = s at *
      obtain ⟨e1, e2, e3, e4, b1, b2, b3, b4, b5, b6⟩ := H s hx
      have hlt : E (oth fr to s a) < E a := by omega
      have hrk := rk_lt hlt C y1
      have key : (if nI (fr s) = nI a then gix (nI s) 16 (f_Way_walk_103 (f_Way_walk_6 n) (nI q) (nI k) (nI (to s)) (nI (k + 1)) (nI (st ||| 2 ^ s)) (nI K) 16 shF 8 (upd S k (nI s)) 8 F 16 yaF 16 frF 16 toF) else gix (nI s) 16 (f_Way_walk_103 (f_Way_walk_6 n) (nI q) (nI k) (nI (fr s)) (nI (k + 1)) (nI (st ||| 2 ^ s)) (nI K) 16 shF 8 (upd S k (nI s)) 8 F 16 yaF 16 frF 16 toF)) = f_Way_walk_6 n (nI q) (nI (oth fr to s a)) (nI (k + 1)) (nI (k + 1)) (nI (st ||| 2 ^ s)) (nI K) 16 shF 8 (upd S k (nI s)) 8 F 16 yaF 16 frF 16 toF := by
        unfold oth f_Way_walk_103
        by_cases cf : fr s = a
        · rw [if_pos (by rw [cf]), if_pos cf, gixN (by omega) (by decide), nI_1]
        · rw [if_neg (nI_ne (by omega) (by omega) cf), if_neg cf, gixN (by omega) (by decide), nI_1]
      simp only [Option.bind_some, if_neg (nI_m1 (show s < 2 ^ 31 by omega)), gixN (show k < 8 by omega) (by decide : 8 < 2 ^ 31), nmI, nI_1, nI_bit s (by omega), nI_or, gixN (show s < 16 by omega) (by decide : 16 < 2 ^ 31), nIc (show s < 2 ^ 31 by omega), nIc (show k < 2 ^ 31 by omega), e1, e2]
      simp only [gixN (show s < 16 by omega) (by decide : 16 < 2 ^ 31)] at key
      rw [key]
      obtain ⟨S', w1, w2, w3, w4⟩ := ih (oth fr to s a) (k + 1) (st ||| 2 ^ s) (upd S k (nI s)) y1 (by omega) (by omega) (by omega)
      refine ⟨S', ?_, ?_, ?_, ?_⟩
      · rw [w1]
        show some (nI (k + 1 + _), nI (mskA (st ||| 2 ^ s) _), S') = some (nI (k + (_ + 1)), nI (mskA (st ||| 2 ^ s) _), S')
        rw [show k + 1 + (wlk fr to ya sh E K q (8 - (k + 1)) (oth fr to s a)).length = k + ((wlk fr to ya sh E K q (8 - (k + 1)) (oth fr to s a)).length + 1) by omega]
      · show k + (_ + 1) ≤ 7
        omega
      · intro i hi
        rw [w3 i (by omega)]
        exact pk_un (by omega)
      · intro i hi
        cases i with
        | zero =>
          rw [Nat.add_zero, w3 k (by omega)]
          exact pk_us
        | succ i =>
          have := w4 i (by simpa using hi)
          rw [show k + (i + 1) = k + 1 + i by omega, this]
          rfl
end WalkC
