theorem aside13 (dy : Int32) (F : Nat → Int32) : ∀ (n i : Nat) (A : Nat → Int32), i ≤ 16 → 16 - i < n → ∃ A' : Nat → Int32, f_ShutWaysModel_putAside_13 n (nI i) dy 17 A 16 F = some A' ∧ (∀ s, i ≤ s → s < 16 → A' s = F s) ∧ (∀ s, (s < i ∨ 16 ≤ s) → A' s = A s) := by
  intro n
  induction n with
  | zero => intro i _ _ h; omega
  | succ n ih =>
    intro i A hi hn
    rw [show f_ShutWaysModel_putAside_13 (n + 1) = b_ShutWaysModel_putAside_13 (f_ShutWaysModel_putAside_13 n) from rfl]
    unfold b_ShutWaysModel_putAside_13
    by_cases c : i = 16
    · subst c
      rw [if_pos (show (16 : Int32) ≤ nI 16 by decide)]
      exact ⟨A, rfl, fun s h1 h2 => by omega, fun _ _ => rfl⟩
    · rw [if_neg (show ¬ (16 : Int32) ≤ nI i from nI_ge (b := 16) (by omega) (by decide))]
      simp only [nmI, nI_1, gixN (show i < 16 by omega) (by decide : 16 < 2 ^ 31), gixN (show i < 17 by omega) (by decide : 17 < 2 ^ 31), nIc (show i < 2 ^ 31 by omega)]
      obtain ⟨A', h1, h2, h3⟩ := ih (i + 1) (upd A i (F i)) (by omega) (by omega)
      refine ⟨A', h1, ?_, ?_⟩
      · intro s a b
        by_cases e : s = i
        · subst e; rw [h3 s (by omega)]; exact pk_us
        · exact h2 s (by omega) b
      · intro s a
        rw [h3 s (by omega)]
        exact pk_un (by omega)
theorem aside_ok (dy : Int32) (A F : Nat → Int32) : ∃ A' : Nat → Int32, f_ShutWaysModel_putAside dy 17 A 16 F = some A' ∧ A' 16 = dy ∧ ∀ s, s < 16 → A' s = F s := by
  unfold f_ShutWaysModel_putAside
  have hFU : 20 < FU := by rw [FU_eq]; decide
  generalize FU = N at hFU ⊢
  rw [show ∀ k : Option (Nat → Int32), gix 16 17 k = k from fun k => gixN (i := 16) (by decide) (by decide), show (16 : Int32).toNatClampNeg = 16 by decide]
  obtain ⟨A', h1, h2, h3⟩ := aside13 dy F N 0 (upd A 16 dy) (by omega) (by omega)
  rw [nI_0] at h1
  exact ⟨A', h1, (h3 16 (by omega)).trans pk_us, fun s hs => h2 s (by omega) hs⟩
theorem back21 (st dd al : Int32) (A : Nat → Int32) : ∀ (n i : Nat) (F : Nat → Int32), i ≤ 16 → 16 - i < n → ∃ F' : Nat → Int32, f_ShutWaysModel_putBack_21 n (nI i) st dd al 17 A 16 F = some (dd, al, F') ∧ (∀ s, i ≤ s → s < 16 → F' s = A s) ∧ (∀ s, s < i → F' s = F s) := by
  intro n
  induction n with
  | zero => intro i _ _ h; omega
  | succ n ih =>
    intro i F hi hn
    rw [show f_ShutWaysModel_putBack_21 (n + 1) = b_ShutWaysModel_putBack_21 (f_ShutWaysModel_putBack_21 n) from rfl]
    unfold b_ShutWaysModel_putBack_21
    by_cases c : i = 16
    · subst c
      rw [if_pos (show (16 : Int32) ≤ nI 16 by decide)]
      exact ⟨F, rfl, fun s h1 h2 => by omega, fun _ _ => rfl⟩
    · rw [if_neg (show ¬ (16 : Int32) ≤ nI i from nI_ge (b := 16) (by omega) (by decide))]
      simp only [nmI, nI_1, gixN (show i < 16 by omega) (by decide : 16 < 2 ^ 31), gixN (show i < 17 by omega) (by decide : 17 < 2 ^ 31), nIc (show i < 2 ^ 31 by omega)]
      obtain ⟨F', h1, h2, h3⟩ := ih (i + 1) (upd F i (A i)) (by omega) (by omega)
      refine ⟨F', h1, ?_, ?_⟩
      · intro s a b
        by_cases e : s = i
        · subst e; rw [h3 s (by omega)]; exact pk_us
        · exact h2 s (by omega) b
      · intro s a
        rw [h3 s (by omega)]
        exact pk_un (by omega)
theorem pb1 (A : Nat → Int32) : 20 < FU := by rw [FU_eq]; decide
theorem pb2 (k : Option (Int32 × Int32 × (Nat → Int32))) : gix 16 17 k = k := gixN (i := 16) (by decide) (by decide)
theorem pb3 (st : Int32) (A F : Nat → Int32) : ∀ N, 20 < N → ∃ F' : Nat → Int32, f_ShutWaysModel_putBack_21 N 0 st (A 16) st 17 A 16 F = some (A 16, st, F') ∧ ∀ s, s < 16 → F' s = A s := by
    intro N hN
    obtain ⟨F', h1, h2, h3⟩ := back21 st (A 16) st A N 0 F (by omega) (by omega)
    rw [nI_0] at h1
    exact ⟨F', h1, fun s hs => h2 s (by omega) hs⟩
theorem pb4 (st : Int32) (A F : Nat → Int32) : ∃ F' : Nat → Int32, f_ShutWaysModel_putBack_21 FU 0 st (A 16) st 17 A 16 F = some (A 16, st, F') ∧ ∀ s, s < 16 → F' s = A s := pb3 st A F FU (pb1 A)
theorem pb5 (f22 : Int32 → Int32 → Int32 → Int32 → Nat → (Nat → Int32) → Nat → (Nat → Int32) → Option (Int32 × Int32 × (Nat → Int32))) (st : Int32) (A F : Nat → Int32) : gix 16 17 (nmI (A (16 : Int32).toNatClampNeg) (fun z2 => f22 0 st z2 st 17 A 16 F)) = f22 0 st (A 16) st 17 A 16 F := by
  rw [pb2, show (16 : Int32).toNatClampNeg = 16 by decide]
  rfl
theorem pb6 (st dd al : Int32) (A F : Nat → Int32) : f_ShutWaysModel_putBack st dd al 17 A 16 F = f_ShutWaysModel_putBack_21 FU 0 st (A 16) st 17 A 16 F := by
  unfold f_ShutWaysModel_putBack
  exact pb5 (f_ShutWaysModel_putBack_21 FU) st A F
theorem putBack_ok (st dd al : Int32) (A F : Nat → Int32) : ∃ F' : Nat → Int32, f_ShutWaysModel_putBack st dd al 17 A 16 F = some (A 16, st, F') ∧ ∀ s, s < 16 → F' s = A s := by
  rw [pb6]
  exact pb4 st A F
