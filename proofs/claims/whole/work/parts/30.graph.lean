/-! ===== distances from the quay: rounds of relaxations come to rest within as many rounds as there are corners ===== -/
def FARn : Nat := 1000000
def updN (D : Nat → Nat) (k v : Nat) : Nat → Nat := fun j => if j = k then v else D j
theorem updN_self (D : Nat → Nat) (k v : Nat) : updN D k v k = v := if_pos rfl
theorem updN_ne (D : Nat → Nat) {k j : Nat} (v : Nat) (h : j ≠ k) : updN D k v j = D j := if_neg h
section Graph
variable (fr to ya sh : Nat → Nat)
def rx (D : Nat → Nat) (s : Nat) : Nat → Nat :=
  if sh s = 0 then
    if D (to s) + ya s < D (fr s) then updN D (fr s) (D (to s) + ya s)
    else if D (fr s) + ya s < D (to s) then updN D (to s) (D (fr s) + ya s) else D
  else D
def rxs : Nat → (Nat → Nat) → (Nat → Nat)
  | 0, D => D
  | s + 1, D => rx fr to ya sh (rxs s D) s
def rnds (K : Nat) : Nat → (Nat → Nat) → (Nat → Nat)
  | 0, D => D
  | k + 1, D => rxs fr to ya sh K (rnds K k D)
def D0 (q : Nat) : Nat → Nat := fun v => if v = q then 0 else FARn
def Feas (K : Nat) (E : Nat → Nat) : Prop := ∀ s, s < K → sh s = 0 → E (fr s) ≤ E (to s) + ya s ∧ E (to s) ≤ E (fr s) + ya s
/-- street s joins v to w -/
def Joins (s v w : Nat) : Prop := (fr s = v ∧ to s = w) ∨ (to s = v ∧ fr s = w)
def Tight (K q : Nat) (D : Nat → Nat) : Prop := ∀ v, v ≠ q → D v = FARn ∨ ∃ s w, s < K ∧ sh s = 0 ∧ Joins fr to s v w ∧ D w + ya s ≤ D v
variable {fr to ya sh}
theorem rx_le (D : Nat → Nat) (s v : Nat) : rx fr to ya sh D s v ≤ D v := by
  unfold rx
  split
  · split
    · rename_i h
      by_cases e : v = fr s
      · subst e; rw [updN_self]; omega
      · rw [updN_ne _ _ e]; exact Nat.le_refl _
    · split
      · rename_i h
        by_cases e : v = to s
        · subst e; rw [updN_self]; omega
        · rw [updN_ne _ _ e]; exact Nat.le_refl _
      · exact Nat.le_refl _
  · exact Nat.le_refl _
theorem rx_B (D : Nat → Nat) {s : Nat} (h : sh s = 0) : rx fr to ya sh D s (fr s) ≤ D (to s) + ya s ∧ rx fr to ya sh D s (to s) ≤ D (fr s) + ya s := by
  unfold rx
  rw [if_pos h]
  split
  · rename_i c
    refine ⟨by rw [updN_self]; exact Nat.le_refl _, ?_⟩
    by_cases e : to s = fr s
    · rw [e, updN_self]; rw [e] at c; omega
    · rw [updN_ne _ _ e]; omega
  · split
    · rename_i c1 c
      refine ⟨?_, by rw [updN_self]; exact Nat.le_refl _⟩
      by_cases e : fr s = to s
      · rw [e] at c; omega
      · rw [updN_ne _ _ e]; omega
    · constructor <;> omega
theorem rx_C {E D : Nat → Nat} {s : Nat} (hE : sh s = 0 → E (fr s) ≤ E (to s) + ya s ∧ E (to s) ≤ E (fr s) + ya s) (h : ∀ v, E v ≤ D v) (v : Nat) : E v ≤ rx fr to ya sh D s v := by
  unfold rx
  have h1 := h (fr s)
  have h2 := h (to s)
  split
  · rename_i hs
    obtain ⟨e1, e2⟩ := hE hs
    split
    · by_cases e : v = fr s
      · subst e; rw [updN_self]; omega
      · rw [updN_ne _ _ e]; exact h v
    · split
      · by_cases e : v = to s
        · subst e; rw [updN_self]; omega
        · rw [updN_ne _ _ e]; exact h v
      · exact h v
  · exact h v
theorem rxs_le (D : Nat → Nat) (v : Nat) : ∀ K, rxs fr to ya sh K D v ≤ D v
  | 0 => Nat.le_refl _
  | s + 1 => Nat.le_trans (rx_le _ s v) (rxs_le D v s)
theorem rxs_mono (D : Nat → Nat) (v : Nat) {a : Nat} : ∀ b, a ≤ b → rxs fr to ya sh b D v ≤ rxs fr to ya sh a D v := by
  intro b
  induction b with
  | zero => intro h; rw [Nat.le_zero.mp h]; exact Nat.le_refl _
  | succ b ih =>
    intro h
    rcases Nat.lt_or_ge a (b + 1) with q | q
    · exact Nat.le_trans (rx_le _ b v) (ih (by omega))
    · rw [show a = b + 1 by omega]; exact Nat.le_refl _
theorem rxs_B (D : Nat → Nat) {K s : Nat} (hs : s < K) (h : sh s = 0) : rxs fr to ya sh K D (fr s) ≤ D (to s) + ya s ∧ rxs fr to ya sh K D (to s) ≤ D (fr s) + ya s := by
  have b := rx_B (fr := fr) (to := to) (ya := ya) (rxs fr to ya sh s D) h
  have m1 := rxs_mono (fr := fr) (to := to) (ya := ya) (sh := sh) D (fr s) (a := s + 1) K hs
  have m2 := rxs_mono (fr := fr) (to := to) (ya := ya) (sh := sh) D (to s) (a := s + 1) K hs
  have l1 := rxs_le (fr := fr) (to := to) (ya := ya) (sh := sh) D (fr s) s
  have l2 := rxs_le (fr := fr) (to := to) (ya := ya) (sh := sh) D (to s) s
  simp only [rxs] at m1 m2
  omega
theorem rxs_C {E D : Nat → Nat} : ∀ K, Feas fr to ya sh K E → (∀ v, E v ≤ D v) → ∀ v, E v ≤ rxs fr to ya sh K D v
  | 0, _, h, v => h v
  | s + 1, hE, h, v => rx_C (fun q => hE s (Nat.lt_succ_self s) q) (rxs_C s (fun t ht => hE t (by omega)) h) v
theorem rx_tight {K q s : Nat} {D : Nat → Nat} (hs : s < K) (h : Tight fr to ya sh K q D) : Tight fr to ya sh K q (rx fr to ya sh D s) := by
  intro v hv
  have le := rx_le (fr := fr) (to := to) (ya := ya) (sh := sh) D s
  have old : ∀ w, D w = FARn ∨ (∃ s' w', s' < K ∧ sh s' = 0 ∧ Joins fr to s' w w' ∧ D w' + ya s' ≤ D w) → rx fr to ya sh D s w = D w → rx fr to ya sh D s w = FARn ∨ ∃ s' w', s' < K ∧ sh s' = 0 ∧ Joins fr to s' w w' ∧ rx fr to ya sh D s w' + ya s' ≤ rx fr to ya sh D s w := by
    intro w h1 h2
    rcases h1 with h1 | ⟨s', w', a, b, c, d⟩
    · exact Or.inl (h2.trans h1)
    · refine Or.inr ⟨s', w', a, b, c, ?_⟩
      rw [h2]
      have := le w'
      omega
  by_cases e0 : rx fr to ya sh D s v = D v
  · exact old v (h v hv) e0
  · refine Or.inr ?_
    have hsh : sh s = 0 := by
      by_cases c : sh s = 0
      · exact c
      · exact absurd (by unfold rx; rw [if_neg c]) e0
    by_cases c1 : D (to s) + ya s < D (fr s)
    · have er : rx fr to ya sh D s = updN D (fr s) (D (to s) + ya s) := by unfold rx; rw [if_pos hsh, if_pos c1]
      have ev : v = fr s := by
        by_cases c : v = fr s
        · exact c
        · exact absurd (by rw [er, updN_ne _ _ c]) e0
      refine ⟨s, to s, hs, hsh, Or.inl ⟨ev.symm, rfl⟩, ?_⟩
      have := le (to s)
      rw [er, ev, updN_self]
      rw [er] at this
      omega
    · by_cases c2 : D (fr s) + ya s < D (to s)
      · have er : rx fr to ya sh D s = updN D (to s) (D (fr s) + ya s) := by unfold rx; rw [if_pos hsh, if_neg c1, if_pos c2]
        have ev : v = to s := by
          by_cases c : v = to s
          · exact c
          · exact absurd (by rw [er, updN_ne _ _ c]) e0
        refine ⟨s, fr s, hs, hsh, Or.inr ⟨ev.symm, rfl⟩, ?_⟩
        have := le (fr s)
        rw [er, ev, updN_self]
        rw [er] at this
        omega
      · exact absurd (by unfold rx; rw [if_pos hsh, if_neg c1, if_neg c2]) e0
theorem rxs_tight {K q : Nat} {D : Nat → Nat} (h : Tight fr to ya sh K q D) : ∀ k, k ≤ K → Tight fr to ya sh K q (rxs fr to ya sh k D)
  | 0, _ => h
  | s + 1, hs => rx_tight hs (rxs_tight h s (by omega))
theorem rnds_tight {K q : Nat} {D : Nat → Nat} (h : Tight fr to ya sh K q D) : ∀ k, Tight fr to ya sh K q (rnds fr to ya sh K k D)
  | 0 => h
  | k + 1 => rxs_tight (rnds_tight h k) K (Nat.le_refl _)
theorem D0_tight (K q : Nat) : Tight fr to ya sh K q (D0 q) := fun v hv => Or.inl (if_neg hv)
theorem rnds_le (D : Nat → Nat) (K v : Nat) : ∀ k, rnds fr to ya sh K k D v ≤ D v
  | 0 => Nat.le_refl _
  | k + 1 => Nat.le_trans (rxs_le _ v K) (rnds_le D K v k)
theorem rnds_C {E D : Nat → Nat} {K : Nat} (hE : Feas fr to ya sh K E) (h : ∀ v, E v ≤ D v) : ∀ k v, E v ≤ rnds fr to ya sh K k D v
  | 0, v => h v
  | k + 1, v => rxs_C K hE (rnds_C hE h k) v
/-- what no street reaches stays -/
theorem rx_out {D : Nat → Nat} {s v : Nat} (h1 : fr s ≠ v) (h2 : to s ≠ v) : rx fr to ya sh D s v = D v := by
  unfold rx
  split
  · split
    · exact updN_ne _ _ (Ne.symm h1)
    · split
      · exact updN_ne _ _ (Ne.symm h2)
      · rfl
  · rfl
theorem rxs_out {D : Nat → Nat} {v : Nat} : ∀ K, (∀ s, s < K → fr s ≠ v ∧ to s ≠ v) → rxs fr to ya sh K D v = D v
  | 0, _ => rfl
  | s + 1, h => (rx_out (h s (Nat.lt_succ_self s)).1 (h s (Nat.lt_succ_self s)).2).trans (rxs_out s (fun t ht => h t (by omega)))
theorem rnds_out {D : Nat → Nat} {K v : Nat} (h : ∀ s, s < K → fr s ≠ v ∧ to s ≠ v) : ∀ k, rnds fr to ya sh K k D v = D v
  | 0 => rfl
  | k + 1 => (rxs_out K h).trans (rnds_out h k)
def sumN (D : Nat → Nat) : Nat → Nat
  | 0 => 0
  | n + 1 => sumN D n + D n
theorem sumN_le {D E : Nat → Nat} (h : ∀ v, E v ≤ D v) : ∀ n, sumN E n ≤ sumN D n
  | 0 => Nat.le_refl _
  | n + 1 => Nat.add_le_add (sumN_le h n) (h n)
theorem sumN_lt {D E : Nat → Nat} (h : ∀ v, E v ≤ D v) {v : Nat} (hv : E v < D v) : ∀ n, v < n → sumN E n < sumN D n := by
  intro n
  induction n with
  | zero => intro q; exact absurd q (Nat.not_lt_zero _)
  | succ n ih =>
    intro q
    show sumN E n + E n < sumN D n + D n
    by_cases e : v = n
    · subst e
      have := sumN_le h v
      omega
    · have := ih (by omega)
      have := h n
      omega
/-- rounds come to rest -/
theorem rest {K : Nat} (hb : ∀ s, s < K → fr s < 8 ∧ to s < 8) : ∀ (N : Nat) (D : Nat → Nat), sumN D 8 ≤ N → ∃ M, rxs fr to ya sh K (rnds fr to ya sh K M D) = rnds fr to ya sh K M D := by
  intro N
  induction N with
  | zero =>
    intro D h
    refine ⟨0, ?_⟩
    funext v
    show rxs fr to ya sh K D v = D v
    by_cases c : v < 8
    · have l := rxs_le (fr := fr) (to := to) (ya := ya) (sh := sh) D v K
      by_cases e : rxs fr to ya sh K D v = D v
      · exact e
      · have := sumN_lt (D := D) (E := rxs fr to ya sh K D) (fun w => rxs_le D w K) (v := v) (by omega) 8 c
        omega
    · exact rxs_out K (fun s hs => ⟨by have := hb s hs; omega, by have := hb s hs; omega⟩)
  | succ N ih =>
    intro D h
    by_cases e : rxs fr to ya sh K D = D
    · exact ⟨0, e⟩
    · have lt : sumN (rxs fr to ya sh K D) 8 < sumN D 8 := by
        have : ∃ v, rxs fr to ya sh K D v ≠ D v := by
          apply Classical.byContradiction
          intro q
          exact e (funext fun v => Classical.byContradiction fun z => q ⟨v, z⟩)
        obtain ⟨v, hv⟩ := this
        have l := rxs_le (fr := fr) (to := to) (ya := ya) (sh := sh) D v K
        have c : v < 8 := by
          rcases Nat.lt_or_ge v 8 with q | q
          · exact q
          · exact absurd (rxs_out K (fun s hs => ⟨by have := hb s hs; omega, by have := hb s hs; omega⟩)) hv
        exact sumN_lt (fun w => rxs_le D w K) (v := v) (by omega) 8 c
      obtain ⟨M, hM⟩ := ih (rxs fr to ya sh K D) (by omega)
      have sh1 : ∀ k, rnds fr to ya sh K k (rxs fr to ya sh K D) = rnds fr to ya sh K (k + 1) D := by
        intro k
        induction k with
        | zero => rfl
        | succ k ih2 => show rxs fr to ya sh K (rnds fr to ya sh K k (rxs fr to ya sh K D)) = _; rw [ih2]; rfl
      exact ⟨M + 1, by rw [← sh1]; exact hM⟩
/-- how many of the first C have less -/
def rk (E : Nat → Nat) (v : Nat) : Nat → Nat
  | 0 => 0
  | C + 1 => rk E v C + (if E C < E v then 1 else 0)
theorem rk_le {E : Nat → Nat} {v w : Nat} (h : E w ≤ E v) : ∀ C, rk E w C ≤ rk E v C
  | 0 => Nat.le_refl _
  | C + 1 => by
    have := rk_le h C
    show rk E w C + (if E C < E w then 1 else 0) ≤ rk E v C + (if E C < E v then 1 else 0)
    by_cases c : E C < E w
    · rw [if_pos c, if_pos (by omega)]; omega
    · rw [if_neg c]; split <;> omega
theorem rk_lt {E : Nat → Nat} {v w : Nat} (h : E w < E v) : ∀ C, w < C → rk E w C < rk E v C
  | 0, hw => absurd hw (Nat.not_lt_zero _)
  | C + 1, hw => by
    show rk E w C + (if E C < E w then 1 else 0) < rk E v C + (if E C < E v then 1 else 0)
    by_cases e : w = C
    · subst e
      have := rk_le (Nat.le_of_lt h) w
      rw [if_neg (Nat.lt_irrefl _), if_pos h]
      omega
    · have := rk_lt h C (by omega)
      by_cases c : E C < E w
      · rw [if_pos c, if_pos (by omega)]; omega
      · rw [if_neg c]; split <;> omega
theorem rk_bound (E : Nat → Nat) (v : Nat) : ∀ C, rk E v C ≤ C
  | 0 => Nat.le_refl _
  | C + 1 => by
    have := rk_bound E v C
    show rk E v C + (if E C < E v then 1 else 0) ≤ C + 1
    split <;> omega
theorem rk_self (E : Nat → Nat) (v : Nat) : ∀ C, v < C → rk E v C < C
  | 0, h => absurd h (Nat.not_lt_zero _)
  | C + 1, h => by
    show rk E v C + (if E C < E v then 1 else 0) < C + 1
    by_cases e : v = C
    · subst e
      have := rk_bound E v v
      rw [if_neg (Nat.lt_irrefl _)]
      omega
    · have := rk_self E v C (by omega)
      split <;> omega
/-- what the rounds come to, told once: at every count of rounds from one less than the corners on -/
theorem settle {K C q : Nat} (hC : C ≤ 8) (hq : q < C) (hb : ∀ s, s < K → fr s < C ∧ to s < C ∧ 1 ≤ ya s) :
    ∃ E : Nat → Nat, (∀ k, C ≤ k + 1 → rnds fr to ya sh K k (D0 q) = E) ∧ Feas fr to ya sh K E ∧ Tight fr to ya sh K q E ∧ E q = 0 ∧ ∀ v, E v ≤ FARn := by
  obtain ⟨M, hM⟩ := rest (fr := fr) (to := to) (ya := ya) (sh := sh) (K := K) (fun s hs => ⟨by have := hb s hs; omega, by have := hb s hs; omega⟩) _ (D0 q) (Nat.le_refl _)
  generalize hE : rnds fr to ya sh K M (D0 q) = E at hM
  have hF : Feas fr to ya sh K E := by
    intro s hs h0
    have := rxs_B (fr := fr) (to := to) (ya := ya) (sh := sh) E hs h0
    rw [hM] at this
    exact this
  have hT : Tight fr to ya sh K q E := by rw [← hE]; exact rnds_tight (D0_tight K q) M
  have hle : ∀ v, E v ≤ D0 q v := fun v => by rw [← hE]; exact rnds_le (D0 q) K v M
  have h0 : E q = 0 := by have := hle q; rw [show D0 q q = 0 from if_pos rfl] at this; omega
  have hfar : ∀ v, E v ≤ FARn := fun v => Nat.le_trans (hle v) (by unfold D0; split; exact Nat.zero_le _; exact Nat.le_refl _)
  have low : ∀ k v, E v ≤ rnds fr to ya sh K k (D0 q) v := rnds_C hF hle
  have top : ∀ k v, rnds fr to ya sh K k (D0 q) v ≤ FARn := fun k v => Nat.le_trans (rnds_le (D0 q) K v k) (by unfold D0; split; exact Nat.zero_le _; exact Nat.le_refl _)
  have main : ∀ k v, v < C → rk E v C ≤ k → rnds fr to ya sh K k (D0 q) v = E v := by
    intro k
    induction k with
    | zero =>
      intro v hv hr
      by_cases e : v = q
      · subst e; rw [h0]; exact if_pos rfl
      · rcases hT v e with h | ⟨s, w, a, b, c, d⟩
        · have := low 0 v; have := top 0 v; omega
        · have hw : w < C := by have := hb s a; rcases c with ⟨_, c⟩ | ⟨_, c⟩ <;> omega
          have := rk_lt (E := E) (v := v) (w := w) (by have := hb s a; omega) C hw
          omega
    | succ k ih =>
      intro v hv hr
      by_cases e : v = q
      · subst e
        have := rnds_le (fr := fr) (to := to) (ya := ya) (sh := sh) (D0 v) K v (k + 1)
        rw [show D0 v v = 0 from if_pos rfl] at this
        omega
      · rcases hT v e with h | ⟨s, w, a, b, c, d⟩
        · have := low (k + 1) v; have := top (k + 1) v; omega
        · have hw : w < C := by have := hb s a; rcases c with ⟨_, c⟩ | ⟨_, c⟩ <;> omega
          have lt := rk_lt (E := E) (v := v) (w := w) (by have := hb s a; omega) C hw
          have ew := ih w hw (by omega)
          have B := rxs_B (fr := fr) (to := to) (ya := ya) (sh := sh) (rnds fr to ya sh K k (D0 q)) a b
          have lo := low (k + 1) v
          have step : rnds fr to ya sh K (k + 1) (D0 q) v ≤ rnds fr to ya sh K k (D0 q) w + ya s := by
            show rxs fr to ya sh K (rnds fr to ya sh K k (D0 q)) v ≤ _
            rcases c with ⟨c1, c2⟩ | ⟨c1, c2⟩
            · rw [← c1, ← c2]; exact B.1
            · rw [← c1, ← c2]; exact B.2
          omega
  refine ⟨E, ?_, hF, hT, h0, hfar⟩
  intro k hk
  funext v
  by_cases c : v < C
  · exact main k v c (by have := rk_self E v C c; omega)
  · have o : ∀ s, s < K → fr s ≠ v ∧ to s ≠ v := fun s hs => ⟨by have := hb s hs; omega, by have := hb s hs; omega⟩
    rw [rnds_out o k, ← hE, rnds_out o M]
end Graph
