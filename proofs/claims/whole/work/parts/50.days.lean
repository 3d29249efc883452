/-! ===== a night, on both sides ===== -/
def CodG (K C : Nat) (fr to ya : Nat → Nat) (frF toF yaF : Nat → Int32) : Prop := ∀ s, s < K → frF s = nI (fr s) ∧ toF s = nI (to s) ∧ yaF s = nI (ya s) ∧ fr s < C ∧ to s < C ∧ fr s ≠ to s ∧ 1 ≤ ya s ∧ ya s ≤ 198
def CodS (K : Nat) (sh : Nat → Nat) (shF : Nat → Int32) : Prop := ∀ s, s < 16 → sh s ≤ 99 ∧ shF s = nI (sh s) ∧ (K ≤ s → sh s = 0)
def nx (nn p : Nat) (sh : Nat → Nat) (s : Nat) : Nat := if s = p then nn else sh s - 1
def dw (fr to ya : Nat → Nat) (K : Nat) (mk qu : Nat → Nat) (sh : Nat → Nat) (d : Nat) : List Nat := wyl fr to ya sh K (qu d) (mk d)
def dy (fr to ya : Nat → Nat) (K : Nat) (mk qu : Nat → Nat) (sh : Nat → Nat) (d : Nat) : Nat := dst fr to ya sh K (qu d) (mk d)
theorem has0 : ∀ s, s < 16 → f_ShutWaysModel_has 0 (nI s) = some 0 := by
  intro s hs
  unfold f_ShutWaysModel_has f_ShutWaysModel_has_14
  have : ∀ s, s < 16 → ¬ ((0 : Int32) >>> (nI s &&& 31)) &&& 1 = 1 := by decide +kernel
  rw [if_neg (this s hs)]
  rfl
section Night
variable {K C kd nn d : Nat} {fr to ya sh mk qu : Nat → Nat} {frF toF yaF shF en : Nat → Int32} {market quay hasOdd oddM oddQ tw : Int32}
theorem CodG.cod (G : CodG K C fr to ya frF toF yaF) (S : CodS K sh shF) (hK : K ≤ 16) : Cod K C fr to ya sh frF toF yaF shF := by
  intro s hs
  obtain ⟨a1, a2, a3, a4, a5, a6, a7, a8⟩ := G s hs
  obtain ⟨b1, b2, -⟩ := S s (by omega)
  exact ⟨a1, a2, a3, b2, a4, a5, a6, a7, a8, b1⟩
theorem CodG.m (G : CodG K C fr to ya frF toF yaF) (S : CodS K sh shF) (hK : K ≤ 16) (ct : Nat) : CodM K C fr to ya ya sh frF toF yaF shF (fun _ => false) ct 0 := by
  refine ⟨fun s hs => has0 s (by omega), fun s _ => rfl, fun s hs => (G s hs).2.2.1, ?_⟩
  intro s hs
  obtain ⟨a1, a2, a3, a4, a5, a6, a7, a8⟩ := G s hs
  obtain ⟨b1, b2, -⟩ := S s (by omega)
  exact ⟨a1, a2, rfl, b2, a4, a5, a6, a7, a8, b1⟩
theorem CodG.b4 (G : CodG K C fr to ya frF toF yaF) : ∀ s, s < K → fr s < C ∧ to s < C ∧ fr s ≠ to s ∧ 1 ≤ ya s := fun s hs => ⟨(G s hs).2.2.2.1, (G s hs).2.2.2.2.1, (G s hs).2.2.2.2.2.1, (G s hs).2.2.2.2.2.2.1⟩
theorem CodG.y (G : CodG K C fr to ya frF toF yaF) : ∀ s, s < K → yaF s = nI (ya s) ∧ ya s ≤ 198 := fun s hs => ⟨(G s hs).2.2.1, (G s hs).2.2.2.2.2.2.2⟩
theorem CodS.step (S : CodS K sh shF) {p : Nat} (hn : nn ≤ 99) (hp : p < K ∨ p = 99) {F : Nat → Int32} (hF : ∀ s, s < 16 → F s = nI (nx nn p sh s)) : CodS K (nx nn p sh) F := by
  intro s hs
  obtain ⟨b1, b2, b3⟩ := S s hs
  refine ⟨?_, hF s hs, ?_⟩
  · unfold nx
    split <;> omega
  · intro h
    have := b3 h
    unfold nx
    rw [if_neg (by omega)]
    omega
theorem cI_neg {p : Nat} (h : p = 99) : cI p < 0 := by rw [h]; decide
theorem next2 (hn : nn ≤ 99) {p : Nat} (hp : p < 16 ∨ p = 99) (S : ∀ s, s < 16 → sh s ≤ 99) : ∀ (n i : Nat) (F : Nat → Int32), i ≤ 16 → 16 - i < n → (∀ s, s < i → F s = nI (sh s - 1)) → (∀ s, i ≤ s → s < 16 → F s = nI (sh s)) → ∃ F' : Nat → Int32, f_Days_next_2 n (cI p) (nI nn) (nI i) (nI d) 16 F = some (nI (d + 1), F') ∧ ∀ s, s < 16 → F' s = nI (nx nn p sh s) := by
  intro n
  induction n with
  | zero => intro i F _ h; omega
  | succ n ih =>
    intro i F hi hn' h1 h2
    rw [show f_Days_next_2 (n + 1) = b_Days_next_2 (f_Days_next_2 n) from rfl]
    unfold b_Days_next_2 f_Days_next_30 f_Days_next_56
    by_cases c : i = 16
    · subst c
      rw [if_pos (nI_le (Nat.le_refl _) (by decide))]
      simp only [nmI, nI_1]
      rcases hp with hp | hp
      · rw [cI_lt (show p < 99 by omega), if_neg (nI_pos (by omega)), if_neg (nI_ge hp (by decide)), gixN hp (by decide), nIc (by omega)]
        refine ⟨_, rfl, fun s hs => ?_⟩
        unfold nx
        by_cases e : s = p
        · subst e; rw [pk_us, if_pos rfl]
        · rw [pk_un e, if_neg e, h1 s hs]
      · rw [if_pos (cI_neg hp)]
        refine ⟨_, rfl, fun s hs => ?_⟩
        unfold nx
        rw [if_neg (by omega), h1 s hs]
    · have hi' : i < 16 := by omega
      have hS := S i hi'
      rw [if_neg (nI_ge hi' (by decide))]
      simp only [nmI, nI_1, gixN hi' (by decide : 16 < 2 ^ 31), nIc (show i < 2 ^ 31 by omega), h2 i (Nat.le_refl _) hi']
      by_cases z : sh i = 0
      · rw [if_pos (show nI (sh i) ≤ 0 from nI_le (b := 0) (by omega) (by decide))]
        refine ih (i + 1) F (by omega) (by omega) ?_ (fun s a b => h2 s (by omega) b)
        intro s hs
        by_cases e : s = i
        · subst e; rw [h2 s (Nat.le_refl _) hi', z]
        · exact h1 s (by omega)
      · rw [if_neg (nI_nle (by omega) (by omega)), show nI (sh i) - 1 = nI (sh i - 1) from pk_sub (b := 1) (by omega)]
        refine ih (i + 1) _ (by omega) (by omega) ?_ ?_
        · intro s hs
          by_cases e : s = i
          · subst e; rw [pk_us]
          · rw [pk_un e]; exact h1 s (by omega)
        · intro s a b
          rw [pk_un (by omega)]
          exact h2 s (by omega) b
theorem next_ok (hK : K ≤ 16) (hn : nn ≤ 99) {p : Nat} (hp : p < K ∨ p = 99) (S : CodS K sh shF) : ∃ F' : Nat → Int32, f_Days_next (cI p) (nI nn) (nI d) 16 shF = some (nI (d + 1), F') ∧ CodS K (nx nn p sh) F' := by
  unfold f_Days_next
  have hFU : 20 < FU := by rw [FU_eq]; decide
  generalize FU = N at hFU ⊢
  obtain ⟨F', w1, w2⟩ := next2 (d := d) hn (p := p) (by omega) (fun s hs => (S s hs).1) N 0 shF (by omega) (by omega) (fun s hs => absurd hs (Nat.not_lt_zero _)) (fun s _ hs => (S s hs).2.1)
  exact ⟨F', w1, S.step hn hp w2⟩
theorem shutOne2 (hK : K ≤ 16) {p : Nat} (hp : p < K ∨ p = 99) (S : CodS K sh shF) : ∀ (n i : Nat) (F : Nat → Int32), i ≤ K → K - i < n → (∀ s, s < i → F s = nI (nx nn p sh s)) → (∀ s, i ≤ s → s < 16 → F s = nI (sh s)) → ∃ F' : Nat → Int32, f_ShutWaysModel_shutOne_2 n (cI p) (nI i) (nI nn) (nI d) (nI K) 16 F = some (nI (d + 1), F') ∧ ∀ s, s < 16 → F' s = nI (nx nn p sh s) := by
  intro n
  induction n with
  | zero => intro i F _ h; omega
  | succ n ih =>
    intro i F hi hn' h1 h2
    rw [show f_ShutWaysModel_shutOne_2 (n + 1) = b_ShutWaysModel_shutOne_2 (f_ShutWaysModel_shutOne_2 n) from rfl]
    unfold b_ShutWaysModel_shutOne_2 f_ShutWaysModel_shutOne_48
    by_cases c : i = K
    · subst c
      rw [if_pos (nI_le (Nat.le_refl _) (by omega)), nI_1]
      refine ⟨F, rfl, fun s hs => ?_⟩
      by_cases e : s < i
      · exact h1 s e
      · obtain ⟨b1, b2, b3⟩ := S s hs
        have := b3 (by omega)
        rw [h2 s (by omega) hs]
        unfold nx
        rw [if_neg (by omega)]
        congr 1
        omega
    · have hi' : i < K := by omega
      obtain ⟨b1, b2, b3⟩ := S i (by omega)
      rw [if_neg (nI_ge hi' (by omega))]
      simp only [nI_1, gixN (show i < 16 by omega) (by decide : 16 < 2 ^ 31), nIc (show i < 2 ^ 31 by omega), h2 i (Nat.le_refl _) (by omega)]
      have key : ∀ v : Int32, v = nI (nx nn p sh i) → ∃ F' : Nat → Int32, f_ShutWaysModel_shutOne_2 n (cI p) (nI (i + 1)) (nI nn) (nI d) (nI K) 16 (upd F i v) = some (nI (d + 1), F') ∧ ∀ s, s < 16 → F' s = nI (nx nn p sh s) := by
        intro v hv
        refine ih (i + 1) _ (by omega) (by omega) ?_ ?_
        · intro s hs
          by_cases e : s = i
          · subst e; rw [pk_us, hv]
          · rw [pk_un e]; exact h1 s (by omega)
        · intro s a b
          rw [pk_un (by omega)]
          exact h2 s (by omega) b
      by_cases e : i = p
      · subst e
        rw [if_pos (cI_lt (by omega)).symm]
        exact key _ (by unfold nx; rw [if_pos rfl])
      · have ne : ¬ nI i = cI p := by
          rcases hp with hp | hp
          · rw [cI_lt (by omega)]; exact nI_ne (by omega) (by omega) e
          · rw [hp]; exact nI_m1 (by omega)
        rw [if_neg ne]
        by_cases z : sh i = 0
        · rw [if_pos (show nI (sh i) ≤ 0 from nI_le (b := 0) (by omega) (by decide))]
          exact key _ (by unfold nx; rw [if_neg e, z]; rfl)
        · rw [if_neg (nI_nle (by omega) (by omega)), show nI (sh i) - 1 = nI (sh i - 1) from pk_sub (b := 1) (by omega)]
          exact key _ (by unfold nx; rw [if_neg e])
theorem shutOne_ok (hK : K ≤ 16) (hn : nn ≤ 99) {p : Nat} (hp : p < K ∨ p = 99) (S : CodS K sh shF) : ∃ F' : Nat → Int32, f_ShutWaysModel_shutOne (cI p) (nI nn) (nI d) (nI K) 16 shF = some (nI (d + 1), F') ∧ CodS K (nx nn p sh) F' := by
  unfold f_ShutWaysModel_shutOne
  have hFU : 20 < FU := by rw [FU_eq]; decide
  generalize FU = N at hFU ⊢
  obtain ⟨F', w1, w2⟩ := shutOne2 (d := d) (nn := nn) hK hp S N 0 shF (by omega) (by omega) (fun s hs => absurd hs (Nat.not_lt_zero _)) (fun s _ hs => (S s hs).2.1)
  exact ⟨F', w1, S.step hn hp w2⟩
theorem findWay_ok (hK : K ≤ 16) (hC : C ≤ 8) (G : CodG K C fr to ya frF toF yaF) (S : CodS K sh shF) (E : EndsC C mk qu market quay hasOdd oddM oddQ) (hd : d < 100000) (wc ws wy : Int32) (far st : Nat → Int32) :
    ∃ far' st' : Nat → Int32, f_ShutWays_findWay market quay hasOdd oddM oddQ (nI d) wc ws wy (nI K) 16 shF 8 far 16 frF 16 toF 16 yaF 8 st = some (nI (dw fr to ya K mk qu sh d).length, nI (mskA 0 (dw fr to ya K mk qu sh d)), nI (dy fr to ya K mk qu sh d), far', st') ∧ (dw fr to ya K mk qu sh d).length ≤ 7 ∧ (∀ i, i < (dw fr to ya K mk qu sh d).length → st' i = nI ((dw fr to ya K mk qu sh d).getD i 0)) ∧ (∀ s, s ∈ dw fr to ya K mk qu sh d → s < K) ∧ dy fr to ya K mk qu sh d ≤ FARn ∧ (dw fr to ya K mk qu sh d = [] ↔ ¬ dy fr to ya K mk qu sh d < FARn) := by
  obtain ⟨e1, e2, e3, e4, e5⟩ := E d hd
  unfold f_ShutWays_findWay
  rw [e1, Option.bind_some, e2, Option.bind_some]
  obtain ⟨F, S', w1, w2, w3⟩ := find_ok hK hC (G.cod S hK) e4 e3 wc ws wy far st
  rw [w1, Option.bind_some]
  exact ⟨F, S', rfl, w2, w3, fun s hs => (wyl_mem hC e4 G.b4 e3 s hs).1, (dst_spec (sh := sh) hC e4 (G.cod S hK).b).2.2.2.2 _, wyl_nil e5⟩
theorem council_ok {kd : Nat} (hkd : kd < 4) : f_ShutWays_councilOf (nI kd) = some kd := by
  rcases (show kd = 0 ∨ kd = 1 ∨ kd = 2 ∨ kd = 3 by omega) with rfl | rfl | rfl | rfl <;> rfl
theorem pass_ok (hK : K ≤ 16) (hC : C ≤ 8) (G : CodG K C fr to ya frF toF yaF) (S : CodS K sh shF) (E : EndsC C mk qu market quay hasOdd oddM oddQ) (hkd : kd < 4) (hn : nn ≤ 99) (hd : d < 100000) (wc ws wy : Int32) (far st : Nat → Int32) :
    ∃ F' far' st' : Nat → Int32, f_ShutWays_passNight market quay hasOdd oddM oddQ (nI kd) (nI nn) (nI d) wc ws wy (nI K) 16 shF 8 far 16 frF 16 toF 16 yaF 8 st = some (cI (pkl kd ya (dw fr to ya K mk qu sh d)), nI (d + 1), nI (dw fr to ya K mk qu sh d).length, nI (mskA 0 (dw fr to ya K mk qu sh d)), nI (dy fr to ya K mk qu sh d), F', far', st') ∧ CodS K (nx nn (pkl kd ya (dw fr to ya K mk qu sh d)) sh) F' ∧ (dw fr to ya K mk qu sh d).length ≤ 7 ∧ (∀ i, i < (dw fr to ya K mk qu sh d).length → st' i = nI ((dw fr to ya K mk qu sh d).getD i 0)) ∧ (∀ s, s ∈ dw fr to ya K mk qu sh d → s < K) ∧ dy fr to ya K mk qu sh d ≤ FARn ∧ (dw fr to ya K mk qu sh d = [] ↔ ¬ dy fr to ya K mk qu sh d < FARn) := by
  obtain ⟨far', st', w1, w2, w3, w4, w5, w6⟩ := findWay_ok hK hC G S E hd wc ws wy far st
  unfold f_ShutWays_passNight
  rw [w1, Option.bind_some, council_ok hkd, Option.bind_some]
  generalize dw fr to ya K mk qu sh d = L at *
  have hp : pkl kd ya L < K ∨ pkl kd ya L = 99 := pkl_lt w4
  obtain ⟨F', v1, v2⟩ := next_ok (d := d) hK hn hp S
  rcases (show kd = 0 ∨ kd = 1 ∨ kd = 2 ∨ kd = 3 by omega) with rfl | rfl | rfl | rfl
  · rw [if_pos rfl, shuts_first (ya := ya) hK w2 w3 w4, Option.bind_some, v1, Option.bind_some]
    exact ⟨F', far', st', rfl, v2, w2, w3, w4, w5, w6⟩
  · rw [if_neg (by decide), if_pos rfl, shuts_last (ya := ya) hK w2 w3 w4, Option.bind_some, v1, Option.bind_some]
    exact ⟨F', far', st', rfl, v2, w2, w3, w4, w5, w6⟩
  · rw [if_neg (by decide), if_neg (by decide), if_pos rfl, shuts_longest hK G.y w2 w3 w4, Option.bind_some, v1, Option.bind_some]
    exact ⟨F', far', st', rfl, v2, w2, w3, w4, w5, w6⟩
  · rw [if_neg (by decide), if_neg (by decide), if_neg (by decide), if_pos rfl, shuts_least (ya := ya) hK w2 w3 w4, Option.bind_some, v1, Option.bind_some]
    exact ⟨F', far', st', rfl, v2, w2, w3, w4, w5, w6⟩
def yI (y : Nat) : Int32 := if y < FARn then nI y else -1
theorem lay_ok (hK : K ≤ 16) (hC : C ≤ 8) (G : CodG K C fr to ya frF toF yaF) (S : CodS K sh shF) (E : EndsC C mk qu market quay hasOdd oddM oddQ) (M : EndsM mk qu tw en) (hd : d < 100000) (ct : Nat) (wm : Int32) (L0 W0 : Nat → Int32) :
    ∃ L' W' : Nat → Int32, f_ShutWaysModel_layWay 0 (nI C) tw (nI ct) (nI d) (nI K) wm 8 L0 4 en 16 shF 16 yaF 16 frF 16 toF 16 W0 = some (yI (dy fr to ya K mk qu sh d), nI (dw fr to ya K mk qu sh d).length, L', W') ∧ (∀ i, i < (dw fr to ya K mk qu sh d).length → W' i = nI ((dw fr to ya K mk qu sh d).getD i 0)) := by
  obtain ⟨e1, e2, e3, e4, e5⟩ := E d hd
  exact layWay_ok hK hC (G.m S hK ct) e4 tw (nI d) wm e3 (M d hd).1 (M d hd).2 L0 W0
theorem goNight_ok (hK : K ≤ 16) (hC : C ≤ 8) (G : CodG K C fr to ya frF toF yaF) (S : CodS K sh shF) (E : EndsC C mk qu market quay hasOdd oddM oddQ) (M : EndsM mk qu tw en) (hkd : kd < 4) (hn : nn ≤ 99) (hd : d < 100000) (hl : (dw fr to ya K mk qu sh d).length ≤ 7) (hm : ∀ s, s ∈ dw fr to ya K mk qu sh d → s < K) (ct : Nat) (wm : Int32) (L0 W0 : Nat → Int32) :
    ∃ L' F' W' : Nat → Int32, f_ShutWaysModel_goNight (nI C) tw (nI kd) (nI nn) (nI ct) (nI d) (nI K) wm 8 L0 4 en 16 shF 16 yaF 16 frF 16 toF 16 W0 = some (yI (dy fr to ya K mk qu sh d), nI (d + 1), nI (dw fr to ya K mk qu sh d).length, L', F', W') ∧ CodS K (nx nn (pkl kd ya (dw fr to ya K mk qu sh d)) sh) F' ∧ (∀ i, i < (dw fr to ya K mk qu sh d).length → W' i = nI ((dw fr to ya K mk qu sh d).getD i 0)) := by
  obtain ⟨L', W', w1, w2⟩ := lay_ok hK hC G S E M hd ct wm L0 W0
  unfold f_ShutWaysModel_goNight
  rw [w1, Option.bind_some]
  generalize dw fr to ya K mk qu sh d = L at *
  obtain ⟨F', v1, v2⟩ := shutOne_ok (d := d) hK hn (pkl_lt (kd := kd) (ya := ya) hm) S
  rw [picked_ok hkd hK G.y hl w2 hm, Option.bind_some, v1, Option.bind_some]
  exact ⟨L', F', W', rfl, v2, w2⟩
end Night
