/-! ===== chosen: the reference's walk with a stack ===== -/
theorem e16 (i s : Nat) : ((16 * nI i) + nI s : Int32) = nI (16 * i + s) := by
  rw [show (16 : Int32) * nI i = nI (16 * i) from pk_mul 16 i, nI_add]
theorem e12 (i s : Nat) : ((12 * nI i) + nI s : Int32) = nI (12 * i + s) := by
  rw [show (12 : Int32) * nI i = nI (12 * i) from pk_mul 12 i, nI_add]
def Lev (e : Nat) (sh : Nat → Nat) (L : List Nat) (k sm : Nat) (dS dM dN dU dW : Nat → Int32) : Prop := (∀ s, s < 16 → dS (16 * e + s) = nI (sh s)) ∧ dM e = nI L.length ∧ (∀ i, i < L.length → dW (12 * e + i) = nI (L.getD i 0)) ∧ dN e = nI k ∧ dU e = nI sm
def Low (e : Nat) (dS dM dN dU dW dS' dM' dN' dU' dW' : Nat → Int32) : Prop := (∀ p, p < 16 * e → dS' p = dS p) ∧ (∀ p, p < e → dM' p = dM p) ∧ (∀ p, p < e → dN' p = dN p) ∧ (∀ p, p < e → dU' p = dU p) ∧ ∀ p, p < 12 * e → dW' p = dW p
theorem Low.refl (e : Nat) (dS dM dN dU dW : Nat → Int32) : Low e dS dM dN dU dW dS dM dN dU dW := ⟨fun _ _ => rfl, fun _ _ => rfl, fun _ _ => rfl, fun _ _ => rfl, fun _ _ => rfl⟩
theorem Low.trans {e : Nat} {dS dM dN dU dW dS' dM' dN' dU' dW' dS2 dM2 dN2 dU2 dW2 : Nat → Int32} (h : Low e dS dM dN dU dW dS' dM' dN' dU' dW') (h' : Low e dS' dM' dN' dU' dW' dS2 dM2 dN2 dU2 dW2) : Low e dS dM dN dU dW dS2 dM2 dN2 dU2 dW2 :=
  ⟨fun p q => (h'.1 p q).trans (h.1 p q), fun p q => (h'.2.1 p q).trans (h.2.1 p q), fun p q => (h'.2.2.1 p q).trans (h.2.2.1 p q), fun p q => (h'.2.2.2.1 p q).trans (h.2.2.2.1 p q), fun p q => (h'.2.2.2.2 p q).trans (h.2.2.2.2 p q)⟩
theorem Low.mono {e e' : Nat} {dS dM dN dU dW dS' dM' dN' dU' dW' : Nat → Int32} (h : Low e dS dM dN dU dW dS' dM' dN' dU' dW') (he : e' ≤ e) : Low e' dS dM dN dU dW dS' dM' dN' dU' dW' :=
  ⟨fun p q => h.1 p (by omega), fun p q => h.2.1 p (by omega), fun p q => h.2.2.1 p (by omega), fun p q => h.2.2.2.1 p (by omega), fun p q => h.2.2.2.2 p (by omega)⟩
theorem Lev.low {e : Nat} {sh : Nat → Nat} {L : List Nat} {k sm : Nat} {dS dM dN dU dW dS' dM' dN' dU' dW' : Nat → Int32} (h : Lev e sh L k sm dS dM dN dU dW) (hl : L.length ≤ 7) (h' : Low (e + 1) dS dM dN dU dW dS' dM' dN' dU' dW') : Lev e sh L k sm dS' dM' dN' dU' dW' :=
  ⟨fun s hs => (h'.1 _ (by omega)).trans (h.1 s hs), (h'.2.1 e (by omega)).trans h.2.1, fun i hi => (h'.2.2.2.2 _ (by omega)).trans (h.2.2.1 i hi), (h'.2.2.1 e (by omega)).trans h.2.2.2.1, (h'.2.2.2.1 e (by omega)).trans h.2.2.2.2⟩
def SB (K : Nat) (sh : Nat → Nat) : Prop := ∀ s, s < 16 → sh s ≤ 99 ∧ (K ≤ s → sh s = 0)
theorem CodS.sb {K : Nat} {sh : Nat → Nat} {F : Nat → Int32} (h : CodS K sh F) : SB K sh := fun s hs => ⟨(h s hs).1, (h s hs).2.2⟩
theorem SB.cod {K : Nat} {sh : Nat → Nat} {F : Nat → Int32} (h : SB K sh) (hF : ∀ s, s < 16 → F s = nI (sh s)) : CodS K sh F := fun s hs => ⟨(h s hs).1, hF s hs, (h s hs).2⟩
def oI (ob : Option Nat) : Int32 := match ob with | none => -1 | some v => nI v
def uo (g : Bool) (ob : Option Nat) (v : Nat) : Option Nat := match ob with | none => some v | some w => some (opt g w v)
def obB (ob : Option Nat) : Prop := ∀ w, ob = some w → w < 2 ^ 30
theorem uo_B {g : Bool} {ob : Option Nat} {v : Nat} (h : obB ob) (hv : v < 2 ^ 30) : obB (uo g ob v) := by
  intro w hw
  cases ob with
  | none =>
    have : some v = some w := hw
    cases this
    exact hv
  | some u =>
    have e : some (opt g u v) = some w := hw
    cases e
    rcases opt_mem g u v with z | z
    · rw [z]; exact h u rfl
    · rw [z]; exact hv
theorem opt_assoc (g : Bool) (a b c : Nat) : opt g (opt g a b) c = opt g a (opt g b c) := by
  unfold opt
  cases g
  · simp only [Bool.false_eq_true, if_false]
    repeat' split
    all_goals omega
  · simp only [if_true]
    repeat' split
    all_goals omega
theorem opt_add (g : Bool) (c a b : Nat) : opt g (c + a) (c + b) = c + opt g a b := by
  unfold opt
  cases g
  · simp only [Bool.false_eq_true, if_false]
    repeat' split
    all_goals omega
  · simp only [if_true]
    repeat' split
    all_goals omega
theorem uo_uo (g : Bool) (ob : Option Nat) (a b : Nat) : uo g (uo g ob a) b = uo g ob (opt g a b) := by
  cases ob with
  | none => rfl
  | some w =>
    show some (opt g (opt g w a) b) = some (opt g w (opt g a b))
    rw [opt_assoc]
theorem uo_fold (g : Bool) (V : Nat → Nat) (c : Nat) (ob : Option Nat) : ∀ (t : List Nat) (a : Nat), t.foldl (fun o s => uo g o (c + V s)) (uo g ob (c + a)) = uo g ob (c + t.foldl (fun a u => opt g a (V u)) a)
  | [], _ => rfl
  | u :: t, a => by
    show t.foldl (fun o s => uo g o (c + V s)) (uo g (uo g ob (c + a)) (c + V u)) = uo g ob (c + t.foldl (fun a u => opt g a (V u)) (opt g a (V u)))
    rw [uo_uo, opt_add]
    exact uo_fold g V c ob t (opt g a (V u))
theorem uo_list {g : Bool} {V : Nat → Nat} {c : Nat} {ob : Option Nat} {L : List Nat} (h : L ≠ []) : L.foldl (fun o s => uo g o (c + V s)) ob = uo g ob (c + optL g V L) := by
  cases L with
  | nil => exact absurd rfl h
  | cons s t => exact uo_fold g V c ob t (V s)
section Deep
variable {C K nn : Nat} {fr to ya mk qu : Nat → Nat} {mf mt my en : Nat → Int32} {market quay hasOdd oddM oddQ tw gI : Int32} {g : Bool}
theorem en44 {L : List Nat} (hl : L.length ≤ 7) {W : Nat → Int32} (hW : ∀ i, i < L.length → W i = nI (L.getD i 0)) {e P v : Nat} (he : e ≤ 5) {y : Int32} (hy : (if y = -1 then (999 : Int32) else y) = nI v) (ct : Nat) (da : Int32) (G L0 dS dM dN dU : Nat → Int32) :
    ∀ (n k : Nat) (dW : Nat → Int32), k ≤ L.length → L.length - k < n → (∀ i, i < k → dW (12 * e + i) = nI (L.getD i 0)) → ∃ dW' : Nat → Int32, f_ShutWaysModel_enter_44 n (nI e) (nI P) y (nI k) (nI C) tw (nI ct) da (nI K) (nI L.length) 8 L0 4 en 16 G 16 my 16 mf 16 mt 16 W 96 dS 6 dM 6 dN 6 dU 72 dW = some (nI L.length, L0, W, dS, upd dM e (nI L.length), upd dN e 0, upd dU e (nI (P + v)), dW') ∧ (∀ i, i < L.length → dW' (12 * e + i) = nI (L.getD i 0)) ∧ ∀ p, p < 12 * e → dW' p = dW p := by
  intro n
  induction n with
  | zero => intro k _ _ h; omega
  | succ n ih =>
    intro k dW hk hn h0
    rw [show f_ShutWaysModel_enter_44 (n + 1) = b_ShutWaysModel_enter_44 (f_ShutWaysModel_enter_44 n) from rfl]
    unfold b_ShutWaysModel_enter_44 f_ShutWaysModel_enter_113
    by_cases c : k = L.length
    · rw [if_pos (nI_le (by omega) (by omega))]
      simp only [gixN (show e < 6 by omega) (by decide : 6 < 2 ^ 31), nIc (show e < 2 ^ 31 by omega)]
      rw [c] at h0
      refine ⟨dW, ?_, h0, fun _ _ => rfl⟩
      rw [← nI_add, ← hy]
      by_cases q : y = -1
      · rw [if_pos q, if_pos q]
      · rw [if_neg q, if_neg q]
    · have hk' : k < L.length := by omega
      rw [if_neg (nI_ge hk' (by omega))]
      simp only [gixN (show k < 16 by omega) (by decide : 16 < 2 ^ 31), nIc (show k < 2 ^ 31 by omega), hW k hk', nmI, e12, gixN (show 12 * e + k < 72 by omega) (by decide : 72 < 2 ^ 31), nIc (show 12 * e + k < 2 ^ 31 by omega), nI_1]
      obtain ⟨dW', u1, u2, u3⟩ := ih (k + 1) (upd dW (12 * e + k) (nI (L.getD k 0))) (by omega) (by omega) (by
        intro i hi
        by_cases z : i = k
        · subst z; exact pk_us
        · rw [pk_un (by omega)]; exact h0 i (by omega))
      exact ⟨dW', u1, u2, fun p hp => (u3 p hp).trans (pk_un (by omega))⟩
theorem en9 {e : Nat} (he : e ≤ 5) (ct : Nat) (x2 y da wm : Int32) (G L0 W0 dM dN dU dW : Nat → Int32) :
    ∀ (n s : Nat) (dS : Nat → Int32), s ≤ 16 → 16 - s < n → (∀ t, t < s → dS (16 * e + t) = G t) → ∃ dS' : Nat → Int32, f_ShutWaysModel_enter_9 n (nI e) x2 y (nI s) (nI C) tw (nI ct) da (nI K) wm 8 L0 4 en 16 G 16 my 16 mf 16 mt 16 W0 96 dS 6 dM 6 dN 6 dU 72 dW = f_ShutWaysModel_enter_44 FU (nI e) x2 y 0 (nI C) tw (nI ct) da (nI K) wm 8 L0 4 en 16 G 16 my 16 mf 16 mt 16 W0 96 dS' 6 dM 6 dN 6 dU 72 dW ∧ (∀ t, t < 16 → dS' (16 * e + t) = G t) ∧ ∀ p, p < 16 * e → dS' p = dS p := by
  intro n
  induction n with
  | zero => intro s _ _ h; omega
  | succ n ih =>
    intro s dS hs hn h0
    rw [show f_ShutWaysModel_enter_9 (n + 1) = b_ShutWaysModel_enter_9 (f_ShutWaysModel_enter_9 n) from rfl]
    unfold b_ShutWaysModel_enter_9
    by_cases c : s = 16
    · subst c
      rw [if_pos (show (16 : Int32) ≤ nI 16 by decide)]
      exact ⟨dS, rfl, h0, fun _ _ => rfl⟩
    · rw [if_neg (show ¬ (16 : Int32) ≤ nI s from nI_ge (b := 16) (by omega) (by decide))]
      simp only [gixN (show s < 16 by omega) (by decide : 16 < 2 ^ 31), nIc (show s < 2 ^ 31 by omega), nmI, e16, gixN (show 16 * e + s < 96 by omega) (by decide : 96 < 2 ^ 31), nIc (show 16 * e + s < 2 ^ 31 by omega), nI_1]
      obtain ⟨dS', u1, u2, u3⟩ := ih (s + 1) (upd dS (16 * e + s) (G s)) (by omega) (by omega) (by
        intro t ht
        by_cases z : t = s
        · subst z; exact pk_us
        · rw [pk_un (by omega)]; exact h0 t (by omega))
      exact ⟨dS', u1, u2, fun p hp => (u3 p hp).trans (pk_un (by omega))⟩
theorem enter_ok (hK : K ≤ 16) (hC : C ≤ 8) (G2 : CodG K C fr to ya mf mt my) (E : EndsC C mk qu market quay hasOdd oddM oddQ) (M : EndsM mk qu tw en) {e P d : Nat} (he : e ≤ 5) (hd : d < 100000) {sh : Nat → Nat} {G : Nat → Int32} (S2 : CodS K sh G) (ct : Nat) (wm : Int32) (L0 W0 dS dM dN dU dW : Nat → Int32) :
    ∃ L' W' dS' dM' dN' dU' dW' : Nat → Int32, f_ShutWaysModel_enter (nI e) (nI P) (nI C) tw (nI ct) (nI d) (nI K) wm 8 L0 4 en 16 G 16 my 16 mf 16 mt 16 W0 96 dS 6 dM 6 dN 6 dU 72 dW = some (nI (dw fr to ya K mk qu sh d).length, L', W', dS', dM', dN', dU', dW') ∧ Lev e sh (dw fr to ya K mk qu sh d) 0 (P + yvl (dy fr to ya K mk qu sh d)) dS' dM' dN' dU' dW' ∧ Low e dS dM dN dU dW dS' dM' dN' dU' dW' ∧ (dw fr to ya K mk qu sh d).length ≤ 7 ∧ ∀ s, s ∈ dw fr to ya K mk qu sh d → s < K := by
  have hFU : 20 < FU := by rw [FU_eq]; decide
  obtain ⟨L', W', v1, v2⟩ := lay_ok hK hC G2 S2 E M hd ct wm L0 W0
  obtain ⟨-, -, -, w2, -, w4, w5, w6⟩ := findWay_ok hK hC G2 S2 E hd 0 0 0 L0 W0
  have hy : (if yI (dy fr to ya K mk qu sh d) = -1 then (999 : Int32) else yI (dy fr to ya K mk qu sh d)) = nI (yvl (dy fr to ya K mk qu sh d)) := by
    unfold yvl yI
    have f1 : FARn = 1000000 := rfl
    by_cases c : dy fr to ya K mk qu sh d < FARn
    · rw [if_pos c, if_pos c, if_neg (nI_m1 (by omega))]
    · rw [if_neg c, if_neg c, if_pos rfl]; rfl
  obtain ⟨dS', u1, u2, u3⟩ := en9 (C := C) (K := K) (mf := mf) (mt := mt) (my := my) (en := en) (tw := tw) he ct (nI P) (yI (dy fr to ya K mk qu sh d)) (nI d) (nI (dw fr to ya K mk qu sh d).length) G L' W' dM dN dU dW FU 0 dS (by decide) (by omega) (fun t ht => absurd ht (Nat.not_lt_zero _))
  obtain ⟨dW', t1, t2, t3⟩ := en44 (C := C) (K := K) (mf := mf) (mt := mt) (my := my) (en := en) (tw := tw) w2 v2 (P := P) he hy ct (nI d) G L' dS' dM dN dU FU 0 dW (Nat.zero_le _) (by omega) (fun t ht => absurd ht (Nat.not_lt_zero _))
  rw [nI_0] at u1 t1
  refine ⟨L', W', dS', upd dM e (nI (dw fr to ya K mk qu sh d).length), upd dN e 0, upd dU e (nI (P + yvl (dy fr to ya K mk qu sh d))), dW', ?_, ⟨fun s hs => (u2 s hs).trans (S2 s hs).2.1, pk_us, t2, pk_us, pk_us⟩, ⟨u3, fun p hp => pk_un (by omega), fun p hp => pk_un (by omega), fun p hp => pk_un (by omega), t3⟩, w2, w4⟩
  unfold f_ShutWaysModel_enter
  rw [v1, Option.bind_some]
  dsimp only
  rw [u1, t1]
theorem r190 (hK : K ≤ 16) (hC : C ≤ 8) (G2 : CodG K C fr to ya mf mt my) (E : EndsC C mk qu market quay hasOdd oddM oddQ) (M : EndsM mk qu tw en) (hn : nn ≤ 99) {dd d0 Sm p : Nat} (hdd : dd ≤ 4) (hd0 : d0 ≤ 9999) {A : Nat → Int32} (hA : A 16 = nI d0) {sh : Nat → Nat} (hsb : SB K sh) (hp : p < K ∨ p = 99) (k15 : _) (x1 x2 x3 str da wm : Int32) (ct : Nat) (L0 W0 : Nat → Int32) {dS dM dN dU dW : Nat → Int32} (hS : ∀ s, s < 16 → dS (16 * dd + s) = nI (sh s)) (hU : dU dd = nI Sm) :
    ∀ (n s : Nat) (G : Nat → Int32), s ≤ 16 → 16 - s < n → (∀ t, t < s → G t = nI (sh t)) → ∃ G2' L2 W2 dS2 dM2 dN2 dU2 dW2 : Nat → Int32, f_ShutWaysModel_chosenOf_190 k15 n x1 x2 x3 (nI dd) (cI p) (nI s) (nI C) str tw (nI nn) (nI ct) da (nI K) wm 17 A 16 G 8 L0 4 en 16 my 16 mf 16 mt 16 W0 96 dS 6 dM 6 dN 6 dU 72 dW = f_ShutWaysModel_chosenOf_261 k15 x1 x2 x3 (nI (dd + 1)) (nI C) str tw (nI nn) (nI ct) (nI (d0 + dd + 1)) (nI K) (nI (dw fr to ya K mk qu (nx nn p sh) (d0 + dd + 1)).length) 17 A 16 G2' 8 L2 4 en 16 my 16 mf 16 mt 16 W2 96 dS2 6 dM2 6 dN2 6 dU2 72 dW2 ∧ SB K (nx nn p sh) ∧ Lev (dd + 1) (nx nn p sh) (dw fr to ya K mk qu (nx nn p sh) (d0 + dd + 1)) 0 (Sm + yvl (dy fr to ya K mk qu (nx nn p sh) (d0 + dd + 1))) dS2 dM2 dN2 dU2 dW2 ∧ Low (dd + 1) dS dM dN dU dW dS2 dM2 dN2 dU2 dW2 := by
  intro n
  induction n with
  | zero => intro s _ _ h; omega
  | succ n ih =>
    intro s G hs hn' h0
    rw [show f_ShutWaysModel_chosenOf_190 k15 (n + 1) = b_ShutWaysModel_chosenOf_190 k15 (f_ShutWaysModel_chosenOf_190 k15 n) from rfl]
    unfold b_ShutWaysModel_chosenOf_190
    by_cases c : s = 16
    · subst c
      obtain ⟨F', s1, s2⟩ := shutOne_ok (d := d0 + dd) hK hn hp (hsb.cod h0)
      obtain ⟨L', W', dS', dM', dN', dU', dW', t1, t2, t3, t4, t5⟩ := enter_ok hK hC G2 E M (e := dd + 1) (P := Sm) (d := d0 + dd + 1) (by omega) (by omega) s2 ct wm L0 W0 dS dM dN dU dW
      have g17 : ∀ k : Option (Int32 × Int32 × Int32 × Int32 × (Nat → Int32) × (Nat → Int32) × (Nat → Int32) × (Nat → Int32) × (Nat → Int32) × (Nat → Int32) × (Nat → Int32) × (Nat → Int32) × (Nat → Int32)), gix 16 17 k = k := fun k => gixN (i := 16) (by decide) (by decide)
      rw [if_pos (show (16 : Int32) ≤ nI 16 by decide), g17, show (16 : Int32).toNatClampNeg = 16 by decide, hA]
      simp only [nmI, nI_add, nI_1, gixN (show dd < 6 by omega) (by decide : 6 < 2 ^ 31), nIc (show dd < 2 ^ 31 by omega), hU]
      rw [s1, Option.bind_some]
      dsimp only
      rw [t1, Option.bind_some]
      exact ⟨F', L', W', dS', dM', dN', dU', dW', rfl, s2.sb, t2, t3⟩
    · rw [if_neg (show ¬ (16 : Int32) ≤ nI s from nI_ge (b := 16) (by omega) (by decide))]
      simp only [e16, gixN (show 16 * dd + s < 96 by omega) (by decide : 96 < 2 ^ 31), nIc (show 16 * dd + s < 2 ^ 31 by omega), hS s (by omega), nmI, gixN (show s < 16 by omega) (by decide : 16 < 2 ^ 31), nIc (show s < 2 ^ 31 by omega), nI_1]
      refine ih (s + 1) _ (by omega) (by omega) ?_
      intro t ht
      by_cases z : t = s
      · subst z; exact pk_us
      · rw [pk_un z]; exact h0 t (by omega)
def Tm : Nat → Nat
  | 0 => 1
  | r + 1 => 7 * (1 + Tm r) + 1
theorem leaf15 {m dd v : Nat} (hdd : dd ≤ 5) (hm : m ≤ 5) (hg : (g = true ∧ gI = 1) ∨ (g = false ∧ gI = 0)) {ob : Option Nat} (hob : obB ob) (hv : v < 2 ^ 30) {dU : Nat → Int32} (hU : dU dd = nI v) (hdm : dd = m) (str da wm : Int32) (ct : Nat) (A G L0 W0 dS dM dN dW : Nat → Int32) (n : Nat) :
    f_ShutWaysModel_chosenOf_15 (n + 1) (nI m) gI (oI ob) (nI dd) (nI C) str tw (nI nn) (nI ct) da (nI K) wm 17 A 16 G 8 L0 4 en 16 my 16 mf 16 mt 16 W0 96 dS 6 dM 6 dN 6 dU 72 dW = f_ShutWaysModel_chosenOf_15 n (nI m) gI (oI (uo g ob v)) (nI dd - 1) (nI C) str tw (nI nn) (nI ct) da (nI K) wm 17 A 16 G 8 L0 4 en 16 my 16 mf 16 mt 16 W0 96 dS 6 dM 6 dN 6 dU 72 dW := by
  rw [show f_ShutWaysModel_chosenOf_15 (n + 1) = b_ShutWaysModel_chosenOf_15 (f_ShutWaysModel_chosenOf_15 n) from rfl]
  unfold b_ShutWaysModel_chosenOf_15
  rw [if_neg (nI_pos (by omega)), if_pos (by rw [hdm])]
  unfold f_ShutWaysModel_chosenOf_31 f_ShutWaysModel_chosenOf_72 f_ShutWaysModel_chosenOf_76 f_ShutWaysModel_chosenOf_77 f_ShutWaysModel_chosenOf_95 f_ShutWaysModel_chosenOf_96 f_ShutWaysModel_chosenOf_117 f_ShutWaysModel_chosenOf_136 f_ShutWaysModel_chosenOf_261
  simp only [gixN (show dd < 6 by omega) (by decide : 6 < 2 ^ 31), nIc (show dd < 2 ^ 31 by omega), hU, if_neg one_ne, ite_self, nI_dec, reduceIte]
  cases ob with
  | none =>
    rw [show oI none = -1 from rfl, if_pos rfl]
    rfl
  | some w =>
    have hw := hob w rfl
    rw [show oI (some w) = nI w from rfl, if_neg (nI_m1 (by omega))]
    show _ = f_ShutWaysModel_chosenOf_15 n (nI m) gI (nI (opt g w v)) (nI dd - 1) (nI C) str tw (nI nn) (nI ct) da (nI K) wm 17 A 16 G 8 L0 4 en 16 my 16 mf 16 mt 16 W0 96 dS 6 dM 6 dN 6 dU 72 dW
    rcases hg with ⟨rfl, rfl⟩ | ⟨rfl, rfl⟩
    · rw [if_neg one_ne]
      by_cases q : v ≤ w
      · rw [if_pos (nI_le q (by omega)), show opt true w v = w by unfold opt; rw [if_pos rfl, if_neg (by omega)]]
      · rw [if_neg (nI_ge (by omega) (by omega)), show opt true w v = v by unfold opt; rw [if_pos rfl, if_pos (by omega)]]
    · rw [if_pos rfl]
      by_cases q : w ≤ v
      · rw [if_pos (nI_le q (by omega)), show opt false w v = w by unfold opt; rw [if_neg (by decide), if_neg (by omega)]]
      · rw [if_neg (nI_ge (by omega) (by omega)), show opt false w v = v by unfold opt; rw [if_neg (by decide), if_pos (by omega)]]
/-- at an inner corner of the tree: all choices are done -/
theorem pop15 {m dd k : Nat} (hdd : dd < m) (hm : m ≤ 5) {L : List Nat} (hl : L.length ≤ 7) (hk : k = (lpk L).length) {dM dN : Nat → Int32} (hM : dM dd = nI L.length) (hN : dN dd = nI k) (x2 x3 str da wm : Int32) (ct : Nat) (A G L0 W0 dS dU dW : Nat → Int32) (n : Nat) :
    f_ShutWaysModel_chosenOf_15 (n + 1) (nI m) x2 x3 (nI dd) (nI C) str tw (nI nn) (nI ct) da (nI K) wm 17 A 16 G 8 L0 4 en 16 my 16 mf 16 mt 16 W0 96 dS 6 dM 6 dN 6 dU 72 dW = f_ShutWaysModel_chosenOf_15 n (nI m) x2 x3 (nI dd - 1) (nI C) str tw (nI nn) (nI ct) da (nI K) wm 17 A 16 G 8 L0 4 en 16 my 16 mf 16 mt 16 W0 96 dS 6 dM 6 dN 6 dU 72 dW := by
  rw [show f_ShutWaysModel_chosenOf_15 (n + 1) = b_ShutWaysModel_chosenOf_15 (f_ShutWaysModel_chosenOf_15 n) from rfl]
  unfold b_ShutWaysModel_chosenOf_15
  rw [if_neg (nI_pos (by omega)), if_neg (nI_ne (by omega) (by omega) (by omega))]
  unfold f_ShutWaysModel_chosenOf_31
  rw [if_pos rfl]
  unfold f_ShutWaysModel_chosenOf_96 f_ShutWaysModel_chosenOf_117
  simp only [gixN (show dd < 6 by omega) (by decide : 6 < 2 ^ 31), nIc (show dd < 2 ^ 31 by omega), hM, hN, reduceIte]
  unfold lpk at hk
  by_cases z : L = []
  · rw [if_pos z] at hk
    subst z
    subst hk
    rw [if_pos (show nI ([] : List Nat).length = 0 from rfl), if_pos (show nI [99].length = 1 from rfl)]
    unfold f_ShutWaysModel_chosenOf_136 f_ShutWaysModel_chosenOf_261
    rw [nI_dec]
  · rw [if_neg z] at hk
    have hpos : 0 < L.length := List.length_pos_iff.mpr z
    rw [if_neg (nI_ne0 hpos (by omega)), if_pos (show nI k = nI L.length by rw [hk])]
    unfold f_ShutWaysModel_chosenOf_136 f_ShutWaysModel_chosenOf_261
    rw [nI_dec]
/-- at an inner corner of the tree: the next choice -/
theorem push15 {m dd k : Nat} (hdd : dd < m) (hm : m ≤ 5) {L : List Nat} (hl : L.length ≤ 7) (hml : ∀ s, s ∈ L → s < 16) (hk : k < (lpk L).length) {dM dN dW : Nat → Int32} (hM : dM dd = nI L.length) (hN : dN dd = nI k) (hW : ∀ i, i < L.length → dW (12 * dd + i) = nI (L.getD i 0)) (x2 x3 str da wm : Int32) (ct : Nat) (A G L0 W0 dS dU : Nat → Int32) (n : Nat) :
    f_ShutWaysModel_chosenOf_15 (n + 1) (nI m) x2 x3 (nI dd) (nI C) str tw (nI nn) (nI ct) da (nI K) wm 17 A 16 G 8 L0 4 en 16 my 16 mf 16 mt 16 W0 96 dS 6 dM 6 dN 6 dU 72 dW = f_ShutWaysModel_chosenOf_190 (f_ShutWaysModel_chosenOf_15 n) FU (nI m) x2 x3 (nI dd) (cI ((lpk L).getD k 0)) 0 (nI C) str tw (nI nn) (nI ct) da (nI K) wm 17 A 16 G 8 L0 4 en 16 my 16 mf 16 mt 16 W0 96 dS 6 dM 6 (upd dN dd (nI (k + 1))) 6 dU 72 dW := by
  rw [show f_ShutWaysModel_chosenOf_15 (n + 1) = b_ShutWaysModel_chosenOf_15 (f_ShutWaysModel_chosenOf_15 n) from rfl]
  unfold b_ShutWaysModel_chosenOf_15
  rw [if_neg (nI_pos (by omega)), if_neg (nI_ne (by omega) (by omega) (by omega))]
  unfold f_ShutWaysModel_chosenOf_31
  rw [if_pos rfl]
  unfold f_ShutWaysModel_chosenOf_96 f_ShutWaysModel_chosenOf_117
  simp only [gixN (show dd < 6 by omega) (by decide : 6 < 2 ^ 31), nIc (show dd < 2 ^ 31 by omega), hM, hN, reduceIte]
  unfold lpk at hk ⊢
  by_cases z : L = []
  · rw [if_pos z] at hk ⊢
    have hk0 : k = 0 := by
      have : k < 1 := hk
      omega
    subst z
    subst hk0
    rw [if_pos (show nI ([] : List Nat).length = 0 from rfl), if_pos (show nI ([] : List Nat).length = 0 from rfl), if_neg (show ¬ nI 0 = 1 by decide)]
    unfold f_ShutWaysModel_chosenOf_174
    simp only [gixN (show dd < 6 by omega) (by decide : 6 < 2 ^ 31), nIc (show dd < 2 ^ 31 by omega), hN, nmI, nI_1]
    rfl
  · rw [if_neg z] at hk ⊢
    have hpos : 0 < L.length := List.length_pos_iff.mpr z
    have hs := hml _ (getD_mem hk)
    rw [if_neg (nI_ne0 hpos (by omega)), if_neg (nI_ne0 hpos (by omega)), if_neg (nI_ne (by omega) (by omega) (by omega))]
    unfold f_ShutWaysModel_chosenOf_174
    simp only [gixN (show dd < 6 by omega) (by decide : 6 < 2 ^ 31), nIc (show dd < 2 ^ 31 by omega), hN, nmI, nI_1, e12, gixN (show 12 * dd + k < 72 by omega) (by decide : 72 < 2 ^ 31), nIc (show 12 * dd + k < 2 ^ 31 by omega), hW k hk]
    rw [cI_lt (by omega)]
theorem deep_sub (hK : K ≤ 16) (hC : C ≤ 8) (G2 : CodG K C fr to ya mf mt my) (E : EndsC C mk qu market quay hasOdd oddM oddQ) (M : EndsM mk qu tw en) (hn : nn ≤ 99) (hg : (g = true ∧ gI = 1) ∨ (g = false ∧ gI = 0)) {m d0 : Nat} (hm : m ≤ 5) (hd0 : d0 ≤ 9999) {A : Nat → Int32} (hA : A 16 = nI d0) (str : Int32) (ct : Nat) :
    ∀ (rm dd : Nat), dd + rm = m → ∀ (n P : Nat) (ob : Option Nat) (sh : Nat → Nat) (da wm : Int32) (G L0 W0 dS dM dN dU dW : Nat → Int32), SB K sh → Tm rm ≤ n → P ≤ 1000000 * dd → obB ob → Lev dd sh (dw fr to ya K mk qu sh (d0 + dd)) 0 (P + yvl (dy fr to ya K mk qu sh (d0 + dd))) dS dM dN dU dW → (dw fr to ya K mk qu sh (d0 + dd)).length ≤ 7 → (∀ s, s ∈ dw fr to ya K mk qu sh (d0 + dd) → s < K) →
    ∃ (n' : Nat) (da' wm' : Int32) (G' L' W' dS' dM' dN' dU' dW' : Nat → Int32), n ≤ n' + Tm rm ∧ f_ShutWaysModel_chosenOf_15 n (nI m) gI (oI ob) (nI dd) (nI C) str tw (nI nn) (nI ct) da (nI K) wm 17 A 16 G 8 L0 4 en 16 my 16 mf 16 mt 16 W0 96 dS 6 dM 6 dN 6 dU 72 dW = f_ShutWaysModel_chosenOf_15 n' (nI m) gI (oI (uo g ob (P + Val fr to ya K mk qu nn g rm sh (d0 + dd)))) (nI dd - 1) (nI C) str tw (nI nn) (nI ct) da' (nI K) wm' 17 A 16 G' 8 L' 4 en 16 my 16 mf 16 mt 16 W' 96 dS' 6 dM' 6 dN' 6 dU' 72 dW' ∧ Low dd dS dM dN dU dW dS' dM' dN' dU' dW' := by
  have hFU : 20 < FU := by rw [FU_eq]; decide
  intro rm
  induction rm with
  | zero =>
    intro dd hdm n P ob sh da wm G L0 W0 dS dM dN dU dW hsb hT hP hob hL hl7 hlK
    obtain ⟨n, rfl⟩ : ∃ n', n = n' + 1 := ⟨n - 1, by have : Tm 0 = 1 := rfl; omega⟩
    have hy := yvl_lt (dy fr to ya K mk qu sh (d0 + dd))
    refine ⟨n, da, wm, G, L0, W0, dS, dM, dN, dU, dW, Nat.le_refl _, ?_, Low.refl _ _ _ _ _ _⟩
    exact leaf15 (by omega) hm hg hob (by omega) hL.2.2.2.2 (by omega) str da wm ct A G L0 W0 dS dM dN dW n
  | succ rm ihr =>
    intro dd hdm n P ob sh da wm G L0 W0 dS dM dN dU dW hsb hT hP hob hL hl7 hlK
    have hy := yvl_lt (dy fr to ya K mk qu sh (d0 + dd))
    have hV : Val fr to ya K mk qu nn g (rm + 1) sh (d0 + dd) = yvl (dy fr to ya K mk qu sh (d0 + dd)) + optL g (fun s => Val fr to ya K mk qu nn g rm (nx nn s sh) (d0 + dd + 1)) (lpk (dw fr to ya K mk qu sh (d0 + dd))) := rfl
    have hSm : P + yvl (dy fr to ya K mk qu sh (d0 + dd)) ≤ 1000000 * (dd + 1) := by omega
    rw [hV, ← Nat.add_assoc, ← uo_list (lpk_ne _)]
    generalize P + yvl (dy fr to ya K mk qu sh (d0 + dd)) = Sm at *
    generalize hLL : dw fr to ya K mk qu sh (d0 + dd) = L at *
    have hlp7 : (lpk L).length ≤ 7 := by
      unfold lpk
      by_cases z : L = []
      · rw [if_pos z]; decide
      · rw [if_neg z]; exact hl7
    have hlpK : ∀ s, s ∈ lpk L → s < K ∨ s = 99 := by
      intro s hs
      unfold lpk at hs
      by_cases z : L = []
      · rw [if_pos z] at hs
        exact Or.inr (List.mem_singleton.mp hs)
      · rw [if_neg z] at hs
        exact Or.inl (hlK s hs)
    have child : ∀ (j k n : Nat) (ob : Option Nat) (da wm : Int32) (G L0 W0 dS dM dN dU dW : Nat → Int32), k + j = (lpk L).length → j * (1 + Tm rm) + 1 ≤ n → obB ob → Lev dd sh L k Sm dS dM dN dU dW →
        ∃ (n' : Nat) (da' wm' : Int32) (G' L' W' dS' dM' dN' dU' dW' : Nat → Int32), n ≤ n' + (j * (1 + Tm rm) + 1) ∧ f_ShutWaysModel_chosenOf_15 n (nI m) gI (oI ob) (nI dd) (nI C) str tw (nI nn) (nI ct) da (nI K) wm 17 A 16 G 8 L0 4 en 16 my 16 mf 16 mt 16 W0 96 dS 6 dM 6 dN 6 dU 72 dW = f_ShutWaysModel_chosenOf_15 n' (nI m) gI (oI (((lpk L).drop k).foldl (fun o s => uo g o (Sm + Val fr to ya K mk qu nn g rm (nx nn s sh) (d0 + dd + 1))) ob)) (nI dd - 1) (nI C) str tw (nI nn) (nI ct) da' (nI K) wm' 17 A 16 G' 8 L' 4 en 16 my 16 mf 16 mt 16 W' 96 dS' 6 dM' 6 dN' 6 dU' 72 dW' ∧ Low dd dS dM dN dU dW dS' dM' dN' dU' dW' := by
      intro j
      induction j with
      | zero =>
        intro k n ob da wm G L0 W0 dS dM dN dU dW hk hT hob hL
        obtain ⟨n, rfl⟩ : ∃ n', n = n' + 1 := ⟨n - 1, by omega⟩
        refine ⟨n, da, wm, G, L0, W0, dS, dM, dN, dU, dW, by omega, ?_, Low.refl _ _ _ _ _ _⟩
        rw [show k = (lpk L).length by omega, List.drop_length]
        exact pop15 (by omega) hm hl7 rfl hL.2.1 (by rw [hL.2.2.2.1]; congr 1) gI (oI ob) str da wm ct A G L0 W0 dS dU dW n
      | succ j ihj =>
        intro k n ob da wm G L0 W0 dS dM dN dU dW hk hT hob hL
        have hT' : (j + 1) * (1 + Tm rm) = j * (1 + Tm rm) + (1 + Tm rm) := Nat.succ_mul j (1 + Tm rm)
        obtain ⟨n, rfl⟩ : ∃ n', n = n' + 1 := ⟨n - 1, by omega⟩
        have hk' : k < (lpk L).length := by omega
        have hpk := hlpK _ (getD_mem hk')
        have hpush := push15 (C := C) (K := K) (nn := nn) (mf := mf) (mt := mt) (my := my) (en := en) (tw := tw) (m := m) (dd := dd) (by omega) hm hl7 (fun s hs => by have := hlK s hs; omega) hk' hL.2.1 hL.2.2.2.1 hL.2.2.1 gI (oI ob) str da wm ct A G L0 W0 dS dU n
        obtain ⟨G3, L3, W3, dS3, dM3, dN3, dU3, dW3, r1, r2, r3, r4⟩ := r190 hK hC G2 E M hn (dd := dd) (p := (lpk L).getD k 0) (by omega) hd0 hA hsb hpk (f_ShutWaysModel_chosenOf_15 n) (nI m) gI (oI ob) str da wm ct L0 W0 (dM := dM) (dN := upd dN dd (nI (k + 1))) (dW := dW) hL.1 hL.2.2.2.2 FU 0 G (by decide) (by omega) (fun t ht => absurd ht (Nat.not_lt_zero _))
        rw [nI_0] at r1
        rw [hpush, r1]
        clear hpush r1
        unfold f_ShutWaysModel_chosenOf_261
        obtain ⟨-, -, -, q7, -, qK, -, -⟩ := findWay_ok hK hC G2 (r2.cod (F := fun s => nI (nx nn ((lpk L).getD k 0) sh s)) (fun s _ => rfl)) E (show d0 + dd + 1 < 100000 by omega) 0 0 0 L0 W0
        obtain ⟨n1, da4, wm4, G4, L4, W4, dS4, dM4, dN4, dU4, dW4, z1, z2, z3⟩ := ihr (dd + 1) (by omega) n Sm ob (nx nn ((lpk L).getD k 0) sh) (nI (d0 + dd + 1)) (nI (dw fr to ya K mk qu (nx nn ((lpk L).getD k 0) sh) (d0 + dd + 1)).length) G3 L3 W3 dS3 dM3 dN3 dU3 dW3 r2 (by omega) (by omega) hob r3 q7 qK
        rw [nI_pred] at z2
        rw [z2]
        clear z2
        have hVb := Val_lt (fr := fr) (to := to) (ya := ya) (K := K) (mk := mk) (qu := qu) (nn := nn) (g := g) rm (nx nn ((lpk L).getD k 0) sh) (d0 + (dd + 1))
        have hL0 : Lev dd sh L (k + 1) Sm dS dM (upd dN dd (nI (k + 1))) dU dW := ⟨hL.1, hL.2.1, hL.2.2.1, pk_us, hL.2.2.2.2⟩
        have hL4 := (hL0.low hl7 r4).low hl7 z3
        obtain ⟨n2, da5, wm5, G5, L5, W5, dS5, dM5, dN5, dU5, dW5, y1, y2, y3⟩ := ihj (k + 1) n1 (uo g ob (Sm + Val fr to ya K mk qu nn g rm (nx nn ((lpk L).getD k 0) sh) (d0 + (dd + 1)))) da4 wm4 G4 L4 W4 dS4 dM4 dN4 dU4 dW4 (by omega) (by omega) (uo_B hob (by omega)) hL4
        refine ⟨n2, da5, wm5, G5, L5, W5, dS5, dM5, dN5, dU5, dW5, by omega, ?_, ?_⟩
        · rw [y2, drop_getD hk']
          rfl
        · have l0 : Low dd dS dM dN dU dW dS dM (upd dN dd (nI (k + 1))) dU dW := ⟨fun _ _ => rfl, fun _ _ => rfl, fun p hp => pk_un (by omega), fun _ _ => rfl, fun _ _ => rfl⟩
          exact ((l0.trans (r4.mono (by omega))).trans (z3.mono (by omega))).trans y3
    have hTm : Tm (rm + 1) = 7 * (1 + Tm rm) + 1 := rfl
    have hmul : (lpk L).length * (1 + Tm rm) ≤ 7 * (1 + Tm rm) := Nat.mul_le_mul_right _ hlp7
    obtain ⟨n2, da5, wm5, G5, L5, W5, dS5, dM5, dN5, dU5, dW5, y1, y2, y3⟩ := child (lpk L).length 0 n ob da wm G L0 W0 dS dM dN dU dW (by omega) (by omega) hob hL
    rw [List.drop_zero] at y2
    exact ⟨n2, da5, wm5, G5, L5, W5, dS5, dM5, dN5, dU5, dW5, by omega, y2, y3⟩
end Deep
section Core11
variable {C K : Nat} {corners market quay hasOdd oddM oddQ kind nights cart sc : Int32} {sf st sy sp : Nat → Int32} {lc : Int32} {lf lt ly lp : Nat → Int32} {mcorners mstreets mtwice mcouncil mnights mlanes mcart mall : Int32} {mfrom mto myards mprice mend mlane : Nat → Int32} {gone mday : Int32} {shut mshut : Nat → Int32}
theorem chosen_core (hP : IPlan C K corners market quay hasOdd oddM oddQ kind nights cart sc sf st sy sp lc lf lt ly lp mcorners mstreets mtwice mcouncil mnights mlanes mcart mall mfrom mto myards mprice mend mlane) (hD : IDays K gone shut mday mshut) (a1 a2 wc ws wy wm : Int32) (far wst A L0 W0 dS dM dN dU dW : Nat → Int32) (lg0 lg1 lg2 lg3 lg4 lg5 : Int32) (ls0 ls1 ls2 ls3 ls4 ls5 : Nat → Int32) :
    ∃ r1, f_ShutWays_chosen a1 a2 lg0 gone 16 shut 16 ls0 market quay hasOdd oddM oddQ nights wc ws wy sc 8 far 16 sf 16 st 16 sy 8 wst lg1 16 ls1 lg2 16 ls2 lg3 16 ls3 lg4 16 ls4 lg5 16 ls5 = some r1 ∧ ∃ r2, f_ShutWaysModel_chosen a1 a2 mcorners mstreets mtwice mnights mcart mday mall wm 17 A 16 mshut 8 L0 4 mend 16 myards 16 mfrom 16 mto 16 W0 96 dS 6 dM 6 dN 6 dU 72 dW = some r2 ∧ r1.1 = r2.1 ∧ IDays K gone shut r2.2.1 r2.2.2.2.2.2.1 ∧ r2.2.2.1 = nI K := by
  obtain ⟨fr, to, ya, mk, qu, kd, nn, ct, T, e1, e2, e3, e4, -, e6, -⟩ := hP.tw
  obtain ⟨-, ⟨-, e8⟩, ⟨e9, e10, e11⟩, -⟩ := hP
  obtain ⟨d, sh, hd, e12, e13, S1, S2⟩ := id hD.g
  subst e1; subst e2; subst e3; subst e4; subst e6; subst e8; subst e9; subst e10; subst e11; subst e12; subst e13
  obtain ⟨hK, hC, G1, G2, E, M, hkd, hnn⟩ := T
  have hFU : 100000 < FU := by rw [FU_eq]; decide
  obtain ⟨A', a2', a3, a4⟩ := aside_ok (nI d) A mshut
  obtain ⟨H, c1, c2⟩ := copy_ok lg0 (nI d) shut ls0
  unfold f_ShutWays_chosen f_ShutWaysModel_chosen f_ShutWays_chosen_18 f_ShutWaysModel_chosen_18
  rw [outside_ok, in_ok, Option.bind_some, Option.bind_some]
  by_cases ca : a1 < 1 ∨ 5 < a1
  · rw [if_pos ca, if_pos ca, if_neg one_ne, if_pos rfl]
    exact ⟨_, rfl, _, rfl, rfl, hD, rfl⟩
  · rw [if_neg ca, if_neg ca, if_pos rfl, if_neg one_ne, outside_ok, in_ok, Option.bind_some, Option.bind_some]
    by_cases cb : a2 < 0 ∨ 1 < a2
    · rw [if_pos cb, if_pos cb, if_neg one_ne, if_pos rfl]
      exact ⟨_, rfl, _, rfl, rfl, hD, rfl⟩
    · rw [if_neg cb, if_neg cb, if_pos rfl, if_neg one_ne, c1, Option.bind_some]
      dsimp only
      obtain ⟨m, m1, m2, rfl⟩ := i32_rng (v := a1) (a := 1) (b := 5) (by decide) (by decide) ca
      have key : ∀ (gI : Int32) (g : Bool), ((g = true ∧ gI = 1) ∨ (g = false ∧ gI = 0)) → ∃ r1, f_ShutWays_chosen_47 gI (nI m) (nI d) (nI d) 16 shut 16 H market quay hasOdd oddM oddQ (nI nn) wc ws wy (nI K) 8 far 16 sf 16 st 16 sy 8 wst lg1 16 ls1 lg2 16 ls2 lg3 16 ls3 lg4 16 ls4 lg5 16 ls5 = some r1 ∧ ∃ r2, f_ShutWaysModel_chosen_33 gI (nI m) (nI C) (nI K) mtwice (nI nn) (nI ct) (nI d) (nI K) wm 17 A 16 mshut 8 L0 4 mend 16 myards 16 mfrom 16 mto 16 W0 96 dS 6 dM 6 dN 6 dU 72 dW = some r2 ∧ r1.1 = r2.1 ∧ IDays K (nI d) shut r2.2.1 r2.2.2.2.2.2.1 ∧ r2.2.2.1 = nI K := by
        intro gI g hg
        obtain ⟨q1, b1⟩ := bs0 hK hC G1 E hnn hg (k := m) (d := d) m2 (by omega) (S1.congr c2) wc ws wy far wst lg1 ls1 lg2 ls2 lg3 ls3 lg4 ls4 lg5 ls5
        obtain ⟨L', W', dS', dM', dN', dU', dW', t1, t2, t3, t4, t5⟩ := enter_ok hK hC G2 E M (e := 0) (P := 0) (d := d) (by decide) (by omega) S2 ct wm L0 W0 dS dM dN dU dW
        have hTm : ∀ r, r ≤ 5 → Tm r < 50000 := by decide
        obtain ⟨n', da', wm', G', L2, W2, dS2, dM2, dN2, dU2, dW2, z1, z2, z3⟩ := deep_sub hK hC G2 E M hnn hg (m := m) (d0 := d) m2 hd a3 (nI K) ct m 0 (Nat.zero_add m) FU 0 none sh (nI d) (nI (dw fr to ya K mk qu sh d).length) mshut L' W' dS' dM' dN' dU' dW' S2.sb (by have := hTm m m2; omega) (by omega) (fun w hw => by cases hw) t2 t4 t5
        obtain ⟨n', rfl⟩ : ∃ n2, n' = n2 + 1 := ⟨n' - 1, by have := hTm m m2; omega⟩
        obtain ⟨B, p1, p2⟩ := putBack_ok (nI K) da' (nI K) A' G'
        simp only [show oI none = -1 from rfl, nI_0, Nat.add_zero, Nat.zero_add] at z2
        rw [nI_0] at t1
        have last : f_ShutWaysModel_chosenOf_15 (n' + 1) (nI m) gI (oI (uo g none (Val fr to ya K mk qu nn g m sh d))) (0 - 1) (nI C) (nI K) mtwice (nI nn) (nI ct) da' (nI K) wm' 17 A' 16 G' 8 L2 4 mend 16 myards 16 mfrom 16 mto 16 W2 96 dS2 6 dM2 6 dN2 6 dU2 72 dW2 = some (nI (Val fr to ya K mk qu nn g m sh d), nI d, nI K, wm', A', B, L2, W2, dS2, dM2, dN2, dU2, dW2) := by
          rw [show f_ShutWaysModel_chosenOf_15 (n' + 1) = b_ShutWaysModel_chosenOf_15 (f_ShutWaysModel_chosenOf_15 n') from rfl]
          unfold b_ShutWaysModel_chosenOf_15
          rw [if_pos (show (0 : Int32) - 1 < 0 by decide), p1, Option.bind_some, a3]
          rfl
        unfold f_ShutWays_chosen_47 f_ShutWaysModel_chosen_33 f_ShutWaysModel_chosenOf
        rw [b1, Option.bind_some, a2', Option.bind_some, t1, Option.bind_some]
        dsimp only
        rw [z2, last, Option.bind_some]
        exact ⟨_, rfl, _, rfl, rfl, IDays.of hd S1 (S2.congr (fun s hs => (p2 s hs).trans (a4 s hs))), rfl⟩
      by_cases z : a2 = 1
      · rw [if_pos z, if_pos z]
        exact key 1 true (Or.inl ⟨rfl, rfl⟩)
      · rw [if_neg z, if_neg z]
        exact key 0 false (Or.inr ⟨rfl, rfl⟩)
end Core11
theorem pl_chosen : PL_chosen INV := by
  intro x m a1 a2 hI
  obtain ⟨C, K, hT, hP, hD, h0, h1, hN⟩ := hI
  obtain ⟨r1, u1, r2, u2, u3, u4, u5⟩ := chosen_core hP hD a1 a2 x.2.2.2.2.2.2.2.2.2.2.2.2.2.2.2.2.2.2.1.1 x.2.2.2.2.2.2.2.2.2.2.2.2.2.2.2.2.2.2.1.2.1 x.2.2.2.2.2.2.2.2.2.2.2.2.2.2.2.2.2.2.1.2.2.1 m.1.2.2.2.2.2.2.2.2.2.2.2 x.2.2.2.2.2.2.2.2.2.2.2.2.2.2.2.2.2.2.1.2.2.2.2 x.2.2.2.2.2.2.2.2.2.2.2.2.2.2.2.2.2.2.1.2.2.2.1 m.2.2.2.2.1.2.1 m.2.2.2.2.2.1 m.2.2.2.2.2.2.1 m.2.2.2.2.2.2.2.2.2.1 m.2.2.2.2.2.2.2.2.2.2.2.1 m.2.2.2.2.2.2.2.2.2.2.2.2.1 m.2.2.2.2.2.2.2.2.2.2.2.2.2 m.2.2.2.2.2.2.2.2.2.2.1 x.2.2.2.2.2.2.2.2.2.2.2.2.1.1 x.2.2.2.2.2.2.2.2.2.2.2.2.2.1.1 x.2.2.2.2.2.2.2.2.2.2.2.2.2.2.1.1 x.2.2.2.2.2.2.2.2.2.2.2.2.2.2.2.1.1 x.2.2.2.2.2.2.2.2.2.2.2.2.2.2.2.2.1.1 x.2.2.2.2.2.2.2.2.2.2.2.2.2.2.2.2.2.1.1 x.2.2.2.2.2.2.2.2.2.2.2.2.1.2 x.2.2.2.2.2.2.2.2.2.2.2.2.2.1.2 x.2.2.2.2.2.2.2.2.2.2.2.2.2.2.1.2 x.2.2.2.2.2.2.2.2.2.2.2.2.2.2.2.1.2 x.2.2.2.2.2.2.2.2.2.2.2.2.2.2.2.2.1.2 x.2.2.2.2.2.2.2.2.2.2.2.2.2.2.2.2.2.1.2
  exact ⟨r1, u1, r2, u2, u3, C, K, hT, hP.all u5, u4, h0, h1, hN⟩
