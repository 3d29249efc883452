/-! ===== what class and reference have in common between two calls ===== -/
def srt (b : Nat) : Nat := if 97 ≤ b ∧ b ≤ 122 then 0 else if 48 ≤ b ∧ b ≤ 57 then 1 else if b = 32 then 3 else 2
def IText (len : Int32) (bytes sorts : Nat → Int32) (mlen : Int32) (mtext : Nat → Int32) : Prop :=
  ∃ n : Nat, n ≤ 200 ∧ len = nI n ∧ mlen = nI n ∧ ∀ i, i < n → ∃ b : Nat, b < 256 ∧ bytes i = nI b ∧ mtext i = nI b ∧ sorts i = nI (srt b)
def IRoad (C s : Nat) (sf st sy sp : Nat → Int32) (mf mt my mp : Int32) : Prop :=
  ∃ a b y p : Nat, a < C ∧ b < C ∧ a ≠ b ∧ 1 ≤ y ∧ y ≤ 99 ∧ p ≤ 99 ∧ sf s = nI a ∧ mf = nI a ∧ st s = nI b ∧ mt = nI b ∧ sy s = nI y ∧ my = nI y ∧ sp s = nI p ∧ mp = nI p
def IEnds (C : Nat) (market quay mmarket mquay : Int32) : Prop := ∃ a b : Nat, a < C ∧ b < C ∧ a ≠ b ∧ market = nI a ∧ mmarket = nI a ∧ quay = nI b ∧ mquay = nI b
def IPlan (C K : Nat) (corners market quay hasOdd oddM oddQ kind nights cart sc : Int32) (sf st sy sp : Nat → Int32) (lc : Int32) (lf lt ly lp : Nat → Int32) (mcorners mstreets mtwice mcouncil mnights mlanes mcart mall : Int32) (mfrom mto myards mprice mend mlane : Nat → Int32) : Prop :=
  (2 ≤ C ∧ C ≤ 8 ∧ K ≤ 12) ∧ (corners = nI C ∧ mcorners = nI C) ∧ (sc = nI K ∧ mstreets = nI K ∧ mall = nI K) ∧ (∀ s, s < K → IRoad C s sf st sy sp (mfrom s) (mto s) (myards s) (mprice s)) ∧
  (∃ ln : Nat, ln ≤ 4 ∧ lc = nI ln ∧ mlanes = nI ln ∧ ∀ l, l < ln → IRoad C l lf lt ly lp (mlane (4 * l)) (mlane (4 * l + 1)) (mlane (4 * l + 2)) (mlane (4 * l + 3))) ∧
  IEnds C market quay (mend 0) (mend 1) ∧ ((hasOdd = 0 ∧ mtwice = 0) ∨ (hasOdd = 1 ∧ mtwice = 1 ∧ IEnds C oddM oddQ (mend 2) (mend 3))) ∧
  (∃ k : Nat, k < 4 ∧ kind = nI k ∧ mcouncil = nI k) ∧ (∃ k : Nat, 1 ≤ k ∧ k ≤ 9 ∧ nights = nI k ∧ mnights = nI k) ∧ (∃ k : Nat, 1 ≤ k ∧ k ≤ 99 ∧ cart = nI k ∧ mcart = nI k)
def IDays (K : Nat) (gone : Int32) (shut : Nat → Int32) (mday : Int32) (mshut : Nat → Int32) : Prop :=
  ∃ d : Nat, d ≤ 9999 ∧ gone = nI d ∧ mday = nI d ∧ ∀ s, s < 16 → ∃ h : Nat, h ≤ 99 ∧ shut s = nI h ∧ mshut s = nI h ∧ (K ≤ s → h = 0)
def IKept (K i : Nat) (isK misK : Nat → Int32) (gone : Int32) (shut image : Nat → Int32) : Prop :=
  (isK i = 0 ∧ misK i = 0) ∨ (isK i = 1 ∧ misK i = 1 ∧ IDays K gone shut (image (17 * i + 16)) (fun s => image (17 * i + s)))
def ITold (K : Nat) (cnt : Int32) (told : Nat → Int32) (mtold : Int32) (tell : Nat → Int32) : Prop :=
  ∃ n : Nat, n ≤ 12 ∧ cnt = nI n ∧ mtold = nI n ∧ ∀ i, i < n → told i = tell i ∧ (told i = -1 ∨ ∃ s : Nat, s < K ∧ told i = nI s)
def INV (x : XV) (m : MV) : Prop := ∃ C K : Nat,
  IText x.2.1.1 x.2.1.2.2.2.2.2.2.2.2.1 x.2.1.2.2.2.2.2.2.2.2.2 m.1.2.2.2.2.2.2.2.1 m.2.2.2.1 ∧
  IPlan C K x.2.2.1.1 x.2.2.1.2.1 x.2.2.1.2.2.1 x.2.2.1.2.2.2.1 x.2.2.1.2.2.2.2.1 x.2.2.1.2.2.2.2.2.1 x.2.2.1.2.2.2.2.2.2.1 x.2.2.1.2.2.2.2.2.2.2.1 x.2.2.1.2.2.2.2.2.2.2.2 x.2.2.2.1.1 x.2.2.2.1.2.1 x.2.2.2.1.2.2.1 x.2.2.2.1.2.2.2.1 x.2.2.2.1.2.2.2.2 x.2.2.2.2.1.1 x.2.2.2.2.1.2.1 x.2.2.2.2.1.2.2.1 x.2.2.2.2.1.2.2.2.1 x.2.2.2.2.1.2.2.2.2 m.1.1 m.1.2.1 m.1.2.2.1 m.1.2.2.2.1 m.1.2.2.2.2.1 m.1.2.2.2.2.2.1 m.1.2.2.2.2.2.2.1 m.1.2.2.2.2.2.2.2.2.2.1 m.2.2.1.1 m.2.2.1.2.1 m.2.2.1.2.2.1 m.2.2.1.2.2.2.1 m.2.2.1.2.2.2.2.1 m.2.2.1.2.2.2.2.2 ∧
  IDays K x.2.2.2.2.2.2.2.2.1.1 x.2.2.2.2.2.2.2.2.1.2 m.1.2.2.2.2.2.2.2.2.1 m.2.2.2.2.1.1 ∧
  IKept K 0 x.1.2.1 m.2.2.2.2.1.2.2.2.1 x.2.2.2.2.2.2.2.2.2.2.1.1 x.2.2.2.2.2.2.2.2.2.2.1.2 m.2.2.2.2.1.2.2.1 ∧
  IKept K 1 x.1.2.1 m.2.2.2.2.1.2.2.2.1 x.2.2.2.2.2.2.2.2.2.2.2.1.1 x.2.2.2.2.2.2.2.2.2.2.2.1.2 m.2.2.2.2.1.2.2.1 ∧
  ITold K x.1.1 x.1.2.2.1 m.1.2.2.2.2.2.2.2.2.2.2.1 m.2.2.2.2.1.2.2.2.2
