/-! THE PURE PART: numbers, the two states' relation -/
def zI (n : Nat) : Int32 := Int32.ofNat n
theorem i0 : (0 : Int32) = zI 0 := rfl
theorem i1 : (1 : Int32) = zI 1 := rfl
theorem i2 : (2 : Int32) = zI 2 := rfl
theorem i3 : (3 : Int32) = zI 3 := rfl
theorem i4 : (4 : Int32) = zI 4 := rfl
theorem i5 : (5 : Int32) = zI 5 := rfl
theorem i6 : (6 : Int32) = zI 6 := rfl
theorem i7 : (7 : Int32) = zI 7 := rfl
theorem i8 : (8 : Int32) = zI 8 := rfl
theorem i9 : (9 : Int32) = zI 9 := rfl
theorem i10 : (10 : Int32) = zI 10 := rfl
theorem i12 : (12 : Int32) = zI 12 := rfl
theorem i20 : (20 : Int32) = zI 20 := rfl
theorem i24 : (24 : Int32) = zI 24 := rfl
theorem i30 : (30 : Int32) = zI 30 := rfl
theorem i36 : (36 : Int32) = zI 36 := rfl
theorem i40 : (40 : Int32) = zI 40 := rfl
theorem i48 : (48 : Int32) = zI 48 := rfl
theorem i50 : (50 : Int32) = zI 50 := rfl
theorem i52 : (52 : Int32) = zI 52 := rfl
theorem i57 : (57 : Int32) = zI 57 := rfl
theorem i59 : (59 : Int32) = zI 59 := rfl
theorem i60 : (60 : Int32) = zI 60 := rfl
theorem i63 : (63 : Int32) = zI 63 := rfl
theorem i72 : (72 : Int32) = zI 72 := rfl
theorem i84 : (84 : Int32) = zI 84 := rfl
theorem i85 : (85 : Int32) = zI 85 := rfl
theorem i86 : (86 : Int32) = zI 86 := rfl
theorem i87 : (87 : Int32) = zI 87 := rfl
theorem i88 : (88 : Int32) = zI 88 := rfl
theorem i90 : (90 : Int32) = zI 90 := rfl
theorem i96 : (96 : Int32) = zI 96 := rfl
theorem i99 : (99 : Int32) = zI 99 := rfl
theorem i120 : (120 : Int32) = zI 120 := rfl
theorem i128 : (128 : Int32) = zI 128 := rfl
theorem i360 : (360 : Int32) = zI 360 := rfl
theorem i999 : (999 : Int32) = zI 999 := rfl
theorem zI_toInt {n : Nat} (h : n < 2147483648) : (zI n).toInt = n := Int32.toInt_ofNat_of_lt h
theorem zI_cl {n : Nat} (h : n < 2147483648) : (zI n).toNatClampNeg = n := Int32.toNatClampNeg_ofNat_of_lt h
theorem zI_lt {a b : Nat} (ha : a < 2147483648) (hb : b < 2147483648) : zI a < zI b ↔ a < b := Int32.ofNat_lt_iff_lt ha hb
theorem zI_le {a b : Nat} (ha : a < 2147483648) (hb : b < 2147483648) : zI a ≤ zI b ↔ a ≤ b := Int32.ofNat_le_iff_le ha hb
theorem zI_eq {a b : Nat} (ha : a < 2147483648) (hb : b < 2147483648) : zI a = zI b ↔ a = b := by
  rw [← Int32.toInt_inj, zI_toInt ha, zI_toInt hb]
  omega
theorem zI_add (a b : Nat) : zI a + zI b = zI (a + b) := (Int32.ofNat_add a b).symm
theorem zI_mul (a b : Nat) : zI a * zI b = zI (a * b) := (Int32.ofNat_mul a b).symm
theorem zI_sub {a b : Nat} (h : b ≤ a) : zI a - zI b = zI (a - b) := (Int32.ofNat_sub a b h).symm
theorem zI_ge {a : Nat} (ha : a < 2147483648) : ¬ zI a < 0 := by
  rw [i0, zI_lt ha (by omega)]
  omega
theorem zI_ge' {a : Nat} (ha : a < 2147483648) : (0 : Int32) ≤ zI a := by
  rw [i0, zI_le (by omega) ha]
  omega
/-- an index in its range -/
theorem zI_in {a n : Nat} (ha : a < 2147483648) (hn : a < n) : ¬ (zI a < 0 ∨ n ≤ (zI a).toNatClampNeg) := by
  rw [zI_cl ha]
  exact fun h => h.elim (zI_ge ha) (by omega)
theorem zI_ne {a : Nat} (ha : a < 2147483648) : ¬ zI a = (-1 : Int32) := by
  rw [← Int32.toInt_inj, zI_toInt ha]
  have : (-1 : Int32).toInt = -1 := by decide
  omega
theorem rng {x : Int32} {b : Nat} (h0 : 0 ≤ x.toInt) (h1 : x.toInt ≤ (b : Int)) : ∃ n : Nat, n ≤ b ∧ x = zI n := by
  refine ⟨x.toInt.toNat, by omega, ?_⟩
  rw [← Int32.toInt_inj, zI_toInt (by have := x.toInt_lt; omega)]
  omega
theorem wC {x a b : Int32} : m_X10_isWithin x a b = 0 ↔ ¬ (a.toInt ≤ x.toInt ∧ x.toInt ≤ b.toInt) := by
  unfold m_X10_isWithin
  by_cases h1 : x < a
  · rw [if_pos h1]
    have := Int32.lt_iff_toInt_lt.mp h1
    exact ⟨fun _ => by omega, fun _ => rfl⟩
  · rw [if_neg h1]
    have h1' := Int32.le_iff_toInt_le.mp (Int32.not_lt.mp h1)
    by_cases h2 : b < x
    · rw [if_pos h2]
      have := Int32.lt_iff_toInt_lt.mp h2
      exact ⟨fun _ => by omega, fun _ => rfl⟩
    · rw [if_neg h2]
      have h2' := Int32.le_iff_toInt_le.mp (Int32.not_lt.mp h2)
      exact ⟨fun h => absurd h (by decide), fun h => absurd ⟨h1', h2'⟩ h⟩
theorem cmp3 (x y : Int64) : (x.toInt < y.toInt ∧ lg_cmp x y = -1) ∨ (x = y ∧ lg_cmp x y = 0) ∨ (y.toInt < x.toInt ∧ lg_cmp x y = 1) := by
  unfold lg_cmp
  by_cases h : x > y
  · rw [if_pos h]
    exact Or.inr (Or.inr ⟨Int64.lt_iff_toInt_lt.mp h, rfl⟩)
  · rw [if_neg h]
    by_cases h2 : x = y
    · rw [if_pos h2]
      exact Or.inr (Or.inl ⟨h2, rfl⟩)
    · rw [if_neg h2]
      refine Or.inl ⟨?_, rfl⟩
      have h3 : ¬ y.toInt < x.toInt := fun q => h (Int64.lt_iff_toInt_lt.mpr q)
      have : x.toInt ≠ y.toInt := fun e => h2 (Int64.toInt_inj.mp e)
      omega
theorem cmp_lt {x y : Int64} : lg_cmp x y < 0 ↔ x.toInt < y.toInt := by
  rcases cmp3 x y with ⟨h, e⟩ | ⟨h, e⟩ | ⟨h, e⟩ <;> rw [e]
  · exact ⟨fun _ => h, fun _ => by decide⟩
  · rw [h]; exact ⟨fun q => absurd q (by decide), fun q => by omega⟩
  · exact ⟨fun q => absurd q (by decide), fun q => by omega⟩
theorem cmp_gt {x y : Int64} : 0 < lg_cmp x y ↔ y.toInt < x.toInt := by
  rcases cmp3 x y with ⟨h, e⟩ | ⟨h, e⟩ | ⟨h, e⟩ <;> rw [e]
  · exact ⟨fun q => absurd q (by decide), fun q => by omega⟩
  · rw [h]; exact ⟨fun q => absurd q (by decide), fun q => by omega⟩
  · exact ⟨fun _ => h, fun _ => by decide⟩
theorem cmp_le {x y : Int64} : lg_cmp x y ≤ 0 ↔ x.toInt ≤ y.toInt := by
  rcases cmp3 x y with ⟨h, e⟩ | ⟨h, e⟩ | ⟨h, e⟩ <;> rw [e]
  · exact ⟨fun _ => by omega, fun _ => by decide⟩
  · rw [h]; exact ⟨fun _ => by omega, fun _ => by decide⟩
  · exact ⟨fun q => absurd q (by decide), fun q => by omega⟩
theorem cmp_eq {x y : Int64} : lg_cmp x y = 0 ↔ x = y := by
  rcases cmp3 x y with ⟨h, e⟩ | ⟨h, e⟩ | ⟨h, e⟩ <;> rw [e]
  · exact ⟨fun q => absurd q (by decide), fun q => by rw [q] at h; omega⟩
  · exact ⟨fun _ => h, fun _ => rfl⟩
  · exact ⟨fun q => absurd q (by decide), fun q => by rw [q] at h; omega⟩
theorem wM {x a b : Int64} : m_X11_within x a b = 0 ↔ ¬ (a.toInt ≤ x.toInt ∧ x.toInt ≤ b.toInt) := by
  unfold m_X11_within
  by_cases h1 : lg_cmp x a < 0
  · rw [if_pos h1]
    have := cmp_lt.mp h1
    exact ⟨fun _ => by omega, fun _ => rfl⟩
  · rw [if_neg h1]
    have h1' : ¬ x.toInt < a.toInt := fun q => h1 (cmp_lt.mpr q)
    by_cases h2 : 0 < lg_cmp x b
    · rw [if_pos h2]
      have := cmp_gt.mp h2
      exact ⟨fun _ => by omega, fun _ => rfl⟩
    · rw [if_neg h2]
      have h2' : ¬ b.toInt < x.toInt := fun q => h2 (cmp_gt.mpr q)
      exact ⟨fun h => absurd h (by decide), fun h => absurd (by omega) h⟩
/-- kinds of numbers: 0 .. 6 of a place, 7 .. 10 told once -/
def loV (k : Nat) : Int := if k = 2 ∨ k = 7 then 1 else 0
def hiV (k : Nat) : Int := if k = 0 ∨ k = 1 then 30 else if k = 2 ∨ k = 3 then 60 else if k = 4 then 9 else if k = 5 then 12 else if k = 6 then 3 else if k = 7 then 6 else if k = 9 then 99 else 999
def okV (k : Nat) (v : Int32) : Prop := loV k ≤ v.toInt ∧ v.toInt ≤ hiV k
/-! the law's text, read once: where a fault is, or where it ends, its steps, and what it gives by names -/
abbrev CD : Type := List (Int32 × Int32)
abbrev FN : Type := (Nat → Int32) → Int32
abbrev PR : Type := Nat ⊕ (Nat × CD × FN)
def btA (B : Nat → Int32) (N : Nat) (a : Nat) : Int32 := if a < N then B a else -1
def pBd {β : Type} (x : PR) (f : Nat → CD → FN → Nat ⊕ β) : Nat ⊕ β := match x with
  | .inl e => .inl e
  | .inr q => f q.1 q.2.1 q.2.2
def pNum (bt : Nat → Int32) : Nat → Nat → Int32 → Nat × Int32
  | 0, a, v => (a, v)
  | n + 1, a, v => if m_X3_isDigit (bt a) = 0 then (a, v) else pNum bt n (a + 1) (v * 10 + bt a - 48)
def pAtom (bt : Nat → Int32) (a : Nat) (els : PR) : PR :=
  if m_X3_isDigit (bt a) = 0 then
    (if m_X3_nameOf (bt a) < 0 then els else .inr (a + 1, [(110, m_X3_nameOf (bt a))], fun ν => ν (m_X3_nameOf (bt a)).toNatClampNeg))
  else .inr ((pNum bt 4 a 0).1, [(48, (pNum bt 4 a 0).2)], fun _ => (pNum bt 4 a 0).2)
def pLoop (bt : Nat → Int32) (sub : Nat → PR) (lv : Int32) : Nat → Nat → CD → FN → PR
  | 0, a, c, f => .inr (a, c, f)
  | n + 1, a, c, f =>
    if m_X3_levelOf (bt a) = lv then
      pBd (sub (a + 1)) (fun a' c' f' =>
        if lv = 2 then .inr (a', c ++ c' ++ [(bt a, 0)], fun ν => m_X3_both (bt a) (f ν) (f' ν))
        else pLoop bt sub lv n a' (c ++ c' ++ [(bt a, 0)]) (fun ν => m_X3_both (bt a) (f ν) (f' ν)))
    else .inr (a, c, f)
def pL (bt : Nat → Int32) (sub : Nat → PR) (lv : Int32) (a : Nat) : PR := pBd (sub a) (fun a' c f => pLoop bt sub lv 120 a' c f)
def pK (bt : Nat → Int32) (op : Nat → PR) : Nat → Nat → PR
  | 0 => op
  | j + 1 => pL bt (pK bt op j) (zI (4 - j))
def pOp (bt : Nat → Int32) : Nat → Nat → PR
  | 0 => fun a => pAtom bt a (.inl a)
  | d + 1 => fun a => pAtom bt a
      (if bt a = 33 then pBd (pOp bt d (a + 1)) (fun a' c f => .inr (a', c ++ [(33, 0)], fun ν => if f ν = 0 then 1 else 0))
      else if bt a = 45 then pBd (pOp bt d (a + 1)) (fun a' c f => .inr (a', c ++ [(126, 0)], fun ν => - f ν))
      else if bt a = 40 then pBd (pK bt (pOp bt d) 5 (a + 1)) (fun a' c f => if bt a' = 41 then .inr (a' + 1, c, f) else .inl a')
      else .inl a)
def pE (bt : Nat → Int32) (a : Nat) : PR := pK bt (pOp bt 6) 5 a
abbrev LN : Type := (Nat → Int32) → Option Int32
abbrev QR : Type := Nat ⊕ (Nat × CD × LN)
def qBd {β : Type} (x : QR) (f : Nat → CD → LN → Nat ⊕ β) : Nat ⊕ β := match x with
  | .inl e => .inl e
  | .inr q => f q.1 q.2.1 q.2.2
def pLine (bt : Nat → Int32) (a : Nat) : QR :=
  pBd (pE bt a) (fun a1 c1 f1 =>
    if bt a1 = 63 then pBd (pE bt (a1 + 1)) (fun a2 c2 f2 => .inr (a2, c1 ++ [(63, 0)] ++ c2 ++ [(59, 0)], fun ν => if f1 ν = 0 then none else some (f2 ν)))
    else .inr (a1, c1 ++ [(59, 0)], fun ν => some (f1 ν)))
def lnOr (g h : LN) : LN := fun ν => match g ν with
  | some v => some v
  | none => h ν
def pTx (bt : Nat → Int32) : Nat → Nat → CD → LN → QR
  | 0, a, c, g => .inr (a, c, g)
  | n + 1, a, c, g =>
    if bt a = 59 then qBd (pLine bt (a + 1)) (fun a' c' g' => pTx bt n a' (c ++ c') (lnOr g g'))
    else .inr (a, c, g)
def pText (bt : Nat → Int32) (N : Nat) : Nat ⊕ (CD × FN) :=
  qBd (pLine bt 0) (fun a c g => qBd (pTx bt 120 a c g) (fun a' c' g' => if a' < N then .inl a' else .inr (c', fun ν => (g' ν).getD 0)))
/-! the relation of the class's numbers and the model's -/
def IvP (P : Nat) (σC σM : SS) : Prop := P ≤ 12 ∧ σC.1 1 0 1 = zI P ∧ σM.1 0 0 6 = zI P ∧ σM.1 0 0 7 = 0
def IvN (P : Nat) (σC σM : SS) : Prop := (∀ p w, p < 12 → w < 7 → σM.2.1 1 0 (12 * w + p) = σC.2.1 2 0 (7 * p + w)) ∧ (∀ k, k < 4 → σM.2.1 1 0 (84 + k) = σC.2.1 2 0 (84 + k)) ∧ (∀ p w, p < P → w < 7 → okV w (σC.2.1 2 0 (7 * p + w))) ∧ (∀ k, k < 4 → okV (7 + k) (σC.2.1 2 0 (84 + k)))
/-- a number's place in the class and in the model -/
def slR (P k s m : Nat) : Prop := (∃ p, p < P ∧ k < 7 ∧ s = 7 * p + k ∧ m = 12 * k + p) ∨ (7 ≤ k ∧ k < 11 ∧ s = 77 + k ∧ m = 77 + k)
def IvH (P : Nat) (σC σM : SS) : Prop := ∃ D S, D ≤ S ∧ S ≤ 40 ∧ σC.1 3 0 4 = zI D ∧ σM.1 0 0 5 = zI D ∧ σC.1 3 0 3 = zI S ∧ σM.1 0 0 4 = zI S ∧ ∀ i, i < S → ∃ k s m, slR P k s m ∧ σC.2.1 4 0 i = zI s ∧ σM.2.1 2 0 i = zI m ∧ σM.2.1 3 0 i = σC.2.1 5 0 i ∧ σM.2.1 4 0 i = σC.2.1 6 0 i ∧ okV k (σC.2.1 5 0 i) ∧ okV k (σC.2.1 6 0 i)
def IvT (σC σM : SS) : Prop := ∃ F, F ≤ 120 ∧ σC.1 7 0 1 = zI F ∧ σM.1 0 0 9 = zI F ∧ ∀ i, i < F → σM.2.1 5 0 i = σC.2.1 8 0 i
def cdAt (c : CD) (f g : Nat → Int32) : Prop := ∀ i, i < c.length → f i = (c.getD i (0, 0)).1 ∧ g i = (c.getD i (0, 0)).2
def IvL (lf : Option FN) (σC σM : SS) : Prop := match lf with
  | none => σC.1 7 0 4 = 0 ∧ σM.1 0 0 11 = -1
  | some f => ∃ N c, N ≤ 120 ∧ σM.1 0 0 11 = zI N ∧ pText (btA (σM.2.1 6 0) N) N = .inr (c, f) ∧ 0 < c.length ∧ c.length ≤ 128 ∧ σC.1 7 0 4 = zI c.length ∧ cdAt c (σC.2.1 9 0) (σC.2.1 10 0)
def byteV (v : Int64) : Prop := -128 ≤ v.toInt ∧ v.toInt ≤ 127
def IvS (Bn : Nat) (σC σM : SS) : Prop := ∀ d, d < 6 → (∃ n, n ≤ 60 ∧ σC.1 28 d 2 = zI n ∧ σM.2.1 15 0 d = zI n) ∧ (∀ i, i < 60 → σM.2.2 16 0 (60 * d + i) = σC.2.2 29 d i) ∧ ((σC.1 28 d 0 = -2 ∧ σM.2.1 14 0 d = -1) ∨ (σC.1 28 d 0 = -1 ∧ ∃ b, b < Bn ∧ σC.1 28 d 1 = zI b ∧ σM.2.1 14 0 d = zI b) ∨ (∃ k, k < 5 ∧ σC.1 28 d 0 = zI k ∧ σM.2.1 14 0 d = zI (50 + k) ∧ (k = 0 → ∀ i, i < 60 → byteV (σC.2.2 29 d i))))
def IvB (Bn : Nat) (σC σM : SS) : Prop := Bn ≤ 50 ∧ σC.1 24 0 1 = zI Bn ∧ σM.1 0 0 34 = zI Bn ∧ ∀ i, i < Bn → σM.2.1 12 0 i = σC.2.1 25 0 i ∧ ∃ k, k < 8 ∧ σC.2.1 25 0 i = zI k
def IvR (σC σM : SS) : Prop := ∃ r, r ≤ 1000000 ∧ σC.1 24 0 3 = zI r ∧ σM.1 0 0 37 = zI r ∧ ∀ i, i < r → i < 24 → σM.2.1 13 0 i = σC.2.1 26 0 i
def dR (P : Nat) (c : Nat → Int32) (pl mi he st ar cr pa re le : Int32) : Prop := ((c 0 = 1 ∧ ∃ p a, p + 1 < P ∧ a ≤ 999 ∧ c 1 = zI p ∧ pl = zI p ∧ c 2 = mi ∧ c 3 = he ∧ 0 ≤ he.toInt ∧ c 4 = zI a ∧ st = zI a) ∨ (c 0 = 0 ∧ pl = -1)) ∧ c 5 = ar ∧ c 6 = cr ∧ c 7 = pa ∧ c 8 = re ∧ c 9 = le
def IvD (P : Nat) (σC σM : SS) : Prop := dR P (σC.1 22 0) (σM.1 0 0 23) (σM.1 0 0 24) (σM.1 0 0 25) (σM.1 0 0 26) (σM.1 0 0 27) (σM.1 0 0 28) (σM.1 0 0 29) (σM.1 0 0 30) (σM.1 0 0 31) ∧ ((σC.1 21 0 4 = 0 ∧ σM.1 0 0 32 = 0) ∨ (σC.1 21 0 4 = 1 ∧ σM.1 0 0 32 = 1 ∧ dR P (σC.1 23 0) (σM.2.1 11 0 5) (σM.2.1 11 0 6) (σM.2.1 11 0 7) (σM.2.1 11 0 8) (σM.2.1 11 0 0) (σM.2.1 11 0 1) (σM.2.1 11 0 2) (σM.2.1 11 0 3) (σM.2.1 11 0 4)))
def InvK (P Bn : Nat) (lf : Option FN) (σC σM : SS) : Prop := IvP P σC σM ∧ IvN P σC σM ∧ IvH P σC σM ∧ IvT σC σM ∧ IvL lf σC σM ∧ IvS Bn σC σM ∧ IvB Bn σC σM ∧ IvR σC σM ∧ IvD P σC σM
def Inv (σC σM : SS) : Prop := ∃ P Bn lf, InvK P Bn lf σC σM
/-! each part of the relation reads few cells -/
section CG
variable {P Bn : Nat} {lf : Option FN} {σC σM τC τM : SS}
theorem IvP.c (h : IvP P σC σM) (e1 : τC.1 1 0 1 = σC.1 1 0 1) (e2 : τM.1 0 0 6 = σM.1 0 0 6) (e3 : τM.1 0 0 7 = σM.1 0 0 7) : IvP P τC τM := by
  unfold IvP at *
  rw [e1, e2, e3]
  exact h
theorem IvN.c (h : IvN P σC σM) (e1 : τC.2.1 2 0 = σC.2.1 2 0) (e2 : τM.2.1 1 0 = σM.2.1 1 0) : IvN P τC τM := by
  unfold IvN at *
  rw [e1, e2]
  exact h
theorem IvH.c (h : IvH P σC σM) (e1 : τC.1 3 0 = σC.1 3 0) (e2 : τM.1 0 0 5 = σM.1 0 0 5) (e3 : τM.1 0 0 4 = σM.1 0 0 4) (a4 : τC.2.1 4 0 = σC.2.1 4 0) (a5 : τC.2.1 5 0 = σC.2.1 5 0) (a6 : τC.2.1 6 0 = σC.2.1 6 0) (m2 : τM.2.1 2 0 = σM.2.1 2 0) (m3 : τM.2.1 3 0 = σM.2.1 3 0) (m4 : τM.2.1 4 0 = σM.2.1 4 0) : IvH P τC τM := by
  unfold IvH at *
  rw [e1, e2, e3, a4, a5, a6, m2, m3, m4]
  exact h
theorem IvT.c (h : IvT σC σM) (e1 : τC.1 7 0 1 = σC.1 7 0 1) (e2 : τM.1 0 0 9 = σM.1 0 0 9) (a : τC.2.1 8 0 = σC.2.1 8 0) (m : τM.2.1 5 0 = σM.2.1 5 0) : IvT τC τM := by
  unfold IvT at *
  rw [e1, e2, a, m]
  exact h
theorem IvL.c (h : IvL lf σC σM) (e1 : τC.1 7 0 4 = σC.1 7 0 4) (e2 : τM.1 0 0 11 = σM.1 0 0 11) (a : τC.2.1 9 0 = σC.2.1 9 0) (b : τC.2.1 10 0 = σC.2.1 10 0) (m : τM.2.1 6 0 = σM.2.1 6 0) : IvL lf τC τM := by
  unfold IvL at *
  rw [e1, e2, a, b, m]
  exact h
theorem IvS.c (h : IvS Bn σC σM) (e1 : τC.1 28 = σC.1 28) (a : τC.2.2 29 = σC.2.2 29) (m1 : τM.2.1 14 0 = σM.2.1 14 0) (m2 : τM.2.1 15 0 = σM.2.1 15 0) (m3 : τM.2.2 16 0 = σM.2.2 16 0) : IvS Bn τC τM := by
  unfold IvS at *
  rw [e1, a, m1, m2, m3]
  exact h
theorem IvB.c (h : IvB Bn σC σM) (e1 : τC.1 24 0 1 = σC.1 24 0 1) (e2 : τM.1 0 0 34 = σM.1 0 0 34) (a : τC.2.1 25 0 = σC.2.1 25 0) (m : τM.2.1 12 0 = σM.2.1 12 0) : IvB Bn τC τM := by
  unfold IvB at *
  rw [e1, e2, a, m]
  exact h
theorem IvR.c (h : IvR σC σM) (e1 : τC.1 24 0 3 = σC.1 24 0 3) (e2 : τM.1 0 0 37 = σM.1 0 0 37) (a : τC.2.1 26 0 = σC.2.1 26 0) (m : τM.2.1 13 0 = σM.2.1 13 0) : IvR τC τM := by
  unfold IvR at *
  rw [e1, e2, a, m]
  exact h
theorem IvD.c (h : IvD P σC σM) (e1 : τC.1 22 0 = σC.1 22 0) (e2 : τC.1 23 0 = σC.1 23 0) (e3 : τC.1 21 0 4 = σC.1 21 0 4) (m : ∀ k, 23 ≤ k → k ≤ 32 → τM.1 0 0 k = σM.1 0 0 k) (a : τM.2.1 11 0 = σM.2.1 11 0) : IvD P τC τM := by
  unfold IvD at *
  rw [e1, e2, e3, m 23 (by omega) (by omega), m 24 (by omega) (by omega), m 25 (by omega) (by omega), m 26 (by omega) (by omega), m 27 (by omega) (by omega), m 28 (by omega) (by omega), m 29 (by omega) (by omega), m 30 (by omega) (by omega), m 31 (by omega) (by omega), m 32 (by omega) (by omega), a]
  exact h
end CG
/-! what changes in scratch alone -/
def FrC (σ τ : SS) : Prop := (∀ t j k, t ≠ 14 → t ≠ 17 → ¬ (t = 7 ∧ (k = 7 ∨ k = 8 ∨ k = 9 ∨ k = 11)) → ¬ (t = 24 ∧ (k = 4 ∨ k = 5)) → τ.1 t j k = σ.1 t j k) ∧ (∀ t, t ≠ 11 → t ≠ 12 → t ≠ 13 → t ≠ 15 → t ≠ 16 → t ≠ 18 → t ≠ 19 → τ.2.1 t = σ.2.1 t) ∧ τ.2.2 = σ.2.2
def FrM (σ τ : SS) : Prop := (∀ j k, ¬ (12 ≤ k ∧ k ≤ 16) → k ≠ 18 → k ≠ 19 → k ≠ 38 → k ≠ 39 → τ.1 0 j k = σ.1 0 j k) ∧ (∀ t, t ≠ 7 → t ≠ 8 → t ≠ 9 → t ≠ 10 → τ.2.1 t = σ.2.1 t) ∧ (∀ t, t ≠ 17 → τ.2.2 t = σ.2.2 t)
theorem FrC.rf (σ : SS) : FrC σ σ := ⟨fun _ _ _ _ _ _ _ => rfl, fun _ _ _ _ _ _ _ _ => rfl, rfl⟩
theorem FrM.rf (σ : SS) : FrM σ σ := ⟨fun _ _ _ _ _ _ _ => rfl, fun _ _ _ _ _ => rfl, fun _ _ => rfl⟩
theorem FrC.tr {σ τ υ : SS} (h : FrC σ τ) (g : FrC τ υ) : FrC σ υ := ⟨fun t j k a b c d => (g.1 t j k a b c d).trans (h.1 t j k a b c d), fun t a b c d e f i => (g.2.1 t a b c d e f i).trans (h.2.1 t a b c d e f i), g.2.2.trans h.2.2⟩
theorem FrM.tr {σ τ υ : SS} (h : FrM σ τ) (g : FrM τ υ) : FrM σ υ := ⟨fun j k a b c d e => (g.1 j k a b c d e).trans (h.1 j k a b c d e), fun t a b c d => (g.2.1 t a b c d).trans (h.2.1 t a b c d), fun t a => (g.2.2 t a).trans (h.2.2 t a)⟩
theorem InvK.fr {P Bn : Nat} {lf : Option FN} {σC σM τC τM : SS} (h : InvK P Bn lf σC σM) (f : FrC σC τC) (g : FrM σM τM) : InvK P Bn lf τC τM := by
  obtain ⟨h1, h2, h3, h4, h5, h6, h7, h8, h9⟩ := h
  obtain ⟨f1, f2, f3⟩ := f
  obtain ⟨g1, g2, g3⟩ := g
  have F : ∀ t j k, t ≠ 14 → t ≠ 17 → t ≠ 7 → t ≠ 24 → τC.1 t j k = σC.1 t j k := fun t j k a b c d => f1 t j k a b (fun e => c e.1) (fun e => d e.1)
  have G : ∀ k, ¬ (12 ≤ k ∧ k ≤ 16) → k ≠ 18 → k ≠ 19 → k ≠ 38 → k ≠ 39 → τM.1 0 0 k = σM.1 0 0 k := g1 0
  have A : ∀ t, t ≠ 11 → t ≠ 12 → t ≠ 13 → t ≠ 15 → t ≠ 16 → t ≠ 18 → t ≠ 19 → τC.2.1 t 0 = σC.2.1 t 0 := fun t a b c d e f i => by rw [f2 t a b c d e f i]
  have B : ∀ t, t ≠ 7 → t ≠ 8 → t ≠ 9 → t ≠ 10 → τM.2.1 t 0 = σM.2.1 t 0 := fun t a b c d => by rw [g2 t a b c d]
  refine ⟨h1.c (F 1 0 1 (by decide) (by decide) (by decide) (by decide)) (G 6 (by decide) (by decide) (by decide) (by decide) (by decide)) (G 7 (by decide) (by decide) (by decide) (by decide) (by decide)), h2.c (A 2 (by decide) (by decide) (by decide) (by decide) (by decide) (by decide) (by decide)) (B 1 (by decide) (by decide) (by decide) (by decide)), ?_, ?_, ?_, ?_, ?_, ?_, ?_⟩
  · exact h3.c (funext fun k => F 3 0 k (by decide) (by decide) (by decide) (by decide)) (G 5 (by decide) (by decide) (by decide) (by decide) (by decide)) (G 4 (by decide) (by decide) (by decide) (by decide) (by decide)) (A 4 (by decide) (by decide) (by decide) (by decide) (by decide) (by decide) (by decide)) (A 5 (by decide) (by decide) (by decide) (by decide) (by decide) (by decide) (by decide)) (A 6 (by decide) (by decide) (by decide) (by decide) (by decide) (by decide) (by decide)) (B 2 (by decide) (by decide) (by decide) (by decide)) (B 3 (by decide) (by decide) (by decide) (by decide)) (B 4 (by decide) (by decide) (by decide) (by decide))
  · exact h4.c (f1 7 0 1 (by decide) (by decide) (by decide) (by decide)) (G 9 (by decide) (by decide) (by decide) (by decide) (by decide)) (A 8 (by decide) (by decide) (by decide) (by decide) (by decide) (by decide) (by decide)) (B 5 (by decide) (by decide) (by decide) (by decide))
  · exact h5.c (f1 7 0 4 (by decide) (by decide) (by decide) (by decide)) (G 11 (by decide) (by decide) (by decide) (by decide) (by decide)) (A 9 (by decide) (by decide) (by decide) (by decide) (by decide) (by decide) (by decide)) (A 10 (by decide) (by decide) (by decide) (by decide) (by decide) (by decide) (by decide)) (B 6 (by decide) (by decide) (by decide) (by decide))
  · exact h6.c (funext fun j => funext fun k => F 28 j k (by decide) (by decide) (by decide) (by decide)) (by rw [f3]) (B 14 (by decide) (by decide) (by decide) (by decide)) (B 15 (by decide) (by decide) (by decide) (by decide)) (by rw [g3 16 (by decide)])
  · exact h7.c (f1 24 0 1 (by decide) (by decide) (by decide) (by decide)) (G 34 (by decide) (by decide) (by decide) (by decide) (by decide)) (A 25 (by decide) (by decide) (by decide) (by decide) (by decide) (by decide) (by decide)) (B 12 (by decide) (by decide) (by decide) (by decide))
  · exact h8.c (f1 24 0 3 (by decide) (by decide) (by decide) (by decide)) (G 37 (by decide) (by decide) (by decide) (by decide) (by decide)) (A 26 (by decide) (by decide) (by decide) (by decide) (by decide) (by decide) (by decide)) (B 13 (by decide) (by decide) (by decide) (by decide))
  · exact h9.c (funext fun k => F 22 0 k (by decide) (by decide) (by decide) (by decide)) (funext fun k => F 23 0 k (by decide) (by decide) (by decide) (by decide)) (F 21 0 4 (by decide) (by decide) (by decide) (by decide)) (fun k a b => G k (by omega) (by omega) (by omega) (by omega) (by omega)) (B 11 (by decide) (by decide) (by decide) (by decide))
