/-! walks in deed -/
def finM (rf h A : Int32) (τ ρ : SS) : Option (Int32 × SS) :=
  if A ≤ m_X11_bears (sI ρ 0 0 25 h) then
    (if τ.1 0 0 23 = τ.1 0 0 6 - 1 then
      (if rf = 0 then
        (if τ.1 0 0 31 = -2000000000 then some (1, sI (sI (sI (sI ρ 0 0 25 h) 0 0 27 (τ.1 0 0 27 + 1)) 0 0 31 (m_X11_bears (sI ρ 0 0 25 h) - A)) 0 0 23 (-1))
        else if τ.1 0 0 31 ≤ m_X11_bears (sI ρ 0 0 25 h) - A then some (1, sI (sI (sI (sI ρ 0 0 25 h) 0 0 27 (τ.1 0 0 27 + 1)) 0 0 31 (τ.1 0 0 31)) 0 0 23 (-1))
        else some (1, sI (sI (sI (sI ρ 0 0 25 h) 0 0 27 (τ.1 0 0 27 + 1)) 0 0 31 (m_X11_bears (sI ρ 0 0 25 h) - A)) 0 0 23 (-1)))
      else some (1, sI ρ 0 0 25 h))
    else some (1, sI ρ 0 0 25 h))
  else some (0, sI (sI (sI ρ 0 0 25 h) 0 0 28 (τ.1 0 0 28 + 1)) 0 0 23 (-1))
def midM (rf h A : Int32) (τ : SS) : Option (Int32 × SS) :=
  if rf = 0 then finM rf h A τ (sI τ 0 0 26 A)
  else Option.bind (m_X11_windAt (τ.1 0 0 23) (τ.1 0 0 24) (sI τ 0 0 26 A)) (fun q => if q = 0 then (if A ≤ 3 then finM rf h 0 τ (sI (sI τ 0 0 26 A) 0 0 26 0) else finM rf h (A - 3) τ (sI (sI τ 0 0 26 A) 0 0 26 (A - 3))) else finM rf h A τ (sI τ 0 0 26 A))
theorem minE (h rf : Int32) (σ : SS) : m_X11_minuteIs h rf σ = Option.bind (m_X11_strainAt (σ.1 0 0 23) h (σ.1 0 0 24) σ) (fun q1 => midM rf h (σ.1 0 0 26 + (q1.1 + (if q1.2.1 0 0 25 < 0 then 0 else if q1.2.1 0 0 25 = h then 0 else 1))) q1.2) := by
  unfold m_X11_minuteIs midM finM
  congr 1
  funext q1
  by_cases c1 : q1.2.1 0 0 25 < 0
  · by_cases c2 : rf = 0
    · simp only [if_pos c1, if_pos c2]
    · simp only [if_pos c1, if_neg c2]
  · by_cases c3 : q1.2.1 0 0 25 = h
    · by_cases c2 : rf = 0
      · simp only [if_neg c1, if_pos c3, if_pos c2]
      · simp only [if_neg c1, if_pos c3, if_neg c2]
    · by_cases c2 : rf = 0
      · simp only [if_neg c1, if_neg c3, if_pos c2]
      · simp only [if_neg c1, if_neg c3, if_neg c2]
def finC (rf h A : Int32) (τ : SS) : Option (Int32 × SS) :=
  if m_X7_isTooMuch A (sI (sI τ 22 0 3 h) 22 0 4 A) = 0 then
    (if rf = 0 then
      (if τ.1 22 0 1 = τ.1 1 0 1 - 1 then some (1, m_X2_arrive (sI (sI τ 22 0 3 h) 22 0 4 A)) else some (1, sI (sI τ 22 0 3 h) 22 0 4 A))
    else some (1, sI (sI τ 22 0 3 h) 22 0 4 A))
  else some (0, sI (sI (sI (sI τ 22 0 3 h) 22 0 4 A) 22 0 0 0) 22 0 6 (τ.1 22 0 6 + 1))
def midC (rf h A : Int32) (τ : SS) : Option (Int32 × SS) :=
  if rf = 0 then finC rf h A τ
  else if m_X8_windIn (τ.1 22 0 1) (τ.1 22 0 2) τ = 0 then finC rf h (if 0 < A - 3 then A - 3 else 0) τ else finC rf h A τ
theorem bearE (h rf : Int32) (σ : SS) : m_X2_bear h rf σ = Option.bind (m_X7_inMinute ((m_X7_supposeNow σ).1 22 0 1) h ((m_X7_supposeNow σ).1 22 0 2) (m_X7_supposeNow σ)) (fun q2 => midC rf h (((m_X7_supposeNow σ).1 22 0 4 + q2.1) + (if h = q2.2.1 22 0 3 then 0 else 1)) q2.2) := by
  unfold m_X2_bear midC finC
  simp only [bnT]
  congr 1
  funext q2
  by_cases c1 : h = q2.2.1 22 0 3
  · by_cases c2 : rf = 0
    · simp only [if_pos c1, if_pos c2]
    · simp only [if_pos c1, if_neg c2]
  · by_cases c2 : rf = 0
    · simp only [if_neg c1, if_pos c2]
    · simp only [if_neg c1, if_neg c2]
section DEED
variable {P Bn : Nat} {lf : Option FN}
/-- all but the walk that is on, and scratch -/
def FrD (σ τ : SS) : Prop := (∀ t j k, t ≠ 14 → t ≠ 17 → t ≠ 22 → ¬ (t = 7 ∧ (k = 7 ∨ k = 8 ∨ k = 9 ∨ k = 11)) → ¬ (t = 24 ∧ (k = 4 ∨ k = 5)) → τ.1 t j k = σ.1 t j k) ∧ (∀ t, t ≠ 11 → t ≠ 12 → t ≠ 13 → t ≠ 15 → t ≠ 16 → t ≠ 18 → t ≠ 19 → τ.2.1 t = σ.2.1 t) ∧ τ.2.2 = σ.2.2
def FrE (σ τ : SS) : Prop := (∀ k, ¬ (12 ≤ k ∧ k ≤ 16) → k ≠ 18 → k ≠ 19 → k ≠ 38 → k ≠ 39 → ¬ (23 ≤ k ∧ k ≤ 31) → τ.1 0 0 k = σ.1 0 0 k) ∧ (∀ t, t ≠ 7 → t ≠ 8 → t ≠ 9 → t ≠ 10 → τ.2.1 t = σ.2.1 t) ∧ (∀ t, t ≠ 17 → τ.2.2 t = σ.2.2 t)
theorem FrC.fd {σ τ : SS} (h : FrC σ τ) : FrD σ τ := ⟨fun t j k a b _ c d => h.1 t j k a b c d, h.2.1, h.2.2⟩
theorem FrM.fe {σ τ : SS} (h : FrM σ τ) : FrE σ τ := ⟨fun k a b c d e _ => h.1 0 k a b c d e, h.2.1, h.2.2⟩
theorem FrD.tr {σ τ υ : SS} (h : FrD σ τ) (g : FrD τ υ) : FrD σ υ := ⟨fun t j k a b c d e => (g.1 t j k a b c d e).trans (h.1 t j k a b c d e), fun t a b c d e f i => (g.2.1 t a b c d e f i).trans (h.2.1 t a b c d e f i), g.2.2.trans h.2.2⟩
theorem FrE.tr {σ τ υ : SS} (h : FrE σ τ) (g : FrE τ υ) : FrE σ υ := ⟨fun k a b c d e f => (g.1 k a b c d e f).trans (h.1 k a b c d e f), fun t a b c d => (g.2.1 t a b c d).trans (h.2.1 t a b c d), fun t a => (g.2.2 t a).trans (h.2.2 t a)⟩
theorem FrD.s22 (σ : SS) (k : Nat) (v : Int32) : FrD σ (sI σ 22 0 k v) := ⟨fun t j c _ _ a _ _ => if_neg (fun e => a e.1), fun _ _ _ _ _ _ _ _ => rfl, rfl⟩
theorem FrE.st (σ : SS) {k : Nat} (hk : 23 ≤ k ∧ k ≤ 31) (v : Int32) : FrE σ (sI σ 0 0 k v) := ⟨fun c _ _ _ _ _ a => if_neg (fun e => a (by omega)), fun _ _ _ _ _ => rfl, fun _ _ => rfl⟩
theorem InvK.frD {σC σM τC τM : SS} (h : InvK P Bn lf σC σM) (f : FrD σC τC) (g : FrE σM τM) (d : dR P (τC.1 22 0) (τM.1 0 0 23) (τM.1 0 0 24) (τM.1 0 0 25) (τM.1 0 0 26) (τM.1 0 0 27) (τM.1 0 0 28) (τM.1 0 0 29) (τM.1 0 0 30) (τM.1 0 0 31)) : InvK P Bn lf τC τM := by
  obtain ⟨h1, h2, h3, h4, h5, h6, h7, h8, h9⟩ := h
  obtain ⟨f1, f2, f3⟩ := f
  obtain ⟨g1, g2, g3⟩ := g
  have F : ∀ t j k, t ≠ 14 → t ≠ 17 → t ≠ 22 → t ≠ 7 → t ≠ 24 → τC.1 t j k = σC.1 t j k := fun t j k a b c d e => f1 t j k a b c (fun z => d z.1) (fun z => e z.1)
  have A : ∀ t, t ≠ 11 → t ≠ 12 → t ≠ 13 → t ≠ 15 → t ≠ 16 → t ≠ 18 → t ≠ 19 → τC.2.1 t 0 = σC.2.1 t 0 := fun t a b c d e f i => by rw [f2 t a b c d e f i]
  have B : ∀ t, t ≠ 7 → t ≠ 8 → t ≠ 9 → t ≠ 10 → τM.2.1 t 0 = σM.2.1 t 0 := fun t a b c d => by rw [g2 t a b c d]
  have G : ∀ k, ¬ (12 ≤ k ∧ k ≤ 16) → k ≠ 18 → k ≠ 19 → k ≠ 38 → k ≠ 39 → ¬ (23 ≤ k ∧ k ≤ 31) → τM.1 0 0 k = σM.1 0 0 k := g1
  refine ⟨h1.c (F 1 0 1 (by decide) (by decide) (by decide) (by decide) (by decide)) (G 6 (by decide) (by decide) (by decide) (by decide) (by decide) (by decide)) (G 7 (by decide) (by decide) (by decide) (by decide) (by decide) (by decide)), h2.c (A 2 (by decide) (by decide) (by decide) (by decide) (by decide) (by decide) (by decide)) (B 1 (by decide) (by decide) (by decide) (by decide)), ?_, ?_, ?_, ?_, ?_, ?_, d, ?_⟩
  · exact h3.c (funext fun k => F 3 0 k (by decide) (by decide) (by decide) (by decide) (by decide)) (G 5 (by decide) (by decide) (by decide) (by decide) (by decide) (by decide)) (G 4 (by decide) (by decide) (by decide) (by decide) (by decide) (by decide)) (A 4 (by decide) (by decide) (by decide) (by decide) (by decide) (by decide) (by decide)) (A 5 (by decide) (by decide) (by decide) (by decide) (by decide) (by decide) (by decide)) (A 6 (by decide) (by decide) (by decide) (by decide) (by decide) (by decide) (by decide)) (B 2 (by decide) (by decide) (by decide) (by decide)) (B 3 (by decide) (by decide) (by decide) (by decide)) (B 4 (by decide) (by decide) (by decide) (by decide))
  · exact h4.c (f1 7 0 1 (by decide) (by decide) (by decide) (by decide) (by decide)) (G 9 (by decide) (by decide) (by decide) (by decide) (by decide) (by decide)) (A 8 (by decide) (by decide) (by decide) (by decide) (by decide) (by decide) (by decide)) (B 5 (by decide) (by decide) (by decide) (by decide))
  · exact h5.c (f1 7 0 4 (by decide) (by decide) (by decide) (by decide) (by decide)) (G 11 (by decide) (by decide) (by decide) (by decide) (by decide) (by decide)) (A 9 (by decide) (by decide) (by decide) (by decide) (by decide) (by decide) (by decide)) (A 10 (by decide) (by decide) (by decide) (by decide) (by decide) (by decide) (by decide)) (B 6 (by decide) (by decide) (by decide) (by decide))
  · exact h6.c (funext fun j => funext fun k => F 28 j k (by decide) (by decide) (by decide) (by decide) (by decide)) (by rw [f3]) (B 14 (by decide) (by decide) (by decide) (by decide)) (B 15 (by decide) (by decide) (by decide) (by decide)) (by rw [g3 16 (by decide)])
  · exact h7.c (f1 24 0 1 (by decide) (by decide) (by decide) (by decide) (by decide)) (G 34 (by decide) (by decide) (by decide) (by decide) (by decide) (by decide)) (A 25 (by decide) (by decide) (by decide) (by decide) (by decide) (by decide) (by decide)) (B 12 (by decide) (by decide) (by decide) (by decide))
  · exact h8.c (f1 24 0 3 (by decide) (by decide) (by decide) (by decide) (by decide)) (G 37 (by decide) (by decide) (by decide) (by decide) (by decide) (by decide)) (A 26 (by decide) (by decide) (by decide) (by decide) (by decide) (by decide) (by decide)) (B 13 (by decide) (by decide) (by decide) (by decide))
  · obtain ⟨-, k⟩ := h9
    rw [F 21 0 4 (by decide) (by decide) (by decide) (by decide) (by decide), G 32 (by decide) (by decide) (by decide) (by decide) (by decide) (by decide), show τC.1 23 0 = σC.1 23 0 from funext fun k => F 23 0 k (by decide) (by decide) (by decide) (by decide) (by decide), B 11 (by decide) (by decide) (by decide) (by decide)]
    exact k
/-- a minute of the walk that is on -/
theorem bearJ {M : Nat → Int32} {σC σM : SS} (hC : nmR M P σC) (hl : LCo lf σC) (hM : KM lf M P 0 σM) (hP1 : σC.1 1 0 1 = zI P) (hP6 : σM.1 0 0 6 = zI P) {p k a : Nat} (hp : p < P) (hk : k < 4) (ha : a ≤ 999) {mi : Int32} (c1 : σC.1 22 0 1 = zI p) (c2 : σC.1 22 0 2 = mi) (c4 : σC.1 22 0 4 = zI a) (m23 : σM.1 0 0 23 = zI p) (m24 : σM.1 0 0 24 = mi) (m26 : σM.1 0 0 26 = zI a) (hh : (σM.1 0 0 25 < 0 ∧ σC.1 22 0 3 = zI k) ∨ (¬ σM.1 0 0 25 < 0 ∧ σC.1 22 0 3 = σM.1 0 0 25)) (on : σC.1 22 0 0 = 1) (c5 : σC.1 22 0 5 = σM.1 0 0 27) (c6 : σC.1 22 0 6 = σM.1 0 0 28) (c7 : σC.1 22 0 7 = σM.1 0 0 29) (c8 : σC.1 22 0 8 = σM.1 0 0 30) (c9 : σC.1 22 0 9 = σM.1 0 0 31) (rf : Int32) (hr : rf = 0 ∨ (rf = 1 ∧ p + 1 < P)) : ∃ r τC τM, m_X2_bear (zI k) rf σC = some (r, τC) ∧ m_X11_minuteIs (zI k) rf σM = some (r, τM) ∧ FrD σC τC ∧ FrE σM τM ∧ dR P (τC.1 22 0) (τM.1 0 0 23) (τM.1 0 0 24) (τM.1 0 0 25) (τM.1 0 0 26) (τM.1 0 0 27) (τM.1 0 0 28) (τM.1 0 0 29) (τM.1 0 0 30) (τM.1 0 0 31) := by
  have hP := hC.2.2.2.2
  obtain ⟨s1, s2, s3⟩ := supN hC hl
  have q : ∀ j, (m_X7_supposeNow σC).1 22 0 j = σC.1 22 0 j := fun j => s3.1 22 0 j (by decide) (by decide) (by omega) (by omega)
  obtain ⟨τ, t1, t2, t3⟩ := inM s1 hp hk mi
  obtain ⟨ρ, u1, u2⟩ := stM hM hp (zI k) mi
  obtain ⟨n1, n2⟩ := sN_e lf M (M 84) (M 86) 0 p k mi
  have qt : ∀ j, τ.1 22 0 j = σC.1 22 0 j := fun j => (t3.1 22 0 j (by omega)).trans (q j)
  have qm : ∀ j, ¬ (12 ≤ j ∧ j ≤ 16) → ρ.1 0 0 j = σM.1 0 0 j := fun j hj => u2.1 0 0 j (by omega)
  have eP : τ.1 1 0 1 = zI P := (t3.1 1 0 1 (by omega)).trans ((s3.1 1 0 1 (by decide) (by decide) (by omega) (by omega)).trans hP1)
  have eL : τ.1 14 0 7 = M 85 - 5 * M 86 := (t3.1 14 0 7 (by omega)).trans s2
  have eM : ρ.2.1 1 0 = M := (hM.fr u2).1
  -- the turn
  have tu : ∃ u : Nat, u ≤ 1 ∧ (if zI k = τ.1 22 0 3 then (0 : Int32) else 1) = zI u ∧ (if ρ.1 0 0 25 < 0 then (0 : Int32) else if ρ.1 0 0 25 = zI k then 0 else 1) = zI u := by
    rw [qt, qm 25 (by omega)]
    rcases hh with ⟨x1, x2⟩ | ⟨x1, x2⟩
    · rw [x2, if_pos rfl, if_pos x1]
      exact ⟨0, by omega, rfl, rfl⟩
    · rw [if_neg x1, x2]
      by_cases e : σM.1 0 0 25 = zI k
      · rw [if_pos e.symm, if_pos e]
        exact ⟨0, by omega, rfl, rfl⟩
      · rw [if_neg (fun z => e z.symm), if_neg e]
        exact ⟨1, by omega, rfl, rfl⟩
  obtain ⟨u, hu, tu1, tu2⟩ := tu
  rw [bearE, minE, q, q, q, c1, c2, c4, m23, m24, m26, t1, u1]
  simp only [Option.bind_some]
  rw [tu1, tu2, n1, zI_add, zI_add, zI_add, zI_add, Nat.add_assoc]
  have hA : a + (sN lf M (M 84) (M 86) 0 p k mi + u) ≤ 2000 := by omega
  generalize a + (sN lf M (M 84) (M 86) 0 p k mi + u) = A at hA
  have lim9 : (M 85 - 5 * M 86).toInt ≤ 999 := by
    have o1 := hC.2.2.2.1 1 (by omega)
    have o2 := hC.2.2.2.1 2 (by omega)
    obtain ⟨S, hS, eS⟩ := rng (x := M 85) (b := 999) o1.1 o1.2
    obtain ⟨T, hT, eT⟩ := rng (x := M 86) (b := 99) o2.1 o2.2
    rw [eS, eT, i5, zI_mul, zsub (by omega) (by omega)]
    omega
  -- the end of the minute
  have fin : ∀ (R : Nat) (ρ' : SS), R ≤ 2000 → (∀ j, ¬ (12 ≤ j ∧ j ≤ 16) → j ≠ 26 → ρ'.1 0 0 j = σM.1 0 0 j) → ρ'.1 0 0 26 = zI R → ρ'.2.1 1 0 = M → FrE ρ ρ' → ∃ r τC τM, finC rf (zI k) (zI R) τ = some (r, τC) ∧ finM rf (zI k) (zI R) ρ ρ' = some (r, τM) ∧ FrD σC τC ∧ FrE σM τM ∧ dR P (τC.1 22 0) (τM.1 0 0 23) (τM.1 0 0 24) (τM.1 0 0 25) (τM.1 0 0 26) (τM.1 0 0 27) (τM.1 0 0 28) (τM.1 0 0 29) (τM.1 0 0 30) (τM.1 0 0 31) := by
    intro R ρ' hR z1 z2 z3 z4
    have fD : FrD σC τ := (s3.tr t3.fc).fd
    have fE : FrE σM ρ' := u2.fm.fe.tr z4
    have eb : m_X11_bears (sI ρ' 0 0 25 (zI k)) = M 85 - 5 * M 86 := brs z3
    have et : m_X7_isTooMuch (zI R) (sI (sI τ 22 0 3 (zI k)) 22 0 4 (zI R)) = if zI R ≤ M 85 - 5 * M 86 then 0 else 1 := by
      unfold m_X7_isTooMuch
      rw [show (sI (sI τ 22 0 3 (zI k)) 22 0 4 (zI R)).1 14 0 7 = τ.1 14 0 7 from rfl, eL]
    unfold finC finM
    rw [et, eb]
    have kk : 0 ≤ (zI k).toInt := by rw [zI_toInt (by omega)]; omega
    by_cases c : zI R ≤ M 85 - 5 * M 86
    · have hR9 : R ≤ 999 := by
        have := Int32.le_iff_toInt_le.mp c
        rw [zI_toInt (by omega)] at this
        omega
      rw [if_pos c, if_pos c, if_pos (show (0 : Int32) = 0 from rfl)]
      -- it goes on
      have stay : p + 1 < P → ∃ r τC τM, some ((1 : Int32), sI (sI τ 22 0 3 (zI k)) 22 0 4 (zI R)) = some (r, τC) ∧ some ((1 : Int32), sI ρ' 0 0 25 (zI k)) = some (r, τM) ∧ FrD σC τC ∧ FrE σM τM ∧ dR P (τC.1 22 0) (τM.1 0 0 23) (τM.1 0 0 24) (τM.1 0 0 25) (τM.1 0 0 26) (τM.1 0 0 27) (τM.1 0 0 28) (τM.1 0 0 29) (τM.1 0 0 30) (τM.1 0 0 31) := fun hlt => by
        refine ⟨1, _, _, rfl, rfl, (fD.tr (FrD.s22 _ _ _)).tr (FrD.s22 _ _ _), fE.tr (FrE.st _ (by omega) _), Or.inl ⟨?_, p, R, hlt, hR9, ?_, ?_, ?_, rfl, kk, rfl, ?_⟩, ?_, ?_, ?_, ?_, ?_⟩
        · show τ.1 22 0 0 = 1; rw [qt, on]
        · show τ.1 22 0 1 = _; rw [qt, c1]
        · show ρ'.1 0 0 23 = _; rw [z1 23 (by omega) (by omega), m23]
        · show τ.1 22 0 2 = ρ'.1 0 0 24; rw [qt, c2, z1 24 (by omega) (by omega), m24]
        · show ρ'.1 0 0 26 = _; exact z2
        · show τ.1 22 0 5 = ρ'.1 0 0 27; rw [qt, c5, z1 27 (by omega) (by omega)]
        · show τ.1 22 0 6 = ρ'.1 0 0 28; rw [qt, c6, z1 28 (by omega) (by omega)]
        · show τ.1 22 0 7 = ρ'.1 0 0 29; rw [qt, c7, z1 29 (by omega) (by omega)]
        · show τ.1 22 0 8 = ρ'.1 0 0 30; rw [qt, c8, z1 30 (by omega) (by omega)]
        · show τ.1 22 0 9 = ρ'.1 0 0 31; rw [qt, c9, z1 31 (by omega) (by omega)]
      have ep : (zI p = zI P - 1) ↔ p + 1 = P := by rw [i1, zI_sub (by omega), zI_eq (by omega) (by omega)]; omega
      rw [qt 1, c1, eP, qm 23 (by omega), m23, qm 6 (by omega), hP6, qm 31 (by omega), qm 27 (by omega)]
      rcases hr with rfl | ⟨rfl, hlt⟩
      · rw [if_pos (show (0 : Int32) = 0 from rfl)]
        by_cases e : p + 1 = P
        · rw [if_pos (ep.mpr e), if_pos (ep.mpr e), if_pos (show (0 : Int32) = 0 from rfl)]
          -- it arrives
          have eA : m_X2_arrive (sI (sI τ 22 0 3 (zI k)) 22 0 4 (zI R)) = if σM.1 0 0 31 = -2000000000 then (sI (sI (sI (sI (sI τ 22 0 3 (zI k)) 22 0 4 (zI R)) 22 0 0 0) 22 0 5 (σM.1 0 0 27 + 1)) 22 0 9 (M 85 - 5 * M 86 - zI R)) else if σM.1 0 0 31 ≤ M 85 - 5 * M 86 - zI R then (sI (sI (sI (sI τ 22 0 3 (zI k)) 22 0 4 (zI R)) 22 0 0 0) 22 0 5 (σM.1 0 0 27 + 1)) else (sI (sI (sI (sI (sI τ 22 0 3 (zI k)) 22 0 4 (zI R)) 22 0 0 0) 22 0 5 (σM.1 0 0 27 + 1)) 22 0 9 (M 85 - 5 * M 86 - zI R)) := by
            unfold m_X2_arrive m_X7_left
            rw [show (sI (sI τ 22 0 3 (zI k)) 22 0 4 (zI R)).1 22 0 9 = τ.1 22 0 9 from rfl, show (sI (sI τ 22 0 3 (zI k)) 22 0 4 (zI R)).1 14 0 7 = τ.1 14 0 7 from rfl, show (sI (sI τ 22 0 3 (zI k)) 22 0 4 (zI R)).1 22 0 4 = zI R from rfl, show (sI (sI τ 22 0 3 (zI k)) 22 0 4 (zI R)).1 22 0 5 = τ.1 22 0 5 from rfl, eL, qt 9, c9, qt 5, c5]
          have fD2 : ∀ v, FrD σC (sI (sI (sI (sI τ 22 0 3 (zI k)) 22 0 4 (zI R)) 22 0 0 0) 22 0 5 v) := fun v => (((fD.tr (FrD.s22 _ _ _)).tr (FrD.s22 _ _ _)).tr (FrD.s22 _ _ _)).tr (FrD.s22 _ _ _)
          have fE2 : ∀ v w, FrE σM (sI (sI (sI (sI ρ' 0 0 25 (zI k)) 0 0 27 v) 0 0 31 w) 0 0 23 (-1)) := fun v w => (((fE.tr (FrE.st _ (by omega) _)).tr (FrE.st _ (by omega) _)).tr (FrE.st _ (by omega) _)).tr (FrE.st _ (by omega) _)
          have o6 : τ.1 22 0 6 = ρ'.1 0 0 28 := by rw [qt, c6, z1 28 (by omega) (by omega)]
          have o7 : τ.1 22 0 7 = ρ'.1 0 0 29 := by rw [qt, c7, z1 29 (by omega) (by omega)]
          have o8 : τ.1 22 0 8 = ρ'.1 0 0 30 := by rw [qt, c8, z1 30 (by omega) (by omega)]
          rw [eA]
          by_cases f : σM.1 0 0 31 = -2000000000
          · rw [if_pos f, if_pos f]
            exact ⟨1, _, _, rfl, rfl, (fD2 _).tr (FrD.s22 _ _ _), fE2 _ _, Or.inr ⟨rfl, rfl⟩, rfl, o6, o7, o8, rfl⟩
          · rw [if_neg f, if_neg f]
            by_cases g : σM.1 0 0 31 ≤ M 85 - 5 * M 86 - zI R
            · rw [if_pos g, if_pos g]
              exact ⟨1, _, _, rfl, rfl, fD2 _, fE2 _ _, Or.inr ⟨rfl, rfl⟩, rfl, o6, o7, o8, (qt 9).trans c9⟩
            · rw [if_neg g, if_neg g]
              exact ⟨1, _, _, rfl, rfl, (fD2 _).tr (FrD.s22 _ _ _), fE2 _ _, Or.inr ⟨rfl, rfl⟩, rfl, o6, o7, o8, rfl⟩
        · rw [if_neg (fun z => e (ep.mp z)), if_neg (fun z => e (ep.mp z))]
          exact stay (by omega)
      · rw [if_neg (show ¬ (1 : Int32) = 0 by decide), if_neg (show ¬ (zI p = zI P - 1) from fun z => by have := ep.mp z; omega)]
        exact stay hlt
    · rw [if_neg c, if_neg c, if_neg (show ¬ (1 : Int32) = 0 by decide)]
      refine ⟨0, _, _, rfl, rfl, (((fD.tr (FrD.s22 _ _ _)).tr (FrD.s22 _ _ _)).tr (FrD.s22 _ _ _)).tr (FrD.s22 _ _ _), ((fE.tr (FrE.st _ (by omega) _)).tr (FrE.st _ (by omega) _)).tr (FrE.st _ (by omega) _), Or.inr ⟨rfl, rfl⟩, ?_, ?_, ?_, ?_, ?_⟩
      · show τ.1 22 0 5 = ρ'.1 0 0 27; rw [qt, c5, z1 27 (by omega) (by omega)]
      · show τ.1 22 0 6 + 1 = ρ.1 0 0 28 + 1; rw [qt, c6, qm 28 (by omega)]
      · show τ.1 22 0 7 = ρ'.1 0 0 29; rw [qt, c7, z1 29 (by omega) (by omega)]
      · show τ.1 22 0 8 = ρ'.1 0 0 30; rw [qt, c8, z1 30 (by omega) (by omega)]
      · show τ.1 22 0 9 = ρ'.1 0 0 31; rw [qt, c9, z1 31 (by omega) (by omega)]
  have r1 : ∀ R : Nat, ∀ j, ¬ (12 ≤ j ∧ j ≤ 16) → j ≠ 26 → (sI ρ 0 0 26 (zI R)).1 0 0 j = σM.1 0 0 j := fun R j a b => by rw [sI_g, if_neg b, qm j a]
  have r2 : ∀ R S : Nat, ∀ j, ¬ (12 ≤ j ∧ j ≤ 16) → j ≠ 26 → (sI (sI ρ 0 0 26 (zI R)) 0 0 26 (zI S)).1 0 0 j = σM.1 0 0 j := fun R S j a b => by rw [sI_g, if_neg b, r1 R j a b]
  unfold midC midM
  rcases hr with hr0 | ⟨hr1, hlt⟩
  · rw [if_pos hr0, if_pos hr0]
    exact fin A _ hA (r1 A) rfl eM (FrE.st _ (by omega) _)
  · have r0 : ¬ rf = 0 := by rw [hr1]; decide
    have eW : m_X8_windIn (zI p) mi τ = wdT M 0 p mi := winC t2.1 hp mi
    have eV : m_X11_windAt (zI p) mi (sI ρ 0 0 26 (zI A)) = some (wdT M 0 p mi) := by
      rw [winM2 hM.2.2.2 (σ := sI ρ 0 0 26 (zI A)) eM hp mi, show (sI ρ 0 0 26 (zI A)).1 0 0 7 = ρ.1 0 0 7 from rfl, qm 7 (by omega), hM.2.2.1]
    rw [if_neg r0, if_neg r0, qt 1, qt 2, c1, c2, eW, qm 23 (by omega), qm 24 (by omega), m23, m24, eV]
    simp only [Option.bind_some]
    by_cases w0 : wdT M 0 p mi = 0
    · rw [if_pos w0, if_pos w0]
      by_cases a3 : A ≤ 3
      · have e1 : (if (0 : Int32) < zI A - 3 then zI A - 3 else 0) = zI 0 := if_neg (fun z => by
          have := Int32.lt_iff_toInt_lt.mp z
          rw [i3, zsub (by omega) (by omega), show (0 : Int32).toInt = 0 from rfl] at this
          omega)
        rw [e1, if_pos (show zI A ≤ 3 by rw [i3, zI_le (by omega) (by omega)]; exact a3)]
        exact fin 0 _ (by omega) (r2 A 0) rfl eM ((FrE.st _ (by omega) _).tr (FrE.st _ (by omega) _))
      · have e1 : (if (0 : Int32) < zI A - 3 then zI A - 3 else 0) = zI (A - 3) := by
          rw [i3, zI_sub (by omega), if_pos (by rw [i0, zI_lt (by omega) (by omega)]; omega)]
        rw [e1, if_neg (show ¬ zI A ≤ 3 by rw [i3, zI_le (by omega) (by omega)]; omega), i3, zI_sub (by omega)]
        exact fin (A - 3) _ (by omega) (r2 A (A - 3)) rfl eM ((FrE.st _ (by omega) _).tr (FrE.st _ (by omega) _))
    · rw [if_neg w0, if_neg w0]
      exact fin A _ hA (r1 A) rfl eM (FrE.st _ (by omega) _)
end DEED
