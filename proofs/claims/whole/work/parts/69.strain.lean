/-! strain: class and model -/
section D6S
variable {bt : Nat → Int32}
def D6 (f : FN) : Prop := ∀ ν ν' : Nat → Int32, (∀ k, k < 6 → ν k = ν' k) → f ν = f ν'
def D6L (g : LN) : Prop := ∀ ν ν' : Nat → Int32, (∀ k, k < 6 → ν k = ν' k) → g ν = g ν'
def DPx (x : PR) : Prop := match x with
  | .inl _ => True
  | .inr q => D6 q.2.2
theorem DPx.bd {x : PR} {f : Nat → CD → FN → PR} (h : DPx x) (hf : ∀ a c g, D6 g → DPx (f a c g)) : DPx (pBd x f) := by
  cases x with
  | inl e => trivial
  | inr q => exact hf _ _ _ h
theorem d6_atom {a : Nat} {els : PR} (h : DPx els) : DPx (pAtom bt a els) := by
  unfold pAtom
  by_cases c : m_X3_isDigit (bt a) = 0
  · rw [if_pos c]
    by_cases d : m_X3_nameOf (bt a) < 0
    · rw [if_pos d]; exact h
    · rw [if_neg d]
      rcases nmV (bt a) with e | ⟨-, k, hk, e⟩
      · rw [e] at d
        exact absurd (by decide) d
      · intro ν ν' hν
        show ν (m_X3_nameOf (bt a)).toNatClampNeg = ν' (m_X3_nameOf (bt a)).toNatClampNeg
        rw [e, zI_cl (by omega)]
        exact hν k hk
  · rw [if_neg c]
    exact fun _ _ _ => rfl
theorem d6_loop {sub : Nat → PR} (hs : ∀ a, DPx (sub a)) {lv : Int32} : ∀ (n a : Nat) (c : CD) (f : FN), D6 f → DPx (pLoop bt sub lv n a c f)
  | 0, a, c, f, h => h
  | n + 1, a, c, f, h => by
    unfold pLoop
    by_cases e : m_X3_levelOf (bt a) = lv
    · rw [if_pos e]
      refine (hs (a + 1)).bd (fun a' c' g hg => ?_)
      have : D6 (fun ν => m_X3_both (bt a) (f ν) (g ν)) := fun ν ν' hν => by
        show m_X3_both (bt a) (f ν) (g ν) = m_X3_both (bt a) (f ν') (g ν')
        rw [h ν ν' hν, hg ν ν' hν]
      by_cases d : lv = 2
      · rw [if_pos d]
        exact this
      · rw [if_neg d]
        exact d6_loop hs n a' _ _ this
    · rw [if_neg e]
      exact h
theorem d6_K {op : Nat → PR} (hs : ∀ a, DPx (op a)) : ∀ (j a : Nat), DPx (pK bt op j a)
  | 0, a => hs a
  | j + 1, a => (d6_K hs j a).bd (fun a' c g hg => d6_loop (fun a => d6_K hs j a) 120 a' c g hg)
theorem d6_Op : ∀ (d a : Nat), DPx (pOp bt d a)
  | 0, a => d6_atom trivial
  | d + 1, a => by
    refine d6_atom ?_
    by_cases c1 : bt a = 33
    · rw [if_pos c1]
      refine (d6_Op d (a + 1)).bd (fun a' c g hg ν ν' hν => ?_)
      show (if g ν = 0 then (1 : Int32) else 0) = if g ν' = 0 then 1 else 0
      rw [hg ν ν' hν]
    · rw [if_neg c1]
      by_cases c2 : bt a = 45
      · rw [if_pos c2]
        refine (d6_Op d (a + 1)).bd (fun a' c g hg ν ν' hν => ?_)
        show - g ν = - g ν'
        rw [hg ν ν' hν]
      · rw [if_neg c2]
        by_cases c3 : bt a = 40
        · rw [if_pos c3]
          refine (d6_K (fun a => d6_Op d a) 5 (a + 1)).bd (fun a' c g hg => ?_)
          by_cases c4 : bt a' = 41
          · rw [if_pos c4]
            exact hg
          · rw [if_neg c4]
            trivial
        · rw [if_neg c3]
          trivial
def DQ (x : QR) : Prop := match x with
  | .inl _ => True
  | .inr q => D6L q.2.2
theorem d6_line (a : Nat) : DQ (pLine bt a) := by
  unfold pLine
  have h : ∀ a, DPx (pE bt a) := fun a => d6_K (fun a => d6_Op 6 a) 5 a
  have h1 := h a
  cases hx : pE bt a with
  | inl e => trivial
  | inr q =>
    rw [hx] at h1
    show DQ (if _ then _ else _)
    by_cases c : bt q.1 = 63
    · rw [if_pos c]
      have h2 := h (q.1 + 1)
      cases hy : pE bt (q.1 + 1) with
      | inl e => trivial
      | inr r =>
        rw [hy] at h2
        intro ν ν' hν
        show (if q.2.2 ν = 0 then none else some (r.2.2 ν)) = if q.2.2 ν' = 0 then none else some (r.2.2 ν')
        rw [h1 ν ν' hν, h2 ν ν' hν]
    · rw [if_neg c]
      intro ν ν' hν
      show some (q.2.2 ν) = some (q.2.2 ν')
      rw [h1 ν ν' hν]
theorem d6_tx : ∀ (n a : Nat) (c : CD) (g : LN), D6L g → DQ (pTx bt n a c g)
  | 0, a, c, g, h => h
  | n + 1, a, c, g, h => by
    unfold pTx
    by_cases e : bt a = 59
    · rw [if_pos e]
      have h2 := d6_line (bt := bt) (a + 1)
      cases hx : pLine bt (a + 1) with
      | inl e => trivial
      | inr q =>
        rw [hx] at h2
        refine d6_tx n q.1 _ _ (fun ν ν' hν => ?_)
        unfold lnOr
        rw [h ν ν' hν, h2 ν ν' hν]
    · rw [if_neg e]
      exact h
theorem d6_text {N : Nat} {c : CD} {f : FN} (h : pText bt N = .inr (c, f)) : D6 f := by
  unfold pText at h
  have hL := d6_line (bt := bt) 0
  cases hx : pLine bt 0 with
  | inl e =>
    rw [hx] at h
    cases h
  | inr q =>
    rw [hx] at h hL
    have hT := d6_tx (bt := bt) 120 q.1 q.2.1 q.2.2 hL
    have h : qBd (pTx bt 120 q.1 q.2.1 q.2.2) (fun a' c' g' => if a' < N then .inl a' else .inr (c', fun ν => (g' ν).getD 0)) = .inr (c, f) := h
    cases hy : pTx bt 120 q.1 q.2.1 q.2.2 with
    | inl e =>
      rw [hy] at h
      cases h
    | inr p =>
      rw [hy] at h hT
      have h : (if p.1 < N then .inl p.1 else .inr (p.2.1, fun ν => (p.2.2 ν).getD 0) : Nat ⊕ (CD × FN)) = .inr (c, f) := h
      by_cases k : p.1 < N
      · rw [if_pos k] at h
        cases h
      · rw [if_neg k] at h
        cases h
        intro ν ν' hν
        show (p.2.2 ν).getD 0 = (p.2.2 ν').getD 0
        rw [hT ν ν' hν]
end D6S
def clV (v : Int32) : Int32 := if 0 ≤ v then (if v ≤ 99 then v else 99) else 0
theorem clC (v : Int32) : (if (0 : Int32) < (if v < 99 then v else 99) then (if v < 99 then v else 99) else 0) = clV v := by
  unfold clV
  by_cases c : v < 99
  · rw [if_pos c]
    by_cases d : 0 < v
    · rw [if_pos d, if_pos (Int32.le_of_lt d), if_pos (Int32.le_of_lt c)]
    · rw [if_neg d]
      by_cases e : 0 ≤ v
      · rw [if_pos e, if_pos (Int32.le_of_lt c)]
        exact Int32.le_antisymm e (Int32.not_lt.mp d)
      · rw [if_neg e]
  · rw [if_neg c, if_pos (show (0 : Int32) < 99 by decide)]
    have c' := Int32.not_lt.mp c
    rw [if_pos (Int32.le_trans (show (0 : Int32) ≤ 99 by decide) c')]
    by_cases e : v ≤ 99
    · rw [if_pos e]
      exact Int32.le_antisymm c' e
    · rw [if_neg e]
theorem clV_r (v : Int32) : ∃ n, n ≤ 99 ∧ clV v = zI n := by
  unfold clV
  by_cases c : 0 ≤ v
  · rw [if_pos c]
    by_cases d : v ≤ 99
    · rw [if_pos d]
      have c' := Int32.le_iff_toInt_le.mp c
      have d' := Int32.le_iff_toInt_le.mp d
      rw [show (0 : Int32).toInt = 0 from rfl] at c'
      rw [show (99 : Int32).toInt = 99 from rfl] at d'
      exact rng (b := 99) c' d'
    · rw [if_neg d]
      exact ⟨99, by omega, rfl⟩
  · rw [if_neg c]
    exact ⟨0, by omega, rfl⟩
def nms (w h men kerb scr : Int32) (p : Nat) (i : Nat) : Int32 := if i = 0 then w else if i = 1 then h else if i = 2 then men else if i = 3 then kerb else if i = 4 then scr else zI p
def sTv (lf : Option FN) (kerb men scr : Int32) (p : Nat) (h w : Int32) : Int32 := clV (match lf with
  | none => w * h / men + kerb + (if h = 0 then w / 4 else 0)
  | some f => f (nms w h men kerb scr p))
def sT (lf : Option FN) (M : Nat → Int32) (men scr mg : Int32) (p : Nat) (h m : Int32) : Int32 := sTv lf (M (48 + p)) men scr p h (wdT M mg p m)
def LCo (lf : Option FN) (σ : SS) : Prop := match lf with
  | none => σ.1 7 0 4 = 0
  | some f => ∃ (N : Nat) (bt : Nat → Int32) (c : CD), pText bt N = .inr (c, f) ∧ 0 < c.length ∧ c.length ≤ 128 ∧ σ.1 7 0 4 = zI c.length ∧ cdAt c (σ.2.1 9 0) (σ.2.1 10 0)
def LMo (lf : Option FN) (σ : SS) : Prop := match lf with
  | none => σ.1 0 0 11 = -1
  | some f => ∃ (N : Nat) (c : CD), N ≤ 120 ∧ σ.1 0 0 11 = zI N ∧ pText (btA (σ.2.1 6 0) N) N = .inr (c, f)
theorem IvL.lc {lf : Option FN} {σC σM : SS} (h : IvL lf σC σM) : LCo lf σC := by
  cases lf with
  | none => exact h.1
  | some f =>
    obtain ⟨N, c, h1, h2, h3, h4⟩ := h
    exact ⟨N, _, c, h3, h4⟩
theorem IvL.lm {lf : Option FN} {σC σM : SS} (h : IvL lf σC σM) : LMo lf σM := by
  cases lf with
  | none => exact h.2
  | some f =>
    obtain ⟨N, c, h1, h2, h3, h4⟩ := h
    exact ⟨N, c, h1, h2, h3⟩
section STR
variable {lf : Option FN} {M : Nat → Int32} {P : Nat} {men scr mg : Int32}
/-- the class's frame of a strain asked for -/
def FrS (σ τ : SS) : Prop := (∀ t j k, ¬ (t = 7 ∧ k = 11) → τ.1 t j k = σ.1 t j k) ∧ (∀ t, t ≠ 13 → t ≠ 15 → t ≠ 16 → τ.2.1 t = σ.2.1 t) ∧ τ.2.2 = σ.2.2
theorem FrS.rf (σ : SS) : FrS σ σ := ⟨fun _ _ _ _ => rfl, fun _ _ _ _ => rfl, rfl⟩
theorem FrS.tr {σ τ υ : SS} (h : FrS σ τ) (g : FrS τ υ) : FrS σ υ := ⟨fun t j k a => (g.1 t j k a).trans (h.1 t j k a), fun t a b c => (g.2.1 t a b c).trans (h.2.1 t a b c), g.2.2.trans h.2.2⟩
theorem FrS.fc {σ τ : SS} (h : FrS σ τ) : FrC σ τ := ⟨fun t j k a b c d => h.1 t j k (by omega), fun t a b c d e f g => h.2.1 t c d e, h.2.2⟩
theorem FrX.fs {σ τ : SS} (h : FrX σ τ) : FrS σ τ := ⟨h.1, fun t a _ _ => h.2.1 t a, h.2.2⟩
def gv (M : Nat → Int32) (mg : Int32) (p g : Nat) : Int32 := if g = 0 then M (12 + p) else M p + mg
def KC (lf : Option FN) (M : Nat → Int32) (P : Nat) (men scr mg : Int32) (σ : SS) : Prop := nmR M P σ ∧ LCo lf σ ∧ 0 < men.toInt ∧ σ.1 14 0 4 = men ∧ σ.1 14 0 5 = scr ∧ σ.1 14 0 6 = mg ∧ ∀ p h g, p < P → h < 4 → g < 2 → σ.2.1 16 0 ((p * 4 + h) * 2 + g) = -1 ∨ σ.2.1 16 0 ((p * 4 + h) * 2 + g) = sTv lf (M (48 + p)) men scr p (zI h) (gv M mg p g)
theorem LCo.c {σ τ : SS} (h : LCo lf σ) (e : τ.1 7 0 4 = σ.1 7 0 4) (a : τ.2.1 9 0 = σ.2.1 9 0) (b : τ.2.1 10 0 = σ.2.1 10 0) : LCo lf τ := by
  unfold LCo at *
  rw [e, a, b]
  exact h
theorem nmR.c {σ τ : SS} (h : nmR M P σ) (a : τ.2.1 2 0 = σ.2.1 2 0) : nmR M P τ := by
  unfold nmR at *
  rw [a]
  exact h
theorem kerC {σ : SS} (h : nmR M P σ) {p : Nat} (hp : p < P) : m_X8_number (zI p) 4 σ = M (48 + p) := (numC (w := 4) (by have := h.2.2.2.2; omega) (by omega) σ).trans (h.1 p 4 (by have := h.2.2.2.2; omega) (by omega))
theorem worked {σ : SS} (h : KC lf M P men scr mg σ) {p k : Nat} (hp : p < P) (hk : k < 4) (w : Int32) : ∃ τ, m_X7_workedOut (zI p) (zI k) w σ = some (sTv lf (M (48 + p)) men scr p (zI k) w, τ) ∧ FrS σ τ ∧ τ.2.1 16 = σ.2.1 16 := by
  obtain ⟨h1, h2, h3, h4, h5, h6, h7⟩ := h
  have eK := kerC h1 hp
  have hP := h1.2.2.2.2
  have k0 : zI k = 0 ↔ k = 0 := by rw [i0, zI_eq (by omega) (by omega)]
  unfold m_X7_workedOut m_X3_isTold
  cases lf with
  | none =>
    have h2 : σ.1 7 0 4 = 0 := h2
    rw [h2, if_pos (show (0 : Int32) ≤ 0 by decide), if_pos (show (0 : Int32) = 0 from rfl), h4, if_neg (nle_of h3), eK]
    have cm : M (48 + p) + w * zI k / men = w * zI k / men + M (48 + p) := Int32.add_comm _ _
    unfold sTv
    by_cases c : zI k = 0
    · rw [if_pos c, clC, cm]
      show ∃ τ, _ = some (clV (w * zI k / men + M (48 + p) + if zI k = 0 then w / 4 else 0), τ) ∧ _
      rw [if_pos c]
      exact ⟨σ, rfl, FrS.rf σ, rfl⟩
    · rw [if_neg c, clC, cm]
      show ∃ τ, _ = some (clV (w * zI k / men + M (48 + p) + if zI k = 0 then w / 4 else 0), τ) ∧ _
      rw [if_neg c]
      exact ⟨σ, rfl, FrS.rf σ, rfl⟩
  | some f =>
    obtain ⟨N, bt, c, t1, t2, t3, t4, t5⟩ := h2
    rw [t4, if_neg (show ¬ zI c.length ≤ 0 by rw [i0, zI_le (by omega) (by omega)]; omega), if_neg (show ¬ (1 : Int32) = 0 by decide), h4, h5, eK]
    generalize hρ : (sA (sA (sA (sA (sA (sA σ 15 0 (0 : Int32).toNatClampNeg w) 15 0 (1 : Int32).toNatClampNeg (zI k)) 15 0 (2 : Int32).toNatClampNeg men) 15 0 (3 : Int32).toNatClampNeg (M (48 + p))) 15 0 (4 : Int32).toNatClampNeg scr) 15 0 (5 : Int32).toNatClampNeg (zI p)) = ρ
    have r1 : ρ.1 = σ.1 := by rw [← hρ]; rfl
    have r2 : ∀ t, t ≠ 15 → ρ.2.1 t = σ.2.1 t := fun t ht => by rw [← hρ, sA_o ht, sA_o ht, sA_o ht, sA_o ht, sA_o ht, sA_o ht]
    have r3 : ρ.2.2 = σ.2.2 := by rw [← hρ]; rfl
    have r4 : ∀ i, i < 6 → ρ.2.1 15 0 i = nms w (zI k) men (M (48 + p)) scr p i := fun i hi => by
      rw [← hρ, sA_g, sA_g, sA_g, sA_g, sA_g, sA_g]
      have : i = 0 ∨ i = 1 ∨ i = 2 ∨ i = 3 ∨ i = 4 ∨ i = 5 := by omega
      rcases this with rfl | rfl | rfl | rfl | rfl | rfl <;> rfl
    obtain ⟨τ, w1, w2⟩ := worth_ok t1 ρ (by rw [r1]; exact t4) t3 (by rw [r2 9 (by decide), r2 10 (by decide)]; exact t5)
    rw [w1]
    simp only [Option.bind_some]
    rw [clC]
    refine ⟨τ, ?_, ⟨fun t j k hk => (w2.1 t j k hk).trans (by rw [r1]), fun t a b c => (w2.2.1 t a).trans (r2 t b), w2.2.2.trans r3⟩, (w2.2.1 16 (by decide)).trans (r2 16 (by decide))⟩
    show some (clV (f (ρ.2.1 15 0)), τ) = some (clV (f (nms w (zI k) men (M (48 + p)) scr p)), τ)
    rw [d6_text t1 (ρ.2.1 15 0) _ r4]
theorem KC.fr {σ τ : SS} (h : KC lf M P men scr mg σ) (f : FrS σ τ) (hc : ∀ p h g, p < P → h < 4 → g < 2 → τ.2.1 16 0 ((p * 4 + h) * 2 + g) = -1 ∨ τ.2.1 16 0 ((p * 4 + h) * 2 + g) = sTv lf (M (48 + p)) men scr p (zI h) (gv M mg p g)) : KC lf M P men scr mg τ := by
  obtain ⟨h1, h2, h3, h4, h5, h6, h7⟩ := h
  exact ⟨h1.c (by rw [f.2.1 2 (by decide) (by decide) (by decide)]), h2.c (f.1 7 0 4 (by omega)) (by rw [f.2.1 9 (by decide) (by decide) (by decide)]) (by rw [f.2.1 10 (by decide) (by decide) (by decide)]), h3, (f.1 14 0 4 (by omega)).trans h4, (f.1 14 0 5 (by omega)).trans h5, (f.1 14 0 6 (by omega)).trans h6, hc⟩
theorem inM {σ : SS} (h : KC lf M P men scr mg σ) {p k : Nat} (hp : p < P) (hk : k < 4) (m : Int32) : ∃ τ, m_X7_inMinute (zI p) (zI k) m σ = some (sT lf M men scr mg p (zI k) m, τ) ∧ KC lf M P men scr mg τ ∧ FrS σ τ := by
  have hP := h.1.2.2.2.2
  have eG := gusC h.1 hp m
  have e0 : m_X8_number (zI p) 0 σ = M p := (numC (w := 0) (by omega) (by omega) σ).trans ((h.1.1 p 0 (by omega) (by omega)).trans (by rw [Nat.mul_zero, Nat.zero_add]))
  have e1 : m_X8_number (zI p) 1 σ = M (12 + p) := (numC (w := 1) (by omega) (by omega) σ).trans (h.1.1 p 1 (by omega) (by omega))
  have ix : ∀ g : Nat, g < 2 → (zI p * 4 + zI k) * 2 + zI g = zI ((p * 4 + k) * 2 + g) := fun g hg => by
    rw [i4, i2, zI_mul, zI_add, zI_mul, zI_add]
  have ix0 : (zI p * 4 + zI k) * 2 + 0 = zI ((p * 4 + k) * 2 + 0) := ix 0 (by omega)
  have ix1 : (zI p * 4 + zI k) * 2 + 1 = zI ((p * 4 + k) * 2 + 1) := ix 1 (by omega)
  have key : ∀ (g : Nat) (w : Int32), g < 2 → w = gv M mg p g → ∃ τ, (if σ.2.1 16 0 ((p * 4 + k) * 2 + g) = -1 then Option.bind (m_X7_workedOut (zI p) (zI k) w σ) (fun q7 => some (((sA q7.2 16 0 ((p * 4 + k) * 2 + g) q7.1).2.1 16 0 ((p * 4 + k) * 2 + g)), (sA q7.2 16 0 ((p * 4 + k) * 2 + g) q7.1))) else some (σ.2.1 16 0 ((p * 4 + k) * 2 + g), σ)) = some (sTv lf (M (48 + p)) men scr p (zI k) (gv M mg p g), τ) ∧ KC lf M P men scr mg τ ∧ FrS σ τ := by
    intro g w hg hw
    subst hw
    by_cases c : σ.2.1 16 0 ((p * 4 + k) * 2 + g) = -1
    · rw [if_pos c]
      obtain ⟨τ, t1, t2, t3⟩ := worked h hp hk (gv M mg p g)
      rw [t1]
      simp only [Option.bind_some]
      rw [sA_g, if_pos rfl]
      have f : FrS σ (sA τ 16 0 ((p * 4 + k) * 2 + g) (sTv lf (M (48 + p)) men scr p (zI k) (gv M mg p g))) := ⟨t2.1, fun t a b c => by rw [sA_o c]; exact t2.2.1 t a b c, t2.2.2⟩
      refine ⟨_, rfl, h.fr f (fun p' h' g' hp' hh' hg' => ?_), f⟩
      rw [sA_g]
      by_cases e : (p' * 4 + h') * 2 + g' = (p * 4 + k) * 2 + g
      · rw [if_pos e]
        have : p' = p ∧ h' = k ∧ g' = g := by omega
        obtain ⟨rfl, rfl, rfl⟩ := this
        exact Or.inr rfl
      · rw [if_neg e, t3]
        exact h.2.2.2.2.2.2 p' h' g' hp' hh' hg'
    · rw [if_neg c, (h.2.2.2.2.2.2 p k g hp hk hg).resolve_left c]
      exact ⟨σ, rfl, h, FrS.rf σ⟩
  unfold m_X7_inMinute sT wdT
  unfold gsT at eG
  rw [ix0, ix1]
  by_cases c : M (36 + p) ≤ m - m / M (24 + p) * M (24 + p)
  · rw [if_pos (eG.mpr (fun z => z c)), if_pos c, if_neg (zI_ge (by omega)), if_neg (by rw [i4, zI_le (by omega) (by omega)]; omega), if_neg (zI_ge (by omega)), if_pos (by rw [i96, zI_lt (by omega) (by omega)]; omega), zI_cl (by omega), e1]
    exact key 0 _ (by omega) rfl
  · rw [if_neg (fun z => eG.mp z c), if_neg c, if_neg (zI_ge (by omega)), if_neg (by rw [i4, zI_le (by omega) (by omega)]; omega), if_neg (zI_ge (by omega)), if_pos (by rw [i96, zI_lt (by omega) (by omega)]; omega), zI_cl (by omega), e0, h.2.2.2.2.2.1]
    exact key 1 _ (by omega) rfl
end STR
