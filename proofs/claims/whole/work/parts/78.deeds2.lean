/-! out, pace, rest -/
theorem hldI (x : Int32) : (m_X10_isHold x = 0 ↔ ¬ (0 ≤ x.toInt ∧ x.toInt ≤ 3)) ∧ (m_X11_isHeld x.toInt64 = 0 ↔ ¬ (0 ≤ x.toInt ∧ x.toInt ≤ 3)) := ⟨wC (x := x) (a := 0) (b := 3), wM32 (x := x) (a := 0) (b := 3)⟩
theorem FrD.rf (σ : SS) : FrD σ σ := (FrC.rf σ).fd
theorem FrE.rf (σ : SS) : FrE σ σ := (FrM.rf σ).fe
theorem nmR.fd {M : Nat → Int32} {P : Nat} {σ τ : SS} (h : nmR M P σ) (f : FrD σ τ) : nmR M P τ := h.c (by rw [f.2.1 2 (by decide) (by decide) (by decide) (by decide) (by decide) (by decide) (by decide)])
theorem LCo.fd {lf : Option FN} {σ τ : SS} (h : LCo lf σ) (f : FrD σ τ) : LCo lf τ := h.c (f.1 7 0 4 (by decide) (by decide) (by decide) (by decide) (by decide)) (by rw [f.2.1 9 (by decide) (by decide) (by decide) (by decide) (by decide) (by decide) (by decide)]) (by rw [f.2.1 10 (by decide) (by decide) (by decide) (by decide) (by decide) (by decide) (by decide)])
theorem KM.fe {lf : Option FN} {M : Nat → Int32} {P : Nat} {mg : Int32} {σ τ : SS} (h : KM lf M P mg σ) (f : FrE σ τ) : KM lf M P mg τ := ⟨by rw [f.2.1 1 (by decide) (by decide) (by decide) (by decide)]; exact h.1, h.2.1.c (f.1 11 (by decide) (by decide) (by decide) (by decide) (by decide) (by decide)) (by rw [f.2.1 6 (by decide) (by decide) (by decide) (by decide)]), (f.1 7 (by decide) (by decide) (by decide) (by decide) (by decide) (by decide)).trans h.2.2.1, h.2.2.2⟩
theorem P_out {σC σM : SS} (h : Inv σC σM) (a b : Int32) : ∃ r τC τM, m_X10_out a b σC = some (r, τC) ∧ m_X11_out a b σM = some (r, τM) ∧ Inv τC τM := by
  obtain ⟨P, Bn, lf, hK⟩ := h
  have hI : Inv σC σM := ⟨P, Bn, lf, hK⟩
  obtain ⟨e3, e4⟩ := hldI b
  have P0 : zI P = 0 ↔ P = 0 := by rw [i0, zI_eq (by have := hK.1.1; omega) (by omega)]
  obtain ⟨⟨d1, d2, d3, d4, d5, d6⟩, -⟩ := hK.2.2.2.2.2.2.2.2
  unfold m_X10_out m_X11_out
  by_cases c : 0 ≤ a.toInt ∧ a.toInt ≤ 999
  · rw [if_neg (fun e => (minC a).mp e c), if_neg (fun e => (minM a).mp e c)]
    by_cases c2 : 0 ≤ b.toInt ∧ b.toInt ≤ 3
    · rw [if_neg (fun e => e3.mp e c2), if_neg (fun e => e4.mp e c2)]
      unfold m_X2_setOut
      rcases d1 with ⟨o, p, x, hp, hx, g1, g2, -⟩ | ⟨o, g⟩
      · have := hK.1.1
        rw [o, g2, if_neg (show ¬ (1 : Int32) = 0 by decide), if_pos (zI_ge' (a := p) (by omega))]
        exact ⟨_, _, _, rfl, rfl, hI⟩
      · rw [o, g, if_pos (show (0 : Int32) = 0 from rfl), if_neg (show ¬ (0 : Int32) ≤ -1 by decide), hK.1.2.1, hK.1.2.2.1]
        by_cases p0 : P = 0
        · rw [if_pos (P0.mpr p0), if_pos (P0.mpr p0)]
          exact ⟨_, _, _, rfl, rfl, hI⟩
        · have hP := hK.1.1
          have e6 : m_X8_number 0 6 σC = σM.2.1 1 0 72 := (numC (p := 0) (w := 6) (by omega) (by omega) σC).trans (hK.nm.1 0 6 (by omega) (by omega))
          rw [if_neg (fun z => p0 (P0.mp z)), if_neg (fun z => p0 (P0.mp z)), e6, show (72 : Int32).toNatClampNeg = 72 from rfl]
          by_cases n0 : b ≤ σM.2.1 1 0 72
          · rw [if_pos n0, if_pos n0]
            obtain ⟨k, hk, rfl⟩ := rng (b := 3) c2.1 c2.2
            have fD : FrD σC (sI (sI (sI (sI (sI σC 22 0 0 1) 22 0 1 0) 22 0 2 a) 22 0 3 (zI k)) 22 0 4 0) := ((((FrD.s22 _ _ _).tr (FrD.s22 _ _ _)).tr (FrD.s22 _ _ _)).tr (FrD.s22 _ _ _)).tr (FrD.s22 _ _ _)
            have fE : FrE σM (sI (sI (sI (sI σM 0 0 23 0) 0 0 24 a) 0 0 25 (-1)) 0 0 26 0) := (((FrE.st _ (by omega) _).tr (FrE.st _ (by omega) _)).tr (FrE.st _ (by omega) _)).tr (FrE.st _ (by omega) _)
            obtain ⟨r, τC, τM, t1, t2, t3, t4, t5⟩ := bearJ (lf := lf) (M := σM.2.1 1 0) (hK.nm.fd fD) (LCo.fd hK.lc fD) (hK.km.fe fE) (P := P) (p := 0) (k := k) (a := 0) (mi := a) hK.1.2.1 hK.1.2.2.1 (by omega) (by omega) (by omega) rfl rfl rfl rfl rfl rfl (Or.inl ⟨by show (-1 : Int32) < 0; decide, rfl⟩) rfl d2 d3 d4 d5 d6 0 (Or.inl rfl)
            rw [t1, t2]
            exact ⟨r, τC, τM, rfl, rfl, P, Bn, lf, hK.frD (fD.tr t3) (fE.tr t4) t5⟩
          · rw [if_neg n0, if_neg n0]
            exact ⟨_, _, _, rfl, rfl, hI⟩
    · rw [if_pos (e3.mpr c2), if_pos (e4.mpr c2)]
      exact ⟨_, _, _, rfl, rfl, hI⟩
  · rw [if_pos ((minC a).mpr c), if_pos ((minM a).mpr c)]
    exact ⟨_, _, _, rfl, rfl, hI⟩
theorem P_pace {σC σM : SS} (h : Inv σC σM) (b : Int32) : ∃ r τC τM, m_X10_pace b σC = some (r, τC) ∧ m_X11_pace b σM = some (r, τM) ∧ Inv τC τM := by
  obtain ⟨P, Bn, lf, hK⟩ := h
  have hI : Inv σC σM := ⟨P, Bn, lf, hK⟩
  obtain ⟨e3, e4⟩ := hldI b
  obtain ⟨⟨d1, d2, d3, d4, d5, d6⟩, -⟩ := hK.2.2.2.2.2.2.2.2
  unfold m_X10_pace m_X11_pace
  by_cases c2 : 0 ≤ b.toInt ∧ b.toInt ≤ 3
  · rw [if_neg (fun e => e3.mp e c2), if_neg (fun e => e4.mp e c2)]
    unfold m_X2_goOn
    rcases d1 with ⟨o, p, x, hp, hx, g1, g2, g3, g4, g5, g6, g7⟩ | ⟨o, g⟩
    · have hP := hK.1.1
      have e6 : m_X8_number (zI (p + 1)) 6 σC = σM.2.1 1 0 (72 + (p + 1)) := (numC (p := p + 1) (w := 6) (by omega) (by omega) σC).trans (hK.nm.1 (p + 1) 6 (by omega) (by omega))
      have ek : (72 : Int32) + zI p + 1 = zI (72 + (p + 1)) := by rw [i72, i1, zI_add, zI_add, Nat.add_assoc]
      rw [o, g1, g2, if_neg (show ¬ (1 : Int32) = 0 by decide), if_pos (zI_ge' (a := p) (by omega)), ek, if_neg (zI_in (by omega) (by omega)), zI_cl (by omega), show zI p + 1 = zI (p + 1) from zI_add p 1, e6]
      by_cases n0 : b ≤ σM.2.1 1 0 (72 + (p + 1))
      · rw [if_pos n0, if_pos n0]
        obtain ⟨k, hk, rfl⟩ := rng (b := 3) c2.1 c2.2
        have fD : FrD σC (sI (sI (sI σC 22 0 1 (zI (p + 1))) 22 0 2 (σC.1 22 0 2 + 1)) 22 0 7 (σC.1 22 0 7 + 1)) := ((FrD.s22 _ _ _).tr (FrD.s22 _ _ _)).tr (FrD.s22 _ _ _)
        have fE : FrE σM (sI (sI (sI σM 0 0 23 (zI (p + 1))) 0 0 24 (σM.1 0 0 24 + 1)) 0 0 29 (σM.1 0 0 29 + 1)) := ((FrE.st _ (by omega) _).tr (FrE.st _ (by omega) _)).tr (FrE.st _ (by omega) _)
        have z25 : ¬ σM.1 0 0 25 < 0 := fun z => by
          have := Int32.lt_iff_toInt_lt.mp z
          rw [show (0 : Int32).toInt = 0 from rfl] at this
          omega
        obtain ⟨r, τC, τM, t1, t2, t3, t4, t5⟩ := bearJ (lf := lf) (M := σM.2.1 1 0) (hK.nm.fd fD) (LCo.fd hK.lc fD) (hK.km.fe fE) (P := P) (p := p + 1) (k := k) (a := x) (mi := σM.1 0 0 24 + 1) hK.1.2.1 hK.1.2.2.1 (by omega) (by omega) hx rfl (by show σC.1 22 0 2 + 1 = _; rw [g3]) g6 rfl rfl g7 (Or.inr ⟨z25, g4⟩) o d2 d3 (by show σC.1 22 0 7 + 1 = σM.1 0 0 29 + 1; rw [d4]) d5 d6 0 (Or.inl rfl)
        rw [t1, t2]
        exact ⟨r, τC, τM, rfl, rfl, P, Bn, lf, hK.frD (fD.tr t3) (fE.tr t4) t5⟩
      · rw [if_neg n0, if_neg n0]
        exact ⟨_, _, _, rfl, rfl, hI⟩
    · rw [o, g, if_pos (show (0 : Int32) = 0 from rfl), if_neg (show ¬ (0 : Int32) ≤ -1 by decide)]
      exact ⟨_, _, _, rfl, rfl, hI⟩
  · rw [if_pos (e3.mpr c2), if_pos (e4.mpr c2)]
    exact ⟨_, _, _, rfl, rfl, hI⟩
theorem P_rest {σC σM : SS} (h : Inv σC σM) (b : Int32) : ∃ r τC τM, m_X10_rest b σC = some (r, τC) ∧ m_X11_rest b σM = some (r, τM) ∧ Inv τC τM := by
  obtain ⟨P, Bn, lf, hK⟩ := h
  have hI : Inv σC σM := ⟨P, Bn, lf, hK⟩
  obtain ⟨e3, e4⟩ := hldI b
  obtain ⟨⟨d1, d2, d3, d4, d5, d6⟩, -⟩ := hK.2.2.2.2.2.2.2.2
  unfold m_X10_rest m_X11_rest
  by_cases c2 : 0 ≤ b.toInt ∧ b.toInt ≤ 3
  · rw [if_neg (fun e => e3.mp e c2), if_neg (fun e => e4.mp e c2)]
    unfold m_X2_stay
    rcases d1 with ⟨o, p, x, hp, hx, g1, g2, g3, g4, g5, g6, g7⟩ | ⟨o, g⟩
    · have hP := hK.1.1
      have e6 : m_X8_number (zI p) 6 σC = σM.2.1 1 0 (72 + p) := (numC (p := p) (w := 6) (by omega) (by omega) σC).trans (hK.nm.1 p 6 (by omega) (by omega))
      have ek : (72 : Int32) + zI p = zI (72 + p) := zI_add 72 p
      rw [o, g1, g2, if_neg (show ¬ (1 : Int32) = 0 by decide), if_pos (zI_ge' (a := p) (by omega)), ek, if_neg (zI_in (by omega) (by omega)), zI_cl (by omega), e6]
      by_cases n0 : b ≤ σM.2.1 1 0 (72 + p)
      · rw [if_pos n0, if_pos n0]
        obtain ⟨k, hk, rfl⟩ := rng (b := 3) c2.1 c2.2
        have fD : FrD σC (sI (sI σC 22 0 2 (σC.1 22 0 2 + 1)) 22 0 8 (σC.1 22 0 8 + 1)) := (FrD.s22 _ _ _).tr (FrD.s22 _ _ _)
        have fE : FrE σM (sI (sI σM 0 0 24 (σM.1 0 0 24 + 1)) 0 0 30 (σM.1 0 0 30 + 1)) := (FrE.st _ (by omega) _).tr (FrE.st _ (by omega) _)
        have z25 : ¬ σM.1 0 0 25 < 0 := fun z => by
          have := Int32.lt_iff_toInt_lt.mp z
          rw [show (0 : Int32).toInt = 0 from rfl] at this
          omega
        obtain ⟨r, τC, τM, t1, t2, t3, t4, t5⟩ := bearJ (lf := lf) (M := σM.2.1 1 0) (hK.nm.fd fD) (LCo.fd hK.lc fD) (hK.km.fe fE) (P := P) (p := p) (k := k) (a := x) (mi := σM.1 0 0 24 + 1) hK.1.2.1 hK.1.2.2.1 (by omega) (by omega) hx g1 (by show σC.1 22 0 2 + 1 = _; rw [g3]) g6 g2 rfl g7 (Or.inr ⟨z25, g4⟩) o d2 d3 d4 (by show σC.1 22 0 8 + 1 = σM.1 0 0 30 + 1; rw [d5]) d6 1 (Or.inr ⟨rfl, hp⟩)
        rw [t1, t2]
        exact ⟨r, τC, τM, rfl, rfl, P, Bn, lf, hK.frD (fD.tr t3) (fE.tr t4) t5⟩
      · rw [if_neg n0, if_neg n0]
        exact ⟨_, _, _, rfl, rfl, hI⟩
    · rw [o, g, if_pos (show (0 : Int32) = 0 from rfl), if_neg (show ¬ (0 : Int32) ≤ -1 by decide)]
      exact ⟨_, _, _, rfl, rfl, hI⟩
  · rw [if_pos (e3.mpr c2), if_pos (e4.mpr c2)]
    exact ⟨_, _, _, rfl, rfl, hI⟩
