/-! places from a row -/
theorem cell6 {d i n : Nat} {σ : SS} (hl : σ.1 28 d 2 = zI n) (hn : n ≤ 60) (hi : i < n) : m_X6_cell d (zI i) σ = σ.2.2 29 d i := by
  unfold m_X6_cell
  rw [hl, if_neg (zI_ge (by omega)), if_neg (by rw [zI_le (by omega) (by omega)]; omega), if_neg (by rw [i60, zI_le (by omega) (by omega)]; omega), zI_cl (by omega)]
theorem byte32 {v : Int64} (h : byteV v) : v.toInt32.toInt = v.toInt := by
  rw [Int64.toInt_toInt32]
  exact Int.bmod_eq_of_le (by have := h.1; omega) (by have := h.2; omega)
theorem zsub {a b : Nat} (ha : a < 1000000000) (hb : b < 1000000000) : (zI a - zI b).toInt = (a : Int) - b := by
  rw [Int32.toInt_sub, zI_toInt (by omega), zI_toInt (by omega)]
  exact Int.bmod_eq_of_le (by omega) (by omega)
theorem plS (d i N n : Nat) (hd : d < 6) (hi : i < 1000) (hN : N ≤ 12) : ∀ (f g c P : Nat) (Bn : Nat) (lf : Option FN) (σC σM : SS), InvK P Bn lf σC σM → c ≤ N → N - c < f → N - c < g → σC.1 28 d 2 = zI n → σM.2.1 15 0 d = zI n → n ≤ 60 → (∀ q, q < 60 → σM.2.2 16 0 (60 * d + q) = σC.2.2 29 d q ∧ byteV (σC.2.2 29 d q)) → ∃ r τC τM, L_X10_places_51 d f (zI N) (zI c) (zI (i + 3 * c)) σC = some (r, τC) ∧ L_X11_places_69 (g + 1) (zI d) (zI i) (zI N) (zI c) 1 σM = some (r, τM) ∧ Inv τC τM
  | 0, _, c, P, Bn, lf, σC, σM, hK, h1, h2, _, _, _, _, _ => absurd h2 (by omega)
  | _ + 1, 0, c, P, Bn, lf, σC, σM, hK, h1, _, h2, _, _, _, _ => absurd h2 (by omega)
  | f + 1, g + 1, c, P, Bn, lf, σC, σM, hK, h1, h2, h2', l1, l2, l3, hc => by
    have hI : Inv σC σM := ⟨P, Bn, lf, hK⟩
    have sM : L_X11_places_69 (g + 1 + 1) (zI d) (zI i) (zI N) (zI c) 1 σM = if zI N ≤ zI c then some (zI c, σM) else if ((zI n - 3) - 3 * zI c) < zI i then L_X11_places_69 (g + 1) (zI d) (zI i) (zI N) (zI c) 0 σM else if 12 ≤ σM.1 0 0 6 then L_X11_places_69 (g + 1) (zI d) (zI i) (zI N) (zI c) 0 σM else if ((((60 : Int32) * zI d) + zI i) + ((3 : Int32) * zI c)) < 0 ∨ 360 ≤ ((((60 : Int32) * zI d) + zI i) + ((3 : Int32) * zI c)).toNatClampNeg then none else
    if (((((60 : Int32) * zI d) + zI i) + ((3 : Int32) * zI c)) + (1 : Int32)) < 0 ∨ 360 ≤ (((((60 : Int32) * zI d) + zI i) + ((3 : Int32) * zI c)) + (1 : Int32)).toNatClampNeg then none else
    if (((((60 : Int32) * zI d) + zI i) + ((3 : Int32) * zI c)) + (2 : Int32)) < 0 ∨ 360 ≤ (((((60 : Int32) * zI d) + zI i) + ((3 : Int32) * zI c)) + (2 : Int32)).toNatClampNeg then none else
    if (m_X11_isOne (σM.2.2 16 0 ((((60 : Int32) * zI d) + zI i) + ((3 : Int32) * zI c)).toNatClampNeg) (σM.2.2 16 0 (((((60 : Int32) * zI d) + zI i) + ((3 : Int32) * zI c)) + (1 : Int32)).toNatClampNeg) (σM.2.2 16 0 (((((60 : Int32) * zI d) + zI i) + ((3 : Int32) * zI c)) + (2 : Int32)).toNatClampNeg)) = (0 : Int32) then L_X11_places_69 (g + 1) (zI d) (zI i) (zI N) (zI c) 0 σM else
    Option.bind (m_X11_adds ((σM.2.2 16 0 ((((60 : Int32) * zI d) + zI i) + ((3 : Int32) * zI c)).toNatClampNeg).toInt32) ((σM.2.2 16 0 (((((60 : Int32) * zI d) + zI i) + ((3 : Int32) * zI c)) + (1 : Int32)).toNatClampNeg).toInt32) ((σM.2.2 16 0 (((((60 : Int32) * zI d) + zI i) + ((3 : Int32) * zI c)) + (2 : Int32)).toNatClampNeg).toInt32) σM) (fun q16 => L_X11_places_69 (g + 1) (zI d) (zI i) (zI N) (zI c + 1) 1 q16) := by
      show (if _ then _ else (if _ then _ else (if _ then _ else _))) = _
      rw [if_neg (show ¬ (1 : Int32) = 0 by decide), if_neg (zI_in (by omega) hd), zI_cl (by omega), l2]
    have sM0 : L_X11_places_69 (g + 1) (zI d) (zI i) (zI N) (zI c) 0 σM = some (zI c, σM) := rfl
    have sC : L_X10_places_51 d (f + 1) (zI N) (zI c) (zI (i + 3 * c)) σC = if zI N ≤ zI c then some (zI c, σC) else if m_X6_left d (zI (i + 3 * c)) σC < 3 then some (zI c, σC) else bnT (m_X10_addFrom d (zI (i + 3 * c)) σC) (fun q7 => if q7.1 = 0 then some (zI c, q7.2) else L_X10_places_51 d f (zI N) (zI c + 1) (zI (i + 3 * c) + 3) q7.2) := rfl
    rw [sM, sC, sM0]
    by_cases e : c = N
    · subst e
      rw [if_pos (Int32.le_refl _), if_pos (Int32.le_refl _)]
      exact ⟨_, _, _, rfl, rfl, hI⟩
    · have e' : ¬ zI N ≤ zI c := by rw [zI_le (by omega) (by omega)]; omega
      rw [if_neg e', if_neg e']
      have lf' : m_X6_left d (zI (i + 3 * c)) σC < 3 ↔ n < i + 3 * c + 3 := by
        unfold m_X6_left
        rw [if_pos (zI_ge' (by omega)), l1, Int32.lt_iff_toInt_lt, Int32.toInt_sub, zI_toInt (by omega), zI_toInt (by omega), Int.bmod_eq_of_le (by omega) (by omega), show (3 : Int32).toInt = 3 from rfl]
        omega
      have lm' : ((zI n - 3) - 3 * zI c) < zI i ↔ n < i + 3 * c + 3 := by
        rw [Int32.lt_iff_toInt_lt, Int32.toInt_sub, i3, zI_mul, zsub (by omega) (by omega), zI_toInt (by omega), zI_toInt (by omega), Int.bmod_eq_of_le (by omega) (by omega)]
        omega
      by_cases gg : n < i + 3 * c + 3
      · rw [if_pos (lf'.mpr gg), if_pos (lm'.mpr gg)]
        exact ⟨_, _, _, rfl, rfl, hI⟩
      · rw [if_neg (fun z => gg (lf'.mp z)), if_neg (fun z => gg (lm'.mp z))]
        obtain ⟨u0, v0⟩ := hc (i + 3 * c) (by omega)
        obtain ⟨u1, v1⟩ := hc (i + 3 * c + 1) (by omega)
        obtain ⟨u2, v2⟩ := hc (i + 3 * c + 2) (by omega)
        have c0 : m_X6_cell d (zI (i + 3 * c)) σC = σC.2.2 29 d (i + 3 * c) := cell6 l1 l3 (by omega)
        have c1 : m_X6_cell d (zI (i + 3 * c) + 1) σC = σC.2.2 29 d (i + 3 * c + 1) := by
          rw [i1, zI_add]
          exact cell6 l1 l3 (by omega)
        have c2 : m_X6_cell d (zI (i + 3 * c) + 2) σC = σC.2.2 29 d (i + 3 * c + 2) := by
          rw [i2, zI_add]
          exact cell6 l1 l3 (by omega)
        rw [← u0] at c0 v0
        rw [← u1] at c1 v1
        rw [← u2] at c2 v2
        generalize hx0 : σM.2.2 16 0 (60 * d + (i + 3 * c)) = w0 at c0 v0
        generalize hx1 : σM.2.2 16 0 (60 * d + (i + 3 * c + 1)) = w1 at c1 v1
        generalize hx2 : σM.2.2 16 0 (60 * d + (i + 3 * c + 2)) = w2 at c2 v2
        have ix0 : ((((60 : Int32) * zI d) + zI i) + ((3 : Int32) * zI c)) = zI (60 * d + (i + 3 * c)) := by
          rw [i60, i3, zI_mul, zI_mul, zI_add, zI_add, Nat.add_assoc]
        have ix1 : zI (60 * d + (i + 3 * c)) + 1 = zI (60 * d + (i + 3 * c + 1)) := by rw [i1, zI_add]; rfl
        have ix2 : zI (60 * d + (i + 3 * c)) + 2 = zI (60 * d + (i + 3 * c + 2)) := by rw [i2, zI_add]; rfl
        have hone : m_X11_isOne w0 w1 w2 = 0 ↔ ¬ (okV 0 w0.toInt32 ∧ okV 4 w1.toInt32 ∧ okV 5 w2.toInt32) := by
          rw [one1]
          unfold okV
          rw [byte32 v0, byte32 v1, byte32 v2]
          exact Iff.rfl
        have aF : m_X10_addFrom d (zI (i + 3 * c)) σC = if m_X10_isAsSaid 0 w0.toInt32 = 0 then (0, σC) else if m_X10_isAsSaid 4 w1.toInt32 = 0 then (0, σC) else if m_X10_isAsSaid 5 w2.toInt32 = 0 then (0, σC) else bnT (m_X8_add w0.toInt32 w1.toInt32 w2.toInt32 σC) (fun q4 => if q4.1 < 0 then (0, q4.2) else (1, q4.2)) := by
          unfold m_X10_addFrom
          rw [c0, c1, c2]
        rw [ix0, ix1, ix2, if_neg (zI_in (by omega) (by omega)), if_neg (zI_in (by omega) (by omega)), if_neg (zI_in (by omega) (by omega)), zI_cl (by omega), zI_cl (by omega), zI_cl (by omega), hx0, hx1, hx2, aF, hK.1.2.2.1]
        by_cases o : okV 0 w0.toInt32 ∧ okV 4 w1.toInt32 ∧ okV 5 w2.toInt32
        · rw [if_neg (fun z => (said0 _).mp z o.1), if_neg (fun z => (said4 _).mp z o.2.1), if_neg (fun z => (said5 _).mp z o.2.2), if_neg (fun z => hone.mp z o)]
          by_cases p : P = 12
          · subst p
            rw [if_pos (show (12 : Int32) ≤ zI 12 from Int32.le_refl _), add8F hK.1.2.1]
            exact ⟨_, _, _, rfl, rfl, hI⟩
          · have hlt : P < 12 := by have := hK.1.1; omega
            rw [if_neg (by rw [i12, zI_le (by omega) (by omega)]; omega), add8 hK.1.2.1 hlt, add11 hK.1.2.2.1 hlt]
            simp only [bnT, Option.bind]
            rw [if_neg (zI_ge (a := P) (by omega)), if_neg (show ¬ (1 : Int32) = 0 by decide), i1, zI_add, i3, zI_add]
            exact plS d i N n hd hi hN f g (c + 1) (P + 1) Bn lf _ _ (adds_ok hK hlt o.1 o.2.1 o.2.2) (by omega) (by omega) (by omega) l1 l2 l3 hc
        · rw [if_pos (hone.mpr o)]
          have k0 : (if m_X10_isAsSaid 0 w0.toInt32 = 0 then ((0 : Int32), σC) else if m_X10_isAsSaid 4 w1.toInt32 = 0 then (0, σC) else if m_X10_isAsSaid 5 w2.toInt32 = 0 then (0, σC) else bnT (m_X8_add w0.toInt32 w1.toInt32 w2.toInt32 σC) (fun q4 => if q4.1 < 0 then (0, q4.2) else (1, q4.2))) = (0, σC) := by
            by_cases o1 : okV 0 w0.toInt32
            · rw [if_neg (fun z => (said0 _).mp z o1)]
              by_cases o2 : okV 4 w1.toInt32
              · rw [if_neg (fun z => (said4 _).mp z o2), if_pos ((said5 _).mpr (fun o3 => o ⟨o1, o2, o3⟩))]
              · rw [if_pos ((said4 _).mpr o2)]
            · rw [if_pos ((said0 _).mpr o1)]
          rw [k0]
          by_cases p : (12 : Int32) ≤ zI P
          · rw [if_pos p]
            exact ⟨_, _, _, rfl, rfl, hI⟩
          · rw [if_neg p]
            exact ⟨_, _, _, rfl, rfl, hI⟩
theorem P_places {σC σM : SS} (h : Inv σC σM) (a x n : Int32) : ∃ r τC τM, m_X10_places a x n σC = some (r, τC) ∧ m_X11_places a x n σM = some (r, τM) ∧ Inv τC τM := by
  obtain ⟨P, Bn, lf, hK⟩ := h
  have hI : Inv σC σM := ⟨P, Bn, lf, hK⟩
  have e1 := shC a
  have e2 := shM a
  have e3 : m_X11_within n.toInt64 1 12 = 0 ↔ ¬ (1 ≤ n.toInt ∧ n.toInt ≤ 12) := wM32
  have e4 : m_X10_isWithin n 1 12 = 0 ↔ ¬ (1 ≤ n.toInt ∧ n.toInt ≤ 12) := wC
  have hB := hK.2.2.2.2.2.2.1.1
  have h6 := hK.2.2.2.2.2.1
  unfold m_X10_places m_X11_places
  by_cases c : 0 ≤ a.toInt ∧ a.toInt ≤ 5
  · rw [if_neg (fun e => e1.mp e c), if_neg (fun e => e2.mp e c)]
    by_cases c2 : 1 ≤ n.toInt ∧ n.toInt ≤ 12
    · rw [if_neg (fun e => e4.mp e c2), if_neg (fun e => e3.mp e c2)]
      obtain ⟨d, hd, rfl⟩ := rng (b := 5) c.1 c.2
      obtain ⟨N, hN, rfl⟩ := rng (x := n) (b := 12) (by omega) c2.2
      rw [if_neg (zI_in (by omega) (by omega)), zI_cl (by omega)]
      obtain ⟨⟨l, l1, l2, l3⟩, u, g⟩ := h6 d (by omega)
      unfold m_X6_isEmpty m_X6_holdsBytes
      have z0 : ∀ x, L_X11_places_69 FU (zI d) x (zI N) 0 0 σM = some (0, σM) := fun x => rfl
      rcases g with ⟨g1, g2⟩ | ⟨g1, b, hb, g3, g2⟩ | ⟨q, hq, g1, g2, g3⟩
      · rw [g1, g2, if_pos (show (-2 : Int32) = -2 from rfl), if_neg (show ¬ (1 : Int32) = 0 by decide), if_pos (show (-1 : Int32) < 0 by decide), if_neg (show ¬ (-1 : Int32) = 50 by decide), z0]
        exact ⟨_, _, _, rfl, rfl, hI⟩
      · rw [g1, g2, if_neg (zI_ge (a := b) (by omega)), if_neg (show ¬ zI b = 50 by rw [i50, zI_eq (by omega) (by omega)]; omega)]
        exact ⟨_, _, _, rfl, rfl, hI⟩
      · have gk : ¬ zI q = -2 := fun e => by
          have := congrArg Int32.toInt e
          rw [zI_toInt (by omega), show (-2 : Int32).toInt = -2 from rfl] at this
          omega
        rw [g1, g2, if_neg gk, if_pos (show (0 : Int32) = 0 from rfl), if_neg (zI_ge (a := 50 + q) (by omega))]
        by_cases q0 : q = 0
        · subst q0
          rw [if_pos (show zI 0 = 0 from rfl), if_neg (show ¬ (1 : Int32) = 0 by decide), if_pos (show zI (50 + 0) = 50 from rfl)]
          by_cases x0 : x < 0
          · rw [if_pos x0, z0]
            have : L_X10_places_51 d FU (zI N) 0 x σC = some (0, σC) := by
              show (if _ then _ else (if _ then _ else _)) = _
              unfold m_X6_left
              rw [if_neg (Int32.not_le.mpr x0), if_pos (show (0 : Int32) < 3 by decide)]
              by_cases y : zI N ≤ 0
              · rw [if_pos y]
              · rw [if_neg y]
            rw [this]
            exact ⟨_, _, _, rfl, rfl, hI⟩
          · rw [if_neg x0]
            have x1 := Int32.le_iff_toInt_le.mp (Int32.not_lt.mp x0)
            rw [show (0 : Int32).toInt = 0 from rfl] at x1
            by_cases x2 : x.toInt ≤ 900
            · obtain ⟨i, hi, rfl⟩ := rng (x := x) (b := 900) x1 x2
              obtain ⟨r, τC, τM, r1, r2, r3⟩ := plS d i N l (by omega) (by omega) (by omega) FU 99999 0 P Bn lf σC σM hK (by omega) (by unfold FU; omega) (by omega) l2 l3 l1 (fun q hq => ⟨u q hq, g3 rfl q hq⟩)
              exact ⟨r, τC, τM, r1, r2, r3⟩
            · have t1 := x.toInt_lt
              have w1 : m_X6_left d x σC < 3 := by
                unfold m_X6_left
                rw [if_pos (Int32.not_lt.mp x0), l2, Int32.lt_iff_toInt_lt, Int32.toInt_sub, zI_toInt (by omega), Int.bmod_eq_of_le (by omega) (by omega), show (3 : Int32).toInt = 3 from rfl]
                omega
              have w2 : ((zI l - 3) - 3 * 0) < x := by
                rw [Int32.lt_iff_toInt_lt, Int32.toInt_sub, i3, i0, zI_mul, zsub (by omega) (by omega), zI_toInt (by omega), Int.bmod_eq_of_le (by omega) (by omega)]
                omega
              have y : ¬ zI N ≤ 0 := by rw [zI_toInt (by omega)] at c2; rw [i0, zI_le (by omega) (by omega)]; omega
              have s1 : L_X10_places_51 d FU (zI N) 0 x σC = some (0, σC) := by
                show (if _ then _ else (if _ then _ else _)) = _
                rw [if_neg y, if_pos w1]
              have s2 : L_X11_places_69 FU (zI d) x (zI N) 0 1 σM = some (0, σM) := by
                show (if _ then _ else (if _ then _ else (if _ then _ else (if _ then _ else _)))) = _
                rw [if_neg (show ¬ (1 : Int32) = 0 by decide), if_neg y, if_neg (zI_in (by omega) (by omega)), zI_cl (by omega), l3, if_pos w2]
                rfl
              rw [s1, s2]
              exact ⟨_, _, _, rfl, rfl, hI⟩
        · have q1 : ¬ zI q = 0 := by rw [i0, zI_eq (by omega) (by omega)]; exact q0
          rw [if_neg q1, if_pos (show (0 : Int32) = 0 from rfl), if_neg (show ¬ zI (50 + q) = 50 by rw [i50, zI_eq (by omega) (by omega)]; omega)]
          exact ⟨_, _, _, rfl, rfl, hI⟩
    · rw [if_pos (e4.mpr c2), if_pos (e3.mpr c2)]
      exact ⟨_, _, _, rfl, rfl, hI⟩
  · rw [if_pos (e1.mpr c), if_pos (e2.mpr c)]
    exact ⟨_, _, _, rfl, rfl, hI⟩
