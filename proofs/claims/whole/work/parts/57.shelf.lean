/-! rows: row, put, element, shift, taken -/
theorem zI_in' {a n : Nat} (ha : a < 2147483648) (hn : a < n) : ¬ (zI a < 0 ∨ n ≤ a) := fun h => h.elim (zI_ge ha) (by omega)
theorem fill0 (d : Nat) (f : Nat → Int64) (i : Nat) (h : i < 60) : fillF f (0 : Int64) 60 i = 0 := if_pos h
theorem row57 (d : Nat) (hd : d < 6) : ∀ (n q : Nat) (σ : SS), q ≤ 60 → 60 - q < n → ∃ ρ : SS, L_X11_row_57 n (zI d) (zI (60 * d + q)) σ = some (1, ρ) ∧ ρ.1 = σ.1 ∧ ρ.2.1 = σ.2.1 ∧ (∀ t, t ≠ 16 → ρ.2.2 t = σ.2.2 t) ∧ ∀ x, ρ.2.2 16 0 x = if 60 * d + q ≤ x ∧ x < 60 * d + 60 then 0 else σ.2.2 16 0 x
  | 0, q, σ, h1, h2 => absurd h2 (by omega)
  | n + 1, q, σ, h1, h2 => by
    by_cases e : q = 60
    · subst e
      refine ⟨σ, ?_, rfl, rfl, fun _ _ => rfl, fun x => (if_neg (by omega)).symm⟩
      show (if _ then _ else _) = _
      rw [i60, zI_mul, zI_add, if_pos (by rw [zI_le (by omega) (by omega)]; omega)]
    · obtain ⟨ρ, r1, r2, r3, r4, r5⟩ := row57 d hd n (q + 1) (sL σ 16 0 (60 * d + q) 0) (by omega) (by omega)
      refine ⟨ρ, ?_, r2, r3, fun t ht => ?_, fun x => ?_⟩
      · rw [← r1]
        show (if _ then _ else _) = _
        rw [i60, zI_mul, zI_add, if_neg (by rw [zI_le (by omega) (by omega)]; omega), if_neg (zI_in (by omega) (by omega)), zI_cl (by omega), i1, zI_add]
        rfl
      · rw [r4 t ht]
        funext b
        exact sL_h (by omega)
      · rw [r5, sL_g]
        by_cases f : x = 60 * d + q
        · rw [if_neg (by omega), if_pos f, if_pos (by omega)]
        · rw [if_neg f]
          by_cases g : 60 * d + q ≤ x ∧ x < 60 * d + 60
          · rw [if_pos (by omega), if_pos g]
          · rw [if_neg (by omega), if_neg g]
theorem P_row {σC σM : SS} (h : Inv σC σM) (a s n : Int32) : ∃ r τC τM, m_X10_row a s n σC = (r, τC) ∧ m_X11_row a s n σM = some (r, τM) ∧ Inv τC τM := by
  obtain ⟨P, Bn, lf, hK⟩ := h
  have hI : Inv σC σM := ⟨P, Bn, lf, hK⟩
  have e1 := shC a
  have e2 := shM a
  have e3 : m_X11_within s.toInt64 0 4 = 0 ↔ ¬ (0 ≤ s.toInt ∧ s.toInt ≤ 4) := wM32
  have e4 : m_X10_isWithin s 0 4 = 0 ↔ ¬ (0 ≤ s.toInt ∧ s.toInt ≤ 4) := wC
  unfold m_X10_row m_X11_row
  by_cases c : 0 ≤ a.toInt ∧ a.toInt ≤ 5
  · rw [if_neg (fun e => e1.mp e c), if_neg (fun e => e2.mp e c)]
    by_cases c2 : 0 ≤ s.toInt ∧ s.toInt ≤ 4
    · rw [if_neg (fun e => e4.mp e c2), if_neg (fun e => e3.mp e c2)]
      by_cases c3 : n ≤ 60
      · rw [if_pos c3, if_pos c3]
        by_cases c4 : 0 ≤ n
        · rw [if_pos c4, if_pos c4]
          have f3 := Int32.le_iff_toInt_le.mp c3
          have f4 := Int32.le_iff_toInt_le.mp c4
          rw [show (60 : Int32).toInt = 60 from rfl] at f3
          rw [show (0 : Int32).toInt = 0 from rfl] at f4
          obtain ⟨d, hd, rfl⟩ := rng (b := 5) c.1 c.2
          obtain ⟨k, hk, rfl⟩ := rng (b := 4) c2.1 c2.2
          obtain ⟨m, hm, rfl⟩ := rng (b := 60) f4 f3
          rw [if_neg (zI_in (by omega) (by omega)), zI_cl (by omega), i60, zI_mul, i50, zI_add]
          obtain ⟨ρ, r1, r2, r3, r4, r5⟩ := row57 d (by omega) FU 0 (sA (sA σM 14 0 d (zI (50 + k))) 15 0 d (zI m)) (by omega) (by unfold FU; omega)
          rw [show 60 * d = 60 * d + 0 from rfl, r1]
          obtain ⟨h1, h2, h3, h4, h5, h6, h7, h8, h9⟩ := hK
          have A : ∀ t, t ≠ 14 → t ≠ 15 → ρ.2.1 t 0 = σM.2.1 t 0 := fun t a b => by rw [r3, sA_o b, sA_o a]
          have G : ∀ k, ρ.1 0 0 k = σM.1 0 0 k := fun k => by rw [r2]; rfl
          have F : ∀ t, t ≠ 28 → (m_X6_holdRow d (zI k) (zI m) σC).1 t = σC.1 t := fun t a => by
            unfold m_X6_holdRow
            show (sI _ 28 d 2 _).1 t = _
            rw [sI_o a, sI_o a]
          refine ⟨_, _, _, rfl, rfl, P, Bn, lf, h1.c (by rw [F 1 (by decide)]) (G 6) (G 7), h2.c rfl (A 1 (by decide) (by decide)), h3.c (by rw [F 3 (by decide)]) (G 5) (G 4) rfl rfl rfl (A 2 (by decide) (by decide)) (A 3 (by decide) (by decide)) (A 4 (by decide) (by decide)), h4.c (by rw [F 7 (by decide)]) (G 9) rfl (A 5 (by decide) (by decide)), h5.c (by rw [F 7 (by decide)]) (G 11) rfl rfl (A 6 (by decide) (by decide)), fun d' hd' => ?_, h7.c (by rw [F 24 (by decide)]) (G 34) rfl (A 12 (by decide) (by decide)), h8.c (by rw [F 24 (by decide)]) (G 37) rfl (A 13 (by decide) (by decide)), h9.c (by rw [F 22 (by decide)]) (by rw [F 23 (by decide)]) (by rw [F 21 (by decide)]) (fun k _ _ => G k) (A 11 (by decide) (by decide))⟩
          by_cases f : d' = d
          · subst f
            have eL : ∀ i, i < 60 → (m_X6_holdRow d' (zI k) (zI m) σC).2.2 29 d' i = 0 := fun i hi => by
              unfold m_X6_holdRow sLf
              show (if _ then _ else _) = _
              rw [if_pos ⟨rfl, rfl⟩]
              exact if_pos hi
            refine ⟨⟨m, hm, ?_, ?_⟩, fun i hi => ?_, Or.inr (Or.inr ⟨k, by omega, ?_, ?_, fun _ i hi => ?_⟩)⟩
            · unfold m_X6_holdRow
              show (sI _ 28 d' 2 _).1 28 d' 2 = _
              rw [sI_g, if_pos rfl]
            · rw [r3, sA_g, if_pos rfl]
            · rw [r5, if_pos (by omega), eL i hi]
            · unfold m_X6_holdRow
              show (sI _ 28 d' 2 _).1 28 d' 0 = _
              rw [sI_g, if_neg (by omega), sI_g, if_pos rfl]
            · rw [r3, sA_o (by decide), sA_g, if_pos rfl]
            · rw [eL i hi]
              exact ⟨by decide, by decide⟩
          · refine sh1.c (h6 d' hd') ?_ ?_ ?_ ?_ (fun i hi => ?_)
            · unfold m_X6_holdRow
              show (sI _ 28 d 2 _).1 28 d' = _
              rw [sI_h (by omega), sI_h (by omega)]
            · funext i
              unfold m_X6_holdRow sLf
              show (if _ then _ else _) = _
              rw [if_neg (fun e => f e.2)]
              rfl
            · rw [r3, sA_o (by decide), sA_g, if_neg f]
            · rw [r3, sA_g, if_neg f, sA_o (by decide)]
            · rw [r5, if_neg (by omega)]
              rfl
        · rw [if_neg c4, if_neg c4]
          exact ⟨_, _, _, rfl, rfl, hI⟩
      · rw [if_neg c3, if_neg c3]
        exact ⟨_, _, _, rfl, rfl, hI⟩
    · rw [if_pos (e4.mpr c2), if_pos (e3.mpr c2)]
      exact ⟨_, _, _, rfl, rfl, hI⟩
  · rw [if_pos (e1.mpr c), if_pos (e2.mpr c)]
    exact ⟨_, _, _, rfl, rfl, hI⟩
theorem refu {Bn d : Nat} {σC σM : SS} (hB : Bn ≤ 50) (hd : d < 6) (h : IvS Bn σC σM) (x : Int32) : (∃ i k n, i < n ∧ n ≤ 60 ∧ k < 5 ∧ x = zI i ∧ σC.1 28 d 2 = zI n ∧ σC.1 28 d 0 = zI k ∧ σM.2.1 14 0 d = zI (50 + k) ∧ m_X10_elementRefused d x σC = 0 ∧ m_X11_refusal (zI d) x σM = some 0) ∨ (∃ e, ¬ e = 0 ∧ m_X10_elementRefused d x σC = e ∧ m_X11_refusal (zI d) x σM = some e) := by
  obtain ⟨⟨n, hn, n1, n2⟩, -, h3⟩ := h d hd
  have hM : ¬ m_X11_isShelf (zI d) = 0 := fun e => (shM (zI d)).mp e (by rw [zI_toInt (by omega)]; omega)
  unfold m_X10_elementRefused m_X11_refusal m_X6_isEmpty m_X6_holdsRow m_X6_left
  rw [if_neg hM, if_neg (zI_in (by omega) hd), zI_cl (by omega), n1, n2]
  rcases h3 with ⟨g1, g2⟩ | ⟨g1, b, hb, -, g2⟩ | ⟨k, hk, g1, g2, -⟩
  · rw [g1, g2]
    exact Or.inr ⟨-11, by decide, rfl, rfl⟩
  · rw [g1, g2, if_pos (zI_ge' (a := b) (by omega)), if_neg (show ¬ (50 : Int32) ≤ zI b by rw [i50, zI_le (by omega) (by omega)]; omega)]
    exact Or.inr ⟨-12, by decide, rfl, rfl⟩
  · have gk : ¬ zI k = -2 := fun e => by
      have := congrArg Int32.toInt e
      rw [zI_toInt (by omega), show (-2 : Int32).toInt = -2 from rfl] at this
      omega
    rw [g1, g2, if_neg gk, if_pos (show (0 : Int32) = 0 from rfl), if_neg (zI_ge (a := k) (by omega)), if_neg (show ¬ (1 : Int32) = 0 by decide), if_pos (zI_ge' (a := 50 + k) (by omega)), if_pos (show (50 : Int32) ≤ zI (50 + k) by rw [i50, zI_le (by omega) (by omega)]; omega)]
    by_cases c : x < 0
    · rw [if_pos c, if_pos c]
      exact Or.inr ⟨-13, by decide, rfl, rfl⟩
    · rw [if_neg c, if_neg c, if_pos (Int32.not_lt.mp c)]
      have c' := Int32.le_iff_toInt_le.mp (Int32.not_lt.mp c)
      rw [show (0 : Int32).toInt = 0 from rfl] at c'
      by_cases e : zI n ≤ x
      · have e' := Int32.le_iff_toInt_le.mp e
        rw [zI_toInt (by omega)] at e'
        have f : ¬ (1 : Int32) ≤ zI n - x := fun q => by
          have := Int32.le_iff_toInt_le.mp q
          have l := x.toInt_lt
          rw [Int32.toInt_sub, zI_toInt (by omega), show (1 : Int32).toInt = 1 from rfl, Int.bmod_eq_of_le (by omega) (by omega)] at this
          omega
        rw [if_pos e, if_neg f]
        exact Or.inr ⟨-13, by decide, rfl, rfl⟩
      · have e' := Int32.lt_iff_toInt_lt.mp (Int32.not_le.mp e)
        rw [zI_toInt (by omega)] at e'
        obtain ⟨i, hi, rfl⟩ := rng (x := x) (b := 59) c' (by omega)
        rw [zI_toInt (by omega)] at e'
        rw [if_neg e, zI_sub (by omega), if_pos (by rw [i1, zI_le (by omega) (by omega)]; omega)]
        exact Or.inl ⟨i, k, n, by omega, hn, hk, rfl, rfl, rfl, rfl, rfl, rfl⟩
theorem P_element {σC σM : SS} (h : Inv σC σM) (a x : Int32) : ∃ r, m_X10_element a x σC = r ∧ m_X11_element a x σM = some r := by
  obtain ⟨P, Bn, lf, hK⟩ := h
  have e1 := shC a
  have h6 := hK.2.2.2.2.2.1
  have hB := hK.2.2.2.2.2.2.1.1
  unfold m_X10_element m_X11_element
  by_cases c : 0 ≤ a.toInt ∧ a.toInt ≤ 5
  · rw [if_neg (fun e => e1.mp e c)]
    obtain ⟨d, hd, rfl⟩ := rng (b := 5) c.1 c.2
    rw [zI_cl (by omega)]
    rcases refu (d := d) hB (by omega) h6 x with ⟨i, k, n, hi, hn, hk, rfl, n1, g1, g2, r1, r2⟩ | ⟨e, he, r1, r2⟩
    · rw [r1, r2, if_pos rfl]
      unfold m_X6_cell
      rw [n1, if_neg (zI_ge (by omega)), if_neg (by rw [zI_le (by omega) (by omega)]; omega), if_neg (by rw [i60, zI_le (by omega) (by omega)]; omega), zI_cl (by omega)]
      simp only [Option.bind]
      rw [if_pos trivial, i60, zI_mul, zI_add, if_neg (zI_in (by omega) (by omega)), zI_cl (by omega), (h6 d (by omega)).2.1 i (by omega)]
      exact ⟨_, rfl, rfl⟩
    · rw [r1, r2, if_neg he]
      simp only [Option.bind]
      rw [if_neg he]
      exact ⟨_, rfl, rfl⟩
  · rw [if_pos (e1.mpr c)]
    unfold m_X11_refusal
    rw [if_pos ((shM a).mpr c)]
    exact ⟨_, rfl, rfl⟩
theorem fit {d k : Nat} {σ : SS} (hk : k < 5) (h : σ.1 28 d 0 = zI k) (v : Int64) : m_X6_fitted d v σ = m_X11_asSort (zI k) v := by
  unfold m_X6_fitted m_X11_asSort
  rw [h]
  have : k = 0 ∨ k = 1 ∨ k = 2 ∨ k = 3 ∨ k = 4 := by omega
  rcases this with rfl | rfl | rfl | rfl | rfl <;> rfl
theorem byte_ok (v : Int64) : byteV (m_X11_asSort (zI 0) v) := by
  show byteV (v.toInt32.toInt8.toInt32.toInt64)
  unfold byteV
  rw [Int32.toInt_toInt64, Int8.toInt_toInt32]
  have h1 := v.toInt32.toInt8.le_toInt
  have h2 := v.toInt32.toInt8.toInt_lt
  omega
theorem P_put {σC σM : SS} (h : Inv σC σM) (a x : Int32) (v : Int64) : ∃ r τC τM, m_X10_put a x v σC = (r, τC) ∧ m_X11_put a x v σM = some (r, τM) ∧ Inv τC τM := by
  obtain ⟨P, Bn, lf, hK⟩ := h
  have hI : Inv σC σM := ⟨P, Bn, lf, hK⟩
  have e1 := shC a
  have hB := hK.2.2.2.2.2.2.1.1
  unfold m_X10_put m_X11_put
  by_cases c : 0 ≤ a.toInt ∧ a.toInt ≤ 5
  · rw [if_neg (fun e => e1.mp e c)]
    obtain ⟨d, hd, rfl⟩ := rng (b := 5) c.1 c.2
    rw [zI_cl (by omega)]
    rcases refu (d := d) hB (by omega) hK.2.2.2.2.2.1 x with ⟨i, k, n, hi, hn, hk, rfl, n1, g1, g2, r1, r2⟩ | ⟨e, he, r1, r2⟩
    · rw [r1, r2, if_pos rfl]
      simp only [Option.bind, bnT]
      rw [if_pos trivial, if_neg (zI_in' (by omega) (by omega)), i60, zI_mul, zI_add, if_neg (zI_in (by omega) (by omega)), zI_cl (by omega), g2, i50, zI_sub (by omega), show 50 + k - 50 = k by omega]
      unfold m_X6_write
      rw [n1, if_neg (zI_ge (by omega)), if_neg (by rw [zI_le (by omega) (by omega)]; omega), if_neg (by rw [i60, zI_le (by omega) (by omega)]; omega), zI_cl (by omega), fit hk g1]
      obtain ⟨h1, h2, h3, h4, h5, h6, h7, h8, h9⟩ := hK
      refine ⟨_, _, _, rfl, rfl, P, Bn, lf, h1.c rfl rfl rfl, h2.c rfl rfl, h3.c rfl rfl rfl rfl rfl rfl rfl rfl rfl, h4.c rfl rfl rfl rfl, h5.c rfl rfl rfl rfl rfl, fun d' hd' => ?_, h7.c rfl rfl rfl rfl, h8.c rfl rfl rfl rfl, h9.c rfl rfl rfl (fun _ _ _ => rfl) rfl⟩
      by_cases f : d' = d
      · subst f
        obtain ⟨⟨m, m1, m2, m3⟩, q2, q3⟩ := h6 d' hd'
        refine ⟨⟨m, m1, m2, m3⟩, fun j hj => ?_, Or.inr (Or.inr ⟨k, hk, g1, g2, fun k0 j hj => ?_⟩)⟩
        · rw [sL_g, sL_g]
          by_cases g : j = i
          · rw [if_pos g, if_pos (by omega)]
          · rw [if_neg g, if_neg (by omega)]
            exact q2 j hj
        · rw [sL_g]
          by_cases g : j = i
          · rw [if_pos g, k0]
            exact byte_ok v
          · rw [if_neg g]
            rcases q3 with ⟨w1, w2⟩ | ⟨w1, b, hb, -, w2⟩ | ⟨k', hk', w1, w2, w3⟩
            · rw [w2] at g2
              exact absurd g2.symm (zI_ne (by omega))
            · rw [w2, zI_eq (by omega) (by omega)] at g2
              omega
            · rw [w2, zI_eq (by omega) (by omega)] at g2
              exact w3 (by omega) j hj
      · refine sh1.c (h6 d' hd') rfl ?_ rfl rfl (fun j hj => ?_)
        · exact sL_h (by omega)
        · rw [sL_g, if_neg (by omega)]
    · rw [r1, r2, if_neg he]
      simp only [Option.bind]
      rw [if_neg he]
      exact ⟨_, _, _, rfl, rfl, hI⟩
  · rw [if_pos (e1.mpr c)]
    unfold m_X11_refusal
    rw [if_pos ((shM a).mpr c)]
    exact ⟨_, _, _, rfl, rfl, hI⟩
