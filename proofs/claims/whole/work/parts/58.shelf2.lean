/-! shift, taken, places from a row -/
theorem sh113 (d i c : Nat) (v3 v4 : Int32) (hd : d < 6) (hi : i + c ≤ 60) : ∀ (n q : Nat) (σ : SS), q ≤ c → c - q < n → ∃ ρ : SS, L_X11_shift_113 n (zI d) (zI i) v3 v4 (zI c) (zI q) σ = L_X11_shift_150 FU v3 v4 (zI c) 0 ρ ∧ ρ.1 = σ.1 ∧ ρ.2.1 = σ.2.1 ∧ (∀ t, t ≠ 17 → ρ.2.2 t = σ.2.2 t) ∧ (∀ k, q ≤ k → k < c → ρ.2.2 17 0 k = σ.2.2 16 0 (60 * d + i + k)) ∧ (∀ k, k < q → ρ.2.2 17 0 k = σ.2.2 17 0 k)
  | 0, q, σ, h1, h2 => absurd h2 (by omega)
  | n + 1, q, σ, h1, h2 => by
    by_cases e : q = c
    · subst e
      refine ⟨σ, ?_, rfl, rfl, fun _ _ => rfl, fun k a b => absurd a (by omega), fun k a => rfl⟩
      show (if _ then _ else _) = _
      rw [if_pos (Int32.le_refl _)]
    · obtain ⟨ρ, r1, r2, r3, r4, r5, r6⟩ := sh113 d i c v3 v4 hd hi n (q + 1) (sL σ 17 0 q (σ.2.2 16 0 (60 * d + i + q))) (by omega) (by omega)
      have fr : ∀ t, t ≠ 17 → (sL σ 17 0 q (σ.2.2 16 0 (60 * d + i + q))).2.2 t = σ.2.2 t := fun t ht => funext fun b => sL_h (by omega)
      refine ⟨ρ, ?_, r2, r3, fun t ht => (r4 t ht).trans (fr t ht), fun k a b => ?_, fun k a => ?_⟩
      · rw [← r1]
        show (if _ then _ else _) = _
        rw [if_neg (by rw [zI_le (by omega) (by omega)]; omega), i60, zI_mul, zI_add, zI_add, if_neg (zI_in (by omega) (by omega)), if_neg (zI_in (by omega) (by omega)), zI_cl (by omega), zI_cl (by omega), i1, zI_add]
      · by_cases f : k = q
        · rw [r6 k (by omega), sL_g, if_pos f, f]
        · rw [r5 k (by omega) b, fr 16 (by decide)]
      · rw [r6 k (by omega), sL_g, if_neg (by omega)]
theorem sh150 (d i c : Nat) (hd : d < 6) (hi : i + c ≤ 60) : ∀ (n q : Nat) (σ : SS), q ≤ c → c - q < n → ∃ ρ : SS, L_X11_shift_150 n (zI d) (zI i) (zI c) (zI q) σ = some (zI c, ρ) ∧ ρ.1 = σ.1 ∧ ρ.2.1 = σ.2.1 ∧ (∀ t, t ≠ 16 → ρ.2.2 t = σ.2.2 t) ∧ (∀ k, q ≤ k → k < c → ρ.2.2 16 0 (60 * d + i + k) = σ.2.2 17 0 k) ∧ (∀ x, ¬ (60 * d + i + q ≤ x ∧ x < 60 * d + i + c) → ρ.2.2 16 0 x = σ.2.2 16 0 x)
  | 0, q, σ, h1, h2 => absurd h2 (by omega)
  | n + 1, q, σ, h1, h2 => by
    by_cases e : q = c
    · subst e
      refine ⟨σ, ?_, rfl, rfl, fun _ _ => rfl, fun k a b => absurd a (by omega), fun k a => rfl⟩
      show (if _ then _ else _) = _
      rw [if_pos (Int32.le_refl _)]
    · obtain ⟨ρ, r1, r2, r3, r4, r5, r6⟩ := sh150 d i c hd hi n (q + 1) (sL σ 16 0 (60 * d + i + q) (σ.2.2 17 0 q)) (by omega) (by omega)
      have fr : ∀ t, t ≠ 16 → (sL σ 16 0 (60 * d + i + q) (σ.2.2 17 0 q)).2.2 t = σ.2.2 t := fun t ht => funext fun b => sL_h (by omega)
      refine ⟨ρ, ?_, r2, r3, fun t ht => (r4 t ht).trans (fr t ht), fun k a b => ?_, fun x a => ?_⟩
      · rw [← r1]
        show (if _ then _ else _) = _
        rw [if_neg (by rw [zI_le (by omega) (by omega)]; omega), i60, zI_mul, zI_add, zI_add, if_neg (zI_in (by omega) (by omega)), if_neg (zI_in (by omega) (by omega)), zI_cl (by omega), zI_cl (by omega), i1, zI_add]
      · by_cases f : k = q
        · rw [r6 _ (by omega), sL_g, if_pos (by omega), f]
        · rw [r5 k (by omega) b, fr 17 (by decide)]
      · rw [r6 x (by omega), sL_g, if_neg (by omega)]
theorem P_shift {σC σM : SS} (h : Inv σC σM) (a x b y n : Int32) : ∃ r τC τM, m_X10_shift a x b y n σC = some (r, τC) ∧ m_X11_shift a x b y n σM = some (r, τM) ∧ Inv τC τM := by
  obtain ⟨P, Bn, lf, hK⟩ := h
  have hI : Inv σC σM := ⟨P, Bn, lf, hK⟩
  have e1 := shC a
  have e2 := shM a
  have e3 := shC b
  have e4 := shM b
  obtain ⟨h1, h2, h3, h4, h5, h6, h7, h8, h9⟩ := hK
  have hB := h7.1
  unfold m_X10_shift m_X11_shift
  by_cases c : 0 ≤ a.toInt ∧ a.toInt ≤ 5
  · rw [if_neg (fun e => e1.mp e c), if_neg (fun e => e2.mp e c)]
    by_cases c' : 0 ≤ b.toInt ∧ b.toInt ≤ 5
    · rw [if_neg (fun e => e3.mp e c'), if_neg (fun e => e4.mp e c')]
      obtain ⟨d, hd, rfl⟩ := rng (b := 5) c.1 c.2
      obtain ⟨e, he, rfl⟩ := rng (b := 5) c'.1 c'.2
      rw [if_neg (zI_in (by omega) (by omega)), if_neg (zI_in (by omega) (by omega)), zI_cl (by omega), zI_cl (by omega)]
      obtain ⟨⟨l, l1, l2, l3⟩, u2, u3⟩ := h6 d (by omega)
      obtain ⟨⟨k, k1, k2, k3⟩, w2, w3⟩ := h6 e (by omega)
      -- emptiness
      have em : ∀ d', d' < 6 → (m_X6_isEmpty d' σC = 0 ↔ ¬ σM.2.1 14 0 d' < 0) ∧ (m_X6_isEmpty d' σC = 0 ↔ 0 ≤ σM.2.1 14 0 d') ∧ (¬ σM.2.1 14 0 d' < 0 → (m_X6_holdsRow d' σC = 0 ↔ σM.2.1 14 0 d' < 50)) := fun d' hd' => by
        obtain ⟨-, -, g⟩ := h6 d' hd'
        unfold m_X6_isEmpty m_X6_holdsRow
        rcases g with ⟨g1, g2⟩ | ⟨g1, b, hb, -, g2⟩ | ⟨q, hq, g1, g2, -⟩
        · rw [g1, g2]
          decide
        · rw [g1, g2, i50, zI_lt (by omega) (by omega)]
          have z1 := zI_ge (a := b) (by omega)
          have z2 := zI_ge' (a := b) (by omega)
          refine ⟨⟨fun _ => z1, fun _ => by decide⟩, ⟨fun _ => z2, fun _ => by decide⟩, fun _ => ⟨fun _ => by omega, fun _ => by decide⟩⟩
        · have gk : ¬ zI q = -2 := fun e => by
            have := congrArg Int32.toInt e
            rw [zI_toInt (by omega), show (-2 : Int32).toInt = -2 from rfl] at this
            omega
          rw [g1, g2, i50, zI_lt (by omega) (by omega), if_neg gk, if_neg (zI_ge (a := q) (by omega))]
          have z1 := zI_ge (a := 50 + q) (by omega)
          have z2 := zI_ge' (a := 50 + q) (by omega)
          refine ⟨⟨fun _ => z1, fun _ => rfl⟩, ⟨fun _ => z2, fun _ => rfl⟩, fun _ => ⟨fun e => absurd e (by decide), fun e => absurd e (by omega)⟩⟩
      obtain ⟨m1, m2, m3⟩ := em d (by omega)
      obtain ⟨n1, n2, n3⟩ := em e (by omega)
      by_cases f : σM.2.1 14 0 d < 0
      · rw [if_pos f, if_neg (fun q => m1.mp q f)]
        exact ⟨_, _, _, rfl, rfl, hI⟩
      · rw [if_neg f, if_pos (m1.mpr f)]
        by_cases f2 : 0 ≤ σM.2.1 14 0 e
        · rw [if_pos f2, if_pos (n2.mpr f2)]
          by_cases f3 : σM.2.1 14 0 d < 50
          · rw [if_pos f3, if_pos ((m3 f).mpr f3)]
            exact ⟨_, _, _, rfl, rfl, hI⟩
          · rw [if_neg f3, if_neg (fun q => f3 ((m3 f).mp q))]
            -- both hold: the same sort
            have so : σC.1 28 d 0 = σC.1 28 e 0 ↔ σM.2.1 14 0 d = σM.2.1 14 0 e := by
              rcases u3 with ⟨g1, g2⟩ | ⟨g1, b, hb, -, g2⟩ | ⟨q, hq, g1, g2, -⟩
              · rw [g2] at f; exact absurd (by decide) f
              · rw [g2, i50, zI_lt (by omega) (by omega)] at f3; omega
              · rcases w3 with ⟨g3, g4⟩ | ⟨g3, b, hb, -, g4⟩ | ⟨q', hq', g3, g4, -⟩
                · rw [g4] at f2; exact absurd f2 (by decide)
                · rw [g1, g2, g3, g4, zI_eq (by omega) (by omega)]
                  exact ⟨fun z => absurd z (zI_ne (by omega)), fun z => absurd z (by omega)⟩
                · rw [g1, g2, g3, g4, zI_eq (by omega) (by omega), zI_eq (by omega) (by omega)]
                  omega
            by_cases f4 : σM.2.1 14 0 d = σM.2.1 14 0 e
            · rw [if_pos f4, if_pos (so.mpr f4)]
              by_cases g1 : n < 0
              · rw [if_pos g1, if_pos g1]
                exact ⟨_, _, _, rfl, rfl, hI⟩
              · rw [if_neg g1, if_neg g1]
                by_cases g2 : x < 0
                · rw [if_pos g2, if_pos g2]
                  exact ⟨_, _, _, rfl, rfl, hI⟩
                · rw [if_neg g2, if_neg g2]
                  by_cases g3 : y < 0
                  · rw [if_pos g3, if_pos g3]
                    exact ⟨_, _, _, rfl, rfl, hI⟩
                  · rw [if_neg g3, if_neg g3]
                    have p1 := Int32.le_iff_toInt_le.mp (Int32.not_lt.mp g1)
                    have p2 := Int32.le_iff_toInt_le.mp (Int32.not_lt.mp g2)
                    have p3 := Int32.le_iff_toInt_le.mp (Int32.not_lt.mp g3)
                    rw [show (0 : Int32).toInt = 0 from rfl] at p1 p2 p3
                    have t1 := n.toInt_lt
                    have t2 := x.toInt_lt
                    have t3 := y.toInt_lt
                    have q1 : (zI l - x < n) ↔ (l : Int) - x.toInt < n.toInt := by
                      rw [Int32.lt_iff_toInt_lt, Int32.toInt_sub, zI_toInt (by omega), Int.bmod_eq_of_le (by omega) (by omega)]
                    have q2 : (zI l - n < x) ↔ (l : Int) - n.toInt < x.toInt := by
                      rw [Int32.lt_iff_toInt_lt, Int32.toInt_sub, zI_toInt (by omega), Int.bmod_eq_of_le (by omega) (by omega)]
                    have q3 : (n ≤ zI k - y) ↔ n.toInt ≤ (k : Int) - y.toInt := by
                      rw [Int32.le_iff_toInt_le, Int32.toInt_sub, zI_toInt (by omega), Int.bmod_eq_of_le (by omega) (by omega)]
                    have q4 : (y ≤ zI k - n) ↔ y.toInt ≤ (k : Int) - n.toInt := by
                      rw [Int32.le_iff_toInt_le, Int32.toInt_sub, zI_toInt (by omega), Int.bmod_eq_of_le (by omega) (by omega)]
                    unfold m_X6_left
                    rw [if_pos (Int32.not_lt.mp g2), if_pos (Int32.not_lt.mp g3), l2, l3, k2, k3]
                    by_cases g4 : (l : Int) - x.toInt < n.toInt
                    · rw [if_pos (q1.mpr g4), if_pos (q2.mpr (by omega))]
                      exact ⟨_, _, _, rfl, rfl, hI⟩
                    · rw [if_neg (fun z => g4 (q1.mp z)), if_neg (show ¬ (zI l - n < x) from fun z => g4 (by have := q2.mp z; omega))]
                      by_cases g5 : n.toInt ≤ (k : Int) - y.toInt
                      · rw [if_pos (q3.mpr g5), if_pos (q4.mpr (by omega))]
                        obtain ⟨i, hi, rfl⟩ := rng (x := x) (b := 60) p2 (by omega)
                        obtain ⟨j, hj, rfl⟩ := rng (x := y) (b := 60) p3 (by omega)
                        obtain ⟨m, hm, rfl⟩ := rng (x := n) (b := 60) p1 (by omega)
                        rw [zI_toInt (by omega), zI_toInt (by omega)] at g4 g5
                        rw [zI_cl (by omega), zI_cl (by omega), zI_cl (by omega), if_pos ⟨g2, g3, g1, by omega, by omega⟩]
                        obtain ⟨ρ, r1, r2, r3, r4, r5, r6⟩ := sh113 d i m (zI e) (zI j) (by omega) (by omega) FU 0 σM (by omega) (by unfold FU; omega)
                        obtain ⟨π, s1, s2, s3, s4, s5, s6⟩ := sh150 e j m (by omega) (by omega) FU 0 ρ (by omega) (by unfold FU; omega)
                        rw [← i0] at r1 s1
                        rw [r1, s1]
                        refine ⟨_, _, _, rfl, rfl, P, Bn, lf, h1.c rfl (by rw [s2, r2]) (by rw [s2, r2]), h2.c rfl (by rw [s3, r3]), h3.c rfl (by rw [s2, r2]) (by rw [s2, r2]) rfl rfl rfl (by rw [s3, r3]) (by rw [s3, r3]) (by rw [s3, r3]), h4.c rfl (by rw [s2, r2]) rfl (by rw [s3, r3]), h5.c rfl (by rw [s2, r2]) rfl rfl (by rw [s3, r3]), fun d' hd' => ?_, h7.c rfl (by rw [s2, r2]) rfl (by rw [s3, r3]), h8.c rfl (by rw [s2, r2]) rfl (by rw [s3, r3]), h9.c rfl rfl rfl (fun _ _ _ => by rw [s2, r2]) (by rw [s3, r3])⟩
                        have cel : ∀ z, z < 60 → (sLf σC 29 e (va_cpy (σC.2.2 29 d) (σC.2.2 29 e) i j m)).2.2 29 e z = if j ≤ z ∧ z < j + m then σC.2.2 29 d (i + (z - j)) else σC.2.2 29 e z := fun z hz => by
                          show (if _ then _ else _) = _
                          rw [if_pos ⟨rfl, rfl⟩]
                          rfl
                        by_cases v : d' = e
                        · subst v
                          refine ⟨⟨k, k1, k2, by rw [s3, r3]; exact k3⟩, fun z hz => ?_, ?_⟩
                          · rw [cel z hz]
                            by_cases w : j ≤ z ∧ z < j + m
                            · have := s5 (z - j) (by omega) (by omega)
                              rw [show 60 * d' + j + (z - j) = 60 * d' + z by omega] at this
                              rw [if_pos w, this, r5 (z - j) (by omega) (by omega), show 60 * d + i + (z - j) = 60 * d + (i + (z - j)) by omega, u2 _ (by omega)]
                            · rw [if_neg w, s6 _ (by omega), r4 16 (by decide), w2 z hz]
                          · rw [s3, r3]
                            rcases w3 with w3 | w3 | ⟨q', hq', g3, g4', g5'⟩
                            · exact Or.inl w3
                            · exact Or.inr (Or.inl w3)
                            · refine Or.inr (Or.inr ⟨q', hq', g3, g4', fun z0 z hz => ?_⟩)
                              rw [cel z hz]
                              by_cases w : j ≤ z ∧ z < j + m
                              · rw [if_pos w]
                                rcases u3 with ⟨y1, y2⟩ | ⟨y1, b, hb, -, y2⟩ | ⟨q, hq, y1, y2, y3⟩
                                · rw [y2] at f; exact absurd (by decide) f
                                · rw [y2, i50, zI_lt (by omega) (by omega)] at f3; omega
                                · rw [y2, g4', zI_eq (by omega) (by omega)] at f4
                                  exact y3 (by omega) _ (by omega)
                              · rw [if_neg w]
                                exact g5' z0 z hz
                        · refine sh1.c (h6 d' hd') rfl ?_ (by rw [s3, r3]) (by rw [s3, r3]) (fun z hz => ?_)
                          · funext z
                            show (if _ then _ else _) = _
                            rw [if_neg (fun q => v q.2)]
                          · rw [s6 _ (by omega), r4 16 (by decide)]
                      · rw [if_neg (fun z => g5 (q3.mp z)), if_neg (show ¬ (y ≤ zI k - n) from fun z => g5 (by have := q4.mp z; omega))]
                        exact ⟨_, _, _, rfl, rfl, hI⟩
            · rw [if_neg f4, if_neg (fun q => f4 (so.mp q))]
              exact ⟨_, _, _, rfl, rfl, hI⟩
        · rw [if_neg f2, if_neg (fun q => f2 (n2.mp q))]
          exact ⟨_, _, _, rfl, rfl, hI⟩
    · rw [if_pos (e3.mpr c'), if_pos (e4.mpr c')]
      exact ⟨_, _, _, rfl, rfl, hI⟩
  · rw [if_pos (e1.mpr c), if_pos (e2.mpr c)]
    by_cases c' : 0 ≤ b.toInt ∧ b.toInt ≤ 5
    · rw [if_neg (fun e => e3.mp e c')]
      exact ⟨_, _, _, rfl, rfl, hI⟩
    · rw [if_pos (e3.mpr c')]
      exact ⟨_, _, _, rfl, rfl, hI⟩
theorem undS (n b k : Nat) (σ : SS) : L_X5_isUnder_4 (n + 1) (zI k) (zI b) 0 σ = L_X5_isUnder_4 (n + 1) (zI k) (zI b) 0 σ := rfl
def undK : Nat → Nat → Bool
  | 0, k => k == 0
  | 1, k => k == 1 || k == 0
  | 2, k => k == 2 || k == 0
  | 3, k => k == 3 || k == 2 || k == 0
  | 4, k => k == 4 || k == 1 || k == 0
  | 5, k => k == 5 || k == 3 || k == 2 || k == 0
  | 6, k => k == 6 || k == 0
  | _, k => k == 7 || k == 4 || k == 1 || k == 0
theorem undC {b k : Nat} (hb : b < 8) (hk : k < 8) (σ : SS) : L_X5_isUnder_4 FU (zI k) (zI b) 0 σ = some (cond (undK b k) 1 0) := by
  have h1 : b = 0 ∨ b = 1 ∨ b = 2 ∨ b = 3 ∨ b = 4 ∨ b = 5 ∨ b = 6 ∨ b = 7 := by omega
  have h2 : k = 0 ∨ k = 1 ∨ k = 2 ∨ k = 3 ∨ k = 4 ∨ k = 5 ∨ k = 6 ∨ k = 7 := by omega
  rcases h1 with rfl | rfl | rfl | rfl | rfl | rfl | rfl | rfl <;> rcases h2 with rfl | rfl | rfl | rfl | rfl | rfl | rfl | rfl <;> rfl
theorem undM {b k : Nat} (hb : b < 8) (hk : k < 8) (d : Nat) (hd : d < 6) (σ : SS) {v : Int32} (hv : m_X11_kindOf (σ.2.1 14 0 d) σ = some v) : L_X11_taken_58 FU (zI d) (zI k) (zI b) σ = some (cond (undK b k) v (-12)) := by
  have st : ∀ n v3, L_X11_taken_58 (n + 1) (zI d) (zI k) v3 σ = if v3 = zI k then some v else if v3 ≤ 0 then some (-12) else L_X11_taken_58 n (zI d) (zI k) (m_X11_above v3) σ := fun n v3 => by
    show (if _ then _ else _) = _
    by_cases c : v3 = zI k
    · rw [if_pos c, if_pos c, if_neg (zI_in (by omega) hd), zI_cl (by omega), hv]
      rfl
    · rw [if_neg c, if_neg c]
  rw [show FU = 99995 + 1 + 1 + 1 + 1 + 1 from rfl, st, st, st, st, st]
  have h1 : b = 0 ∨ b = 1 ∨ b = 2 ∨ b = 3 ∨ b = 4 ∨ b = 5 ∨ b = 6 ∨ b = 7 := by omega
  have h2 : k = 0 ∨ k = 1 ∨ k = 2 ∨ k = 3 ∨ k = 4 ∨ k = 5 ∨ k = 6 ∨ k = 7 := by omega
  rcases h1 with rfl | rfl | rfl | rfl | rfl | rfl | rfl | rfl <;> rcases h2 with rfl | rfl | rfl | rfl | rfl | rfl | rfl | rfl <;> rfl
theorem P_taken {σC σM : SS} (h : Inv σC σM) (a x : Int32) : ∃ r, m_X10_taken a x σC = some r ∧ m_X11_taken a x σM = some r := by
  obtain ⟨P, Bn, lf, hK⟩ := h
  have e1 := shC a
  have e2 := shM a
  have e3 : m_X11_within x.toInt64 0 7 = 0 ↔ ¬ (0 ≤ x.toInt ∧ x.toInt ≤ 7) := wM32
  have e4 : m_X10_isWithin x 0 7 = 0 ↔ ¬ (0 ≤ x.toInt ∧ x.toInt ≤ 7) := wC
  obtain ⟨h1, h2, h3, h4, h5, h6, h7, h8, h9⟩ := hK
  obtain ⟨b1, b2, b3, b4⟩ := h7
  unfold m_X10_taken m_X11_taken
  by_cases c : 0 ≤ a.toInt ∧ a.toInt ≤ 5
  · rw [if_neg (fun e => e1.mp e c), if_neg (fun e => e2.mp e c)]
    by_cases c2 : 0 ≤ x.toInt ∧ x.toInt ≤ 7
    · rw [if_neg (fun e => e4.mp e c2), if_neg (fun e => e3.mp e c2)]
      obtain ⟨d, hd, rfl⟩ := rng (b := 5) c.1 c.2
      obtain ⟨k, hk, rfl⟩ := rng (b := 7) c2.1 c2.2
      rw [if_neg (zI_in (by omega) (by omega)), zI_cl (by omega)]
      obtain ⟨-, -, g⟩ := h6 d (by omega)
      unfold m_X6_isEmpty m_X6_holdsRow
      rcases g with ⟨g1, g2⟩ | ⟨g1, b, hb, g3, g2⟩ | ⟨q, hq, g1, g2, -⟩
      · rw [g1, g2]
        exact ⟨-11, rfl, rfl⟩
      · obtain ⟨f1, kk, f2, f3⟩ := b4 b hb
        have kM : m_X11_kindOf (σM.2.1 14 0 d) σM = some (zI kk) := by
          unfold m_X11_kindOf
          rw [g2, if_neg (zI_in (by omega) (by omega)), zI_cl (by omega), f1, f3]
        have kC : m_X5_kindOf (zI b) σC = some (zI kk) := by
          unfold m_X5_kindOf
          rw [if_neg (fun e => (hasB b2 b1 (zI b)).mp e (by rw [zI_toInt (by omega)]; omega)), if_neg (zI_in (by omega) (by omega)), zI_cl (by omega), f3]
        have uC : m_X5_isUnder (zI kk) (zI k) σC = some (cond (undK kk k) 1 0) := undC f2 (by omega) σC
        have uM := undM f2 (by omega : k < 8) d (by omega) σM kM
        rw [g1, kM, g2, g3, kC, if_pos (zI_ge' (a := b) (by omega)), if_pos (show zI b < 50 by rw [i50, zI_lt (by omega) (by omega)]; omega)]
        simp only [Option.bind]
        rw [uM, uC]
        cases undK kk k with
        | true => exact ⟨zI kk, rfl, rfl⟩
        | false => exact ⟨-12, rfl, rfl⟩
      · have gk : ¬ zI q = -2 := fun e => by
          have := congrArg Int32.toInt e
          rw [zI_toInt (by omega), show (-2 : Int32).toInt = -2 from rfl] at this
          omega
        rw [g1, g2, if_neg gk, if_pos (show (0 : Int32) = 0 from rfl), if_neg (zI_ge (a := q) (by omega)), if_neg (show ¬ (1 : Int32) = 0 by decide), if_pos (zI_ge' (a := 50 + q) (by omega)), if_neg (show ¬ zI (50 + q) < 50 by rw [i50, zI_lt (by omega) (by omega)]; omega)]
        exact ⟨-12, rfl, rfl⟩
    · rw [if_pos (e4.mpr c2), if_pos (e3.mpr c2)]
      exact ⟨_, rfl, rfl⟩
  · rw [if_pos (e1.mpr c), if_pos (e2.mpr c)]
    exact ⟨_, rfl, rfl⟩
