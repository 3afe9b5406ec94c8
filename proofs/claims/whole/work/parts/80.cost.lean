/-! the call cost -/
theorem P_cost {σC σM : SS} (h : Inv σC σM) (a b w : Int32) : ∃ r τC τM, m_X10_cost a b w σC = some (r, τC) ∧ m_X11_cost a b w σM = some (r, τM) ∧ Inv τC τM := by
  obtain ⟨P, Bn, lf, hK⟩ := h
  have hI : Inv σC σM := ⟨P, Bn, lf, hK⟩
  have hP := hK.1.1
  have e1 := shC a
  have e3 : m_X11_within w.toInt64 0 1 = 0 ↔ ¬ (0 ≤ w.toInt ∧ w.toInt ≤ 1) := wM32
  have e4 : m_X10_isWithin w 0 1 = 0 ↔ ¬ (0 ≤ w.toInt ∧ w.toInt ≤ 1) := wC
  have P0 : zI P = 0 ↔ P = 0 := by rw [i0, zI_eq (by omega) (by omega)]
  have p54 : (2 : Nat) ^ 54 = 18014398509481984 := by decide
  unfold m_X10_cost m_X11_cost
  rw [hK.1.2.2.1]
  by_cases c : 0 ≤ a.toInt ∧ a.toInt ≤ 5
  · rw [if_neg (fun e => e1.mp e c)]
    obtain ⟨d, hd, rfl⟩ := rng (b := 5) c.1 c.2
    rw [zI_cl (by omega)]
    by_cases c2 : 0 ≤ b.toInt ∧ b.toInt ≤ 999
    · rw [if_neg (fun e => (minC b).mp e c2), if_neg (fun e => (minM b).mp e c2)]
      by_cases c3 : 0 ≤ w.toInt ∧ w.toInt ≤ 1
      · rw [if_neg (fun e => e4.mp e c3), if_neg (fun e => e3.mp e c3)]
        obtain ⟨k, hk, ek⟩ := rng (b := 1) c3.1 c3.2
        rcases wref hK (by omega : d < 6) with ⟨e, he, z1, z2, z3⟩ | ⟨p0, z1, z2, z3⟩ | ⟨hp, z1, z2, z3, n, f, hn, l1, l2, rfl, hb, u, q1, q2⟩
        · rw [z1, z2]
          simp only [Option.bind_some]
          rcases he with rfl | rfl
          · exact ⟨_, _, _, rfl, rfl, hI⟩
          · exact ⟨_, _, _, rfl, rfl, hI⟩
        · rw [z1, z2]
          simp only [Option.bind_some]
          rw [if_pos trivial, if_pos (P0.mpr p0)]
          exact ⟨_, _, _, rfl, rfl, hI⟩
        · rw [z1, z2, if_pos (show (0 : Int32) = 0 from rfl)]
          simp only [Option.bind_some]
          rw [if_pos trivial, if_neg (fun z => by have := P0.mp z; omega)]
          have hH : ∀ p, hT n (σC.2.2 29 d) p < 4 := hT_lt n _
          have hM : WM lf (σM.2.1 1 0) P 0 (hT n (σC.2.2 29 d)) d σM := ⟨hK.km, hK.1.2.2.1, q2⟩
          obtain ⟨τM, m1, m2, m3, m4⟩ := walksM hH (van := 0) hp (mi := b) hM
          have m1 : m_X11_walks (zI d) 0 b σM = some τM := m1
          obtain ⟨s1, s2⟩ := hK.wcn q1
          obtain ⟨τC, t1, t2, t3, t4, t5⟩ := followC hH (van := 0) hp (mi := b) s1
          have t1 : m_X9_follow d 0 b (m_X7_supposeNow σC) = some τC := t1
          have fI : InvK P Bn lf τC τM := hK.fr (s2.tr t5.fc) m4.fm
          have eM : τM.2.1 1 0 = σM.2.1 1 0 := (hM.fr m4).1.1
          have hn' := t4.1.1
          have e10 : m_X8_number 0 10 σC = σM.2.1 1 0 87 := (numG (k := 3) (by omega) 0 σC).trans (hK.nm.2.1 3 (by omega))
          have ok := hK.nm.2.2.2.1 3 (by omega)
          obtain ⟨v, hv, ev⟩ := rng (x := σM.2.1 1 0 87) (b := 999) ok.1 ok.2
          have cc := fol_b (sN lf (σM.2.1 1 0) (σM.2.1 1 0 84) (σM.2.1 1 0 86) 0) (hT n (σC.2.2 29 d)) (σM.2.1 1 0 85 - 5 * σM.2.1 1 0 86) 0 b (fun p k m => (sN_e lf (σM.2.1 1 0) _ _ _ p k m).2) (P - 0) 0 0 (-2) (by omega) (Or.inl rfl)
          have cc := (m2_of (P := True) cc.2).2
          have cc : (folW (sN lf (σM.2.1 1 0) (σM.2.1 1 0 84) (σM.2.1 1 0 86) 0) (hT n (σC.2.2 29 d)) (σM.2.1 1 0 85 - 5 * σM.2.1 1 0 86) P 0 b).2 < 0 ↔ (folW (sN lf (σM.2.1 1 0) (σM.2.1 1 0 84) (σM.2.1 1 0 86) 0) (hT n (σC.2.2 29 d)) (σM.2.1 1 0 85 - 5 * σM.2.1 1 0 86) P 0 b).2 = -2 := cc
          simp only [bnT]
          rw [t1, m1]
          simp only [Option.bind_some]
          rw [t2, m2, eM, show (87 : Int32).toNatClampNeg = 87 from rfl, e10, ev, zI_64 (by omega)]
          obtain ⟨c1, c2'⟩ := waysC hn' t4.2.2.1
          obtain ⟨w1, w2⟩ := waysM hK.km.2.2.2 eM (hM.fr m4).2.1
          have hw := pw12 hP
          have hle := fW_le (σM.2.1 1 0) P (-1) 0
          by_cases q : (folW (sN lf (σM.2.1 1 0) (σM.2.1 1 0 84) (σM.2.1 1 0 86) 0) (hT n (σC.2.2 29 d)) (σM.2.1 1 0 85 - 5 * σM.2.1 1 0 86) P 0 b).2 = -2
          · have hm : v * (12 ^ P - fW (σM.2.1 1 0) P (-1) 0) ≤ 999 * 8916100448256 := Nat.mul_le_mul hv (by omega)
            obtain ⟨r, r1, r2⟩ := part_ok (a := v * (12 ^ P - fW (σM.2.1 1 0) P (-1) 0)) (b := 12 ^ P) (by omega) hw.1 (by omega) hk τC τM
            rw [if_pos q, if_pos (cc.mpr q), i0, c1, w1, c2' _ 0 (by omega), w2 _ 0 (by omega)]
            simp only [Option.bind_some]
            rw [lI_sub hle, lI_mul, ek, r1, r2]
            exact ⟨r, _, _, rfl, rfl, P, Bn, lf, fI⟩
          · rw [if_neg q, if_neg (fun z => q (cc.mp z))]
            obtain ⟨r, r1, r2⟩ := part_ok (a := v) (b := 1) (by omega) (by omega) (by omega) hk τC τM
            have hr : r = if w = 0 then lI v else 1 := by
              have hC := parC (lI v) (lI 1) (zI k) 1 FU 0 v 1 τC (by omega) (by unfold FU; omega) (by omega) (by omega) (by omega)
              have hC : m_X0_partOf (lI v) (lI 1) (zI k) τC = _ := hC
              rw [r1] at hC
              have hC := Option.some.inj hC
              rw [hC, Nat.gcd_one_right, ptV, if_neg (by omega : ¬ 1 = 0), lI_div (by omega) (by omega), lI_div (by omega) (by omega), Nat.div_one, Nat.div_one, ek]
              rfl
            rw [show (1 : Int64) = lI 1 from rfl, ← ek] at *
            rw [ek, r2, ← ek]
            simp only [Option.bind_some]
            by_cases w0 : w = 0
            · rw [if_pos w0] at hr ⊢
              exact ⟨r, _, _, by rw [hr], rfl, P, Bn, lf, fI⟩
            · rw [if_neg w0] at hr ⊢
              exact ⟨r, _, _, by rw [hr], rfl, P, Bn, lf, fI⟩
      · have bb : ∃ e, m_X11_bytesIs (zI d) σM = some e := by
          rcases wref hK (by omega : d < 6) with ⟨e, he, -, z, -⟩ | ⟨-, -, z, -⟩ | ⟨-, -, z, -⟩
          · exact ⟨e, z⟩
          · exact ⟨1, z⟩
          · exact ⟨1, z⟩
        obtain ⟨e, be⟩ := bb
        rw [if_pos (e4.mpr c3), if_pos (e3.mpr c3), be]
        simp only [Option.bind_some]
        by_cases z : e = 1
        · rw [if_pos z]
          exact ⟨_, _, _, rfl, rfl, hI⟩
        · rw [if_neg z]
          exact ⟨_, _, _, rfl, rfl, hI⟩
    · have bb : ∃ e, m_X11_bytesIs (zI d) σM = some e := by
        rcases wref hK (by omega : d < 6) with ⟨e, he, -, z, -⟩ | ⟨-, -, z, -⟩ | ⟨-, -, z, -⟩
        · exact ⟨e, z⟩
        · exact ⟨1, z⟩
        · exact ⟨1, z⟩
      obtain ⟨e, be⟩ := bb
      rw [if_pos ((minC b).mpr c2), if_pos ((minM b).mpr c2), be]
      simp only [Option.bind_some]
      by_cases z : e = 1
      · rw [if_pos z]
        exact ⟨_, _, _, rfl, rfl, hI⟩
      · rw [if_neg z]
        exact ⟨_, _, _, rfl, rfl, hI⟩
  · rw [if_pos (e1.mpr c), bytN σM c]
    exact ⟨_, _, _, rfl, rfl, hI⟩
