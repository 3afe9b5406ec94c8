/-! walks in thought: the call walk -/
theorem InvK.wc {P Bn d : Nat} {lf : Option FN} {σC σM : SS} (h : InvK P Bn lf σC σM) {H : Nat → Nat} (hh : ∀ p, p < 12 → m_X6_heldAt d (zI p) σC = zI (H p)) {men scr mg : Int32} (hm : 0 < men.toInt) : WC lf (σM.2.1 1 0) P men scr mg ((σM.2.1 1 0) 85 - 5 * scr) H d (m_X7_suppose men scr mg σC) ∧ FrC σC (m_X7_suppose men scr mg σC) := by
  obtain ⟨s1, s2, s3⟩ := sup (men := men) (scr := scr) (mg := mg) h.nm h.lc hm
  refine ⟨⟨s1, s2, (s3.1 1 0 1 (by decide) (by decide) (by omega) (by omega)).trans h.1.2.1, fun p hp => ?_⟩, s3⟩
  rw [held_c (funext fun j => funext fun k => s3.1 28 j k (by decide) (by decide) (by omega) (by omega)) s3.2.2]
  exact hh p hp
theorem InvK.wcn {P Bn d : Nat} {lf : Option FN} {σC σM : SS} (h : InvK P Bn lf σC σM) {H : Nat → Nat} (hh : ∀ p, p < 12 → m_X6_heldAt d (zI p) σC = zI (H p)) : WC lf (σM.2.1 1 0) P (σM.2.1 1 0 84) (σM.2.1 1 0 86) 0 ((σM.2.1 1 0) 85 - 5 * (σM.2.1 1 0) 86) H d (m_X7_supposeNow σC) ∧ FrC σC (m_X7_supposeNow σC) := by
  obtain ⟨s1, s2, s3⟩ := supN h.nm h.lc
  refine ⟨⟨s1, s2, (s3.1 1 0 1 (by decide) (by decide) (by omega) (by omega)).trans h.1.2.1, fun p hp => ?_⟩, s3⟩
  rw [held_c (funext fun j => funext fun k => s3.1 28 j k (by decide) (by decide) (by omega) (by omega)) s3.2.2]
  exact hh p hp
/-- why a walk by a row can't be thought of, or how it is held -/
theorem wref {P Bn d : Nat} {lf : Option FN} {σC σM : SS} (h : InvK P Bn lf σC σM) (hd : d < 6) : (∃ e, (e = -11 ∨ e = -12) ∧ m_X10_walkRefused d σC = e ∧ m_X11_bytesIs (zI d) σM = some e ∧ m_X11_walkIs (zI d) σM = some e) ∨ (P = 0 ∧ m_X10_walkRefused d σC = -5 ∧ m_X11_bytesIs (zI d) σM = some 1 ∧ m_X11_walkIs (zI d) σM = some (-5)) ∨ (0 < P ∧ m_X10_walkRefused d σC = 0 ∧ m_X11_bytesIs (zI d) σM = some 1 ∧ m_X11_walkIs (zI d) σM = some 1 ∧ ∃ (n : Nat) (f : Nat → Int64), n ≤ 60 ∧ σC.1 28 d 2 = zI n ∧ σM.2.1 15 0 d = zI n ∧ σC.2.2 29 d = f ∧ (∀ i, i < 60 → byteV (f i)) ∧ (∀ i, i < 60 → σM.2.2 16 0 (60 * d + i) = f i) ∧ (∀ p, p < 12 → m_X6_heldAt d (zI p) σC = zI (hT n f p)) ∧ (∀ p, p < 12 → m_X11_heldBy (zI d) (zI p) σM = some (zI (hT n f p)))) := by
  obtain ⟨⟨n, hn, l1, l2⟩, u, g⟩ := h.2.2.2.2.2.1 d hd
  have hP := h.1
  have hB := h.2.2.2.2.2.2.1.1
  have hs : ¬ m_X11_isShelf (zI d) = 0 := fun e => (shM (zI d)).mp e (by rw [zI_toInt (by omega)]; omega)
  have eb : m_X11_bytesIs (zI d) σM = if (0 : Int32) ≤ σM.2.1 14 0 d then (if σM.2.1 14 0 d = 50 then some 1 else some (-12)) else some (-11) := by
    unfold m_X11_bytesIs
    rw [if_neg hs, if_neg (zI_in (by omega) hd), zI_cl (by omega)]
  have P0 : zI P = 0 ↔ P = 0 := by rw [i0, zI_eq (by have := hP.1; omega) (by omega)]
  unfold m_X10_walkRefused m_X6_isEmpty m_X6_holdsBytes m_X11_walkIs
  rw [eb, hP.2.1, hP.2.2.1]
  rcases g with ⟨g1, g2⟩ | ⟨g1, b, hb, -, g2⟩ | ⟨q, hq, g1, g2, g3⟩
  · rw [g1, g2]
    exact Or.inl ⟨-11, Or.inl rfl, rfl, rfl, rfl⟩
  · rw [g1, g2, if_pos (zI_ge' (a := b) (by omega)), if_neg (show ¬ zI b = 50 by rw [i50, zI_eq (by omega) (by omega)]; omega)]
    exact Or.inl ⟨-12, Or.inr rfl, rfl, rfl, rfl⟩
  · rw [g1, g2, if_pos (zI_ge' (a := 50 + q) (by omega)), if_neg (zI_m2 (by omega)), if_pos (show (0 : Int32) = 0 from rfl)]
    by_cases q0 : q = 0
    · subst q0
      rw [if_pos (show zI (50 + 0) = 50 from rfl), if_pos (show zI 0 = 0 from rfl), if_neg (show ¬ (1 : Int32) = 0 by decide)]
      simp only [Option.bind_some]
      rw [if_pos (show (0 : Int32) ≤ 1 by decide)]
      by_cases p0 : P = 0
      · rw [if_pos (P0.mpr p0), if_pos (P0.mpr p0)]
        exact Or.inr (Or.inl ⟨p0, by first | trivial | rfl, by first | trivial | rfl, by first | trivial | rfl⟩)
      · rw [if_neg (fun z => p0 (P0.mp z)), if_neg (fun z => p0 (P0.mp z))]
        exact Or.inr (Or.inr ⟨by omega, by first | trivial | rfl, by first | trivial | rfl, by first | trivial | rfl, n, _, hn, l1, l2, rfl, g3 rfl, u, fun p hp => hldC l1 hn (g3 rfl) (by omega), fun p hp => hldM hd l2 hn u (by omega)⟩)
    · have q1 : ¬ zI q = 0 := by rw [i0, zI_eq (by omega) (by omega)]; exact q0
      rw [if_neg (show ¬ zI (50 + q) = 50 by rw [i50, zI_eq (by omega) (by omega)]; omega), if_neg q1, if_pos (show (0 : Int32) = 0 from rfl)]
      exact Or.inl ⟨-12, Or.inr rfl, rfl, rfl, rfl⟩
theorem bytN {x : Int32} (σ : SS) (h : ¬ (0 ≤ x.toInt ∧ x.toInt ≤ 5)) : m_X11_bytesIs x σ = some (-1) := by
  unfold m_X11_bytesIs
  rw [if_pos ((shM x).mpr h)]
theorem minC (x : Int32) : m_X10_isMinute x = 0 ↔ ¬ (0 ≤ x.toInt ∧ x.toInt ≤ 999) := wC (x := x) (a := 0) (b := 999)
theorem minM (x : Int32) : m_X11_isMinute x = 0 ↔ ¬ (0 ≤ x.toInt ∧ x.toInt ≤ 999) := wM32 (x := x) (a := 0) (b := 999)
theorem pasC {lf : Option FN} {M : Nat → Int32} {P d : Nat} {H : Nat → Nat} (hH : ∀ p, H p < 4) {σ : SS} (h1 : nmR M P σ) (hP : σ.1 1 0 1 = zI P) (hh : ∀ p, p < 12 → m_X6_heldAt d (zI p) σ = zI (H p)) {τ : SS} (g1 : τ.2.1 1 0 = M) (g2 : τ.1 0 0 6 = zI P) (gh : ∀ p, p < 12 → m_X11_heldBy (zI d) (zI p) τ = some (zI (H p))) : ∀ (n f g p : Nat), p + n = P → n < f → n < g → ∃ b : Int32, (b = 0 ∨ b = 1) ∧ L_X9_passes_2 d f (zI p) σ = some b ∧ L_X11_passes_2 g (zI d) (zI p) τ = some b
  | n, 0, g, p, h0, hf, hg => absurd hf (by omega)
  | n, f + 1, 0, p, h0, hf, hg => absurd hg (by omega)
  | 0, f + 1, g + 1, p, h0, hf, hg => by
    have hP12 := h1.2.2.2.2
    refine ⟨1, Or.inr rfl, ?_, ?_⟩
    · show (if _ then _ else _) = _
      rw [hP, if_pos (by rw [zI_le (by omega) (by omega)]; omega)]
    · show (if _ then _ else _) = _
      rw [g2, if_pos (by rw [zI_le (by omega) (by omega)]; omega)]
  | n + 1, f + 1, g + 1, p, h0, hf, hg => by
    have hP12 := h1.2.2.2.2
    have e6 : m_X8_number (zI p) 6 σ = M (72 + p) := (numC (w := 6) (by omega) (by omega) σ).trans (h1.1 p 6 (by omega) (by omega))
    have ek : (72 : Int32) + zI p = zI (72 + p) := zI_add 72 p
    have pp : ¬ zI P ≤ zI p := by rw [zI_le (by omega) (by omega)]; omega
    rw [L_X9_passes_2, L_X11_passes_2, hP, g2, if_neg pp, if_neg pp, hh p (by omega), gh p (by omega), e6]
    simp only [Option.bind_some]
    rw [ek, if_neg (zI_in (by omega) (by omega)), zI_cl (by omega), g1, show zI p + 1 = zI (p + 1) from zI_add p 1]
    by_cases c : zI (H p) ≤ M (72 + p)
    · rw [if_pos c, if_pos c]
      exact pasC (lf := lf) hH h1 hP hh g1 g2 gh n f g (p + 1) (by omega) (by omega) (by omega)
    · rw [if_neg c, if_neg c]
      exact ⟨0, Or.inl rfl, rfl, rfl⟩
theorem P_walk {σC σM : SS} (h : Inv σC σM) (a b w : Int32) : ∃ r τC τM, m_X10_walk a b w σC = some (r, τC) ∧ m_X11_walk a b w σM = some (r, τM) ∧ Inv τC τM := by
  obtain ⟨P, Bn, lf, hK⟩ := h
  have hI : Inv σC σM := ⟨P, Bn, lf, hK⟩
  have e1 := shC a
  have e3 : m_X11_within w.toInt64 0 2 = 0 ↔ ¬ (0 ≤ w.toInt ∧ w.toInt ≤ 2) := wM32
  have e4 : m_X10_isWithin w 0 2 = 0 ↔ ¬ (0 ≤ w.toInt ∧ w.toInt ≤ 2) := wC
  unfold m_X10_walk m_X11_walk
  by_cases c : 0 ≤ a.toInt ∧ a.toInt ≤ 5
  · rw [if_neg (fun e => e1.mp e c)]
    obtain ⟨d, hd, rfl⟩ := rng (b := 5) c.1 c.2
    rw [zI_cl (by omega)]
    have bb : ∃ e, m_X11_bytesIs (zI d) σM = some e ∧ ¬ e = -1 := by
      rcases wref hK (by omega : d < 6) with ⟨e, he, -, z, -⟩ | ⟨-, -, z, -⟩ | ⟨-, -, z, -⟩
      · exact ⟨e, z, by rcases he with rfl | rfl <;> decide⟩
      · exact ⟨1, z, by decide⟩
      · exact ⟨1, z, by decide⟩
    obtain ⟨e, be, bn⟩ := bb
    rw [be]
    simp only [Option.bind_some]
    rw [if_neg bn]
    by_cases c2 : 0 ≤ b.toInt ∧ b.toInt ≤ 999
    · rw [if_neg (fun e => (minC b).mp e c2), if_neg (fun e => (minM b).mp e c2)]
      by_cases c3 : 0 ≤ w.toInt ∧ w.toInt ≤ 2
      · rw [if_neg (fun e => e4.mp e c3), if_neg (fun e => e3.mp e c3)]
        rcases wref hK (by omega : d < 6) with ⟨e, he, z1, z2, z3⟩ | ⟨-, z1, z2, z3⟩ | ⟨hp, z1, z2, z3, n, f, hn, l1, l2, rfl, hb, u, q1, q2⟩
        · rw [z1, z3]
          simp only [Option.bind_some]
          rcases he with rfl | rfl
          · exact ⟨_, _, _, rfl, rfl, hI⟩
          · exact ⟨_, _, _, rfl, rfl, hI⟩
        · rw [z1, z3]
          exact ⟨_, _, _, rfl, rfl, hI⟩
        · rw [z1, z3, if_pos (show (0 : Int32) = 0 from rfl)]
          simp only [Option.bind_some]
          rw [if_pos (show (0 : Int32) ≤ 1 by decide)]
          have hH : ∀ p, hT n (σC.2.2 29 d) p < 4 := hT_lt n _
          have hM : WM lf (σM.2.1 1 0) P 0 (hT n (σC.2.2 29 d)) d σM := ⟨hK.km, hK.1.2.2.1, q2⟩
          obtain ⟨τM, m1, m2, m3, m4⟩ := walksM hH (van := 0) hp (mi := b) hM
          have m1 : m_X11_walks (zI d) 0 b σM = some τM := m1
          rw [m1]
          simp only [Option.bind_some]
          by_cases w2 : w = 2
          · subst w2
            rw [if_pos rfl, if_neg (show ¬ (2 : Int32) = 0 by decide), if_neg (show ¬ (2 : Int32) = 1 by decide)]
            have hM' := hM.fr m4
            obtain ⟨o, ho, p1, p2⟩ := pasC (lf := lf) hH hK.nm hK.1.2.1 q1 hM'.1.1 hM'.2.1 hM'.2.2 P FU FU 0 (by omega) (by have := hK.1.1; unfold FU; omega) (by have := hK.1.1; unfold FU; omega)
            have p1 : m_X9_passes d σC = some o := p1
            have p2 : m_X11_passes (zI d) τM = some o := p2
            rw [p1, p2]
            simp only [Option.bind_some]
            rcases ho with rfl | rfl
            · exact ⟨_, _, _, rfl, rfl, P, Bn, lf, hK.fr (FrC.rf _) m4.fm⟩
            · exact ⟨_, _, _, rfl, rfl, P, Bn, lf, hK.fr (FrC.rf _) m4.fm⟩
          · rw [if_neg w2]
            obtain ⟨s1, s2⟩ := hK.wcn q1
            obtain ⟨τC, t1, t2, t3, t4, t5⟩ := followC hH (van := 0) hp (mi := b) s1
            have t1 : m_X9_follow d 0 b (m_X7_supposeNow σC) = some τC := t1
            simp only [bnT]
            rw [t1]
            simp only [Option.bind_some]
            have w1 : ¬ w = 0 → w = 1 := fun z => by
              obtain ⟨k, hk, rfl⟩ := rng (b := 2) c3.1 c3.2
              have : k = 0 ∨ k = 1 ∨ k = 2 := by omega
              rcases this with rfl | rfl | rfl
              · exact absurd rfl z
              · rfl
              · exact absurd rfl w2
            by_cases w0 : w = 0
            · rw [if_pos w0, if_pos w0]
              exact ⟨_, τC, τM, rfl, by rw [t2, m2], P, Bn, lf, hK.fr (s2.tr t5.fc) m4.fm⟩
            · rw [if_neg w0, if_neg w0, if_pos (w1 w0)]
              exact ⟨_, τC, τM, rfl, by rw [t3, m3], P, Bn, lf, hK.fr (s2.tr t5.fc) m4.fm⟩
      · rw [if_pos (e4.mpr c3), if_pos (e3.mpr c3)]
        exact ⟨_, _, _, rfl, rfl, hI⟩
    · rw [if_pos ((minC b).mpr c2), if_pos ((minM b).mpr c2)]
      exact ⟨_, _, _, rfl, rfl, hI⟩
  · rw [if_pos (e1.mpr c), bytN σM c]
    exact ⟨_, _, _, rfl, rfl, hI⟩
