/-! walks by draws -/
section DRAW
variable {P : Nat} {lf : Option FN} {M : Nat → Int32}
def DC (lf : Option FN) (M : Nat → Int32) (P : Nat) (σ : SS) : Prop := KC lf M P (M 84) (M 86) 0 σ ∧ σ.1 14 0 7 = M 85 - 5 * M 86 ∧ σ.1 1 0 1 = zI P
theorem DC.fr {σ τ : SS} (h : DC lf M P σ) (f : FrW σ τ) (hk : KC lf M P (M 84) (M 86) 0 τ) : DC lf M P τ := ⟨hk, (f.1 14 0 7 (by decide) (by omega)).trans h.2.1, (f.1 1 0 1 (by decide) (by omega)).trans h.2.2⟩
theorem DC.s17 {σ : SS} (h : DC lf M P σ) (k : Nat) (v : Int32) : DC lf M P (sI σ 17 0 k v) := h.fr (FrW.s17 σ k v) (h.1.s17 k v)
def rnd (z : Int32) : Int32 := (z.toUInt32 >>> ((8 : Int32).toUInt32 &&& Int32.toUInt32 31)).toInt32 - ((z.toUInt32 >>> ((8 : Int32).toUInt32 &&& Int32.toUInt32 31)).toInt32 / 12) * 12
theorem drJ {k : Nat} (hk : k < 4) (v2 v3 v5 q : Int32) (hh : v2 - v2 / 10 * 10 = zI k) : ∀ (n f g p s : Nat) (σC σM : SS), p + n = P → n < f → n + 1 < g → s ≤ 100 * p → DC lf M P σC → KM lf M P 0 σM → σM.1 0 0 6 = zI P → ∃ (z' pa' : Int32) (b : Bool) (τC τM : SS), L_X9_drawOne_5 f (7 * q) (zI k) (zI s) (zI p) σC = some τC ∧ L_X11_drawn_82 g v2 v3 (σC.1 17 0 8) v5 (σC.1 17 0 7) q (zI s) 1 (zI p) σM = some (z', pa', (cond b 1 0), τM) ∧ τC.1 17 0 8 = z' ∧ τC.1 17 0 7 = pa' ∧ τC.1 17 0 6 = σC.1 17 0 6 + (cond b 1 0) ∧ DC lf M P τC ∧ FrW σC τC ∧ FrN σM τM
  | n, 0, g, p, s, σC, σM, h0, hf, hg, hs, hC, hM, hP6 => absurd hf (by omega)
  | n, f + 1, 0, p, s, σC, σM, h0, hf, hg, hs, hC, hM, hP6 => absurd hg (by omega)
  | 0, f + 1, g + 1, p, s, σC, σM, h0, hf, hg, hs, hC, hM, hP6 => by
    have hP := hC.1.1.2.2.2.2
    have pp : zI P ≤ zI p := by rw [zI_le (by omega) (by omega)]; omega
    rw [L_X9_drawOne_5, L_X11_drawn_82, hC.2.2, hP6, if_pos pp, if_pos pp]
    exact ⟨_, _, true, _, _, rfl, rfl, rfl, rfl, rfl, hC.s17 _ _, FrW.s17 _ _ _, FrN.rf _⟩
  | n + 1, f + 1, g + 1, p, s, σC, σM, h0, hf, hg, hs, hC, hM, hP6 => by
    have hP := hC.1.1.2.2.2.2
    have pp : ¬ zI P ≤ zI p := by rw [zI_le (by omega) (by omega)]; omega
    have stop : ∀ (z pa s' : Int32) (τM : SS), τM.1 0 0 6 = zI P → L_X11_drawn_82 g v2 v3 z v5 pa q s' 0 (zI (p + 1)) τM = some (z, pa, 0, τM) := fun z pa s' τM h6 => by
      obtain ⟨g', rfl⟩ : ∃ g', g = g' + 1 := ⟨g - 1, by omega⟩
      rw [L_X11_drawn_82, h6]
      by_cases c : zI P ≤ zI (p + 1)
      · rw [if_pos c]
      · rw [if_neg c, if_pos (show (0 : Int32) = 0 from rfl)]
    have hC1 := hC.s17 8 (σC.1 17 0 8 * 1103515245 + 12345)
    have e5 : m_X8_number (zI p) 5 (sI σC 17 0 8 (σC.1 17 0 8 * 1103515245 + 12345)) = M (60 + p) := (numC (w := 5) (by omega) (by omega) _).trans (hC1.1.1.1 p 5 (by omega) (by omega))
    rw [L_X9_drawOne_5, L_X11_drawn_82, hC.2.2, hP6, if_neg pp, if_neg pp, if_neg (show ¬ (1 : Int32) = 0 by decide), e5, show (60 : Int32) + zI p = zI (60 + p) from zI_add 60 p, if_neg (zI_in (by omega) (by omega)), zI_cl (by omega), hM.1, hh, show zI p + 1 = zI (p + 1) from zI_add p 1]
    show ∃ (z' pa' : Int32) (b : Bool) (τC τM : SS), (if M (60 + p) ≤ rnd (σC.1 17 0 8 * 1103515245 + 12345) then _ else _) = _ ∧ (if rnd (σC.1 17 0 8 * 1103515245 + 12345) < M (60 + p) then _ else _) = _ ∧ _
    by_cases c : M (60 + p) ≤ rnd (σC.1 17 0 8 * 1103515245 + 12345)
    · obtain ⟨τC, t1, t2, t3⟩ := inM hC1.1 (by omega : p < P) hk (7 * q + zI p)
      obtain ⟨τM, m1, m2⟩ := stM hM (by omega : p < P) (zI k) (7 * q + zI p)
      obtain ⟨s1, s2⟩ := sN_e lf M (M 84) (M 86) 0 p k (7 * q + zI p)
      have hC2 := hC1.fr t3.fw t2
      have fr1 : FrW σC τC := (FrW.s17 _ _ _).tr t3.fw
      have e8 : τC.1 17 0 8 = σC.1 17 0 8 * 1103515245 + 12345 := t3.1 17 0 8 (by omega)
      have e7 : τC.1 17 0 7 = σC.1 17 0 7 := t3.1 17 0 7 (by omega)
      have e6 : τC.1 17 0 6 = σC.1 17 0 6 := t3.1 17 0 6 (by omega)
      rw [if_pos c, if_neg (Int32.not_lt.mpr c), t1, m1]
      simp only [Option.bind_some]
      rw [s1, zI_add, brs (hM.fr m2).1]
      have itm : m_X7_isTooMuch (zI (s + sN lf M (M 84) (M 86) 0 p k (7 * q + zI p))) τC = if zI (s + sN lf M (M 84) (M 86) 0 p k (7 * q + zI p)) ≤ M 85 - 5 * M 86 then 0 else 1 := by
        unfold m_X7_isTooMuch
        rw [hC2.2.1]
      rw [itm]
      by_cases e : zI (s + sN lf M (M 84) (M 86) 0 p k (7 * q + zI p)) ≤ M 85 - 5 * M 86
      · rw [if_pos e, if_pos (show (0 : Int32) = 0 from rfl), if_neg (Int32.not_lt.mpr e)]
        obtain ⟨z', pa', b, υC, υM, u1, u2, u3, u4, u5, u6, u7, u8⟩ := drJ hk v2 v3 v5 q hh n f g (p + 1) (s + sN lf M (M 84) (M 86) 0 p k (7 * q + zI p)) (sI τC 17 0 7 (τC.1 17 0 7 + 1)) τM (by omega) (by omega) (by omega) (by omega) (hC2.s17 7 _) (hM.fr m2) ((m2.1 0 0 6 (by omega)).trans hP6)
        rw [show (sI τC 17 0 7 (τC.1 17 0 7 + 1)).1 17 0 8 = τC.1 17 0 8 from rfl, show (sI τC 17 0 7 (τC.1 17 0 7 + 1)).1 17 0 7 = τC.1 17 0 7 + 1 from rfl, e8, e7] at u2
        refine ⟨z', pa', b, υC, υM, u1, u2, u3, u4, ?_, u6, (fr1.tr (FrW.s17 _ _ _)).tr u7, m2.tr u8⟩
        rw [u5, ← e6]
        rfl
      · rw [if_neg e, if_neg (show ¬ (1 : Int32) = 0 by decide), if_pos (Int32.not_le.mp e), stop _ _ _ τM ((m2.1 0 0 6 (by omega)).trans hP6), Int32.add_zero]
        exact ⟨_, _, false, τC, τM, rfl, rfl, e8, e7, by rw [e6]; exact (Int32.add_zero _).symm, hC2, fr1, m2⟩
    · rw [if_neg c, if_pos (Int32.not_le.mp c), stop _ _ _ σM hP6, Int32.add_zero]
      exact ⟨_, _, false, _, _, rfl, rfl, rfl, rfl, (Int32.add_zero _).symm, hC1, FrW.s17 _ _ _, FrN.rf _⟩
theorem drwJ (hp : 0 < P) {k N : Nat} (hk : k < 4) (hN : N ≤ 30) (v2 v3 : Int32) (hh : v2 - v2 / 10 * 10 = zI k) (hn : v2 / 10 = zI N) : ∀ (n f g i : Nat) (σC σM : SS), i + n = N → n < f → n < g → DC lf M P σC → KM lf M P 0 σM → σM.1 0 0 6 = zI P → ∃ τC τM, L_X9_draw_25 f (zI N) (zI k) (zI i) σC = some τC ∧ L_X11_drawn_64 g v2 v3 (σC.1 17 0 8) (σC.1 17 0 6) (σC.1 17 0 7) (zI i) σM = some ((if v3 = 0 then τC.1 17 0 6 else τC.1 17 0 7), τM) ∧ FrW σC τC ∧ FrN σM τM
  | n, 0, g, i, σC, σM, h0, hf, hg, hC, hM, h6 => absurd hf (by omega)
  | n, f + 1, 0, i, σC, σM, h0, hf, hg, hC, hM, h6 => absurd hg (by omega)
  | 0, f + 1, g + 1, i, σC, σM, h0, hf, hg, hC, hM, h6 => by
    have pp : zI N ≤ zI i := by rw [zI_le (by omega) (by omega)]; omega
    rw [L_X9_draw_25, L_X11_drawn_64, hn, if_pos pp, if_pos pp]
    refine ⟨σC, σM, rfl, ?_, FrW.rf _, FrN.rf _⟩
    by_cases z : v3 = 0
    · rw [if_pos z, if_pos z]
    · rw [if_neg z, if_neg z]
  | n + 1, f + 1, g + 1, i, σC, σM, h0, hf, hg, hC, hM, h6 => by
    have hP := hC.1.1.2.2.2.2
    have pp : ¬ zI N ≤ zI i := by rw [zI_le (by omega) (by omega)]; omega
    obtain ⟨z', pa', b, τC, τM, t1, t2, t3, t4, t5, t6, t7, t8⟩ := drJ hk v2 v3 (σC.1 17 0 6) (zI i) hh P FU FU 0 0 σC σM (by omega) (by unfold FU; omega) (by unfold FU; omega) (by omega) hC hM h6
    rw [← i0] at t1 t2
    have t1 : m_X9_drawOne (7 * zI i) (zI k) σC = some τC := t1
    obtain ⟨υC, υM, u1, u2, u3, u4⟩ := drwJ hp hk hN v2 v3 hh hn n f g (i + 1) τC τM (by omega) (by omega) (by omega) t6 (hM.fr t8) ((t8.1 0 0 6 (by omega)).trans h6)
    rw [t3, t4, t5] at u2
    rw [L_X9_draw_25, L_X11_drawn_64, hn, if_neg pp, if_neg pp, t1, t2]
    simp only [Option.bind_some]
    rw [show zI i + 1 = zI (i + 1) from zI_add i 1]
    refine ⟨υC, υM, u1, ?_, t7.tr u3, t8.tr u4⟩
    cases b with
    | true =>
      show (if (1 : Int32) = 0 then _ else _) = _
      rw [if_neg (show ¬ (1 : Int32) = 0 by decide)]
      exact u2
    | false =>
      show (if (0 : Int32) = 0 then _ else _) = _
      rw [if_pos (show (0 : Int32) = 0 from rfl)]
      exact u2
end DRAW
theorem P_drawn {σC σM : SS} (h : Inv σC σM) (a b w : Int32) : ∃ r τC τM, m_X10_drawn a b w σC = some (r, τC) ∧ m_X11_drawn a b w σM = some (r, τM) ∧ Inv τC τM := by
  obtain ⟨P, Bn, lf, hK⟩ := h
  have hI : Inv σC σM := ⟨P, Bn, lf, hK⟩
  have e1 : m_X11_within (b / 10).toInt64 1 30 = 0 ↔ ¬ (1 ≤ (b / 10).toInt ∧ (b / 10).toInt ≤ 30) := wM32
  have e2 : m_X10_isWithin (b / 10) 1 30 = 0 ↔ ¬ (1 ≤ (b / 10).toInt ∧ (b / 10).toInt ≤ 30) := wC
  have e3 : m_X11_isHeld (b - b / 10 * 10).toInt64 = 0 ↔ ¬ (0 ≤ (b - b / 10 * 10).toInt ∧ (b - b / 10 * 10).toInt ≤ 3) := wM32 (x := b - b / 10 * 10) (a := 0) (b := 3)
  have e4 : m_X10_isHold (b - b / 10 * 10) = 0 ↔ ¬ (0 ≤ (b - b / 10 * 10).toInt ∧ (b - b / 10 * 10).toInt ≤ 3) := wC (x := b - b / 10 * 10) (a := 0) (b := 3)
  have e5 : m_X11_within w.toInt64 0 1 = 0 ↔ ¬ (0 ≤ w.toInt ∧ w.toInt ≤ 1) := wM32
  have e6 : m_X10_isWithin w 0 1 = 0 ↔ ¬ (0 ≤ w.toInt ∧ w.toInt ≤ 1) := wC
  have rs := remS b
  have b0 : b < 0 ↔ b.toInt < 0 := Int32.lt_iff_toInt_lt
  have P0 : zI P = 0 ↔ P = 0 := by rw [i0, zI_eq (by have := hK.1.1; omega) (by omega)]
  unfold m_X10_drawn m_X11_drawn
  rw [hK.1.2.1, hK.1.2.2.1]
  by_cases c1 : 1 ≤ (b / 10).toInt ∧ (b / 10).toInt ≤ 30
  · have bn : ¬ b < 0 := fun z => by
      have := b0.mp z
      have l := b.le_toInt
      have e : (b / 10).toInt = b.toInt.tdiv 10 := by
        rw [Int32.toInt_div_of_ne_right b 10 (by decide)]
        rfl
      have t : (-b.toInt).tdiv 10 = (-b.toInt) / 10 := Int.tdiv_eq_ediv_of_nonneg (by omega)
      rw [Int.neg_tdiv] at t
      omega
    rw [if_neg (fun e => e2.mp e c1), if_neg bn, if_neg (fun e => e1.mp e c1)]
    by_cases c2 : 0 ≤ (b - b / 10 * 10).toInt ∧ (b - b / 10 * 10).toInt ≤ 3
    · rw [if_neg (fun e => e4.mp e c2), if_neg (fun e => e3.mp e c2)]
      by_cases c3 : 0 ≤ w.toInt ∧ w.toInt ≤ 1
      · rw [if_neg (fun e => e6.mp e c3), if_neg (fun e => e5.mp e c3)]
        by_cases p0 : P = 0
        · rw [if_pos (P0.mpr p0), if_pos (P0.mpr p0)]
          exact ⟨_, _, _, rfl, rfl, hI⟩
        · rw [if_neg (fun z => p0 (P0.mp z)), if_neg (fun z => p0 (P0.mp z))]
          obtain ⟨N, hN, eN⟩ := rng (x := b / 10) (b := 30) (by omega) c1.2
          obtain ⟨k, hk, ek⟩ := rng (b := 3) c2.1 c2.2
          obtain ⟨s1, s2, s3⟩ := supN hK.nm hK.lc
          have hD : DC lf (σM.2.1 1 0) P (m_X7_supposeNow σC) := ⟨s1, s2, (s3.1 1 0 1 (by decide) (by decide) (by omega) (by omega)).trans hK.1.2.1⟩
          obtain ⟨τC, τM, t1, t2, t3, t4⟩ := drwJ (lf := lf) (M := σM.2.1 1 0) (by omega : 0 < P) (by omega : k < 4) hN b w ek eN N FU FU 0 (sI (sI (sI (m_X7_supposeNow σC) 17 0 8 a) 17 0 6 0) 17 0 7 0) σM (by omega) (by unfold FU; omega) (by unfold FU; omega) (((hD.s17 8 a).s17 6 0).s17 7 0) hK.km hK.1.2.2.1
          rw [← i0, ← eN, ← ek] at t1
          rw [← i0] at t2
          have t2 : L_X11_drawn_64 FU b w a 0 0 0 σM = some ((if w = 0 then τC.1 17 0 6 else τC.1 17 0 7), τM) := t2
          unfold m_X9_draw
          simp only [bnT]
          rw [t1, t2]
          simp only [Option.bind_some]
          have fin : Inv τC τM := ⟨P, Bn, lf, hK.fr ((s3.tr (((FrW.s17 _ _ _).tr (FrW.s17 _ _ _)).tr (FrW.s17 _ _ _)).fc).tr t3.fc) t4.fm⟩
          by_cases z : w = 0
          · rw [if_pos z, if_pos z]
            exact ⟨_, _, _, rfl, rfl, fin⟩
          · rw [if_neg z, if_neg z]
            exact ⟨_, _, _, rfl, rfl, fin⟩
      · rw [if_pos (e6.mpr c3), if_pos (e5.mpr c3)]
        exact ⟨_, _, _, rfl, rfl, hI⟩
    · rw [if_pos (e4.mpr c2), if_pos (e3.mpr c2)]
      exact ⟨_, _, _, rfl, rfl, hI⟩
  · rw [if_pos (e2.mpr c1)]
    by_cases bn : b < 0
    · rw [if_pos bn]
      exact ⟨_, _, _, rfl, rfl, hI⟩
    · rw [if_neg bn, if_pos (e1.mpr c1)]
      exact ⟨_, _, _, rfl, rfl, hI⟩
