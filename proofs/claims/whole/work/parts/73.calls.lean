/-! walks in thought: start, menFor, van, windFrom, scratchFor, judge -/
section CALLS
variable {P Bn : Nat} {lf : Option FN} {σC σM : SS}
/-- a byte row to walk by -/
def byR (P d : Nat) (σC σM : SS) (n : Nat) (f : Nat → Int64) : Prop := n ≤ 60 ∧ σC.1 28 d 2 = zI n ∧ σM.2.1 15 0 d = zI n ∧ σC.2.2 29 d = f ∧ (∀ i, i < 60 → byteV (f i)) ∧ (∀ i, i < 60 → σM.2.2 16 0 (60 * d + i) = f i) ∧ (∀ p, p < 12 → m_X6_heldAt d (zI p) σC = zI (hT n f p)) ∧ (∀ p, p < 12 → m_X11_heldBy (zI d) (zI p) σM = some (zI (hT n f p)))
theorem hd2 (hK : InvK P Bn lf σC σM) (a b : Int32) (gC : Nat → Option (Int32 × SS)) (gM : Option (Int32 × SS)) (main : ∀ d n f, d < 6 → a = zI d → 0 < P → 0 ≤ b.toInt → b.toInt ≤ 999 → byR P d σC σM n f → ∃ r τC τM, gC d = some (r, τC) ∧ gM = some (r, τM) ∧ Inv τC τM) : ∃ r τC τM, (if a < 0 ∨ ¬ a < 6 then some ((-1 : Int32), σC) else if m_X10_isMinute b = 0 then some (-1, σC) else if m_X10_walkRefused a.toNatClampNeg σC = 0 then gC a.toNatClampNeg else some (m_X10_walkRefused a.toNatClampNeg σC, σC)) = some (r, τC) ∧ Option.bind (m_X11_bytesIs a σM) (fun q1 => if q1 = -1 then some ((-1 : Int32), σM) else if m_X11_isMinute b = 0 then some (-1, σM) else Option.bind (m_X11_walkIs a σM) (fun q4 => if (0 : Int32) ≤ q4 then gM else Option.bind (m_X11_walkIs a σM) (fun q9 => some (q9, σM)))) = some (r, τM) ∧ Inv τC τM := by
  have hI : Inv σC σM := ⟨P, Bn, lf, hK⟩
  have e1 := shC a
  by_cases c : 0 ≤ a.toInt ∧ a.toInt ≤ 5
  · rw [if_neg (fun e => e1.mp e c)]
    obtain ⟨d, hd, rfl⟩ := rng (b := 5) c.1 c.2
    rw [zI_cl (by omega)]
    have bb : ∃ e, m_X11_bytesIs (zI d) σM = some e ∧ ¬ e = -1 := by
      rcases wref hK (by omega : d < 6) with ⟨e, he, -, z, -⟩ | ⟨-, -, z, -⟩ | ⟨-, -, z, -⟩
      · exact ⟨e, z, by rcases he with rfl | rfl <;> decide⟩
      · exact ⟨1, z, by decide⟩
      · exact ⟨1, z, by decide⟩
    obtain ⟨e, be, bn⟩ := bb
    rw [be]
    simp only [Option.bind_some]
    rw [if_neg bn]
    by_cases c2 : 0 ≤ b.toInt ∧ b.toInt ≤ 999
    · rw [if_neg (fun e => (minC b).mp e c2), if_neg (fun e => (minM b).mp e c2)]
      rcases wref hK (by omega : d < 6) with ⟨e, he, z1, z2, z3⟩ | ⟨-, z1, z2, z3⟩ | ⟨hp, z1, z2, z3, n, f, hr⟩
      · rw [z1, z3]
        simp only [Option.bind_some]
        rcases he with rfl | rfl
        · exact ⟨_, _, _, rfl, rfl, hI⟩
        · exact ⟨_, _, _, rfl, rfl, hI⟩
      · rw [z1, z3]
        exact ⟨_, _, _, rfl, rfl, hI⟩
      · rw [z1, z3, if_pos (show (0 : Int32) = 0 from rfl)]
        simp only [Option.bind_some]
        rw [if_pos (show (0 : Int32) ≤ 1 by decide)]
        exact main d n f (by omega) rfl hp c2.1 c2.2 hr
    · rw [if_pos ((minC b).mpr c2), if_pos ((minM b).mpr c2)]
      exact ⟨_, _, _, rfl, rfl, hI⟩
  · rw [if_pos (e1.mpr c), bytN σM c]
    exact ⟨_, _, _, rfl, rfl, hI⟩
theorem vanJ {M : Nat → Int32} {d : Nat} {H : Nat → Nat} (hH : ∀ p, H p < 4) (mi : Int32) : ∀ (n f g p : Nat) (σC σM : SS), p + n = P → n < f → n < g → WC lf M P (M 84) (M 86) 0 (M 85 - 5 * M 86) H d σC → WM lf M P 0 H d σM → ∃ r τC τM, L_X9_nearestVan_9 d f mi (zI p) σC = some (r, τC) ∧ L_X11_van_34 g (zI d) mi (zI p) σM = some (r, τM) ∧ FrW σC τC ∧ FrV σM τM
  | n, 0, g, p, σC, σM, h0, hf, hg, hC, hM => absurd hf (by omega)
  | n, f + 1, 0, p, σC, σM, h0, hf, hg, hC, hM => absurd hg (by omega)
  | 0, f + 1, g + 1, p, σC, σM, h0, hf, hg, hC, hM => by
    have hP := hC.1.1.2.2.2.2
    have pp : zI P ≤ zI p := by rw [zI_le (by omega) (by omega)]; omega
    rw [L_X9_nearestVan_9, L_X11_van_34, hC.2.2.1, hM.2.1, if_pos pp, if_pos pp]
    exact ⟨_, _, _, rfl, rfl, FrW.rf _, FrV.rf _⟩
  | n + 1, f + 1, g + 1, p, σC, σM, h0, hf, hg, hC, hM => by
    have hP := hC.1.1.2.2.2.2
    have pp : ¬ zI P ≤ zI p := by rw [zI_le (by omega) (by omega)]; omega
    obtain ⟨τC, t1, t2, t3, t4, t5⟩ := followC hH (by omega : p < P) (mi := mi) hC
    obtain ⟨τM, m1, m2, m3, m4⟩ := walksM hH (by omega : p < P) (mi := mi) hM
    have hb := (fol_b (sN lf M (M 84) (M 86) 0) H (M 85 - 5 * M 86) p mi (fun p k m => (sN_e lf M _ _ _ p k m).2) (P - p) p 0 (-2) (by omega) (Or.inl rfl)).2
    rw [L_X9_nearestVan_9, L_X11_van_34, hC.2.2.1, hM.2.1, if_neg pp, if_neg pp, t1, m1]
    simp only [Option.bind_some]
    rw [t2, m2, show zI p + 1 = zI (p + 1) from zI_add p 1]
    have hb : (folW (sN lf M (M 84) (M 86) 0) H (M 85 - 5 * M 86) P p mi).2 = -2 ∨ ∃ q, q < 12 ∧ (folW (sN lf M (M 84) (M 86) 0) H (M 85 - 5 * M 86) P p mi).2 = zI q := hb
    rcases hb with e | ⟨q, hq, e⟩
    · rw [e, if_pos rfl, if_neg (show ¬ (0 : Int32) ≤ -2 by decide)]
      exact ⟨_, _, _, rfl, rfl, t5, m4⟩
    · rw [e, if_neg (zI_m2 (by omega)), if_pos (zI_ge' (by omega))]
      obtain ⟨r, υC, υM, u1, u2, u3, u4⟩ := vanJ hH mi n f g (p + 1) τC τM (by omega) (by omega) (by omega) t4 (hM.fr m4)
      exact ⟨r, υC, υM, u1, u2, t5.tr u3, m4.tr u4⟩
end CALLS
theorem P_van {σC σM : SS} (h : Inv σC σM) (a b : Int32) : ∃ r τC τM, m_X10_van a b σC = some (r, τC) ∧ m_X11_van a b σM = some (r, τM) ∧ Inv τC τM := by
  obtain ⟨P, Bn, lf, hK⟩ := h
  refine hd2 hK a b (fun d => Option.bind (m_X9_nearestVan d b σC) (fun q4 => some (q4.1, q4.2))) (L_X11_van_34 FU a b 0 σM) (fun d n f hd ea hp b0 b1 hr => ?_)
  obtain ⟨hn, l1, l2, rfl, hb, u, q1, q2⟩ := hr
  obtain ⟨s1, s2⟩ := hK.wcn q1
  obtain ⟨r, τC, τM, t1, t2, t3, t4⟩ := vanJ (hT_lt n (σC.2.2 29 d)) b P FU FU 0 (m_X7_supposeNow σC) σM (by omega) (by have := hK.1.1; unfold FU; omega) (by have := hK.1.1; unfold FU; omega) s1 ⟨hK.km, hK.1.2.2.1, q2⟩
  refine ⟨r, τC, τM, ?_, by rw [ea]; exact t2, P, Bn, lf, hK.fr (s2.tr t3.fc) t4.fm⟩
  show Option.bind (m_X9_nearestVan d b σC) _ = _
  unfold m_X9_nearestVan
  simp only [bnT]
  rw [show (0 : Int32) = zI 0 from rfl, t1]
  rfl
section STARTJ
variable {P : Nat} {lf : Option FN}
theorem starJ {M : Nat → Int32} {d : Nat} {H : Nat → Nat} (hH : ∀ p, H p < 4) (hp : 0 < P) (w : Int32) : ∀ (n f g m l : Nat) (best : Int32) (σC σM : SS), m + n = 60 → n < f → n < g → 0 < m → l ≤ 1200 → WC lf M P (M 84) (M 86) 0 (M 85 - 5 * M 86) H d σC → WM lf M P 0 H d σM → ∃ b l' τC τM, l' ≤ 1200 ∧ L_X9_bestStart_14 d f best (zI l) (zI m) σC = some (b, sI τC 17 0 5 (zI l')) ∧ L_X11_start_43 g (zI d) w best (zI l) (zI m) σM = some ((if w = 0 then b else zI l'), τM) ∧ FrW σC τC ∧ FrV σM τM
  | n, 0, g, m, l, best, σC, σM, h0, hf, hg, hm, hl, hC, hM => absurd hf (by omega)
  | n, f + 1, 0, m, l, best, σC, σM, h0, hf, hg, hm, hl, hC, hM => absurd hg (by omega)
  | 0, f + 1, g + 1, m, l, best, σC, σM, h0, hf, hg, hm, hl, hC, hM => by
    have pp : (60 : Int32) ≤ zI m := by rw [i60, zI_le (by omega) (by omega)]; omega
    rw [L_X9_bestStart_14, L_X11_start_43, if_pos pp, if_pos pp]
    refine ⟨best, l, σC, σM, hl, rfl, ?_, FrW.rf _, FrV.rf _⟩
    by_cases z : w = 0
    · rw [if_pos z, if_pos z]
    · rw [if_neg z, if_neg z]
  | n + 1, f + 1, g + 1, m, l, best, σC, σM, h0, hf, hg, hm, hl, hC, hM => by
    have hP := hC.1.1.2.2.2.2
    have pp : ¬ (60 : Int32) ≤ zI m := by rw [i60, zI_le (by omega) (by omega)]; omega
    obtain ⟨τC, t1, t2, t3, t4, t5⟩ := followC hH (van := 0) hp (mi := zI m) hC
    obtain ⟨τM, m1, m2, m3, m4⟩ := walksM hH (van := 0) hp (mi := zI m) hM
    have hb := (fol_b (sN lf M (M 84) (M 86) 0) H (M 85 - 5 * M 86) 0 (zI m) (fun p k m => (sN_e lf M _ _ _ p k m).2) (P - 0) 0 0 (-2) (by omega) (Or.inl rfl)).1
    have hb : (folW (sN lf M (M 84) (M 86) 0) H (M 85 - 5 * M 86) P 0 (zI m)).1 ≤ 0 + 100 * (P - 0) := hb
    have m0 : ¬ zI m = 0 := by rw [i0, zI_eq (by omega) (by omega)]; omega
    have t1 : m_X9_follow d 0 (zI m) σC = some τC := t1
    have m1 : m_X11_walks (zI d) 0 (zI m) σM = some τM := m1
    rw [L_X9_bestStart_14, L_X11_start_43, if_neg pp, if_neg pp, t1, m1]
    simp only [Option.bind_some]
    rw [t3, m3, if_neg m0, if_neg (zI_ge (a := l) (by omega)), show zI m + 1 = zI (m + 1) from zI_add m 1]
    by_cases c : zI l ≤ zI (folW (sN lf M (M 84) (M 86) 0) H (M 85 - 5 * M 86) P 0 (zI m)).1
    · rw [if_pos c, if_pos c]
      obtain ⟨b, l', υC, υM, u0, u1, u2, u3, u4⟩ := starJ hH hp w n f g (m + 1) l best τC τM (by omega) (by omega) (by omega) (by omega) hl t4 (hM.fr m4)
      exact ⟨b, l', υC, υM, u0, u1, u2, t5.tr u3, m4.tr u4⟩
    · rw [if_neg c, if_neg c]
      obtain ⟨b, l', υC, υM, u0, u1, u2, u3, u4⟩ := starJ hH hp w n f g (m + 1) (folW (sN lf M (M 84) (M 86) 0) H (M 85 - 5 * M 86) P 0 (zI m)).1 (zI m) τC τM (by omega) (by omega) (by omega) (by omega) (by omega) t4 (hM.fr m4)
      exact ⟨b, l', υC, υM, u0, u1, u2, t5.tr u3, m4.tr u4⟩
end STARTJ
theorem P_start {σC σM : SS} (h : Inv σC σM) (a w : Int32) : ∃ r τC τM, m_X10_start a w σC = some (r, τC) ∧ m_X11_start a w σM = some (r, τM) ∧ Inv τC τM := by
  obtain ⟨P, Bn, lf, hK⟩ := h
  have hI : Inv σC σM := ⟨P, Bn, lf, hK⟩
  have e1 := shC a
  have e3 : m_X11_within w.toInt64 0 1 = 0 ↔ ¬ (0 ≤ w.toInt ∧ w.toInt ≤ 1) := wM32
  have e4 : m_X10_isWithin w 0 1 = 0 ↔ ¬ (0 ≤ w.toInt ∧ w.toInt ≤ 1) := wC
  unfold m_X10_start m_X11_start
  by_cases c : 0 ≤ a.toInt ∧ a.toInt ≤ 5
  · rw [if_neg (fun e => e1.mp e c)]
    obtain ⟨d, hd, rfl⟩ := rng (b := 5) c.1 c.2
    rw [zI_cl (by omega)]
    have bb : ∃ e, m_X11_bytesIs (zI d) σM = some e ∧ ¬ e = -1 := by
      rcases wref hK (by omega : d < 6) with ⟨e, he, -, z, -⟩ | ⟨-, -, z, -⟩ | ⟨-, -, z, -⟩
      · exact ⟨e, z, by rcases he with rfl | rfl <;> decide⟩
      · exact ⟨1, z, by decide⟩
      · exact ⟨1, z, by decide⟩
    obtain ⟨e, be, bn⟩ := bb
    rw [be]
    simp only [Option.bind_some]
    rw [if_neg bn]
    by_cases c3 : 0 ≤ w.toInt ∧ w.toInt ≤ 1
    · rw [if_neg (fun e => e4.mp e c3), if_neg (fun e => e3.mp e c3)]
      rcases wref hK (by omega : d < 6) with ⟨e, he, z1, z2, z3⟩ | ⟨-, z1, z2, z3⟩ | ⟨hp, z1, z2, z3, n, f, hn, l1, l2, rfl, hb, u, q1, q2⟩
      · rw [z1, z3]
        simp only [Option.bind_some]
        rcases he with rfl | rfl
        · exact ⟨_, _, _, rfl, rfl, hI⟩
        · exact ⟨_, _, _, rfl, rfl, hI⟩
      · rw [z1, z3]
        exact ⟨_, _, _, rfl, rfl, hI⟩
      · rw [z1, z3, if_pos (show (0 : Int32) = 0 from rfl)]
        simp only [Option.bind_some]
        rw [if_pos (show (0 : Int32) ≤ 1 by decide)]
        have hH : ∀ p, hT n (σC.2.2 29 d) p < 4 := hT_lt n _
        have hM : WM lf (σM.2.1 1 0) P 0 (hT n (σC.2.2 29 d)) d σM := ⟨hK.km, hK.1.2.2.1, q2⟩
        obtain ⟨s1, s2⟩ := hK.wcn q1
        obtain ⟨τC, t1, t2, t3, t4, t5⟩ := followC hH (van := 0) hp (mi := 0) s1
        obtain ⟨τM, m1, m2, m3, m4⟩ := walksM hH (van := 0) hp (mi := 0) hM
        have t1 : m_X9_follow d 0 0 (m_X7_supposeNow σC) = some τC := t1
        have m1 : m_X11_walks (zI d) 0 0 σM = some τM := m1
        have hb := (fol_b (sN lf (σM.2.1 1 0) ((σM.2.1 1 0) 84) ((σM.2.1 1 0) 86) 0) (hT n (σC.2.2 29 d)) ((σM.2.1 1 0) 85 - 5 * (σM.2.1 1 0) 86) 0 0 (fun p k m => (sN_e lf _ _ _ _ p k m).2) (P - 0) 0 0 (-2) (by have := hK.1.1; omega) (Or.inl rfl)).1
        have hb : (folW (sN lf (σM.2.1 1 0) ((σM.2.1 1 0) 84) ((σM.2.1 1 0) 86) 0) (hT n (σC.2.2 29 d)) ((σM.2.1 1 0) 85 - 5 * (σM.2.1 1 0) 86) P 0 0).1 ≤ 0 + 100 * (P - 0) := hb
        have hfu : 100 < FU := by unfold FU; omega
        have eC : L_X9_bestStart_14 d FU 0 0 0 (m_X7_supposeNow σC) = L_X9_bestStart_14 d (FU - 1) 0 (τC.1 17 0 5) (zI 1) τC := by
          obtain ⟨k, hk⟩ : ∃ k, FU = k + 1 := ⟨99999, rfl⟩
          rw [hk, L_X9_bestStart_14, if_neg (show ¬ (60 : Int32) ≤ 0 by decide), t1]
          simp only [Option.bind_some]
          rw [if_pos trivial]
          rfl
        have eM : L_X11_start_43 FU (zI d) w 0 (-1) 0 σM = L_X11_start_43 (FU - 1) (zI d) w 0 (τM.1 0 0 19) (zI 1) τM := by
          obtain ⟨k, hk⟩ : ∃ k, FU = k + 1 := ⟨99999, rfl⟩
          rw [hk, L_X11_start_43, if_neg (show ¬ (60 : Int32) ≤ 0 by decide), m1]
          simp only [Option.bind_some]
          rw [if_pos (show (-1 : Int32) < 0 by decide)]
          rfl
        obtain ⟨b, l', υC, υM, u0, u1, u2, u3, u4⟩ := starJ hH hp w 59 (FU - 1) (FU - 1) 1 (folW (sN lf (σM.2.1 1 0) ((σM.2.1 1 0) 84) ((σM.2.1 1 0) 86) 0) (hT n (σC.2.2 29 d)) ((σM.2.1 1 0) 85 - 5 * (σM.2.1 1 0) 86) P 0 0).1 0 τC τM (by omega) (by omega) (by omega) (by omega) (by have := hK.1.1; omega) t4 (hM.fr m4)
        unfold m_X9_bestStart
        simp only [bnT]
        rw [eC, eM, t3, m3, u1, u2]
        simp only [Option.bind_some]
        have fin : Inv (sI υC 17 0 5 (zI l')) υM := ⟨P, Bn, lf, hK.fr (((s2.tr t5.fc).tr u3.fc).tr (FrW.s17 _ _ _).fc) (m4.tr u4).fm⟩
        by_cases z : w = 0
        · rw [if_pos z, if_pos z]
          exact ⟨_, _, _, rfl, rfl, fin⟩
        · rw [if_neg z, if_neg z]
          exact ⟨_, _, _, rfl, rfl, fin⟩
    · rw [if_pos (e4.mpr c3), if_pos (e3.mpr c3)]
      exact ⟨_, _, _, rfl, rfl, hI⟩
  · rw [if_pos (e1.mpr c), bytN σM c]
    exact ⟨_, _, _, rfl, rfl, hI⟩
