/-! walks seen: judge, begun -/
section SEEN
variable {P d len : Nat} {lf : Option FN} {M : Nat → Int32} {f : Nat → Int64}
def SnC (lf : Option FN) (M : Nat → Int32) (P d len : Nat) (f : Nat → Int64) (σ : SS) : Prop := KC lf M P (M 84) (M 86) 0 σ ∧ σ.1 1 0 1 = zI P ∧ σ.1 28 d 2 = zI len ∧ σ.2.2 29 d = f
def SnM (lf : Option FN) (M : Nat → Int32) (P d len : Nat) (f : Nat → Int64) (σ : SS) : Prop := KM lf M P 0 σ ∧ σ.1 0 0 6 = zI P ∧ σ.2.1 15 0 d = zI len ∧ ∀ i, i < 60 → σ.2.2 16 0 (60 * d + i) = f i
theorem SnC.fr {σ τ : SS} (h : SnC lf M P d len f σ) (g : FrS σ τ) (hk : KC lf M P (M 84) (M 86) 0 τ) : SnC lf M P d len f τ := ⟨hk, (g.1 1 0 1 (by omega)).trans h.2.1, (g.1 28 d 2 (by omega)).trans h.2.2.1, by rw [g.2.2]; exact h.2.2.2⟩
theorem SnM.fr {σ τ : SS} (h : SnM lf M P d len f σ) (g : FrN σ τ) : SnM lf M P d len f τ := ⟨h.1.fr g, (g.1 0 0 6 (by omega)).trans h.2.1, by rw [g.2.1 15 (by decide)]; exact h.2.2.1, fun i hi => by rw [g.2.2]; exact h.2.2.2 i hi⟩
theorem unJ (hd : d < 6) (hl : len ≤ 60) {k : Nat} (hk : k < 4) (mi : Int32) : ∀ (n fu gu i s : Nat) (σC σM : SS), i + n = len → n < fu → n < gu → s ≤ 100 * i → SnC lf M P d len f σC → SnM lf M P d len f σM → ∃ r τC τM, L_X9_firstUnlike_6 d fu mi (zI k) (zI s) (zI i) σC = some (r, τC) ∧ L_X11_firstFalse_6 gu (zI d) mi (zI k) (zI s) (zI i) σM = some (r, τM) ∧ SnC lf M P d len f τC ∧ FrS σC τC ∧ FrN σM τM
  | n, 0, gu, i, s, σC, σM, h0, hf, hg, hs, hC, hM => absurd hf (by omega)
  | n, fu + 1, 0, i, s, σC, σM, h0, hf, hg, hs, hC, hM => absurd hg (by omega)
  | 0, fu + 1, gu + 1, i, s, σC, σM, h0, hf, hg, hs, hC, hM => by
    have pp : zI len ≤ zI i := by rw [zI_le (by omega) (by omega)]; omega
    rw [L_X9_firstUnlike_6, L_X11_firstFalse_6, if_neg (zI_in (by omega) hd), zI_cl (by omega), hC.2.2.1, hM.2.2.1, if_pos pp, if_pos pp]
    exact ⟨_, _, _, rfl, rfl, hC, FrS.rf _, FrN.rf _⟩
  | n + 1, fu + 1, gu + 1, i, s, σC, σM, h0, hf, hg, hs, hC, hM => by
    have hP := hC.1.1.2.2.2.2
    have pp : ¬ zI len ≤ zI i := by rw [zI_le (by omega) (by omega)]; omega
    rw [L_X9_firstUnlike_6, L_X11_firstFalse_6, if_neg (zI_in (by omega) hd), zI_cl (by omega), hC.2.2.1, hM.2.2.1, if_neg pp, if_neg pp, hC.2.1, hM.2.1]
    by_cases c : i < P
    · have c' : zI i < zI P := by rw [zI_lt (by omega) (by omega)]; exact c
      rw [if_pos c', if_pos c']
      obtain ⟨τC, t1, t2, t3⟩ := inM hC.1 c hk (mi + zI i)
      obtain ⟨τM, m1, m2⟩ := stM hM.1 c (zI k) (mi + zI i)
      obtain ⟨s1, s2⟩ := sN_e lf M (M 84) (M 86) 0 i k (mi + zI i)
      have hC' := hC.fr t3 t2
      have hM' := hM.fr m2
      have hS : s + sN lf M (M 84) (M 86) 0 i k (mi + zI i) ≤ 100000 := by omega
      have ec : m_X6_cell d (zI i) τC = f i := by rw [cell6 hC'.2.2.1 hl (by omega), hC'.2.2.2]
      rw [t1, m1]
      simp only [Option.bind_some]
      rw [i60, zI_mul, zI_add, if_neg (zI_in (by omega) (by omega)), zI_cl (by omega), hM'.2.2.2 i (by omega), ec, s1, zI_add, show zI i + 1 = zI (i + 1) from zI_add i 1]
      have go : ∀ v : Int64, ∃ r υC υM, (if lg_cmp (f i) v = 0 then L_X9_firstUnlike_6 d fu mi (zI k) (zI (s + sN lf M (M 84) (M 86) 0 i k (mi + zI i))) (zI (i + 1)) τC else some (zI i, τC)) = some (r, υC) ∧ (if lg_cmp (f i) v = 0 then L_X11_firstFalse_6 gu (zI d) mi (zI k) (zI (s + sN lf M (M 84) (M 86) 0 i k (mi + zI i))) (zI (i + 1)) τM else some (zI i, τM)) = some (r, υM) ∧ SnC lf M P d len f υC ∧ FrS σC υC ∧ FrN σM υM := fun v => by
        by_cases e : lg_cmp (f i) v = 0
        · rw [if_pos e, if_pos e]
          obtain ⟨r, υC, υM, u1, u2, u3, u4, u5⟩ := unJ hd hl hk mi n fu gu (i + 1) (s + sN lf M (M 84) (M 86) 0 i k (mi + zI i)) τC τM (by omega) (by omega) (by omega) (by omega) hC' hM'
          exact ⟨r, υC, υM, u1, u2, u3, t3.tr u4, m2.tr u5⟩
        · rw [if_neg e, if_neg e]
          exact ⟨_, _, _, rfl, rfl, hC', t3, m2⟩
      generalize s + sN lf M (M 84) (M 86) 0 i k (mi + zI i) = S at go hS ⊢
      by_cases a : S < 120
      · rw [show (if zI S < 120 then zI S else 120) = zI S from if_pos (by rw [i120, zI_lt (by omega) (by omega)]; exact a), if_pos (show zI S ≤ 120 by rw [i120, zI_le (by omega) (by omega)]; omega)]
        exact go _
      · rw [show (if zI S < 120 then zI S else 120) = 120 from if_neg (by rw [i120, zI_lt (by omega) (by omega)]; exact a)]
        by_cases b : S = 120
        · rw [if_pos (show zI S ≤ 120 by rw [i120, zI_le (by omega) (by omega)]; omega), b]
          have := go (zI 120).toInt64
          rw [b] at this
          exact this
        · rw [if_neg (show ¬ zI S ≤ 120 by rw [i120, zI_le (by omega) (by omega)]; omega)]
          exact go _
    · have c' : ¬ zI i < zI P := by rw [zI_lt (by omega) (by omega)]; exact c
      rw [if_neg c', if_neg c']
      exact ⟨_, _, _, rfl, rfl, hC, FrS.rf _, FrN.rf _⟩
theorem begJ (hd : d < 6) (hl : len ≤ 60) {k : Nat} (hk : k < 4) : ∀ (n fu gu m : Nat) (v : Int64) (σC σM : SS), m + n = 60 → n < fu → n < gu → SnC lf M P d len f σC → SnM lf M P d len f σM → ∃ r τC τM, L_X9_minutesLike_12 d fu (zI k) v (zI m) σC = some (r, τC) ∧ L_X11_begun_37 gu (zI d) (zI k) v (zI m) σM = some (r, τM) ∧ FrS σC τC ∧ FrN σM τM
  | n, 0, gu, m, v, σC, σM, h0, hf, hg, hC, hM => absurd hf (by omega)
  | n, fu + 1, 0, m, v, σC, σM, h0, hf, hg, hC, hM => absurd hg (by omega)
  | 0, fu + 1, gu + 1, m, v, σC, σM, h0, hf, hg, hC, hM => by
    have pp : (60 : Int32) ≤ zI m := by rw [i60, zI_le (by omega) (by omega)]; omega
    rw [L_X9_minutesLike_12, L_X11_begun_37, if_pos pp, if_pos pp]
    exact ⟨_, _, _, rfl, rfl, FrS.rf _, FrN.rf _⟩
  | n + 1, fu + 1, gu + 1, m, v, σC, σM, h0, hf, hg, hC, hM => by
    have pp : ¬ (60 : Int32) ≤ zI m := by rw [i60, zI_le (by omega) (by omega)]; omega
    obtain ⟨r, τC, τM, t1, t2, t3, t4, t5⟩ := unJ hd hl hk (zI m) len FU FU 0 0 σC σM (by omega) (by unfold FU; omega) (by unfold FU; omega) (by omega) hC hM
    have t1 : m_X9_firstUnlike d (zI m) (zI k) σC = some (r, τC) := t1
    have t2 : m_X11_firstFalse (zI d) (zI m) (zI k) σM = some (r, τM) := t2
    rw [L_X9_minutesLike_12, L_X11_begun_37, if_neg pp, if_neg pp, t1, t2]
    simp only [Option.bind_some]
    rw [show zI m + 1 = zI (m + 1) from zI_add m 1]
    by_cases c : r = -2
    · rw [if_pos c, if_pos c]
      obtain ⟨r, υC, υM, u1, u2, u3, u4⟩ := begJ hd hl hk n fu gu (m + 1) _ τC τM (by omega) (by omega) (by omega) t3 (hM.fr t5)
      exact ⟨r, υC, υM, u1, u2, t4.tr u3, t5.tr u4⟩
    · have oz : v ||| (0 : Int64) = v := by
        apply Int64.toBitVec_inj.mp
        simp
      rw [if_neg c, if_neg c, oz]
      obtain ⟨r, υC, υM, u1, u2, u3, u4⟩ := begJ hd hl hk n fu gu (m + 1) _ τC τM (by omega) (by omega) (by omega) t3 (hM.fr t5)
      exact ⟨r, υC, υM, u1, u2, t4.tr u3, t5.tr u4⟩
end SEEN
theorem InvK.sn {P Bn d n : Nat} {lf : Option FN} {σC σM : SS} (h : InvK P Bn lf σC σM) (l1 : σC.1 28 d 2 = zI n) (l2 : σM.2.1 15 0 d = zI n) (u : ∀ i, i < 60 → σM.2.2 16 0 (60 * d + i) = σC.2.2 29 d i) : SnC lf (σM.2.1 1 0) P d n (σC.2.2 29 d) (m_X7_supposeNow σC) ∧ FrC σC (m_X7_supposeNow σC) ∧ SnM lf (σM.2.1 1 0) P d n (σC.2.2 29 d) σM := by
  obtain ⟨s1, s2, s3⟩ := supN h.nm h.lc
  exact ⟨⟨s1, (s3.1 1 0 1 (by decide) (by decide) (by omega) (by omega)).trans h.1.2.1, (s3.1 28 d 2 (by decide) (by decide) (by omega) (by omega)).trans l1, by rw [s3.2.2]⟩, s3, h.km, h.1.2.2.1, l2, u⟩
theorem P_judge {σC σM : SS} (h : Inv σC σM) (a b : Int32) : ∃ r τC τM, m_X10_judge a b σC = some (r, τC) ∧ m_X11_judge a b σM = some (r, τM) ∧ Inv τC τM := by
  obtain ⟨P, Bn, lf, hK⟩ := h
  have hI : Inv σC σM := ⟨P, Bn, lf, hK⟩
  have e1 := shC a
  have e3 : m_X11_isHeld (b - b / 10 * 10).toInt64 = 0 ↔ ¬ (0 ≤ (b - b / 10 * 10).toInt ∧ (b - b / 10 * 10).toInt ≤ 3) := wM32 (x := b - b / 10 * 10) (a := 0) (b := 3)
  have e4 : m_X10_isHold (b - b / 10 * 10) = 0 ↔ ¬ (0 ≤ (b - b / 10 * 10).toInt ∧ (b - b / 10 * 10).toInt ≤ 3) := wC (x := b - b / 10 * 10) (a := 0) (b := 3)
  have rs := remS b
  have b0 : b < 0 ↔ b.toInt < 0 := Int32.lt_iff_toInt_lt
  unfold m_X10_judge m_X11_judge
  by_cases c : 0 ≤ a.toInt ∧ a.toInt ≤ 5
  · rw [if_neg (fun e => e1.mp e c)]
    obtain ⟨d, hd, rfl⟩ := rng (b := 5) c.1 c.2
    rw [zI_cl (by omega)]
    have bb : ∃ e, m_X11_bytesIs (zI d) σM = some e ∧ ¬ e = -1 := by
      rcases wref hK (by omega : d < 6) with ⟨e, he, -, z, -⟩ | ⟨-, -, z, -⟩ | ⟨-, -, z, -⟩
      · exact ⟨e, z, by rcases he with rfl | rfl <;> decide⟩
      · exact ⟨1, z, by decide⟩
      · exact ⟨1, z, by decide⟩
    obtain ⟨e, be, bn⟩ := bb
    rw [be]
    simp only [Option.bind_some]
    rw [if_neg bn]
    by_cases c2 : 0 ≤ (b / 10).toInt ∧ (b / 10).toInt ≤ 999
    · rw [if_neg (fun e => (minC _).mp e c2)]
      by_cases c3 : 0 ≤ (b - b / 10 * 10).toInt ∧ (b - b / 10 * 10).toInt ≤ 3
      · have bn : ¬ b < 0 := fun z => by have := b0.mp z; omega
        rw [if_neg (fun e => e4.mp e c3), if_neg bn, if_neg (fun e => (minM _).mp e c2), if_neg (fun e => e3.mp e c3)]
        rcases wref hK (by omega : d < 6) with ⟨e, he, z1, z2, z3⟩ | ⟨-, z1, z2, z3⟩ | ⟨hp, z1, z2, z3, n, f, hn, l1, l2, rfl, hb, u, q1, q2⟩
        · rw [z1, z3]
          simp only [Option.bind_some]
          rcases he with rfl | rfl
          · exact ⟨_, _, _, rfl, rfl, hI⟩
          · exact ⟨_, _, _, rfl, rfl, hI⟩
        · rw [z1, z3]
          exact ⟨_, _, _, rfl, rfl, hI⟩
        · rw [z1, z3, if_pos (show (0 : Int32) = 0 from rfl)]
          simp only [Option.bind_some]
          rw [if_pos (show (0 : Int32) ≤ 1 by decide)]
          obtain ⟨k, hk, ek⟩ := rng (b := 3) c3.1 c3.2
          obtain ⟨n1, n2, n3⟩ := hK.sn l1 l2 u
          obtain ⟨r, τC, τM, t1, t2, t3, t4, t5⟩ := unJ (by omega : d < 6) hn (by omega : k < 4) (b / 10) n FU FU 0 0 _ _ (by omega) (by unfold FU; omega) (by unfold FU; omega) (by omega) n1 n3
          rw [← ek] at t1 t2
          have t1 : m_X9_firstUnlike d (b / 10) (b - b / 10 * 10) (m_X7_supposeNow σC) = some (r, τC) := t1
          have t2 : m_X11_firstFalse (zI d) (b / 10) (b - b / 10 * 10) σM = some (r, τM) := t2
          simp only [bnT]
          rw [t1, t2]
          exact ⟨r, τC, τM, rfl, rfl, P, Bn, lf, hK.fr (n2.tr t4.fc) t5.fm⟩
      · rw [if_pos (e4.mpr c3)]
        by_cases bn : b < 0
        · rw [if_pos bn]
          exact ⟨_, _, _, rfl, rfl, hI⟩
        · rw [if_neg bn, if_neg (fun e => (minM _).mp e c2), if_pos (e3.mpr c3)]
          exact ⟨_, _, _, rfl, rfl, hI⟩
    · rw [if_pos ((minC _).mpr c2)]
      by_cases bn : b < 0
      · rw [if_pos bn]
        exact ⟨_, _, _, rfl, rfl, hI⟩
      · rw [if_neg bn, if_pos ((minM _).mpr c2)]
        exact ⟨_, _, _, rfl, rfl, hI⟩
  · rw [if_pos (e1.mpr c), bytN σM c]
    exact ⟨_, _, _, rfl, rfl, hI⟩
theorem P_begun {σC σM : SS} (h : Inv σC σM) (a b : Int32) : ∃ r τC τM, m_X10_begun a b σC = some (r, τC) ∧ m_X11_begun a b σM = some (r, τM) ∧ Inv τC τM := by
  obtain ⟨P, Bn, lf, hK⟩ := h
  have hI : Inv σC σM := ⟨P, Bn, lf, hK⟩
  have e1 := shC a
  have e3 : m_X11_isHeld b.toInt64 = 0 ↔ ¬ (0 ≤ b.toInt ∧ b.toInt ≤ 3) := wM32 (x := b) (a := 0) (b := 3)
  have e4 : m_X10_isHold b = 0 ↔ ¬ (0 ≤ b.toInt ∧ b.toInt ≤ 3) := wC (x := b) (a := 0) (b := 3)
  have P0 : zI P = 0 ↔ P = 0 := by rw [i0, zI_eq (by have := hK.1.1; omega) (by omega)]
  unfold m_X10_begun m_X11_begun
  rw [hK.1.2.2.1]
  by_cases c : 0 ≤ a.toInt ∧ a.toInt ≤ 5
  · rw [if_neg (fun e => e1.mp e c)]
    obtain ⟨d, hd, rfl⟩ := rng (b := 5) c.1 c.2
    rw [zI_cl (by omega)]
    by_cases c3 : 0 ≤ b.toInt ∧ b.toInt ≤ 3
    · rw [if_neg (fun e => e4.mp e c3)]
      rcases wref hK (by omega : d < 6) with ⟨e, he, z1, z2, z3⟩ | ⟨p0, z1, z2, z3⟩ | ⟨hp, z1, z2, z3, n, f, hn, l1, l2, rfl, hb, u, q1, q2⟩
      · rw [z1, z2]
        simp only [Option.bind_some]
        rcases he with rfl | rfl
        · exact ⟨_, _, _, rfl, rfl, hI⟩
        · exact ⟨_, _, _, rfl, rfl, hI⟩
      · rw [z1, z2]
        simp only [Option.bind_some]
        rw [if_pos trivial, if_neg (fun e => e3.mp e c3), if_pos (P0.mpr p0)]
        exact ⟨_, _, _, rfl, rfl, hI⟩
      · rw [z1, z2, if_pos (show (0 : Int32) = 0 from rfl)]
        simp only [Option.bind_some]
        rw [if_pos trivial, if_neg (fun e => e3.mp e c3), if_neg (fun z => by have := P0.mp z; omega)]
        obtain ⟨k, hk, rfl⟩ := rng (b := 3) c3.1 c3.2
        obtain ⟨n1, n2, n3⟩ := hK.sn l1 l2 u
        obtain ⟨r, τC, τM, t1, t2, t4, t5⟩ := begJ (by omega : d < 6) hn (by omega : k < 4) 60 FU FU 0 0 _ _ (by omega) (by unfold FU; omega) (by unfold FU; omega) n1 n3
        rw [← i0] at t1 t2
        unfold m_X9_minutesLike
        simp only [bnT]
        rw [t1, t2]
        exact ⟨r, τC, τM, rfl, rfl, P, Bn, lf, hK.fr (n2.tr t4.fc) t5.fm⟩
    · rw [if_pos (e4.mpr c3)]
      have bb : ∃ e, m_X11_bytesIs (zI d) σM = some e := by
        rcases wref hK (by omega : d < 6) with ⟨e, he, -, z, -⟩ | ⟨-, -, z, -⟩ | ⟨-, -, z, -⟩
        · exact ⟨e, z⟩
        · exact ⟨1, z⟩
        · exact ⟨1, z⟩
      obtain ⟨e, be⟩ := bb
      rw [be]
      simp only [Option.bind_some]
      by_cases z : e = 1
      · rw [if_pos z, if_pos (e3.mpr c3)]
        exact ⟨_, _, _, rfl, rfl, hI⟩
      · rw [if_neg z]
        exact ⟨_, _, _, rfl, rfl, hI⟩
  · rw [if_pos (e1.mpr c), bytN σM c]
    exact ⟨_, _, _, rfl, rfl, hI⟩
