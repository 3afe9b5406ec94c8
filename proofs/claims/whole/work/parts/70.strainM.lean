/-! strain: supposing; the model; the call -/
section STRM
variable {lf : Option FN} {M : Nat → Int32} {P : Nat} {men scr mg : Int32}
theorem FrC.nm {σ τ : SS} (h : nmR M P σ) (f : FrC σ τ) : nmR M P τ := h.c (by rw [f.2.1 2 (by decide) (by decide) (by decide) (by decide) (by decide) (by decide) (by decide)])
theorem FrC.lc {σ τ : SS} (h : LCo lf σ) (f : FrC σ τ) : LCo lf τ := h.c (f.1 7 0 4 (by decide) (by decide) (by decide) (by decide)) (by rw [f.2.1 9 (by decide) (by decide) (by decide) (by decide) (by decide) (by decide) (by decide)]) (by rw [f.2.1 10 (by decide) (by decide) (by decide) (by decide) (by decide) (by decide) (by decide)])
theorem sup {σ : SS} (h1 : nmR M P σ) (h2 : LCo lf σ) (h3 : 0 < men.toInt) : KC lf M P men scr mg (m_X7_suppose men scr mg σ) ∧ (m_X7_suppose men scr mg σ).1 14 0 7 = M 85 - 5 * scr ∧ FrC σ (m_X7_suppose men scr mg σ) := by
  have f : FrC σ (m_X7_suppose men scr mg σ) := by
    refine ⟨fun t j k a b c d => ?_, fun t a b c d e f g => ?_, rfl⟩
    · unfold m_X7_suppose
      show (sI (sI (sI (sI σ 14 0 4 men) 14 0 5 scr) 14 0 6 mg) 14 0 7 _).1 t j k = _
      rw [sI_o a, sI_o a, sI_o a, sI_o a]
    · unfold m_X7_suppose
      funext x y
      exact if_neg (fun z => e z.1)
  refine ⟨⟨FrC.nm h1 f, FrC.lc h2 f, h3, rfl, rfl, rfl, fun p h g hp hh hg => Or.inl ?_⟩, ?_, f⟩
  · have hP := h1.2.2.2.2
    unfold m_X7_suppose sAf
    show (if _ then _ else _) = _
    exact if_pos (by omega)
  · have e : ∀ τ : SS, τ.2.1 2 0 = σ.2.1 2 0 → m_X8_number 0 8 τ = M 85 := fun τ hτ => (numG (k := 1) (by omega) 0 τ).trans (by rw [hτ]; exact h1.2.1 1 (by omega))
    show m_X8_number 0 8 (sI (sI (sI σ 14 0 4 men) 14 0 5 scr) 14 0 6 mg) - 5 * scr = _
    rw [e (sI (sI (sI σ 14 0 4 men) 14 0 5 scr) 14 0 6 mg) rfl]
theorem supN {σ : SS} (h1 : nmR M P σ) (h2 : LCo lf σ) : KC lf M P (M 84) (M 86) 0 (m_X7_supposeNow σ) ∧ (m_X7_supposeNow σ).1 14 0 7 = M 85 - 5 * M 86 ∧ FrC σ (m_X7_supposeNow σ) := by
  have e7 : m_X8_number 0 7 σ = M 84 := (numG (k := 0) (by omega) 0 σ).trans (h1.2.1 0 (by omega))
  have e9 : m_X8_number 0 9 σ = M 86 := (numG (k := 2) (by omega) 0 σ).trans (h1.2.1 2 (by omega))
  unfold m_X7_supposeNow
  rw [e7, e9]
  exact sup h1 h2 (pos_of (h1.2.2.2.1 0 (by omega)) (Or.inr rfl))
/-- the model's frame of a strain -/
def FrN (σ τ : SS) : Prop := (∀ t j k, ¬ (t = 0 ∧ 12 ≤ k ∧ k ≤ 16) → τ.1 t j k = σ.1 t j k) ∧ (∀ t, t ≠ 7 → τ.2.1 t = σ.2.1 t) ∧ τ.2.2 = σ.2.2
theorem FrN.rf (σ : SS) : FrN σ σ := ⟨fun _ _ _ _ => rfl, fun _ _ => rfl, rfl⟩
theorem FrN.tr {σ τ υ : SS} (h : FrN σ τ) (g : FrN τ υ) : FrN σ υ := ⟨fun t j k a => (g.1 t j k a).trans (h.1 t j k a), fun t a => (g.2.1 t a).trans (h.2.1 t a), g.2.2.trans h.2.2⟩
theorem FrN.fm {σ τ : SS} (h : FrN σ τ) : FrM σ τ := ⟨fun j k a _ _ _ _ => h.1 0 j k (by omega), fun t a _ _ _ => h.2.1 t a, fun t _ => by rw [h.2.2]⟩
def RgM (M : Nat → Int32) (P : Nat) : Prop := (∀ p w, p < P → w < 7 → okV w (M (12 * w + p))) ∧ (∀ k, k < 4 → okV (7 + k) (M (84 + k))) ∧ P ≤ 12
theorem nmR.rg {σ : SS} (h : nmR M P σ) : RgM M P := h.2.2
def KM (lf : Option FN) (M : Nat → Int32) (P : Nat) (mg : Int32) (σ : SS) : Prop := σ.2.1 1 0 = M ∧ LMo lf σ ∧ σ.1 0 0 7 = mg ∧ RgM M P
theorem LMo.c {σ τ : SS} (h : LMo lf σ) (e : τ.1 0 0 11 = σ.1 0 0 11) (a : τ.2.1 6 0 = σ.2.1 6 0) : LMo lf τ := by
  unfold LMo at *
  rw [e, a]
  exact h
theorem KM.fr {σ τ : SS} (h : KM lf M P mg σ) (f : FrN σ τ) : KM lf M P mg τ :=
  ⟨by rw [f.2.1 1 (by decide)]; exact h.1, h.2.1.c (f.1 0 0 11 (by omega)) (by rw [f.2.1 6 (by decide)]), (f.1 0 0 7 (by omega)).trans h.2.2.1, h.2.2.2⟩
theorem winM2 {σ : SS} (h : RgM M P) (hM : σ.2.1 1 0 = M) {p : Nat} (hp : p < P) (m : Int32) : m_X11_windAt (zI p) m σ = some (wdT M (σ.1 0 0 7) p m) := by
  have hP := h.2.2
  unfold m_X11_windAt wdT
  rw [hM, i24, i36, i12]
  simp only [zI_add]
  rw [if_neg (zI_in (by omega) (by omega)), zI_cl (by omega), zI_cl (by omega), zI_cl (by omega), zI_cl (by omega), if_neg (nz_of (pos_of (h.1 p 2 hp (by omega)) (Or.inl rfl))), if_neg (zI_in' (by omega) (by omega))]
  by_cases c : M (36 + p) ≤ m - m / M (24 + p) * M (24 + p)
  · rw [if_pos c, if_pos c, if_neg (zI_in' (by omega) (by omega))]
  · rw [if_neg c, if_neg c, if_neg (zI_in' (by omega) (by omega))]
theorem stM {σ : SS} (h : KM lf M P mg σ) {p : Nat} (hp : p < P) (x m : Int32) : ∃ τ, m_X11_strainAt (zI p) x m σ = some (sT lf M (M 84) (M 86) mg p x m, τ) ∧ FrN σ τ := by
  obtain ⟨hM, hl, hg, hr⟩ := h
  have hP := hr.2.2
  have ek : (48 : Int32) + zI p = zI (48 + p) := zI_add 48 p
  have e84 : (84 : Int32).toNatClampNeg = 84 := rfl
  have e86 : (86 : Int32).toNatClampNeg = 86 := rfl
  unfold m_X11_strainAt
  rw [winM2 hr hM hp m, hg]
  simp only [Option.bind_some]
  rw [hM, e84, e86, if_neg (nz_of (pos_of (hr.2.1 0 (by omega)) (Or.inr rfl))), ek, if_neg (zI_in (by omega) (by omega)), zI_cl (by omega)]
  unfold sT
  generalize wdT M mg p m = w
  cases lf with
  | none =>
    have hl : σ.1 0 0 11 = -1 := hl
    rw [hl, if_pos (show (-1 : Int32) < 0 by decide), if_pos (show (-1 : Int32) < 0 by decide)]
    have key : ∀ v : Int32, ∃ τ, (if (0 : Int32) ≤ v then (if v ≤ 99 then some (v, σ) else some (99, σ)) else some (0, σ)) = some (clV v, τ) ∧ FrN σ τ := fun v => by
      unfold clV
      refine ⟨σ, ?_, FrN.rf σ⟩
      by_cases c : (0 : Int32) ≤ v
      · rw [if_pos c, if_pos c]
        by_cases d : v ≤ 99
        · rw [if_pos d, if_pos d]
        · rw [if_neg d, if_neg d]
      · rw [if_neg c, if_neg c]
    show ∃ τ, _ = some (clV (w * x / M 84 + M (48 + p) + if x = 0 then w / 4 else 0), τ) ∧ _
    by_cases c : x = 0
    · rw [if_pos c, if_pos c]
      exact key _
    · rw [if_neg c, if_neg c]
      exact key _
  | some f =>
    obtain ⟨N, c, t1, t2, t3⟩ := hl
    rw [t2, if_neg (zI_ge (by omega)), if_neg (zI_ge (by omega))]
    have key : ∃ τ, Option.bind (m_X11_workOut 0 (zI N) (sA (sA (sA (sA (sA (sA σ 7 0 (0 : Int32).toNatClampNeg w) 7 0 (1 : Int32).toNatClampNeg x) 7 0 (2 : Int32).toNatClampNeg (M 84)) 7 0 (3 : Int32).toNatClampNeg (M (48 + p))) 7 0 (4 : Int32).toNatClampNeg (M 86)) 7 0 (5 : Int32).toNatClampNeg (zI p))) (fun q8 => if (0 : Int32) ≤ q8.1 then (if q8.1 ≤ 99 then some (q8.1, q8.2) else some (99, q8.2)) else some (0, q8.2)) = some (clV (f (nms w x (M 84) (M (48 + p)) (M 86) p)), τ) ∧ FrN σ τ := by
      generalize hρ : (sA (sA (sA (sA (sA (sA σ 7 0 (0 : Int32).toNatClampNeg w) 7 0 (1 : Int32).toNatClampNeg x) 7 0 (2 : Int32).toNatClampNeg (M 84)) 7 0 (3 : Int32).toNatClampNeg (M (48 + p))) 7 0 (4 : Int32).toNatClampNeg (M 86)) 7 0 (5 : Int32).toNatClampNeg (zI p)) = ρ
      have r1 : ρ.1 = σ.1 := by rw [← hρ]; rfl
      have r2 : ∀ t, t ≠ 7 → ρ.2.1 t = σ.2.1 t := fun t ht => by rw [← hρ, sA_o ht, sA_o ht, sA_o ht, sA_o ht, sA_o ht, sA_o ht]
      have r3 : ρ.2.2 = σ.2.2 := by rw [← hρ]; rfl
      have r4 : ∀ i, i < 6 → ρ.2.1 7 0 i = nms w x (M 84) (M (48 + p)) (M 86) p i := fun i hi => by
        rw [← hρ, sA_g, sA_g, sA_g, sA_g, sA_g, sA_g]
        have : i = 0 ∨ i = 1 ∨ i = 2 ∨ i = 3 ∨ i = 4 ∨ i = 5 := by omega
        rcases this with rfl | rfl | rfl | rfl | rfl | rfl <;> rfl
      have hM' : HM (wkS ρ 0 N) (σ.2.1 6 0) N := ⟨t1, rfl, Or.inr ⟨rfl, by show ρ.2.1 6 0 = _; rw [r2 6 (by decide)]⟩⟩
      have tM := mText hM' ⟨rfl, rfl, rfl, fun _ _ _ _ => rfl, rfl⟩
      rw [t3] at tM
      obtain ⟨τ, m1, m2, m3⟩ := tM
      have eW : m_X11_workOut 0 (zI N) ρ = L_X11_workOut_33 FU 0 0 1 (wkS ρ 0 N) := rfl
      rw [eW, m1]
      simp only [Option.bind_some]
      have eF : f ((wkS ρ 0 N).2.1 7 0) = f (nms w x (M 84) (M (48 + p)) (M 86) p) := d6_text t3 _ _ r4
      have fr : FrN σ τ := ⟨fun t j k hk => by rw [m3.1 t j k (by omega), wkS_f hk, r1], fun t ht => by rw [m3.2]; exact r2 t ht, by rw [m3.2]; exact r3⟩
      rw [eF]
      unfold clV
      refine ⟨τ, ?_, fr⟩
      by_cases c : (0 : Int32) ≤ f (nms w x (M 84) (M (48 + p)) (M 86) p)
      · rw [if_pos c, if_pos c]
        by_cases d : f (nms w x (M 84) (M (48 + p)) (M 86) p) ≤ 99
        · rw [if_pos d, if_pos d]
        · rw [if_neg d, if_neg d]
      · rw [if_neg c, if_neg c]
    by_cases c : x = 0
    · rw [if_pos c]
      exact key
    · rw [if_neg c]
      exact key
theorem sT_r (p : Nat) (h m : Int32) : ∃ n, n ≤ 99 ∧ sT lf M men scr mg p h m = zI n := clV_r _
theorem InvK.km {Bn : Nat} {σC σM : SS} (h : InvK P Bn lf σC σM) : KM lf (σM.2.1 1 0) P 0 σM := ⟨rfl, h.2.2.2.2.1.lm, h.1.2.2.2, (h.2.1.nm h.1.1).rg⟩
theorem InvK.nm {Bn : Nat} {σC σM : SS} (h : InvK P Bn lf σC σM) : nmR (σM.2.1 1 0) P σC := h.2.1.nm h.1.1
theorem InvK.lc {Bn : Nat} {σC σM : SS} (h : InvK P Bn lf σC σM) : LCo lf σC := h.2.2.2.2.1.lc
end STRM
theorem remS (x : Int32) : (0 ≤ x.toInt ∧ 0 ≤ (x / 10).toInt ∧ (x / 10).toInt = x.toInt / 10 ∧ (x - x / 10 * 10).toInt = x.toInt % 10) ∨ (x.toInt < 0 ∧ ((x / 10).toInt < 0 ∨ (x - x / 10 * 10).toInt < 0)) := by
  have l1 := x.le_toInt
  have l2 := x.toInt_lt
  have e : (x / 10).toInt = x.toInt.tdiv 10 := by
    rw [Int32.toInt_div_of_ne_right x 10 (by decide)]
    rfl
  have b : (x / 10 * 10).toInt = x.toInt.tdiv 10 * 10 := by
    rw [Int32.toInt_mul, e, show (10 : Int32).toInt = 10 from rfl]
    refine Int.bmod_eq_of_le ?_ ?_
    · rcases Int.le_total 0 x.toInt with h | h
      · have := Int.tdiv_eq_ediv_of_nonneg (b := 10) h
        omega
      · have : (-x.toInt).tdiv 10 = (-x.toInt) / 10 := Int.tdiv_eq_ediv_of_nonneg (by omega)
        rw [Int.neg_tdiv] at this
        omega
    · rcases Int.le_total 0 x.toInt with h | h
      · have := Int.tdiv_eq_ediv_of_nonneg (b := 10) h
        omega
      · have : (-x.toInt).tdiv 10 = (-x.toInt) / 10 := Int.tdiv_eq_ediv_of_nonneg (by omega)
        rw [Int.neg_tdiv] at this
        omega
  have c : (x - x / 10 * 10).toInt = x.toInt - x.toInt.tdiv 10 * 10 := by
    rw [Int32.toInt_sub, b]
    refine Int.bmod_eq_of_le ?_ ?_
    · rcases Int.le_total 0 x.toInt with h | h
      · have := Int.tdiv_eq_ediv_of_nonneg (b := 10) h
        omega
      · have : (-x.toInt).tdiv 10 = (-x.toInt) / 10 := Int.tdiv_eq_ediv_of_nonneg (by omega)
        rw [Int.neg_tdiv] at this
        omega
    · rcases Int.le_total 0 x.toInt with h | h
      · have := Int.tdiv_eq_ediv_of_nonneg (b := 10) h
        omega
      · have : (-x.toInt).tdiv 10 = (-x.toInt) / 10 := Int.tdiv_eq_ediv_of_nonneg (by omega)
        rw [Int.neg_tdiv] at this
        omega
  rw [c, e]
  by_cases h : 0 ≤ x.toInt
  · left
    have := Int.tdiv_eq_ediv_of_nonneg (b := 10) h
    omega
  · right
    have : (-x.toInt).tdiv 10 = (-x.toInt) / 10 := Int.tdiv_eq_ediv_of_nonneg (by omega)
    rw [Int.neg_tdiv] at this
    omega
theorem P_strain {σC σM : SS} (h : Inv σC σM) (a b : Int32) : ∃ r τC τM, m_X10_strain a b σC = some (r, τC) ∧ m_X11_strain a b σM = some (r, τM) ∧ Inv τC τM := by
  obtain ⟨P, Bn, lf, hK⟩ := h
  have hI : Inv σC σM := ⟨P, Bn, lf, hK⟩
  have e1 : m_X11_within b.toInt64 0 9999 = 0 ↔ ¬ (0 ≤ b.toInt ∧ b.toInt ≤ 9999) := wM32
  have e2 : m_X10_isWithin b 0 9999 = 0 ↔ ¬ (0 ≤ b.toInt ∧ b.toInt ≤ 9999) := wC
  have e3 : m_X11_isHeld (a - a / 10 * 10).toInt64 = 0 ↔ ¬ (0 ≤ (a - a / 10 * 10).toInt ∧ (a - a / 10 * 10).toInt ≤ 3) := wM32 (x := a - a / 10 * 10) (a := 0) (b := 3)
  have e4 : m_X10_isHold (a - a / 10 * 10) = 0 ↔ ¬ (0 ≤ (a - a / 10 * 10).toInt ∧ (a - a / 10 * 10).toInt ≤ 3) := wC (x := a - a / 10 * 10) (a := 0) (b := 3)
  have e5 := hasC hK.1.2.1 hK.1.1 (a / 10)
  have e6 := isPlM hK.1.2.2.1 hK.1.1 (a / 10)
  have rs := remS a
  have a0 : a < 0 ↔ a.toInt < 0 := Int32.lt_iff_toInt_lt
  unfold m_X10_strain m_X11_strain
  by_cases d : 0 ≤ (a / 10).toInt ∧ (a / 10).toInt < P
  · by_cases c : 0 ≤ (a - a / 10 * 10).toInt ∧ (a - a / 10 * 10).toInt ≤ 3
    · have an : ¬ a < 0 := fun z => by have := a0.mp z; omega
      rw [if_neg (fun e => e5.mp e d), if_neg (fun e => e4.mp e c), if_neg an, if_neg (fun e => e6.mp e d), if_neg (fun e => e3.mp e c)]
      by_cases g : 0 ≤ b.toInt ∧ b.toInt ≤ 9999
      · rw [if_neg (fun e => e2.mp e g), if_neg (fun e => e1.mp e g)]
        obtain ⟨p, hp, ep⟩ := rng (b := 12) d.1 (by have := hK.1.1; omega)
        obtain ⟨k, hk, ek⟩ := rng (b := 3) c.1 c.2
        rw [ep, zI_toInt (by omega)] at d
        obtain ⟨s1, s2, s3⟩ := supN hK.nm hK.lc
        simp only [bnT]
        rw [ek, ep]
        obtain ⟨τC, t1, t2, t3⟩ := inM s1 (by omega : p < P) (by omega : k < 4) b
        obtain ⟨τM, u1, u2⟩ := stM hK.km (by omega : p < P) (zI k) b
        rw [t1, u1]
        exact ⟨_, τC, τM, rfl, rfl, P, Bn, lf, hK.fr (s3.tr t3.fc) u2.fm⟩
      · rw [if_pos (e2.mpr g), if_pos (e1.mpr g)]
        exact ⟨_, _, _, rfl, rfl, hI⟩
    · rw [if_neg (fun e => e5.mp e d), if_pos (e4.mpr c)]
      by_cases an : a < 0
      · rw [if_pos an]
        exact ⟨_, _, _, rfl, rfl, hI⟩
      · rw [if_neg an, if_neg (fun e => e6.mp e d), if_pos (e3.mpr c)]
        exact ⟨_, _, _, rfl, rfl, hI⟩
  · rw [if_pos (e5.mpr d)]
    by_cases an : a < 0
    · rw [if_pos an]
      exact ⟨_, _, _, rfl, rfl, hI⟩
    · rw [if_neg an, if_pos (e6.mpr d)]
      exact ⟨_, _, _, rfl, rfl, hI⟩
