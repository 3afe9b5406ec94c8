/-! chances: ways of twelve minutes, fractions in lowest terms -/
def lI (n : Nat) : Int64 := Int64.ofNat n
theorem lI_toInt {n : Nat} (h : n < 9223372036854775808) : (lI n).toInt = n := Int64.toInt_ofNat_of_lt h
theorem lI_mul (a b : Nat) : lI a * lI b = lI (a * b) := (Int64.ofNat_mul a b).symm
theorem lI_sub {a b : Nat} (h : b ≤ a) : lI a - lI b = lI (a - b) := (Int64.ofNat_sub a b h).symm
theorem lI_div {a b : Nat} (ha : a < 9223372036854775808) (hb : b < 9223372036854775808) : lI a / lI b = lI (a / b) := (Int64.ofNat_div ha hb).symm
theorem lI_eq {a b : Nat} (ha : a < 9223372036854775808) (hb : b < 9223372036854775808) : lI a = lI b ↔ a = b := by
  rw [← Int64.toInt_inj, lI_toInt ha, lI_toInt hb]
  omega
theorem zI_64 {n : Nat} (h : n < 2147483648) : (zI n).toInt64 = lI n := by
  rw [← Int64.toInt_inj, Int32.toInt_toInt64, zI_toInt h, lI_toInt (by omega)]
theorem lI_rem {a b : Nat} (ha : a < 9223372036854775808) (hb : b < 9223372036854775808) : lI a - lI a / lI b * lI b = lI (a % b) := by
  have h1 : a / b * b ≤ a := Nat.div_mul_le_self a b
  rw [lI_div ha hb, lI_mul, lI_sub h1]
  congr 1
  have h2 := Nat.div_add_mod a b
  have h3 := Nat.mul_comm b (a / b)
  omega
theorem cmp0 {n : Nat} (h : n < 9223372036854775808) : lg_cmp (lI n) 0 = 0 ↔ n = 0 := by
  rw [cmp_eq, show (0 : Int64) = lI 0 from rfl, lI_eq h (by omega)]
/-- the greatest common divisor, as both find it -/
theorem two_mod {a b : Nat} (h0 : 0 < b) (h1 : 0 < a % b) : 2 * (b % (a % b)) < b := by
  have hlt : a % b < b := Nat.mod_lt a h0
  have h2 : b % (a % b) < a % b := Nat.mod_lt b h1
  have h3 := Nat.mod_add_div b (a % b)
  have h4 : a % b ≤ a % b * (b / (a % b)) := by
    have : 1 ≤ b / (a % b) := (Nat.le_div_iff_mul_le h1).mpr (by omega)
    calc a % b = a % b * 1 := (Nat.mul_one _).symm
      _ ≤ a % b * (b / (a % b)) := Nat.mul_le_mul_left _ this
  omega
theorem gcd_st (a b : Nat) : Nat.gcd b (a % b) = Nat.gcd a b := by
  rw [Nat.gcd_comm a b, Nat.gcd_rec b a, Nat.gcd_comm]
theorem comM : ∀ (k n a b : Nat) (σ : SS), b < 2 ^ k → 2 * k + 1 ≤ n → a < 9223372036854775808 → b < 9223372036854775808 → L_X11_commonOf_6 n (lI a) (lI b) σ = some (lI (Nat.gcd a b))
  | k, 0, a, b, σ, h, hn, ha, hb => absurd hn (by omega)
  | 0, n + 1, a, b, σ, h, hn, ha, hb => by
    have c : b = 0 := by omega
    rw [L_X11_commonOf_6, if_pos ((cmp0 hb).mpr c), c, Nat.gcd_zero_right]
  | k + 1, 1, a, b, σ, h, hn, ha, hb => absurd hn (by omega)
  | k + 1, n + 1 + 1, a, b, σ, h, hn, ha, hb => by
    rw [L_X11_commonOf_6]
    by_cases c : b = 0
    · rw [if_pos ((cmp0 hb).mpr c), c, Nat.gcd_zero_right]
    · rw [if_neg (fun z => c ((cmp0 hb).mp z)), lI_rem ha hb, L_X11_commonOf_6]
      have hlt : a % b < b := Nat.mod_lt a (by omega)
      rw [← gcd_st a b]
      by_cases d : a % b = 0
      · rw [if_pos ((cmp0 (by omega)).mpr d), d, Nat.gcd_zero_right]
      · have h2 := two_mod (a := a) (b := b) (by omega) (by omega)
        have hp : 2 ^ (k + 1) = 2 * 2 ^ k := by rw [Nat.pow_succ, Nat.mul_comm]
        have hlt2 : b % (a % b) < a % b := Nat.mod_lt b (by omega)
        rw [if_neg (fun z => d ((cmp0 (by omega)).mp z)), lI_rem hb (by omega), comM k n (a % b) (b % (a % b)) σ (by omega) (by omega) (by omega) (by omega), gcd_st b (a % b)]
def ptV (a b : Int64) (part : Int32) (g : Nat) : Int64 := if g = 0 then 0 else if part = 0 then a / lI g else b / lI g
theorem ptE (x y : Int64) (part : Int32) {g : Nat} (hg : g < 9223372036854775808) : (if lg_cmp (lI g) 0 = 0 then some (0 : Int64) else if part = 0 then some (x / lI g) else some (y / lI g)) = some (ptV x y part g) := by
  unfold ptV
  by_cases c : g = 0
  · rw [if_pos ((cmp0 hg).mpr c), if_pos c]
  · rw [if_neg (fun z => c ((cmp0 hg).mp z)), if_neg c]
    by_cases d : part = 0
    · rw [if_pos d, if_pos d]
    · rw [if_neg d, if_neg d]
theorem parC (x y : Int64) (part : Int32) : ∀ (k n v a b : Nat) (σ : SS), b < 2 ^ k → 2 * k + 1 ≤ n → v + 2 * k + 1 ≤ 200 → a < 9223372036854775808 → b < 9223372036854775808 → L_X0_partOf_9 n x y part (lI a) (lI b) (zI v) σ = some (ptV x y part (Nat.gcd a b))
  | k, 0, v, a, b, σ, h, hn, hv, ha, hb => absurd hn (by omega)
  | 0, n + 1, v, a, b, σ, h, hn, hv, ha, hb => by
    have c : b = 0 := by omega
    rw [L_X0_partOf_9, if_neg (show ¬ (200 : Int32) ≤ zI v by rw [show (200 : Int32) = zI 200 from rfl, zI_le (by omega) (by omega)]; omega), if_pos ((cmp0 hb).mpr c), c, Nat.gcd_zero_right]
    exact ptE x y part ha
  | k + 1, 1, v, a, b, σ, h, hn, hv, ha, hb => absurd hn (by omega)
  | k + 1, n + 1 + 1, v, a, b, σ, h, hn, hv, ha, hb => by
    rw [L_X0_partOf_9, if_neg (show ¬ (200 : Int32) ≤ zI v by rw [show (200 : Int32) = zI 200 from rfl, zI_le (by omega) (by omega)]; omega)]
    by_cases c : b = 0
    · rw [if_pos ((cmp0 hb).mpr c), c, Nat.gcd_zero_right]
      exact ptE x y part ha
    · rw [if_neg (fun z => c ((cmp0 hb).mp z)), lI_rem ha hb, show zI v + 1 = zI (v + 1) from zI_add v 1, L_X0_partOf_9, if_neg (show ¬ (200 : Int32) ≤ zI (v + 1) by rw [show (200 : Int32) = zI 200 from rfl, zI_le (by omega) (by omega)]; omega)]
      have hlt : a % b < b := Nat.mod_lt a (by omega)
      rw [← gcd_st a b]
      by_cases d : a % b = 0
      · rw [if_pos ((cmp0 (by omega)).mpr d), d, Nat.gcd_zero_right]
        exact ptE x y part hb
      · have h2 := two_mod (a := a) (b := b) (by omega) (by omega)
        have hp : 2 ^ (k + 1) = 2 * 2 ^ k := by rw [Nat.pow_succ, Nat.mul_comm]
        have hlt2 : b % (a % b) < a % b := Nat.mod_lt b (by omega)
        rw [if_neg (fun z => d ((cmp0 (by omega)).mp z)), lI_rem hb (by omega), show zI (v + 1) + 1 = zI (v + 1 + 1) from zI_add (v + 1) 1, parC x y part k n (v + 1 + 1) (a % b) (b % (a % b)) σ (by omega) (by omega) (by omega) (by omega) (by omega), gcd_st b (a % b)]
theorem part_ok {a b : Nat} (ha : a < 2 ^ 54) (hb0 : 0 < b) (hb : b < 2 ^ 54) {k : Nat} (hk : k ≤ 1) (σC σM : SS) : ∃ r, m_X0_partOf (lI a) (lI b) (zI k) σC = some r ∧ m_X11_partOf (lI a) (lI b) (zI k) σM = some r := by
  have p54 : (2 : Nat) ^ 54 = 18014398509481984 := by decide
  have hC := parC (lI a) (lI b) (zI k) 54 FU 0 a b σC hb (by unfold FU; omega) (by omega) (by omega) (by omega)
  have hg0 : 0 < Nat.gcd a b := Nat.gcd_pos_of_pos_right a hb0
  have hgb : Nat.gcd a b ≤ b := Nat.gcd_le_right a hb0
  have hC : m_X0_partOf (lI a) (lI b) (zI k) σC = some (ptV (lI a) (lI b) (zI k) (Nat.gcd a b)) := hC
  refine ⟨_, hC, ?_⟩
  unfold m_X11_partOf ptV
  rw [if_neg (by omega : ¬ Nat.gcd a b = 0)]
  have k01 : k = 0 ∨ k = 1 := by omega
  by_cases c : a = 0
  · rw [if_pos ((cmp0 (by omega)).mpr c)]
    subst c
    rw [Nat.gcd_zero_left, lI_div (by omega) (by omega), lI_div (by omega) (by omega), Nat.zero_div, Nat.div_self hb0]
    rcases k01 with rfl | rfl
    · rfl
    · rfl
  · rw [if_neg (fun z => c ((cmp0 (by omega)).mp z))]
    unfold m_X11_commonOf
    rw [comM 54 FU b a σM ha (by unfold FU; omega) (by omega) (by omega), Nat.gcd_comm b a]
    simp only [Option.bind_some]
    have gn : ¬ lI (Nat.gcd a b) = 0 := fun z => by
      have := (lI_eq (b := 0) (by omega) (by omega)).mp z
      omega
    rw [if_neg gn, if_neg gn]
    rcases k01 with rfl | rfl
    · rfl
    · rfl
/-! ways -/
section WAYS
variable {P : Nat} {M : Nat → Int32}
theorem allC : ∀ (n f p v : Nat) (σ : SS), p + n = P → P ≤ 12 → n < f → σ.1 1 0 1 = zI P → L_X0_allWays_4 f (lI v) (zI p) σ = some (lI (v * 12 ^ n))
  | n, 0, p, v, σ, h0, hP, hf, h => absurd hf (by omega)
  | 0, f + 1, p, v, σ, h0, hP, hf, h => by
    rw [L_X0_allWays_4, h, if_pos (by rw [zI_le (by omega) (by omega)]; omega), Nat.pow_zero, Nat.mul_one]
  | n + 1, f + 1, p, v, σ, h0, hP, hf, h => by
    rw [L_X0_allWays_4, h, if_neg (by rw [zI_le (by omega) (by omega)]; omega), show (12 : Int64) = lI 12 from rfl, lI_mul, show zI p + 1 = zI (p + 1) from zI_add p 1, allC n f (p + 1) (v * 12) σ (by omega) hP (by omega) h, Nat.pow_succ, Nat.mul_assoc, Nat.mul_comm 12 (12 ^ n)]
theorem linM : ∀ (n f p v : Nat) (σ : SS), p + n = P → P ≤ 12 → n < f → σ.1 0 0 6 = zI P → L_X11_lineOf_4 f (lI v) (zI p) σ = some (lI (v * 12 ^ n))
  | n, 0, p, v, σ, h0, hP, hf, h => absurd hf (by omega)
  | 0, f + 1, p, v, σ, h0, hP, hf, h => by
    rw [L_X11_lineOf_4, h, if_pos (by rw [zI_le (by omega) (by omega)]; omega), Nat.pow_zero, Nat.mul_one]
  | n + 1, f + 1, p, v, σ, h0, hP, hf, h => by
    rw [L_X11_lineOf_4, h, if_neg (by rw [zI_le (by omega) (by omega)]; omega), show (12 : Int64) = lI 12 from rfl, lI_mul, show zI p + 1 = zI (p + 1) from zI_add p 1, linM n f (p + 1) (v * 12) σ (by omega) hP (by omega) h, Nat.pow_succ, Nat.mul_assoc, Nat.mul_comm 12 (12 ^ n)]
def fwF (M : Nat → Int32) (w : Int32) (e p : Nat) : Nat := if zI p = w then 12 else 12 - ((M (60 + p)).toNatClampNeg - e)
def fw (M : Nat → Int32) (w : Int32) (e : Nat) : Nat → Nat → Nat → Nat
  | 0, _, v => v
  | n + 1, p, v => fw M w e n (p + 1) (v * fwF M w e p)
theorem fwF_le (M : Nat → Int32) (w : Int32) (e p : Nat) : fwF M w e p ≤ 12 := by
  unfold fwF
  by_cases c : zI p = w
  · rw [if_pos c]; omega
  · rw [if_neg c]; omega
theorem fw_le (M : Nat → Int32) (w : Int32) (e : Nat) : ∀ (n p v u : Nat), v ≤ u → fw M w e n p v ≤ u * 12 ^ n
  | 0, p, v, u, h => by rw [Nat.pow_zero, Nat.mul_one]; exact h
  | n + 1, p, v, u, h => by
    have h1 : v * fwF M w e p ≤ u * 12 := Nat.mul_le_mul h (fwF_le M w e p)
    have := fw_le M w e n (p + 1) _ _ h1
    rw [Nat.pow_succ, Nat.mul_comm (12 ^ n) 12, ← Nat.mul_assoc]
    exact this
theorem fw_mono (M : Nat → Int32) (w : Int32) (e : Nat) : ∀ (n p v u : Nat), v ≤ u → fw M w 0 n p v ≤ fw M w e n p u
  | 0, p, v, u, h => h
  | n + 1, p, v, u, h => by
    unfold fw
    refine fw_mono M w e n (p + 1) _ _ (Nat.mul_le_mul h ?_)
    unfold fwF
    by_cases c : zI p = w
    · rw [if_pos c, if_pos c]; omega
    · rw [if_neg c, if_neg c]; omega
theorem freC {w : Int32} {e : Nat} (he : e ≤ 12) : ∀ (n f p v : Nat) (σ : SS), p + n = P → n < f → nmR M P σ → σ.1 1 0 1 = zI P → L_X0_freeWays_5 f w (zI e) (lI v) (zI p) σ = some (lI (fw M w e n p v))
  | n, 0, p, v, σ, h0, hf, hn, h => absurd hf (by omega)
  | 0, f + 1, p, v, σ, h0, hf, hn, h => by
    have hP := hn.2.2.2.2
    rw [L_X0_freeWays_5, h, if_pos (by rw [zI_le (by omega) (by omega)]; omega)]
    rfl
  | n + 1, f + 1, p, v, σ, h0, hf, hn, h => by
    have hP := hn.2.2.2.2
    have e5 : m_X8_number (zI p) 5 σ = M (60 + p) := (numC (w := 5) (by omega) (by omega) _).trans (hn.1 p 5 (by omega) (by omega))
    have ok := hn.2.2.1 p 5 (by omega) (by omega)
    obtain ⟨q, hq, eq⟩ := rng (x := M (60 + p)) (b := 12) ok.1 ok.2
    rw [L_X0_freeWays_5, h, if_neg (by rw [zI_le (by omega) (by omega)]; omega), e5, show zI p + 1 = zI (p + 1) from zI_add p 1]
    unfold fw fwF
    rw [eq, zI_cl (by omega)]
    by_cases c : zI p = w
    · rw [if_pos c, if_pos c, show (12 : Int64) = lI 12 from rfl, lI_mul]
      exact freC he n f (p + 1) _ σ (by omega) (by omega) hn h
    · have em : (if (0 : Int32) < zI q - zI e then zI q - zI e else 0) = zI (q - e) := by
        by_cases d : e < q
        · rw [if_pos (by rw [zI_sub (by omega), i0, zI_lt (by omega) (by omega)]; omega), zI_sub (by omega)]
        · rw [if_neg (fun z => by
            have := Int32.lt_iff_toInt_lt.mp z
            rw [zsub (by omega) (by omega), show (0 : Int32).toInt = 0 from rfl] at this
            omega), show q - e = 0 by omega]
          rfl
      rw [if_neg c, if_neg c, em, i12, zI_sub (by omega), zI_64 (by omega), lI_mul]
      exact freC he n f (p + 1) _ σ (by omega) (by omega) hn h
theorem freM {w : Int32} {e : Nat} (he : e ≤ 12) : ∀ (n f p v : Nat) (σ : SS), p + n = P → n < f → RgM M P → σ.2.1 1 0 = M → σ.1 0 0 6 = zI P → L_X11_freeWays_5 f w (zI e) (lI v) (zI p) σ = some (lI (fw M w e n p v))
  | n, 0, p, v, σ, h0, hf, hn, hM, h => absurd hf (by omega)
  | 0, f + 1, p, v, σ, h0, hf, hn, hM, h => by
    have hP := hn.2.2
    rw [L_X11_freeWays_5, h, if_pos (by rw [zI_le (by omega) (by omega)]; omega)]
    rfl
  | n + 1, f + 1, p, v, σ, h0, hf, hn, hM, h => by
    have hP := hn.2.2
    have ok := hn.1 p 5 (by omega) (by omega)
    obtain ⟨q, hq, eq⟩ := rng (x := M (60 + p)) (b := 12) ok.1 ok.2
    rw [L_X11_freeWays_5, h, if_neg (by rw [zI_le (by omega) (by omega)]; omega), show (60 : Int32) + zI p = zI (60 + p) from zI_add 60 p, if_neg (zI_in (by omega) (by omega)), zI_cl (by omega), hM, eq, show zI p + 1 = zI (p + 1) from zI_add p 1]
    unfold fw fwF
    rw [eq, zI_cl (by omega)]
    by_cases c : zI p = w
    · rw [if_pos c, if_pos c, show ((12 : Int32) - 0).toInt64 = lI 12 from rfl, lI_mul]
      exact freM he n f (p + 1) _ σ (by omega) (by omega) hn hM h
    · rw [if_neg c, if_neg c]
      by_cases d : e ≤ q
      · rw [if_pos (by rw [zI_sub d, i0, zI_le (by omega) (by omega)]; omega), zI_sub d, i12, zI_sub (by omega), zI_64 (by omega), lI_mul]
        exact freM he n f (p + 1) _ σ (by omega) (by omega) hn hM h
      · rw [if_neg (fun z => by
            have := Int32.le_iff_toInt_le.mp z
            rw [zsub (by omega) (by omega), show (0 : Int32).toInt = 0 from rfl] at this
            omega), show ((12 : Int32) - 0).toInt64 = lI 12 from rfl, lI_mul, show 12 - (q - e) = 12 by omega]
        exact freM he n f (p + 1) _ σ (by omega) (by omega) hn hM h
end WAYS
section FREE
variable {P Bn : Nat} {lf : Option FN} {σC σM : SS}
theorem p12 : (12 : Nat) ^ 12 = 8916100448256 := by decide
theorem pw12 {P : Nat} (h : P ≤ 12) : 0 < 12 ^ P ∧ 12 ^ P ≤ 8916100448256 := by
  refine ⟨Nat.pow_pos (by omega), ?_⟩
  rw [← p12]
  exact Nat.pow_le_pow_right (by omega) h
def fW (M : Nat → Int32) (P : Nat) (w : Int32) (e : Nat) : Nat := fw M w e P 0 1
theorem fW_le (M : Nat → Int32) (P : Nat) (w : Int32) (e : Nat) : fW M P w e ≤ 12 ^ P := by
  have := fw_le M w e P 0 1 1 (Nat.le_refl _)
  rw [Nat.one_mul] at this
  exact this
theorem waysC {M : Nat → Int32} {σ : SS} (hn : nmR M P σ) (hP : σ.1 1 0 1 = zI P) : m_X0_allWays σ = some (lI (12 ^ P)) ∧ ∀ w e, e ≤ 12 → m_X0_freeWays w (zI e) σ = some (lI (fW M P w e)) := by
  have h12 := hn.2.2.2.2
  refine ⟨?_, fun w e he => ?_⟩
  · have := allC P FU 0 1 σ (by omega) h12 (by unfold FU; omega) hP
    rw [Nat.one_mul] at this
    exact this
  · exact freC he P FU 0 1 σ (by omega) (by unfold FU; omega) hn hP
theorem waysM {M : Nat → Int32} {σ : SS} (hn : RgM M P) (hM : σ.2.1 1 0 = M) (hP : σ.1 0 0 6 = zI P) : m_X11_lineOf σ = some (lI (12 ^ P)) ∧ ∀ w e, e ≤ 12 → m_X11_freeWays w (zI e) σ = some (lI (fW M P w e)) := by
  have h12 := hn.2.2
  refine ⟨?_, fun w e he => ?_⟩
  · have := linM P FU 0 1 σ (by omega) h12 (by unfold FU; omega) hP
    rw [Nat.one_mul] at this
    exact this
  · exact freM he P FU 0 1 σ (by omega) (by unfold FU; omega) hn hM hP
end FREE
theorem P_free {σC σM : SS} (h : Inv σC σM) (a : Int32) : ∃ r, m_X10_free a σC = some r ∧ m_X11_free a σM = some r := by
  obtain ⟨P, Bn, lf, hK⟩ := h
  have hP := hK.1.1
  have e1 : m_X11_within a.toInt64 0 1 = 0 ↔ ¬ (0 ≤ a.toInt ∧ a.toInt ≤ 1) := wM32
  have e2 : m_X10_isWithin a 0 1 = 0 ↔ ¬ (0 ≤ a.toInt ∧ a.toInt ≤ 1) := wC
  have P0 : zI P = 0 ↔ P = 0 := by rw [i0, zI_eq (by omega) (by omega)]
  obtain ⟨c1, c2⟩ := waysC hK.nm hK.1.2.1
  obtain ⟨m1, m2⟩ := waysM hK.km.2.2.2 rfl hK.1.2.2.1
  have hw := pw12 hP
  have p54 : (2 : Nat) ^ 54 = 18014398509481984 := by decide
  unfold m_X10_free m_X11_free
  rw [hK.1.2.1, hK.1.2.2.1]
  by_cases c : 0 ≤ a.toInt ∧ a.toInt ≤ 1
  · rw [if_neg (fun e => e2.mp e c), if_neg (fun e => e1.mp e c)]
    by_cases p0 : P = 0
    · rw [if_pos (P0.mpr p0), if_pos (P0.mpr p0)]
      exact ⟨_, rfl, rfl⟩
    · obtain ⟨k, hk, rfl⟩ := rng (b := 1) c.1 c.2
      have hle := fW_le (σM.2.1 1 0) P (-1) 0
      obtain ⟨r, r1, r2⟩ := part_ok (a := fW (σM.2.1 1 0) P (-1) 0) (b := 12 ^ P) (by omega) hw.1 (by omega) hk σC σM
      rw [if_neg (fun z => p0 (P0.mp z)), if_neg (fun z => p0 (P0.mp z)), i0, c2 _ 0 (by omega), m2 _ 0 (by omega), c1, m1]
      simp only [Option.bind_some]
      rw [r1, r2]
      exact ⟨r, rfl, rfl⟩
  · rw [if_pos (e2.mpr c), if_pos (e1.mpr c)]
    exact ⟨_, rfl, rfl⟩
theorem P_earlier {σC σM : SS} (h : Inv σC σM) (n a : Int32) : ∃ r, m_X10_earlier n a σC = some r ∧ m_X11_earlier n a σM = some r := by
  obtain ⟨P, Bn, lf, hK⟩ := h
  have hP := hK.1.1
  have e1 : m_X11_within a.toInt64 0 1 = 0 ↔ ¬ (0 ≤ a.toInt ∧ a.toInt ≤ 1) := wM32
  have e2 : m_X10_isWithin a 0 1 = 0 ↔ ¬ (0 ≤ a.toInt ∧ a.toInt ≤ 1) := wC
  have e3 : m_X11_within n.toInt64 0 12 = 0 ↔ ¬ (0 ≤ n.toInt ∧ n.toInt ≤ 12) := wM32
  have e4 : m_X10_isWithin n 0 12 = 0 ↔ ¬ (0 ≤ n.toInt ∧ n.toInt ≤ 12) := wC
  have P0 : zI P = 0 ↔ P = 0 := by rw [i0, zI_eq (by omega) (by omega)]
  obtain ⟨c1, c2⟩ := waysC hK.nm hK.1.2.1
  obtain ⟨m1, m2⟩ := waysM hK.km.2.2.2 rfl hK.1.2.2.1
  have hw := pw12 hP
  have p54 : (2 : Nat) ^ 54 = 18014398509481984 := by decide
  unfold m_X10_earlier m_X11_earlier
  rw [hK.1.2.1, hK.1.2.2.1]
  by_cases d : 0 ≤ n.toInt ∧ n.toInt ≤ 12
  · rw [if_neg (fun e => e4.mp e d), if_neg (fun e => e3.mp e d)]
    by_cases c : 0 ≤ a.toInt ∧ a.toInt ≤ 1
    · rw [if_neg (fun e => e2.mp e c), if_neg (fun e => e1.mp e c)]
      by_cases p0 : P = 0
      · rw [if_pos (P0.mpr p0), if_pos (P0.mpr p0)]
        exact ⟨_, rfl, rfl⟩
      · obtain ⟨k, hk, rfl⟩ := rng (b := 1) c.1 c.2
        obtain ⟨e, he, rfl⟩ := rng (b := 12) d.1 d.2
        have hle := fW_le (σM.2.1 1 0) P (-1) e
        have hmo : fW (σM.2.1 1 0) P (-1) 0 ≤ fW (σM.2.1 1 0) P (-1) e := fw_mono _ _ _ _ _ _ _ (Nat.le_refl _)
        obtain ⟨r, r1, r2⟩ := part_ok (a := fW (σM.2.1 1 0) P (-1) e - fW (σM.2.1 1 0) P (-1) 0) (b := 12 ^ P) (by omega) hw.1 (by omega) hk σC σM
        rw [if_neg (fun z => p0 (P0.mp z)), if_neg (fun z => p0 (P0.mp z)), i0, c2 _ e he, c2 _ 0 (by omega), m2 _ e he, m2 _ 0 (by omega), c1, m1]
        simp only [Option.bind_some]
        rw [lI_sub hmo, r1, r2]
        exact ⟨r, rfl, rfl⟩
    · rw [if_pos (e2.mpr c), if_pos (e1.mpr c)]
      exact ⟨_, rfl, rfl⟩
  · rw [if_pos (e4.mpr d), if_pos (e3.mpr d)]
    exact ⟨_, rfl, rfl⟩
theorem watJ {P : Nat} (hP : P ≤ 12) {M : Nat → Int32} {σC σM : SS} (h1 : σC.1 1 0 1 = zI P) (h6 : σM.1 0 0 6 = zI P) (c2 : ∀ w e, e ≤ 12 → m_X0_freeWays w (zI e) σC = some (lI (fW M P w e))) (m2 : ∀ w e, e ≤ 12 → m_X11_freeWays w (zI e) σM = some (lI (fW M P w e))) (part : Int32) : ∀ (n f g p b : Nat), p + n = P ∨ (n = 0 ∧ P ≤ p ∧ p ≤ 12) → n < f → n < g → b ≤ 12 → ∃ q, q ≤ 12 ∧ L_X0_bestWatched_4 f (zI b) (zI p) σC = some (zI q) ∧ L_X11_watch_31 g part (zI b) (zI p) σM = (if part = 2 then some (zI q).toInt64 else Option.bind (m_X11_freeWays (zI q) 0 σM) (fun q5 => Option.bind (m_X11_lineOf σM) (fun q6 => Option.bind (m_X11_partOf q5 q6 part σM) (fun q7 => some q7))))
  | n, 0, g, p, b, h0, hf, hg, hb => absurd hf (by omega)
  | n, f + 1, 0, p, b, h0, hf, hg, hb => absurd hg (by omega)
  | 0, f + 1, g + 1, p, b, h0, hf, hg, hb => by
    have pp : zI P ≤ zI p := by rw [zI_le (by omega) (by omega)]; omega
    refine ⟨b, hb, ?_, ?_⟩
    · rw [L_X0_bestWatched_4, h1, if_pos pp]
    · rw [L_X11_watch_31, h6, if_pos pp]
  | n + 1, f + 1, g + 1, p, b, h0, hf, hg, hb => by
    have pp : ¬ zI P ≤ zI p := by rw [zI_le (by omega) (by omega)]; omega
    have c2' : ∀ w, m_X0_freeWays w 0 σC = some (lI (fW M P w 0)) := fun w => c2 w 0 (by omega)
    have m2' : ∀ w, m_X11_freeWays w 0 σM = some (lI (fW M P w 0)) := fun w => m2 w 0 (by omega)
    rw [L_X0_bestWatched_4, L_X11_watch_31, h1, h6, if_neg pp, if_neg pp, c2', c2', show m_X11_freeWays (zI p) 0 σM = _ from m2' _, show m_X11_freeWays (zI b) 0 σM = _ from m2' _]
    simp only [Option.bind_some]
    rw [show zI p + 1 = zI (p + 1) from zI_add p 1]
    by_cases c : lg_cmp (lI (fW M P (zI p) 0)) (lI (fW M P (zI b) 0)) ≤ 0
    · rw [if_pos c, if_pos c]
      exact watJ hP h1 h6 c2 m2 part n f g (p + 1) b (by omega) (by omega) (by omega) hb
    · rw [if_neg c, if_neg c]
      exact watJ hP h1 h6 c2 m2 part n f g (p + 1) p (by omega) (by omega) (by omega) (by omega)
theorem P_watch {σC σM : SS} (h : Inv σC σM) (a : Int32) : ∃ r, m_X10_watch a σC = some r ∧ m_X11_watch a σM = some r := by
  obtain ⟨P, Bn, lf, hK⟩ := h
  have hP := hK.1.1
  have e1 : m_X11_within a.toInt64 0 2 = 0 ↔ ¬ (0 ≤ a.toInt ∧ a.toInt ≤ 2) := wM32
  have e2 : m_X10_isWithin a 0 2 = 0 ↔ ¬ (0 ≤ a.toInt ∧ a.toInt ≤ 2) := wC
  have P0 : zI P = 0 ↔ P = 0 := by rw [i0, zI_eq (by omega) (by omega)]
  obtain ⟨c1, c2⟩ := waysC hK.nm hK.1.2.1
  obtain ⟨m1, m2⟩ := waysM hK.km.2.2.2 rfl hK.1.2.2.1
  have hw := pw12 hP
  have p54 : (2 : Nat) ^ 54 = 18014398509481984 := by decide
  unfold m_X10_watch m_X11_watch
  rw [hK.1.2.1, hK.1.2.2.1]
  by_cases c : 0 ≤ a.toInt ∧ a.toInt ≤ 2
  · rw [if_neg (fun e => e2.mp e c), if_neg (fun e => e1.mp e c)]
    by_cases p0 : P = 0
    · rw [if_pos (P0.mpr p0), if_pos (P0.mpr p0)]
      exact ⟨_, rfl, rfl⟩
    · rw [if_neg (fun z => p0 (P0.mp z)), if_neg (fun z => p0 (P0.mp z))]
      obtain ⟨q, hq, w1, w2⟩ := watJ hP hK.1.2.1 hK.1.2.2.1 c2 m2 a (P - 1) FU FU 1 0 (by omega) (by unfold FU; omega) (by unfold FU; omega) (by omega)
      rw [← i0, ← i1] at w1 w2
      have w1 : m_X0_bestWatched σC = some (zI q) := w1
      rw [w1, w2]
      simp only [Option.bind_some]
      by_cases a2 : a = 2
      · rw [if_pos a2, if_pos a2]
        exact ⟨_, rfl, rfl⟩
      · obtain ⟨k, hk, rfl⟩ := rng (b := 2) c.1 c.2
        have hk1 : k ≤ 1 := by
          have : k ≠ 2 := fun z => a2 (by rw [z]; rfl)
          omega
        have hle := fW_le (σM.2.1 1 0) P (zI q) 0
        obtain ⟨r, r1, r2⟩ := part_ok (a := fW (σM.2.1 1 0) P (zI q) 0) (b := 12 ^ P) (by omega) hw.1 (by omega) hk1 σC σM
        rw [if_neg a2, if_neg a2, show m_X0_freeWays (zI q) 0 σC = _ from c2 _ 0 (by omega), show m_X11_freeWays (zI q) 0 σM = _ from m2 _ 0 (by omega), c1, m1]
        simp only [Option.bind_some]
        rw [r1, r2]
        exact ⟨r, rfl, rfl⟩
  · rw [if_pos (e2.mpr c), if_pos (e1.mpr c)]
    exact ⟨_, rfl, rfl⟩
