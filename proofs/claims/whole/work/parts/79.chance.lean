/-! chances: ways of twelve minutes, fractions in lowest terms -/
def lI (n : Nat) : Int64 := Int64.ofNat n
theorem lI_toInt {n : Nat} (h : n < 9223372036854775808) : (lI n).toInt = n := Int64.toInt_ofNat_of_lt h
theorem lI_mul (a b : Nat) : lI a * lI b = lI (a * b) := (Int64.ofNat_mul a b).symm
theorem lI_sub {a b : Nat} (h : b ≤ a) : lI a - lI b = lI (a - b) := (Int64.ofNat_sub a b h).symm
theorem lI_div {a b : Nat} (ha : a < 9223372036854775808) (hb : b < 9223372036854775808) : lI a / lI b = lI (a / b) := (Int64.ofNat_div ha hb).symm
theorem lI_eq {a b : Nat} (ha : a < 9223372036854775808) (hb : b < 9223372036854775808) : lI a = lI b ↔ a = b := by
  rw [← Int64.toInt_inj, lI_toInt ha, lI_toInt hb]
  omega
theorem zI_64 {n : Nat} (h : n < 2147483648) : (zI n).toInt64 = lI n := by
  rw [← Int64.toInt_inj, Int32.toInt_toInt64, zI_toInt h, lI_toInt (by omega)]
theorem lI_rem {a b : Nat} (ha : a < 9223372036854775808) (hb : b < 9223372036854775808) : lI a - lI a / lI b * lI b = lI (a % b) := by
  have h1 : a / b * b ≤ a := Nat.div_mul_le_self a b
  rw [lI_div ha hb, lI_mul, lI_sub h1]
  congr 1
  have h2 := Nat.div_add_mod a b
  have h3 := Nat.mul_comm b (a / b)
  omega
theorem cmp0 {n : Nat} (h : n < 9223372036854775808) : lg_cmp (lI n) 0 = 0 ↔ n = 0 := by
  rw [cmp_eq, show (0 : Int64) = lI 0 from rfl, lI_eq h (by omega)]
/-- the greatest common divisor, as both find it -/
theorem comM : ∀ (n b a : Nat) (σ : SS), b < n → a < 9223372036854775808 → b < 9223372036854775808 → L_X11_commonOf_6 n (lI a) (lI b) σ = some (lI (Nat.gcd a b))
  | 0, b, a, σ, h, ha, hb => absurd h (by omega)
  | n + 1, b, a, σ, h, ha, hb => by
    rw [L_X11_commonOf_6]
    by_cases c : b = 0
    · rw [if_pos ((cmp0 hb).mpr c), c, Nat.gcd_zero_right]
    · rw [if_neg (fun z => c ((cmp0 hb).mp z)), lI_rem ha hb]
      have hlt : a % b < b := Nat.mod_lt a (by omega)
      rw [comM n (a % b) b σ (by omega) hb (by omega), ← Nat.gcd_rec, Nat.gcd_comm]
