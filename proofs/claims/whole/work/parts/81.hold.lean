/-! the call hold -/
def tq (fr : Int32) (j : Nat) : Nat := if fr < 0 then 0 else if fr = zI j then 0 else 1
theorem tq_le (fr : Int32) (j : Nat) : tq fr j ≤ 1 := by
  unfold tq
  by_cases a : fr < 0
  · rw [if_pos a]; omega
  · rw [if_neg a]
    by_cases b : fr = zI j
    · rw [if_pos b]; omega
    · rw [if_neg b]; omega
def bs (T : Nat → Nat) (N : Nat) : Nat → Nat → Nat → Nat
  | 0, _, b => b
  | n + 1, j, b => if N < j then b else if T b ≤ T j then bs T N n (j + 1) b else bs T N n (j + 1) j
theorem bs_r (T : Nat → Nat) (N : Nat) : ∀ (n j b : Nat), b ≤ N → bs T N n j b ≤ N
  | 0, j, b, h => h
  | n + 1, j, b, h => by
    unfold bs
    by_cases c : N < j
    · rw [if_pos c]; exact h
    · rw [if_neg c]
      by_cases d : T b ≤ T j
      · rw [if_pos d]; exact bs_r T N n _ _ h
      · rw [if_neg d]; exact bs_r T N n _ _ (by omega)
theorem bs_s {T : Nat → Nat} {N : Nat} : ∀ (n j b : Nat), N < j → bs T N n j b = b
  | 0, j, b, h => rfl
  | n + 1, j, b, h => by unfold bs; rw [if_pos h]
def BS (W : Nat → Nat) (N : Nat) (fr : Int32) : Nat := bs (fun j => W j + tq fr j) N 3 1 0
theorem BS_r (W : Nat → Nat) (N : Nat) (fr : Int32) : BS W N fr ≤ N := bs_r _ _ _ _ _ (by omega)
theorem turC {W : Nat → Nat} {N p j : Nat} (hp : p < 12) (hj : j < 4) (fr : Int32) {σ : SS} (hc : σ.2.1 18 0 (4 * p + j) = zI (if j ≤ N then W j else 1000000)) : m_X9_turnedAhead (zI p) (zI j) fr σ = zI ((if j ≤ N then W j else 1000000) + tq fr j) := by
  have ei : zI p * 4 + zI j = zI (4 * p + j) := by rw [i4, zI_mul, zI_add, Nat.mul_comm]
  unfold m_X9_turnedAhead tq
  rw [ei, if_neg (zI_ge (a := 4 * p + j) (by omega)), if_pos (show zI (4 * p + j) < 48 by rw [i48, zI_lt (by omega) (by omega)]; omega), zI_cl (by omega), hc]
  by_cases a : fr < 0
  · rw [if_pos a, if_pos a]
    exact zI_add _ 0
  · rw [if_neg a, if_neg a]
    by_cases b : fr = zI j
    · rw [if_pos b, if_pos b]
      exact zI_add _ 0
    · rw [if_neg b, if_neg b]
      exact zI_add _ 1
theorem besC {W : Nat → Nat} {N p : Nat} (hp : p < 12) (hN : N ≤ 3) (hW : ∀ j, j < 4 → W j ≤ 2000) (fr : Int32) {σ : SS} (hc : ∀ j, j < 4 → σ.2.1 18 0 (4 * p + j) = zI (if j ≤ N then W j else 1000000)) : ∀ (n f j b : Nat), j + n = 4 → n < f → b ≤ N → L_X9_bestAhead_5 f (zI p) fr (zI b) (zI j) σ = some (zI (bs (fun j => W j + tq fr j) N n j b))
  | n, 0, j, b, h0, hf, hb => absurd hf (by omega)
  | 0, f + 1, j, b, h0, hf, hb => by
    rw [L_X9_bestAhead_5, if_pos (show (4 : Int32) ≤ zI j by rw [i4, zI_le (by omega) (by omega)]; omega)]
    rfl
  | n + 1, f + 1, j, b, h0, hf, hb => by
    have wb := hW b (by omega)
    have wj := hW j (by omega)
    have tb := tq_le fr b
    have tj := tq_le fr j
    rw [L_X9_bestAhead_5, if_neg (show ¬ (4 : Int32) ≤ zI j by rw [i4, zI_le (by omega) (by omega)]; omega), turC hp (by omega) fr (hc b (by omega)), turC hp (by omega) fr (hc j (by omega)), if_pos hb, show zI j + 1 = zI (j + 1) from zI_add j 1]
    by_cases c : N < j
    · rw [if_neg (by omega : ¬ j ≤ N), if_pos (show zI (W b + tq fr b) ≤ zI (1000000 + tq fr j) by rw [zI_le (by omega) (by omega)]; omega), besC hp hN hW fr hc n f (j + 1) b (by omega) (by omega) hb, bs_s _ _ _ c, bs_s _ _ _ (by omega)]
    · rw [if_pos (by omega : j ≤ N)]
      unfold bs
      rw [if_neg c]
      by_cases d : W b + tq fr b ≤ W j + tq fr j
      · rw [if_pos (show zI (W b + tq fr b) ≤ zI (W j + tq fr j) by rw [zI_le (by omega) (by omega)]; exact d), if_pos d]
        exact besC hp hN hW fr hc n f (j + 1) b (by omega) (by omega) hb
      · rw [if_neg (show ¬ zI (W b + tq fr b) ≤ zI (W j + tq fr j) by rw [zI_le (by omega) (by omega)]; exact d), if_neg d]
        exact besC hp hN hW fr hc n f (j + 1) j (by omega) (by omega) (by omega)
theorem besC' {W : Nat → Nat} {N p : Nat} (hp : p < 12) (hN : N ≤ 3) (hW : ∀ j, j < 4 → W j ≤ 2000) (fr : Int32) {σ : SS} (hc : ∀ j, j < 4 → σ.2.1 18 0 (4 * p + j) = zI (if j ≤ N then W j else 1000000)) : m_X9_bestAhead (zI p) fr σ = some (zI (BS W N fr)) ∧ m_X9_leastAhead (zI p) fr σ = some (zI (W (BS W N fr) + tq fr (BS W N fr))) := by
  have h1 : m_X9_bestAhead (zI p) fr σ = some (zI (BS W N fr)) := besC hp hN hW fr hc 3 FU 1 0 (by omega) (by unfold FU; omega) (by omega)
  have hb := BS_r W N fr
  refine ⟨h1, ?_⟩
  unfold m_X9_leastAhead
  rw [h1]
  simp only [Option.bind_some]
  rw [turC hp (by omega) fr (hc _ (by omega)), if_pos hb]
theorem tqM {fr : Int32} {j : Nat} (h : ¬ fr < 0) : m_X11_turned fr (zI j) = zI (tq fr j) := by
  unfold m_X11_turned tq
  rw [if_neg h]
  by_cases b : fr = zI j
  · rw [if_pos b, if_pos b]; rfl
  · rw [if_neg b, if_neg b]; rfl
theorem besM {W : Nat → Nat} {N p : Nat} (hp : p < 12) (hN : N ≤ 3) (hW : ∀ j, j < 4 → W j ≤ 2000) (fr : Int32) {σ : SS} (hn : σ.2.1 1 0 (72 + p) = zI N) (hc : ∀ j, j < 4 → σ.2.1 8 0 (4 * p + j) = zI (W j)) : ∀ (n f j b : Nat), j + n = 4 → n < f → b ≤ N → L_X11_bestHeld_8 f (zI p) fr (zI b) (zI (W b + tq fr b)) (zI j) σ = some (zI (bs (fun j => W j + tq fr j) N n j b))
  | n, 0, j, b, h0, hf, hb => absurd hf (by omega)
  | 0, f + 1, j, b, h0, hf, hb => by
    rw [L_X11_bestHeld_8, show (72 : Int32) + zI p = zI (72 + p) from zI_add 72 p, if_neg (zI_in (by omega) (by omega)), zI_cl (by omega), hn, if_pos (show zI N < zI j by rw [zI_lt (by omega) (by omega)]; omega)]
    rfl
  | n + 1, f + 1, j, b, h0, hf, hb => by
    have wb := hW b (by omega)
    have wj := hW j (by omega)
    have tb := tq_le fr b
    have tj := tq_le fr j
    have ei : (4 : Int32) * zI p + zI j = zI (4 * p + j) := by rw [i4, zI_mul, zI_add]
    rw [L_X11_bestHeld_8, show (72 : Int32) + zI p = zI (72 + p) from zI_add 72 p, if_neg (zI_in (by omega) (by omega)), zI_cl (by omega), hn, show zI j + 1 = zI (j + 1) from zI_add j 1]
    unfold bs
    by_cases c : N < j
    · rw [if_pos (show zI N < zI j by rw [zI_lt (by omega) (by omega)]; exact c), if_pos c]
    · rw [if_neg (show ¬ zI N < zI j by rw [zI_lt (by omega) (by omega)]; exact c), if_neg c, ei, if_neg (zI_in (by omega) (by omega)), zI_cl (by omega), hc j (by omega), if_neg (zI_ge (a := b) (by omega)), if_neg (zI_ge (a := b) (by omega))]
      have e : (if (0 : Int32) ≤ fr then (zI (W j) + m_X11_turned fr (zI j)) else zI (W j) + 0) = zI (W j + tq fr j) := by
        by_cases z : fr < 0
        · rw [if_neg (Int32.not_le.mpr z), tq, if_pos z]
          exact zI_add _ 0
        · rw [if_pos (Int32.not_lt.mp z), tqM z, zI_add]
      have e2 : ∀ X Y : Int32 → Option Int32, (if (0 : Int32) ≤ fr then (if zI (W b + tq fr b) ≤ zI (W j) + m_X11_turned fr (zI j) then X (zI (W b + tq fr b)) else Y (zI (W j) + m_X11_turned fr (zI j))) else (if zI (W b + tq fr b) ≤ zI (W j) + 0 then X (zI (W b + tq fr b)) else Y (zI (W j) + 0))) = (if zI (W b + tq fr b) ≤ zI (W j + tq fr j) then X (zI (W b + tq fr b)) else Y (zI (W j + tq fr j))) := fun X Y => by
        by_cases z : (0 : Int32) ≤ fr
        · rw [if_pos z] at e ⊢
          rw [e]
        · rw [if_neg z] at e ⊢
          rw [e]
      rw [e2 (fun x => L_X11_bestHeld_8 f (zI p) fr (zI b) x (zI (j + 1)) σ) (fun y => L_X11_bestHeld_8 f (zI p) fr (zI j) y (zI (j + 1)) σ)]
      by_cases d : W b + tq fr b ≤ W j + tq fr j
      · rw [if_pos (show zI (W b + tq fr b) ≤ zI (W j + tq fr j) by rw [zI_le (by omega) (by omega)]; exact d), if_pos d]
        exact besM hp hN hW fr hn hc n f (j + 1) b (by omega) (by omega) hb
      · rw [if_neg (show ¬ zI (W b + tq fr b) ≤ zI (W j + tq fr j) by rw [zI_le (by omega) (by omega)]; exact d), if_neg d]
        exact besM hp hN hW fr hn hc n f (j + 1) j (by omega) (by omega) (by omega)
theorem besM' {W : Nat → Nat} {N p : Nat} (hp : p < 12) (hN : N ≤ 3) (hW : ∀ j, j < 4 → W j ≤ 2000) (fr : Int32) {σ : SS} (hn : σ.2.1 1 0 (72 + p) = zI N) (hc : ∀ j, j < 4 → σ.2.1 8 0 (4 * p + j) = zI (W j)) : m_X11_bestHeld (zI p) fr σ = some (zI (BS W N fr)) := by
  have h1 := besM hp hN hW fr hn hc 3 99999 1 0 (by omega) (by omega) (by omega)
  unfold m_X11_bestHeld
  rw [show FU = 99999 + 1 from rfl, L_X11_bestHeld_8, show (72 : Int32) + zI p = zI (72 + p) from zI_add 72 p, if_neg (zI_in (by omega) (by omega)), zI_cl (by omega), hn, if_neg (show ¬ zI N < 0 from zI_ge (by omega)), show (4 : Int32) * zI p + 0 = zI (4 * p + 0) from by rw [i4, zI_mul, i0, zI_add], if_neg (zI_in (by omega) (by omega)), zI_cl (by omega), hc 0 (by omega), if_pos (show (-1 : Int32) < 0 by decide), if_pos (show (-1 : Int32) < 0 by decide), show (0 : Int32) + 1 = zI 1 from rfl, i0]
  have hB : BS W N fr = bs (fun j => W j + tq fr j) N 3 1 0 := rfl
  rw [hB, ← h1]
  by_cases z : fr < 0
  · rw [if_neg (show ¬ zI 0 ≤ fr from Int32.not_le.mpr z), tq, if_pos z, zI_add]
  · rw [if_pos (show zI 0 ≤ fr from Int32.not_lt.mp z), tqM z, zI_add]
