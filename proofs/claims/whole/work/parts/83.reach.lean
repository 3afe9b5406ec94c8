/-! the least a shop is reached with, minute by minute -/
section REACH
variable {P : Nat} {lf : Option FN} {M : Nat → Int32}
def okR (v : Int32) : Prop := v = -1 ∨ ∃ n, n ≤ 999 ∧ v = zI n
def bor (B v : Int32) (s c : Nat) : Int32 := if v = -1 then -1 else if zI (v.toNatClampNeg + s - c) ≤ B then zI (v.toNatClampNeg + s - c) else -1
theorem bor_z {B : Int32} {n s c : Nat} (hn : n < 100000) : bor B (zI n) s c = if zI (n + s - c) ≤ B then zI (n + s - c) else -1 := by
  unfold bor
  rw [if_neg (zI_ne (by omega)), zI_cl (by omega)]
theorem bor_n {B : Int32} {s c : Nat} : bor B (-1) s c = -1 := if_pos rfl
theorem bor_ok {B v : Int32} {s c : Nat} (hB : B.toInt ≤ 999) (hv : okR v) (hs : s ≤ 99) : okR (bor B v s c) := by
  rcases hv with rfl | ⟨n, hn, rfl⟩
  · exact Or.inl bor_n
  · rw [bor_z (by omega)]
    by_cases d : zI (n + s - c) ≤ B
    · have := Int32.le_iff_toInt_le.mp d
      rw [zI_toInt (by omega)] at this
      rw [if_pos d]
      exact Or.inr ⟨_, by omega, rfl⟩
    · rw [if_neg d]
      exact Or.inl rfl
theorem okR_lt {v : Int32} (h : okR v) : (v < 0 ↔ v = -1) ∧ (0 ≤ v ↔ ¬ v = -1) := by
  rcases h with rfl | ⟨n, hn, rfl⟩
  · exact ⟨⟨fun _ => rfl, fun _ => by decide⟩, ⟨fun z => absurd z (by decide), fun z => absurd rfl z⟩⟩
  · exact ⟨⟨fun z => absurd z (zI_ge (by omega)), fun z => absurd z (zI_ne (by omega))⟩, ⟨fun _ => zI_ne (by omega), fun _ => zI_ge' (by omega)⟩⟩
def cmb (a b : Int32) : Int32 := if a = -1 then b else if b = -1 then a else if a ≤ b then a else b
theorem cmbL {α : Type} (F : Int32 → α) (a b : Int32) : (if a = -1 then F b else if b = -1 then F a else if a ≤ b then F a else F b) = F (cmb a b) := by
  unfold cmb
  by_cases h : a = -1
  · rw [if_pos h, if_pos h]
  · rw [if_neg h, if_neg h]
    by_cases g : b = -1
    · rw [if_pos g, if_pos g]
    · rw [if_neg g, if_neg g]
      by_cases l : a ≤ b
      · rw [if_pos l, if_pos l]
      · rw [if_neg l, if_neg l]
theorem cmbM {α : Type} (F : Int32 → α) {a b : Int32} (ha : okR a) (hb : okR b) : (if a < 0 then F b else if b < 0 then F a else if a ≤ b then F a else F b) = F (cmb a b) := by
  rw [← cmbL F a b]
  by_cases h : a = -1
  · rw [if_pos h, if_pos ((okR_lt ha).1.mpr h)]
  · rw [if_neg h, if_neg (fun z => h ((okR_lt ha).1.mp z))]
    by_cases g : b = -1
    · rw [if_pos g, if_pos ((okR_lt hb).1.mpr g)]
    · rw [if_neg g, if_neg (fun z => g ((okR_lt hb).1.mp z))]
theorem cmb_ok {a b : Int32} (ha : okR a) (hb : okR b) : okR (cmb a b) := by
  unfold cmb
  by_cases h : a = -1
  · rw [if_pos h]; exact hb
  · rw [if_neg h]
    by_cases g : b = -1
    · rw [if_pos g]; exact ha
    · rw [if_neg g]
      by_cases l : a ≤ b
      · rw [if_pos l]; exact ha
      · rw [if_neg l]; exact hb
theorem cmb_n (b : Int32) : cmb (-1) b = b := if_pos rfl
theorem cmb_m (a : Int32) : cmb a (-1) = a := by
  unfold cmb
  by_cases h : a = -1
  · rw [if_pos h, h]
  · rw [if_neg h, if_pos rfl]
def lim (M : Nat → Int32) : Int32 := M 85 - 5 * M 86
theorem lim_le (h : RgM M P) : (lim M).toInt ≤ 999 := by
  have o1 := h.2.1 1 (by omega)
  have o2 := h.2.1 2 (by omega)
  obtain ⟨a, ha, ea⟩ := rng (x := M 85) (b := 999) o1.1 o1.2
  obtain ⟨b, hb, eb⟩ := rng (x := M 86) (b := 99) o2.1 o2.2
  unfold lim
  rw [ea, eb, i5, zI_mul, zsub (by omega) (by omega)]
  omega
def sm (lf : Option FN) (M : Nat → Int32) (p : Nat) (m : Int32) : Nat := sN lf M (M 84) (M 86) 0 p 0 m
theorem sm_le (p : Nat) (m : Int32) : sm lf M p m ≤ 99 := (sN_e lf M _ _ _ p 0 m).2
theorem sm_e (p : Nat) (m : Int32) : sT lf M (M 84) (M 86) 0 p 0 m = zI (sm lf M p m) := (sN_e lf M _ _ _ p 0 m).1
def nx (lf : Option FN) (M : Nat → Int32) (P : Nat) (R : Nat → Int32) (m : Int32) (p : Nat) : Int32 := cmb (if p + 1 = P then -1 else bor (lim M) (R p) (sm lf M p m) (if wdT M 0 p m = 0 then 3 else 0)) (if p = 0 then -1 else bor (lim M) (R (p - 1)) (sm lf M p m) 0)
theorem nx_ok (h : RgM M P) {R : Nat → Int32} (hR : ∀ q, okR (R q)) (m : Int32) (p : Nat) : okR (nx lf M P R m p) := by
  unfold nx
  refine cmb_ok ?_ ?_
  · by_cases c : p + 1 = P
    · rw [if_pos c]; exact Or.inl rfl
    · rw [if_neg c]; exact bor_ok (lim_le h) (hR _) (sm_le _ _)
  · by_cases c : p = 0
    · rw [if_pos c]; exact Or.inl rfl
    · rw [if_neg c]; exact bor_ok (lim_le h) (hR _) (sm_le _ _)
theorem borC {σ : SS} (hl : σ.1 14 0 7 = lim M) {v : Int32} (hv : okR v) {s c : Nat} (hs : s ≤ 99) (hc : c ≤ 3) : m_X9_borne v (zI s) (zI c) σ = bor (lim M) v s c := by
  unfold m_X9_borne
  rcases hv with rfl | ⟨n, hn, rfl⟩
  · rw [if_pos rfl, bor_n]
  · have e : (if (0 : Int32) < zI n + zI s - zI c then zI n + zI s - zI c else 0) = zI (n + s - c) := by
      rw [zI_add]
      by_cases d : c ≤ n + s
      · rw [zI_sub d]
        by_cases z : n + s - c = 0
        · rw [z, if_neg (show ¬ (0 : Int32) < zI 0 by decide)]; rfl
        · rw [if_pos (by rw [i0, zI_lt (by omega) (by omega)]; omega)]
      · rw [if_neg (fun z => by
          have := Int32.lt_iff_toInt_lt.mp z
          rw [zsub (by omega) (by omega), show (0 : Int32).toInt = 0 from rfl] at this
          omega), show n + s - c = 0 by omega]
        rfl
    rw [if_neg (zI_ne (by omega)), e, bor_z (by omega)]
    unfold m_X7_isTooMuch
    rw [hl]
    by_cases l : zI (n + s - c) ≤ lim M
    · rw [if_pos l, if_pos l, if_pos (show (0 : Int32) = 0 from rfl)]
    · rw [if_neg l, if_neg l, if_neg (show ¬ (1 : Int32) = 0 by decide)]
theorem DC.s19 {σ : SS} (h : DC lf M P σ) (k : Nat) (v : Int32) : DC lf M P (sA σ 19 0 k v) := by
  obtain ⟨⟨h1, h2, h3, h4, h5, h6, h7⟩, h8, h9⟩ := h
  exact ⟨⟨h1.c rfl, h2.c rfl rfl rfl, h3, h4, h5, h6, h7⟩, h8, h9⟩
theorem FrC.s19 (σ : SS) (k : Nat) (v : Int32) : FrC σ (sA σ 19 0 k v) := ⟨fun _ _ _ _ _ _ _ => rfl, fun _ _ _ _ _ _ _ a => sA_o a, rfl⟩
theorem rb63 {R : Nat → Int32} (hR : ∀ q, okR (R q)) (mi t : Int32) : ∀ (n f : Nat) (σ : SS), n ≤ P → n < f → DC lf M P σ → (∀ q, q < n → σ.2.1 19 0 q = R q) → (∀ q, n ≤ q → q < P → σ.2.1 19 0 q = nx lf M P R (mi + t) q) → ∃ τ, L_X9_reachBy_63 f mi t (zI (P - 1)) (zI n - 1) σ = some τ ∧ DC lf M P τ ∧ FrC σ τ ∧ (∀ q, q < P → τ.2.1 19 0 q = nx lf M P R (mi + t) q)
  | n, 0, σ, h0, hf, h, a1, a2 => absurd hf (by omega)
  | 0, f + 1, σ, h0, hf, h, a1, a2 => ⟨σ, rfl, h, FrC.rf _, fun q => a2 q (by omega)⟩
  | n + 1, f + 1, σ, h0, hf, h, a1, a2 => by
    have hP := h.1.1.2.2.2.2
    obtain ⟨τ, t1, t2, t3⟩ := inM h.1 (p := n) (by omega) (by omega : 0 < 4) (mi + t)
    have h' := h.fs t3 t2
    have t1 : m_X7_inMinute (zI n) 0 (mi + t) σ = some (zI (sm lf M n (mi + t)), τ) := by
      rw [← sm_e]
      exact t1
    have b1 : ∀ q, q < n + 1 → τ.2.1 19 0 q = R q := fun q c => by rw [t3.2.1 19 (by decide) (by decide) (by decide)]; exact a1 q c
    have b2 : ∀ q, n + 1 ≤ q → q < P → τ.2.1 19 0 q = nx lf M P R (mi + t) q := fun q c1 c2 => by rw [t3.2.1 19 (by decide) (by decide) (by decide)]; exact a2 q c1 c2
    have go : ∃ υ, L_X9_reachBy_63 f mi t (zI (P - 1)) (zI n - 1) (sA τ 19 0 n (nx lf M P R (mi + t) n)) = some υ ∧ DC lf M P υ ∧ FrC σ υ ∧ (∀ q, q < P → υ.2.1 19 0 q = nx lf M P R (mi + t) q) := by
      obtain ⟨υ, u1, u2, u3, u4⟩ := rb63 hR mi t n f (sA τ 19 0 n (nx lf M P R (mi + t) n)) (by omega) (by omega) (h'.s19 _ _) (fun q c => by rw [sA_g, if_neg (by omega)]; exact b1 q (by omega)) (fun q c1 c2 => by
        rw [sA_g]
        by_cases e : q = n
        · rw [if_pos e, e]
        · rw [if_neg e]; exact b2 q (by omega) c2)
      exact ⟨υ, u1, u2, (t3.fc.tr (FrC.s19 _ _ _)).tr u3, u4⟩
    have eW : m_X8_windIn (zI n) (mi + t) τ = wdT M 0 n (mi + t) := winC h'.1.1 (by omega) _
    have hl : τ.1 14 0 7 = lim M := h'.2.1
    have s9 := sm_le (lf := lf) (M := M) n (mi + t)
    have nP : zI n = zI (P - 1) ↔ n + 1 = P := by rw [zI_eq (by omega) (by omega)]; omega
    have n0 : zI n = 0 ↔ n = 0 := by rw [i0, zI_eq (by omega) (by omega)]
    have B0 : ∀ q, m_X9_borne (R q) (zI (sm lf M n (mi + t))) 0 τ = bor (lim M) (R q) (sm lf M n (mi + t)) 0 := fun q => borC hl (hR q) s9 (by omega : 0 ≤ 3)
    have B3 : ∀ q, m_X9_borne (R q) (zI (sm lf M n (mi + t))) 3 τ = bor (lim M) (R q) (sm lf M n (mi + t)) 3 := fun q => borC hl (hR q) s9 (by omega : 3 ≤ 3)
    rw [show zI (n + 1) - 1 = zI n by rw [i1, zI_sub (by omega)]; rfl, L_X9_reachBy_63, if_neg (zI_ge (by omega)), t1]
    simp only [Option.bind_some]
    rw [eW, show zI n + (-1 : Int32) = zI n - 1 from Int32.add_neg_eq_sub]
    unfold nx at go
    by_cases z : n = 0
    · subst z
      by_cases l : 0 + 1 = P
      · rw [if_pos l, if_pos rfl, cmb_n] at go
        by_cases w : wdT M 0 0 (mi + t) = 0
        · rw [if_pos w, if_pos (nP.mpr l), if_pos (n0.mpr rfl), if_neg (zI_in (by omega) (by omega)), zI_cl (by omega)]
          exact go
        · rw [if_neg w, if_pos (nP.mpr l), if_pos (n0.mpr rfl), if_neg (zI_in (by omega) (by omega)), zI_cl (by omega)]
          exact go
      · rw [if_neg l, if_pos rfl, cmb_m] at go
        have e2 : ∀ (v : Int32) (F : Int32 → Option SS), (if v = -1 then F (-1) else F v) = F v := fun v F => by
          by_cases c : v = -1
          · rw [if_pos c, c]
          · rw [if_neg c]
        by_cases w : wdT M 0 0 (mi + t) = 0
        · rw [if_pos w] at go
          rw [if_pos w, if_neg (fun e => l (nP.mp e)), if_neg (zI_in (by omega) (by omega)), if_pos (n0.mpr rfl), zI_cl (by omega), b1 0 (by omega), B3, e2 _ (fun x => L_X9_reachBy_63 f mi t (zI (P - 1)) (zI 0 - 1) (sA τ 19 0 0 x))]
          exact go
        · rw [if_neg w] at go
          rw [if_neg w, if_neg (fun e => l (nP.mp e)), if_neg (zI_in (by omega) (by omega)), if_pos (n0.mpr rfl), zI_cl (by omega), b1 0 (by omega), B0, e2 _ (fun x => L_X9_reachBy_63 f mi t (zI (P - 1)) (zI 0 - 1) (sA τ 19 0 0 x))]
          exact go
    · have em : zI n - 1 = zI (n - 1) := by rw [i1, zI_sub (by omega)]
      have hin : ¬ (zI n < 0 ∨ 12 ≤ (zI n).toNatClampNeg) := zI_in (by omega) (by omega)
      have hin1 : ¬ (zI (n - 1) < 0 ∨ 12 ≤ (zI (n - 1)).toNatClampNeg) := zI_in (by omega) (by omega)
      rw [if_neg z] at go
      rw [em] at go ⊢
      by_cases l : n + 1 = P
      · rw [if_pos l, cmb_n] at go
        by_cases w : wdT M 0 n (mi + t) = 0
        · rw [if_pos w, if_pos (nP.mpr l), if_neg (fun e => z (n0.mp e)), if_neg hin1, if_neg hin, zI_cl (by omega), zI_cl (by omega), b1 (n - 1) (by omega), B0]
          exact go
        · rw [if_neg w, if_pos (nP.mpr l), if_neg (fun e => z (n0.mp e)), if_neg hin1, if_neg hin, zI_cl (by omega), zI_cl (by omega), b1 (n - 1) (by omega), B0]
          exact go
      · rw [if_neg l] at go
        by_cases w : wdT M 0 n (mi + t) = 0
        · rw [if_pos w] at go
          rw [if_pos w, if_neg (fun e => l (nP.mp e)), if_neg hin, if_neg (fun e => z (n0.mp e)), if_neg hin1, zI_cl (by omega), zI_cl (by omega), b1 (n - 1) (by omega), b1 n (by omega), B0, B3, cmbL (fun x => L_X9_reachBy_63 f mi t (zI (P - 1)) (zI (n - 1)) (sA τ 19 0 n x))]
          exact go
        · rw [if_neg w] at go
          rw [if_neg w, if_neg (fun e => l (nP.mp e)), if_neg hin, if_neg (fun e => z (n0.mp e)), if_neg hin1, zI_cl (by omega), zI_cl (by omega), b1 (n - 1) (by omega), b1 n (by omega), B0, B0, cmbL (fun x => L_X9_reachBy_63 f mi t (zI (P - 1)) (zI (n - 1)) (sA τ 19 0 n x))]
          exact go
end REACH
