/-! looking ahead -/
section AHEAD
variable {P : Nat} {lf : Option FN} {M : Nat → Int32} {mi : Int32}
def vW (t : Nat → Nat → Nat) (nw : Nat → Nat) : Nat → Nat → Nat → Nat
  | 0, _, _ => 0
  | n + 1, p, k => t p k + (if n = 0 then 0 else vW t nw n (p + 1) (BS (vW t nw n (p + 1)) (nw (p + 1)) (zI k)) + tq (zI k) (BS (vW t nw n (p + 1)) (nw (p + 1)) (zI k)))
theorem vW_le {t : Nat → Nat → Nat} {nw : Nat → Nat} (ht : ∀ p k, t p k ≤ 99) : ∀ (n p k : Nat), vW t nw n p k ≤ 100 * n
  | 0, p, k => Nat.le_refl _
  | n + 1, p, k => by
    have h1 := ht p k
    have h2 := vW_le (nw := nw) ht n (p + 1) (BS (vW t nw n (p + 1)) (nw (p + 1)) (zI k))
    have h3 := tq_le (zI k) (BS (vW t nw n (p + 1)) (nw (p + 1)) (zI k))
    unfold vW
    by_cases c : n = 0
    · rw [if_pos c]; omega
    · rw [if_neg c]; omega
def nw (M : Nat → Int32) (p : Nat) : Nat := (M (72 + p)).toNatClampNeg
def tt (lf : Option FN) (M : Nat → Int32) (mi : Int32) (p k : Nat) : Nat := sN lf M (M 84) (M 86) 0 p k (mi + zI p)
theorem tt_le (p k : Nat) : tt lf M mi p k ≤ 99 := (sN_e lf M _ _ _ p k _).2
theorem nw_e (h : RgM M P) {p : Nat} (hp : p < P) : M (72 + p) = zI (nw M p) ∧ nw M p ≤ 3 := by
  have ok := h.1 p 6 hp (by omega)
  obtain ⟨q, hq, eq⟩ := rng (x := M (72 + p)) (b := 3) ok.1 ok.2
  unfold nw
  rw [eq, zI_cl (by omega)]
  exact ⟨rfl, hq⟩
def vV (lf : Option FN) (M : Nat → Int32) (mi : Int32) (P p k : Nat) : Nat := vW (tt lf M mi) (nw M) (P - p) p k
theorem vV_le (hP : P ≤ 12) (p k : Nat) : vV lf M mi P p k ≤ 2000 := by
  have := vW_le (nw := nw M) (tt_le (lf := lf) (M := M) (mi := mi)) (P - p) p k
  unfold vV
  omega
theorem vV_e {p k : Nat} (hp : p < P) : vV lf M mi P p k = tt lf M mi p k + (if p + 1 = P then 0 else vV lf M mi P (p + 1) (BS (vV lf M mi P (p + 1)) (nw M (p + 1)) (zI k)) + tq (zI k) (BS (vV lf M mi P (p + 1)) (nw M (p + 1)) (zI k))) := by
  have e : P - p = (P - (p + 1)) + 1 := by omega
  have hv : vV lf M mi P (p + 1) = vW (tt lf M mi) (nw M) (P - (p + 1)) (p + 1) := rfl
  rw [hv]
  unfold vV
  rw [e, vW]
  by_cases c : p + 1 = P
  · rw [if_pos c, if_pos (by omega)]
  · rw [if_neg c, if_neg (by omega)]
theorem DC.s18 {σ : SS} (h : DC lf M P σ) (k : Nat) (v : Int32) : DC lf M P (sA σ 18 0 k v) := by
  obtain ⟨⟨h1, h2, h3, h4, h5, h6, h7⟩, h8, h9⟩ := h
  exact ⟨⟨h1.c rfl, h2.c rfl rfl rfl, h3, h4, h5, h6, h7⟩, h8, h9⟩
theorem FrC.s18 (σ : SS) (k : Nat) (v : Int32) : FrC σ (sA σ 18 0 k v) := ⟨fun _ _ _ _ _ _ _ => rfl, fun _ _ _ _ _ _ a _ => sA_o a, rfl⟩
theorem DC.fs {σ τ : SS} (h : DC lf M P σ) (g : FrS σ τ) (hk : KC lf M P (M 84) (M 86) 0 τ) : DC lf M P τ := h.fr g.fw hk
def aC (lf : Option FN) (M : Nat → Int32) (mi : Int32) (P q j : Nat) : Nat := if j ≤ nw M q then vV lf M mi P q j else 1000000
theorem setC {p k : Nat} (hp : p < 12) (hk : k < 4) (v : Int32) (σ : SS) : m_X9_setAhead (zI p) (zI k) v σ = sA σ 18 0 (4 * p + k) v := by
  have ei : zI p * 4 + zI k = zI (4 * p + k) := by rw [i4, zI_mul, zI_add, Nat.mul_comm]
  unfold m_X9_setAhead
  rw [ei, if_neg (zI_ge (a := 4 * p + k) (by omega)), if_neg (show ¬ (48 : Int32) ≤ zI (4 * p + k) by rw [i48, zI_le (by omega) (by omega)]; omega), zI_cl (by omega)]
theorem lk23 {p : Nat} (hp : p < P) : ∀ (n f k : Nat) (σ : SS), k + n = 4 → n < f → DC lf M P σ → (∀ q j, p < q → q < P → j < 4 → σ.2.1 18 0 (4 * q + j) = zI (aC lf M mi P q j)) → (∀ j, j < k → σ.2.1 18 0 (4 * p + j) = zI (aC lf M mi P p j)) → ∃ τ, L_X9_lookAhead_23 f mi (zI p) (zI k) σ = some τ ∧ DC lf M P τ ∧ FrC σ τ ∧ (∀ q j, p ≤ q → q < P → j < 4 → τ.2.1 18 0 (4 * q + j) = zI (aC lf M mi P q j))
  | n, 0, k, σ, h0, hf, h, a1, a2 => absurd hf (by omega)
  | 0, f + 1, k, σ, h0, hf, h, a1, a2 => by
    rw [L_X9_lookAhead_23, if_pos (show (4 : Int32) ≤ zI k by rw [i4, zI_le (by omega) (by omega)]; omega)]
    refine ⟨σ, rfl, h, FrC.rf _, fun q j c1 c2 c3 => ?_⟩
    by_cases e : q = p
    · subst e
      exact a2 j (by omega)
    · exact a1 q j (by omega) c2 c3
  | n + 1, f + 1, k, σ, h0, hf, h, a1, a2 => by
    have hP := h.1.1.2.2.2.2
    obtain ⟨τ, t1, t2, t3⟩ := inM h.1 hp (by omega : k < 4) (mi + zI p)
    have h' := h.fs t3 t2
    have e6 : m_X8_number (zI p) 6 τ = M (72 + p) := (numC (w := 6) (by omega) (by omega) τ).trans (h'.1.1.1 p 6 (by omega) (by omega))
    obtain ⟨n1, n2⟩ := nw_e h'.1.1.rg hp
    have b1 : ∀ q j, p < q → q < P → j < 4 → τ.2.1 18 0 (4 * q + j) = zI (aC lf M mi P q j) := fun q j c1 c2 c3 => by rw [t3.2.1 18 (by decide) (by decide) (by decide)]; exact a1 q j c1 c2 c3
    have b2 : ∀ j, j < k → τ.2.1 18 0 (4 * p + j) = zI (aC lf M mi P p j) := fun j c => by rw [t3.2.1 18 (by decide) (by decide) (by decide)]; exact a2 j c
    have nk : zI k ≤ zI (nw M p) ↔ k ≤ nw M p := zI_le (by omega) (by omega)
    have go : ∃ υ, L_X9_lookAhead_23 f mi (zI p) (zI (k + 1)) (sA τ 18 0 (4 * p + k) (zI (aC lf M mi P p k))) = some υ ∧ DC lf M P υ ∧ FrC σ υ ∧ (∀ q j, p ≤ q → q < P → j < 4 → υ.2.1 18 0 (4 * q + j) = zI (aC lf M mi P q j)) := by
      obtain ⟨υ, u1, u2, u3, u4⟩ := lk23 hp n f (k + 1) (sA τ 18 0 (4 * p + k) (zI (aC lf M mi P p k))) (by omega) (by omega) (h'.s18 _ _) (fun q j c1 c2 c3 => by rw [sA_g, if_neg (by omega)]; exact b1 q j c1 c2 c3) (fun j c => by
        rw [sA_g]
        by_cases e : j = k
        · rw [if_pos (by omega), e]
        · rw [if_neg (by omega)]; exact b2 j (by omega))
      exact ⟨υ, u1, u2, (t3.fc.tr (FrC.s18 _ _ _)).tr u3, u4⟩
    have es : sT lf M (M 84) (M 86) 0 p (zI k) (mi + zI p) = zI (tt lf M mi p k) := (sN_e lf M _ _ _ p k _).1
    rw [L_X9_lookAhead_23, if_neg (show ¬ (4 : Int32) ≤ zI k by rw [i4, zI_le (by omega) (by omega)]; omega), t1]
    simp only [Option.bind_some, bnT]
    rw [h'.2.2, e6, n1, es, show zI p + 1 = zI (p + 1) from zI_add p 1, show zI k + 1 = zI (k + 1) from zI_add k 1, setC (by omega) (by omega), setC (by omega) (by omega)]
    by_cases c : p + 1 = P
    · rw [if_pos (show zI P ≤ zI (p + 1) by rw [zI_le (by omega) (by omega)]; omega)]
      by_cases d : k ≤ nw M p
      · rw [if_pos (nk.mpr d)]
        unfold aC at go
        rw [if_pos d, vV_e hp, if_pos c] at go
        exact go
      · rw [if_neg (fun z => d (nk.mp z))]
        unfold aC at go
        rw [if_neg d] at go
        exact go
    · obtain ⟨m1, m2⟩ := nw_e h'.1.1.rg (p := p + 1) (by omega)
      obtain ⟨q1, q2⟩ := besC' (W := vV lf M mi P (p + 1)) (N := nw M (p + 1)) (p := p + 1) (by omega) m2 (fun j _ => vV_le hP _ _) (zI k) (σ := τ) (fun j hj => b1 (p + 1) j (by omega) (by omega) hj)
      rw [if_neg (show ¬ zI P ≤ zI (p + 1) by rw [zI_le (by omega) (by omega)]; omega), q2]
      simp only [Option.bind_some]
      rw [zI_add, setC (by omega) (by omega)]
      by_cases d : k ≤ nw M p
      · rw [if_pos (nk.mpr d)]
        unfold aC at go
        rw [if_pos d, vV_e hp, if_neg c] at go
        exact go
      · rw [if_neg (fun z => d (nk.mp z))]
        unfold aC at go
        rw [if_neg d] at go
        exact go
theorem lk17 : ∀ (n f : Nat) (σ : SS), n ≤ P → n < f → DC lf M P σ → (∀ q j, n ≤ q → q < P → j < 4 → σ.2.1 18 0 (4 * q + j) = zI (aC lf M mi P q j)) → ∃ τ, L_X9_lookAhead_17 f mi (zI n - 1) σ = some τ ∧ DC lf M P τ ∧ FrC σ τ ∧ (∀ q j, q < P → j < 4 → τ.2.1 18 0 (4 * q + j) = zI (aC lf M mi P q j))
  | n, 0, σ, h0, hf, h, a => absurd hf (by omega)
  | 0, f + 1, σ, h0, hf, h, a => ⟨σ, rfl, h, FrC.rf _, fun q j => a q j (by omega)⟩
  | n + 1, f + 1, σ, h0, hf, h, a => by
    have hP := h.1.1.2.2.2.2
    obtain ⟨τ, t1, t2, t3, t4⟩ := lk23 (mi := mi) (p := n) (by omega) 4 FU 0 σ (by omega) (by unfold FU; omega) h (fun q j c1 => a q j (by omega)) (fun j c => absurd c (by omega))
    obtain ⟨υ, u1, u2, u3, u4⟩ := lk17 n f τ (by omega) (by omega) t2 (fun q j c1 => t4 q j (by omega))
    rw [show zI (n + 1) - 1 = zI n by rw [i1, zI_sub (by omega)]; rfl, L_X9_lookAhead_17, if_neg (zI_ge (by omega)), i0, t1]
    simp only [Option.bind_some]
    rw [show zI n + (-1 : Int32) = zI n - 1 from Int32.add_neg_eq_sub, u1]
    exact ⟨υ, rfl, u2, t3.tr u3, u4⟩
def FrA (σ τ : SS) : Prop := (∀ t j k, ¬ (t = 0 ∧ 12 ≤ k ∧ k ≤ 16) → τ.1 t j k = σ.1 t j k) ∧ (∀ t, t ≠ 7 → t ≠ 8 → t ≠ 9 → t ≠ 10 → τ.2.1 t = σ.2.1 t) ∧ τ.2.2 = σ.2.2
theorem FrA.rf (σ : SS) : FrA σ σ := ⟨fun _ _ _ _ => rfl, fun _ _ _ _ _ => rfl, rfl⟩
theorem FrA.tr {σ τ υ : SS} (h : FrA σ τ) (g : FrA τ υ) : FrA σ υ := ⟨fun t j k a => (g.1 t j k a).trans (h.1 t j k a), fun t a b c d => (g.2.1 t a b c d).trans (h.2.1 t a b c d), g.2.2.trans h.2.2⟩
theorem FrA.fm {σ τ : SS} (h : FrA σ τ) : FrM σ τ := ⟨fun j k a _ _ _ _ => h.1 0 j k (by omega), fun t a b c d => h.2.1 t a b c d, fun t _ => by rw [h.2.2]⟩
theorem FrN.fa {σ τ : SS} (h : FrN σ τ) : FrA σ τ := ⟨h.1, fun t a _ _ _ => h.2.1 t a, h.2.2⟩
theorem FrA.st (σ : SS) {t : Nat} (ht : t = 8 ∨ t = 9 ∨ t = 10) (k : Nat) (v : Int32) : FrA σ (sA σ t 0 k v) := ⟨fun _ _ _ _ => rfl, fun _ a b c d => sA_o (by omega), rfl⟩
def DM (lf : Option FN) (M : Nat → Int32) (P : Nat) (σ : SS) : Prop := KM lf M P 0 σ ∧ σ.1 0 0 6 = zI P
theorem DM.fa {σ τ : SS} (h : DM lf M P σ) (f : FrA σ τ) : DM lf M P τ :=
  ⟨⟨by rw [f.2.1 1 (by decide) (by decide) (by decide) (by decide)]; exact h.1.1, h.1.2.1.c (f.1 0 0 11 (by omega)) (by rw [f.2.1 6 (by decide) (by decide) (by decide) (by decide)]), (f.1 0 0 7 (by omega)).trans h.1.2.2.1, h.1.2.2.2⟩, (f.1 0 0 6 (by omega)).trans h.2⟩
theorem fl40 {p : Nat} (hp : p < P) : ∀ (n f k : Nat) (σ : SS), k + n = 4 → n < f → DM lf M P σ → (∀ q j, p < q → q < P → j < 4 → σ.2.1 8 0 (4 * q + j) = zI (vV lf M mi P q j)) → (∀ j, j < k → σ.2.1 8 0 (4 * p + j) = zI (vV lf M mi P p j)) → ∃ τ, L_X11_fillsLeast_40 f mi (zI p) (zI k) σ = some τ ∧ FrA σ τ ∧ (∀ q j, p ≤ q → q < P → j < 4 → τ.2.1 8 0 (4 * q + j) = zI (vV lf M mi P q j))
  | n, 0, k, σ, h0, hf, h, a1, a2 => absurd hf (by omega)
  | 0, f + 1, k, σ, h0, hf, h, a1, a2 => by
    rw [L_X11_fillsLeast_40, if_pos (show (3 : Int32) < zI k by rw [i3, zI_lt (by omega) (by omega)]; omega)]
    refine ⟨σ, rfl, FrA.rf _, fun q j c1 c2 c3 => ?_⟩
    by_cases e : q = p
    · subst e
      exact a2 j (by omega)
    · exact a1 q j (by omega) c2 c3
  | n + 1, f + 1, k, σ, h0, hf, h, a1, a2 => by
    have hP := h.1.2.2.2.2.2
    obtain ⟨τ, t1, t3⟩ := stM h.1 hp (zI k) (mi + zI p)
    have h' := h.fa t3.fa
    have b1 : ∀ q j, p < q → q < P → j < 4 → τ.2.1 8 0 (4 * q + j) = zI (vV lf M mi P q j) := fun q j c1 c2 c3 => by rw [t3.2.1 8 (by decide)]; exact a1 q j c1 c2 c3
    have b2 : ∀ j, j < k → τ.2.1 8 0 (4 * p + j) = zI (vV lf M mi P p j) := fun j c => by rw [t3.2.1 8 (by decide)]; exact a2 j c
    have go : ∃ υ, L_X11_fillsLeast_40 f mi (zI p) (zI (k + 1)) (sA τ 8 0 (4 * p + k) (zI (vV lf M mi P p k))) = some υ ∧ FrA σ υ ∧ (∀ q j, p ≤ q → q < P → j < 4 → υ.2.1 8 0 (4 * q + j) = zI (vV lf M mi P q j)) := by
      obtain ⟨υ, u1, u3, u4⟩ := fl40 hp n f (k + 1) (sA τ 8 0 (4 * p + k) (zI (vV lf M mi P p k))) (by omega) (by omega) (h'.fa (FrA.st _ (by omega) _ _)) (fun q j c1 c2 c3 => by rw [sA_g, if_neg (by omega)]; exact b1 q j c1 c2 c3) (fun j c => by
        rw [sA_g]
        by_cases e : j = k
        · rw [if_pos (by omega), e]
        · rw [if_neg (by omega)]; exact b2 j (by omega))
      exact ⟨υ, u1, (t3.fa.tr (FrA.st _ (by omega) _ _)).tr u3, u4⟩
    have es : sT lf M (M 84) (M 86) 0 p (zI k) (mi + zI p) = zI (tt lf M mi p k) := (sN_e lf M _ _ _ p k _).1
    have ei : ∀ a b : Nat, (4 : Int32) * zI a + zI b = zI (4 * a + b) := fun a b => by rw [i4, zI_mul, zI_add]
    rw [L_X11_fillsLeast_40, if_neg (show ¬ (3 : Int32) < zI k by rw [i3, zI_lt (by omega) (by omega)]; omega), t1]
    simp only [Option.bind_some]
    rw [h'.2, es, show zI p + 1 = zI (p + 1) from zI_add p 1, show zI k + 1 = zI (k + 1) from zI_add k 1, i1, zI_sub (by omega : 1 ≤ P), ei p k]
    by_cases c : p + 1 = P
    · rw [if_pos (show zI (P - 1) ≤ zI p by rw [zI_le (by omega) (by omega)]; omega), if_neg (zI_in (by omega) (by omega)), zI_cl (by omega)]
      rw [vV_e hp, if_pos c] at go
      exact go
    · obtain ⟨m1, m2⟩ := nw_e h'.1.2.2.2 (p := p + 1) (by omega)
      have q1 := besM' (W := vV lf M mi P (p + 1)) (N := nw M (p + 1)) (p := p + 1) (by omega) m2 (fun j _ => vV_le hP _ _) (zI k) (σ := τ) (by rw [h'.1.1]; exact m1) (fun j hj => b1 (p + 1) j (by omega) (by omega) hj)
      have hb := BS_r (vV lf M mi P (p + 1)) (nw M (p + 1)) (zI k)
      rw [if_neg (show ¬ zI (P - 1) ≤ zI p by rw [zI_le (by omega) (by omega)]; omega), q1]
      simp only [Option.bind_some]
      rw [ei, if_neg (zI_in (by omega) (by omega)), if_neg (zI_in (by omega) (by omega)), zI_cl (by omega), zI_cl (by omega), b1 (p + 1) _ (by omega) (by omega) (by omega), tqM (zI_ge (by omega)), zI_add, zI_add]
      rw [vV_e hp, if_neg c] at go
      exact go
theorem fl34 : ∀ (n f : Nat) (σ : SS), n ≤ P → n < f → DM lf M P σ → (∀ q j, n ≤ q → q < P → j < 4 → σ.2.1 8 0 (4 * q + j) = zI (vV lf M mi P q j)) → ∃ τ, L_X11_fillsLeast_34 f mi (zI n - 1) σ = some τ ∧ FrA σ τ ∧ (∀ q j, q < P → j < 4 → τ.2.1 8 0 (4 * q + j) = zI (vV lf M mi P q j))
  | n, 0, σ, h0, hf, h, a => absurd hf (by omega)
  | 0, f + 1, σ, h0, hf, h, a => ⟨σ, rfl, FrA.rf _, fun q j => a q j (by omega)⟩
  | n + 1, f + 1, σ, h0, hf, h, a => by
    have hP := h.1.2.2.2.2.2
    obtain ⟨τ, t1, t3, t4⟩ := fl40 (mi := mi) (p := n) (by omega) 4 FU 0 σ (by omega) (by unfold FU; omega) h (fun q j c1 => a q j (by omega)) (fun j c => absurd c (by omega))
    obtain ⟨υ, u1, u3, u4⟩ := fl34 n f τ (by omega) (by omega) (h.fa t3) (fun q j c1 => t4 q j (by omega))
    rw [show zI (n + 1) - 1 = zI n by rw [i1, zI_sub (by omega)]; rfl, L_X11_fillsLeast_34, if_neg (zI_ge (by omega)), i0, t1]
    simp only [Option.bind_some]
    rw [show zI n + (-1 : Int32) = zI n - 1 from Int32.add_neg_eq_sub, u1]
    exact ⟨υ, rfl, t3.tr u3, u4⟩
theorem fl2 : ∀ (n f k : Nat) (σ : SS), k + n = 4 → n < f → DM lf M P σ → ∃ τ, L_X11_fillsLeast_2 f mi (zI k) σ = some τ ∧ FrA σ τ ∧ (∀ q j, q < P → j < 4 → τ.2.1 8 0 (4 * q + j) = zI (vV lf M mi P q j))
  | n, 0, k, σ, h0, hf, h => absurd hf (by omega)
  | 0, f + 1, k, σ, h0, hf, h => by
    have hP := h.1.2.2.2.2.2
    rw [L_X11_fillsLeast_2, if_pos (show (3 : Int32) < zI k by rw [i3, zI_lt (by omega) (by omega)]; omega), h.2]
    exact fl34 P FU σ (by omega) (by unfold FU; omega) h (fun q j c1 c2 => absurd c2 (by omega))
  | n + 1, f + 1, k, σ, h0, hf, h => by
    have hP := h.1.2.2.2.2.2
    obtain ⟨τ, t1, t2, t3⟩ := fl2 n f (k + 1) (sA σ 8 0 (4 * P + k) 0) (by omega) (by omega) (h.fa (FrA.st _ (by omega) _ _))
    rw [L_X11_fillsLeast_2, if_neg (show ¬ (3 : Int32) < zI k by rw [i3, zI_lt (by omega) (by omega)]; omega), h.2, show (4 : Int32) * zI P + zI k = zI (4 * P + k) by rw [i4, zI_mul, zI_add], if_neg (zI_in (by omega) (by omega)), zI_cl (by omega), show zI k + 1 = zI (k + 1) from zI_add k 1, t1]
    exact ⟨τ, rfl, (FrA.st _ (by omega) _ _).tr t2, t3⟩
def hV (lf : Option FN) (M : Nat → Int32) (mi : Int32) (P : Nat) : Nat → Nat → Int64 → Int32 → Int64
  | 0, _, v, _ => v
  | n + 1, p, v, fr => hV lf M mi P n (p + 1) (v * 10 + (zI (BS (vV lf M mi P p) (nw M p) fr)).toInt64) (zI (BS (vV lf M mi P p) (nw M p) fr))
theorem hvC : ∀ (n f p : Nat) (v : Int64) (fr : Int32) (σ : SS), p + n = P → n < f → DC lf M P σ → (∀ q j, q < P → j < 4 → σ.2.1 18 0 (4 * q + j) = zI (aC lf M mi P q j)) → L_X9_bestHold_7 f v fr (zI p) σ = some (hV lf M mi P n p v fr)
  | n, 0, p, v, fr, σ, h0, hf, h, a => absurd hf (by omega)
  | 0, f + 1, p, v, fr, σ, h0, hf, h, a => by
    have hP := h.1.1.2.2.2.2
    rw [L_X9_bestHold_7, h.2.2, if_pos (by rw [zI_le (by omega) (by omega)]; omega)]
    rfl
  | n + 1, f + 1, p, v, fr, σ, h0, hf, h, a => by
    have hP := h.1.1.2.2.2.2
    obtain ⟨m1, m2⟩ := nw_e h.1.1.rg (p := p) (by omega)
    obtain ⟨q1, q2⟩ := besC' (W := vV lf M mi P p) (N := nw M p) (p := p) (by omega) m2 (fun j _ => vV_le hP _ _) fr (σ := σ) (fun j hj => a p j (by omega) hj)
    rw [L_X9_bestHold_7, h.2.2, if_neg (by rw [zI_le (by omega) (by omega)]; omega), q1]
    simp only [Option.bind_some]
    rw [show zI p + 1 = zI (p + 1) from zI_add p 1]
    exact hvC n f (p + 1) _ _ σ (by omega) (by omega) h a
theorem hvM (w : Int32) (u : Int32) : ∀ (n f p : Nat) (v : Int64) (fr : Int32) (σ : SS), p + n = P → n < f → DM lf M P σ → (∀ q j, q < P → j < 4 → σ.2.1 8 0 (4 * q + j) = zI (vV lf M mi P q j)) → L_X11_hold_60 f w v fr u (zI p) σ = some ((if w = 0 then hV lf M mi P n p v fr else if w = 1 then u.toInt64 else if u ≤ m_X11_bears σ then 0 else 1), σ)
  | n, 0, p, v, fr, σ, h0, hf, h, a => absurd hf (by omega)
  | 0, f + 1, p, v, fr, σ, h0, hf, h, a => by
    have hP := h.1.2.2.2.2.2
    rw [L_X11_hold_60, h.2, if_pos (by rw [zI_le (by omega) (by omega)]; omega)]
    by_cases c : w = 0
    · rw [if_pos c, if_pos c]
      rfl
    · rw [if_neg c, if_neg c]
      by_cases d : w = 1
      · rw [if_pos d, if_pos d]
      · rw [if_neg d, if_neg d]
        by_cases e : u ≤ m_X11_bears σ
        · rw [if_pos e, if_pos e]
        · rw [if_neg e, if_neg e]
  | n + 1, f + 1, p, v, fr, σ, h0, hf, h, a => by
    have hP := h.1.2.2.2.2.2
    obtain ⟨m1, m2⟩ := nw_e h.1.2.2.2 (p := p) (by omega)
    have q1 := besM' (W := vV lf M mi P p) (N := nw M p) (p := p) (by omega) m2 (fun j _ => vV_le hP _ _) fr (σ := σ) (by rw [h.1.1]; exact m1) (fun j hj => a p j (by omega) hj)
    rw [L_X11_hold_60, h.2, if_neg (by rw [zI_le (by omega) (by omega)]; omega), q1]
    simp only [Option.bind_some]
    rw [show zI p + 1 = zI (p + 1) from zI_add p 1, Int64.mul_comm 10 v]
    exact hvM w u n f (p + 1) _ _ σ (by omega) (by omega) h a
end AHEAD
theorem P_hold {σC σM : SS} (h : Inv σC σM) (a w : Int32) : ∃ r τC τM, m_X10_hold a w σC = some (r, τC) ∧ m_X11_hold a w σM = some (r, τM) ∧ Inv τC τM := by
  obtain ⟨P, Bn, lf, hK⟩ := h
  have hI : Inv σC σM := ⟨P, Bn, lf, hK⟩
  have hP := hK.1.1
  have e3 : m_X11_within w.toInt64 0 2 = 0 ↔ ¬ (0 ≤ w.toInt ∧ w.toInt ≤ 2) := wM32
  have e4 : m_X10_isWithin w 0 2 = 0 ↔ ¬ (0 ≤ w.toInt ∧ w.toInt ≤ 2) := wC
  have P0 : zI P = 0 ↔ P = 0 := by rw [i0, zI_eq (by omega) (by omega)]
  unfold m_X10_hold m_X11_hold
  rw [hK.1.2.1, hK.1.2.2.1]
  by_cases c : 0 ≤ a.toInt ∧ a.toInt ≤ 999
  · rw [if_neg (fun e => (minC a).mp e c), if_neg (fun e => (minM a).mp e c)]
    by_cases c3 : 0 ≤ w.toInt ∧ w.toInt ≤ 2
    · rw [if_neg (fun e => e4.mp e c3), if_neg (fun e => e3.mp e c3)]
      by_cases p0 : P = 0
      · rw [if_pos (P0.mpr p0), if_pos (P0.mpr p0)]
        exact ⟨_, _, _, rfl, rfl, hI⟩
      · obtain ⟨s1, s2, s3⟩ := supN hK.nm hK.lc
        have hC : DC lf (σM.2.1 1 0) P (m_X7_supposeNow σC) := ⟨s1, s2, (s3.1 1 0 1 (by decide) (by decide) (by omega) (by omega)).trans hK.1.2.1⟩
        have hM : DM lf (σM.2.1 1 0) P σM := ⟨hK.km, hK.1.2.2.1⟩
        obtain ⟨τC, t1, t2, t3, t4⟩ := lk17 (mi := a) P FU _ (by omega) (by unfold FU; omega) hC (fun q j c1 c2 => absurd c2 (by omega))
        obtain ⟨τM, m1, m2, m3⟩ := fl2 (mi := a) 4 FU 0 σM (by omega) (by unfold FU; omega) hM
        have hM' := hM.fa m2
        have m1 : m_X11_fillsLeast a σM = some τM := m1
        obtain ⟨n1, n2⟩ := nw_e hC.1.1.rg (p := 0) (by omega)
        have hb := BS_r (vV lf (σM.2.1 1 0) a P 0) (nw (σM.2.1 1 0) 0) (-1)
        obtain ⟨q1, q2⟩ := besC' (W := vV lf (σM.2.1 1 0) a P 0) (N := nw (σM.2.1 1 0) 0) (p := 0) (by omega) n2 (fun j _ => vV_le hP _ _) (-1) (σ := τC) (fun j hj => t4 0 j (by omega) hj)
        have q3 := besM' (W := vV lf (σM.2.1 1 0) a P 0) (N := nw (σM.2.1 1 0) 0) (p := 0) (by omega) n2 (fun j _ => vV_le hP _ _) (-1) (σ := τM) (by rw [hM'.1.1]; exact n1) (fun j hj => m3 0 j (by omega) hj)
        have tq0 : tq (-1) (BS (vV lf (σM.2.1 1 0) a P 0) (nw (σM.2.1 1 0) 0) (-1)) = 0 := rfl
        rw [tq0, Nat.add_zero] at q2
        have cM := m3 0 (BS (vV lf (σM.2.1 1 0) a P 0) (nw (σM.2.1 1 0) 0) (-1)) (by omega) (by omega)
        rw [Nat.mul_zero, Nat.zero_add] at cM
        have x1 : m_X9_bestHold τC = some (hV lf (σM.2.1 1 0) a P P 0 0 (-1)) := hvC (mi := a) P FU 0 0 (-1) τC (by omega) (by unfold FU; omega) t2 t4
        have x2 := hvM (mi := a) w (zI (vV lf (σM.2.1 1 0) a P 0 (BS (vV lf (σM.2.1 1 0) a P 0) (nw (σM.2.1 1 0) 0) (-1)))) P FU 0 0 (-1) τM (by omega) (by unfold FU; omega) hM' m3
        have q2 : m_X9_leastAhead 0 (-1) τC = _ := q2
        have q3 : m_X11_bestHeld 0 (-1) τM = _ := q3
        rw [← i0] at x2
        have fI : InvK P Bn lf τC τM := hK.fr (s3.tr t3) m2.fm
        rw [if_neg (fun z => p0 (P0.mp z)), if_neg (fun z => p0 (P0.mp z))]
        unfold m_X9_lookAhead
        simp only [bnT]
        rw [hC.2.2, t1, m1]
        simp only [Option.bind_some]
        rw [x1, q2, q3]
        simp only [Option.bind_some]
        rw [if_neg (zI_in (by omega) (by omega)), zI_cl (by omega), cM, x2, brs hM'.1.1]
        by_cases w0 : w = 0
        · rw [if_pos w0, if_pos w0]
          exact ⟨_, _, _, rfl, rfl, P, Bn, lf, fI⟩
        · rw [if_neg w0, if_neg w0]
          by_cases w1 : w = 1
          · rw [if_pos w1, if_pos w1]
            exact ⟨_, _, _, rfl, rfl, P, Bn, lf, fI⟩
          · rw [if_neg w1, if_neg w1]
            unfold m_X7_isTooMuch
            rw [t2.2.1]
            by_cases l : zI (vV lf (σM.2.1 1 0) a P 0 (BS (vV lf (σM.2.1 1 0) a P 0) (nw (σM.2.1 1 0) 0) (-1))) ≤ σM.2.1 1 0 85 - 5 * σM.2.1 1 0 86
            · rw [if_pos l, if_pos l, if_pos (show (0 : Int32) = 0 from rfl)]
              exact ⟨_, _, _, rfl, rfl, P, Bn, lf, fI⟩
            · rw [if_neg l, if_neg l, if_neg (show ¬ (1 : Int32) = 0 by decide)]
              exact ⟨_, _, _, rfl, rfl, P, Bn, lf, fI⟩
    · rw [if_pos (e4.mpr c3), if_pos (e3.mpr c3)]
      exact ⟨_, _, _, rfl, rfl, hI⟩
  · rw [if_pos ((minC a).mpr c), if_pos ((minM a).mpr c)]
    exact ⟨_, _, _, rfl, rfl, hI⟩
