/-! the same, as the model counts it; the calls soonest and safest -/
theorem sAf_s (σ : SS) (t j : Nat) (f : Nat → Int32) (q : Nat) : (sAf σ t j f).2.1 t j q = f q := if_pos ⟨rfl, rfl⟩
section REACHM
variable {P : Nat} {lf : Option FN} {M : Nat → Int32}
theorem pacM {R : Nat → Int32} (hR : ∀ q, okR (R q)) {σ : SS} (h : DM lf M P σ) {p : Nat} (hp : p < P) (m : Int32) (a : ∀ q, q < P → σ.2.1 9 0 q = R q) : ∃ τ, m_X11_pacedTo (zI p) m σ = some ((if p = 0 then -1 else bor (lim M) (R (p - 1)) (sm lf M p m) 0), τ) ∧ FrN σ τ := by
  have hP := h.1.2.2.2.2.2
  have n0 : zI p = 0 ↔ p = 0 := by rw [i0, zI_eq (by omega) (by omega)]
  unfold m_X11_pacedTo
  by_cases z : p = 0
  · rw [if_pos (n0.mpr z), if_pos z]
    exact ⟨σ, rfl, FrN.rf _⟩
  · have em : zI p - 1 = zI (p - 1) := by rw [i1, zI_sub (by omega)]
    rw [if_neg (fun e => z (n0.mp e)), if_neg z, em, if_neg (zI_in (by omega) (by omega)), zI_cl (by omega), a (p - 1) (by omega)]
    rcases hR (p - 1) with e | ⟨n, hn, e⟩
    · rw [e, if_neg (show ¬ (0 : Int32) ≤ -1 by decide), bor_n]
      exact ⟨σ, rfl, FrN.rf _⟩
    · obtain ⟨τ, t1, t3⟩ := stM h.1 hp 0 m
      have h' := h.fa t3.fa
      have s9 := sm_le (lf := lf) (M := M) p m
      rw [e, if_pos (zI_ge' (by omega)), t1, sm_e]
      simp only [Option.bind_some]
      rw [brs h'.1.1, bor_z (by omega), zI_add, Nat.sub_zero]
      unfold lim
      by_cases l : zI (n + sm lf M p m) ≤ M 85 - 5 * M 86
      · rw [if_pos l, if_pos l]
        exact ⟨τ, rfl, t3⟩
      · rw [if_neg l, if_neg l]
        exact ⟨τ, rfl, t3⟩
theorem resM {R : Nat → Int32} (hR : ∀ q, okR (R q)) {σ : SS} (h : DM lf M P σ) {p : Nat} (hp : p < P) (m : Int32) (a : ∀ q, q < P → σ.2.1 9 0 q = R q) : ∃ τ, m_X11_restedAt (zI p) m σ = some (bor (lim M) (R p) (sm lf M p m) (if wdT M 0 p m = 0 then 3 else 0), τ) ∧ FrN σ τ := by
  have hP := h.1.2.2.2.2.2
  unfold m_X11_restedAt
  rw [if_neg (zI_in (by omega) (by omega)), zI_cl (by omega), a p hp]
  rcases hR p with e | ⟨n, hn, e⟩
  · rw [e, if_neg (show ¬ (0 : Int32) ≤ -1 by decide), bor_n]
    exact ⟨σ, rfl, FrN.rf _⟩
  · obtain ⟨τ, t1, t3⟩ := stM h.1 hp 0 m
    have h' := h.fa t3.fa
    have s9 := sm_le (lf := lf) (M := M) p m
    have eV : m_X11_windAt (zI p) m τ = some (wdT M 0 p m) := by
      rw [winM2 h'.1.2.2.2 h'.1.1 hp m, h'.1.2.2.1]
    rw [e, if_pos (zI_ge' (by omega)), t1, sm_e]
    simp only [Option.bind_some]
    rw [eV]
    simp only [Option.bind_some]
    rw [brs h'.1.1, bor_z (by omega), zI_add]
    unfold lim
    by_cases w : wdT M 0 p m = 0
    · rw [if_pos w, if_pos w]
      by_cases d : n + sm lf M p m ≤ 3
      · rw [if_pos (show zI (n + sm lf M p m) ≤ 3 by rw [i3, zI_le (by omega) (by omega)]; exact d), show n + sm lf M p m - 3 = 0 by omega, ← i0]
        by_cases l : (0 : Int32) ≤ M 85 - 5 * M 86
        · rw [if_pos l, if_pos l]
          exact ⟨τ, rfl, t3⟩
        · rw [if_neg l, if_neg l]
          exact ⟨τ, rfl, t3⟩
      · rw [if_neg (show ¬ zI (n + sm lf M p m) ≤ 3 by rw [i3, zI_le (by omega) (by omega)]; exact d), i3, zI_sub (by omega)]
        by_cases l : zI (n + sm lf M p m - 3) ≤ M 85 - 5 * M 86
        · rw [if_pos l, if_pos l]
          exact ⟨τ, rfl, t3⟩
        · rw [if_neg l, if_neg l]
          exact ⟨τ, rfl, t3⟩
    · rw [if_neg w, if_neg w, Nat.sub_zero]
      by_cases l : zI (n + sm lf M p m) ≤ M 85 - 5 * M 86
      · rw [if_pos l, if_pos l]
        exact ⟨τ, rfl, t3⟩
      · rw [if_neg l, if_neg l]
        exact ⟨τ, rfl, t3⟩
theorem mg74 (V : Nat → Int32) : ∀ (n f p : Nat) (σ : SS), p + n = P → n < f → DM lf M P σ → (∀ q, q < P → σ.2.1 10 0 q = V q) → (∀ q, q < p → σ.2.1 9 0 q = V q) → ∃ τ, L_X11_minuteGoes_74 f (zI p) σ = some τ ∧ FrA σ τ ∧ (∀ q, q < P → τ.2.1 9 0 q = V q)
  | n, 0, p, σ, h0, hf, h, a, b => absurd hf (by omega)
  | 0, f + 1, p, σ, h0, hf, h, a, b => by
    have hP := h.1.2.2.2.2.2
    rw [L_X11_minuteGoes_74, h.2, if_pos (by rw [zI_le (by omega) (by omega)]; omega)]
    exact ⟨σ, rfl, FrA.rf _, fun q hq => b q (by omega)⟩
  | n + 1, f + 1, p, σ, h0, hf, h, a, b => by
    have hP := h.1.2.2.2.2.2
    obtain ⟨τ, t1, t2, t3⟩ := mg74 V n f (p + 1) (sA σ 9 0 p (V p)) (by omega) (by omega) (h.fa (FrA.st _ (by omega) _ _)) (fun q hq => by rw [sA_o (by decide)]; exact a q hq) (fun q hq => by
      rw [sA_g]
      by_cases e : q = p
      · rw [if_pos e, e]
      · rw [if_neg e]; exact b q (by omega))
    rw [L_X11_minuteGoes_74, h.2, if_neg (by rw [zI_le (by omega) (by omega)]; omega), if_neg (zI_in (by omega) (by omega)), zI_cl (by omega), a p (by omega), show zI p + 1 = zI (p + 1) from zI_add p 1, t1]
    exact ⟨τ, rfl, (FrA.st _ (by omega) _ _).tr t2, t3⟩
theorem mg2 {R : Nat → Int32} (hR : ∀ q, okR (R q)) (m : Int32) : ∀ (n f p : Nat) (σ : SS), p + n = P → n < f → DM lf M P σ → (∀ q, q < P → σ.2.1 9 0 q = R q) → (∀ q, q < p → σ.2.1 10 0 q = nx lf M P R m q) → ∃ τ, L_X11_minuteGoes_2 f m (zI p) σ = some τ ∧ FrA σ τ ∧ (∀ q, q < P → τ.2.1 9 0 q = nx lf M P R m q)
  | n, 0, p, σ, h0, hf, h, a, b => absurd hf (by omega)
  | 0, f + 1, p, σ, h0, hf, h, a, b => by
    have hP := h.1.2.2.2.2.2
    rw [L_X11_minuteGoes_2, h.2, if_pos (by rw [zI_le (by omega) (by omega)]; omega), i0]
    exact mg74 (nx lf M P R m) P FU 0 σ (by omega) (by unfold FU; omega) h (fun q hq => b q (by omega)) (fun q hq => absurd hq (by omega))
  | n + 1, f + 1, p, σ, h0, hf, h, a, b => by
    have hP := h.1.2.2.2.2.2
    have go : ∀ τ, FrN σ τ → ∃ υ, L_X11_minuteGoes_2 f m (zI (p + 1)) (sA τ 10 0 p (nx lf M P R m p)) = some υ ∧ FrA σ υ ∧ (∀ q, q < P → υ.2.1 9 0 q = nx lf M P R m q) := fun τ t3 => by
      obtain ⟨υ, u1, u2, u3⟩ := mg2 hR m n f (p + 1) (sA τ 10 0 p (nx lf M P R m p)) (by omega) (by omega) ((h.fa t3.fa).fa (FrA.st _ (by omega) _ _)) (fun q hq => by rw [sA_o (by decide), t3.2.1 9 (by decide)]; exact a q hq) (fun q hq => by
        rw [sA_g]
        by_cases e : q = p
        · rw [if_pos e, e]
        · rw [if_neg e, t3.2.1 10 (by decide)]; exact b q (by omega))
      exact ⟨υ, u1, (t3.fa.tr (FrA.st _ (by omega) _ _)).tr u2, u3⟩
    have hin : ¬ (zI p < 0 ∨ 12 ≤ (zI p).toNatClampNeg) := zI_in (by omega) (by omega)
    have e1 : zI P - 1 = zI (P - 1) := by rw [i1, zI_sub (by omega)]
    rw [L_X11_minuteGoes_2, h.2, if_neg (by rw [zI_le (by omega) (by omega)]; omega), e1, show zI p + 1 = zI (p + 1) from zI_add p 1]
    unfold nx at go
    by_cases l : p + 1 = P
    · obtain ⟨τ, t1, t2⟩ := pacM (p := p) hR h (by omega) m a
      have go := go τ t2
      rw [if_pos l, cmb_n] at go
      rw [if_pos (show zI p = zI (P - 1) by rw [zI_eq (by omega) (by omega)]; omega), t1]
      simp only [Option.bind_some]
      rw [if_neg hin, zI_cl (by omega)]
      exact go
    · obtain ⟨τ, t1, t2⟩ := resM (p := p) hR h (by omega) m a
      obtain ⟨υ, u1, u2⟩ := pacM (p := p) hR (h.fa t2.fa) (by omega) m (fun q hq => by rw [t2.2.1 9 (by decide)]; exact a q hq)
      have go := go υ (t2.tr u2)
      rw [if_neg l] at go
      have k1 : okR (bor (lim M) (R p) (sm lf M p m) (if wdT M 0 p m = 0 then 3 else 0)) := bor_ok (lim_le h.1.2.2.2) (hR _) (sm_le _ _)
      have k2 : okR (if p = 0 then -1 else bor (lim M) (R (p - 1)) (sm lf M p m) 0) := by
        by_cases c : p = 0
        · rw [if_pos c]; exact Or.inl rfl
        · rw [if_neg c]; exact bor_ok (lim_le h.1.2.2.2) (hR _) (sm_le _ _)
      rw [if_neg (show ¬ zI p = zI (P - 1) by rw [zI_eq (by omega) (by omega)]; omega), t1]
      simp only [Option.bind_some]
      rw [u1]
      simp only [Option.bind_some]
      rw [if_neg hin, if_neg hin, zI_cl (by omega), cmbM (fun x => L_X11_minuteGoes_2 f m (zI (p + 1)) (sA υ 10 0 p x)) k1 k2]
      exact go
def RS (lf : Option FN) (M : Nat → Int32) (P : Nat) (mi : Int32) : Nat → Nat → Int32
  | 0, p => if p = 0 then bor (lim M) (zI 0) (sm lf M 0 mi) 0 else -1
  | t + 1, p => nx lf M P (RS lf M P mi t) (mi + zI (t + 1)) p
theorem RS_ok (h : RgM M P) (mi : Int32) : ∀ (t q : Nat), okR (RS lf M P mi t q)
  | 0, q => by
    unfold RS
    by_cases c : q = 0
    · rw [if_pos c]; exact bor_ok (lim_le h) (Or.inr ⟨0, by omega, rfl⟩) (sm_le _ _)
    · rw [if_neg c]; exact Or.inl rfl
  | t + 1, q => nx_ok h (RS_ok h mi t) _ _
theorem goM {mi : Int32} {t : Nat} {σ : SS} (h : DM lf M P σ) (a : ∀ q, q < P → σ.2.1 9 0 q = RS lf M P mi t q) {x : Int32} (hx : x = mi + zI (t + 1)) : ∃ τ, m_X11_minuteGoes x σ = some τ ∧ FrA σ τ ∧ (∀ q, q < P → τ.2.1 9 0 q = RS lf M P mi (t + 1) q) := by
  have hP := h.1.2.2.2.2.2
  subst hx
  exact mg2 (RS_ok h.1.2.2.2 mi t) (mi + zI (t + 1)) P FU 0 σ (by omega) (by unfold FU; omega) h a (fun q hq => absurd hq (by omega))
theorem begM (hp : 0 < P) (mi : Int32) : ∀ (n f p : Nat) (σ : SS), p + n = P → n < f → DM lf M P σ → (∀ q, q < p → σ.2.1 9 0 q = -1) → ∃ τ, L_X11_begins1_2 f mi (zI p) σ = some τ ∧ FrA σ τ ∧ (∀ q, q < P → τ.2.1 9 0 q = RS lf M P mi 0 q)
  | n, 0, p, σ, h0, hf, h, a => absurd hf (by omega)
  | 0, f + 1, p, σ, h0, hf, h, a => by
    have hP := h.1.2.2.2.2.2
    obtain ⟨τ, t1, t3⟩ := stM h.1 hp 0 mi
    have t1 : m_X11_strainAt 0 0 mi σ = some (zI (sm lf M 0 mi), τ) := by
      rw [← sm_e]
      exact t1
    have h' := h.fa t3.fa
    have go : ∃ υ, some (sA τ 9 0 0 (RS lf M P mi 0 0)) = some υ ∧ FrA σ υ ∧ (∀ q, q < P → υ.2.1 9 0 q = RS lf M P mi 0 q) := ⟨_, rfl, t3.fa.tr (FrA.st _ (by omega) _ _), fun q hq => by
      rw [sA_g]
      by_cases e : q = 0
      · rw [if_pos e, e]
      · rw [if_neg e, t3.2.1 9 (by decide), a q (by omega)]
        unfold RS
        rw [if_neg e]⟩
    have s9 := sm_le (lf := lf) (M := M) 0 mi
    have e0 : RS lf M P mi 0 0 = if zI (sm lf M 0 mi) ≤ M 85 - 5 * M 86 then zI (sm lf M 0 mi) else -1 := by
      unfold RS
      rw [if_pos rfl, bor_z (by omega), Nat.zero_add, Nat.sub_zero]
      rfl
    rw [L_X11_begins1_2, h.2, if_pos (by rw [zI_le (by omega) (by omega)]; omega), t1]
    simp only [Option.bind_some]
    rw [brs h'.1.1, show (0 : Int32).toNatClampNeg = 0 from rfl]
    rw [e0] at go
    by_cases l : zI (sm lf M 0 mi) ≤ M 85 - 5 * M 86
    · rw [if_pos l] at go ⊢
      exact go
    · rw [if_neg l] at go ⊢
      exact go
  | n + 1, f + 1, p, σ, h0, hf, h, a => by
    have hP := h.1.2.2.2.2.2
    obtain ⟨τ, t1, t2, t3⟩ := begM hp mi n f (p + 1) (sA σ 9 0 p (-1)) (by omega) (by omega) (h.fa (FrA.st _ (by omega) _ _)) (fun q hq => by
      rw [sA_g]
      by_cases e : q = p
      · rw [if_pos e]
      · rw [if_neg e]; exact a q (by omega))
    rw [L_X11_begins1_2, h.2, if_neg (by rw [zI_le (by omega) (by omega)]; omega), if_neg (zI_in (by omega) (by omega)), zI_cl (by omega), show zI p + 1 = zI (p + 1) from zI_add p 1, t1]
    exact ⟨τ, rfl, (FrA.st _ (by omega) _ _).tr t2, t3⟩
/-! the class, minute by minute -/
def PreC (lf : Option FN) (M : Nat → Int32) (P : Nat) (mi : Int32) (t : Nat) (σ : SS) : Prop := (t = 0 ∧ nmR M P σ ∧ LCo lf σ ∧ σ.1 1 0 1 = zI P) ∨ (∃ s, t = s + 1 ∧ DC lf M P σ ∧ ∀ q, q < P → σ.2.1 19 0 q = RS lf M P mi s q)
theorem reC (hp : 0 < P) (mi : Int32) {t : Nat} (ht : t < 1000) {σ : SS} (h : PreC lf M P mi t σ) : ∃ τ, m_X9_reachBy mi (zI t) σ = some τ ∧ DC lf M P τ ∧ FrC σ τ ∧ (∀ q, q < P → τ.2.1 19 0 q = RS lf M P mi t q) ∧ m_X9_reachedShop τ = RS lf M P mi t (P - 1) := by
  have key : ∀ τ, DC lf M P τ → (∀ q, q < P → τ.2.1 19 0 q = RS lf M P mi t q) → m_X9_reachedShop τ = RS lf M P mi t (P - 1) := fun τ h a => by
    have hP := h.1.1.2.2.2.2
    unfold m_X9_reachedShop
    rw [h.2.2, show zI P - 1 = zI (P - 1) by rw [i1, zI_sub (by omega)], if_neg (zI_ge (a := P - 1) (by omega)), if_neg (show ¬ (12 : Int32) ≤ zI (P - 1) by rw [i12, zI_le (by omega) (by omega)]; omega), zI_cl (by omega), a _ (by omega)]
  rcases h with ⟨rfl, h1, h2, h3⟩ | ⟨s, rfl, h1, h2⟩
  · have hP := h1.2.2.2.2
    obtain ⟨s1, s2, s3⟩ := supN h1 h2
    have hC : DC lf M P (m_X7_supposeNow σ) := ⟨s1, s2, (s3.1 1 0 1 (by decide) (by decide) (by omega) (by omega)).trans h3⟩
    have hF : DC lf M P (sAf (m_X7_supposeNow σ) 19 0 (fillF ((m_X7_supposeNow σ).2.1 19 0) (-1) 12)) := by
      obtain ⟨⟨k1, k2, k3, k4, k5, k6, k7⟩, k8, k9⟩ := hC
      exact ⟨⟨k1.c rfl, k2.c rfl rfl rfl, k3, k4, k5, k6, k7⟩, k8, k9⟩
    have fF : FrC (m_X7_supposeNow σ) (sAf (m_X7_supposeNow σ) 19 0 (fillF ((m_X7_supposeNow σ).2.1 19 0) (-1) 12)) := ⟨fun _ _ _ _ _ _ _ => rfl, fun t _ _ _ _ _ _ a => by
      funext x y
      exact if_neg (fun e => a e.1), rfl⟩
    have cF : ∀ q, q < 12 → (sAf (m_X7_supposeNow σ) 19 0 (fillF ((m_X7_supposeNow σ).2.1 19 0) (-1) 12)).2.1 19 0 q = -1 := fun q hq => by
      rw [sAf_s]
      exact if_pos hq
    obtain ⟨τ, t1, t2, t3⟩ := inM hF.1 hp (by omega : 0 < 4) mi
    have t1 : m_X7_inMinute 0 0 mi (sAf (m_X7_supposeNow σ) 19 0 (fillF ((m_X7_supposeNow σ).2.1 19 0) (-1) 12)) = some (zI (sm lf M 0 mi), τ) := by
      rw [← sm_e]
      exact t1
    have h' := hF.fs t3 t2
    have cT : ∀ q, q < P → (sA τ 19 0 0 (bor (lim M) (zI 0) (sm lf M 0 mi) 0)).2.1 19 0 q = RS lf M P mi 0 q := fun q hq => by
      rw [sA_g]
      unfold RS
      by_cases e : q = 0
      · rw [if_pos e, if_pos e]
      · rw [if_neg e, if_neg e, t3.2.1 19 (by decide) (by decide) (by decide)]
        exact cF q (by omega)
    have eb : m_X9_borne 0 (zI (sm lf M 0 mi)) 0 τ = bor (lim M) (zI 0) (sm lf M 0 mi) 0 := borC (c := 0) h'.2.1 (Or.inr ⟨0, by omega, rfl⟩) (sm_le _ _) (by omega)
    refine ⟨_, ?_, h'.s19 _ _, ((s3.tr fF).tr t3.fc).tr (FrC.s19 _ _ _), cT, key _ (h'.s19 _ _) cT⟩
    unfold m_X9_reachBy
    rw [if_pos (show zI 0 = 0 from rfl)]
    simp only [bnT]
    rw [t1]
    simp only [Option.bind_some]
    rw [eb]
    rfl
  · have hP := h1.1.1.2.2.2.2
    obtain ⟨τ, t1, t2, t3, t4⟩ := rb63 (RS_ok h1.1.1.rg mi s) mi (zI (s + 1)) P FU σ (by omega) (by unfold FU; omega) h1 h2 (fun q c1 c2 => absurd c2 (by omega))
    refine ⟨τ, ?_, t2, t3, t4, key _ t2 t4⟩
    have em : zI P - 1 = zI (P - 1) := by rw [i1, zI_sub (by omega)]
    rw [em] at t1
    unfold m_X9_reachBy
    rw [if_neg (show ¬ zI (s + 1) = 0 by rw [i0, zI_eq (by omega) (by omega)]; omega), h1.2.2, if_neg (show ¬ (12 : Int32) < zI P by rw [i12, zI_lt (by omega) (by omega)]; omega), em]
    exact t1
def spn (lf : Option FN) (M : Nat → Int32) (P : Nat) (mi : Int32) : Nat → Nat → Int32
  | 0, _ => -2
  | n + 1, t => if RS lf M P mi t (P - 1) = -1 then spn lf M P mi n (t + 1) else zI t
theorem soC (hp : 0 < P) (mi : Int32) : ∀ (n f t : Nat) (σ : SS), t + n = 100 → n < f → PreC lf M P mi t σ → ∃ τ, L_X9_fewestMinutes_2 f mi (zI t) σ = some (spn lf M P mi n t, τ) ∧ FrC σ τ
  | n, 0, t, σ, h0, hf, h => absurd hf (by omega)
  | 0, f + 1, t, σ, h0, hf, h => by
    rw [L_X9_fewestMinutes_2, if_pos (show (99 : Int32) < zI t by rw [i99, zI_lt (by omega) (by omega)]; omega)]
    exact ⟨_, rfl, FrC.rf _⟩
  | n + 1, f + 1, t, σ, h0, hf, h => by
    obtain ⟨τ, t1, t2, t3, t4, t5⟩ := reC hp mi (by omega) h
    rw [L_X9_fewestMinutes_2, if_neg (show ¬ (99 : Int32) < zI t by rw [i99, zI_lt (by omega) (by omega)]; omega), t1]
    simp only [Option.bind_some]
    rw [t5, spn, show zI t + 1 = zI (t + 1) from zI_add t 1]
    by_cases c : RS lf M P mi t (P - 1) = -1
    · rw [if_pos c, if_pos c]
      obtain ⟨υ, u1, u2⟩ := soC hp mi n f (t + 1) τ (by omega) (by omega) (Or.inr ⟨t, rfl, t2, t4⟩)
      exact ⟨υ, u1, t3.tr u2⟩
    · rw [if_neg c, if_neg c]
      exact ⟨τ, rfl, t3⟩
theorem soM (hp : 0 < P) (mi : Int32) : ∀ (n f t : Nat) (σ : SS), t + n = 100 → n < f → DM lf M P σ → (∀ q, q < P → σ.2.1 9 0 q = RS lf M P mi t q) → ∃ τ, L_X11_soonest_26 f mi (zI t) σ = some (spn lf M P mi n t, τ) ∧ FrA σ τ
  | n, 0, t, σ, h0, hf, h, a => absurd hf (by omega)
  | 0, f + 1, t, σ, h0, hf, h, a => by
    rw [L_X11_soonest_26, if_pos (show (99 : Int32) < zI t by rw [i99, zI_lt (by omega) (by omega)]; omega)]
    exact ⟨_, rfl, FrA.rf _⟩
  | n + 1, f + 1, t, σ, h0, hf, h, a => by
    have hP := h.1.2.2.2.2.2
    have ok := RS_ok (lf := lf) h.1.2.2.2 mi t (P - 1)
    rw [L_X11_soonest_26, if_neg (show ¬ (99 : Int32) < zI t by rw [i99, zI_lt (by omega) (by omega)]; omega), h.2, show zI P - 1 = zI (P - 1) by rw [i1, zI_sub (by omega)], if_neg (zI_in (by omega) (by omega)), zI_cl (by omega), a (P - 1) (by omega), spn, show zI t + 1 = zI (t + 1) from zI_add t 1]
    by_cases c : RS lf M P mi t (P - 1) = -1
    · obtain ⟨τ, t1, t2, t3⟩ := goM h a (x := mi + zI t + 1) (by rw [Int32.add_assoc, i1, zI_add])
      obtain ⟨υ, u1, u2⟩ := soM hp mi n f (t + 1) τ (by omega) (by omega) (h.fa t2) t3
      rw [if_pos c, if_pos ((okR_lt ok).1.mpr c), t1]
      simp only [Option.bind_some]
      exact ⟨υ, u1, t2.tr u2⟩
    · rw [if_neg c, if_neg (fun z => c ((okR_lt ok).1.mp z))]
      exact ⟨σ, rfl, FrA.rf _⟩
def lo (b r : Int32) : Int32 := if r = -1 then b else if b = -1 then r else if b ≤ r then b else r
def sfn (lf : Option FN) (M : Nat → Int32) (P : Nat) (mi : Int32) : Nat → Nat → Int32 → Int32
  | 0, _, b => b
  | n + 1, t, b => sfn lf M P mi n (t + 1) (lo b (RS lf M P mi t (P - 1)))
def mp (b : Int32) : Int32 := if b = -1 then -2 else b
theorem saC (hp : 0 < P) (mi : Int32) {u : Nat} (hu : u ≤ 60) : ∀ (n f t : Nat) (b : Int32) (σ : SS), t + n = u + 1 → n < f → PreC lf M P mi t σ → ∃ τ, L_X9_leastWithin_5 f mi (zI u) b (zI t) σ = some (mp (sfn lf M P mi n t b), τ) ∧ FrC σ τ
  | n, 0, t, b, σ, h0, hf, h => absurd hf (by omega)
  | 0, f + 1, t, b, σ, h0, hf, h => by
    rw [L_X9_leastWithin_5, if_pos (show zI u < zI t by rw [zI_lt (by omega) (by omega)]; omega), sfn, mp]
    by_cases c : b = -1
    · rw [if_pos c, if_pos c]; exact ⟨_, rfl, FrC.rf _⟩
    · rw [if_neg c, if_neg c]; exact ⟨_, rfl, FrC.rf _⟩
  | n + 1, f + 1, t, b, σ, h0, hf, h => by
    obtain ⟨τ, t1, t2, t3, t4, t5⟩ := reC hp mi (by omega) h
    have go : ∀ b', ∃ υ, L_X9_leastWithin_5 f mi (zI u) b' (zI (t + 1)) τ = some (mp (sfn lf M P mi n (t + 1) b'), υ) ∧ FrC σ υ := fun b' => by
      obtain ⟨υ, u1, u2⟩ := saC hp mi hu n f (t + 1) b' τ (by omega) (by omega) (Or.inr ⟨t, rfl, t2, t4⟩)
      exact ⟨υ, u1, t3.tr u2⟩
    rw [L_X9_leastWithin_5, if_neg (show ¬ zI u < zI t by rw [zI_lt (by omega) (by omega)]; omega), if_neg (show ¬ (99 : Int32) < zI t by rw [i99, zI_lt (by omega) (by omega)]; omega), t1]
    simp only [Option.bind_some]
    rw [t5, sfn, lo, show zI t + 1 = zI (t + 1) from zI_add t 1]
    by_cases c : RS lf M P mi t (P - 1) = -1
    · rw [if_pos c, if_pos c]
      exact go _
    · rw [if_neg c, if_neg c]
      by_cases d : b = -1
      · rw [if_pos d, if_pos d]
        exact go _
      · rw [if_neg d, if_neg d]
        by_cases e : b ≤ RS lf M P mi t (P - 1)
        · rw [if_pos e, if_pos e]
          exact go _
        · rw [if_neg e, if_neg e]
          exact go _
theorem RS_1 (mi : Int32) (t : Nat) : RS lf M 1 mi (t + 1) 0 = -1 := by
  unfold RS nx
  rw [if_pos rfl, if_pos rfl]
  rfl
theorem sfn_1 (mi : Int32) (b : Int32) : ∀ (n t : Nat), sfn lf M 1 mi n (t + 1) b = b
  | 0, t => rfl
  | n + 1, t => by
    unfold sfn
    rw [show RS lf M 1 mi (t + 1) (1 - 1) = -1 from RS_1 mi t, lo, if_pos rfl]
    exact sfn_1 mi b n (t + 1)
theorem saM (hp : 0 < P) (mi : Int32) {u : Nat} (hu : u ≤ 60) : ∀ (n f t : Nat) (b : Int32) (σ : SS), t + n = u → n < f → okR b → DM lf M P σ → (∀ q, q < P → σ.2.1 9 0 q = RS lf M P mi t q) → ∃ τ, L_X11_safest_70 f mi (zI u) (mp b) (zI (t + 1)) σ = some (mp (sfn lf M P mi n (t + 1) b), τ) ∧ FrA σ τ
  | n, 0, t, b, σ, h0, hf, hb, h, a => absurd hf (by omega)
  | 0, f + 1, t, b, σ, h0, hf, hb, h, a => by
    rw [L_X11_safest_70, if_pos (show zI u < zI (t + 1) by rw [zI_lt (by omega) (by omega)]; omega), sfn]
    exact ⟨_, rfl, FrA.rf _⟩
  | n + 1, f + 1, t, b, σ, h0, hf, hb, h, a => by
    have hP := h.1.2.2.2.2.2
    rw [L_X11_safest_70, if_neg (show ¬ zI u < zI (t + 1) by rw [zI_lt (by omega) (by omega)]; omega), h.2]
    by_cases p1 : P = 1
    · subst p1
      rw [if_pos (show zI 1 ≤ 1 by decide), sfn_1]
      exact ⟨_, rfl, FrA.rf _⟩
    · obtain ⟨τ, t1, t2, t3⟩ := goM h a (x := mi + zI (t + 1)) rfl
      have h' := h.fa t2
      have ok := RS_ok (lf := lf) h.1.2.2.2 mi (t + 1) (P - 1)
      have go : ∀ b', okR b' → ∃ υ, L_X11_safest_70 f mi (zI u) (mp b') (zI (t + 1 + 1)) τ = some (mp (sfn lf M P mi n (t + 1 + 1) b'), υ) ∧ FrA σ υ := fun b' k => by
        obtain ⟨υ, u1, u2⟩ := saM hp mi hu n f (t + 1) b' τ (by omega) (by omega) k h' t3
        exact ⟨υ, u1, t2.tr u2⟩
      have mpn : ∀ x, ¬ x = -1 → mp x = x := fun x k => if_neg k
      rw [if_neg (show ¬ zI P ≤ 1 by rw [i1, zI_le (by omega) (by omega)]; omega), t1]
      simp only [Option.bind_some]
      rw [h'.2, show zI P - 1 = zI (P - 1) by rw [i1, zI_sub (by omega)], if_neg (zI_in (by omega) (by omega)), zI_cl (by omega), t3 (P - 1) (by omega), sfn, show zI (t + 1) + 1 = zI (t + 1 + 1) from zI_add (t + 1) 1]
      by_cases c : RS lf M P mi (t + 1) (P - 1) = -1
      · rw [if_pos ((okR_lt ok).1.mpr c), lo, if_pos c]
        exact go b hb
      · rw [if_neg (fun z => c ((okR_lt ok).1.mp z)), lo, if_neg c]
        have g2 := go _ ok
        rw [mpn _ c] at g2
        by_cases d : b = -1
        · rw [if_pos (show mp b < 0 by rw [mp, if_pos d]; decide), if_pos d]
          exact g2
        · have g1 := go b hb
          rw [mpn _ d] at g1 ⊢
          rw [if_neg (fun z => d ((okR_lt hb).1.mp z)), if_neg d]
          by_cases e : b ≤ RS lf M P mi (t + 1) (P - 1)
          · rw [if_pos e, if_pos e]
            exact g1
          · rw [if_neg e, if_neg e]
            exact g2
end REACHM
theorem P_soonest {σC σM : SS} (h : Inv σC σM) (a : Int32) : ∃ r τC τM, m_X10_soonest a σC = some (r, τC) ∧ m_X11_soonest a σM = some (r, τM) ∧ Inv τC τM := by
  obtain ⟨P, Bn, lf, hK⟩ := h
  have hI : Inv σC σM := ⟨P, Bn, lf, hK⟩
  have hP := hK.1.1
  have P0 : zI P = 0 ↔ P = 0 := by rw [i0, zI_eq (by omega) (by omega)]
  unfold m_X10_soonest m_X11_soonest
  rw [hK.1.2.1, hK.1.2.2.1]
  by_cases c : 0 ≤ a.toInt ∧ a.toInt ≤ 999
  · rw [if_neg (fun e => (minC a).mp e c), if_neg (fun e => (minM a).mp e c)]
    by_cases p0 : P = 0
    · rw [if_pos (P0.mpr p0), if_pos (P0.mpr p0)]
      exact ⟨_, _, _, rfl, rfl, hI⟩
    · have hM : DM lf (σM.2.1 1 0) P σM := ⟨hK.km, hK.1.2.2.1⟩
      obtain ⟨τC, t1, t2⟩ := soC (lf := lf) (M := σM.2.1 1 0) (P := P) (by omega) a 100 FU 0 σC (by omega) (by unfold FU; omega) (Or.inl ⟨rfl, hK.nm, hK.lc, hK.1.2.1⟩)
      obtain ⟨ρ, r1, r2, r3⟩ := begM (lf := lf) (M := σM.2.1 1 0) (P := P) (by omega) a P FU 0 σM (by omega) (by unfold FU; omega) hM (fun q hq => absurd hq (by omega))
      obtain ⟨τM, m1, m2⟩ := soM (by omega) a 100 FU 0 ρ (by omega) (by unfold FU; omega) (hM.fa r2) r3
      have r1 : m_X11_begins1 a σM = some ρ := r1
      have t1 : m_X9_fewestMinutes a σC = _ := t1
      rw [← i0] at m1
      rw [if_neg (fun z => p0 (P0.mp z)), if_neg (fun z => p0 (P0.mp z)), t1, r1]
      simp only [Option.bind_some]
      exact ⟨_, τC, τM, rfl, m1, P, Bn, lf, hK.fr t2 (r2.tr m2).fm⟩
  · rw [if_pos ((minC a).mpr c), if_pos ((minM a).mpr c)]
    exact ⟨_, _, _, rfl, rfl, hI⟩
theorem P_safest {σC σM : SS} (h : Inv σC σM) (a b : Int32) : ∃ r τC τM, m_X10_safest a b σC = some (r, τC) ∧ m_X11_safest a b σM = some (r, τM) ∧ Inv τC τM := by
  obtain ⟨P, Bn, lf, hK⟩ := h
  have hI : Inv σC σM := ⟨P, Bn, lf, hK⟩
  have hP := hK.1.1
  have P0 : zI P = 0 ↔ P = 0 := by rw [i0, zI_eq (by omega) (by omega)]
  have e3 : m_X11_within b.toInt64 0 60 = 0 ↔ ¬ (0 ≤ b.toInt ∧ b.toInt ≤ 60) := wM32
  have e4 : m_X10_isWithin b 0 60 = 0 ↔ ¬ (0 ≤ b.toInt ∧ b.toInt ≤ 60) := wC
  unfold m_X10_safest m_X11_safest
  rw [hK.1.2.1, hK.1.2.2.1]
  by_cases c : 0 ≤ a.toInt ∧ a.toInt ≤ 999
  · rw [if_neg (fun e => (minC a).mp e c), if_neg (fun e => (minM a).mp e c)]
    by_cases c2 : 0 ≤ b.toInt ∧ b.toInt ≤ 60
    · rw [if_neg (fun e => e4.mp e c2), if_neg (fun e => e3.mp e c2)]
      by_cases p0 : P = 0
      · rw [if_pos (P0.mpr p0), if_pos (P0.mpr p0)]
        exact ⟨_, _, _, rfl, rfl, hI⟩
      · obtain ⟨u, hu, rfl⟩ := rng (b := 60) c2.1 c2.2
        have hM : DM lf (σM.2.1 1 0) P σM := ⟨hK.km, hK.1.2.2.1⟩
        obtain ⟨τC, t1, t2⟩ := saC (lf := lf) (M := σM.2.1 1 0) (P := P) (by omega) a hu (u + 1) FU 0 (-1) σC (by omega) (by unfold FU; omega) (Or.inl ⟨rfl, hK.nm, hK.lc, hK.1.2.1⟩)
        obtain ⟨ρ, r1, r2, r3⟩ := begM (lf := lf) (M := σM.2.1 1 0) (P := P) (by omega) a P FU 0 σM (by omega) (by unfold FU; omega) hM (fun q hq => absurd hq (by omega))
        have ok := RS_ok (lf := lf) hK.km.2.2.2 a 0 (P - 1)
        obtain ⟨τM, m1, m2⟩ := saM (by omega) a hu u FU 0 (RS lf (σM.2.1 1 0) P a 0 (P - 1)) ρ (by omega) (by unfold FU; omega) ok (hM.fa r2) r3
        have r1 : m_X11_begins1 a σM = some ρ := r1
        have t1 : m_X9_leastWithin a (zI u) σC = _ := t1
        have el : lo (-1) (RS lf (σM.2.1 1 0) P a 0 (P - 1)) = RS lf (σM.2.1 1 0) P a 0 (P - 1) := by
          unfold lo
          by_cases z : RS lf (σM.2.1 1 0) P a 0 (P - 1) = -1
          · rw [if_pos z, z]
          · rw [if_neg z, if_pos rfl]
        rw [sfn, el] at t1
        rw [show zI (0 + 1) = 1 from rfl] at m1
        rw [if_neg (fun z => p0 (P0.mp z)), if_neg (fun z => p0 (P0.mp z)), t1, r1]
        simp only [Option.bind_some]
        rw [(hM.fa r2).2, show zI P - 1 = zI (P - 1) by rw [i1, zI_sub (by omega)], if_neg (zI_in (by omega) (by omega)), zI_cl (by omega), r3 (P - 1) (by omega)]
        by_cases z : RS lf (σM.2.1 1 0) P a 0 (P - 1) = -1
        · rw [if_neg (fun k => (okR_lt ok).2.mp k z)]
          rw [mp, if_pos z] at m1
          exact ⟨_, τC, τM, rfl, m1, P, Bn, lf, hK.fr t2 (r2.tr m2).fm⟩
        · rw [if_pos ((okR_lt ok).2.mpr z)]
          rw [mp, if_neg z] at m1
          exact ⟨_, τC, τM, rfl, m1, P, Bn, lf, hK.fr t2 (r2.tr m2).fm⟩
    · rw [if_pos (e4.mpr c2), if_pos (e3.mpr c2)]
      exact ⟨_, _, _, rfl, rfl, hI⟩
  · rw [if_pos ((minC a).mpr c), if_pos ((minM a).mpr c)]
    exact ⟨_, _, _, rfl, rfl, hI⟩
