/-! menFor, windFrom, scratchFor -/
def asc (ok : Nat → Bool) (b : Int32) : Nat → Nat → Int32
  | _, 0 => b
  | k, n + 1 => cond (ok k) (zI k) (asc ok b (k + 1) n)
theorem asc_snoc (ok : Nat → Bool) (b : Int32) : ∀ (n k : Nat), asc ok b k (n + 1) = asc ok (cond (ok (k + n)) (zI (k + n)) b) k n
  | 0, k => by
    show cond (ok k) (zI k) b = cond (ok (k + 0)) (zI (k + 0)) b
    rfl
  | n + 1, k => by
    show cond (ok k) (zI k) (asc ok b (k + 1) (n + 1)) = cond (ok k) (zI k) (asc ok _ (k + 1) n)
    rw [asc_snoc ok b n (k + 1), show k + 1 + n = k + (n + 1) by omega]
def dsc (ok : Nat → Bool) : Nat → Int32
  | 0 => -2
  | n + 1 => cond (ok n) (zI n) (dsc ok n)
def cr (lf : Option FN) (M : Nat → Int32) (men scr mg : Int32) (H : Nat → Nat) (P : Nat) (mi : Int32) : Int32 := (folW (sN lf M men scr mg) H (M 85 - 5 * scr) P 0 mi).2
theorem cr_r (lf : Option FN) (M : Nat → Int32) (men scr mg : Int32) (H : Nat → Nat) {P : Nat} (hP : P ≤ 12) (mi : Int32) : cr lf M men scr mg H P mi = -2 ∨ ∃ q, q < 12 ∧ cr lf M men scr mg H P mi = zI q :=
  (fol_b (sN lf M men scr mg) H (M 85 - 5 * scr) 0 mi (fun p k m => (sN_e lf M _ _ _ p k m).2) (P - 0) 0 0 (-2) (by omega) (Or.inl rfl)).2
theorem m2_of {v : Int32} {P : Prop} (h : v = -2 ∨ ∃ q, q < 12 ∧ v = zI q) : (0 ≤ v ↔ ¬ v = -2) ∧ (v < 0 ↔ v = -2) := by
  rcases h with e | ⟨q, hq, e⟩
  · rw [e]; exact ⟨⟨fun z => absurd z (by decide), fun z => absurd rfl z⟩, ⟨fun _ => rfl, fun _ => by decide⟩⟩
  · rw [e]; exact ⟨⟨fun _ => zI_m2 (by omega), fun _ => zI_ge' (by omega)⟩, ⟨fun z => absurd z (zI_ge (by omega)), fun z => absurd z (zI_m2 (by omega))⟩⟩
section FOR3
variable {P d : Nat} {lf : Option FN} {M : Nat → Int32} {H : Nat → Nat}
/-- the class's state goes by numbers, a row, places alone -/
def BC (lf : Option FN) (M : Nat → Int32) (P : Nat) (H : Nat → Nat) (d : Nat) (σ : SS) : Prop := nmR M P σ ∧ LCo lf σ ∧ σ.1 1 0 1 = zI P ∧ (∀ p, p < 12 → m_X6_heldAt d (zI p) σ = zI (H p))
theorem BC.fr {σ τ : SS} (h : BC lf M P H d σ) (f : FrC σ τ) : BC lf M P H d τ := by
  obtain ⟨h1, h2, h3, h4⟩ := h
  exact ⟨FrC.nm h1 f, FrC.lc h2 f, (f.1 1 0 1 (by decide) (by decide) (by omega) (by omega)).trans h3, fun p hp => by rw [held_c (funext fun j => funext fun k => f.1 28 j k (by decide) (by decide) (by omega) (by omega)) f.2.2]; exact h4 p hp⟩
theorem BC.go {σ : SS} (hH : ∀ p, H p < 4) (hp : 0 < P) (h : BC lf M P H d σ) {men scr mg : Int32} (hm : 0 < men.toInt) (mi : Int32) : ∃ τ, m_X9_follow d 0 mi (m_X7_suppose men scr mg σ) = some τ ∧ τ.1 17 0 4 = cr lf M men scr mg H P mi ∧ BC lf M P H d τ ∧ FrC σ τ := by
  obtain ⟨s1, s2, s3⟩ := sup (men := men) (scr := scr) (mg := mg) h.1 h.2.1 hm
  have hb := h.fr s3
  obtain ⟨τ, t1, t2, -, -, t5⟩ := followC (M := M) (men := men) (scr := scr) (mg := mg) hH (van := 0) hp (mi := mi) ⟨s1, s2, hb.2.2.1, hb.2.2.2⟩
  exact ⟨τ, t1, t2, hb.fr t5.fc, s3.tr t5.fc⟩
theorem menC (hH : ∀ p, H p < 4) (hp : 0 < P) (mi : Int32) : ∀ (n f k : Nat) (σ : SS), k + n = 7 → n < f → 0 < k → BC lf M P H d σ → ∃ τ, L_X9_fewestMen_2 d f mi (zI k) σ = some (asc (fun k => cr lf M (zI k) (M 86) 0 H P mi == -2) (-2) k n, τ) ∧ FrC σ τ
  | n, 0, k, σ, h0, hf, hk, h => absurd hf (by omega)
  | 0, f + 1, k, σ, h0, hf, hk, h => by
    refine ⟨σ, ?_, FrC.rf σ⟩
    rw [L_X9_fewestMen_2, if_pos (by rw [i6, zI_lt (by omega) (by omega)]; omega)]
    rfl
  | n + 1, f + 1, k, σ, h0, hf, hk, h => by
    have e9 : m_X8_number 0 9 σ = M 86 := (numG (k := 2) (by omega) 0 σ).trans (h.1.2.1 2 (by omega))
    obtain ⟨τ, t1, t2, t3, t4⟩ := h.go hH hp (men := zI k) (scr := M 86) (mg := 0) (by rw [zI_toInt (by omega)]; omega) mi
    rw [L_X9_fewestMen_2, if_neg (by rw [i6, zI_lt (by omega) (by omega)]; omega), e9]
    simp only [bnT]
    rw [t1]
    simp only [Option.bind_some]
    rw [t2, show zI k + 1 = zI (k + 1) from zI_add k 1]
    show ∃ υ, _ = some (cond (cr lf M (zI k) (M 86) 0 H P mi == -2) (zI k) (asc _ (-2) (k + 1) n), υ) ∧ _
    by_cases c : cr lf M (zI k) (M 86) 0 H P mi = -2
    · rw [if_pos c, c]
      exact ⟨τ, rfl, t4⟩
    · obtain ⟨υ, u1, u2⟩ := menC hH hp mi n f (k + 1) τ (by omega) (by omega) (by omega) t3
      rw [if_neg c, show (cr lf M (zI k) (M 86) 0 H P mi == -2) = false by simpa using c, u1]
      exact ⟨υ, rfl, t4.tr u2⟩
theorem gusC2 (hH : ∀ p, H p < 4) (hp : 0 < P) (mi : Int32) : ∀ (n f k : Nat) (σ : SS), k + n = 31 → n < f → BC lf M P H d σ → ∃ τ, L_X9_leastMoreGust_2 d f mi (zI k) σ = some (asc (fun k => !(cr lf M (M 84) (M 86) (zI k) H P mi == -2)) (-2) k n, τ) ∧ FrC σ τ
  | n, 0, k, σ, h0, hf, h => absurd hf (by omega)
  | 0, f + 1, k, σ, h0, hf, h => by
    refine ⟨σ, ?_, FrC.rf σ⟩
    rw [L_X9_leastMoreGust_2, if_pos (by rw [i30, zI_lt (by omega) (by omega)]; omega)]
    rfl
  | n + 1, f + 1, k, σ, h0, hf, h => by
    have e7 : m_X8_number 0 7 σ = M 84 := (numG (k := 0) (by omega) 0 σ).trans (h.1.2.1 0 (by omega))
    have e9 : m_X8_number 0 9 σ = M 86 := (numG (k := 2) (by omega) 0 σ).trans (h.1.2.1 2 (by omega))
    obtain ⟨τ, t1, t2, t3, t4⟩ := h.go hH hp (men := M 84) (scr := M 86) (mg := zI k) (pos_of (h.1.2.2.2.1 0 (by omega)) (Or.inr rfl)) mi
    rw [L_X9_leastMoreGust_2, if_neg (by rw [i30, zI_lt (by omega) (by omega)]; omega), e7, e9]
    simp only [bnT]
    rw [t1]
    simp only [Option.bind_some]
    rw [t2, show zI k + 1 = zI (k + 1) from zI_add k 1]
    show ∃ υ, _ = some (cond (!(cr lf M (M 84) (M 86) (zI k) H P mi == -2)) (zI k) (asc _ (-2) (k + 1) n), υ) ∧ _
    by_cases c : cr lf M (M 84) (M 86) (zI k) H P mi = -2
    · obtain ⟨υ, u1, u2⟩ := gusC2 hH hp mi n f (k + 1) τ (by omega) (by omega) t3
      rw [if_pos c, c, u1]
      exact ⟨υ, rfl, t4.tr u2⟩
    · rw [if_neg c, show (cr lf M (M 84) (M 86) (zI k) H P mi == -2) = false by simpa using c]
      exact ⟨τ, rfl, t4⟩
theorem scrC (hH : ∀ p, H p < 4) (hp : 0 < P) (mi : Int32) : ∀ (n f : Nat) (σ : SS), n < f → n < 1000 → BC lf M P H d σ → ∃ τ, L_X9_greatestScratch_21 d f mi (zI n - 1) σ = some (dsc (fun k => cr lf M (M 84) (zI k) 0 H P mi == -2) n, τ) ∧ FrC σ τ
  | n, 0, σ, hf, hn, h => absurd hf (by omega)
  | 0, f + 1, σ, hf, hn, h => ⟨σ, rfl, FrC.rf σ⟩
  | n + 1, f + 1, σ, hf, hn, h => by
    have e7 : m_X8_number 0 7 σ = M 84 := (numG (k := 0) (by omega) 0 σ).trans (h.1.2.1 0 (by omega))
    obtain ⟨τ, t1, t2, t3, t4⟩ := h.go hH hp (men := M 84) (scr := zI n) (mg := 0) (pos_of (h.1.2.2.2.1 0 (by omega)) (Or.inr rfl)) mi
    rw [show zI (n + 1) - 1 = zI n by rw [i1, zI_sub (by omega)]; rfl, L_X9_greatestScratch_21, if_neg (zI_ge (by omega)), e7]
    simp only [bnT]
    rw [t1]
    simp only [Option.bind_some]
    rw [t2]
    show ∃ υ, _ = some (cond (cr lf M (M 84) (zI n) 0 H P mi == -2) (zI n) (dsc _ n), υ) ∧ _
    by_cases c : cr lf M (M 84) (zI n) 0 H P mi = -2
    · rw [if_pos c, c]
      exact ⟨τ, rfl, t4⟩
    · obtain ⟨υ, u1, u2⟩ := scrC hH hp mi n f τ (by omega) (by omega) t3
      rw [if_neg c, show (cr lf M (M 84) (zI n) 0 H P mi == -2) = false by simpa using c, show zI n + (-1 : Int32) = zI n - 1 from Int32.add_neg_eq_sub, u1]
      exact ⟨υ, rfl, t4.tr u2⟩
/-! the model: with another number for a while -/
def setM (M : Nat → Int32) (i : Nat) (v : Int32) : Nat → Int32 := fun c => if c = i then v else M c
theorem setM_o {M : Nat → Int32} {i c : Nat} {v : Int32} (h : c ≠ i) : setM M i v c = M c := if_neg h
theorem setM_s (M : Nat → Int32) (i : Nat) (v : Int32) : setM M i v i = v := if_pos rfl
theorem sT_set {i : Nat} (hi : 84 ≤ i) (v men scr mg : Int32) {p : Nat} (hp : p < 12) (x m : Int32) : sT lf (setM M i v) men scr mg p x m = sT lf M men scr mg p x m := by
  unfold sT wdT
  rw [setM_o (by omega), setM_o (by omega), setM_o (by omega), setM_o (by omega), setM_o (by omega)]
theorem fol_c {t t' : Nat → Nat → Int32 → Nat} (ht : ∀ p k m, p < 12 → t p k m = t' p k m) (lim : Int32) (van : Nat) (mi : Int32) : ∀ (n p s : Nat) (c : Int32), p + n ≤ 12 → fol t H lim van mi n p s c = fol t' H lim van mi n p s c
  | 0, p, s, c, hp => rfl
  | n + 1, p, s, c, hp => by
    unfold fol tSt
    rw [ht p _ _ (by omega)]
    exact fol_c ht lim van mi n (p + 1) _ _ (by omega)
theorem cr_set {i : Nat} (hi : 84 ≤ i) (h85 : i ≠ 85) (v men scr mg : Int32) (hP : P ≤ 12) (mi : Int32) : cr lf (setM M i v) men scr mg H P mi = cr lf M men scr mg H P mi := by
  unfold cr folW
  rw [setM_o (by omega : 85 ≠ i), fol_c (t' := sN lf M men scr mg) (fun p k m hp => ?_) _ _ _ _ _ _ _ (by omega)]
  unfold sN
  rw [sT_set hi v men scr mg hp]
theorem RgM.set {i : Nat} (h : RgM M P) (hi : 84 ≤ i) {k : Nat} (hk : i = 84 + k) {v : Int32} (hv : okV (7 + k) v) : RgM (setM M i v) P := by
  obtain ⟨h1, h2, h3⟩ := h
  refine ⟨fun p w hp hw => ?_, fun j hj => ?_, h3⟩
  · rw [setM_o (by omega)]
    exact h1 p w hp hw
  · by_cases e : j = k
    · subst e
      rw [← hk, setM_s]
      exact hv
    · rw [setM_o (by omega)]
      exact h2 j hj
theorem WM.set {σ : SS} {mg : Int32} (h : WM lf M P mg H d σ) {i k : Nat} (hi : i = 84 + k) {v : Int32} (hv : okV (7 + k) v) : WM lf (setM M i v) P mg H d (sA σ 1 0 i v) := by
  obtain ⟨⟨h1, h2, h3, h4⟩, h5, h6⟩ := h
  refine ⟨⟨?_, h2.c rfl rfl, h3, h4.set (by omega) hi hv⟩, h5, fun p hp => ?_⟩
  · funext c
    rw [sA_g, h1]
    rfl
  · rw [heldB_c (σ := σ) (sA_o (by decide)) rfl]
    exact h6 p hp
theorem setM_2 (M : Nat → Int32) (i : Nat) (v w : Int32) : setM (setM M i v) i w = setM M i w := by
  funext c
  unfold setM
  by_cases e : c = i
  · rw [if_pos e, if_pos e]
  · rw [if_neg e, if_neg e, if_neg e]
/-- all but one number is as it was -/
def FrQ (i : Nat) (σ τ : SS) : Prop := (∀ t j k, ¬ (t = 0 ∧ ((12 ≤ k ∧ k ≤ 16) ∨ k = 18 ∨ k = 19)) → τ.1 t j k = σ.1 t j k) ∧ (∀ t, t ≠ 1 → t ≠ 7 → τ.2.1 t = σ.2.1 t) ∧ τ.2.2 = σ.2.2 ∧ (∀ j c, ¬ (j = 0 ∧ c = i) → τ.2.1 1 j c = σ.2.1 1 j c)
theorem FrQ.rf (i : Nat) (σ : SS) : FrQ i σ σ := ⟨fun _ _ _ _ => rfl, fun _ _ _ => rfl, rfl, fun _ _ _ => rfl⟩
theorem FrQ.tr {i : Nat} {σ τ υ : SS} (h : FrQ i σ τ) (g : FrQ i τ υ) : FrQ i σ υ := ⟨fun t j k a => (g.1 t j k a).trans (h.1 t j k a), fun t a b => (g.2.1 t a b).trans (h.2.1 t a b), g.2.2.1.trans h.2.2.1, fun j c a => (g.2.2.2 j c a).trans (h.2.2.2 j c a)⟩
theorem FrV.fq {i : Nat} {σ τ : SS} (h : FrV σ τ) : FrQ i σ τ := ⟨fun t j k a => h.1 t j k a, fun t a b => h.2.1 t b, h.2.2, fun j c _ => by rw [h.2.1 1 (by decide)]⟩
theorem FrQ.st (i : Nat) (σ : SS) (v : Int32) : FrQ i σ (sA σ 1 0 i v) := ⟨fun _ _ _ _ => rfl, fun t a _ => sA_o a, rfl, fun j c h => if_neg (fun e => h ⟨e.2.1, e.2.2⟩)⟩
def FrG (σ τ : SS) : Prop := (∀ t j k, ¬ (t = 0 ∧ ((12 ≤ k ∧ k ≤ 16) ∨ k = 18 ∨ k = 19 ∨ (j = 0 ∧ k = 7))) → τ.1 t j k = σ.1 t j k) ∧ (∀ t, t ≠ 7 → τ.2.1 t = σ.2.1 t) ∧ τ.2.2 = σ.2.2
theorem FrG.rf (σ : SS) : FrG σ σ := ⟨fun _ _ _ _ => rfl, fun _ _ => rfl, rfl⟩
theorem FrG.tr {σ τ υ : SS} (h : FrG σ τ) (g : FrG τ υ) : FrG σ υ := ⟨fun t j k a => (g.1 t j k a).trans (h.1 t j k a), fun t a => (g.2.1 t a).trans (h.2.1 t a), g.2.2.trans h.2.2⟩
theorem FrV.fg {σ τ : SS} (h : FrV σ τ) : FrG σ τ := ⟨fun t j k a => h.1 t j k (by omega), h.2.1, h.2.2⟩
theorem FrG.st (σ : SS) (v : Int32) : FrG σ (sI σ 0 0 7 v) := ⟨fun t j k a => if_neg (by omega), fun _ _ => rfl, rfl⟩
theorem menM (hH : ∀ p, H p < 4) (hp : 0 < P) (mi had : Int32) : ∀ (k f : Nat) (best v : Int32) (σ : SS), k ≤ 6 → k < f → WM lf (setM M 84 v) P 0 H d σ → ∃ τ, L_X11_menFor_48 f (zI d) mi had best (zI k) σ = some (asc (fun k => cr lf M (zI k) (M 86) 0 H P mi == -2) best 1 k, sA τ 1 0 84 had) ∧ FrQ 84 σ τ
  | k, 0, best, v, σ, h0, hf, h => absurd hf (by omega)
  | 0, f + 1, best, v, σ, h0, hf, h => ⟨σ, rfl, FrQ.rf 84 σ⟩
  | k + 1, f + 1, best, v, σ, h0, hf, h => by
    have hP := h.1.2.2.2.2.2
    have hw := h.set (i := 84) (k := 0) rfl (v := zI (k + 1)) ⟨by rw [zI_toInt (by omega)]; show (1 : Int) ≤ _; omega, by rw [zI_toInt (by omega)]; show _ ≤ (6 : Int); omega⟩
    rw [setM_2] at hw
    obtain ⟨τ, m1, m2, m3, m4⟩ := walksM hH (van := 0) hp (mi := mi) hw
    have m1 : m_X11_walks (zI d) 0 mi (sA σ 1 0 84 (zI (k + 1))) = some τ := m1
    have m2 : τ.1 0 0 18 = cr lf (setM M 84 (zI (k + 1))) (setM M 84 (zI (k + 1)) 84) (setM M 84 (zI (k + 1)) 86) 0 H P mi := m2
    rw [setM_s, setM_o (by decide), cr_set (by omega) (by omega) _ _ _ _ hP] at m2
    have hq := (FrQ.st 84 σ (zI (k + 1))).tr m4.fq
    obtain ⟨υ, u1, u2⟩ := menM hH hp mi had k f (cond (cr lf M (zI (k + 1)) (M 86) 0 H P mi == -2) (zI (k + 1)) best) (zI (k + 1)) τ (by omega) (by omega) (hw.fr m4)
    have ha := asc_snoc (fun k => cr lf M (zI k) (M 86) 0 H P mi == -2) best k 1
    rw [Nat.add_comm 1 k] at ha
    rw [L_X11_menFor_48, if_neg (by rw [i1, zI_lt (by omega) (by omega)]; omega), show (84 : Int32).toNatClampNeg = 84 from rfl, m1]
    simp only [Option.bind_some]
    rw [m2, show zI (k + 1) + (-1 : Int32) = zI k by rw [Int32.add_neg_eq_sub, i1, zI_sub (by omega)]; rfl, ha]
    rcases cr_r lf M (zI (k + 1)) (M 86) 0 H hP mi with e | ⟨q, hq', e⟩
    · rw [e] at u1 ⊢
      rw [if_neg (show ¬ (0 : Int32) ≤ -2 by decide)]
      exact ⟨υ, u1, hq.tr u2⟩
    · have e2 : (cr lf M (zI (k + 1)) (M 86) 0 H P mi == -2) = false := by rw [e]; simpa using zI_m2 (by omega)
      rw [e2] at u1 ⊢
      rw [e, if_pos (zI_ge' (by omega))]
      exact ⟨υ, u1, hq.tr u2⟩
theorem setM_id (M : Nat → Int32) (i : Nat) : setM M i (M i) = M := by
  funext c
  unfold setM
  by_cases e : c = i
  · rw [if_pos e, e]
  · rw [if_neg e]
theorem winMd (hH : ∀ p, H p < 4) (hp : 0 < P) (mi : Int32) : ∀ (k f : Nat) (best mg : Int32) (σ : SS), k ≤ 31 → k < f → WM lf M P mg H d σ → ∃ τ, L_X11_windFrom_39 f (zI d) mi best (zI k - 1) σ = some (asc (fun k => !(cr lf M (M 84) (M 86) (zI k) H P mi == -2)) best 0 k, sI τ 0 0 7 0) ∧ FrG σ τ
  | k, 0, best, mg, σ, h0, hf, h => absurd hf (by omega)
  | 0, f + 1, best, mg, σ, h0, hf, h => ⟨σ, rfl, FrG.rf σ⟩
  | k + 1, f + 1, best, mg, σ, h0, hf, h => by
    have hP := h.1.2.2.2.2.2
    have hw : WM lf M P (zI k) H d (sI σ 0 0 7 (zI k)) := ⟨⟨h.1.1, h.1.2.1.c rfl rfl, rfl, h.1.2.2.2⟩, h.2.1, h.2.2⟩
    obtain ⟨τ, m1, m2, m3, m4⟩ := walksM hH (van := 0) hp (mi := mi) hw
    have m1 : m_X11_walks (zI d) 0 mi (sI σ 0 0 7 (zI k)) = some τ := m1
    have m2 : τ.1 0 0 18 = cr lf M (M 84) (M 86) (zI k) H P mi := m2
    have hq := (FrG.st σ (zI k)).tr m4.fg
    obtain ⟨υ, u1, u2⟩ := winMd hH hp mi k f (cond (!(cr lf M (M 84) (M 86) (zI k) H P mi == -2)) (zI k) best) (zI k) τ (by omega) (by omega) (hw.fr m4)
    have ha := asc_snoc (fun k => !(cr lf M (M 84) (M 86) (zI k) H P mi == -2)) best k 0
    rw [Nat.zero_add] at ha
    rw [show zI (k + 1) - 1 = zI k by rw [i1, zI_sub (by omega)]; rfl, L_X11_windFrom_39, if_neg (zI_ge (by omega)), m1]
    simp only [Option.bind_some]
    rw [m2, Int32.add_neg_eq_sub, ha]
    rcases cr_r lf M (M 84) (M 86) (zI k) H hP mi with e | ⟨q, hq', e⟩
    · rw [e] at u1 ⊢
      rw [if_pos (show (-2 : Int32) < 0 by decide)]
      exact ⟨υ, u1, hq.tr u2⟩
    · have e2 : (cr lf M (M 84) (M 86) (zI k) H P mi == -2) = false := by rw [e]; simpa using zI_m2 (by omega)
      rw [e2] at u1 ⊢
      rw [e, if_neg (zI_ge (by omega))]
      exact ⟨υ, u1, hq.tr u2⟩
theorem scrM (hH : ∀ p, H p < 4) (hp : 0 < P) (mi had : Int32) : ∀ (n f q : Nat) (v : Int32) (σ : SS), q + n = 100 → n < f → WM lf (setM M 86 v) P 0 H d σ → ∃ τ, L_X11_scratchFor_47 f (zI d) mi had (dsc (fun k => cr lf M (M 84) (zI k) 0 H P mi == -2) q) (zI q) σ = some (dsc (fun k => cr lf M (M 84) (zI k) 0 H P mi == -2) 100, sA τ 1 0 86 had) ∧ FrQ 86 σ τ
  | n, 0, q, v, σ, h0, hf, h => absurd hf (by omega)
  | 0, f + 1, q, v, σ, h0, hf, h => by
    have : q = 100 := by omega
    subst this
    exact ⟨σ, rfl, FrQ.rf 86 σ⟩
  | n + 1, f + 1, q, v, σ, h0, hf, h => by
    have hP := h.1.2.2.2.2.2
    have hw := h.set (i := 86) (k := 2) rfl (v := zI q) ⟨by rw [zI_toInt (by omega)]; show (0 : Int) ≤ _; omega, by rw [zI_toInt (by omega)]; show _ ≤ (99 : Int); omega⟩
    rw [setM_2] at hw
    obtain ⟨τ, m1, m2, m3, m4⟩ := walksM hH (van := 0) hp (mi := mi) hw
    have m1 : m_X11_walks (zI d) 0 mi (sA σ 1 0 86 (zI q)) = some τ := m1
    have m2 : τ.1 0 0 18 = cr lf (setM M 86 (zI q)) (setM M 86 (zI q) 84) (setM M 86 (zI q) 86) 0 H P mi := m2
    rw [setM_s, setM_o (by decide), cr_set (by omega) (by omega) _ _ _ _ hP] at m2
    have hq := (FrQ.st 86 σ (zI q)).tr m4.fq
    obtain ⟨υ, u1, u2⟩ := scrM hH hp mi had n f (q + 1) (zI q) τ (by omega) (by omega) (hw.fr m4)
    have ed : dsc (fun k => cr lf M (M 84) (zI k) 0 H P mi == -2) (q + 1) = cond (cr lf M (M 84) (zI q) 0 H P mi == -2) (zI q) (dsc (fun k => cr lf M (M 84) (zI k) 0 H P mi == -2) q) := rfl
    rw [L_X11_scratchFor_47, if_neg (by rw [i99, zI_lt (by omega) (by omega)]; omega), show (86 : Int32).toNatClampNeg = 86 from rfl, m1]
    simp only [Option.bind_some]
    rw [m2, show zI q + 1 = zI (q + 1) from zI_add q 1]
    rw [ed] at u1
    rcases cr_r lf M (M 84) (zI q) 0 H hP mi with e | ⟨q', hq', e⟩
    · rw [e] at u1 ⊢
      rw [if_neg (show ¬ (0 : Int32) ≤ -2 by decide)]
      exact ⟨υ, u1, hq.tr u2⟩
    · have e2 : (cr lf M (M 84) (zI q) 0 H P mi == -2) = false := by rw [e]; simpa using zI_m2 (by omega)
      rw [e2] at u1
      rw [e, if_pos (zI_ge' (by omega))]
      exact ⟨υ, u1, hq.tr u2⟩
theorem fol_k (t : Nat → Nat → Int32 → Nat) (lim : Int32) (van : Nat) (mi : Int32) {q : Nat} (hq : q < 12) : ∀ (n p s : Nat), (fol t H lim van mi n p s (zI q)).2 = zI q
  | 0, p, s => rfl
  | n + 1, p, s => by
    unfold fol
    rw [if_neg (zI_m2 (by omega))]
    exact fol_k t lim van mi hq n (p + 1) _
theorem cr_neg (hH : ∀ p, H p < 4) (hp : 0 < P) (hP : P ≤ 12) {men scr mg : Int32} (hl : (M 85 - 5 * scr).toInt < 0) (mi : Int32) : ¬ cr lf M men scr mg H P mi = -2 := by
  obtain ⟨P', rfl⟩ : ∃ P', P = P' + 1 := ⟨P - 1, by omega⟩
  unfold cr folW
  rw [show P' + 1 - 0 = P' + 1 from rfl, fol, if_pos rfl, if_neg (fun z => by
    have := Int32.le_iff_toInt_le.mp z
    have h1 : tSt (sN lf M men scr mg) H 0 mi 0 ≤ 100 := by
      unfold tSt
      have := (sN_e lf M men scr mg 0 (H 0) (mi + zI 0 - zI 0)).2
      rw [if_pos (Or.inl rfl)]
      omega
    rw [zI_toInt (by omega)] at this
    omega), fol_k (H := H) _ _ _ _ (by omega)]
  exact zI_m2 (by omega)
theorem dsc_e (ok : Nat → Bool) : ∀ (n m : Nat), m ≤ n → (∀ k, m ≤ k → k < n → ok k = false) → dsc ok n = dsc ok m
  | 0, m, h, hk => by rw [show m = 0 by omega]
  | n + 1, m, h, hk => by
    by_cases e : m = n + 1
    · rw [e]
    · show cond (ok n) (zI n) (dsc ok n) = _
      rw [hk n (by omega) (by omega)]
      exact dsc_e ok n m (by omega) (fun k a b => hk k a (by omega))
end FOR3
theorem FrQ.bk {i : Nat} {σ τ : SS} (h : FrQ i σ τ) : FrM σ (sA τ 1 0 i (σ.2.1 1 0 i)) := by
  refine ⟨fun j k a b c _ _ => h.1 0 j k (by omega), fun t a _ _ _ => ?_, fun t _ => by rw [sA_3, h.2.2.1]⟩
  by_cases e : t = 1
  · subst e
    funext j c
    by_cases g : j = 0 ∧ c = i
    · obtain ⟨rfl, rfl⟩ := g
      rw [sA_g, if_pos rfl]
    · refine Eq.trans (if_neg (fun e => g ⟨e.2.1, e.2.2⟩)) (h.2.2.2 j c g)
  · rw [sA_o e]
    exact h.2.1 t e a
theorem FrG.bk {σ τ : SS} (h : FrG σ τ) (h7 : σ.1 0 0 7 = 0) : FrM σ (sI τ 0 0 7 0) := by
  refine ⟨fun j k a b c _ _ => ?_, fun t a _ _ _ => h.2.1 t a, fun t _ => by rw [sI_2, h.2.2]⟩
  by_cases g : j = 0 ∧ k = 7
  · obtain ⟨rfl, rfl⟩ := g
    rw [sI_g, if_pos rfl, h7]
  · refine Eq.trans (if_neg (fun e => g ⟨e.2.1, e.2.2⟩)) (h.1 0 j k (by omega))
theorem InvK.bc {P Bn d : Nat} {lf : Option FN} {σC σM : SS} (h : InvK P Bn lf σC σM) {H : Nat → Nat} (hh : ∀ p, p < 12 → m_X6_heldAt d (zI p) σC = zI (H p)) : BC lf (σM.2.1 1 0) P H d σC := ⟨h.nm, h.lc, h.1.2.1, hh⟩
theorem P_menFor {σC σM : SS} (h : Inv σC σM) (a b : Int32) : ∃ r τC τM, m_X10_menFor a b σC = some (r, τC) ∧ m_X11_menFor a b σM = some (r, τM) ∧ Inv τC τM := by
  obtain ⟨P, Bn, lf, hK⟩ := h
  refine hd2 hK a b (fun d => Option.bind (m_X9_fewestMen d b σC) (fun q4 => some (q4.1, q4.2))) (L_X11_menFor_48 FU a b (σM.2.1 1 0 (84 : Int32).toNatClampNeg) (-2) 6 σM) (fun d n f hd ea hp b0 b1 hr => ?_)
  obtain ⟨hn, l1, l2, rfl, hb, u, q1, q2⟩ := hr
  obtain ⟨τC, t1, t2⟩ := menC (hT_lt n (σC.2.2 29 d)) hp b 6 FU 1 σC (by omega) (by unfold FU; omega) (by omega) (hK.bc q1)
  have hw : WM lf (setM (σM.2.1 1 0) 84 (σM.2.1 1 0 84)) P 0 (hT n (σC.2.2 29 d)) d σM := by
    rw [setM_id]
    exact ⟨hK.km, hK.1.2.2.1, q2⟩
  obtain ⟨τM, m1, m2⟩ := menM (hT_lt n (σC.2.2 29 d)) hp b (σM.2.1 1 0 84) 6 FU (-2) _ σM (by omega) (by unfold FU; omega) hw
  refine ⟨_, τC, _, ?_, by rw [ea]; exact m1, P, Bn, lf, hK.fr t2 m2.bk⟩
  show Option.bind (m_X9_fewestMen d b σC) _ = _
  have t1 : m_X9_fewestMen d b σC = _ := t1
  rw [t1]
  rfl
theorem P_windFrom {σC σM : SS} (h : Inv σC σM) (a b : Int32) : ∃ r τC τM, m_X10_windFrom a b σC = some (r, τC) ∧ m_X11_windFrom a b σM = some (r, τM) ∧ Inv τC τM := by
  obtain ⟨P, Bn, lf, hK⟩ := h
  refine hd2 hK a b (fun d => Option.bind (m_X9_leastMoreGust d b σC) (fun q4 => some (q4.1, q4.2))) (L_X11_windFrom_39 FU a b (-2) 30 σM) (fun d n f hd ea hp b0 b1 hr => ?_)
  obtain ⟨hn, l1, l2, rfl, hb, u, q1, q2⟩ := hr
  obtain ⟨τC, t1, t2⟩ := gusC2 (hT_lt n (σC.2.2 29 d)) hp b 31 FU 0 σC (by omega) (by unfold FU; omega) (hK.bc q1)
  obtain ⟨τM, m1, m2⟩ := winMd (M := σM.2.1 1 0) (hT_lt n (σC.2.2 29 d)) hp b 31 FU (-2) 0 σM (by omega) (by unfold FU; omega) ⟨hK.km, hK.1.2.2.1, q2⟩
  refine ⟨_, τC, _, ?_, by rw [ea]; exact m1, P, Bn, lf, hK.fr t2 (m2.bk hK.1.2.2.2)⟩
  show Option.bind (m_X9_leastMoreGust d b σC) _ = _
  have t1 : m_X9_leastMoreGust d b σC = _ := t1
  rw [t1]
  rfl
theorem P_scratchFor {σC σM : SS} (h : Inv σC σM) (a b : Int32) : ∃ r τC τM, m_X10_scratchFor a b σC = some (r, τC) ∧ m_X11_scratchFor a b σM = some (r, τM) ∧ Inv τC τM := by
  obtain ⟨P, Bn, lf, hK⟩ := h
  refine hd2 hK a b (fun d => Option.bind (m_X9_greatestScratch d b σC) (fun q4 => some (q4.1, q4.2))) (L_X11_scratchFor_47 FU a b (σM.2.1 1 0 (86 : Int32).toNatClampNeg) (-2) 0 σM) (fun d n f hd ea hp b0 b1 hr => ?_)
  obtain ⟨hn, l1, l2, rfl, hb, u, q1, q2⟩ := hr
  have hP := hK.1.1
  have e8 : m_X8_number 0 8 σC = σM.2.1 1 0 85 := (numG (k := 1) (by omega) 0 σC).trans (hK.nm.2.1 1 (by omega))
  have ok8 := hK.nm.2.2.2.1 1 (by omega)
  obtain ⟨S, hS, eS⟩ := rng (x := σM.2.1 1 0 85) (b := 999) ok8.1 ok8.2
  have ed : zI S / 5 = zI (S / 5) := (Int32.ofNat_div (a := S) (b := 5) (by omega) (by omega)).symm
  have em : (if zI (S / 5) < 99 then zI (S / 5) else 99) = zI (min (S / 5) 99 + 1) - 1 := by
    rw [i1, zI_sub (by omega), show min (S / 5) 99 + 1 - 1 = min (S / 5) 99 by omega]
    by_cases c : S / 5 < 99
    · rw [if_pos (by rw [i99, zI_lt (by omega) (by omega)]; exact c), show min (S / 5) 99 = S / 5 by omega]
    · rw [if_neg (by rw [i99, zI_lt (by omega) (by omega)]; exact c), show min (S / 5) 99 = 99 by omega]
      rfl
  obtain ⟨τC, t1, t2⟩ := scrC (hT_lt n (σC.2.2 29 d)) hp b (min (S / 5) 99 + 1) FU σC (by unfold FU; omega) (by omega) (hK.bc q1)
  have hw : WM lf (setM (σM.2.1 1 0) 86 (σM.2.1 1 0 86)) P 0 (hT n (σC.2.2 29 d)) d σM := by
    rw [setM_id]
    exact ⟨hK.km, hK.1.2.2.1, q2⟩
  obtain ⟨τM, m1, m2⟩ := scrM (hT_lt n (σC.2.2 29 d)) hp b (σM.2.1 1 0 86) 100 FU 0 _ σM (by omega) (by unfold FU; omega) hw
  have eD := dsc_e (fun k => cr lf (σM.2.1 1 0) (σM.2.1 1 0 84) (zI k) 0 (hT n (σC.2.2 29 d)) P b == -2) 100 (min (S / 5) 99 + 1) (by omega) (fun k h1 h2 => by
    have hl : ((σM.2.1 1 0) 85 - 5 * zI k).toInt < 0 := by
      rw [eS, i5, zI_mul, zsub (by omega) (by omega)]
      omega
    have := cr_neg (lf := lf) (men := σM.2.1 1 0 84) (mg := 0) (hT_lt n (σC.2.2 29 d)) hp hP hl b
    simpa using this)
  rw [eD] at m1
  refine ⟨_, τC, _, ?_, by rw [ea]; exact m1, P, Bn, lf, hK.fr t2 m2.bk⟩
  show Option.bind (m_X9_greatestScratch d b σC) _ = _
  unfold m_X9_greatestScratch
  rw [e8, eS, ed, em, t1]
  rfl
