/-! walks in thought: how it is held by a row; a walk, place by place -/
def hT (n : Nat) (f : Nat → Int64) (p : Nat) : Nat := if p < n ∧ 0 ≤ (f p).toInt ∧ (f p).toInt ≤ 3 then (f p).toInt.toNat else 0
theorem hT_lt (n : Nat) (f : Nat → Int64) (p : Nat) : hT n f p < 4 := by
  unfold hT
  by_cases c : p < n ∧ 0 ≤ (f p).toInt ∧ (f p).toInt ≤ 3
  · rw [if_pos c]; omega
  · rw [if_neg c]; omega
theorem hldC {d n : Nat} {σ : SS} (hl : σ.1 28 d 2 = zI n) (hn : n ≤ 60) (hb : ∀ i, i < 60 → byteV (σ.2.2 29 d i)) {p : Nat} (hp : p < 1000) : m_X6_heldAt d (zI p) σ = zI (hT n (σ.2.2 29 d) p) := by
  have ec : m_X6_cell d (zI p) σ = if p < n then σ.2.2 29 d p else 0 := by
    unfold m_X6_cell
    rw [hl, if_neg (zI_ge (by omega))]
    by_cases c : p < n
    · rw [if_neg (by rw [zI_le (by omega) (by omega)]; omega), if_neg (by rw [i60, zI_le (by omega) (by omega)]; omega), zI_cl (by omega), if_pos c]
    · rw [if_pos (by rw [zI_le (by omega) (by omega)]; omega), if_neg c]
  have eh : ∀ v : Int32, m_X10_isHold v = 0 ↔ ¬ (0 ≤ v.toInt ∧ v.toInt ≤ 3) := fun v => wC (x := v) (a := 0) (b := 3)
  unfold m_X6_heldAt hT
  rw [ec]
  by_cases c : p < n
  · rw [if_pos c]
    have hv := byte32 (hb p (by omega))
    by_cases g : 0 ≤ (σ.2.2 29 d p).toInt ∧ (σ.2.2 29 d p).toInt ≤ 3
    · rw [if_neg (fun z => (eh _).mp z (by rw [hv]; exact g)), if_pos ⟨c, g⟩, ← Int32.toInt_inj, hv, zI_toInt (by omega)]
      omega
    · rw [if_pos ((eh _).mpr (by rw [hv]; exact g)), if_neg (fun z => g z.2)]
      rfl
  · rw [if_neg c, if_neg (show ¬ m_X10_isHold (Int64.toInt32 0) = 0 by decide), if_neg (fun z => c z.1)]
    rfl
theorem hldM {d n : Nat} {σ : SS} {f : Nat → Int64} (hd : d < 6) (hl : σ.2.1 15 0 d = zI n) (hn : n ≤ 60) (hf : ∀ i, i < 60 → σ.2.2 16 0 (60 * d + i) = f i) {p : Nat} (hp : p < 1000) : m_X11_heldBy (zI d) (zI p) σ = some (zI (hT n f p)) := by
  have eh : ∀ v : Int64, m_X11_isHeld v = 0 ↔ ¬ (0 ≤ v.toInt ∧ v.toInt ≤ 3) := fun v => wM (x := v) (a := 0) (b := 3)
  unfold m_X11_heldBy hT
  rw [if_neg (zI_in (by omega) hd), zI_cl (by omega), hl]
  by_cases c : p < n
  · rw [if_neg (by rw [zI_le (by omega) (by omega)]; omega), i60, zI_mul, zI_add, if_neg (zI_in (by omega) (by omega)), zI_cl (by omega), hf p (by omega)]
    by_cases g : 0 ≤ (f p).toInt ∧ (f p).toInt ≤ 3
    · rw [if_neg (fun z => (eh _).mp z g), if_pos ⟨c, g⟩]
      congr 1
      rw [← Int32.toInt_inj, Int64.toInt_toInt32, zI_toInt (by omega), Int.bmod_eq_of_le (by omega) (by omega)]
      omega
    · rw [if_pos ((eh _).mpr g), if_neg (fun z => g z.2)]
      rfl
  · rw [if_pos (by rw [zI_le (by omega) (by omega)]; omega), if_neg (show ¬ m_X11_isHeld 0 = 0 by decide), if_neg (fun z => c z.1)]
    rfl
def sN (lf : Option FN) (M : Nat → Int32) (men scr mg : Int32) (p k : Nat) (m : Int32) : Nat := (sT lf M men scr mg p (zI k) m).toNatClampNeg
theorem sN_e (lf : Option FN) (M : Nat → Int32) (men scr mg : Int32) (p k : Nat) (m : Int32) : sT lf M men scr mg p (zI k) m = zI (sN lf M men scr mg p k m) ∧ sN lf M men scr mg p k m ≤ 99 := by
  obtain ⟨n, hn, e⟩ := sT_r (lf := lf) (M := M) (men := men) (scr := scr) (mg := mg) p (zI k) m
  unfold sN
  rw [e, zI_cl (by omega)]
  exact ⟨rfl, hn⟩
def tSt (t : Nat → Nat → Int32 → Nat) (H : Nat → Nat) (van : Nat) (mi : Int32) (p : Nat) : Nat := t p (H p) (mi + zI p - zI van) + (if p = van ∨ H p = H (p - 1) then 0 else 1)
def fol (t : Nat → Nat → Int32 → Nat) (H : Nat → Nat) (lim : Int32) (van : Nat) (mi : Int32) : Nat → Nat → Nat → Int32 → Nat × Int32
  | 0, _, s, c => (s, c)
  | n + 1, p, s, c => fol t H lim van mi n (p + 1) (s + tSt t H van mi p) (if c = -2 then (if zI (s + tSt t H van mi p) ≤ lim then -2 else zI p) else c)
theorem fol_b (t : Nat → Nat → Int32 → Nat) (H : Nat → Nat) (lim : Int32) (van : Nat) (mi : Int32) (ht : ∀ p k m, t p k m ≤ 99) : ∀ (n p s : Nat) (c : Int32), p + n ≤ 12 → (c = -2 ∨ ∃ q, q < 12 ∧ c = zI q) → (fol t H lim van mi n p s c).1 ≤ s + 100 * n ∧ ((fol t H lim van mi n p s c).2 = -2 ∨ ∃ q, q < 12 ∧ (fol t H lim van mi n p s c).2 = zI q)
  | 0, p, s, c, hp, hc => ⟨by show s ≤ _; omega, hc⟩
  | n + 1, p, s, c, hp, hc => by
    have h1 : tSt t H van mi p ≤ 100 := by
      unfold tSt
      have := ht p (H p) (mi + zI p - zI van)
      by_cases d : p = van ∨ H p = H (p - 1)
      · rw [if_pos d]; omega
      · rw [if_neg d]; omega
    have := fol_b t H lim van mi ht n (p + 1) (s + tSt t H van mi p) (if c = -2 then (if zI (s + tSt t H van mi p) ≤ lim then -2 else zI p) else c) (by omega) (by
      by_cases d : c = -2
      · rw [if_pos d]
        by_cases e : zI (s + tSt t H van mi p) ≤ lim
        · rw [if_pos e]; exact Or.inl rfl
        · rw [if_neg e]; exact Or.inr ⟨p, by omega, rfl⟩
      · rw [if_neg d]; exact hc)
    unfold fol
    exact ⟨by omega, this.2⟩
section FOL
variable {lf : Option FN} {M : Nat → Int32} {P : Nat} {men scr mg lim : Int32} {H : Nat → Nat} {d : Nat}
/-- the class's frame of a walk -/
def FrW (σ τ : SS) : Prop := (∀ t j k, t ≠ 17 → ¬ (t = 7 ∧ k = 11) → τ.1 t j k = σ.1 t j k) ∧ (∀ t, t ≠ 13 → t ≠ 15 → t ≠ 16 → τ.2.1 t = σ.2.1 t) ∧ τ.2.2 = σ.2.2
theorem FrW.rf (σ : SS) : FrW σ σ := ⟨fun _ _ _ _ _ => rfl, fun _ _ _ _ => rfl, rfl⟩
theorem FrW.tr {σ τ υ : SS} (h : FrW σ τ) (g : FrW τ υ) : FrW σ υ := ⟨fun t j k a b => (g.1 t j k a b).trans (h.1 t j k a b), fun t a b c => (g.2.1 t a b c).trans (h.2.1 t a b c), g.2.2.trans h.2.2⟩
theorem FrW.fc {σ τ : SS} (h : FrW σ τ) : FrC σ τ := ⟨fun t j k a b c d => h.1 t j k b (by omega), fun t a b c d e f g => h.2.1 t c d e, h.2.2⟩
theorem FrS.fw {σ τ : SS} (h : FrS σ τ) : FrW σ τ := ⟨fun t j k _ a => h.1 t j k a, h.2.1, h.2.2⟩
theorem FrW.s17 (σ : SS) (k : Nat) (v : Int32) : FrW σ (sI σ 17 0 k v) := ⟨fun t j c a _ => if_neg (fun e => a e.1), fun _ _ _ _ => rfl, rfl⟩
/-- what a walk in the class goes by -/
def WC (lf : Option FN) (M : Nat → Int32) (P : Nat) (men scr mg lim : Int32) (H : Nat → Nat) (d : Nat) (σ : SS) : Prop := KC lf M P men scr mg σ ∧ σ.1 14 0 7 = lim ∧ σ.1 1 0 1 = zI P ∧ (∀ p, p < 12 → m_X6_heldAt d (zI p) σ = zI (H p))
theorem held_c {σ τ : SS} (e : τ.1 28 = σ.1 28) (f : τ.2.2 = σ.2.2) (d : Nat) (x : Int32) : m_X6_heldAt d x τ = m_X6_heldAt d x σ := by
  unfold m_X6_heldAt m_X6_cell
  rw [e, f]
theorem heldB_c {σ τ : SS} (e : τ.2.1 15 = σ.2.1 15) (f : τ.2.2 16 = σ.2.2 16) (d x : Int32) : m_X11_heldBy d x τ = m_X11_heldBy d x σ := by
  unfold m_X11_heldBy
  rw [e, f]
theorem WC.fr {σ τ : SS} (h : WC lf M P men scr mg lim H d σ) (f : FrW σ τ) (hk : KC lf M P men scr mg τ) : WC lf M P men scr mg lim H d τ := by
  obtain ⟨h1, h2, h3, h4⟩ := h
  exact ⟨hk, (f.1 14 0 7 (by decide) (by omega)).trans h2, (f.1 1 0 1 (by decide) (by omega)).trans h3, fun p hp => by rw [held_c (funext fun j => funext fun k => f.1 28 j k (by decide) (by omega)) f.2.2]; exact h4 p hp⟩
theorem KC.s17 {σ : SS} (h : KC lf M P men scr mg σ) (k : Nat) (v : Int32) : KC lf M P men scr mg (sI σ 17 0 k v) := by
  obtain ⟨h1, h2, h3, h4, h5, h6, h7⟩ := h
  exact ⟨h1.c rfl, h2.c rfl rfl rfl, h3, h4, h5, h6, h7⟩
theorem WC.s17 {σ : SS} (h : WC lf M P men scr mg lim H d σ) (k : Nat) (v : Int32) : WC lf M P men scr mg lim H d (sI σ 17 0 k v) := h.fr (FrW.s17 σ k v) (h.1.s17 k v)
theorem zI_m2 {q : Nat} (hq : q < 1000) : ¬ zI q = -2 := fun e => by
  have := congrArg Int32.toInt e
  rw [zI_toInt (by omega), show (-2 : Int32).toInt = -2 from rfl] at this
  omega
theorem folC (hH : ∀ p, H p < 4) {van : Nat} {mi : Int32} : ∀ (n fu p s b : Nat) (σ : SS), p + n = P → n < fu → s ≤ 100 * p → WC lf M P men scr mg lim H d σ → (p ≤ van → b = H p) → (van < p → b = H (p - 1)) → van ≤ p → ∃ τ, L_X9_follow_19 d fu (zI van) mi (zI s) (zI b) (zI p) σ = some τ ∧ τ.1 17 0 4 = (fol (sN lf M men scr mg) H lim van mi n p s (σ.1 17 0 4)).2 ∧ τ.1 17 0 5 = zI (fol (sN lf M men scr mg) H lim van mi n p s (σ.1 17 0 4)).1 ∧ WC lf M P men scr mg lim H d τ ∧ FrW σ τ
  | n, 0, p, s, b, σ, h0, hn, hs, h, hb1, hb2, hv => absurd hn (by omega)
  | 0, fu + 1, p, s, b, σ, h0, hn, hs, h, hb1, hb2, hv => by
    refine ⟨sI σ 17 0 5 (zI s), ?_, rfl, rfl, h.s17 _ _, FrW.s17 _ _ _⟩
    have hP := h.1.1.2.2.2.2
    show (if _ then _ else _) = _
    rw [h.2.2.1, if_pos (by rw [zI_le (by omega) (by omega)]; omega)]
  | n + 1, fu + 1, p, s, b, σ, h0, hn, hs, h, hb1, hb2, hv => by
    have hP := h.1.1.2.2.2.2
    obtain ⟨τ, t1, t2, t3⟩ := inM h.1 (by omega : p < P) (hH p) (mi + zI p - zI van)
    obtain ⟨s1, s2⟩ := sN_e lf M men scr mg p (H p) (mi + zI p - zI van)
    have hτ := h.fr t3.fw t2
    have e17 : τ.1 17 0 4 = σ.1 17 0 4 := t3.1 17 0 4 (by omega)
    have ht : (if zI (H p) = zI b then (0 : Int32) else 1) = zI (if p = van ∨ H p = H (p - 1) then 0 else 1) := by
      by_cases c : p = van
      · rw [if_pos (Or.inl c), hb1 (by omega), if_pos rfl]
        rfl
      · rw [hb2 (by omega)]
        by_cases e : H p = H (p - 1)
        · rw [if_pos (by rw [e]), if_pos (Or.inr e)]
          rfl
        · have := hH p
          have := hH (p - 1)
          rw [if_neg (by rw [zI_eq (by omega) (by omega)]; exact e), if_neg (by omega)]
          rfl
    have es : ∀ u : Int32, u = (if zI (H p) = zI b then (0 : Int32) else 1) → zI s + (zI (sN lf M men scr mg p (H p) (mi + zI p - zI van)) + u) = zI (s + tSt (sN lf M men scr mg) H van mi p) := fun u hu => by
      rw [hu, ht, zI_add, zI_add]
      rfl
    have hts : tSt (sN lf M men scr mg) H van mi p ≤ 100 := by
      unfold tSt
      by_cases c : p = van ∨ H p = H (p - 1)
      · rw [if_pos c]; omega
      · rw [if_neg c]; omega
    have go : ∀ υ : SS, WC lf M P men scr mg lim H d υ → FrW σ υ → υ.1 17 0 4 = (if σ.1 17 0 4 = -2 then (if zI (s + tSt (sN lf M men scr mg) H van mi p) ≤ lim then -2 else zI p) else σ.1 17 0 4) → ∃ τ, L_X9_follow_19 d fu (zI van) mi (zI (s + tSt (sN lf M men scr mg) H van mi p)) (zI (H p)) (zI (p + 1)) υ = some τ ∧ τ.1 17 0 4 = (fol (sN lf M men scr mg) H lim van mi (n + 1) p s (σ.1 17 0 4)).2 ∧ τ.1 17 0 5 = zI (fol (sN lf M men scr mg) H lim van mi (n + 1) p s (σ.1 17 0 4)).1 ∧ WC lf M P men scr mg lim H d τ ∧ FrW σ τ := fun υ hυ fυ eυ => by
      obtain ⟨φ, f1, f2, f3, f4, f5⟩ := folC hH (van := van) (mi := mi) n fu (p + 1) (s + tSt (sN lf M men scr mg) H van mi p) (H p) υ (by omega) (by omega) (by omega) hυ (fun z => absurd z (by omega)) (fun _ => rfl) (by omega)
      rw [eυ] at f2 f3
      exact ⟨φ, f1, f2, f3, f4, fυ.tr f5⟩
    have itm : ∀ x : Int32, m_X7_isTooMuch x τ = if x ≤ lim then 0 else 1 := fun x => by
      unfold m_X7_isTooMuch
      rw [hτ.2.1]
    rw [L_X9_follow_19, h.2.2.1, if_neg (by rw [zI_le (by omega) (by omega)]; omega), h.2.2.2 p (by omega), t1]
    simp only [Option.bind_some]
    rw [s1, e17, show zI p + 1 = zI (p + 1) from zI_add p 1]
    by_cases c : zI (H p) = zI b
    · rw [if_pos c] at es
      rw [if_pos c, es 0 rfl, itm]
      by_cases e : σ.1 17 0 4 = -2
      · rw [if_pos e]
        by_cases g : zI (s + tSt (sN lf M men scr mg) H van mi p) ≤ lim
        · rw [if_pos g, if_pos (show (0 : Int32) = 0 from rfl)]
          exact go τ hτ t3.fw (by rw [e17, if_pos e, if_pos g, e])
        · rw [if_neg g, if_neg (show ¬ (1 : Int32) = 0 by decide)]
          exact go _ (hτ.s17 _ _) (t3.fw.tr (FrW.s17 _ _ _)) (by rw [if_pos e, if_neg g]; rfl)
      · rw [if_neg e]
        exact go τ hτ t3.fw (by rw [e17, if_neg e])
    · rw [if_neg c] at es
      rw [if_neg c, es 1 rfl, itm]
      by_cases e : σ.1 17 0 4 = -2
      · rw [if_pos e]
        by_cases g : zI (s + tSt (sN lf M men scr mg) H van mi p) ≤ lim
        · rw [if_pos g, if_pos (show (0 : Int32) = 0 from rfl)]
          exact go τ hτ t3.fw (by rw [e17, if_pos e, if_pos g, e])
        · rw [if_neg g, if_neg (show ¬ (1 : Int32) = 0 by decide)]
          exact go _ (hτ.s17 _ _) (t3.fw.tr (FrW.s17 _ _ _)) (by rw [if_pos e, if_neg g]; rfl)
      · rw [if_neg e]
        exact go τ hτ t3.fw (by rw [e17, if_neg e])
def folW (t : Nat → Nat → Int32 → Nat) (H : Nat → Nat) (lim : Int32) (P van : Nat) (mi : Int32) : Nat × Int32 := fol t H lim van mi (P - van) van 0 (-2)
theorem followC (hH : ∀ p, H p < 4) {van : Nat} (hv : van < P) {mi : Int32} {σ : SS} (h : WC lf M P men scr mg lim H d σ) : ∃ τ, m_X9_follow d (zI van) mi σ = some τ ∧ τ.1 17 0 4 = (folW (sN lf M men scr mg) H lim P van mi).2 ∧ τ.1 17 0 5 = zI (folW (sN lf M men scr mg) H lim P van mi).1 ∧ WC lf M P men scr mg lim H d τ ∧ FrW σ τ := by
  have hP := h.1.1.2.2.2.2
  obtain ⟨τ, t1, t2, t3, t4, t5⟩ := folC hH (van := van) (mi := mi) (P - van) FU van 0 (H van) _ (by omega) (by unfold FU; omega) (by omega) (h.s17 4 (-2)) (fun _ => rfl) (fun z => absurd z (by omega)) (Nat.le_refl _)
  refine ⟨τ, ?_, t2, t3, t4, (FrW.s17 _ _ _).tr t5⟩
  unfold m_X9_follow
  rw [h.2.2.2 van (by omega)]
  exact t1
/-- the model's -/
def FrV (σ τ : SS) : Prop := (∀ t j k, ¬ (t = 0 ∧ ((12 ≤ k ∧ k ≤ 16) ∨ k = 18 ∨ k = 19)) → τ.1 t j k = σ.1 t j k) ∧ (∀ t, t ≠ 7 → τ.2.1 t = σ.2.1 t) ∧ τ.2.2 = σ.2.2
theorem FrV.rf (σ : SS) : FrV σ σ := ⟨fun _ _ _ _ => rfl, fun _ _ => rfl, rfl⟩
theorem FrV.tr {σ τ υ : SS} (h : FrV σ τ) (g : FrV τ υ) : FrV σ υ := ⟨fun t j k a => (g.1 t j k a).trans (h.1 t j k a), fun t a => (g.2.1 t a).trans (h.2.1 t a), g.2.2.trans h.2.2⟩
theorem FrV.fm {σ τ : SS} (h : FrV σ τ) : FrM σ τ := ⟨fun j k a b c _ _ => h.1 0 j k (by omega), fun t a _ _ _ => h.2.1 t a, fun t _ => by rw [h.2.2]⟩
theorem FrN.fv {σ τ : SS} (h : FrN σ τ) : FrV σ τ := ⟨fun t j k a => h.1 t j k (by omega), h.2.1, h.2.2⟩
def WM (lf : Option FN) (M : Nat → Int32) (P : Nat) (mg : Int32) (H : Nat → Nat) (d : Nat) (σ : SS) : Prop := KM lf M P mg σ ∧ σ.1 0 0 6 = zI P ∧ (∀ p, p < 12 → m_X11_heldBy (zI d) (zI p) σ = some (zI (H p)))
theorem WM.fr {σ τ : SS} (h : WM lf M P mg H d σ) (f : FrV σ τ) : WM lf M P mg H d τ := by
  obtain ⟨⟨h1, h2, h3, h4⟩, h5, h6⟩ := h
  exact ⟨⟨by rw [f.2.1 1 (by decide)]; exact h1, h2.c (f.1 0 0 11 (by omega)) (by rw [f.2.1 6 (by decide)]), (f.1 0 0 7 (by omega)).trans h3, h4⟩, (f.1 0 0 6 (by omega)).trans h5, fun p hp => by rw [heldB_c (f.2.1 15 (by decide)) (by rw [f.2.2])]; exact h6 p hp⟩
theorem brs {σ : SS} (h : σ.2.1 1 0 = M) : m_X11_bears σ = M 85 - 5 * M 86 := by
  unfold m_X11_bears
  rw [h]
  rfl
def wv (σ : SS) (a b : Int32) : SS := sI (sI σ 0 0 18 a) 0 0 19 b
theorem FrV.wv (σ : SS) (a b : Int32) : FrV σ (wv σ a b) := ⟨fun t j k hk => by
  show (if _ then _ else (if _ then _ else _)) = _
  rw [if_neg (by omega), if_neg (by omega)], fun _ _ => rfl, rfl⟩
theorem folM (hH : ∀ p, H p < 4) {van : Nat} {mi : Int32} : ∀ (n fu p s : Nat) (σ : SS), p + n = P → n < fu → s ≤ 100 * p → WM lf M P mg H d σ → (σ.1 0 0 18 = -2 ∨ ∃ q, q < 12 ∧ σ.1 0 0 18 = zI q) → σ.1 0 0 19 = zI s → van ≤ p → ∃ τ, L_X11_walks_17 fu (zI d) (zI van) mi (zI s) (zI p) σ = some τ ∧ τ.1 0 0 18 = (fol (sN lf M (M 84) (M 86) mg) H (M 85 - 5 * M 86) van mi n p s (σ.1 0 0 18)).2 ∧ τ.1 0 0 19 = zI (fol (sN lf M (M 84) (M 86) mg) H (M 85 - 5 * M 86) van mi n p s (σ.1 0 0 18)).1 ∧ FrV σ τ
  | n, 0, p, s, σ, h0, hn, hs, h, hc, h19, hv => absurd hn (by omega)
  | 0, fu + 1, p, s, σ, h0, hn, hs, h, hc, h19, hv => by
    have hP := h.1.2.2.2.2.2
    refine ⟨σ, ?_, rfl, h19, FrV.rf σ⟩
    show (if _ then _ else _) = _
    rw [h.2.1, if_pos (by rw [zI_le (by omega) (by omega)]; omega)]
  | n + 1, fu + 1, p, s, σ, h0, hn, hs, h, hc, h19, hv => by
    have hP := h.1.2.2.2.2.2
    obtain ⟨τ, t1, t3⟩ := stM h.1 (by omega : p < P) (zI (H p)) (mi + zI p - zI van)
    obtain ⟨s1, s2⟩ := sN_e lf M (M 84) (M 86) mg p (H p) (mi + zI p - zI van)
    have hτ := h.fr t3.fv
    have e18 : τ.1 0 0 18 = σ.1 0 0 18 := t3.1 0 0 18 (by omega)
    have c18 : (0 : Int32) ≤ σ.1 0 0 18 ↔ ¬ σ.1 0 0 18 = -2 := by
      rcases hc with e | ⟨q, hq, e⟩
      · rw [e]; decide
      · rw [e]; exact ⟨fun _ => zI_m2 (by omega), fun _ => zI_ge' (by omega)⟩
    have eb : ∀ a : Int32, m_X11_bears τ = M 85 - 5 * M 86 := fun _ => brs hτ.1.1
    have hts : tSt (sN lf M (M 84) (M 86) mg) H van mi p ≤ 100 := by
      unfold tSt
      by_cases c : p = van ∨ H p = H (p - 1)
      · rw [if_pos c]; omega
      · rw [if_neg c]; omega
    have go : ∀ a : Int32, a = (if σ.1 0 0 18 = -2 then (if zI (s + tSt (sN lf M (M 84) (M 86) mg) H van mi p) ≤ M 85 - 5 * M 86 then -2 else zI p) else σ.1 0 0 18) → ∃ υ, L_X11_walks_17 fu (zI d) (zI van) mi (zI (s + tSt (sN lf M (M 84) (M 86) mg) H van mi p)) (zI (p + 1)) (wv τ a (zI (s + tSt (sN lf M (M 84) (M 86) mg) H van mi p))) = some υ ∧ υ.1 0 0 18 = (fol (sN lf M (M 84) (M 86) mg) H (M 85 - 5 * M 86) van mi (n + 1) p s (σ.1 0 0 18)).2 ∧ υ.1 0 0 19 = zI (fol (sN lf M (M 84) (M 86) mg) H (M 85 - 5 * M 86) van mi (n + 1) p s (σ.1 0 0 18)).1 ∧ FrV σ υ := fun a ha => by
      have hf := t3.fv.tr (FrV.wv τ a (zI (s + tSt (sN lf M (M 84) (M 86) mg) H van mi p)))
      obtain ⟨φ, f1, f2, f3, f4⟩ := folM hH (van := van) (mi := mi) n fu (p + 1) (s + tSt (sN lf M (M 84) (M 86) mg) H van mi p) _ (by omega) (by omega) (by omega) (h.fr hf) (by
        show a = -2 ∨ ∃ q, q < 12 ∧ a = zI q
        rw [ha]
        by_cases e : σ.1 0 0 18 = -2
        · rw [if_pos e]
          by_cases g : zI (s + tSt (sN lf M (M 84) (M 86) mg) H van mi p) ≤ M 85 - 5 * M 86
          · rw [if_pos g]; exact Or.inl rfl
          · rw [if_neg g]; exact Or.inr ⟨p, by omega, rfl⟩
        · rw [if_neg e]; exact hc) rfl (by omega)
      rw [show (wv τ a (zI (s + tSt (sN lf M (M 84) (M 86) mg) H van mi p))).1 0 0 18 = a from rfl, ha] at f2 f3
      exact ⟨φ, f1, f2, f3, hf.tr f4⟩
    have fin : ∀ u : Int32, u = zI (if p = van ∨ H p = H (p - 1) then 0 else 1) → ∃ υ, (if (0 : Int32) ≤ σ.1 0 0 18 then L_X11_walks_17 fu (zI d) (zI van) mi (zI s + (zI (sN lf M (M 84) (M 86) mg p (H p) (mi + zI p - zI van)) + u)) (zI (p + 1)) (sI (sI τ 0 0 18 (σ.1 0 0 18)) 0 0 19 (zI s + (zI (sN lf M (M 84) (M 86) mg p (H p) (mi + zI p - zI van)) + u))) else if (zI s + (zI (sN lf M (M 84) (M 86) mg p (H p) (mi + zI p - zI van)) + u)) ≤ m_X11_bears τ then L_X11_walks_17 fu (zI d) (zI van) mi (zI s + (zI (sN lf M (M 84) (M 86) mg p (H p) (mi + zI p - zI van)) + u)) (zI (p + 1)) (sI (sI τ 0 0 18 (σ.1 0 0 18)) 0 0 19 (zI s + (zI (sN lf M (M 84) (M 86) mg p (H p) (mi + zI p - zI van)) + u))) else L_X11_walks_17 fu (zI d) (zI van) mi (zI s + (zI (sN lf M (M 84) (M 86) mg p (H p) (mi + zI p - zI van)) + u)) (zI (p + 1)) (sI (sI τ 0 0 18 (zI p)) 0 0 19 (zI s + (zI (sN lf M (M 84) (M 86) mg p (H p) (mi + zI p - zI van)) + u)))) = some υ ∧ υ.1 0 0 18 = (fol (sN lf M (M 84) (M 86) mg) H (M 85 - 5 * M 86) van mi (n + 1) p s (σ.1 0 0 18)).2 ∧ υ.1 0 0 19 = zI (fol (sN lf M (M 84) (M 86) mg) H (M 85 - 5 * M 86) van mi (n + 1) p s (σ.1 0 0 18)).1 ∧ FrV σ υ := fun u hu => by
      have es : zI s + (zI (sN lf M (M 84) (M 86) mg p (H p) (mi + zI p - zI van)) + u) = zI (s + tSt (sN lf M (M 84) (M 86) mg) H van mi p) := by
        rw [hu, zI_add, zI_add]
        rfl
      rw [es, eb 0]
      by_cases e : σ.1 0 0 18 = -2
      · rw [if_neg (fun z => c18.mp z e)]
        by_cases g : zI (s + tSt (sN lf M (M 84) (M 86) mg) H van mi p) ≤ M 85 - 5 * M 86
        · rw [if_pos g]
          exact go _ (by rw [if_pos e, if_pos g, e])
        · rw [if_neg g]
          exact go _ (by rw [if_pos e, if_neg g])
      · rw [if_pos (c18.mpr e)]
        exact go _ (by rw [if_neg e])
    rw [L_X11_walks_17, h.2.1, if_neg (by rw [zI_le (by omega) (by omega)]; omega), h.2.2 p (by omega)]
    simp only [Option.bind_some]
    rw [t1]
    simp only [Option.bind_some]
    rw [s1, e18, show zI p + 1 = zI (p + 1) from zI_add p 1]
    by_cases c : p = van
    · rw [if_pos (by rw [zI_le (by omega) (by omega)]; omega)]
      exact fin 0 (by rw [if_pos (Or.inl c)]; rfl)
    · rw [if_neg (by rw [zI_le (by omega) (by omega)]; omega), i1, zI_sub (by omega), hτ.2.2 (p - 1) (by omega)]
      simp only [Option.bind_some]
      have := hH p
      have := hH (p - 1)
      by_cases e : H p = H (p - 1)
      · rw [if_pos (by rw [e])]
        exact fin 0 (by rw [if_pos (Or.inr e)]; rfl)
      · rw [if_neg (by rw [zI_eq (by omega) (by omega)]; exact e)]
        exact fin 1 (by rw [if_neg (by omega)]; rfl)
theorem walksM (hH : ∀ p, H p < 4) {van : Nat} (hv : van < P) {mi : Int32} {σ : SS} (h : WM lf M P mg H d σ) : ∃ τ, m_X11_walks (zI d) (zI van) mi σ = some τ ∧ τ.1 0 0 18 = (folW (sN lf M (M 84) (M 86) mg) H (M 85 - 5 * M 86) P van mi).2 ∧ τ.1 0 0 19 = zI (folW (sN lf M (M 84) (M 86) mg) H (M 85 - 5 * M 86) P van mi).1 ∧ FrV σ τ := by
  have hP := h.1.2.2.2.2.2
  obtain ⟨τ, t1, t2, t3, t4⟩ := folM hH (van := van) (mi := mi) (P - van) FU van 0 (wv σ (-2) 0) (by omega) (by unfold FU; omega) (by omega) (h.fr (FrV.wv _ _ _)) (Or.inl rfl) rfl (Nat.le_refl _)
  exact ⟨τ, t1, t2, t3, (FrV.wv _ _ _).tr t4⟩
end FOL
