/-! the calls, one by one: class and model side by side -/
theorem sA_1 (σ : SS) (t j i : Nat) (v : Int32) : (sA σ t j i v).1 = σ.1 := rfl
theorem sA_3 (σ : SS) (t j i : Nat) (v : Int32) : (sA σ t j i v).2.2 = σ.2.2 := rfl
theorem sI_2 (σ : SS) (t j i : Nat) (v : Int32) : (sI σ t j i v).2 = σ.2 := rfl
theorem sL_1 (σ : SS) (t j i : Nat) (v : Int64) : (sL σ t j i v).1 = σ.1 := rfl
theorem sL_2 (σ : SS) (t j i : Nat) (v : Int64) : (sL σ t j i v).2.1 = σ.2.1 := rfl
theorem sA_g (σ : SS) (t j i : Nat) (v : Int32) (c : Nat) : (sA σ t j i v).2.1 t j c = if c = i then v else σ.2.1 t j c := by
  unfold sA
  by_cases h : c = i
  · rw [if_pos h]; exact if_pos ⟨rfl, rfl, h⟩
  · rw [if_neg h]; exact if_neg (fun e => h e.2.2)
theorem sA_o {σ : SS} {t j i : Nat} {v : Int32} {a : Nat} (h : a ≠ t) : (sA σ t j i v).2.1 a = σ.2.1 a := by
  funext b c
  exact if_neg (fun e => h e.1)
theorem sI_o {σ : SS} {t j i : Nat} {v : Int32} {a : Nat} (h : a ≠ t) : (sI σ t j i v).1 a = σ.1 a := by
  funext b c
  exact if_neg (fun e => h e.1)
theorem sI_g (σ : SS) (t j i : Nat) (v : Int32) (c : Nat) : (sI σ t j i v).1 t j c = if c = i then v else σ.1 t j c := by
  unfold sI
  by_cases h : c = i
  · rw [if_pos h]; exact if_pos ⟨rfl, rfl, h⟩
  · rw [if_neg h]; exact if_neg (fun e => h e.2.2)
theorem said {k : Nat} (hk : k < 11) (v : Int32) : m_X10_isAsSaid (zI k) v = 0 ↔ ¬ okV k v := by
  have : k = 0 ∨ k = 1 ∨ k = 2 ∨ k = 3 ∨ k = 4 ∨ k = 5 ∨ k = 6 ∨ k = 7 ∨ k = 8 ∨ k = 9 ∨ k = 10 := by omega
  rcases this with rfl | rfl | rfl | rfl | rfl | rfl | rfl | rfl | rfl | rfl | rfl
  · exact (wC (x := v) (a := 0) (b := 30))
  · exact (wC (x := v) (a := 0) (b := 30))
  · exact (wC (x := v) (a := 1) (b := 60))
  · exact (wC (x := v) (a := 0) (b := 60))
  · exact (wC (x := v) (a := 0) (b := 9))
  · exact (wC (x := v) (a := 0) (b := 12))
  · exact (wC (x := v) (a := 0) (b := 3))
  · exact (wC (x := v) (a := 1) (b := 6))
  · exact (wC (x := v) (a := 0) (b := 999))
  · exact (wC (x := v) (a := 0) (b := 99))
  · exact (wC (x := v) (a := 0) (b := 999))
theorem said0 (v : Int32) : m_X10_isAsSaid 0 v = 0 ↔ ¬ okV 0 v := said (k := 0) (by decide) v
theorem said4 (v : Int32) : m_X10_isAsSaid 4 v = 0 ↔ ¬ okV 4 v := said (k := 4) (by decide) v
theorem said5 (v : Int32) : m_X10_isAsSaid 5 v = 0 ↔ ¬ okV 5 v := said (k := 5) (by decide) v
theorem one1 {x y z : Int64} : m_X11_isOne x y z = 0 ↔ ¬ ((0 ≤ x.toInt ∧ x.toInt ≤ 30) ∧ (0 ≤ y.toInt ∧ y.toInt ≤ 9) ∧ (0 ≤ z.toInt ∧ z.toInt ≤ 12)) := by
  have h1 : m_X11_within x 0 30 = 0 ↔ ¬ (0 ≤ x.toInt ∧ x.toInt ≤ 30) := wM
  have h2 : m_X11_within y 0 9 = 0 ↔ ¬ (0 ≤ y.toInt ∧ y.toInt ≤ 9) := wM
  have h3 : m_X11_within z 0 12 = 0 ↔ ¬ (0 ≤ z.toInt ∧ z.toInt ≤ 12) := wM
  unfold m_X11_isOne
  by_cases c1 : m_X11_within x 0 30 = 0
  · rw [if_pos c1]
    have := h1.mp c1
    exact ⟨fun _ => fun e => this e.1, fun _ => rfl⟩
  · rw [if_neg c1]
    by_cases c2 : m_X11_within y 0 9 = 0
    · rw [if_pos c2]
      have := h2.mp c2
      exact ⟨fun _ => fun e => this e.2.1, fun _ => rfl⟩
    · rw [if_neg c2]
      by_cases c3 : m_X11_within z 0 12 = 0
      · rw [if_pos c3]
        have := h3.mp c3
        exact ⟨fun _ => fun e => this e.2.2, fun _ => rfl⟩
      · rw [if_neg c3]
        have d1 := fun q => c1 (h1.mpr q)
        have d2 := fun q => c2 (h2.mpr q)
        have d3 := fun q => c3 (h3.mpr q)
        exact ⟨fun e => absurd e (by decide), fun e => absurd ⟨Classical.not_not.mp d1, Classical.not_not.mp d2, Classical.not_not.mp d3⟩ e⟩
theorem wr8 {s : Nat} (hs : s < 88) (v : Int32) (σ : SS) : m_X8_write (zI s) v σ = sA σ 2 0 s v := by
  unfold m_X8_write
  rw [if_neg (zI_ge (by omega)), if_neg (by rw [i88, zI_le (by omega) (by omega)]; omega), zI_cl (by omega)]
def adC (P : Nat) (g k p : Int32) (σ : SS) : SS := sI (sA (sA (sA (sA (sA (sA (sA σ 2 0 (P * 7 + 0) g) 2 0 (P * 7 + 1) 0) 2 0 (P * 7 + 2) 10) 2 0 (P * 7 + 3) 2) 2 0 (P * 7 + 4) k) 2 0 (P * 7 + 5) p) 2 0 (P * 7 + 6) 3) 1 0 1 (zI (P + 1))
def adM (P : Nat) (g k p : Int32) (σ : SS) : SS := sI (sA (sA (sA (sA (sA (sA (sA σ 1 0 P g) 1 0 (12 + P) 0) 1 0 (24 + P) 10) 1 0 (36 + P) 2) 1 0 (48 + P) k) 1 0 (60 + P) p) 1 0 (72 + P) 3) 0 0 6 (zI (P + 1))
theorem add8 {P : Nat} {σ : SS} (hP : σ.1 1 0 1 = zI P) (h : P < 12) (g k p : Int32) : m_X8_add g k p σ = (zI P, adC P g k p σ) := by
  have w : ∀ (c : Nat) (v : Int32) (τ : SS), c < 7 → m_X8_write (zI P * 7 + zI c) v τ = sA τ 2 0 (P * 7 + c) v := fun c v τ hc => by
    rw [i7, zI_mul, zI_add]
    exact wr8 (by omega) v τ
  unfold m_X8_add
  rw [hP, if_pos (by rw [i12, zI_lt (by omega) (by omega)]; exact h)]
  simp only [bnT]
  rw [show m_X8_write (zI P * 7 + 0) g σ = _ from w 0 g σ (by omega)]
  rw [show ∀ τ, m_X8_write (zI P * 7 + 1) 0 τ = _ from fun τ => w 1 0 τ (by omega)]
  rw [show ∀ τ, m_X8_write (zI P * 7 + 2) 10 τ = _ from fun τ => w 2 10 τ (by omega)]
  rw [show ∀ τ, m_X8_write (zI P * 7 + 3) 2 τ = _ from fun τ => w 3 2 τ (by omega)]
  rw [show ∀ τ, m_X8_write (zI P * 7 + 4) k τ = _ from fun τ => w 4 k τ (by omega)]
  rw [show ∀ τ, m_X8_write (zI P * 7 + 5) p τ = _ from fun τ => w 5 p τ (by omega)]
  rw [show ∀ τ, m_X8_write (zI P * 7 + 6) 3 τ = _ from fun τ => w 6 3 τ (by omega)]
  simp only [sA_1, hP]
  rw [i1, zI_add]
  rfl
theorem add8F {σ : SS} (hP : σ.1 1 0 1 = zI 12) (g k p : Int32) : m_X8_add g k p σ = (-3, σ) := by
  unfold m_X8_add
  rw [hP, if_neg (by rw [i12]; exact Int32.lt_irrefl)]
theorem add11 {P : Nat} {σ : SS} (hP : σ.1 0 0 6 = zI P) (h : P < 12) (g k p : Int32) : m_X11_adds g k p σ = some (adM P g k p σ) := by
  unfold m_X11_adds
  rw [hP, i12, i24, i36, i48, i60, i72]
  simp only [zI_add]
  rw [if_neg (zI_in (by omega) (by omega)), if_neg (zI_in (by omega) (by omega)), if_neg (zI_in (by omega) (by omega)), if_neg (zI_in (by omega) (by omega)), if_neg (zI_in (by omega) (by omega)), if_neg (zI_in (by omega) (by omega)), if_neg (zI_in (by omega) (by omega))]
  simp (disch := omega) only [zI_cl]
  rw [i1, zI_add]
  rfl
theorem dR.up {P Q : Nat} (hPQ : P ≤ Q) {c : Nat → Int32} {pl mi he st ar cr pa re le : Int32} (h : dR P c pl mi he st ar cr pa re le) : dR Q c pl mi he st ar cr pa re le := by
  obtain ⟨h1 | h1, h2⟩ := h
  · obtain ⟨e, p, a, hp, h3⟩ := h1
    exact ⟨Or.inl ⟨e, p, a, by omega, h3⟩, h2⟩
  · exact ⟨Or.inr h1, h2⟩
theorem IvD.up {P Q : Nat} (hPQ : P ≤ Q) {σC σM : SS} (h : IvD P σC σM) : IvD Q σC σM := by
  obtain ⟨h1, h2 | ⟨a, b, h2⟩⟩ := h
  · exact ⟨h1.up hPQ, Or.inl h2⟩
  · exact ⟨h1.up hPQ, Or.inr ⟨a, b, h2.up hPQ⟩⟩
theorem slR.up {P Q k s m : Nat} (hPQ : P ≤ Q) (h : slR P k s m) : slR Q k s m := by
  obtain ⟨p, h1, h2⟩ | h1 := h
  · exact Or.inl ⟨p, by omega, h2⟩
  · exact Or.inr h1
theorem IvH.up {P Q : Nat} (hPQ : P ≤ Q) {σC σM : SS} (h : IvH P σC σM) : IvH Q σC σM := by
  obtain ⟨D, S, h1, h2, h3, h4, h5, h6, h7⟩ := h
  refine ⟨D, S, h1, h2, h3, h4, h5, h6, fun i hi => ?_⟩
  obtain ⟨k, s, m, g, r⟩ := h7 i hi
  exact ⟨k, s, m, g.up hPQ, r⟩
theorem adds_ok {P Bn : Nat} {lf : Option FN} {σC σM : SS} (h : InvK P Bn lf σC σM) (hP : P < 12) {g k p : Int32} (hg : okV 0 g) (hk : okV 4 k) (hp : okV 5 p) : InvK (P + 1) Bn lf (adC P g k p σC) (adM P g k p σM) := by
  obtain ⟨h1, h2, h3, h4, h5, h6, h7, h8, h9⟩ := h
  obtain ⟨a1, a2, a3, a4⟩ := h1
  obtain ⟨b1, b2, b3, b4⟩ := h2
  have eC : ∀ c, (adC P g k p σC).2.1 2 0 c = if c = P * 7 + 6 then 3 else if c = P * 7 + 5 then p else if c = P * 7 + 4 then k else if c = P * 7 + 3 then 2 else if c = P * 7 + 2 then 10 else if c = P * 7 + 1 then 0 else if c = P * 7 + 0 then g else σC.2.1 2 0 c := fun c => by
    unfold adC
    rw [sI_2, sA_g, sA_g, sA_g, sA_g, sA_g, sA_g, sA_g]
  have eM : ∀ c, (adM P g k p σM).2.1 1 0 c = if c = 72 + P then 3 else if c = 60 + P then p else if c = 48 + P then k else if c = 36 + P then 2 else if c = 24 + P then 10 else if c = 12 + P then 0 else if c = P then g else σM.2.1 1 0 c := fun c => by
    unfold adM
    rw [sI_2, sA_g, sA_g, sA_g, sA_g, sA_g, sA_g, sA_g]
  have w7 : ∀ w, w < 7 → w = 0 ∨ w = 1 ∨ w = 2 ∨ w = 3 ∨ w = 4 ∨ w = 5 ∨ w = 6 := fun w hw => by omega
  refine ⟨⟨by omega, rfl, rfl, a4⟩, ⟨fun q w hq hw => ?_, fun w hw => ?_, fun q w hq hw => ?_, fun w hw => ?_⟩, ?_, ?_, ?_, ?_, ?_, ?_, ?_⟩
  · rw [eC, eM]
    by_cases e : q = P
    · rcases w7 w hw with rfl | rfl | rfl | rfl | rfl | rfl | rfl <;> repeat (first | rw [if_pos (by omega)] | rw [if_neg (by omega)])
    · rcases w7 w hw with rfl | rfl | rfl | rfl | rfl | rfl | rfl <;> (repeat (first | rw [if_pos (by omega)] | rw [if_neg (by omega)])) <;> exact b1 q _ hq (by omega)
  · rw [eC, eM]
    repeat (first | rw [if_pos (by omega)] | rw [if_neg (by omega)])
    exact b2 w hw
  · rw [eC]
    by_cases e : q = P
    · rcases w7 w hw with rfl | rfl | rfl | rfl | rfl | rfl | rfl <;> repeat (first | rw [if_pos (by omega)] | rw [if_neg (by omega)])
      · exact hg
      · exact ⟨by decide, by decide⟩
      · exact ⟨by decide, by decide⟩
      · exact ⟨by decide, by decide⟩
      · exact hk
      · exact hp
      · exact ⟨by decide, by decide⟩
    · repeat (first | rw [if_pos (by omega)] | rw [if_neg (by omega)])
      exact b3 q w (by omega) hw
  · rw [eC]
    repeat (first | rw [if_pos (by omega)] | rw [if_neg (by omega)])
    exact b4 w hw
  · exact (h3.up (Nat.le_succ P)).c rfl rfl rfl rfl rfl rfl rfl rfl rfl
  · exact h4.c rfl rfl rfl rfl
  · exact h5.c rfl rfl rfl rfl rfl
  · exact h6.c rfl rfl rfl rfl rfl
  · exact h7.c rfl rfl rfl rfl
  · exact h8.c rfl rfl rfl rfl
  · refine (h9.up (Nat.le_succ P)).c rfl rfl rfl (fun q h1 h2 => ?_) rfl
    show (sI _ 0 0 6 _).1 0 0 q = _
    rw [sI_g, if_neg (by omega)]
    rfl
theorem P_place {σC σM : SS} (h : Inv σC σM) (a1 a2 : Int32) : ∃ r τC τM, m_X10_place a1 a2 σC = (r, τC) ∧ m_X11_place a1 a2 σM = some (r, τM) ∧ Inv τC τM := by
  obtain ⟨P, Bn, lf, hK⟩ := h
  have hI : Inv σC σM := ⟨P, Bn, lf, hK⟩
  have hP := hK.1
  have hone : m_X11_isOne a1.toInt64 0 a2.toInt64 = 0 ↔ ¬ (okV 0 a1 ∧ okV 5 a2) := by
    rw [one1, Int32.toInt_toInt64, Int32.toInt_toInt64]
    show ¬ ((0 ≤ a1.toInt ∧ a1.toInt ≤ 30) ∧ ((0 : Int) ≤ 0 ∧ (0 : Int) ≤ 9) ∧ (0 ≤ a2.toInt ∧ a2.toInt ≤ 12)) ↔ ¬ ((0 ≤ a1.toInt ∧ a1.toInt ≤ 30) ∧ (0 ≤ a2.toInt ∧ a2.toInt ≤ 12))
    omega
  unfold m_X10_place m_X11_place
  by_cases c : okV 0 a1 ∧ okV 5 a2
  · rw [if_neg (fun e => (said0 a1).mp e c.1), if_neg (fun e => (said5 a2).mp e c.2), if_neg (fun e => hone.mp e c)]
    by_cases e : P = 12
    · subst e
      rw [hP.2.2.1, if_pos (show zI 12 = 12 from rfl), add8F hP.2.1]
      exact ⟨_, _, _, rfl, rfl, hI⟩
    · have hlt : P < 12 := by have := hP.1; omega
      rw [hP.2.2.1, if_neg (by rw [i12, zI_eq (by omega) (by omega)]; exact e), add8 hP.2.1 hlt, add11 hP.2.2.1 hlt]
      refine ⟨zI P, adC P a1 0 a2 σC, adM P a1 0 a2 σM, rfl, ?_, P + 1, Bn, lf, adds_ok hK hlt c.1 ⟨by decide, by decide⟩ c.2⟩
      show some (zI (P + 1) - 1, _) = _
      rw [i1, zI_sub (by omega)]
      rfl
  · rw [if_pos (hone.mpr c)]
    by_cases c1 : okV 0 a1
    · have c2 : ¬ okV 5 a2 := fun q => c ⟨c1, q⟩
      rw [if_neg (fun e => (said0 a1).mp e c1), if_pos ((said5 a2).mpr c2)]
      exact ⟨_, _, _, rfl, rfl, hI⟩
    · rw [if_pos ((said0 a1).mpr c1)]
      exact ⟨_, _, _, rfl, rfl, hI⟩
/-! numbers of places, the wind -/
theorem zI_pred {P : Nat} (h : P ≤ 1000000) : (zI P - 1).toInt = (P : Int) - 1 := by
  rw [Int32.toInt_sub, zI_toInt (by omega), show (1 : Int32).toInt = 1 from rfl]
  exact Int.bmod_eq_of_le (by omega) (by omega)
theorem hasC {P : Nat} {σ : SS} (hP : σ.1 1 0 1 = zI P) (h : P ≤ 12) (x : Int32) : m_X8_has x σ = 0 ↔ ¬ (0 ≤ x.toInt ∧ x.toInt < P) := by
  have z : (0 : Int32).toInt = 0 := rfl
  unfold m_X8_has
  rw [hP]
  by_cases c1 : x < 0
  · rw [if_pos c1]
    have := Int32.lt_iff_toInt_lt.mp c1
    exact ⟨fun _ => by omega, fun _ => rfl⟩
  · rw [if_neg c1]
    have d1 := Int32.le_iff_toInt_le.mp (Int32.not_lt.mp c1)
    by_cases c2 : zI P ≤ x
    · rw [if_pos c2]
      have := Int32.le_iff_toInt_le.mp c2
      rw [zI_toInt (by omega)] at this
      exact ⟨fun _ => by omega, fun _ => rfl⟩
    · rw [if_neg c2]
      have d2 := Int32.lt_iff_toInt_lt.mp (Int32.not_le.mp c2)
      rw [zI_toInt (by omega)] at d2
      exact ⟨fun e => absurd e (by decide), fun e => absurd ⟨by omega, by omega⟩ e⟩
theorem isPlM {P : Nat} {σ : SS} (hP : σ.1 0 0 6 = zI P) (h : P ≤ 12) (x : Int32) : m_X11_isPlace x σ = 0 ↔ ¬ (0 ≤ x.toInt ∧ x.toInt < P) := by
  unfold m_X11_isPlace
  rw [hP, wM, Int32.toInt_toInt64, Int32.toInt_toInt64, zI_pred (by omega), show (0 : Int64).toInt = 0 from rfl]
  omega
theorem wM32 {x : Int32} {a b : Int64} : m_X11_within x.toInt64 a b = 0 ↔ ¬ (a.toInt ≤ x.toInt ∧ x.toInt ≤ b.toInt) := by
  rw [wM, Int32.toInt_toInt64]
theorem slot {P : Nat} {σC σM : SS} (hK : IvP P σC σM) (x1 x2 : Int32) : (∃ k s m, slR P k s m ∧ k < 11 ∧ x2 = zI k ∧ m_X8_slotOf x1 x2 σC = zI s ∧ m_X11_placeOf x1 x2 σM = zI m) ∨ (m_X8_slotOf x1 x2 σC = -1 ∧ m_X11_placeOf x1 x2 σM = -1) := by
  have e1 : m_X11_within x2.toInt64 0 6 = 0 ↔ ¬ (0 ≤ x2.toInt ∧ x2.toInt ≤ 6) := wM32
  have e2 : m_X10_isWithin x2 0 6 = 0 ↔ ¬ (0 ≤ x2.toInt ∧ x2.toInt ≤ 6) := wC
  have e3 : m_X11_within x2.toInt64 7 10 = 0 ↔ ¬ (7 ≤ x2.toInt ∧ x2.toInt ≤ 10) := wM32
  have e4 : m_X10_isWithin x2 7 10 = 0 ↔ ¬ (7 ≤ x2.toInt ∧ x2.toInt ≤ 10) := wC
  have e5 := hasC hK.2.1 hK.1 x1
  have e6 := isPlM hK.2.2.1 hK.1 x1
  have hP := hK.1
  unfold m_X8_slotOf m_X11_placeOf
  by_cases c : 0 ≤ x2.toInt ∧ x2.toInt ≤ 6
  · rw [if_neg (fun e => e2.mp e c), if_neg (fun e => e1.mp e c)]
    by_cases d : 0 ≤ x1.toInt ∧ x1.toInt < P
    · rw [if_neg (fun e => e5.mp e d), if_neg (fun e => e6.mp e d)]
      obtain ⟨k, hk, rfl⟩ := rng (b := 6) c.1 c.2
      obtain ⟨p, hp, rfl⟩ := rng (b := 12) d.1 (by omega)
      rw [zI_toInt (by omega)] at d
      refine Or.inl ⟨k, 7 * p + k, 12 * k + p, Or.inl ⟨p, by omega, by omega, rfl, rfl⟩, by omega, rfl, ?_, ?_⟩
      · rw [i7, zI_mul, zI_add, Nat.mul_comm]
      · rw [i12, zI_mul, zI_add]
    · rw [if_pos (e5.mpr d), if_pos (e6.mpr d)]
      exact Or.inr ⟨rfl, rfl⟩
  · rw [if_pos (e2.mpr c), if_pos (e1.mpr c)]
    by_cases d : 7 ≤ x2.toInt ∧ x2.toInt ≤ 10
    · rw [if_neg (fun e => e4.mp e d), if_neg (fun e => e3.mp e d)]
      by_cases f : x1 = 0
      · rw [if_pos f]
        obtain ⟨k, hk, rfl⟩ := rng (b := 10) (by omega) d.2
        rw [zI_toInt (by omega)] at d
        refine Or.inl ⟨k, 77 + k, 77 + k, Or.inr ⟨by omega, by omega, rfl, rfl⟩, by omega, rfl, ?_, ?_⟩ <;>
        · rw [i84, i7, zI_add, zI_sub (by omega), show 84 + k - 7 = 77 + k by omega]
      · rw [if_neg f]
        exact Or.inr ⟨rfl, rfl⟩
    · rw [if_pos (e4.mpr d), if_pos (e3.mpr d)]
      by_cases f : x1 = 0
      · rw [if_pos f]
        exact Or.inr ⟨rfl, rfl⟩
      · rw [if_neg f]
        exact Or.inr ⟨rfl, rfl⟩
theorem slR.lt {P k s m : Nat} (hP : P ≤ 12) (h : slR P k s m) : s < 88 ∧ m < 88 ∧ k < 11 := by
  obtain ⟨p, h1, h2, h3, h4⟩ | ⟨h1, h2, h3, h4⟩ := h <;> omega
theorem slR.rd {P k s m : Nat} {σC σM : SS} (hP : P ≤ 12) (h : slR P k s m) (hN : IvN P σC σM) : σM.2.1 1 0 m = σC.2.1 2 0 s ∧ okV k (σC.2.1 2 0 s) := by
  obtain ⟨b1, b2, b3, b4⟩ := hN
  obtain ⟨p, h1, h2, rfl, rfl⟩ | ⟨h1, h2, rfl, rfl⟩ := h
  · exact ⟨b1 p k (by omega) h2, b3 p k h1 h2⟩
  · have e := b2 (k - 7) (by omega)
    have f := b4 (k - 7) (by omega)
    rw [show 84 + (k - 7) = 77 + k by omega] at e f
    rw [show 7 + (k - 7) = k by omega] at f
    exact ⟨e, f⟩
theorem rd8 {s : Nat} (hs : s < 88) (σ : SS) : m_X8_read (zI s) σ = σ.2.1 2 0 s := by
  unfold m_X8_read
  rw [if_neg (zI_ge (by omega)), if_neg (by rw [i88, zI_le (by omega) (by omega)]; omega), zI_cl (by omega)]
theorem P_of {σC σM : SS} (h : Inv σC σM) (a1 a2 : Int32) : ∃ r, m_X10_of a1 a2 σC = r ∧ m_X11_of a1 a2 σM = some r := by
  obtain ⟨P, Bn, lf, hK⟩ := h
  unfold m_X10_of m_X11_of
  rcases slot hK.1 a1 a2 with ⟨k, s, m, hs, hk, -, e1, e2⟩ | ⟨e1, e2⟩
  · have hl := hs.lt hK.1.1
    rw [e1, e2, if_pos (zI_ge' (by omega)), if_neg (zI_ge (by omega)), if_neg (zI_in (by omega) (by omega)), rd8 (by omega), zI_cl (by omega), (hs.rd hK.1.1 hK.2.1).1]
    exact ⟨_, rfl, rfl⟩
  · rw [e1, e2, if_neg (by decide), if_pos (by decide)]
    exact ⟨_, rfl, rfl⟩
theorem numC {p w : Nat} (hp : p < 12) (hw : w < 7) (σ : SS) : m_X8_number (zI p) (zI w) σ = σ.2.1 2 0 (7 * p + w) := by
  unfold m_X8_number
  rw [if_neg (by rw [i7, zI_le (by omega) (by omega)]; omega), i7, zI_mul, zI_add, if_neg (zI_ge (by omega)), if_neg (by rw [i88, zI_le (by omega) (by omega)]; omega), zI_cl (by omega), Nat.mul_comm]
theorem numG {k : Nat} (hk : k < 4) (x : Int32) (σ : SS) : m_X8_number x (zI (7 + k)) σ = σ.2.1 2 0 (84 + k) := by
  unfold m_X8_number
  rw [if_pos (by rw [i7, zI_le (by omega) (by omega)]; omega), i7, i84, zI_add, zI_sub (by omega), show 84 + (7 + k) - 7 = 84 + k by omega, if_neg (zI_ge (by omega)), if_neg (by rw [i88, zI_le (by omega) (by omega)]; omega), zI_cl (by omega)]
def gsT (M : Nat → Int32) (p : Nat) (m : Int32) : Prop := ¬ M (36 + p) ≤ m - m / M (24 + p) * M (24 + p)
def wdT (M : Nat → Int32) (mg : Int32) (p : Nat) (m : Int32) : Int32 := if M (36 + p) ≤ m - m / M (24 + p) * M (24 + p) then M (12 + p) else M p + mg
theorem pos_of {k : Nat} {v : Int32} (h : okV k v) (hk : k = 2 ∨ k = 7) : 0 < v.toInt := by
  unfold okV loV at h
  rw [if_pos hk] at h
  omega
theorem nz_of {v : Int32} (h : 0 < v.toInt) : ¬ v = 0 := fun e => by
  rw [e, show (0 : Int32).toInt = 0 from rfl] at h
  omega
theorem nle_of {v : Int32} (h : 0 < v.toInt) : ¬ v ≤ 0 := fun e => by
  have := Int32.le_iff_toInt_le.mp e
  rw [show (0 : Int32).toInt = 0 from rfl] at this
  omega
/-- the class's numbers of a place, by the model's -/
def nmR (M : Nat → Int32) (P : Nat) (σ : SS) : Prop := (∀ p w, p < 12 → w < 7 → σ.2.1 2 0 (7 * p + w) = M (12 * w + p)) ∧ (∀ k, k < 4 → σ.2.1 2 0 (84 + k) = M (84 + k)) ∧ (∀ p w, p < P → w < 7 → okV w (M (12 * w + p))) ∧ (∀ k, k < 4 → okV (7 + k) (M (84 + k))) ∧ P ≤ 12
theorem IvN.nm {P : Nat} {σC σM : SS} (hP : P ≤ 12) (h : IvN P σC σM) : nmR (σM.2.1 1 0) P σC := by
  obtain ⟨b1, b2, b3, b4⟩ := h
  exact ⟨fun p w hp hw => (b1 p w hp hw).symm, fun k hk => (b2 k hk).symm, fun p w hp hw => by rw [b1 p w (by omega) hw]; exact b3 p w hp hw, fun k hk => by rw [b2 k hk]; exact b4 k hk, hP⟩
theorem gusC {M : Nat → Int32} {P : Nat} {σ : SS} (h : nmR M P σ) {p : Nat} (hp : p < P) (m : Int32) : m_X8_isGusty (zI p) m σ = 0 ↔ ¬ gsT M p m := by
  obtain ⟨b1, b2, b3, b4, hP⟩ := h
  have e2 : m_X8_number (zI p) 2 σ = M (24 + p) := (numC (w := 2) (by omega) (by omega) σ).trans (b1 p 2 (by omega) (by omega))
  have e3 : m_X8_number (zI p) 3 σ = M (36 + p) := (numC (w := 3) (by omega) (by omega) σ).trans (b1 p 3 (by omega) (by omega))
  unfold m_X8_isGusty gsT
  rw [e2, e3, if_neg (nle_of (pos_of (b3 p 2 hp (by omega)) (Or.inl rfl)))]
  by_cases c : M (36 + p) ≤ m - m / M (24 + p) * M (24 + p)
  · rw [if_pos c]
    exact ⟨fun _ q => q c, fun _ => rfl⟩
  · rw [if_neg c]
    exact ⟨fun q => absurd q (by decide), fun q => absurd c q⟩
theorem winC {M : Nat → Int32} {P : Nat} {σ : SS} (h : nmR M P σ) {p : Nat} (hp : p < P) (m : Int32) : m_X8_windIn (zI p) m σ = wdT M 0 p m := by
  have e0 : m_X8_number (zI p) 0 σ = M p := (numC (w := 0) (by have := h.2.2.2.2; omega) (by omega) σ).trans ((h.1 p 0 (by have := h.2.2.2.2; omega) (by omega)).trans (by rw [Nat.mul_zero, Nat.zero_add]))
  have e1 : m_X8_number (zI p) 1 σ = M (12 + p) := (numC (w := 1) (by have := h.2.2.2.2; omega) (by omega) σ).trans (h.1 p 1 (by have := h.2.2.2.2; omega) (by omega))
  have g := gusC h hp m
  unfold m_X8_windIn wdT
  unfold gsT at g
  by_cases c : M (36 + p) ≤ m - m / M (24 + p) * M (24 + p)
  · rw [if_pos (g.mpr (fun q => q c)), if_pos c, e1]
  · rw [if_neg (fun q => g.mp q c), if_neg c, e0, Int32.add_zero]
theorem winM {M : Nat → Int32} {P : Nat} {σC σM : SS} (h : nmR M P σC) (hM : σM.2.1 1 0 = M) {p : Nat} (hp : p < P) (m : Int32) : m_X11_windAt (zI p) m σM = some (wdT M (σM.1 0 0 7) p m) := by
  have hP := h.2.2.2.2
  unfold m_X11_windAt wdT
  rw [hM, i24, i36, i12]
  simp only [zI_add]
  rw [if_neg (zI_in (by omega) (by omega)), zI_cl (by omega), zI_cl (by omega), zI_cl (by omega), zI_cl (by omega), if_neg (nz_of (pos_of (h.2.2.1 p 2 hp (by omega)) (Or.inl rfl))), if_neg (by have := zI_in (a := 36 + p) (n := 88) (by omega) (by omega); rwa [zI_cl (by omega)] at this)]
  by_cases c : M (36 + p) ≤ m - m / M (24 + p) * M (24 + p)
  · rw [if_pos c, if_pos c, if_neg (by have := zI_in (a := 12 + p) (n := 88) (by omega) (by omega); rwa [zI_cl (by omega)] at this)]
  · rw [if_neg c, if_neg c, if_neg (by have := zI_in (a := p) (n := 88) (by omega) (by omega); rwa [zI_cl (by omega)] at this)]
theorem P_wind {σC σM : SS} (h : Inv σC σM) (a1 a2 : Int32) : ∃ r, m_X10_wind a1 a2 σC = r ∧ m_X11_wind a1 a2 σM = some r := by
  obtain ⟨P, Bn, lf, hK⟩ := h
  have hn := hK.2.1.nm hK.1.1
  have e1 : m_X11_within a2.toInt64 0 9999 = 0 ↔ ¬ (0 ≤ a2.toInt ∧ a2.toInt ≤ 9999) := wM32
  have e2 : m_X10_isWithin a2 0 9999 = 0 ↔ ¬ (0 ≤ a2.toInt ∧ a2.toInt ≤ 9999) := wC
  have e5 := hasC hK.1.2.1 hK.1.1 a1
  have e6 := isPlM hK.1.2.2.1 hK.1.1 a1
  unfold m_X10_wind m_X11_wind
  by_cases d : 0 ≤ a1.toInt ∧ a1.toInt < P
  · rw [if_neg (fun e => e5.mp e d), if_neg (fun e => e6.mp e d)]
    by_cases c : 0 ≤ a2.toInt ∧ a2.toInt ≤ 9999
    · rw [if_neg (fun e => e2.mp e c), if_neg (fun e => e1.mp e c)]
      have hP := hK.1.1
      obtain ⟨p, hp, rfl⟩ := rng (b := 12) d.1 (by omega)
      rw [zI_toInt (by omega)] at d
      rw [winC hn (by omega), winM hn rfl (by omega), hK.1.2.2.2]
      exact ⟨_, rfl, rfl⟩
    · rw [if_pos (e2.mpr c), if_pos (e1.mpr c)]
      exact ⟨_, rfl, rfl⟩
  · rw [if_pos (e5.mpr d), if_pos (e6.mpr d)]
    exact ⟨_, rfl, rfl⟩
