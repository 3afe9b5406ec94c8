/-! the tape's feeding; what led tells; images; bodies -/
theorem P_feed {σC σM : SS} (h : Inv σC σM) (a : Int32) : ∃ r τC τM, m_X10_feed a σC = (r, τC) ∧ m_X11_feed a σM = some (r, τM) ∧ Inv τC τM := by
  obtain ⟨P, Bn, lf, hK⟩ := h
  have hI : Inv σC σM := ⟨P, Bn, lf, hK⟩
  obtain ⟨h1, h2, h3, h4, h5, h6, h7, h8, h9⟩ := hK
  obtain ⟨F, d1, d2, d3, d4⟩ := h4
  have e1 : m_X11_within a.toInt64 0 255 = 0 ↔ ¬ (0 ≤ a.toInt ∧ a.toInt ≤ 255) := wM32
  have e2 : m_X10_isWithin a 0 255 = 0 ↔ ¬ (0 ≤ a.toInt ∧ a.toInt ≤ 255) := wC
  unfold m_X10_feed m_X11_feed
  by_cases c : 0 ≤ a.toInt ∧ a.toInt ≤ 255
  · rw [if_neg (fun e => e2.mp e c), if_neg (fun e => e1.mp e c)]
    unfold m_X3_take
    rw [d2, d3, if_neg (zI_ge (by omega))]
    by_cases e : F = 120
    · subst e
      rw [if_pos (show zI 120 = 120 from rfl), if_neg (show ¬ zI 120 < 120 from Int32.lt_irrefl)]
      exact ⟨_, _, _, rfl, rfl, hI⟩
    · rw [if_pos (by rw [i120, zI_lt (by omega) (by omega)]; omega), if_neg (by rw [i120, zI_eq (by omega) (by omega)]; exact e), if_neg (zI_in (by omega) (by omega)), zI_cl (by omega), i1, zI_add]
      refine ⟨_, _, _, rfl, rfl, P, Bn, lf, h1.c rfl rfl rfl, h2.c rfl rfl, h3.c rfl rfl rfl rfl rfl rfl rfl rfl rfl, ⟨F + 1, by omega, rfl, rfl, fun i hi => ?_⟩, h5.c rfl rfl rfl rfl rfl, h6.c rfl rfl rfl rfl rfl, h7.c rfl rfl rfl rfl, h8.c rfl rfl rfl rfl, h9.c rfl rfl rfl (fun q a b => ?_) rfl⟩
      · rw [sI_2, sI_2, sA_g, sA_g]
        by_cases g : i = F
        · rw [if_pos g, if_pos g]
        · rw [if_neg g, if_neg g]
          exact d4 i (by omega)
      · show (sI _ 0 0 9 _).1 0 0 q = _
        rw [sI_g, if_neg (by omega)]
        rfl
  · rw [if_pos (e2.mpr c), if_pos (e1.mpr c)]
    exact ⟨_, _, _, rfl, rfl, hI⟩
theorem P_led {σC σM : SS} (h : Inv σC σM) (a : Int32) : m_X10_led a σC = m_X11_led a σM := by
  obtain ⟨P, Bn, lf, hK⟩ := h
  obtain ⟨⟨d1, d2, d3, d4, d5, d6⟩, -⟩ := hK.2.2.2.2.2.2.2.2
  have hP := hK.1.1
  unfold m_X10_led m_X4_told m_X11_led
  rw [d2, d3, d4, d5, d6]
  rcases d1 with ⟨o, p, b, hp, hb, g1, g2, g3, g4, g5, g6, g7⟩ | ⟨o, g⟩
  · simp only [o, g1, g2, g6, g7, if_pos (zI_ge' (a := p) (by omega)), if_neg (show ¬ (1 : Int32) = 0 by decide)]
  · rw [o, g, if_pos (show (0 : Int32) = 0 from rfl), if_pos (show (0 : Int32) = 0 from rfl), if_neg (show ¬ (0 : Int32) ≤ -1 by decide), if_neg (show ¬ (0 : Int32) ≤ -1 by decide)]
theorem imgS (n k : Nat) (hk : k < 5) (σ : SS) : L_X11_image_7 (n + 1) (zI k) σ = L_X11_image_7 n (zI (k + 1)) (sA σ 11 0 k (m_X11_led (zI k) σ)) := by
  show (if _ then _ else _) = _
  rw [if_neg (by rw [i5, zI_le (by omega) (by omega)]; omega), if_neg (zI_in (by omega) (by omega)), zI_cl (by omega), i1, zI_add]
theorem imgE (n : Nat) (σ : SS) : L_X11_image_7 (n + 1) (zI 5) σ = some ((σ.1 0 0 27), (sA (sA (sA (sA σ 11 0 5 (σ.1 0 0 23)) 11 0 6 (σ.1 0 0 24)) 11 0 7 (σ.1 0 0 25)) 11 0 8 (σ.1 0 0 26))) := by
  show (if _ then _ else _) = _
  rw [if_pos (show (5 : Int32) ≤ zI 5 from Int32.le_refl _)]
  rfl
def cpC (a b : Nat) (σ : SS) : SS := sI (sI (sI (sI (sI (sI (sI (sI (sI (sI σ a 0 0 (σ.1 b 0 0)) a 0 1 (σ.1 b 0 1)) a 0 2 (σ.1 b 0 2)) a 0 3 (σ.1 b 0 3)) a 0 4 (σ.1 b 0 4)) a 0 5 (σ.1 b 0 5)) a 0 6 (σ.1 b 0 6)) a 0 7 (σ.1 b 0 7)) a 0 8 (σ.1 b 0 8)) a 0 9 (σ.1 b 0 9)
theorem cp_o {a b x : Nat} {σ : SS} (h : x ≠ a) : (cpC a b σ).1 x = σ.1 x := by
  unfold cpC
  rw [sI_o h, sI_o h, sI_o h, sI_o h, sI_o h, sI_o h, sI_o h, sI_o h, sI_o h, sI_o h]
theorem cp_g (a b : Nat) (σ : SS) (c : Nat) (h : c < 10) : (cpC a b σ).1 a 0 c = σ.1 b 0 c := by
  unfold cpC
  rw [sI_g, sI_g, sI_g, sI_g, sI_g, sI_g, sI_g, sI_g, sI_g, sI_g]
  have : c = 0 ∨ c = 1 ∨ c = 2 ∨ c = 3 ∨ c = 4 ∨ c = 5 ∨ c = 6 ∨ c = 7 ∨ c = 8 ∨ c = 9 := by omega
  rcases this with rfl | rfl | rfl | rfl | rfl | rfl | rfl | rfl | rfl | rfl <;> rfl
theorem dR.sw {P : Nat} {c c' : Nat → Int32} {pl mi he st ar cr pa re le : Int32} (h : dR P c pl mi he st ar cr pa re le) (e : ∀ i, i < 10 → c' i = c i) : dR P c' pl mi he st ar cr pa re le := by
  unfold dR at *
  rw [e 0 (by omega), e 1 (by omega), e 2 (by omega), e 3 (by omega), e 4 (by omega), e 5 (by omega), e 6 (by omega), e 7 (by omega), e 8 (by omega), e 9 (by omega)]
  exact h
def imM (σ : SS) : SS := sA (sA (sA (sA (sA (sA (sA (sA (sA (sI σ 0 0 32 1) 11 0 0 (σ.1 0 0 27)) 11 0 1 (σ.1 0 0 28)) 11 0 2 (σ.1 0 0 29)) 11 0 3 (σ.1 0 0 30)) 11 0 4 (σ.1 0 0 31)) 11 0 5 (σ.1 0 0 23)) 11 0 6 (σ.1 0 0 24)) 11 0 7 (σ.1 0 0 25)) 11 0 8 (σ.1 0 0 26)
theorem imM_f {σ : SS} {k : Nat} (h : k ≠ 32) : (imM σ).1 0 0 k = σ.1 0 0 k := by
  unfold imM
  rw [sA_1, sA_1, sA_1, sA_1, sA_1, sA_1, sA_1, sA_1, sA_1, sI_g, if_neg h]
theorem imM_a {σ : SS} {t : Nat} (h : t ≠ 11) : (imM σ).2.1 t = σ.2.1 t := by
  unfold imM
  rw [sA_o h, sA_o h, sA_o h, sA_o h, sA_o h, sA_o h, sA_o h, sA_o h, sA_o h, sI_2]
theorem imM_i (σ : SS) : (imM σ).2.1 11 0 0 = σ.1 0 0 27 ∧ (imM σ).2.1 11 0 1 = σ.1 0 0 28 ∧ (imM σ).2.1 11 0 2 = σ.1 0 0 29 ∧ (imM σ).2.1 11 0 3 = σ.1 0 0 30 ∧ (imM σ).2.1 11 0 4 = σ.1 0 0 31 ∧ (imM σ).2.1 11 0 5 = σ.1 0 0 23 ∧ (imM σ).2.1 11 0 6 = σ.1 0 0 24 ∧ (imM σ).2.1 11 0 7 = σ.1 0 0 25 ∧ (imM σ).2.1 11 0 8 = σ.1 0 0 26 := by
  have e : ∀ c, (imM σ).2.1 11 0 c = if c = 8 then σ.1 0 0 26 else if c = 7 then σ.1 0 0 25 else if c = 6 then σ.1 0 0 24 else if c = 5 then σ.1 0 0 23 else if c = 4 then σ.1 0 0 31 else if c = 3 then σ.1 0 0 30 else if c = 2 then σ.1 0 0 29 else if c = 1 then σ.1 0 0 28 else if c = 0 then σ.1 0 0 27 else σ.2.1 11 0 c := fun c => by
    unfold imM
    rw [sA_g, sA_g, sA_g, sA_g, sA_g, sA_g, sA_g, sA_g, sA_g, sI_2]
  exact ⟨e 0, e 1, e 2, e 3, e 4, e 5, e 6, e 7, e 8⟩
theorem P_image {σC σM : SS} (h : Inv σC σM) : ∃ r τC τM, m_X10_image σC = some (r, τC) ∧ m_X11_image σM = some (r, τM) ∧ Inv τC τM := by
  obtain ⟨P, Bn, lf, h1, h2, h3, h4, h5, h6, h7, h8, h9⟩ := h
  obtain ⟨hd, g⟩ := h9
  have eM : m_X11_image σM = some (σM.1 0 0 27, imM σM) := by
    unfold m_X11_image
    rw [show FU = 99994 + 1 + 1 + 1 + 1 + 1 + 1 from rfl, i0, imgS _ _ (by omega), imgS _ _ (by omega), imgS _ _ (by omega), imgS _ _ (by omega), imgS _ _ (by omega), imgE]
    rfl
  have o : σC.1 22 0 0 = 0 ∨ σC.1 22 0 0 = 1 := by
    rcases hd.1 with ⟨o, -⟩ | ⟨o, -⟩
    · exact Or.inr o
    · exact Or.inl o
  have eC : m_X10_image σC = some (σC.1 22 0 5, sI (cpC 23 22 σC) 21 0 4 1) := by
    unfold m_X10_image m_X4_becomeLike_23
    rw [if_pos o]
    show some ((cpC 23 22 σC).1 22 0 5, _) = _
    rw [cp_o (by decide)]
    rfl
  have F : ∀ t, t ≠ 21 → t ≠ 23 → (sI (cpC 23 22 σC) 21 0 4 1).1 t = σC.1 t := fun t a b => by rw [sI_o a, cp_o b]
  have G : ∀ k, k ≠ 32 → (imM σM).1 0 0 k = σM.1 0 0 k := fun k hk => imM_f hk
  have A : ∀ t, t ≠ 11 → (imM σM).2.1 t 0 = σM.2.1 t 0 := fun t ht => by rw [imM_a ht]
  obtain ⟨i0', i1', i2', i3', i4', i5', i6', i7', i8'⟩ := imM_i σM
  rw [eC, eM]
  refine ⟨_, _, _, rfl, by rw [hd.2.1], P, Bn, lf, h1.c (by rw [F 1 (by decide) (by decide)]) (G 6 (by decide)) (G 7 (by decide)), h2.c rfl (A 1 (by decide)), h3.c (by rw [F 3 (by decide) (by decide)]) (G 5 (by decide)) (G 4 (by decide)) rfl rfl rfl (A 2 (by decide)) (A 3 (by decide)) (A 4 (by decide)), h4.c (by rw [F 7 (by decide) (by decide)]) (G 9 (by decide)) rfl (A 5 (by decide)), h5.c (by rw [F 7 (by decide) (by decide)]) (G 11 (by decide)) rfl rfl (A 6 (by decide)), h6.c (by rw [F 28 (by decide) (by decide)]) rfl (A 14 (by decide)) (A 15 (by decide)) rfl, h7.c (by rw [F 24 (by decide) (by decide)]) (G 34 (by decide)) rfl (A 12 (by decide)), h8.c (by rw [F 24 (by decide) (by decide)]) (G 37 (by decide)) rfl (A 13 (by decide)), ?_, Or.inr ⟨?_, rfl, ?_⟩⟩
  · rw [F 22 (by decide) (by decide), G 23 (by decide), G 24 (by decide), G 25 (by decide), G 26 (by decide), G 27 (by decide), G 28 (by decide), G 29 (by decide), G 30 (by decide), G 31 (by decide)]
    exact hd
  · rw [sI_g, if_pos rfl]
  · rw [i0', i1', i2', i3', i4', i5', i6', i7', i8']
    refine hd.sw (fun i hi => ?_)
    rw [sI_o (by decide)]
    exact cp_g 23 22 σC i hi
def bkM (σ : SS) : SS := sI (sI (sI (sI (sI (sI (sI (sI (sI σ 0 0 27 (σ.2.1 11 0 0)) 0 0 28 (σ.2.1 11 0 1)) 0 0 29 (σ.2.1 11 0 2)) 0 0 30 (σ.2.1 11 0 3)) 0 0 31 (σ.2.1 11 0 4)) 0 0 23 (σ.2.1 11 0 5)) 0 0 24 (σ.2.1 11 0 6)) 0 0 25 (σ.2.1 11 0 7)) 0 0 26 (σ.2.1 11 0 8)
theorem bkM_g (σ : SS) (c : Nat) : (bkM σ).1 0 0 c = if c = 26 then σ.2.1 11 0 8 else if c = 25 then σ.2.1 11 0 7 else if c = 24 then σ.2.1 11 0 6 else if c = 23 then σ.2.1 11 0 5 else if c = 31 then σ.2.1 11 0 4 else if c = 30 then σ.2.1 11 0 3 else if c = 29 then σ.2.1 11 0 2 else if c = 28 then σ.2.1 11 0 1 else if c = 27 then σ.2.1 11 0 0 else σ.1 0 0 c := by
  unfold bkM
  rw [sI_g, sI_g, sI_g, sI_g, sI_g, sI_g, sI_g, sI_g, sI_g]
theorem P_back {σC σM : SS} (h : Inv σC σM) : ∃ r τC τM, m_X10_back σC = some (r, τC) ∧ m_X11_back σM = (r, τM) ∧ Inv τC τM := by
  obtain ⟨P, Bn, lf, hK⟩ := h
  have hI : Inv σC σM := ⟨P, Bn, lf, hK⟩
  obtain ⟨h1, h2, h3, h4, h5, h6, h7, h8, h9⟩ := hK
  obtain ⟨d, ⟨g1, g2⟩ | ⟨g1, g2, hd⟩⟩ := h9
  · unfold m_X10_back m_X11_back
    rw [g1, g2, if_pos (show (0 : Int32) = 0 from rfl), if_pos (show (0 : Int32) = 0 from rfl)]
    exact ⟨_, _, _, rfl, rfl, hI⟩
  · have o : σC.1 23 0 0 = 0 ∨ σC.1 23 0 0 = 1 := by
      rcases hd.1 with ⟨o, -⟩ | ⟨o, -⟩
      · exact Or.inr o
      · exact Or.inl o
    have eC : m_X10_back σC = some (σC.1 23 0 5, cpC 22 23 σC) := by
      unfold m_X10_back m_X4_becomeLike_22
      rw [g1, if_neg (show ¬ (1 : Int32) = 0 by decide), if_pos o]
      show some ((cpC 22 23 σC).1 22 0 5, _) = _
      rw [cp_g _ _ _ _ (by decide)]
      rfl
    have eM : m_X11_back σM = (σM.2.1 11 0 0, bkM σM) := by
      unfold m_X11_back
      rw [g2, if_neg (show ¬ (1 : Int32) = 0 by decide)]
      rfl
    have F : ∀ t, t ≠ 22 → (cpC 22 23 σC).1 t = σC.1 t := fun t a => cp_o a
    have G : ∀ k, ¬ (23 ≤ k ∧ k ≤ 31) → (bkM σM).1 0 0 k = σM.1 0 0 k := fun k hk => by
      rw [bkM_g, if_neg (by omega), if_neg (by omega), if_neg (by omega), if_neg (by omega), if_neg (by omega), if_neg (by omega), if_neg (by omega), if_neg (by omega), if_neg (by omega)]
    rw [eC, eM]
    refine ⟨_, _, _, rfl, by rw [hd.2.1], P, Bn, lf, h1.c (by rw [F 1 (by decide)]) (G 6 (by decide)) (G 7 (by decide)), h2.c rfl rfl, h3.c (by rw [F 3 (by decide)]) (G 5 (by decide)) (G 4 (by decide)) rfl rfl rfl rfl rfl rfl, h4.c (by rw [F 7 (by decide)]) (G 9 (by decide)) rfl rfl, h5.c (by rw [F 7 (by decide)]) (G 11 (by decide)) rfl rfl rfl, h6.c (by rw [F 28 (by decide)]) rfl rfl rfl rfl, h7.c (by rw [F 24 (by decide)]) (G 34 (by decide)) rfl rfl, h8.c (by rw [F 24 (by decide)]) (G 37 (by decide)) rfl rfl, ?_, Or.inr ⟨?_, ?_, ?_⟩⟩
    · rw [bkM_g, bkM_g, bkM_g, bkM_g, bkM_g, bkM_g, bkM_g, bkM_g, bkM_g]
      exact hd.sw (fun i hi => cp_g 22 23 σC i hi)
    · rw [F 21 (by decide)]
      exact g1
    · rw [G 32 (by decide)]
      exact g2
    · rw [F 23 (by decide)]
      exact hd
theorem P_body {σC σM : SS} (h : Inv σC σM) (a : Int32) : ∃ r τC τM, m_X10_body a σC = (r, τC) ∧ m_X11_body a σM = some (r, τM) ∧ Inv τC τM := by
  obtain ⟨P, Bn, lf, hK⟩ := h
  have hI : Inv σC σM := ⟨P, Bn, lf, hK⟩
  obtain ⟨h1, h2, h3, h4, h5, h6, h7, h8, h9⟩ := hK
  obtain ⟨d1, d2, d3, d4⟩ := h7
  have e1 : m_X11_within a.toInt64 0 7 = 0 ↔ ¬ (0 ≤ a.toInt ∧ a.toInt ≤ 7) := wM32
  have e2 : m_X10_isWithin a 0 7 = 0 ↔ ¬ (0 ≤ a.toInt ∧ a.toInt ≤ 7) := wC
  unfold m_X10_body m_X11_body
  by_cases c : 0 ≤ a.toInt ∧ a.toInt ≤ 7
  · rw [if_neg (fun e => e2.mp e c), if_neg (fun e => e1.mp e c)]
    unfold m_X5_add
    rw [d2, d3, if_neg (zI_ge (by omega))]
    by_cases e : Bn = 50
    · subst e
      rw [if_pos (show zI 50 = 50 from rfl), if_neg (show ¬ zI 50 < 50 from Int32.lt_irrefl)]
      exact ⟨_, _, _, rfl, rfl, hI⟩
    · rw [if_pos (by rw [i50, zI_lt (by omega) (by omega)]; omega), if_neg (by rw [i50, zI_eq (by omega) (by omega)]; exact e), if_neg (zI_in (by omega) (by omega)), zI_cl (by omega), i1, zI_add, zI_sub (by omega)]
      refine ⟨_, _, _, rfl, rfl, P, Bn + 1, lf, h1.c rfl rfl rfl, h2.c rfl rfl, h3.c rfl rfl rfl rfl rfl rfl rfl rfl rfl, h4.c rfl rfl rfl rfl, h5.c rfl rfl rfl rfl rfl, fun d hd => ?_, ⟨by omega, rfl, rfl, fun i hi => ?_⟩, h8.c rfl rfl rfl rfl, h9.c rfl rfl rfl (fun q a b => ?_) rfl⟩
      · obtain ⟨q1, q2, q3 | ⟨q3, b, q4, q5⟩ | q3⟩ := h6 d hd
        · exact ⟨q1, q2, Or.inl q3⟩
        · exact ⟨q1, q2, Or.inr (Or.inl ⟨q3, b, by omega, q5⟩)⟩
        · exact ⟨q1, q2, Or.inr (Or.inr q3)⟩
      · rw [sI_2, sI_2, sA_g, sA_g]
        by_cases g : i = Bn
        · rw [if_pos g, if_pos g]
          obtain ⟨k, hk, rfl⟩ := rng (b := 7) c.1 c.2
          exact ⟨rfl, k, by omega, rfl⟩
        · rw [if_neg g, if_neg g]
          exact d4 i (by omega)
      · show (sI _ 0 0 34 _).1 0 0 q = _
        rw [sI_g, if_neg (by omega)]
        rfl
  · rw [if_pos (e2.mpr c), if_pos (e1.mpr c)]
    exact ⟨_, _, _, rfl, rfl, hI⟩
theorem P_trace {σC σM : SS} (h : Inv σC σM) (a : Int32) : m_X10_trace a σC = m_X11_trace a σM := by
  obtain ⟨P, Bn, lf, hK⟩ := h
  obtain ⟨r, d1, d2, d3, d4⟩ := hK.2.2.2.2.2.2.2.1
  unfold m_X10_trace m_X5_ranAs m_X11_trace
  rw [d2, d3]
  by_cases c1 : a < 0
  · rw [if_pos c1, if_pos c1]
  · rw [if_neg c1, if_neg c1]
    by_cases c2 : zI r ≤ a
    · rw [if_pos c2, if_pos c2]
    · rw [if_neg c2, if_neg c2]
      by_cases c3 : 24 ≤ a
      · rw [if_pos c3, if_pos c3]
      · rw [if_neg c3, if_neg c3]
        have f1 := Int32.le_iff_toInt_le.mp (Int32.not_lt.mp c1)
        have f3 := Int32.lt_iff_toInt_lt.mp (Int32.not_le.mp c3)
        have f2 := Int32.lt_iff_toInt_lt.mp (Int32.not_le.mp c2)
        have g1 : (0 : Int32).toInt = 0 := rfl
        have g3 : (24 : Int32).toInt = 24 := rfl
        obtain ⟨k, hk, rfl⟩ := rng (x := a) (b := 23) (by omega) (by omega)
        rw [zI_toInt (by omega), zI_toInt (by omega)] at f2
        rw [zI_cl (by omega)]
        exact (d4 k (by omega) (by omega)).symm
theorem P_count {σC σM : SS} (h : Inv σC σM) (a : Int32) : m_X10_count a σC = m_X11_count a σM := by
  obtain ⟨P, Bn, lf, h1, h2, h3, h4, h5, h6, h7, h8, h9⟩ := h
  obtain ⟨D, S, d1, d2, d3, d4, -⟩ := h3
  obtain ⟨F, f1, f2, f3, -⟩ := h4
  obtain ⟨r, r1, r2, r3, -⟩ := h8
  unfold m_X10_count m_X11_count
  rw [h1.2.1, h1.2.2.1, d3, d4, f2, f3, h7.2.1, h7.2.2.1, r2, r3]
/-! shelves -/
theorem shC (x : Int32) : (x < 0 ∨ ¬ x < 6) ↔ ¬ (0 ≤ x.toInt ∧ x.toInt ≤ 5) := by
  rw [Int32.lt_iff_toInt_lt, Int32.lt_iff_toInt_lt, show (0 : Int32).toInt = 0 from rfl, show (6 : Int32).toInt = 6 from rfl]
  omega
theorem shM (x : Int32) : m_X11_isShelf x = 0 ↔ ¬ (0 ≤ x.toInt ∧ x.toInt ≤ 5) := wM32 (x := x) (a := 0) (b := 5)
theorem hasB {Bn : Nat} {σ : SS} (hB : σ.1 24 0 1 = zI Bn) (h : Bn ≤ 50) (x : Int32) : m_X5_has x σ = 0 ↔ ¬ (0 ≤ x.toInt ∧ x.toInt < Bn) := by
  have z : (0 : Int32).toInt = 0 := rfl
  have z5 : (50 : Int32).toInt = 50 := rfl
  unfold m_X5_has
  rw [hB]
  by_cases c1 : x < 0
  · rw [if_pos c1]
    have := Int32.lt_iff_toInt_lt.mp c1
    exact ⟨fun _ => by omega, fun _ => rfl⟩
  · rw [if_neg c1]
    have d1 := Int32.le_iff_toInt_le.mp (Int32.not_lt.mp c1)
    by_cases c2 : zI Bn ≤ x
    · rw [if_pos c2]
      have := Int32.le_iff_toInt_le.mp c2
      rw [zI_toInt (by omega)] at this
      exact ⟨fun _ => by omega, fun _ => rfl⟩
    · rw [if_neg c2]
      have d2 := Int32.lt_iff_toInt_lt.mp (Int32.not_le.mp c2)
      rw [zI_toInt (by omega)] at d2
      rw [if_neg (fun e => by have := Int32.le_iff_toInt_le.mp e; omega)]
      exact ⟨fun e => absurd e (by decide), fun e => absurd ⟨by omega, by omega⟩ e⟩
theorem isBM {Bn : Nat} {σ : SS} (hB : σ.1 0 0 34 = zI Bn) (h : Bn ≤ 50) (x : Int32) : m_X11_isBody x σ = 0 ↔ ¬ (0 ≤ x.toInt ∧ x.toInt < Bn) := by
  unfold m_X11_isBody
  rw [hB, wM, Int32.toInt_toInt64, Int32.toInt_toInt64, zI_pred (by omega), show (0 : Int64).toInt = 0 from rfl]
  omega
theorem sI_h {σ : SS} {t j i : Nat} {v : Int32} {a b : Nat} (h : ¬ (a = t ∧ b = j)) : (sI σ t j i v).1 a b = σ.1 a b := by
  funext c
  exact if_neg (fun e => h ⟨e.1, e.2.1⟩)
theorem sL_h {σ : SS} {t j i : Nat} {v : Int64} {a b : Nat} (h : ¬ (a = t ∧ b = j)) : (sL σ t j i v).2.2 a b = σ.2.2 a b := by
  funext c
  exact if_neg (fun e => h ⟨e.1, e.2.1⟩)
theorem sL_g (σ : SS) (t j i : Nat) (v : Int64) (c : Nat) : (sL σ t j i v).2.2 t j c = if c = i then v else σ.2.2 t j c := by
  unfold sL
  by_cases h : c = i
  · rw [if_pos h]; exact if_pos ⟨rfl, rfl, h⟩
  · rw [if_neg h]; exact if_neg (fun e => h e.2.2)
/-- one shelf's part of the relation -/
def sh1 (Bn d : Nat) (σC σM : SS) : Prop := (∃ n, n ≤ 60 ∧ σC.1 28 d 2 = zI n ∧ σM.2.1 15 0 d = zI n) ∧ (∀ i, i < 60 → σM.2.2 16 0 (60 * d + i) = σC.2.2 29 d i) ∧ ((σC.1 28 d 0 = -2 ∧ σM.2.1 14 0 d = -1) ∨ (σC.1 28 d 0 = -1 ∧ ∃ b, b < Bn ∧ σC.1 28 d 1 = zI b ∧ σM.2.1 14 0 d = zI b) ∨ (∃ k, k < 5 ∧ σC.1 28 d 0 = zI k ∧ σM.2.1 14 0 d = zI (50 + k) ∧ (k = 0 → ∀ i, i < 60 → byteV (σC.2.2 29 d i))))
theorem sh1.c {Bn d : Nat} {σC σM τC τM : SS} (h : sh1 Bn d σC σM) (e1 : τC.1 28 d = σC.1 28 d) (a : τC.2.2 29 d = σC.2.2 29 d) (m1 : τM.2.1 14 0 d = σM.2.1 14 0 d) (m2 : τM.2.1 15 0 d = σM.2.1 15 0 d) (m3 : ∀ i, i < 60 → τM.2.2 16 0 (60 * d + i) = σM.2.2 16 0 (60 * d + i)) : sh1 Bn d τC τM := by
  unfold sh1 at *
  rw [e1, a, m1, m2]
  exact ⟨h.1, fun i hi => by rw [m3 i hi]; exact h.2.1 i hi, h.2.2⟩
theorem P_keep {σC σM : SS} (h : Inv σC σM) (a b : Int32) : ∃ r τC τM, m_X10_keep a b σC = (r, τC) ∧ m_X11_keep a b σM = some (r, τM) ∧ Inv τC τM := by
  obtain ⟨P, Bn, lf, hK⟩ := h
  have hI : Inv σC σM := ⟨P, Bn, lf, hK⟩
  have e3 := hasB hK.2.2.2.2.2.2.1.2.1 hK.2.2.2.2.2.2.1.1 b
  have e4 := isBM hK.2.2.2.2.2.2.1.2.2.1 hK.2.2.2.2.2.2.1.1 b
  have e1 := shC a
  have e2 := shM a
  unfold m_X10_keep m_X11_keep
  by_cases c : 0 ≤ a.toInt ∧ a.toInt ≤ 5
  · rw [if_neg (fun e => e1.mp e c), if_neg (fun e => e2.mp e c)]
    obtain ⟨d, hd, rfl⟩ := rng (b := 5) c.1 c.2
    rw [if_neg (zI_in (by omega) (by omega)), zI_cl (by omega)]
    have key : ∀ (hv ho : Int32), (b = -1 ∧ hv = -2) ∨ ((0 ≤ b.toInt ∧ b.toInt < Bn) ∧ hv = -1) → m_X6_holdBody d b σC = sI (sI (sI σC 28 d 0 hv) 28 d 1 b) 28 d 2 0 → ∃ r τC τM, (bnT (m_X6_holdBody d b σC) fun q => ((1 : Int32), q)) = (r, τC) ∧ some ((1 : Int32), (sA (sA σM 14 0 d b) 15 0 d 0)) = some (r, τM) ∧ Inv τC τM := by
      intro hv _ hh eq
      obtain ⟨h1, h2, h3, h4, h5, h6, h7, h8, h9⟩ := hK
      rw [eq]
      refine ⟨_, _, _, rfl, rfl, P, Bn, lf, h1.c rfl rfl rfl, h2.c rfl rfl, h3.c rfl rfl rfl rfl rfl rfl rfl rfl rfl, h4.c rfl rfl rfl rfl, h5.c rfl rfl rfl rfl rfl, fun d' hd' => ?_, h7.c rfl rfl rfl rfl, h8.c rfl rfl rfl rfl, h9.c rfl rfl rfl (fun _ _ _ => rfl) rfl⟩
      by_cases f : d' = d
      · subst f
        refine ⟨⟨0, by omega, ?_, ?_⟩, (h6 d' hd').2.1, ?_⟩
        · rw [sI_g, if_pos rfl]; rfl
        · rw [sA_g, if_pos rfl]; rfl
        · rcases hh with ⟨rfl, rfl⟩ | ⟨hb, rfl⟩
          · refine Or.inl ⟨?_, ?_⟩
            · rw [sI_g, if_neg (by omega), sI_g, if_neg (by omega), sI_g, if_pos rfl]
            · rw [sA_o (by decide), sA_g, if_pos rfl]
          · obtain ⟨q, hq, rfl⟩ := rng (b := 50) hb.1 (by have := h7.1; omega)
            rw [zI_toInt (by omega)] at hb
            refine Or.inr (Or.inl ⟨?_, q, by omega, ?_, ?_⟩)
            · rw [sI_g, if_neg (by omega), sI_g, if_neg (by omega), sI_g, if_pos rfl]
            · rw [sI_g, if_neg (by omega), sI_g, if_pos rfl]
            · rw [sA_o (by decide), sA_g, if_pos rfl]
      · refine sh1.c (h6 d' hd') ?_ rfl ?_ ?_ (fun _ _ => rfl)
        · rw [sI_h (by omega), sI_h (by omega), sI_h (by omega)]
        · rw [sA_o (by decide), sA_g, if_neg f]
        · rw [sA_g, if_neg f, sA_o (by decide)]
    by_cases f : b = -1
    · rw [if_pos f, if_pos f]
      refine key (-2) 0 (Or.inl ⟨f, rfl⟩) ?_
      unfold m_X6_holdBody
      rw [if_neg (by rw [f]; decide)]
    · rw [if_neg f, if_neg f]
      by_cases g : 0 ≤ b.toInt ∧ b.toInt < Bn
      · rw [if_neg (fun e => e3.mp e g), if_neg (fun e => e4.mp e g)]
        refine key (-1) 0 (Or.inr ⟨g, rfl⟩) ?_
        unfold m_X6_holdBody
        rw [if_pos (show (0 : Int32) ≤ b from Int32.le_iff_toInt_le.mpr g.1)]
      · rw [if_pos (e3.mpr g), if_pos (e4.mpr g)]
        exact ⟨_, _, _, rfl, rfl, hI⟩
  · rw [if_pos (e1.mpr c), if_pos (e2.mpr c)]
    exact ⟨_, _, _, rfl, rfl, hI⟩
