/-! changes: mend, undo, redo -/
theorem mayB {k : Nat} (hk : k < 11) (v : Int32) : m_X11_mayBecome (zI k) v = 0 ↔ ¬ okV k v := by
  have : k = 0 ∨ k = 1 ∨ k = 2 ∨ k = 3 ∨ k = 4 ∨ k = 5 ∨ k = 6 ∨ k = 7 ∨ k = 8 ∨ k = 9 ∨ k = 10 := by omega
  rcases this with rfl | rfl | rfl | rfl | rfl | rfl | rfl | rfl | rfl | rfl | rfl
  · exact (wM32 (x := v) (a := 0) (b := 30))
  · exact (wM32 (x := v) (a := 0) (b := 30))
  · exact (wM32 (x := v) (a := 1) (b := 60))
  · exact (wM32 (x := v) (a := 0) (b := 60))
  · exact (wM32 (x := v) (a := 0) (b := 9))
  · exact (wM32 (x := v) (a := 0) (b := 12))
  · exact (wM32 (x := v) (a := 0) (b := 3))
  · exact (wM32 (x := v) (a := 1) (b := 6))
  · exact (wM32 (x := v) (a := 0) (b := 999))
  · exact (wM32 (x := v) (a := 0) (b := 99))
  · exact (wM32 (x := v) (a := 0) (b := 999))
theorem drop_a (σ : SS) (i : Nat) (h : i < 39) : (m_X1_dropOldest σ).2.1 4 0 i = σ.2.1 4 0 (i + 1) ∧ (m_X1_dropOldest σ).2.1 5 0 i = σ.2.1 5 0 (i + 1) ∧ (m_X1_dropOldest σ).2.1 6 0 i = σ.2.1 6 0 (i + 1) := by
  have e : ∀ f : Nat → Int32, va_cpy f f 1 0 39 i = f (i + 1) := fun f => by
    unfold va_cpy
    rw [if_pos (by omega)]
    congr 1
    omega
  exact ⟨e (σ.2.1 4 0), e (σ.2.1 5 0), e (σ.2.1 6 0)⟩
theorem bec26 : ∀ (n q : Nat) (v1 v2 v3 : Int32) (σ : SS), 1 ≤ q → q ≤ 40 → 40 - q < n → ∃ ρ : SS, ∃ n', L_X11_becomes_26 n v1 v2 v3 (zI q) σ = L_X11_becomes_26 (n' + 1) v1 v2 v3 (zI 40) ρ ∧ ρ.1 = σ.1 ∧ ρ.2.2 = σ.2.2 ∧ (∀ t, t ≠ 2 → t ≠ 3 → t ≠ 4 → ρ.2.1 t = σ.2.1 t) ∧ (∀ i, i < 39 → q ≤ i + 1 → ρ.2.1 2 0 i = σ.2.1 2 0 (i + 1) ∧ ρ.2.1 3 0 i = σ.2.1 3 0 (i + 1) ∧ ρ.2.1 4 0 i = σ.2.1 4 0 (i + 1)) ∧ (∀ i, i + 1 < q → ρ.2.1 2 0 i = σ.2.1 2 0 i ∧ ρ.2.1 3 0 i = σ.2.1 3 0 i ∧ ρ.2.1 4 0 i = σ.2.1 4 0 i)
  | 0, q, v1, v2, v3, σ, h1, h2, h3 => absurd h3 (by omega)
  | n + 1, q, v1, v2, v3, σ, h1, h2, h3 => by
    by_cases e : q = 40
    · subst e
      exact ⟨σ, n, rfl, rfl, rfl, fun _ _ _ _ => rfl, fun i a b => absurd b (by omega), fun i _ => ⟨rfl, rfl, rfl⟩⟩
    · obtain ⟨ρ, n', r1, r2, r3, r4, r5, r6⟩ := bec26 n (q + 1) v1 v2 v3 (sA (sA (sA σ 2 0 (q - 1) (σ.2.1 2 0 q)) 3 0 (q - 1) (σ.2.1 3 0 q)) 4 0 (q - 1) (σ.2.1 4 0 q)) (by omega) (by omega) (by omega)
      refine ⟨ρ, n', ?_, r2, r3, fun t a b c => ?_, fun i a b => ?_, fun i a => ?_⟩
      · rw [← r1]
        show (if _ then _ else _) = _
        rw [if_neg (by rw [i40, zI_le (by omega) (by omega)]; omega), if_neg (zI_in (by omega) (by omega)), i1, zI_sub h1, if_neg (zI_in (by omega) (by omega)), zI_add, zI_cl (by omega), zI_cl (by omega)]
      · rw [r4 t a b c, sA_o c, sA_o b, sA_o a]
      · by_cases f : q = i + 1
        · obtain ⟨g1, g2, g3⟩ := r6 i (by omega)
          subst f
          rw [g1, g2, g3, sA_g, if_pos (by omega)]
          refine ⟨?_, ?_, rfl⟩
          · rw [sA_o (by decide), sA_o (by decide), sA_g, if_pos (by omega)]
          · rw [sA_o (by decide), sA_g, if_pos (by omega)]
        · obtain ⟨g1, g2, g3⟩ := r5 i a (by omega)
          rw [g1, g2, g3, sA_g, if_neg (by omega)]
          refine ⟨?_, ?_, rfl⟩
          · rw [sA_o (by decide), sA_o (by decide), sA_g, if_neg (by omega)]
          · rw [sA_o (by decide), sA_g, if_neg (by omega)]
            rfl
      · obtain ⟨g1, g2, g3⟩ := r6 i (by omega)
        rw [g1, g2, g3, sA_g, if_neg (by omega)]
        refine ⟨?_, ?_, rfl⟩
        · rw [sA_o (by decide), sA_o (by decide), sA_g, if_neg (by omega)]
        · rw [sA_o (by decide), sA_g, if_neg (by omega)]
          rfl
/-- a change is noted, and made: the class -/
theorem noteC {P D S k s m : Nat} {σ : SS} (hD : σ.1 3 0 4 = zI D) (hD40 : D ≤ 40) (hs : s < 88) (w v : Int32) : ∃ τ, m_X8_write (zI s) v (m_X1_note (zI s) w v σ) = τ ∧ (∀ t j c, t ≠ 3 → τ.1 t j c = σ.1 t j c) ∧ τ.2.2 = σ.2.2 ∧ (∀ t, t ≠ 2 → t ≠ 4 → t ≠ 5 → t ≠ 6 → τ.2.1 t = σ.2.1 t) ∧ (∀ c, τ.2.1 2 0 c = if c = s then v else σ.2.1 2 0 c) ∧ τ.1 3 0 4 = zI (D + 1 - D / 40) ∧ τ.1 3 0 3 = zI (D + 1 - D / 40) ∧ (∀ i, i < D - D / 40 → τ.2.1 4 0 i = σ.2.1 4 0 (i + D / 40) ∧ τ.2.1 5 0 i = σ.2.1 5 0 (i + D / 40) ∧ τ.2.1 6 0 i = σ.2.1 6 0 (i + D / 40)) ∧ τ.2.1 4 0 (D - D / 40) = zI s ∧ τ.2.1 5 0 (D - D / 40) = w ∧ τ.2.1 6 0 (D - D / 40) = v := by
  rw [wr8 hs]
  refine ⟨_, rfl, ?_⟩
  unfold m_X1_note
  rw [hD]
  by_cases e : D = 40
  · subst e
    rw [if_neg (show ¬ zI 40 < 40 from Int32.lt_irrefl)]
    simp only [bnT]
    rw [show (m_X1_dropOldest σ).1 3 0 4 = zI 39 from rfl, if_neg (zI_ge (by omega)), if_pos (show zI 39 < 40 from by decide), zI_cl (by omega), i1, zI_add]
    refine ⟨fun t j c h => ?_, rfl, fun t a b c d => ?_, fun c => ?_, rfl, rfl, fun i hi => ?_, ?_, ?_, ?_⟩
    · rw [sA_1, sI_o h, sI_o h, sA_1, sA_1, sA_1]
      unfold m_X1_dropOldest
      rw [sI_o h]
      rfl
    · rw [sA_o a, sI_2, sI_2, sA_o d, sA_o c, sA_o b]
      unfold m_X1_dropOldest
      rw [sI_2]
      funext x y
      simp only [sAf]
      rw [if_neg (by omega), if_neg (by omega), if_neg (by omega)]
    · rw [sA_g]
      rfl
    · obtain ⟨d1, d2, d3⟩ := drop_a σ i (by omega)
      rw [show 40 / 40 = 1 from rfl, ← d1, ← d2, ← d3, sA_o (by decide), sA_o (by decide), sA_o (by decide), sI_2, sI_2]
      refine ⟨?_, ?_, ?_⟩
      · rw [sA_o (by decide), sA_o (by decide), sA_g, if_neg (by omega)]
      · rw [sA_o (by decide), sA_g, if_neg (by omega)]
        rfl
      · rw [sA_g, if_neg (by omega)]
        rfl
    · rw [sA_o (by decide), sI_2, sI_2, sA_o (by decide), sA_o (by decide), sA_g, if_pos (by omega)]
    · rw [sA_o (by decide), sI_2, sI_2, sA_o (by decide), sA_g, if_pos (by omega)]
    · rw [sA_o (by decide), sI_2, sI_2, sA_g, if_pos (by omega)]
  · have h0 : D / 40 = 0 := by omega
    rw [if_pos (by rw [i40, zI_lt (by omega) (by omega)]; omega), if_neg (zI_ge (by omega)), zI_cl (by omega), i1, zI_add, h0]
    refine ⟨fun t j c h => ?_, rfl, fun t a b c d => ?_, fun c => ?_, rfl, rfl, fun i hi => ?_, ?_, ?_, ?_⟩
    · rw [sA_1, sI_o h, sI_o h, sA_1, sA_1, sA_1]
    · rw [sA_o a, sI_2, sI_2, sA_o d, sA_o c, sA_o b]
    · rw [sA_g]
      rfl
    · rw [sA_o (by decide), sA_o (by decide), sA_o (by decide), sI_2, sI_2]
      refine ⟨?_, ?_, ?_⟩
      · rw [sA_o (by decide), sA_o (by decide), sA_g, if_neg (by omega)]
        rfl
      · rw [sA_o (by decide), sA_g, if_neg (by omega)]
        rfl
      · rw [sA_g, if_neg (by omega)]
        rfl
    · rw [sA_o (by decide), sI_2, sI_2, sA_o (by decide), sA_o (by decide), sA_g, if_pos (by omega)]
    · rw [sA_o (by decide), sI_2, sI_2, sA_o (by decide), sA_g, if_pos (by omega)]
    · rw [sA_o (by decide), sI_2, sI_2, sA_g, if_pos (by omega)]
/-- the model -/
theorem noteM {D m : Nat} {σ : SS} (hD : σ.1 0 0 5 = zI D) (hD40 : D ≤ 40) (hm : m < 88) {w v : Int32} (hw : σ.2.1 1 0 m = w) (hne : ¬ w = v) : ∃ τ, m_X11_becomes (zI m) v σ = some (w, τ) ∧ (∀ t j c, ¬ (t = 0 ∧ j = 0 ∧ (c = 4 ∨ c = 5)) → τ.1 t j c = σ.1 t j c) ∧ τ.2.2 = σ.2.2 ∧ (∀ t, t ≠ 1 → t ≠ 2 → t ≠ 3 → t ≠ 4 → τ.2.1 t = σ.2.1 t) ∧ (∀ c, τ.2.1 1 0 c = if c = m then v else σ.2.1 1 0 c) ∧ τ.1 0 0 5 = zI (D + 1 - D / 40) ∧ τ.1 0 0 4 = zI (D + 1 - D / 40) ∧ (∀ i, i < D - D / 40 → τ.2.1 2 0 i = σ.2.1 2 0 (i + D / 40) ∧ τ.2.1 3 0 i = σ.2.1 3 0 (i + D / 40) ∧ τ.2.1 4 0 i = σ.2.1 4 0 (i + D / 40)) ∧ τ.2.1 2 0 (D - D / 40) = zI m ∧ τ.2.1 3 0 (D - D / 40) = w ∧ τ.2.1 4 0 (D - D / 40) = v := by
  have fr : ∀ (ρ : SS) (a b : Int32) (t j c : Nat), ¬ (t = 0 ∧ j = 0 ∧ (c = 4 ∨ c = 5)) → (sI (sI ρ 0 0 5 a) 0 0 4 b).1 t j c = ρ.1 t j c := fun ρ a b t j c h => by
    unfold sI
    show (if _ then _ else (if _ then _ else _)) = _
    rw [if_neg (fun e => h ⟨e.1, e.2.1, Or.inl e.2.2⟩), if_neg (fun e => h ⟨e.1, e.2.1, Or.inr e.2.2⟩)]
  unfold m_X11_becomes
  rw [if_neg (zI_in (by omega) hm), zI_cl (by omega), hw, if_neg hne, hD]
  by_cases e : D = 40
  · subst e
    rw [if_pos (show zI 40 = 40 from rfl)]
    obtain ⟨ρ, n', r1, r2, r3, r4, r5, -⟩ := bec26 FU 1 (zI m) v w σ (by omega) (by omega) (by unfold FU; omega)
    rw [i1, r1]
    unfold L_X11_becomes_26
    rw [if_pos (show (40 : Int32) ≤ zI 40 from Int32.le_refl _), r2, hD, i1, zI_sub (by omega), if_neg (zI_in (by omega) (by omega)), if_neg (zI_in (by omega) hm), zI_cl (by omega), zI_cl (by omega), zI_add]
    refine ⟨_, rfl, fun t j c h => ?_, r3, fun t a b c d => ?_, fun c => ?_, rfl, rfl, fun i hi => ?_, ?_, ?_, ?_⟩
    · rw [sA_1, fr _ _ _ _ _ _ h, sA_1, sA_1, sA_1, ← r2]
      exact if_neg (fun e => h ⟨e.1, e.2.1, Or.inr e.2.2⟩)
    · rw [sA_o a, sI_2, sI_2, sA_o d, sA_o c, sA_o b, sI_2, r4 t b c d]
    · rw [sA_g, sI_2, sI_2, sA_o (by decide), sA_o (by decide), sA_o (by decide), sI_2, r4 1 (by decide) (by decide) (by decide)]
    · obtain ⟨d1, d2, d3⟩ := r5 i (by omega) (by omega)
      rw [show 40 / 40 = 1 from rfl, ← d1, ← d2, ← d3, sA_o (by decide), sA_o (by decide), sA_o (by decide), sI_2, sI_2]
      refine ⟨?_, ?_, ?_⟩
      · rw [sA_o (by decide), sA_o (by decide), sA_g, if_neg (by omega)]
        rfl
      · rw [sA_o (by decide), sA_g, if_neg (by omega)]
        rfl
      · rw [sA_g, if_neg (by omega)]
        rfl
    · rw [sA_o (by decide), sI_2, sI_2, sA_o (by decide), sA_o (by decide), sA_g, if_pos (by omega)]
    · rw [sA_o (by decide), sI_2, sI_2, sA_o (by decide), sA_g, if_pos (by omega)]
    · rw [sA_o (by decide), sI_2, sI_2, sA_g, if_pos (by omega)]
  · have h0 : D / 40 = 0 := by omega
    rw [if_neg (by rw [i40, zI_eq (by omega) (by omega)]; omega), if_neg (zI_in (by omega) (by omega)), zI_cl (by omega), i1, zI_add, h0]
    refine ⟨_, rfl, fun t j c h => ?_, rfl, fun t a b c d => ?_, fun c => ?_, rfl, rfl, fun i hi => ?_, ?_, ?_, ?_⟩
    · rw [sA_1, fr _ _ _ _ _ _ h, sA_1, sA_1, sA_1]
    · rw [sA_o a, sI_2, sI_2, sA_o d, sA_o c, sA_o b]
    · rw [sA_g]
      rfl
    · rw [sA_o (by decide), sA_o (by decide), sA_o (by decide), sI_2, sI_2]
      refine ⟨?_, ?_, ?_⟩
      · rw [sA_o (by decide), sA_o (by decide), sA_g, if_neg (by omega)]
        rfl
      · rw [sA_o (by decide), sA_g, if_neg (by omega)]
        rfl
      · rw [sA_g, if_neg (by omega)]
        rfl
    · rw [sA_o (by decide), sI_2, sI_2, sA_o (by decide), sA_o (by decide), sA_g, if_pos (by omega)]
    · rw [sA_o (by decide), sI_2, sI_2, sA_o (by decide), sA_g, if_pos (by omega)]
    · rw [sA_o (by decide), sI_2, sI_2, sA_g, if_pos (by omega)]
theorem wrN {P k s m : Nat} {σC σM τC τM : SS} {v : Int32} (hP : P ≤ 12) (hN : IvN P σC σM) (hs : slR P k s m) (hv : okV k v) (eC : ∀ c, τC.2.1 2 0 c = if c = s then v else σC.2.1 2 0 c) (eM : ∀ c, τM.2.1 1 0 c = if c = m then v else σM.2.1 1 0 c) : IvN P τC τM := by
  obtain ⟨b1, b2, b3, b4⟩ := hN
  refine ⟨fun p w hp hw => ?_, fun w hw => ?_, fun p w hp hw => ?_, fun w hw => ?_⟩
  · rw [eC, eM]
    by_cases c : 7 * p + w = s
    · rw [if_pos c, if_pos]
      obtain ⟨q, h1, h2, h3, h4⟩ | ⟨h1, h2, h3, h4⟩ := hs <;> omega
    · rw [if_neg c, if_neg, b1 p w hp hw]
      obtain ⟨q, h1, h2, h3, h4⟩ | ⟨h1, h2, h3, h4⟩ := hs <;> omega
  · rw [eC, eM]
    by_cases c : 84 + w = s
    · rw [if_pos c, if_pos]
      obtain ⟨q, h1, h2, h3, h4⟩ | ⟨h1, h2, h3, h4⟩ := hs <;> omega
    · rw [if_neg c, if_neg, b2 w hw]
      obtain ⟨q, h1, h2, h3, h4⟩ | ⟨h1, h2, h3, h4⟩ := hs <;> omega
  · rw [eC]
    by_cases c : 7 * p + w = s
    · rw [if_pos c]
      have : w = k := by obtain ⟨q, h1, h2, h3, h4⟩ | ⟨h1, h2, h3, h4⟩ := hs <;> omega
      rw [this]
      exact hv
    · rw [if_neg c]
      exact b3 p w hp hw
  · rw [eC]
    by_cases c : 84 + w = s
    · rw [if_pos c]
      have : 7 + w = k := by obtain ⟨q, h1, h2, h3, h4⟩ | ⟨h1, h2, h3, h4⟩ := hs <;> omega
      rw [this]
      exact hv
    · rw [if_neg c]
      exact b4 w hw
theorem P_mend {σC σM : SS} (h : Inv σC σM) (a1 a2 a3 : Int32) : ∃ r τC τM, m_X10_mend a1 a2 a3 σC = (r, τC) ∧ m_X11_mend a1 a2 a3 σM = some (r, τM) ∧ Inv τC τM := by
  obtain ⟨P, Bn, lf, hK⟩ := h
  have hI : Inv σC σM := ⟨P, Bn, lf, hK⟩
  unfold m_X10_mend m_X11_mend
  rcases slot hK.1 a1 a2 with ⟨k, s, m, hs, hk, rfl, e1, e2⟩ | ⟨e1, e2⟩
  · have hl := hs.lt hK.1.1
    rw [e1, e2, if_neg (zI_ge (by omega)), if_neg (zI_ge (by omega))]
    by_cases c : okV k a3
    · rw [if_neg (fun e => (said hk a3).mp e c), if_neg (fun e => (mayB hk a3).mp e c), rd8 hl.1]
      obtain ⟨g1, g2⟩ := hs.rd hK.1.1 hK.2.1
      by_cases d : σC.2.1 2 0 s = a3
      · rw [if_pos d]
        unfold m_X11_becomes
        rw [if_neg (zI_in (by omega) hl.2.1), zI_cl (by omega), g1, if_pos d]
        exact ⟨_, _, _, rfl, rfl, hI⟩
      · rw [if_neg d]
        simp only [bnT]
        obtain ⟨h1, h2, h3, h4, h5, h6, h7, h8, h9⟩ := hK
        obtain ⟨D, S, d1, d2, d3, d4, d5, d6, d7⟩ := h3
        obtain ⟨τC, q1, q2, q3, q4, q5, q6, q7, q8, q9, q10, q11⟩ := noteC (P := 0) (S := 0) (k := 0) (m := 0) d3 (by omega) hl.1 (σC.2.1 2 0 s) a3
        obtain ⟨τM, r1, r2, r3, r4, r5, r6, r7, r8, r9, r10, r11⟩ := noteM d4 (by omega) hl.2.1 g1 d
        rw [q1, r1]
        refine ⟨_, _, _, rfl, rfl, P, Bn, lf, ?_, wrN h1.1 h2 hs c q5 r5, ⟨D + 1 - D / 40, D + 1 - D / 40, Nat.le_refl _, by omega, q6, r6, q7, r7, fun i hi => ?_⟩, ?_, ?_, ?_, ?_, ?_, ?_⟩
        · exact h1.c (q2 _ _ _ (by decide)) (r2 _ _ _ (by decide)) (r2 _ _ _ (by decide))
        · by_cases f : i < D - D / 40
          · obtain ⟨k', s', m', z1, z2, z3, z4, z5, z6⟩ := d7 (i + D / 40) (by omega)
            obtain ⟨u1, u2, u3⟩ := q8 i f
            obtain ⟨v1, v2, v3⟩ := r8 i f
            rw [u1, u2, u3, v1, v2, v3]
            exact ⟨k', s', m', z1, z2, z3, z4, z5, z6⟩
          · have : i = D - D / 40 := by omega
            subst this
            rw [q9, q10, q11, r9, r10, r11]
            exact ⟨k, s, m, hs, rfl, rfl, rfl, rfl, g2, c⟩
        · exact h4.c (q2 _ _ _ (by decide)) (r2 _ _ _ (by decide)) (by rw [q4 8 (by decide) (by decide) (by decide) (by decide)]) (by rw [r4 5 (by decide) (by decide) (by decide) (by decide)])
        · exact h5.c (q2 _ _ _ (by decide)) (r2 _ _ _ (by decide)) (by rw [q4 9 (by decide) (by decide) (by decide) (by decide)]) (by rw [q4 10 (by decide) (by decide) (by decide) (by decide)]) (by rw [r4 6 (by decide) (by decide) (by decide) (by decide)])
        · exact h6.c (funext fun j => funext fun c => q2 28 j c (by decide)) (by rw [q3]) (by rw [r4 14 (by decide) (by decide) (by decide) (by decide)]) (by rw [r4 15 (by decide) (by decide) (by decide) (by decide)]) (by rw [r3])
        · exact h7.c (q2 _ _ _ (by decide)) (r2 _ _ _ (by decide)) (by rw [q4 25 (by decide) (by decide) (by decide) (by decide)]) (by rw [r4 12 (by decide) (by decide) (by decide) (by decide)])
        · exact h8.c (q2 _ _ _ (by decide)) (r2 _ _ _ (by decide)) (by rw [q4 26 (by decide) (by decide) (by decide) (by decide)]) (by rw [r4 13 (by decide) (by decide) (by decide) (by decide)])
        · exact h9.c (funext fun c => q2 22 0 c (by decide)) (funext fun c => q2 23 0 c (by decide)) (q2 21 0 4 (by decide)) (fun c _ _ => r2 0 0 c (by omega)) (by rw [r4 11 (by decide) (by decide) (by decide) (by decide)])
    · rw [if_pos ((said hk a3).mpr c), if_pos ((mayB hk a3).mpr c)]
      exact ⟨_, _, _, rfl, rfl, hI⟩
  · rw [e1, e2, if_pos (by decide), if_pos (by decide)]
    exact ⟨_, _, _, rfl, rfl, hI⟩
theorem P_undo {σC σM : SS} (h : Inv σC σM) : ∃ r τC τM, m_X10_undo σC = some (r, τC) ∧ m_X11_undo σM = some (r, τM) ∧ Inv τC τM := by
  obtain ⟨P, Bn, lf, hK⟩ := h
  have hI : Inv σC σM := ⟨P, Bn, lf, hK⟩
  obtain ⟨h1, h2, h3, h4, h5, h6, h7, h8, h9⟩ := hK
  obtain ⟨D, S, d1, d2, d3, d4, d5, d6, d7⟩ := h3
  unfold m_X10_undo m_X11_undo
  rw [d3, d4]
  by_cases c : D = 0
  · subst c
    rw [if_pos (show zI 0 = 0 from rfl), if_pos (show zI 0 = 0 from rfl)]
    exact ⟨_, _, _, rfl, rfl, hI⟩
  · obtain ⟨k, s, m, z1, z2, z3, z4, z5, z6, z7⟩ := d7 (D - 1) (by omega)
    have hl := z1.lt h1.1
    have eC : m_X1_stepBack σC = some (sA (sI σC 3 0 4 (zI (D - 1))) 2 0 s (σC.2.1 5 0 (D - 1))) := by
      unfold m_X1_stepBack
      rw [d3, i1, if_neg (by rw [zI_lt (by omega) (by omega)]; omega), if_pos (by rw [i40, zI_le (by omega) (by omega)]; omega), zI_sub (by omega), if_neg (zI_in (by omega) (by omega)), zI_cl (by omega), z2, wr8 hl.1]
      rfl
    have c' : ¬ zI D = 0 := by rw [i0, zI_eq (by omega) (by omega)]; exact c
    rw [if_neg c', if_neg c', eC, i1, zI_sub (by omega), if_neg (zI_in (by omega) (by omega)), zI_cl (by omega), z3, if_neg (zI_in (by omega) hl.2.1), zI_cl (by omega)]
    simp only [Option.bind]
    refine ⟨_, _, _, rfl, rfl, P, Bn, lf, ?_, wrN h1.1 h2 z1 z6 (fun c => sA_g _ _ _ _ _ _) (fun c => by rw [sA_g, z4]; rfl), ⟨D - 1, S, by omega, d2, rfl, rfl, d5, d6, d7⟩, ?_, ?_, ?_, ?_, ?_, ?_⟩
    · exact h1.c rfl rfl rfl
    · exact h4.c rfl rfl rfl rfl
    · exact h5.c rfl rfl rfl rfl rfl
    · exact h6.c rfl rfl rfl rfl rfl
    · exact h7.c rfl rfl rfl rfl
    · exact h8.c rfl rfl rfl rfl
    · refine h9.c rfl rfl rfl (fun q a b => ?_) rfl
      show (sI _ 0 0 5 _).1 0 0 q = _
      rw [sI_g, if_neg (by omega)]
theorem P_redo {σC σM : SS} (h : Inv σC σM) : ∃ r τC τM, m_X10_redo σC = (r, τC) ∧ m_X11_redo σM = some (r, τM) ∧ Inv τC τM := by
  obtain ⟨P, Bn, lf, hK⟩ := h
  have hI : Inv σC σM := ⟨P, Bn, lf, hK⟩
  obtain ⟨h1, h2, h3, h4, h5, h6, h7, h8, h9⟩ := hK
  obtain ⟨D, S, d1, d2, d3, d4, d5, d6, d7⟩ := h3
  unfold m_X10_redo m_X11_redo
  rw [d3, d4, d5, d6]
  by_cases c : D < S
  · obtain ⟨k, s, m, z1, z2, z3, z4, z5, z6, z7⟩ := d7 D c
    have hl := z1.lt h1.1
    rw [if_pos (by rw [zI_lt (by omega) (by omega)]; exact c), if_neg (by rw [zI_eq (by omega) (by omega)]; omega), if_neg (zI_in (by omega) (by omega)), zI_cl (by omega), z3, if_neg (zI_in (by omega) hl.2.1), zI_cl (by omega), i1, zI_add, zI_sub (by omega)]
    unfold m_X1_stepOn
    rw [d3, d5, if_neg (zI_ge (by omega)), if_neg (by rw [zI_le (by omega) (by omega)]; omega), if_pos (by rw [i40, zI_lt (by omega) (by omega)]; omega), zI_cl (by omega), z2, wr8 hl.1]
    simp only [bnT, sA_1, d3]
    rw [i1, zI_add]
    refine ⟨zI (S - (D + 1)), _, _, ?_, rfl, P, Bn, lf, ?_, wrN (τC := sI (sA σC 2 0 s (σC.2.1 6 0 D)) 3 0 4 (zI (D + 1))) h1.1 h2 z1 z7 (fun c => sA_g _ _ _ _ _ _) (fun c => by rw [sI_2, sA_g, z5]), ⟨D + 1, S, by omega, d2, rfl, rfl, d5, d6, d7⟩, ?_, ?_, ?_, ?_, ?_, ?_⟩
    · rw [← zI_sub (by omega), ← d5]
      rfl
    · exact h1.c rfl rfl rfl
    · exact h4.c rfl rfl rfl rfl
    · exact h5.c rfl rfl rfl rfl rfl
    · exact h6.c rfl rfl rfl rfl rfl
    · exact h7.c rfl rfl rfl rfl
    · exact h8.c rfl rfl rfl rfl
    · refine h9.c rfl rfl rfl (fun q a b => ?_) rfl
      show (sI _ 0 0 5 _).1 0 0 q = _
      rw [sI_g, if_neg (by omega)]
      rfl
  · rw [if_neg (by rw [zI_lt (by omega) (by omega)]; exact c), if_pos (by rw [zI_eq (by omega) (by omega)]; omega)]
    exact ⟨_, _, _, rfl, rfl, hI⟩
