/-! changes: mend, undo, redo -/
theorem mayB {k : Nat} (hk : k < 11) (v : Int32) : m_X11_mayBecome (zI k) v = 0 ↔ ¬ okV k v := by
  have : k = 0 ∨ k = 1 ∨ k = 2 ∨ k = 3 ∨ k = 4 ∨ k = 5 ∨ k = 6 ∨ k = 7 ∨ k = 8 ∨ k = 9 ∨ k = 10 := by omega
  rcases this with rfl | rfl | rfl | rfl | rfl | rfl | rfl | rfl | rfl | rfl | rfl
  · exact (wM32 (x := v) (a := 0) (b := 30))
  · exact (wM32 (x := v) (a := 0) (b := 30))
  · exact (wM32 (x := v) (a := 1) (b := 60))
  · exact (wM32 (x := v) (a := 0) (b := 60))
  · exact (wM32 (x := v) (a := 0) (b := 9))
  · exact (wM32 (x := v) (a := 0) (b := 12))
  · exact (wM32 (x := v) (a := 0) (b := 3))
  · exact (wM32 (x := v) (a := 1) (b := 6))
  · exact (wM32 (x := v) (a := 0) (b := 999))
  · exact (wM32 (x := v) (a := 0) (b := 99))
  · exact (wM32 (x := v) (a := 0) (b := 999))
theorem drop_a (σ : SS) (i : Nat) (h : i < 39) : (m_X1_dropOldest σ).2.1 4 0 i = σ.2.1 4 0 (i + 1) ∧ (m_X1_dropOldest σ).2.1 5 0 i = σ.2.1 5 0 (i + 1) ∧ (m_X1_dropOldest σ).2.1 6 0 i = σ.2.1 6 0 (i + 1) := by
  have e : ∀ f : Nat → Int32, va_cpy f f 1 0 39 i = f (i + 1) := fun f => by
    unfold va_cpy
    rw [if_pos (by omega)]
    congr 1
    omega
  exact ⟨e (σ.2.1 4 0), e (σ.2.1 5 0), e (σ.2.1 6 0)⟩
theorem bec26 : ∀ (n q : Nat) (v1 v2 v3 : Int32) (σ : SS), 1 ≤ q → q ≤ 40 → 40 - q < n → ∃ ρ : SS, ∃ n', L_X11_becomes_26 n v1 v2 v3 (zI q) σ = L_X11_becomes_26 (n' + 1) v1 v2 v3 (zI 40) ρ ∧ ρ.1 = σ.1 ∧ ρ.2.2 = σ.2.2 ∧ (∀ t, t ≠ 2 → t ≠ 3 → t ≠ 4 → ρ.2.1 t = σ.2.1 t) ∧ (∀ i, i < 39 → q ≤ i + 1 → ρ.2.1 2 0 i = σ.2.1 2 0 (i + 1) ∧ ρ.2.1 3 0 i = σ.2.1 3 0 (i + 1) ∧ ρ.2.1 4 0 i = σ.2.1 4 0 (i + 1)) ∧ (∀ i, i + 1 < q → ρ.2.1 2 0 i = σ.2.1 2 0 i ∧ ρ.2.1 3 0 i = σ.2.1 3 0 i ∧ ρ.2.1 4 0 i = σ.2.1 4 0 i)
  | 0, q, v1, v2, v3, σ, h1, h2, h3 => absurd h3 (by omega)
  | n + 1, q, v1, v2, v3, σ, h1, h2, h3 => by
    by_cases e : q = 40
    · subst e
      exact ⟨σ, n, rfl, rfl, rfl, fun _ _ _ _ => rfl, fun i a b => absurd b (by omega), fun i _ => ⟨rfl, rfl, rfl⟩⟩
    · obtain ⟨ρ, n', r1, r2, r3, r4, r5, r6⟩ := bec26 n (q + 1) v1 v2 v3 (sA (sA (sA σ 2 0 (q - 1) (σ.2.1 2 0 q)) 3 0 (q - 1) (σ.2.1 3 0 q)) 4 0 (q - 1) (σ.2.1 4 0 q)) (by omega) (by omega) (by omega)
      refine ⟨ρ, n', ?_, r2, r3, fun t a b c => ?_, fun i a b => ?_, fun i a => ?_⟩
      · rw [← r1]
        show (if _ then _ else _) = _
        rw [if_neg (by rw [i40, zI_le (by omega) (by omega)]; omega), if_neg (zI_in (by omega) (by omega)), i1, zI_sub h1, if_neg (zI_in (by omega) (by omega)), zI_add, zI_cl (by omega), zI_cl (by omega)]
      · rw [r4 t a b c, sA_o c, sA_o b, sA_o a]
      · by_cases f : q = i + 1
        · obtain ⟨g1, g2, g3⟩ := r6 i (by omega)
          subst f
          rw [g1, g2, g3, sA_g, if_pos (by omega)]
          refine ⟨?_, ?_, rfl⟩
          · rw [sA_o (by decide), sA_o (by decide), sA_g, if_pos (by omega)]
          · rw [sA_o (by decide), sA_g, if_pos (by omega)]
        · obtain ⟨g1, g2, g3⟩ := r5 i a (by omega)
          rw [g1, g2, g3, sA_g, if_neg (by omega)]
          refine ⟨?_, ?_, rfl⟩
          · rw [sA_o (by decide), sA_o (by decide), sA_g, if_neg (by omega)]
          · rw [sA_o (by decide), sA_g, if_neg (by omega)]
            rfl
      · obtain ⟨g1, g2, g3⟩ := r6 i (by omega)
        rw [g1, g2, g3, sA_g, if_neg (by omega)]
        refine ⟨?_, ?_, rfl⟩
        · rw [sA_o (by decide), sA_o (by decide), sA_g, if_neg (by omega)]
        · rw [sA_o (by decide), sA_g, if_neg (by omega)]
          rfl
/-- a change is noted, and made: the class -/
theorem noteC {P D S k s m : Nat} {σ : SS} (hD : σ.1 3 0 4 = zI D) (hD40 : D ≤ 40) (hs : s < 88) (w v : Int32) : ∃ τ, m_X8_write (zI s) v (m_X1_note (zI s) w v σ) = τ ∧ (∀ t j c, t ≠ 3 → τ.1 t j c = σ.1 t j c) ∧ τ.2.2 = σ.2.2 ∧ (∀ t, t ≠ 2 → t ≠ 4 → t ≠ 5 → t ≠ 6 → τ.2.1 t = σ.2.1 t) ∧ (∀ c, τ.2.1 2 0 c = if c = s then v else σ.2.1 2 0 c) ∧ τ.1 3 0 4 = zI (D + 1 - D / 40) ∧ τ.1 3 0 3 = zI (D + 1 - D / 40) ∧ (∀ i, i < D - D / 40 → τ.2.1 4 0 i = σ.2.1 4 0 (i + D / 40) ∧ τ.2.1 5 0 i = σ.2.1 5 0 (i + D / 40) ∧ τ.2.1 6 0 i = σ.2.1 6 0 (i + D / 40)) ∧ τ.2.1 4 0 (D - D / 40) = zI s ∧ τ.2.1 5 0 (D - D / 40) = w ∧ τ.2.1 6 0 (D - D / 40) = v := by
  rw [wr8 hs]
  refine ⟨_, rfl, ?_⟩
  unfold m_X1_note
  rw [hD]
  by_cases e : D = 40
  · subst e
    rw [if_neg (show ¬ zI 40 < 40 from Int32.lt_irrefl)]
    simp only [bnT]
    rw [show (m_X1_dropOldest σ).1 3 0 4 = zI 39 from rfl, if_neg (zI_ge (by omega)), if_pos (show zI 39 < 40 from by decide), zI_cl (by omega), i1, zI_add]
    refine ⟨fun t j c h => ?_, rfl, fun t a b c d => ?_, fun c => ?_, rfl, rfl, fun i hi => ?_, ?_, ?_, ?_⟩
    · rw [sA_1, sI_o h, sI_o h, sA_1, sA_1, sA_1]
      unfold m_X1_dropOldest
      rw [sI_o h]
      rfl
    · rw [sA_o a, sI_2, sI_2, sA_o d, sA_o c, sA_o b]
      unfold m_X1_dropOldest
      rw [sI_2]
      funext x y
      simp only [sAf]
      rw [if_neg (by omega), if_neg (by omega), if_neg (by omega)]
    · rw [sA_g]
      rfl
    · obtain ⟨d1, d2, d3⟩ := drop_a σ i (by omega)
      rw [show 40 / 40 = 1 from rfl, ← d1, ← d2, ← d3, sA_o (by decide), sA_o (by decide), sA_o (by decide), sI_2, sI_2]
      refine ⟨?_, ?_, ?_⟩
      · rw [sA_o (by decide), sA_o (by decide), sA_g, if_neg (by omega)]
      · rw [sA_o (by decide), sA_g, if_neg (by omega)]
        rfl
      · rw [sA_g, if_neg (by omega)]
        rfl
    · rw [sA_o (by decide), sI_2, sI_2, sA_o (by decide), sA_o (by decide), sA_g, if_pos rfl]
    · rw [sA_o (by decide), sI_2, sI_2, sA_o (by decide), sA_g, if_pos rfl]
    · rw [sA_o (by decide), sI_2, sI_2, sA_g, if_pos rfl]
  · have h0 : D / 40 = 0 := by omega
    rw [if_pos (by rw [i40, zI_lt (by omega) (by omega)]; omega), if_neg (zI_ge (by omega)), zI_cl (by omega), i1, zI_add, h0]
    refine ⟨fun t j c h => ?_, rfl, fun t a b c d => ?_, fun c => ?_, rfl, rfl, fun i hi => ?_, ?_, ?_, ?_⟩
    · rw [sA_1, sI_o h, sI_o h, sA_1, sA_1, sA_1]
    · rw [sA_o a, sI_2, sI_2, sA_o d, sA_o c, sA_o b]
    · rw [sA_g]
      rfl
    · rw [sA_o (by decide), sA_o (by decide), sA_o (by decide), sI_2, sI_2]
      refine ⟨?_, ?_, ?_⟩
      · rw [sA_o (by decide), sA_o (by decide), sA_g, if_neg (by omega)]
        rfl
      · rw [sA_o (by decide), sA_g, if_neg (by omega)]
        rfl
      · rw [sA_g, if_neg (by omega)]
        rfl
    · rw [sA_o (by decide), sI_2, sI_2, sA_o (by decide), sA_o (by decide), sA_g, if_pos rfl]
    · rw [sA_o (by decide), sI_2, sI_2, sA_o (by decide), sA_g, if_pos rfl]
    · rw [sA_o (by decide), sI_2, sI_2, sA_g, if_pos rfl]
/-- the model -/
theorem noteM {D m : Nat} {σ : SS} (hD : σ.1 0 0 5 = zI D) (hD40 : D ≤ 40) (hm : m < 88) {w v : Int32} (hw : σ.2.1 1 0 m = w) (hne : ¬ w = v) : ∃ τ, m_X11_becomes (zI m) v σ = some (w, τ) ∧ (∀ t j c, ¬ (t = 0 ∧ j = 0 ∧ (c = 4 ∨ c = 5)) → τ.1 t j c = σ.1 t j c) ∧ τ.2.2 = σ.2.2 ∧ (∀ t, t ≠ 1 → t ≠ 2 → t ≠ 3 → t ≠ 4 → τ.2.1 t = σ.2.1 t) ∧ (∀ c, τ.2.1 1 0 c = if c = m then v else σ.2.1 1 0 c) ∧ τ.1 0 0 5 = zI (D + 1 - D / 40) ∧ τ.1 0 0 4 = zI (D + 1 - D / 40) ∧ (∀ i, i < D - D / 40 → τ.2.1 2 0 i = σ.2.1 2 0 (i + D / 40) ∧ τ.2.1 3 0 i = σ.2.1 3 0 (i + D / 40) ∧ τ.2.1 4 0 i = σ.2.1 4 0 (i + D / 40)) ∧ τ.2.1 2 0 (D - D / 40) = zI m ∧ τ.2.1 3 0 (D - D / 40) = w ∧ τ.2.1 4 0 (D - D / 40) = v := by
  have fr : ∀ (ρ : SS) (a b : Int32) (t j c : Nat), ¬ (t = 0 ∧ j = 0 ∧ (c = 4 ∨ c = 5)) → (sI (sI ρ 0 0 5 a) 0 0 4 b).1 t j c = ρ.1 t j c := fun ρ a b t j c h => by
    unfold sI
    show (if _ then _ else (if _ then _ else _)) = _
    rw [if_neg (fun e => h ⟨e.1, e.2.1, Or.inl e.2.2⟩), if_neg (fun e => h ⟨e.1, e.2.1, Or.inr e.2.2⟩)]
  unfold m_X11_becomes
  rw [if_neg (zI_in (by omega) hm), zI_cl (by omega), hw, if_neg hne, hD]
  by_cases e : D = 40
  · subst e
    rw [if_pos (show zI 40 = 40 from rfl)]
    obtain ⟨ρ, n', r1, r2, r3, r4, r5, -⟩ := bec26 FU 1 (zI m) v w σ (by omega) (by omega) (by unfold FU; omega)
    rw [i1, r1]
    unfold L_X11_becomes_26
    rw [if_pos (show (40 : Int32) ≤ zI 40 from Int32.le_refl _), r2, hD, i1, zI_sub (by omega), if_neg (zI_in (by omega) (by omega)), if_neg (zI_in (by omega) hm), zI_cl (by omega), zI_cl (by omega), zI_add]
    refine ⟨_, rfl, fun t j c h => ?_, r3, fun t a b c d => ?_, fun c => ?_, rfl, rfl, fun i hi => ?_, ?_, ?_, ?_⟩
    · rw [sA_1, fr _ _ _ _ _ _ h, sA_1, sA_1, sA_1, ← r2]
      exact if_neg (fun e => h ⟨e.1, e.2.1, Or.inr e.2.2⟩)
    · rw [sA_o a, sI_2, sI_2, sA_o d, sA_o c, sA_o b, sI_2, r4 t b c d]
    · rw [sA_g, sI_2, sI_2, sA_o (by decide), sA_o (by decide), sA_o (by decide), sI_2, r4 1 (by decide) (by decide) (by decide)]
    · obtain ⟨d1, d2, d3⟩ := r5 i (by omega) (by omega)
      rw [show 40 / 40 = 1 from rfl, ← d1, ← d2, ← d3, sA_o (by decide), sA_o (by decide), sA_o (by decide), sI_2, sI_2]
      refine ⟨?_, ?_, ?_⟩
      · rw [sA_o (by decide), sA_o (by decide), sA_g, if_neg (by omega)]
        rfl
      · rw [sA_o (by decide), sA_g, if_neg (by omega)]
        rfl
      · rw [sA_g, if_neg (by omega)]
        rfl
    · rw [sA_o (by decide), sI_2, sI_2, sA_o (by decide), sA_o (by decide), sA_g, if_pos rfl]
    · rw [sA_o (by decide), sI_2, sI_2, sA_o (by decide), sA_g, if_pos rfl]
    · rw [sA_o (by decide), sI_2, sI_2, sA_g, if_pos rfl]
  · have h0 : D / 40 = 0 := by omega
    rw [if_neg (by rw [i40, zI_eq (by omega) (by omega)]; omega), if_neg (zI_in (by omega) (by omega)), zI_cl (by omega), i1, zI_add, h0]
    refine ⟨_, rfl, fun t j c h => ?_, rfl, fun t a b c d => ?_, fun c => ?_, rfl, rfl, fun i hi => ?_, ?_, ?_, ?_⟩
    · rw [sA_1, fr _ _ _ _ _ _ h, sA_1, sA_1, sA_1]
    · rw [sA_o a, sI_2, sI_2, sA_o d, sA_o c, sA_o b]
    · rw [sA_g]
      rfl
    · rw [sA_o (by decide), sA_o (by decide), sA_o (by decide), sI_2, sI_2]
      refine ⟨?_, ?_, ?_⟩
      · rw [sA_o (by decide), sA_o (by decide), sA_g, if_neg (by omega)]
        rfl
      · rw [sA_o (by decide), sA_g, if_neg (by omega)]
        rfl
      · rw [sA_g, if_neg (by omega)]
        rfl
    · rw [sA_o (by decide), sI_2, sI_2, sA_o (by decide), sA_o (by decide), sA_g, if_pos rfl]
    · rw [sA_o (by decide), sI_2, sI_2, sA_o (by decide), sA_g, if_pos rfl]
    · rw [sA_o (by decide), sI_2, sI_2, sA_g, if_pos rfl]
