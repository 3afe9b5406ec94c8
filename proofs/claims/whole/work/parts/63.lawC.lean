/-! the class: lines, the tape -/
section LAWC2
variable {B : Nat → Int32} {F : Nat} {α : SS}
theorem cLine (hα : HC α B F) (a : Nat) (l : CD) (σ : SS) (ha : a ≤ F) (hl : l.length ≤ a) (h : KS α a l σ) : CP α l (pLine (btA B F) a) (m_X3_readLine σ) := by
  have hF := hα.2.2
  unfold m_X3_readLine
  refine (cE hα a l σ ha (by omega) h).bd (fun e σ' he hk => ?_) (fun a' c u σ' he hk => ?_)
  · have hb := gd_E (B := B) a ha
    rw [he] at hb
    have hb : e ≤ F := hb
    rw [if_pos (hk.nf (by omega))]
    exact ⟨_, rfl, hk.ad _ _⟩
  · have hb := gd_E (B := B) a ha
    rw [he] at hb
    obtain ⟨b1, b2, b3⟩ : a < a' ∧ a' ≤ F ∧ c.length + a ≤ a' := hb
    rw [if_neg hk.nf, nextC hα b2 hk, hk.1, show zI a' + 1 = zI (a' + 1) from zI_add a' 1]
    by_cases d : btA B F a' = 63
    · rw [if_pos d, if_pos d]
      have hlt := bt_c d (by decide)
      have hk2 := (hk.at (b := a' + 1)).ad (by rw [List.length_append]; omega) 63 0
      have hE := cE hα (a' + 1) _ _ hlt (by simp only [List.length_append, List.length_cons, List.length_nil]; omega) hk2
      refine hE.bd (fun e σ' he hk => ⟨_, rfl, hk.ad _ _⟩) (fun a2 c2 u2 σ2 he2 hk3 => ?_)
      have hb := gd_E (B := B) (a' + 1) hlt
      rw [he2] at hb
      obtain ⟨e1, e2, e3⟩ : a' + 1 < a2 ∧ a2 ≤ F ∧ c2.length + (a' + 1) ≤ a2 := hb
      have := hk3.ad (by simp only [List.length_append, List.length_cons, List.length_nil]; omega) 59 0
      rw [show l ++ c ++ [(63, 0)] ++ c2 ++ [(59, 0)] = l ++ (c ++ [(63, 0)] ++ c2 ++ [(59, 0)]) by simp [List.append_assoc]] at this
      exact ⟨_, rfl, this⟩
    · rw [if_neg d, if_neg d]
      have := hk.ad (by rw [List.length_append]; omega) 59 0
      rw [List.append_assoc] at this
      exact ⟨_, rfl, this⟩
def okC (σ : SS) : SS := sI (sAf (sAf (sI σ 7 0 1 0) 9 0 (va_cpy (σ.2.1 11 0) (σ.2.1 9 0) 0 0 128)) 10 0 (va_cpy (σ.2.1 12 0) (σ.2.1 10 0) 0 0 128)) 7 0 4 (σ.1 7 0 7)
theorem tapF {e : Nat} {σ : SS} (he : e ≤ 120) (h : KF α e σ) (n : Nat) (v1 : Int32) : L_X3_readTape_21 (n + 1) v1 σ = some (zI e, sI σ 7 0 1 0) := by
  have f1 := h.nf he
  have f2 : ¬ σ.1 7 0 9 < 0 := Int32.not_lt.mpr f1
  unfold L_X3_readTape_21
  by_cases c : (120 : Int32) ≤ v1
  · rw [if_pos c, if_pos f1, if_neg f2, h.1]
  · rw [if_neg c, if_pos f1, if_neg f2, h.1]
theorem tapK (hα : HC α B F) {a : Nat} {l : CD} {σ : SS} (ha : a ≤ F) (h : KS α a l σ) (n : Nat) (v1 : Int32) (hv : (120 : Int32) ≤ v1 ∨ ¬ btA B F a = 59) : L_X3_readTape_21 (n + 1) v1 σ = if a < F then some (zI a, sI (sI σ 7 0 9 (zI a)) 7 0 1 0) else some (-1, okC σ) := by
  have hF := hα.2.2
  have f1 := h.nf
  have f2 : σ.1 7 0 9 < 0 := Int32.not_le.mp f1
  have g1 : σ.1 7 0 1 = zI F := by rw [h.2.2.2.2.1 7 0 1 (by omega)]; exact hα.1
  have g2 : σ.1 7 0 1 ≤ σ.1 7 0 8 ↔ ¬ a < F := by rw [g1, h.1, zI_le (by omega) (by omega)]; omega
  have g3 : ¬ σ.1 7 0 8 < 0 := by rw [h.1]; exact zI_ge (by omega)
  have g4 := nextC hα ha h
  unfold L_X3_readTape_21
  by_cases c : (120 : Int32) ≤ v1
  · rw [if_pos c, if_neg f1]
    by_cases d : a < F
    · rw [if_neg (fun z => g2.mp z d), if_neg g3, if_pos d, h.1]
    · rw [if_pos (g2.mpr d), if_pos f2, if_neg d]
      rfl
  · have hv' : ¬ m_X3_next σ = 59 := by rw [g4]; exact hv.resolve_left c
    rw [if_neg c, if_neg f1, if_neg hv']
    by_cases d : a < F
    · rw [if_neg (fun z => g2.mp z d), if_neg g3, if_pos d, h.1]
    · rw [if_pos (g2.mpr d), if_pos f2, if_neg d]
      rfl
def CT (α : SS) (F : Nat) (x : QR) (r : Option (Int32 × SS)) : Prop := match x with
  | .inl e => ∃ τ, r = some (zI e, sI τ 7 0 1 0) ∧ KF α e τ
  | .inr q => ∃ τ, r = (if q.1 < F then some (zI q.1, sI (sI τ 7 0 9 (zI q.1)) 7 0 1 0) else some (-1, okC τ)) ∧ KS α q.1 q.2.1 τ
theorem cTape (hα : HC α B F) : ∀ (n m v1 a : Nat) (c : CD) (g : LN) (σ : SS), v1 + n = 120 → n < m → a ≤ F → c.length ≤ a + 1 → KS α a c σ → CT α F (pTx (btA B F) n a c g) (L_X3_readTape_21 m (zI v1) σ)
  | n, 0, v1, a, c, g, σ, h0, hn, ha, hl, h => absurd hn (by omega)
  | 0, m + 1, v1, a, c, g, σ, h0, hn, ha, hl, h => ⟨σ, tapK hα ha h m _ (Or.inl (by rw [i120, zI_le (by omega) (by omega)]; omega)), h⟩
  | n + 1, m + 1, v1, a, c, g, σ, h0, hn, ha, hl, h => by
    have hF := hα.2.2
    unfold pTx
    by_cases d : btA B F a = 59
    · rw [if_pos d]
      have hlt := bt_c d (by decide)
      have e : L_X3_readTape_21 (m + 1) (zI v1) σ = Option.bind (m_X3_readLine (sI σ 7 0 8 (zI (a + 1)))) (fun q11 => L_X3_readTape_21 m (zI (v1 + 1)) q11) := by
        have g4 := nextC hα ha h
        rw [d] at g4
        rw [L_X3_readTape_21, if_neg (show ¬ (120 : Int32) ≤ zI v1 by rw [i120, zI_le (by omega) (by omega)]; omega), if_neg h.nf, if_pos g4, h.1, show zI a + 1 = zI (a + 1) from zI_add a 1, show zI v1 + 1 = zI (v1 + 1) from zI_add v1 1]
      rw [e]
      have hL := cLine hα (a + 1) c _ hlt hl h.at
      have hg := gl_line (B := B) (a + 1) hlt
      cases hx : pLine (btA B F) (a + 1) with
      | inl e =>
        rw [hx] at hL hg
        obtain ⟨τ, t1, t2⟩ := hL
        have hg : e ≤ F := hg
        refine ⟨τ, ?_, t2⟩
        rw [t1]
        match m, (by omega : 0 < m) with
        | m + 1, _ => exact tapF (by omega) t2 m _
      | inr q =>
        rw [hx] at hL hg
        obtain ⟨τ, t1, t2⟩ := hL
        obtain ⟨u1, u2, u3, u4⟩ := hg
        rw [t1]
        exact cTape hα n m (v1 + 1) q.1 _ _ τ (by omega) (by omega) u2 (by rw [List.length_append]; omega) t2
    · rw [if_neg d]
      exact ⟨σ, tapK hα ha h m _ (Or.inr d), h⟩
/-- what the class's reading leaves -/
def FL (α τ : SS) : Prop := (∀ t j k, ¬ (t = 7 ∧ (k = 1 ∨ k = 4 ∨ k = 7 ∨ k = 8 ∨ k = 9)) → τ.1 t j k = α.1 t j k) ∧ (∀ t, t ≠ 9 → t ≠ 10 → t ≠ 11 → t ≠ 12 → τ.2.1 t = α.2.1 t) ∧ τ.2.2 = α.2.2 ∧ τ.1 7 0 1 = 0
theorem SmC.fl {σ : SS} (h : SmC α σ) : FL α (sI σ 7 0 1 0) := by
  obtain ⟨s1, s2, s3⟩ := h
  refine ⟨fun t j k hk => ?_, fun t a b c d => s2 t c d, s3, rfl⟩
  rw [← s1 t j k (by omega)]
  exact if_neg (by omega)
theorem SmC.ft {σ : SS} (h : SmC α σ) (v : Int32) : SmC α (sI σ 7 0 9 v) := by
  obtain ⟨s1, s2, s3⟩ := h
  refine ⟨fun t j k hk => ?_, s2, s3⟩
  rw [← s1 t j k hk]
  exact if_neg (by omega)
theorem okC_ok {a : Nat} {l : CD} {σ : SS} (hl : l.length ≤ 128) (h : KS α a l σ) : FL α (okC σ) ∧ (okC σ).1 7 0 4 = zI l.length ∧ cdAt l ((okC σ).2.1 9 0) ((okC σ).2.1 10 0) := by
  obtain ⟨h1, h2, h3, h4, s1, s2, s3⟩ := h
  refine ⟨⟨fun t j k hk => ?_, fun t a b c d => ?_, s3, rfl⟩, h3, fun i hi => ?_⟩
  · rw [← s1 t j k (by omega)]
    unfold okC
    show (if _ then _ else (sI σ 7 0 1 0).1 t j k) = _
    rw [if_neg (by omega)]
    exact if_neg (by omega)
  · rw [← s2 t c d]
    unfold okC
    funext x y
    show (if _ then _ else (if _ then _ else _)) = _
    rw [if_neg (by omega), if_neg (by omega)]
    rfl
  · have e : ∀ f g : Nat → Int32, va_cpy f g 0 0 128 i = f i := fun f g => by
      unfold va_cpy
      rw [if_pos (by omega)]
      congr 1
      omega
    have := h4 i hi
    rw [← this.1, ← this.2]
    exact ⟨e _ _, e _ _⟩
theorem cText (hα : HC α B F) : match pText (btA B F) F with
    | .inl e => e ≤ 120 ∧ ∃ τ, m_X10_law α = some (-100 - zI e, τ) ∧ FL α τ ∧ τ.1 7 0 4 = α.1 7 0 4 ∧ τ.2.1 9 0 = α.2.1 9 0 ∧ τ.2.1 10 0 = α.2.1 10 0
    | .inr q => 0 < q.1.length ∧ q.1.length ≤ 128 ∧ ∃ τ, m_X10_law α = some (1, τ) ∧ FL α τ ∧ τ.1 7 0 4 = zI q.1.length ∧ cdAt q.1 (τ.2.1 9 0) (τ.2.1 10 0) := by
  have hF := hα.2.2
  have h0 : KS α 0 [] (sI (sI (sI α 7 0 8 0) 7 0 9 (-1)) 7 0 7 0) := by
    refine ⟨rfl, rfl, rfl, fun i hi => absurd hi (by simp), fun t j k hk => ?_, fun _ _ _ => rfl, rfl⟩
    show (if _ then _ else (if _ then _ else (if _ then _ else _))) = _
    rw [if_neg (by omega), if_neg (by omega), if_neg (by omega)]
  have flt : ∀ (e : Nat) (τ : SS), e ≤ 120 → KF α e τ → e ≤ 120 ∧ ∃ τ', (if (0 : Int32) ≤ zI e then some ((-100 : Int32) - zI e, sI τ 7 0 1 0) else some (1, sI τ 7 0 1 0)) = some (-100 - zI e, τ') ∧ FL α τ' ∧ τ'.1 7 0 4 = α.1 7 0 4 ∧ τ'.2.1 9 0 = α.2.1 9 0 ∧ τ'.2.1 10 0 = α.2.1 10 0 := fun e τ he hk => by
    obtain ⟨k1, k2⟩ := hk
    rw [if_pos (zI_ge' (by omega))]
    refine ⟨he, _, rfl, k2.fl, ?_, ?_, ?_⟩
    · rw [← k2.1 7 0 4 (by omega)]
      rfl
    · rw [← k2.2.1 9 (by decide) (by decide)]
      rfl
    · rw [← k2.2.1 10 (by decide) (by decide)]
      rfl
  unfold m_X10_law m_X3_readTape pText
  have hL := cLine hα 0 [] _ (by omega) (Nat.le_refl _) h0
  have hg := gl_line (B := B) (F := F) 0 (by omega)
  cases hx : pLine (btA B F) 0 with
  | inl e =>
    rw [hx] at hL hg
    obtain ⟨τ, t1, t2⟩ := hL
    have hg : e ≤ F := hg
    rw [t1]
    show e ≤ 120 ∧ ∃ τ', Option.bind (L_X3_readTape_21 FU 0 τ) _ = _ ∧ _
    rw [show FU = 99999 + 1 from rfl, tapF (by omega) t2 99999 0]
    exact flt e τ (by omega) t2
  | inr q =>
    rw [hx] at hL hg
    obtain ⟨τ, t1, t2⟩ := hL
    obtain ⟨u1, u2, u3, u4⟩ := hg
    have hT := cTape hα 120 FU 0 q.1 q.2.1 q.2.2 τ (by omega) (by unfold FU; omega) u2 (by omega) t2
    have hg2 := gt_tx (B := B) (F := F) 120 q.1 q.2.1 q.2.2 u2 (by omega) u4
    rw [t1]
    simp only [Option.bind_some]
    rw [show (0 : Int32) = zI 0 from rfl]
    show match qBd (pTx (btA B F) 120 q.1 q.2.1 q.2.2) (fun a' c' g' => if a' < F then .inl a' else .inr (c', fun ν => (g' ν).getD 0)) with
      | .inl e => _
      | .inr q => _
    cases hy : pTx (btA B F) 120 q.1 q.2.1 q.2.2 with
    | inl e =>
      rw [hy] at hT hg2
      obtain ⟨υ, v1, v2⟩ := hT
      have hg2 : e ≤ F := hg2
      rw [v1]
      exact flt e υ (by omega) v2
    | inr p =>
      rw [hy] at hT hg2
      obtain ⟨υ, v1, v2⟩ := hT
      obtain ⟨w1, w2, w3⟩ := hg2
      rw [v1]
      by_cases c : p.1 < F
      · rw [if_pos c]
        show match (if p.1 < F then .inl p.1 else .inr (p.2.1, _) : Nat ⊕ (CD × FN)) with
          | .inl e => _
          | .inr q => _
        rw [if_pos c]
        exact flt p.1 _ (by omega) v2.ft
      · rw [if_neg c]
        show match (if p.1 < F then .inl p.1 else .inr (p.2.1, _) : Nat ⊕ (CD × FN)) with
          | .inl e => _
          | .inr q => _
        rw [if_neg c]
        obtain ⟨z1, z2, z3⟩ := okC_ok (by omega) v2
        exact ⟨w3, by show p.2.1.length ≤ 128; omega, okC υ, rfl, z1, z2, z3⟩
end LAWC2
