/-! the law's text: what the reading of it keeps -/
section PARSE
variable {B : Nat → Int32} {F : Nat}
def gd {β : Type} (F a : Nat) (x : Nat ⊕ (Nat × CD × β)) : Prop := match x with
  | .inl e => e ≤ F
  | .inr q => a < q.1 ∧ q.1 ≤ F ∧ q.2.1.length + a ≤ q.1
theorem bt_lt {a : Nat} (h : ¬ btA B F a = -1) : a < F := by
  unfold btA at h
  by_cases c : a < F
  · exact c
  · rw [if_neg c] at h
    exact absurd rfl h
theorem bt_c {a : Nat} {c : Int32} (h : btA B F a = c) (hc : ¬ c = -1) : a < F := bt_lt (fun e => hc (h.symm.trans e))
theorem bt_d {a : Nat} (h : ¬ m_X3_isDigit (btA B F a) = 0) : a < F := bt_lt (fun e => h (by rw [e]; rfl))
theorem bt_n {a : Nat} (h : ¬ m_X3_nameOf (btA B F a) < 0) : a < F := bt_lt (fun e => h (by rw [e]; decide))
theorem bt_l {a k : Nat} (hk : k < 5) (h : m_X3_levelOf (btA B F a) = zI k) : a < F := bt_lt (fun e => by
  rw [e] at h
  exact absurd h.symm (zI_ne (by omega)))
theorem pNum_a (bt : Nat → Int32) : ∀ (n a : Nat) (v : Int32), a ≤ (pNum bt n a v).1
  | 0, a, v => Nat.le_refl _
  | n + 1, a, v => by
    unfold pNum
    by_cases c : m_X3_isDigit (bt a) = 0
    · rw [if_pos c]
      exact Nat.le_refl _
    · rw [if_neg c]
      have := pNum_a bt n (a + 1) (v * 10 + bt a - 48)
      omega
theorem pNum_F : ∀ (n a : Nat) (v : Int32), a ≤ F → (pNum (btA B F) n a v).1 ≤ F
  | 0, a, v, h => h
  | n + 1, a, v, h => by
    unfold pNum
    by_cases c : m_X3_isDigit (btA B F a) = 0
    · rw [if_pos c]; exact h
    · rw [if_neg c]
      exact pNum_F n (a + 1) _ (bt_d c)
theorem gd_atom {a : Nat} (ha : a ≤ F) {els : PR} (h : gd F a els) : gd F a (pAtom (btA B F) a els) := by
  unfold pAtom
  by_cases c : m_X3_isDigit (btA B F a) = 0
  · rw [if_pos c]
    by_cases d : m_X3_nameOf (btA B F a) < 0
    · rw [if_pos d]; exact h
    · rw [if_neg d]
      have := bt_n d
      exact ⟨Nat.lt_succ_self a, this, by simp; omega⟩
  · rw [if_neg c]
    have h1 : a < (pNum (btA B F) 4 a 0).1 := by
      show a < (if _ then _ else _ : Nat × Int32).1
      rw [if_neg c]
      exact pNum_a _ 3 (a + 1) _
    exact ⟨h1, pNum_F 4 a 0 ha, by simp; omega⟩
theorem gd_bd {β γ : Type} {a b : Nat} {x : PR} {f : Nat → CD → FN → Nat ⊕ (Nat × CD × γ)} (hx : gd F b x) (hf : ∀ a' c g, b < a' → a' ≤ F → c.length + b ≤ a' → gd F a (f a' c g)) : gd F a (pBd x f) := by
  cases x with
  | inl e => exact hx
  | inr q => exact hf _ _ _ hx.1 hx.2.1 hx.2.2
theorem gd_loop {sub : Nat → PR} (hs : ∀ a, a ≤ F → gd F a (sub a)) {k : Nat} (hk : k < 5) (s : Nat) : ∀ (n a : Nat) (c : CD) (f : FN), s < a → a ≤ F → c.length + s ≤ a → gd F s (pLoop (btA B F) sub (zI k) n a c f)
  | 0, a, c, f, h1, h2, h3 => ⟨h1, h2, h3⟩
  | n + 1, a, c, f, h1, h2, h3 => by
    unfold pLoop
    by_cases e : m_X3_levelOf (btA B F a) = zI k
    · rw [if_pos e]
      have hl := bt_l hk e
      refine gd_bd (β := Unit) (hs (a + 1) hl) (fun a' c' g q1 q2 q3 => ?_)
      by_cases d : zI k = 2
      · rw [if_pos d]
        exact ⟨by omega, q2, by simp; omega⟩
      · rw [if_neg d]
        exact gd_loop hs hk s n a' _ _ (by omega) q2 (by simp; omega)
    · rw [if_neg e]
      exact ⟨h1, h2, h3⟩
theorem gd_L {sub : Nat → PR} (hs : ∀ a, a ≤ F → gd F a (sub a)) {k : Nat} (hk : k < 5) (a : Nat) (ha : a ≤ F) : gd F a (pL (btA B F) sub (zI k) a) :=
  gd_bd (β := Unit) (hs a ha) (fun a' c g q1 q2 q3 => gd_loop hs hk a 120 a' c g q1 q2 q3)
theorem gd_K {op : Nat → PR} (hs : ∀ a, a ≤ F → gd F a (op a)) : ∀ (j a : Nat), a ≤ F → gd F a (pK (btA B F) op j a)
  | 0, a, ha => hs a ha
  | j + 1, a, ha => gd_L (fun a ha => gd_K hs j a ha) (by omega) a ha
theorem gd_Op : ∀ (d a : Nat), a ≤ F → gd F a (pOp (btA B F) d a)
  | 0, a, ha => gd_atom ha ha
  | d + 1, a, ha => by
    refine gd_atom ha ?_
    by_cases c1 : btA B F a = 33
    · rw [if_pos c1]
      exact gd_bd (β := Unit) (gd_Op d (a + 1) (bt_c c1 (by decide))) (fun a' c g q1 q2 q3 => ⟨by omega, q2, by simp; omega⟩)
    · rw [if_neg c1]
      by_cases c2 : btA B F a = 45
      · rw [if_pos c2]
        exact gd_bd (β := Unit) (gd_Op d (a + 1) (bt_c c2 (by decide))) (fun a' c g q1 q2 q3 => ⟨by omega, q2, by simp; omega⟩)
      · rw [if_neg c2]
        by_cases c3 : btA B F a = 40
        · rw [if_pos c3]
          refine gd_bd (β := Unit) (gd_K (fun a ha => gd_Op d a ha) 5 (a + 1) (bt_c c3 (by decide))) (fun a' c g q1 q2 q3 => ?_)
          by_cases c4 : btA B F a' = 41
          · rw [if_pos c4]
            exact ⟨by omega, bt_c c4 (by decide), by simp; omega⟩
          · rw [if_neg c4]
            exact q2
        · rw [if_neg c3]
          exact ha
theorem gd_E (a : Nat) (ha : a ≤ F) : gd F a (pE (btA B F) a) := gd_K (fun a ha => gd_Op 6 a ha) 5 a ha
theorem gd_qb {β γ : Type} {a b : Nat} {x : QR} {f : Nat → CD → LN → Nat ⊕ (Nat × CD × γ)} {p : Nat → CD → Prop} (hx : match x with | .inl e => e ≤ F | .inr q => p q.1 q.2.1) (hf : ∀ a' c g, p a' c → gd F a (f a' c g)) : gd F a (qBd x f) := by
  cases x with
  | inl e => exact hx
  | inr q => exact hf _ _ _ hx
/-- a line: one step more than bytes at most -/
def gl (F a : Nat) (x : QR) : Prop := match x with
  | .inl e => e ≤ F
  | .inr q => a < q.1 ∧ q.1 ≤ F ∧ q.2.1.length + a ≤ q.1 + 1 ∧ 0 < q.2.1.length
theorem gl_line (a : Nat) (ha : a ≤ F) : gl F a (pLine (btA B F) a) := by
  unfold pLine
  have h := gd_E (B := B) a ha
  cases hx : pE (btA B F) a with
  | inl e => rw [hx] at h; exact h
  | inr q =>
    rw [hx] at h
    show gl F a (if _ then _ else _)
    by_cases c : btA B F q.1 = 63
    · rw [if_pos c]
      have h2 := gd_E (B := B) (q.1 + 1) (bt_c c (by decide))
      cases hy : pE (btA B F) (q.1 + 1) with
      | inl e => rw [hy] at h2; exact h2
      | inr r =>
        rw [hy] at h2
        obtain ⟨u1, u2, u3⟩ := h
        obtain ⟨v1, v2, v3⟩ := h2
        exact ⟨by show a < r.1; omega, v2, by simp; omega, by simp only [List.length_append, List.length_cons]; omega⟩
    · rw [if_neg c]
      obtain ⟨u1, u2, u3⟩ := h
      exact ⟨u1, u2, by simp; omega, by simp⟩
def gt (F : Nat) (x : QR) : Prop := match x with
  | .inl e => e ≤ F
  | .inr q => q.1 ≤ F ∧ q.2.1.length ≤ q.1 + 1 ∧ 0 < q.2.1.length
theorem gt_tx : ∀ (n a : Nat) (c : CD) (g : LN), a ≤ F → c.length ≤ a + 1 → 0 < c.length → gt F (pTx (btA B F) n a c g)
  | 0, a, c, g, h1, h2, h3 => ⟨h1, h2, h3⟩
  | n + 1, a, c, g, h1, h2, h3 => by
    unfold pTx
    by_cases e : btA B F a = 59
    · rw [if_pos e]
      have h := gl_line (B := B) (a + 1) (bt_c e (by decide))
      cases hx : pLine (btA B F) (a + 1) with
      | inl e => rw [hx] at h; exact h
      | inr q =>
        rw [hx] at h
        obtain ⟨u1, u2, u3, u4⟩ := h
        exact gt_tx n q.1 _ _ u2 (by simp only [List.length_append]; omega) (by simp only [List.length_append]; omega)
    · rw [if_neg e]
      exact ⟨h1, h2, h3⟩
end PARSE
