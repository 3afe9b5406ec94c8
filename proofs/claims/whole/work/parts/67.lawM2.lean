/-! the model: lines, law() -/
section LAWM2
variable {B : Nat → Int32} {F : Nat} {α : SS}
def upG (v : Int32) (x : Option Int32) : Int32 := match x with
  | some _ => if v = 0 then 1 else v
  | none => v
def upV (v w : Int32) (x : Option Int32) : Int32 := match x with
  | some u => if v = 0 then u else w
  | none => w
def eG (x : Option Int32) : Int32 := match x with
  | some _ => 1
  | none => 0
theorem upE (g h : LN) (ν : Nat → Int32) : upG (eG (g ν)) (h ν) = eG (lnOr g h ν) ∧ upV (eG (g ν)) ((g ν).getD 0) (h ν) = (lnOr g h ν).getD 0 := by
  unfold lnOr
  cases g ν with
  | none => cases h ν with
    | none => exact ⟨rfl, rfl⟩
    | some w => exact ⟨rfl, rfl⟩
  | some v => cases h ν with
    | none => exact ⟨rfl, rfl⟩
    | some w => exact ⟨rfl, rfl⟩
theorem wkF {e : Nat} {σ : SS} (h : MF α e σ) (m : Nat) (v3 v4 : Int32) : ∃ w τ, L_X11_workOut_33 (m + 1) v3 v4 0 σ = some (w, τ) ∧ MF α e τ := by
  refine ⟨v4, σ, ?_, h⟩
  show (if _ then (if _ then _ else _) else _) = _
  rw [if_pos (show (0 : Int32) = 0 from rfl), if_pos h.nf]
theorem wkE {a o : Nat} {σ : SS} (ha : a ≤ F) (hF : F ≤ 120) (hE : σ.1 0 0 14 = zI F) (h : MS α a o σ) (m : Nat) (v3 v4 : Int32) : if a < F then ∃ w τ, L_X11_workOut_33 (m + 1) v3 v4 0 σ = some (w, τ) ∧ MF α a τ else L_X11_workOut_33 (m + 1) v3 v4 0 σ = some (v4, σ) := by
  have e : L_X11_workOut_33 (m + 1) v3 v4 0 σ = if σ.1 0 0 14 ≤ σ.1 0 0 13 then some (v4, σ) else some (m_X11_wrong σ) := by
    show (if _ then (if _ then _ else _) else _) = _
    rw [if_pos (show (0 : Int32) = 0 from rfl), if_neg h.nf]
    rfl
  rw [e, hE, h.1]
  by_cases c : a < F
  · rw [if_pos c, if_neg (by rw [zI_le (by omega) (by omega)]; omega)]
    obtain ⟨τ, w1, w2⟩ := h.wr (by omega)
    exact ⟨0, τ, by rw [w1], w2⟩
  · rw [if_neg c, if_pos (by rw [zI_le (by omega) (by omega)]; omega)]
theorem mLine (hα : HM α B F) {a : Nat} {σ : SS} (ha : a ≤ F) (h : MS α a 0 σ) (m : Nat) (v3 v4 : Int32) (hv : v3 = 0 ∨ v3 = 1) : match pLine (btA B F) a with
    | .inl e => ∃ w τ, L_X11_workOut_33 (m + 2) v3 v4 1 σ = some (w, τ) ∧ MF α e τ
    | .inr q => ∃ τ, MS α q.1 0 τ ∧ L_X11_workOut_33 (m + 2) v3 v4 1 σ = Option.bind (m_X11_takes 59 τ) (fun p => L_X11_workOut_33 (m + 1) (upG v3 (q.2.2 (α.2.1 7 0))) (upV v3 v4 (q.2.2 (α.2.1 7 0))) p.1 p.2) := by
  have hF := hα.1
  have fl : ∀ (e : Nat) (τ : SS) (x y : Int32), MF α e τ → ∃ w τ', Option.bind (m_X11_takes 59 τ) (fun p => L_X11_workOut_33 (m + 1) x y p.1 p.2) = some (w, τ') ∧ MF α e τ' := fun e τ x y hk => by
    rw [tkF hk]
    exact wkF hk m x y
  have e0 : L_X11_workOut_33 (m + 2) v3 v4 1 σ = Option.bind (m_GEx 60 0 σ) (fun q5 => Option.bind (m_X11_takes 63 q5.2) (fun q6 => if q6.1 = 0 then (if (0 : Int32) ≤ q6.2.1 0 0 15 then Option.bind (m_X11_takes 59 q6.2) (fun q9 => L_X11_workOut_33 (m + 1) v3 v4 q9.1 q9.2) else if v3 = 0 then Option.bind (m_X11_takes 59 q6.2) (fun q11 => L_X11_workOut_33 (m + 1) 1 q5.1 q11.1 q11.2) else Option.bind (m_X11_takes 59 q6.2) (fun q12 => L_X11_workOut_33 (m + 1) v3 v4 q12.1 q12.2)) else if q5.1 = 0 then Option.bind (m_GEx 60 0 q6.2) (fun q14 => if (0 : Int32) ≤ q14.2.1 0 0 15 then Option.bind (m_X11_takes 59 q14.2) (fun q16 => L_X11_workOut_33 (m + 1) v3 v4 q16.1 q16.2) else Option.bind (m_X11_takes 59 q14.2) (fun q17 => L_X11_workOut_33 (m + 1) v3 v4 q17.1 q17.2)) else Option.bind (m_GEx 60 0 q6.2) (fun q18 => if (0 : Int32) ≤ q18.2.1 0 0 15 then Option.bind (m_X11_takes 59 q18.2) (fun q20 => L_X11_workOut_33 (m + 1) v3 v4 q20.1 q20.2) else if v3 = 0 then Option.bind (m_X11_takes 59 q18.2) (fun q22 => L_X11_workOut_33 (m + 1) 1 q18.1 q22.1 q22.2) else Option.bind (m_X11_takes 59 q18.2) (fun q23 => L_X11_workOut_33 (m + 1) v3 v4 q23.1 q23.2)))) := by
    rw [L_X11_workOut_33, if_neg (show ¬ (1 : Int32) = 0 by decide)]
  rw [e0]
  have hE := mE hα a σ ha h
  have hg := gd_E (B := B) a ha
  unfold pLine
  cases hx : pE (btA B F) a with
  | inl e =>
    rw [hx] at hE hg
    obtain ⟨v, τ, t1, t2⟩ := hE
    rw [t1]
    simp only [Option.bind_some]
    rw [tkF t2]
    simp only [Option.bind_some]
    rw [if_pos trivial, if_pos t2.nf]
    exact fl e τ v3 v4 t2
  | inr q =>
    rw [hx] at hE hg
    obtain ⟨τ, t1, t2⟩ := hE
    obtain ⟨b1, b2, b3⟩ := hg
    rw [t1]
    simp only [Option.bind_some]
    rw [tkS hα (by omega) t2 (by decide) (by decide)]
    show match (if _ then _ else _ : QR) with
      | .inl e => _
      | .inr q => _
    by_cases c : btA B F q.1 = 63
    · rw [if_pos c, if_pos c]
      simp only [Option.bind_some]
      rw [if_neg (show ¬ (1 : Int32) = 0 by decide)]
      have hlt := bt_c c (by decide)
      have hE2 := mE hα (q.1 + 1) _ hlt (t2.at (b := q.1 + 1))
      have hg2 := gd_E (B := B) (q.1 + 1) hlt
      cases hy : pE (btA B F) (q.1 + 1) with
      | inl e =>
        rw [hy] at hE2 hg2
        obtain ⟨v, υ, u1, u2⟩ := hE2
        rw [u1]
        simp only [Option.bind_some]
        rw [if_pos u2.nf, if_pos u2.nf]
        by_cases z : q.2.2 (α.2.1 7 0) = 0
        · rw [if_pos z]
          exact fl e υ v3 v4 u2
        · rw [if_neg z]
          exact fl e υ v3 v4 u2
      | inr r =>
        rw [hy] at hE2 hg2
        obtain ⟨υ, u1, u2⟩ := hE2
        rw [u1]
        simp only [Option.bind_some]
        refine ⟨υ, u2, ?_⟩
        rw [if_neg u2.nf, if_neg u2.nf]
        show _ = Option.bind (m_X11_takes 59 υ) (fun p => L_X11_workOut_33 (m + 1) (upG v3 (if q.2.2 (α.2.1 7 0) = 0 then none else some (r.2.2 (α.2.1 7 0)))) (upV v3 v4 (if q.2.2 (α.2.1 7 0) = 0 then none else some (r.2.2 (α.2.1 7 0)))) p.1 p.2)
        by_cases z : q.2.2 (α.2.1 7 0) = 0
        · rw [if_pos z, if_pos z]
          rfl
        · rw [if_neg z, if_neg z]
          rcases hv with rfl | rfl
          · rfl
          · rfl
    · rw [if_neg c, if_neg c]
      simp only [Option.bind_some]
      rw [if_pos trivial, if_neg t2.nf]
      refine ⟨τ, t2, ?_⟩
      rcases hv with rfl | rfl
      · rfl
      · rfl
def MT (α : SS) (F : Nat) (x : QR) (r : Option (Int32 × SS)) : Prop := match x with
  | .inl e => ∃ w τ, r = some (w, τ) ∧ MF α e τ
  | .inr q => if q.1 < F then ∃ w τ, r = some (w, τ) ∧ MF α q.1 τ else ∃ τ, r = some ((q.2.2 (α.2.1 7 0)).getD 0, τ) ∧ MS α q.1 0 τ
theorem eG01 (x : Option Int32) : eG x = 0 ∨ eG x = 1 := by
  cases x with
  | none => exact Or.inl rfl
  | some v => exact Or.inr rfl
theorem mTape (hα : HM α B F) : ∀ (n m a : Nat) (c : CD) (g : LN) (τ : SS), 120 ≤ n + a → n + 1 < m → a ≤ F → MS α a 0 τ → MT α F (pTx (btA B F) n a c g) (Option.bind (m_X11_takes 59 τ) (fun p => L_X11_workOut_33 m (eG (g (α.2.1 7 0))) ((g (α.2.1 7 0)).getD 0) p.1 p.2))
  | n, 0, a, c, g, τ, h0, hn, ha, h => absurd hn (by omega)
  | n, m + 1, a, c, g, τ, h0, hn, ha, h => by
    have hF := hα.1
    have hE : τ.1 0 0 14 = zI F := by rw [h.2.2.2.1 0 0 14 (by omega)]; exact hα.2.1
    have ex : ¬ btA B F a = 59 → MT α F (.inr (a, c, g)) (Option.bind (m_X11_takes 59 τ) (fun p => L_X11_workOut_33 (m + 1) (eG (g (α.2.1 7 0))) ((g (α.2.1 7 0)).getD 0) p.1 p.2)) := fun d => by
      rw [tkS hα (by omega) h (by decide) (by decide), if_neg d]
      have := wkE ha hF hE h m (eG (g (α.2.1 7 0))) ((g (α.2.1 7 0)).getD 0)
      show if a < F then _ else _
      by_cases k : a < F
      · rw [if_pos k] at this ⊢
        exact this
      · rw [if_neg k] at this ⊢
        exact ⟨τ, this, h⟩
    by_cases d : btA B F a = 59
    · have hlt := bt_c d (by decide)
      obtain ⟨n, rfl⟩ : ∃ n', n = n' + 1 := ⟨n - 1, by omega⟩
      obtain ⟨m, rfl⟩ : ∃ m', m = m' + 1 := ⟨m - 1, by omega⟩
      unfold pTx
      rw [if_pos d, tkS hα (by omega) h (by decide) (by decide), if_pos d]
      show MT α F _ (L_X11_workOut_33 (m + 2) _ _ 1 (sI τ 0 0 13 (zI (a + 1))))
      have hL := mLine hα hlt (h.at (b := a + 1)) m (eG (g (α.2.1 7 0))) ((g (α.2.1 7 0)).getD 0) (eG01 _)
      have hg := gl_line (B := B) (a + 1) hlt
      cases hx : pLine (btA B F) (a + 1) with
      | inl e =>
        rw [hx] at hL
        exact hL
      | inr q =>
        rw [hx] at hL hg
        obtain ⟨υ, u1, u2⟩ := hL
        obtain ⟨b1, b2, b3, b4⟩ := hg
        rw [u2, (upE g q.2.2 (α.2.1 7 0)).1, (upE g q.2.2 (α.2.1 7 0)).2]
        exact mTape hα n (m + 1) q.1 _ _ υ (by omega) (by omega) b2 u1
    · match n with
      | 0 => exact ex d
      | n + 1 =>
        unfold pTx
        rw [if_neg d]
        exact ex d
theorem mText (hα : HM α B F) (h : MS α 0 0 α) : match pText (btA B F) F with
    | .inl e => ∃ w τ, L_X11_workOut_33 FU 0 0 1 α = some (w, τ) ∧ MF α e τ
    | .inr q => ∃ τ, L_X11_workOut_33 FU 0 0 1 α = some (q.2 (α.2.1 7 0), τ) ∧ τ.1 0 0 15 = -1 ∧ SmM α τ := by
  have hfu : 130 < FU := by unfold FU; omega
  generalize FU = fu at hfu
  obtain ⟨fu, rfl⟩ : ∃ m, fu = m + 2 := ⟨fu - 2, by omega⟩
  unfold pText
  have hL := mLine hα (by omega) h fu 0 0 (Or.inl rfl)
  have hg := gl_line (B := B) (F := F) 0 (by omega)
  cases hx : pLine (btA B F) 0 with
  | inl e =>
    rw [hx] at hL
    exact hL
  | inr q =>
    rw [hx] at hL hg
    obtain ⟨τ, t1, t2⟩ := hL
    obtain ⟨b1, b2, b3, b4⟩ := hg
    have hT := mTape hα 120 (fu + 1) q.1 q.2.1 q.2.2 τ (by omega) (by omega) b2 t1
    have e1 : upG 0 (q.2.2 (α.2.1 7 0)) = eG (q.2.2 (α.2.1 7 0)) := by cases q.2.2 (α.2.1 7 0) <;> rfl
    have e2 : upV 0 0 (q.2.2 (α.2.1 7 0)) = (q.2.2 (α.2.1 7 0)).getD 0 := by cases q.2.2 (α.2.1 7 0) <;> rfl
    rw [e1, e2] at t2
    rw [← t2] at hT
    show match qBd (pTx (btA B F) 120 q.1 q.2.1 q.2.2) (fun a' c' g' => if a' < F then .inl a' else .inr (c', fun ν => (g' ν).getD 0)) with
      | .inl e => _
      | .inr q => _
    cases hy : pTx (btA B F) 120 q.1 q.2.1 q.2.2 with
    | inl e =>
      rw [hy] at hT
      exact hT
    | inr p =>
      rw [hy] at hT
      have hT : if p.1 < F then _ else _ := hT
      show match (if p.1 < F then .inl p.1 else .inr (p.2.1, _) : Nat ⊕ (CD × FN)) with
        | .inl e => _
        | .inr q => _
      by_cases c : p.1 < F
      · rw [if_pos c] at hT ⊢
        exact hT
      · rw [if_neg c] at hT ⊢
        obtain ⟨υ, u1, u2⟩ := hT
        exact ⟨υ, u1, u2.2.1, u2.2.2.2⟩
end LAWM2
