/-! the model: the operand, lines, law() -/
section LAWM
variable {B : Nat → Int32} {F : Nat} {α : SS}
theorem GE5 (n : Nat) (σ : SS) : m_GEx (n + 1) 5 σ = m_X11_one (m_GEx n) σ := by
  rw [m_GEx, if_neg (by decide), if_neg (by decide), if_neg (by decide), if_neg (by decide), if_neg (by decide)]
theorem GE4 (n : Nat) (σ : SS) : m_GEx (n + 1) 4 σ = m_X11_product (m_GEx n) σ := by
  rw [m_GEx, if_neg (by decide), if_neg (by decide), if_neg (by decide), if_neg (by decide), if_pos rfl]
theorem GE3 (n : Nat) (σ : SS) : m_GEx (n + 1) 3 σ = m_X11_sums (m_GEx n) σ := by
  rw [m_GEx, if_neg (by decide), if_neg (by decide), if_neg (by decide), if_pos rfl]
theorem GE2 (n : Nat) (σ : SS) : m_GEx (n + 1) 2 σ = m_X11_compared (m_GEx n) σ := by
  rw [m_GEx, if_neg (by decide), if_neg (by decide), if_pos rfl]
theorem GE1 (n : Nat) (σ : SS) : m_GEx (n + 1) 1 σ = m_X11_both (m_GEx n) σ := by
  rw [m_GEx, if_neg (by decide), if_pos rfl]
theorem GE0 (n : Nat) (σ : SS) : m_GEx (n + 1) 0 σ = m_X11_either (m_GEx n) σ := by
  rw [m_GEx, if_pos rfl]
def ndM : Nat → Nat
  | 0 => 1
  | d + 1 => ndM d + 6
theorem mLev (hα : HM α B F) {op : Nat → PR} {o need : Nat} (gs : ∀ a, a ≤ F → gd F a (op a)) (hs : ∀ n a σ, need ≤ n → a ≤ F → MS α a o σ → MP (β := Unit) α o (op a) (m_GEx n 5 σ)) : ∀ (j n a : Nat) (σ : SS), j ≤ 5 → need + j ≤ n → a ≤ F → MS α a o σ → MP (β := Unit) α o (pK (btA B F) op j a) (m_GEx n (5 - j) σ)
  | 0, n, a, σ, hj, hn, ha, h => hs n a σ hn ha h
  | j + 1, 0, a, σ, hj, hn, ha, h => absurd hn (by omega)
  | j + 1, n + 1, a, σ, hj, hn, ha, h => by
    have ih : ∀ a σ, a ≤ F → MS α a o σ → MP (β := Unit) α o (pK (btA B F) op j a) (m_GEx n (5 - j) σ) := fun a σ ha h => mLev hα gs hs j n a σ (by omega) (by omega) ha h
    have gK := fun a ha => gd_K (B := B) gs j a ha
    show MP (β := Unit) α o (pL (btA B F) (pK (btA B F) op j) (zI (4 - j)) a) _
    have : j = 0 ∨ j = 1 ∨ j = 2 ∨ j = 3 ∨ j = 4 := by omega
    rcases this with rfl | rfl | rfl | rfl | rfl
    · rw [show 5 - (0 + 1) = 4 from rfl, GE4]
      exact mL4 hα gK ih a σ ha h
    · rw [show 5 - (1 + 1) = 3 from rfl, GE3]
      exact mL3 hα gK ih a σ ha h
    · rw [show 5 - (2 + 1) = 2 from rfl, GE2]
      exact mL2 hα gK ih a σ ha h
    · rw [show 5 - (3 + 1) = 1 from rfl, GE1]
      exact mL1 hα gK ih a σ ha h
    · rw [show 5 - (4 + 1) = 0 from rfl, GE0]
      exact mL0 hα gK ih a σ ha h
theorem atE {a : Nat} {c : Int32} {els : PR} (h : btA B F a = c) (h1 : m_X3_isDigit c = 0) (h2 : m_X3_nameOf c < 0) : pAtom (btA B F) a els = els := by
  unfold pAtom
  rw [h, if_pos h1, if_pos h2]
theorem mRest (hα : HM α B F) {a o : Nat} {σ : SS} (rec : Nat → SS → Option (Int32 × SS)) (ha : a ≤ F) (h : MS α a o σ) : MP (β := Unit) α o (pAtom (btA B F) a (.inl a)) (if m_X11_nameOf (b0 B F a) < 0 then L_X11_one_176 rec FU 0 0 σ else if m_X11_nameOf (b0 B F a) < 0 ∨ 6 ≤ (m_X11_nameOf (b0 B F a)).toNatClampNeg then none else some ((σ.2.1 7 0 (m_X11_nameOf (b0 B F a)).toNatClampNeg), (sI σ 0 0 13 ((σ.1 0 0 13) + 1)))) := by
  have hF := hα.1
  have hfu : 5 < FU := by unfold FU; omega
  generalize FU = fu at hfu
  obtain ⟨fu, rfl⟩ : ∃ m, fu = m + 1 := ⟨fu - 1, by omega⟩
  rw [nmE, nmB, h.1, show zI a + 1 = zI (a + 1) from zI_add a 1]
  unfold pAtom
  rcases nmV (btA B F a) with e | ⟨e0, k, hk, e⟩
  · rw [e, if_pos (show (-1 : Int32) < 0 by decide), if_pos (show (-1 : Int32) < 0 by decide)]
    rw [L_X11_one_176, if_neg (show ¬ (4 : Int32) ≤ 0 by decide), byM hα (by omega) h.1 h.2.2.2]
    simp only [Option.bind_some]
    rw [if_pos trivial]
    obtain ⟨τ, w1, w2⟩ := h.wr (by omega)
    by_cases c : m_X3_isDigit (btA B F a) = 0
    · rw [if_pos c, w1]
      rcases digM.mp c with d | d
      · rw [if_pos d]
        exact ⟨0, τ, rfl, w2⟩
      · by_cases d2 : b0 B F a < 48
        · rw [if_pos d2]
          exact ⟨0, τ, rfl, w2⟩
        · rw [if_neg d2, if_pos d]
          exact ⟨0, τ, rfl, w2⟩
    · have hlt := bt_d c
      have c2 := fun z => c (digM.mpr z)
      have eb : b0 B F a = btA B F a := by
        unfold b0 btA
        rw [if_pos hlt, if_pos hlt]
      rw [if_neg c, if_neg (fun z => c2 (Or.inl z)), if_neg (fun z => c2 (Or.inr z)), eb, Int32.mul_comm 10 0, h.1, show zI a + 1 = zI (a + 1) from zI_add a 1, show (0 : Int32) + 1 = zI 1 from rfl]
      have := numM3 hα rec 3 fu 1 (a + 1) (0 * 10 + btA B F a - 48) _ (by omega) (by omega) (by omega) hlt (h.at (b := a + 1))
      obtain ⟨τ, t1, t2⟩ := this
      have ep : pNum (btA B F) 4 a 0 = pNum (btA B F) 3 (a + 1) (0 * 10 + btA B F a - 48) := by
        show (if _ then _ else _) = _
        rw [if_neg c]
      rw [ep]
      exact ⟨τ, t1, t2⟩
  · have z1 := zI_ge (a := k) (by omega)
    have z2 := zI_in (a := k) (n := 6) (by omega) hk
    have z3 : ¬ m_X3_nameOf (btA B F a) < 0 := by rw [e]; exact z1
    rw [if_neg z3, if_pos e0, if_neg z3, e, if_neg z2]
    refine ⟨_, ?_, h.at (b := a + 1)⟩
    show some (σ.2.1 7 0 (zI k).toNatClampNeg, _) = some (α.2.1 7 0 _, _)
    rw [h.2.2.2.2]
theorem oneE (hα : HM α B F) (rec : Nat → SS → Option (Int32 × SS)) {a o : Nat} {σ : SS} (ha : a ≤ F) (ho : o ≤ 6) (h : MS α a o σ) : m_X11_one rec σ = if b0 B F a = 33 then (if o = 6 then some (m_X11_wrong σ) else Option.bind (rec 5 (sI (sI σ 0 0 16 (zI (o + 1))) 0 0 13 (zI (a + 1)))) (fun q => some ((if q.1 = 0 then 1 else 0), sI q.2 0 0 16 (q.2.1 0 0 16 - 1)))) else if b0 B F a = 45 then (if o = 6 then some (m_X11_wrong σ) else Option.bind (rec 5 (sI (sI σ 0 0 16 (zI (o + 1))) 0 0 13 (zI (a + 1)))) (fun q => some (- q.1, sI q.2 0 0 16 (q.2.1 0 0 16 - 1)))) else if b0 B F a = 40 then (if o = 6 then some (m_X11_wrong σ) else Option.bind (rec 0 (sI (sI σ 0 0 16 (zI (o + 1))) 0 0 13 (zI (a + 1)))) (fun q7 => Option.bind (m_X11_takes 41 q7.2) (fun q8 => if q8.1 = 0 then some (m_X11_wrong q8.2) else some (q7.1, sI q8.2 0 0 16 (q8.2.1 0 0 16 - 1))))) else (if m_X11_nameOf (b0 B F a) < 0 then L_X11_one_176 rec FU 0 0 σ else if m_X11_nameOf (b0 B F a) < 0 ∨ 6 ≤ (m_X11_nameOf (b0 B F a)).toNatClampNeg then none else some ((σ.2.1 7 0 (m_X11_nameOf (b0 B F a)).toNatClampNeg), (sI σ 0 0 13 ((σ.1 0 0 13) + 1)))) := by
  have hF := hα.1
  have e6 : zI o = 6 ↔ o = 6 := by rw [i6, zI_eq (by omega) (by omega)]
  unfold m_X11_one
  rw [if_pos (show σ.1 0 0 15 < 0 by rw [h.2.1]; decide), byM hα (by omega) h.1 h.2.2.2]
  simp only [Option.bind_some]
  rw [h.2.2.1, h.1, show zI a + 1 = zI (a + 1) from zI_add a 1, show zI o + 1 = zI (o + 1) from zI_add o 1]
  by_cases c1 : b0 B F a = 33
  · rw [if_pos c1, if_pos c1]
    by_cases d : o = 6
    · rw [if_pos (e6.mpr d), if_pos d]
      rfl
    · rw [if_neg (fun z => d (e6.mp z)), if_neg d, c1, if_neg (show ¬ (33 : Int32) = 40 by decide)]
      congr 1
      funext q
      rw [if_neg (show ¬ (33 : Int32) = 45 by decide)]
      by_cases z : q.1 = 0
      · rw [if_pos z, if_pos z]
      · rw [if_neg z, if_neg z]
  · rw [if_neg c1, if_neg c1]
    by_cases c2 : b0 B F a = 45
    · rw [if_pos c2, if_pos c2]
      by_cases d : o = 6
      · rw [if_pos (e6.mpr d), if_pos d]
        rfl
      · rw [if_neg (fun z => d (e6.mp z)), if_neg d, c2, if_neg (show ¬ (45 : Int32) = 40 by decide)]
    · rw [if_neg c2, if_neg c2]
      by_cases c3 : b0 B F a = 40
      · rw [if_pos c3, if_pos c3]
        by_cases d : o = 6
        · rw [if_pos (e6.mpr d), if_pos d]
          rfl
        · rw [if_neg (fun z => d (e6.mp z)), if_neg d]
          rfl
      · rw [if_neg c3, if_neg c3]
theorem mOp (hα : HM α B F) : ∀ (d n a : Nat) (σ : SS), d ≤ 6 → ndM d ≤ n → a ≤ F → MS α a (6 - d) σ → MP (β := Unit) α (6 - d) (pOp (btA B F) d a) (m_GEx n 5 σ)
  | d, 0, a, σ, hd, hn, ha, h => absurd hn (by cases d <;> simp [ndM])
  | 0, n + 1, a, σ, hd, hn, ha, h => by
    have hF := hα.1
    obtain ⟨τ, w1, w2⟩ := h.wr (by omega)
    rw [GE5, oneE hα _ ha (by omega) h, if_pos (show 6 - 0 = 6 from rfl), w1]
    show MP (β := Unit) α (6 - 0) (pAtom (btA B F) a (.inl a)) _
    by_cases c1 : b0 B F a = 33
    · rw [if_pos c1, atE ((b0_eq (by decide) (by decide)).mp c1) (by decide) (by decide)]
      exact ⟨0, τ, rfl, w2⟩
    · rw [if_neg c1]
      by_cases c2 : b0 B F a = 45
      · rw [if_pos c2, if_pos rfl, atE ((b0_eq (by decide) (by decide)).mp c2) (by decide) (by decide)]
        exact ⟨0, τ, rfl, w2⟩
      · rw [if_neg c2]
        by_cases c3 : b0 B F a = 40
        · rw [if_pos c3, if_pos rfl, atE ((b0_eq (by decide) (by decide)).mp c3) (by decide) (by decide)]
          exact ⟨0, τ, rfl, w2⟩
        · rw [if_neg c3]
          exact mRest hα _ ha h
  | d + 1, n + 1, a, σ, hd, hn, ha, h => by
    have hF := hα.1
    have ndd : ndM (d + 1) = ndM d + 6 := rfl
    have h1 : MS α (a + 1) (6 - d) (sI (sI σ 0 0 16 (zI (6 - (d + 1) + 1))) 0 0 13 (zI (a + 1))) := by
      rw [show 6 - (d + 1) + 1 = 6 - d by omega]
      exact h.op.at
    have dc : ∀ {a' : Nat} {τ : SS}, MS α a' (6 - d) τ → MS α a' (6 - (d + 1)) (sI τ 0 0 16 (τ.1 0 0 16 - 1)) := fun {a'} {τ} hk => by
      rw [hk.2.2.1, i1, zI_sub (by omega), show 6 - d - 1 = 6 - (d + 1) by omega]
      exact hk.op
    have o6 : ¬ 6 - (d + 1) = 6 := by omega
    rw [GE5, oneE hα _ ha (by omega) h, if_neg o6]
    show MP (β := Unit) α (6 - (d + 1)) (pAtom (btA B F) a (if btA B F a = 33 then _ else (if btA B F a = 45 then _ else (if btA B F a = 40 then _ else _)))) _
    by_cases c1 : b0 B F a = 33
    · have e1 := (b0_eq (by decide) (by decide)).mp c1
      rw [if_pos c1, atE e1 (by decide) (by decide), if_pos e1]
      have hlt := bt_c e1 (by decide)
      refine (mOp hα d n (a + 1) _ (by omega) (by omega) hlt h1).bd (fun e v σ' he hk => ⟨_, _, rfl, hk.op _⟩) (fun a' c' u σ' he hk => ⟨_, rfl, dc hk⟩)
    · have e1 : ¬ btA B F a = 33 := fun z => c1 ((b0_eq (by decide) (by decide)).mpr z)
      rw [if_neg c1, if_neg e1]
      by_cases c2 : b0 B F a = 45
      · have e2 := (b0_eq (by decide) (by decide)).mp c2
        rw [if_pos c2, if_neg o6, atE e2 (by decide) (by decide), if_pos e2]
        have hlt := bt_c e2 (by decide)
        refine (mOp hα d n (a + 1) _ (by omega) (by omega) hlt h1).bd (fun e v σ' he hk => ⟨_, _, rfl, hk.op _⟩) (fun a' c' u σ' he hk => ⟨_, rfl, dc hk⟩)
      · have e2 : ¬ btA B F a = 45 := fun z => c2 ((b0_eq (by decide) (by decide)).mpr z)
        rw [if_neg c2, if_neg e2]
        by_cases c3 : b0 B F a = 40
        · have e3 := (b0_eq (by decide) (by decide)).mp c3
          rw [if_pos c3, if_neg o6, atE e3 (by decide) (by decide), if_pos e3]
          have hlt := bt_c e3 (by decide)
          have hK := mLev hα (o := 6 - d) (need := ndM d) (fun a ha => gd_Op (B := B) d a ha) (fun n a σ q1 q2 q3 => mOp hα d n a σ (by omega) q1 q2 q3) 5 n (a + 1) _ (by omega) (by omega) hlt h1
          refine hK.bd (fun e v σ' he hk => ?_) (fun a' c' u σ' he hk => ?_)
          · obtain ⟨τ, w1, w2⟩ := hk.wr
            refine ⟨0, τ, ?_, w2⟩
            show Option.bind (m_X11_takes 41 σ') _ = _
            rw [tkF hk]
            show some (m_X11_wrong σ') = _
            rw [w1]
          · have hb := gd_K (B := B) (fun a ha => gd_Op (B := B) d a ha) 5 (a + 1) hlt
            rw [he] at hb
            obtain ⟨b1, b2, b3⟩ : a + 1 < a' ∧ a' ≤ F ∧ c'.length + (a + 1) ≤ a' := hb
            show MP (β := Unit) α (6 - (d + 1)) (if _ then _ else _) (Option.bind (m_X11_takes 41 σ') _)
            rw [tkS hα (by omega) hk (by decide) (by decide)]
            by_cases c4 : btA B F a' = 41
            · rw [if_pos c4, if_pos c4]
              exact ⟨_, rfl, dc hk.at⟩
            · rw [if_neg c4, if_neg c4]
              obtain ⟨τ, w1, w2⟩ := hk.wr (by omega)
              refine ⟨0, τ, ?_, w2⟩
              show some (m_X11_wrong σ') = _
              rw [w1]
        · have e3 : ¬ btA B F a = 40 := fun z => c3 ((b0_eq (by decide) (by decide)).mpr z)
          rw [if_neg c3, if_neg e3]
          exact mRest hα _ ha h
theorem mE (hα : HM α B F) (a : Nat) (σ : SS) (ha : a ≤ F) (h : MS α a 0 σ) : MP (β := Unit) α 0 (pE (btA B F) a) (m_GEx 60 0 σ) :=
  mLev hα (o := 6 - 6) (need := 37) (fun a ha => gd_Op (B := B) 6 a ha) (fun n a σ q1 q2 q3 => mOp hα 6 n a σ (by omega) q1 q2 q3) 5 60 a σ (by omega) (by omega) ha h
end LAWM
