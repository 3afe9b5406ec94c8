/-! the model's reader: the other levels, the operand -/
section PARM2
variable {B : Nat → Int32} {F : Nat} {α : SS}
theorem mL3 (hα : HM α B F) {o : Nat} {sub : Nat → PR} {rec : Nat → SS → Option (Int32 × SS)} (gs : ∀ a, a ≤ F → gd F a (sub a)) (hs : ∀ a σ, a ≤ F → MS α a o σ → MP (β := Unit) α o (sub a) (rec 4 σ)) (a : Nat) (σ : SS) (ha : a ≤ F) (h : MS α a o σ) : MP (β := Unit) α o (pL (btA B F) sub (zI 3) a) (m_X11_sums rec σ) := by
  have hF := hα.1
  unfold m_X11_sums
  refine (hs a σ ha h).bd (fun e v σ' he hk => ?_) (fun a' c u σ' he hk => ?_)
  · refine ⟨v, σ', ?_, hk⟩
    rw [show FU = 99999 + 1 from rfl]
    show (if _ then _ else _) = _
    rw [if_pos hk.nf]
  · have hb := gs a ha
    rw [he] at hb
    obtain ⟨b1, b2, b3⟩ : a < a' ∧ a' ≤ F ∧ c.length + a ≤ a' := hb
    refine mLoop (L := L_X11_sums_5 rec) hF (by decide) (by decide) gs hs (fun m e v σ hk => ?_) (fun m a v σ ha h hd => ?_) (fun m a v σ ha h hd => ?_) 120 FU a' c u σ' (by omega) (by unfold FU; omega) b2 hk
    · refine ⟨v, σ, ?_, hk⟩
      show (if _ then _ else _) = _
      rw [if_pos hk.nf]
    · have hd' : ¬ (b0 B F a = 43 ∨ b0 B F a = 45) := fun e => hd ((lev3 _).mpr (by
        rcases e with e | e
        · exact Or.inl ((b0_eq (by decide) (by decide)).mp e)
        · exact Or.inr ((b0_eq (by decide) (by decide)).mp e)))
      show (if _ then _ else _) = _
      rw [if_neg h.nf, byM hα (by omega) h.1 h.2.2.2]
      simp only [Option.bind_some]
      rw [if_neg (fun e => hd' (Or.inl e)), if_neg (fun e => hd' (Or.inr e))]
    · show (if _ then _ else _) = _
      rw [if_neg h.nf, byM hα (by omega) h.1 h.2.2.2]
      simp only [Option.bind_some]
      rw [h.1, show zI a + 1 = zI (a + 1) from zI_add a 1]
      rcases (lev3 _).mp hd with e | e
      · have e' : b0 B F a = 43 := (b0_eq (by decide) (by decide)).mpr e
        rw [e', e, if_pos (show (43 : Int32) = 43 from rfl), if_pos (show (43 : Int32) = 43 from rfl)]
        rfl
      · have e' : b0 B F a = 45 := (b0_eq (by decide) (by decide)).mpr e
        rw [e', e, if_neg (show ¬ (45 : Int32) = 43 by decide), if_pos (show (45 : Int32) = 45 from rfl), if_neg (show ¬ (45 : Int32) = 43 by decide)]
        rfl
theorem mL2 (hα : HM α B F) {o : Nat} {sub : Nat → PR} {rec : Nat → SS → Option (Int32 × SS)} (gs : ∀ a, a ≤ F → gd F a (sub a)) (hs : ∀ a σ, a ≤ F → MS α a o σ → MP (β := Unit) α o (sub a) (rec 3 σ)) (a : Nat) (σ : SS) (ha : a ≤ F) (h : MS α a o σ) : MP (β := Unit) α o (pL (btA B F) sub (zI 2) a) (m_X11_compared rec σ) := by
  have hF := hα.1
  unfold m_X11_compared
  refine (hs a σ ha h).bd (fun e v σ' he hk => ?_) (fun a' c u σ' he hk => ?_)
  · obtain ⟨k0, k1, ⟨a', k2, k3⟩, k4⟩ := hk
    refine ⟨v, σ', ?_, k0, k1, ⟨a', k2, k3⟩, k4⟩
    show Option.bind (m_X11_byteAt σ') _ = _
    rw [byM hα k2 k3 k4]
    show (if _ then _ else _) = _
    rw [if_pos (by rw [k1]; exact zI_ge' (by omega))]
  · have hb := gs a ha
    rw [he] at hb
    obtain ⟨b1, b2, b3⟩ : a < a' ∧ a' ≤ F ∧ c.length + a ≤ a' := hb
    show MP (β := Unit) α o (if _ then _ else _) (Option.bind (m_X11_byteAt σ') _)
    rw [byM hα (by omega) hk.1 hk.2.2.2]
    show MP (β := Unit) α o (if _ then _ else _) (if _ then _ else (if _ then _ else (if _ then _ else (if _ then _ else _))))
    rw [if_neg hk.nf, hk.1, show zI a' + 1 = zI (a' + 1) from zI_add a' 1]
    by_cases d : m_X3_levelOf (btA B F a') = zI 2
    · have hlt := bt_l (by decide) d
      have hq := hs (a' + 1) _ hlt hk.at
      have hgb := gs (a' + 1) hlt
      rw [if_pos d]
      rcases (lev2 _).mp d with e | e | e
      · have e' : b0 B F a' = 60 := (b0_eq (by decide) (by decide)).mpr e
        rw [e', e, if_pos (show (60 : Int32) = 60 from rfl)]
        refine hq.bd (fun e v σ' he hk => ?_) (fun a2 c2 u2 σ2 he2 hk2 => ?_)
        · by_cases z : v ≤ u (α.2.1 7 0)
          · exact ⟨0, σ', if_pos z, hk⟩
          · exact ⟨1, σ', if_neg z, hk⟩
        · rw [if_pos (show zI 2 = 2 from rfl)]
          refine ⟨σ2, ?_, hk2⟩
          show (if u2 (α.2.1 7 0) ≤ u (α.2.1 7 0) then some ((0 : Int32), σ2) else some (1, σ2)) = some ((if u2 (α.2.1 7 0) ≤ u (α.2.1 7 0) then (0 : Int32) else 1), σ2)
          by_cases z : u2 (α.2.1 7 0) ≤ u (α.2.1 7 0)
          · rw [if_pos z, if_pos z]
          · rw [if_neg z, if_neg z]
      · have e' : b0 B F a' = 61 := (b0_eq (by decide) (by decide)).mpr e
        rw [e', e, if_neg (show ¬ (61 : Int32) = 60 by decide), if_pos (show (61 : Int32) = 61 from rfl)]
        refine hq.bd (fun e v σ' he hk => ?_) (fun a2 c2 u2 σ2 he2 hk2 => ?_)
        · by_cases z : u (α.2.1 7 0) = v
          · exact ⟨1, σ', if_pos z, hk⟩
          · exact ⟨0, σ', if_neg z, hk⟩
        · rw [if_pos (show zI 2 = 2 from rfl)]
          refine ⟨σ2, ?_, hk2⟩
          show (if u (α.2.1 7 0) = u2 (α.2.1 7 0) then some ((1 : Int32), σ2) else some (0, σ2)) = some ((if u (α.2.1 7 0) = u2 (α.2.1 7 0) then (1 : Int32) else 0), σ2)
          by_cases z : u (α.2.1 7 0) = u2 (α.2.1 7 0)
          · rw [if_pos z, if_pos z]
          · rw [if_neg z, if_neg z]
      · have e' : b0 B F a' = 62 := (b0_eq (by decide) (by decide)).mpr e
        rw [e', e, if_neg (show ¬ (62 : Int32) = 60 by decide), if_neg (show ¬ (62 : Int32) = 61 by decide), if_pos (show (62 : Int32) = 62 from rfl)]
        refine hq.bd (fun e v σ' he hk => ?_) (fun a2 c2 u2 σ2 he2 hk2 => ?_)
        · by_cases z : u (α.2.1 7 0) ≤ v
          · exact ⟨0, σ', if_pos z, hk⟩
          · exact ⟨1, σ', if_neg z, hk⟩
        · rw [if_pos (show zI 2 = 2 from rfl)]
          refine ⟨σ2, ?_, hk2⟩
          show (if u (α.2.1 7 0) ≤ u2 (α.2.1 7 0) then some ((0 : Int32), σ2) else some (1, σ2)) = some ((if u (α.2.1 7 0) ≤ u2 (α.2.1 7 0) then (0 : Int32) else 1), σ2)
          by_cases z : u (α.2.1 7 0) ≤ u2 (α.2.1 7 0)
          · rw [if_pos z, if_pos z]
          · rw [if_neg z, if_neg z]
    · rw [if_neg d]
      have hd' : ¬ (b0 B F a' = 60 ∨ b0 B F a' = 61 ∨ b0 B F a' = 62) := fun e => d ((lev2 _).mpr (by
        rcases e with e | e | e
        · exact Or.inl ((b0_eq (by decide) (by decide)).mp e)
        · exact Or.inr (Or.inl ((b0_eq (by decide) (by decide)).mp e))
        · exact Or.inr (Or.inr ((b0_eq (by decide) (by decide)).mp e))))
      rw [if_neg (fun e => hd' (Or.inl e)), if_neg (fun e => hd' (Or.inr (Or.inl e))), if_neg (fun e => hd' (Or.inr (Or.inr e)))]
      exact ⟨σ', rfl, hk⟩
theorem mL1 (hα : HM α B F) {o : Nat} {sub : Nat → PR} {rec : Nat → SS → Option (Int32 × SS)} (gs : ∀ a, a ≤ F → gd F a (sub a)) (hs : ∀ a σ, a ≤ F → MS α a o σ → MP (β := Unit) α o (sub a) (rec 2 σ)) (a : Nat) (σ : SS) (ha : a ≤ F) (h : MS α a o σ) : MP (β := Unit) α o (pL (btA B F) sub (zI 1) a) (m_X11_both rec σ) := by
  have hF := hα.1
  unfold m_X11_both
  refine (hs a σ ha h).bd (fun e v σ' he hk => ?_) (fun a' c u σ' he hk => ?_)
  · refine ⟨v, σ', ?_, hk⟩
    rw [show FU = 99999 + 1 from rfl]
    show Option.bind (m_X11_takes 38 σ') _ = _
    rw [tkF hk]
    rfl
  · have hb := gs a ha
    rw [he] at hb
    obtain ⟨b1, b2, b3⟩ : a < a' ∧ a' ≤ F ∧ c.length + a ≤ a' := hb
    refine mLoop (L := L_X11_both_5 rec) hF (by decide) (by decide) gs hs (fun m e v σ hk => ?_) (fun m a v σ ha h hd => ?_) (fun m a v σ ha h hd => ?_) 120 FU a' c u σ' (by omega) (by unfold FU; omega) b2 hk
    · refine ⟨v, σ, ?_, hk⟩
      show Option.bind (m_X11_takes 38 σ) _ = _
      rw [tkF hk]
      rfl
    · show Option.bind (m_X11_takes 38 σ) _ = _
      rw [tkS hα (by omega) h (by decide) (by decide), if_neg (fun e => hd ((lev1 _).mpr e))]
      rfl
    · have e := (lev1 _).mp hd
      show Option.bind (m_X11_takes 38 σ) _ = _
      rw [tkS hα (by omega) h (by decide) (by decide), if_pos e, e]
      show Option.bind (rec 2 _) _ = _
      congr 1
      funext q
      show (if _ then _ else (if _ then _ else _)) = L_X11_both_5 rec m (if v = 0 then 0 else if q.1 = 0 then 0 else 1) q.2
      by_cases z : v = 0
      · rw [if_pos z, if_pos z]
      · rw [if_neg z, if_neg z]
        by_cases y : q.1 = 0
        · rw [if_pos y, if_pos y]
        · rw [if_neg y, if_neg y]
theorem mL0 (hα : HM α B F) {o : Nat} {sub : Nat → PR} {rec : Nat → SS → Option (Int32 × SS)} (gs : ∀ a, a ≤ F → gd F a (sub a)) (hs : ∀ a σ, a ≤ F → MS α a o σ → MP (β := Unit) α o (sub a) (rec 1 σ)) (a : Nat) (σ : SS) (ha : a ≤ F) (h : MS α a o σ) : MP (β := Unit) α o (pL (btA B F) sub (zI 0) a) (m_X11_either rec σ) := by
  have hF := hα.1
  unfold m_X11_either
  refine (hs a σ ha h).bd (fun e v σ' he hk => ?_) (fun a' c u σ' he hk => ?_)
  · refine ⟨v, σ', ?_, hk⟩
    rw [show FU = 99999 + 1 from rfl]
    show Option.bind (m_X11_takes 124 σ') _ = _
    rw [tkF hk]
    rfl
  · have hb := gs a ha
    rw [he] at hb
    obtain ⟨b1, b2, b3⟩ : a < a' ∧ a' ≤ F ∧ c.length + a ≤ a' := hb
    refine mLoop (L := L_X11_either_5 rec) hF (by decide) (by decide) gs hs (fun m e v σ hk => ?_) (fun m a v σ ha h hd => ?_) (fun m a v σ ha h hd => ?_) 120 FU a' c u σ' (by omega) (by unfold FU; omega) b2 hk
    · refine ⟨v, σ, ?_, hk⟩
      show Option.bind (m_X11_takes 124 σ) _ = _
      rw [tkF hk]
      rfl
    · show Option.bind (m_X11_takes 124 σ) _ = _
      rw [tkS hα (by omega) h (by decide) (by decide), if_neg (fun e => hd ((lev0 _).mpr e))]
      rfl
    · have e := (lev0 _).mp hd
      show Option.bind (m_X11_takes 124 σ) _ = _
      rw [tkS hα (by omega) h (by decide) (by decide), if_pos e, e]
      show Option.bind (rec 1 _) _ = _
      congr 1
      funext q
      show (if _ then (if _ then _ else _) else _) = L_X11_either_5 rec m (if v = 0 then (if q.1 = 0 then 0 else 1) else 1) q.2
      by_cases z : v = 0
      · rw [if_pos z, if_pos z]
        by_cases y : q.1 = 0
        · rw [if_pos y, if_pos y]
        · rw [if_neg y, if_neg y]
      · rw [if_neg z, if_neg z]
theorem digM {a : Nat} : m_X3_isDigit (btA B F a) = 0 ↔ (b0 B F a < 48 ∨ 57 < b0 B F a) := by
  unfold btA b0 m_X3_isDigit
  by_cases h : a < F
  · rw [if_pos h, if_pos h]
    by_cases c1 : B a < 48
    · rw [if_pos c1]
      exact ⟨fun _ => Or.inl c1, fun _ => rfl⟩
    · rw [if_neg c1]
      by_cases c2 : 57 < B a
      · rw [if_pos c2]
        exact ⟨fun _ => Or.inr c2, fun _ => rfl⟩
      · rw [if_neg c2]
        exact ⟨fun e => absurd e (by decide), fun e => absurd e (by intro z; rcases z with z | z; exact c1 z; exact c2 z)⟩
  · rw [if_neg h, if_neg h]
    exact ⟨fun _ => Or.inl (by decide), fun _ => rfl⟩
theorem nmE (c : Int32) : m_X11_nameOf c = m_X3_nameOf c := rfl
theorem nmB {a : Nat} : m_X3_nameOf (b0 B F a) = m_X3_nameOf (btA B F a) := by
  unfold btA b0
  by_cases h : a < F
  · rw [if_pos h, if_pos h]
  · rw [if_neg h, if_neg h]
    rfl
theorem nmV (c : Int32) : m_X3_nameOf c = -1 ∨ (m_X3_isDigit c = 0 ∧ ∃ k, k < 6 ∧ m_X3_nameOf c = zI k) := by
  unfold m_X3_nameOf
  by_cases c1 : c = 104
  · rw [if_pos c1]; exact Or.inr ⟨by rw [c1]; rfl, 1, by decide, rfl⟩
  rw [if_neg c1]
  by_cases c2 : c = 107
  · rw [if_pos c2]; exact Or.inr ⟨by rw [c2]; rfl, 3, by decide, rfl⟩
  rw [if_neg c2]
  by_cases c3 : c = 109
  · rw [if_pos c3]; exact Or.inr ⟨by rw [c3]; rfl, 2, by decide, rfl⟩
  rw [if_neg c3]
  by_cases c4 : c = 112
  · rw [if_pos c4]; exact Or.inr ⟨by rw [c4]; rfl, 5, by decide, rfl⟩
  rw [if_neg c4]
  by_cases c5 : c = 115
  · rw [if_pos c5]; exact Or.inr ⟨by rw [c5]; rfl, 4, by decide, rfl⟩
  rw [if_neg c5]
  by_cases c6 : c = 119
  · rw [if_pos c6]; exact Or.inr ⟨by rw [c6]; rfl, 0, by decide, rfl⟩
  rw [if_neg c6]
  exact Or.inl rfl
theorem numM3 (hα : HM α B F) {o : Nat} (rec : Nat → SS → Option (Int32 × SS)) : ∀ (k n w a : Nat) (v : Int32) (σ : SS), w + k = 4 → 0 < w → k < n → a ≤ F → MS α a o σ → ∃ τ, L_X11_one_176 rec n v (zI w) σ = some ((pNum (btA B F) k a v).2, τ) ∧ MS α (pNum (btA B F) k a v).1 o τ
  | k, 0, w, a, v, σ, h0, hw, hn, ha, h => absurd hn (by omega)
  | 0, n + 1, w, a, v, σ, h0, hw, hn, ha, h => by
    refine ⟨σ, ?_, h⟩
    show (if _ then (if _ then _ else _) else _) = _
    rw [if_pos (by rw [i4, zI_le (by omega) (by omega)]; omega), if_neg (by rw [i0, zI_eq (by omega) (by omega)]; omega)]
    rfl
  | k + 1, n + 1, w, a, v, σ, h0, hw, hn, ha, h => by
    have hF := hα.1
    have w0 : ¬ zI w = 0 := by rw [i0, zI_eq (by omega) (by omega)]; omega
    have e : L_X11_one_176 rec (n + 1) v (zI w) σ = if b0 B F a < 48 then some (v, σ) else if 57 < b0 B F a then some (v, σ) else L_X11_one_176 rec n (10 * v + b0 B F a - 48) (zI (w + 1)) (sI σ 0 0 13 (zI (a + 1))) := by
      rw [L_X11_one_176, if_neg (show ¬ (4 : Int32) ≤ zI w by rw [i4, zI_le (by omega) (by omega)]; omega), byM hα (by omega) h.1 h.2.2.2]
      simp only [Option.bind_some]
      rw [if_neg w0, h.1, show zI a + 1 = zI (a + 1) from zI_add a 1, show zI w + 1 = zI (w + 1) from zI_add w 1]
    rw [e]
    unfold pNum
    by_cases c : m_X3_isDigit (btA B F a) = 0
    · rw [if_pos c]
      refine ⟨σ, ?_, h⟩
      rcases digM.mp c with d | d
      · rw [if_pos d]
      · by_cases d2 : b0 B F a < 48
        · rw [if_pos d2]
        · rw [if_neg d2, if_pos d]
    · have hlt := bt_d c
      have c2 := fun z => c (digM.mpr z)
      have eb : b0 B F a = btA B F a := by
        unfold b0 btA
        rw [if_pos hlt, if_pos hlt]
      rw [if_neg c, if_neg (fun z => c2 (Or.inl z)), if_neg (fun z => c2 (Or.inr z)), eb, Int32.mul_comm 10 v]
      exact numM3 hα rec k n (w + 1) (a + 1) _ _ (by omega) (by omega) (by omega) hlt h.at
end PARM2
