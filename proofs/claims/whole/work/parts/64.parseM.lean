/-! the model reads a text as told -/
section PARM
variable {B : Nat → Int32} {F : Nat} {α : SS}
def SmM (α σ : SS) : Prop := (∀ t j k, ¬ (t = 0 ∧ (k = 13 ∨ k = 15 ∨ k = 16)) → σ.1 t j k = α.1 t j k) ∧ σ.2 = α.2
def MS (α : SS) (a o : Nat) (σ : SS) : Prop := σ.1 0 0 13 = zI a ∧ σ.1 0 0 15 = -1 ∧ σ.1 0 0 16 = zI o ∧ SmM α σ
def MF (α : SS) (e : Nat) (σ : SS) : Prop := e ≤ 120 ∧ σ.1 0 0 15 = zI e ∧ (∃ a, a ≤ 120 ∧ σ.1 0 0 13 = zI a) ∧ SmM α σ
def MP {β : Type} (α : SS) (o : Nat) (x : Nat ⊕ (Nat × CD × FN)) (r : Option (Int32 × SS)) : Prop := match x with
  | .inl e => ∃ v τ, r = some (v, τ) ∧ MF α e τ
  | .inr q => ∃ τ, r = some (q.2.2 (α.2.1 7 0), τ) ∧ MS α q.1 o τ
def HM (α : SS) (B : Nat → Int32) (F : Nat) : Prop := F ≤ 120 ∧ α.1 0 0 14 = zI F ∧ ((α.1 0 0 12 = -1 ∧ α.2.1 5 0 = B) ∨ (α.1 0 0 12 = 0 ∧ α.2.1 6 0 = B))
def b0 (B : Nat → Int32) (F a : Nat) : Int32 := if a < F then B a else 0
theorem b0_eq {a : Nat} {c : Int32} (h0 : ¬ c = 0) (h1 : ¬ c = -1) : b0 B F a = c ↔ btA B F a = c := by
  unfold b0 btA
  by_cases h : a < F
  · rw [if_pos h, if_pos h]
  · rw [if_neg h, if_neg h]
    exact ⟨fun e => absurd e.symm h0, fun e => absurd e.symm h1⟩
theorem byM (hα : HM α B F) {a : Nat} {σ : SS} (ha : a ≤ 120) (h : σ.1 0 0 13 = zI a) (hs : SmM α σ) : m_X11_byteAt σ = some (b0 B F a) := by
  obtain ⟨g1, g2, g3⟩ := hα
  unfold m_X11_byteAt b0
  rw [hs.1 0 0 14 (by omega), g2, h, hs.1 0 0 12 (by omega), hs.2]
  by_cases c : a < F
  · rw [if_neg (by rw [zI_le (by omega) (by omega)]; omega), if_pos c]
    rcases g3 with ⟨e1, e2⟩ | ⟨e1, e2⟩
    · rw [e1, e2, if_neg (show ¬ (0 : Int32) ≤ -1 by decide), if_neg (zI_in (by omega) (by omega)), zI_cl (by omega)]
    · rw [e1, e2, if_pos (show (0 : Int32) ≤ 0 by decide), Int32.zero_add, if_neg (zI_in (by omega) (by omega)), zI_cl (by omega)]
  · rw [if_pos (by rw [zI_le (by omega) (by omega)]; omega), if_neg c]
theorem MS.at {a b o : Nat} {σ : SS} (h : MS α a o σ) : MS α b o (sI σ 0 0 13 (zI b)) := by
  obtain ⟨h1, h2, h3, s1, s2⟩ := h
  refine ⟨rfl, h2, h3, fun t j k hk => ?_, s2⟩
  rw [← s1 t j k hk]
  exact if_neg (by omega)
theorem MS.op {a o p : Nat} {σ : SS} (h : MS α a o σ) : MS α a p (sI σ 0 0 16 (zI p)) := by
  obtain ⟨h1, h2, h3, s1, s2⟩ := h
  refine ⟨h1, h2, rfl, fun t j k hk => ?_, s2⟩
  rw [← s1 t j k hk]
  exact if_neg (by omega)
theorem MF.op {e : Nat} {σ : SS} (h : MF α e σ) (v : Int32) : MF α e (sI σ 0 0 16 v) := by
  obtain ⟨h0, h1, h2, s1, s2⟩ := h
  refine ⟨h0, h1, h2, fun t j k hk => ?_, s2⟩
  rw [← s1 t j k hk]
  exact if_neg (by omega)
theorem MS.wr {a o : Nat} {σ : SS} (ha : a ≤ 120) (h : MS α a o σ) : ∃ τ, m_X11_wrong σ = (0, τ) ∧ MF α a τ := by
  obtain ⟨h1, h2, h3, s1, s2⟩ := h
  unfold m_X11_wrong
  rw [h2, if_neg (show ¬ (0 : Int32) ≤ -1 by decide), h1]
  refine ⟨_, rfl, ha, rfl, ⟨a, ha, h1⟩, fun t j k hk => ?_, s2⟩
  rw [← s1 t j k hk]
  exact if_neg (by omega)
theorem MF.wr {e : Nat} {σ : SS} (h : MF α e σ) : ∃ τ, m_X11_wrong σ = (0, τ) ∧ MF α e τ := by
  obtain ⟨h0, h1, h2, s1, s2⟩ := h
  unfold m_X11_wrong
  rw [h1, if_pos (zI_ge' (by omega))]
  refine ⟨_, rfl, h0, rfl, h2, fun t j k hk => ?_, s2⟩
  rw [← s1 t j k hk]
  exact if_neg (by omega)
theorem MS.nf {a o : Nat} {σ : SS} (h : MS α a o σ) : ¬ (0 : Int32) ≤ σ.1 0 0 15 := by
  rw [h.2.1]
  decide
theorem MF.nf {e : Nat} {σ : SS} (h : MF α e σ) : (0 : Int32) ≤ σ.1 0 0 15 := by
  rw [h.2.1]
  exact zI_ge' (by have := h.1; omega)
theorem tkF {e : Nat} {σ : SS} (h : MF α e σ) (c : Int32) : m_X11_takes c σ = some (0, σ) := by
  unfold m_X11_takes
  rw [if_pos h.nf]
theorem tkS (hα : HM α B F) {a o : Nat} {σ : SS} (ha : a ≤ 120) (h : MS α a o σ) {c : Int32} (h0 : ¬ c = 0) (h1 : ¬ c = -1) : m_X11_takes c σ = if btA B F a = c then some (1, sI σ 0 0 13 (zI (a + 1))) else some (0, σ) := by
  unfold m_X11_takes
  rw [if_neg h.nf, byM hα ha h.1 h.2.2.2]
  simp only [Option.bind_some]
  rw [h.1, show zI a + 1 = zI (a + 1) from zI_add a 1]
  by_cases d : btA B F a = c
  · rw [if_pos ((b0_eq h0 h1).mpr d), if_pos d]
  · rw [if_neg (fun z => d ((b0_eq h0 h1).mp z)), if_neg d]
theorem MP.bd {o p : Nat} {x : PR} {f : Nat → CD → FN → PR} {r : Option (Int32 × SS)} {g : Int32 × SS → Option (Int32 × SS)} (h : MP (β := Unit) α o x r) (h1 : ∀ e v σ, x = .inl e → MF α e σ → ∃ w τ, g (v, σ) = some (w, τ) ∧ MF α e τ) (h2 : ∀ a c u σ, x = .inr (a, c, u) → MS α a o σ → MP (β := Unit) α p (f a c u) (g (u (α.2.1 7 0), σ))) : MP (β := Unit) α p (pBd x f) (Option.bind r g) := by
  cases x with
  | inl e =>
    obtain ⟨v, σ, rfl, hk⟩ := h
    exact h1 e v σ rfl hk
  | inr q =>
    obtain ⟨σ, rfl, hk⟩ := h
    exact h2 q.1 q.2.1 q.2.2 σ rfl hk
theorem lev0 (c : Int32) : m_X3_levelOf c = zI 0 ↔ c = 124 := by
  unfold m_X3_levelOf
  (repeat' split) <;> first | (subst_vars; decide) | (constructor <;> intro e <;> first | exact absurd e (by decide) | exact absurd e ‹_›)
theorem lev1 (c : Int32) : m_X3_levelOf c = zI 1 ↔ c = 38 := by
  unfold m_X3_levelOf
  (repeat' split) <;> first | (subst_vars; decide) | (constructor <;> intro e <;> first | exact absurd e (by decide) | exact absurd e ‹_›)
theorem lev2 (c : Int32) : m_X3_levelOf c = zI 2 ↔ c = 60 ∨ c = 61 ∨ c = 62 := by
  unfold m_X3_levelOf
  (repeat' split) <;> first | (subst_vars; decide) | (constructor <;> intro e <;> first | exact absurd e (by decide) | (rcases e with e | e | e <;> exact absurd e ‹_›))
theorem lev3 (c : Int32) : m_X3_levelOf c = zI 3 ↔ c = 43 ∨ c = 45 := by
  unfold m_X3_levelOf
  (repeat' split) <;> first | (subst_vars; decide) | (constructor <;> intro e <;> first | exact absurd e (by decide) | (rcases e with e | e <;> exact absurd e ‹_›))
theorem lev4 (c : Int32) : m_X3_levelOf c = zI 4 ↔ c = 42 ∨ c = 47 ∨ c = 37 := by
  unfold m_X3_levelOf
  (repeat' split) <;> first | (subst_vars; decide) | (constructor <;> intro e <;> first | exact absurd e (by decide) | (rcases e with e | e | e <;> exact absurd e ‹_›))
/-- a loop over operators of a level -/
theorem mLoop (hF : F ≤ 120) {o : Nat} {sub : Nat → PR} {lv : Nat} (hlv : lv < 5) (h2 : lv ≠ 2) {rc : SS → Option (Int32 × SS)} {L : Nat → Int32 → SS → Option (Int32 × SS)} (gs : ∀ a, a ≤ F → gd F a (sub a)) (hs : ∀ a σ, a ≤ F → MS α a o σ → MP (β := Unit) α o (sub a) (rc σ))
    (hA : ∀ m e v σ, MF α e σ → ∃ w τ, L (m + 1) v σ = some (w, τ) ∧ MF α e τ)
    (hB : ∀ m a v σ, a ≤ F → MS α a o σ → ¬ m_X3_levelOf (btA B F a) = zI lv → L (m + 1) v σ = some (v, σ))
    (hC : ∀ m a v σ, a ≤ F → MS α a o σ → m_X3_levelOf (btA B F a) = zI lv → L (m + 1) v σ = Option.bind (rc (sI σ 0 0 13 (zI (a + 1)))) (fun q => L m (m_X3_both (btA B F a) v q.1) q.2)) : ∀ (n m a : Nat) (c : CD) (f : FN) (σ : SS), 120 ≤ n + a → n < m → a ≤ F → MS α a o σ → MP (β := Unit) α o (pLoop (btA B F) sub (zI lv) n a c f) (L m (f (α.2.1 7 0)) σ)
  | n, 0, a, c, f, σ, h0, hn, ha, h => absurd hn (by omega)
  | 0, m + 1, a, c, f, σ, h0, hn, ha, h => by
    refine ⟨σ, ?_, h⟩
    exact hB m a _ σ ha h (fun e => by have := bt_l hlv e; omega)
  | n + 1, m + 1, a, c, f, σ, h0, hn, ha, h => by
    unfold pLoop
    by_cases d : m_X3_levelOf (btA B F a) = zI lv
    · rw [if_pos d, hC m a _ σ ha h d]
      have hlt := bt_l hlv d
      refine (hs (a + 1) _ hlt h.at).bd (fun e v σ' he hk => ?_) (fun a' c' u σ' he hk => ?_)
      · match m, (by omega : 0 < m) with
        | m + 1, _ => exact hA m e _ σ' hk
      · have hb := gs (a + 1) hlt
        rw [he] at hb
        obtain ⟨b1, b2, b3⟩ : a + 1 < a' ∧ a' ≤ F ∧ c'.length + (a + 1) ≤ a' := hb
        rw [if_neg (show ¬ zI lv = 2 by rw [i2, zI_eq (by omega) (by omega)]; exact h2)]
        exact mLoop hF hlv h2 gs hs hA hB hC n m a' _ _ σ' (by omega) (by omega) b2 hk
    · rw [if_neg d]
      exact ⟨σ, hB m a _ σ ha h d, h⟩
theorem mL4 (hα : HM α B F) {o : Nat} {sub : Nat → PR} {rec : Nat → SS → Option (Int32 × SS)} (gs : ∀ a, a ≤ F → gd F a (sub a)) (hs : ∀ a σ, a ≤ F → MS α a o σ → MP (β := Unit) α o (sub a) (rec 5 σ)) (a : Nat) (σ : SS) (ha : a ≤ F) (h : MS α a o σ) : MP (β := Unit) α o (pL (btA B F) sub (zI 4) a) (m_X11_product rec σ) := by
  have hF := hα.1
  unfold m_X11_product
  refine (hs a σ ha h).bd (fun e v σ' he hk => ?_) (fun a' c u σ' he hk => ?_)
  · obtain ⟨k0, k1, ⟨a', k2, k3⟩, k4⟩ := hk
    show ∃ w τ, Option.bind (m_X11_byteAt σ') _ = _ ∧ _
    rw [byM hα k2 k3 k4, show FU = 99999 + 1 from rfl]
    refine ⟨v, σ', ?_, k0, k1, ⟨a', k2, k3⟩, k4⟩
    show (if _ then _ else _) = _
    rw [if_pos (by rw [k1]; exact zI_ge' (by omega))]
  · have hb := gs a ha
    rw [he] at hb
    obtain ⟨b1, b2, b3⟩ : a < a' ∧ a' ≤ F ∧ c.length + a ≤ a' := hb
    refine mLoop (L := fun n v τ => Option.bind (m_X11_byteAt τ) (fun q2 => L_X11_product_10 rec n v q2 τ)) hF (by decide) (by decide) gs hs (fun m e v σ hk => ?_) (fun m a v σ ha h hd => ?_) (fun m a v σ ha h hd => ?_) 120 FU a' c u σ' (by omega) (by unfold FU; omega) b2 hk
    · obtain ⟨k0, k1, ⟨a', k2, k3⟩, k4⟩ := hk
      refine ⟨v, σ, ?_, k0, k1, ⟨a', k2, k3⟩, k4⟩
      show Option.bind (m_X11_byteAt σ) _ = _
      rw [byM hα k2 k3 k4]
      show (if _ then _ else _) = _
      rw [if_pos (by rw [k1]; exact zI_ge' (by omega))]
    · show Option.bind (m_X11_byteAt σ) _ = _
      rw [byM hα (by omega) h.1 h.2.2.2]
      have hd' : ¬ (b0 B F a = 42 ∨ b0 B F a = 47 ∨ b0 B F a = 37) := fun e => hd ((lev4 _).mpr (by
        rcases e with e | e | e
        · exact Or.inl ((b0_eq (by decide) (by decide)).mp e)
        · exact Or.inr (Or.inl ((b0_eq (by decide) (by decide)).mp e))
        · exact Or.inr (Or.inr ((b0_eq (by decide) (by decide)).mp e))))
      show (if _ then _ else (if _ then _ else (if _ then _ else (if _ then _ else _)))) = _
      rw [if_neg h.nf, if_neg (fun e => hd' (Or.inl e)), if_neg (fun e => hd' (Or.inr (Or.inl e))), if_neg (fun e => hd' (Or.inr (Or.inr e)))]
    · show Option.bind (m_X11_byteAt σ) _ = _
      rw [byM hα (by omega) h.1 h.2.2.2]
      show (if _ then _ else (if _ then _ else (if _ then _ else (if _ then _ else _)))) = _
      rw [if_neg h.nf, h.1, show zI a + 1 = zI (a + 1) from zI_add a 1]
      have hd := (lev4 _).mp hd
      rcases hd with e | e | e
      · have e' : b0 B F a = 42 := (b0_eq (by decide) (by decide)).mpr e
        rw [e', e, if_pos (show (42 : Int32) = 42 from rfl)]
        rfl
      · have e' : b0 B F a = 47 := (b0_eq (by decide) (by decide)).mpr e
        rw [e', e, if_neg (show ¬ (47 : Int32) = 42 by decide), if_pos (show (47 : Int32) = 47 from rfl)]
        congr 1
        funext q
        show _ = Option.bind (m_X11_byteAt q.2) (fun q2 => L_X11_product_10 rec m (if q.1 = 0 then 0 else v / q.1) q2 q.2)
        by_cases z : q.1 = 0
        · rw [if_pos z, if_pos z]
        · rw [if_neg z, if_neg z]
      · have e' : b0 B F a = 37 := (b0_eq (by decide) (by decide)).mpr e
        rw [e', e, if_neg (show ¬ (37 : Int32) = 42 by decide), if_neg (show ¬ (37 : Int32) = 47 by decide), if_pos (show (37 : Int32) = 37 from rfl)]
        congr 1
        funext q
        show _ = Option.bind (m_X11_byteAt q.2) (fun q2 => L_X11_product_10 rec m (if q.1 = 0 then 0 else v - v / q.1 * q.1) q2 q.2)
        by_cases z : q.1 = 0
        · rw [if_pos z, if_pos z]
        · rw [if_neg z, if_neg z]
end PARM
