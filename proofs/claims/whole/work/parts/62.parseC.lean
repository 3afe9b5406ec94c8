/-! the class reads a text as told -/
section PARC
variable {B : Nat → Int32} {F : Nat} {α : SS}
def SmC (α σ : SS) : Prop := (∀ t j k, ¬ (t = 7 ∧ (k = 7 ∨ k = 8 ∨ k = 9)) → σ.1 t j k = α.1 t j k) ∧ (∀ t, t ≠ 11 → t ≠ 12 → σ.2.1 t = α.2.1 t) ∧ σ.2.2 = α.2.2
def KS (α : SS) (a : Nat) (l : CD) (σ : SS) : Prop := σ.1 7 0 8 = zI a ∧ σ.1 7 0 9 = -1 ∧ σ.1 7 0 7 = zI l.length ∧ cdAt l (σ.2.1 11 0) (σ.2.1 12 0) ∧ SmC α σ
def KF (α : SS) (e : Nat) (σ : SS) : Prop := σ.1 7 0 9 = zI e ∧ SmC α σ
def CP {β : Type} (α : SS) (l : CD) (x : Nat ⊕ (Nat × CD × β)) (r : Option SS) : Prop := match x with
  | .inl e => ∃ σ, r = some σ ∧ KF α e σ
  | .inr q => ∃ σ, r = some σ ∧ KS α q.1 (l ++ q.2.1) σ
/-- what is read: the tape -/
def HC (α : SS) (B : Nat → Int32) (F : Nat) : Prop := α.1 7 0 1 = zI F ∧ α.2.1 8 0 = B ∧ F ≤ 120
theorem nextC (hα : HC α B F) {a : Nat} {l : CD} {σ : SS} (ha : a ≤ F) (h : KS α a l σ) : m_X3_next σ = btA B F a := by
  obtain ⟨h1, h2, h3, h4, s1, s2, s3⟩ := h
  obtain ⟨g1, g2, g3⟩ := hα
  unfold m_X3_next btA
  rw [h1, s1 7 0 1 (by omega), g1, s2 8 (by decide) (by decide), g2, if_neg (zI_ge (by omega))]
  by_cases c : a < F
  · rw [if_neg (by rw [zI_le (by omega) (by omega)]; omega), if_neg (by rw [i120, zI_le (by omega) (by omega)]; omega), if_pos c, zI_cl (by omega)]
  · rw [if_pos (by rw [zI_le (by omega) (by omega)]; omega), if_neg c]
theorem getD_lt {l : CD} {s v : Int32} {i : Nat} (h : i < l.length) : (l ++ [(s, v)]).getD i (0, 0) = l.getD i (0, 0) := by
  simp [List.getD, List.getElem?_append_left h]
theorem getD_eq {l : CD} {s v : Int32} : (l ++ [(s, v)]).getD l.length (0, 0) = (s, v) := by
  simp [List.getD]
theorem KS.at {a b : Nat} {l : CD} {σ : SS} (h : KS α a l σ) : KS α b l (sI σ 7 0 8 (zI b)) := by
  obtain ⟨h1, h2, h3, h4, s1, s2, s3⟩ := h
  refine ⟨rfl, h2, h3, h4, fun t j k hk => ?_, s2, s3⟩
  rw [← s1 t j k hk]
  exact if_neg (fun e => hk ⟨e.1, Or.inr (Or.inl e.2.2)⟩)
theorem KS.ad {a : Nat} {l : CD} {σ : SS} (h : KS α a l σ) (hl : l.length < 128) (s v : Int32) : KS α a (l ++ [(s, v)]) (m_X3_addStep s v σ) := by
  obtain ⟨h1, h2, h3, h4, s1, s2, s3⟩ := h
  unfold m_X3_addStep
  rw [h3, if_neg (zI_ge (by omega)), if_pos (by rw [i128, zI_lt (by omega) (by omega)]; exact hl), zI_cl (by omega), i1, zI_add]
  refine ⟨h1, h2, ?_, fun i hi => ?_, fun t j k hk => ?_, fun t a b => ?_, s3⟩
  · rw [List.length_append]
    rfl
  · rw [List.length_append] at hi
    have hi : i < l.length + 1 := hi
    rw [sI_2, sA_g, sA_o (by decide), sA_g]
    by_cases e : i = l.length
    · subst e
      rw [if_pos rfl, if_pos rfl, getD_eq]
      exact ⟨rfl, rfl⟩
    · rw [if_neg e, if_neg e, getD_lt (by omega), sA_o (by decide)]
      exact h4 i (by omega)
  · rw [← s1 t j k hk]
    exact if_neg (fun e => hk ⟨e.1, Or.inl e.2.2⟩)
  · rw [sI_2, sA_o b, sA_o a]
    exact s2 t a b
theorem KF.ad {e : Nat} {σ : SS} (h : KF α e σ) (s v : Int32) : KF α e (m_X3_addStep s v σ) := by
  obtain ⟨h1, s1, s2, s3⟩ := h
  unfold m_X3_addStep
  by_cases c : σ.1 7 0 7 < 0
  · rw [if_pos c]; exact ⟨h1, s1, s2, s3⟩
  · rw [if_neg c]
    by_cases d : σ.1 7 0 7 < 128
    · rw [if_pos d]
      refine ⟨h1, fun t j k hk => ?_, fun t a b => ?_, s3⟩
      · rw [← s1 t j k hk]
        exact if_neg (fun e => hk ⟨e.1, Or.inl e.2.2⟩)
      · rw [sI_2, sA_o b, sA_o a]
        exact s2 t a b
    · rw [if_neg d]; exact ⟨h1, s1, s2, s3⟩
theorem KS.ft {a b : Nat} {l : CD} {σ : SS} (h : KS α a l σ) : KF α b (sI σ 7 0 9 (zI b)) := by
  obtain ⟨h1, h2, h3, h4, s1, s2, s3⟩ := h
  refine ⟨rfl, fun t j k hk => ?_, s2, s3⟩
  rw [← s1 t j k hk]
  exact if_neg (fun e => hk ⟨e.1, Or.inr (Or.inr e.2.2)⟩)
theorem KS.nf {a : Nat} {l : CD} {σ : SS} (h : KS α a l σ) : ¬ (0 : Int32) ≤ σ.1 7 0 9 := by
  rw [h.2.1]
  decide
theorem KF.nf {e : Nat} {σ : SS} (he : e ≤ 120) (h : KF α e σ) : (0 : Int32) ≤ σ.1 7 0 9 := by
  rw [h.1]
  exact zI_ge' (by omega)
theorem CP.bd {γ : Type} {l m : CD} {x : PR} {f : Nat → CD → FN → Nat ⊕ (Nat × CD × γ)} {r : Option SS} {g : SS → Option SS} (h : CP (β := FN) α l x r) (h1 : ∀ e σ, x = .inl e → KF α e σ → ∃ τ, g σ = some τ ∧ KF α e τ) (h2 : ∀ a c u σ, x = .inr (a, c, u) → KS α a (l ++ c) σ → CP α m (f a c u) (g σ)) : CP α m (pBd x f) (Option.bind r g) := by
  cases x with
  | inl e =>
    obtain ⟨σ, rfl, hk⟩ := h
    exact h1 e σ rfl hk
  | inr q =>
    obtain ⟨σ, rfl, hk⟩ := h
    exact h2 q.1 q.2.1 q.2.2 σ rfl hk
theorem numC3 (hα : HC α B F) : ∀ (k n v2 a : Nat) (v : Int32) (l : CD) (σ : SS), v2 + k = 4 → k < n → a ≤ F → l.length < 128 → KS α a l σ → ∃ τ, L_X3_readNumber_4 n v (zI v2) σ = some τ ∧ KS α (pNum (btA B F) k a v).1 (l ++ [(48, (pNum (btA B F) k a v).2)]) τ
  | k, 0, v2, a, v, l, σ, h0, hn, ha, hl, h => absurd hn (by omega)
  | 0, n + 1, v2, a, v, l, σ, h0, hn, ha, hl, h => by
    refine ⟨m_X3_addStep 48 v σ, ?_, h.ad hl 48 v⟩
    show (if _ then _ else _) = _
    rw [if_pos (by rw [i4, zI_le (by omega) (by omega)]; omega)]
    rfl
  | k + 1, n + 1, v2, a, v, l, σ, h0, hn, ha, hl, h => by
    have e : L_X3_readNumber_4 (n + 1) v (zI v2) σ = if m_X3_isDigit (btA B F a) = 0 then some (m_X3_addStep 48 v σ) else L_X3_readNumber_4 n (v * 10 + btA B F a - 48) (zI (v2 + 1)) (sI σ 7 0 8 (zI (a + 1))) := by
      show (if _ then _ else (if _ then _ else _)) = _
      rw [if_neg (by rw [i4, zI_le (by omega) (by omega)]; omega), nextC hα ha h, h.1, i1, zI_add, zI_add]
      rfl
    rw [e]
    unfold pNum
    by_cases c : m_X3_isDigit (btA B F a) = 0
    · rw [if_pos c, if_pos c]
      exact ⟨_, rfl, h.ad hl 48 v⟩
    · rw [if_neg c, if_neg c]
      exact numC3 hα k n (v2 + 1) (a + 1) _ l _ (by omega) (by omega) (bt_d c) hl h.at
theorem cLoop (hα : HC α B F) {rec : Nat → Int32 → Int32 → SS → Option SS} {sub : Nat → PR} {lv : Nat} {o : Int32} (hlv : lv < 5) (gs : ∀ a, a ≤ F → gd F a (sub a)) (hs : ∀ a l σ, a ≤ F → l.length ≤ a + 1 → KS α a l σ → CP α l (sub a) (rec 0 (zI (lv + 1)) o σ)) (l : CD) : ∀ (n m v3 a : Nat) (c : CD) (f : FN) (σ : SS), v3 + n = 120 → n < m → a ≤ F → (l ++ c).length ≤ a + 1 → KS α a (l ++ c) σ → CP α l (pLoop (btA B F) sub (zI lv) n a c f) (L_X3_readBinary_21 rec m (zI lv) o (zI v3) σ)
  | n, 0, v3, a, c, f, σ, h0, hn, ha, hl, h => absurd hn (by omega)
  | 0, m + 1, v3, a, c, f, σ, h0, hn, ha, hl, h => by
    refine ⟨σ, ?_, h⟩
    show (if _ then _ else _) = _
    rw [if_pos (by rw [i120, zI_le (by omega) (by omega)]; omega)]
  | n + 1, m + 1, v3, a, c, f, σ, h0, hn, ha, hl, h => by
    have hF := hα.2.2
    have e : L_X3_readBinary_21 rec (m + 1) (zI lv) o (zI v3) σ = if m_X3_levelOf (btA B F a) = zI lv then Option.bind (rec 0 (zI (lv + 1)) o (sI σ 7 0 8 (zI (a + 1)))) (fun q6 => bnT (m_X3_addStep (btA B F a) 0 q6) (fun q7 => if zI lv = 2 then some q7 else L_X3_readBinary_21 rec m (zI lv) o (zI (v3 + 1)) q7)) else some σ := by
      show (if _ then _ else (if _ then _ else (if _ then _ else _))) = _
      rw [if_neg (by rw [i120, zI_le (by omega) (by omega)]; omega), if_neg h.nf, nextC hα ha h, h.1, i1, zI_add, zI_add, zI_add]
    rw [e]
    unfold pLoop
    by_cases d : m_X3_levelOf (btA B F a) = zI lv
    · rw [if_pos d, if_pos d]
      have hlt := bt_l hlv d
      refine (hs (a + 1) (l ++ c) _ hlt (by omega) h.at).bd (fun e σ' he hk => ?_) (fun a' c' u σ' he hk => ?_)
      · have hb := gs (a + 1) hlt
        rw [he] at hb
        have hb : e ≤ F := hb
        have hk' := hk.ad (btA B F a) 0
        refine ⟨_, ?_, hk'⟩
        show (if zI lv = 2 then some _ else _) = _
        by_cases z : zI lv = 2
        · rw [if_pos z]
        · rw [if_neg z]
          match m, (by omega : 0 < m) with
          | m + 1, _ =>
            show (if _ then _ else (if _ then _ else _)) = _
            by_cases y : (120 : Int32) ≤ zI (v3 + 1)
            · rw [if_pos y]
            · rw [if_neg y, if_pos (hk'.nf (by omega))]
      · have hb := gs (a + 1) hlt
        rw [he] at hb
        obtain ⟨b1, b2, b3⟩ : a + 1 < a' ∧ a' ≤ F ∧ c'.length + (a + 1) ≤ a' := hb
        have hll : (l ++ c ++ c').length ≤ a' := by
          rw [List.length_append]
          omega
        have hk' := hk.ad (by omega) (btA B F a) 0
        rw [show l ++ c ++ c' ++ [(btA B F a, 0)] = l ++ (c ++ c' ++ [(btA B F a, 0)]) by simp [List.append_assoc]] at hk'
        show CP α l (if zI lv = 2 then _ else _) (if zI lv = 2 then some _ else _)
        by_cases z : zI lv = 2
        · rw [if_pos z, if_pos z]
          exact ⟨_, rfl, hk'⟩
        · rw [if_neg z, if_neg z]
          refine cLoop hα hlv gs hs l n m (v3 + 1) a' _ _ _ (by omega) (by omega) b2 ?_ hk'
          simp only [List.length_append, List.length_cons, List.length_nil] at hll ⊢
          omega
    · rw [if_neg d, if_neg d]
      exact ⟨σ, rfl, h⟩
def ndO : Nat → Nat
  | 0 => 1
  | d + 1 => ndO d + 7
theorem GL0 (n : Nat) (x1 x2 : Int32) (σ : SS) : m_GLaw (n + 1) 0 x1 x2 σ = m_X3_readBinary (m_GLaw n) x1 x2 σ := by
  rw [m_GLaw, if_pos rfl]
theorem GL1 (n : Nat) (x1 x2 : Int32) (σ : SS) : m_GLaw (n + 1) 1 x1 x2 σ = m_X3_readOperand (m_GLaw n) x1 σ := by
  rw [m_GLaw, if_neg (by decide)]
/-- levels, from the operand's reader on -/
theorem cLev (hα : HC α B F) {op : Nat → PR} {o : Int32} {need : Nat} (gs : ∀ a, a ≤ F → gd F a (op a)) (hs : ∀ n a l σ, need ≤ n → a ≤ F → l.length ≤ a + 1 → KS α a l σ → CP α l (op a) (m_GLaw n 1 o 0 σ)) : ∀ (j n a : Nat) (l : CD) (σ : SS), j ≤ 5 → need + 1 + j ≤ n → a ≤ F → l.length ≤ a + 1 → KS α a l σ → CP α l (pK (btA B F) op j a) (m_GLaw n 0 (zI (5 - j)) o σ)
  | j, 0, a, l, σ, hj, hn, ha, hl, h => absurd hn (by omega)
  | 0, n + 1, a, l, σ, hj, hn, ha, hl, h => by
    rw [GL0]
    unfold m_X3_readBinary
    rw [if_neg (show ¬ zI (5 - 0) ≤ 4 by decide)]
    have := hs n a l σ (by omega) ha hl h
    have e : ∀ r : Option SS, Option.bind r (fun q9 => some q9) = r := fun r => by cases r <;> rfl
    rw [e]
    exact this
  | j + 1, n + 1, a, l, σ, hj, hn, ha, hl, h => by
    have hF := hα.2.2
    rw [GL0]
    unfold m_X3_readBinary
    rw [if_pos (by rw [i4, zI_le (by omega) (by omega)]; omega), i1, zI_add, show 5 - (j + 1) + 1 = 5 - j by omega]
    have ih : ∀ a l σ, a ≤ F → l.length ≤ a + 1 → KS α a l σ → CP α l (pK (btA B F) op j a) (m_GLaw n 0 (zI (5 - j)) o σ) := fun a l σ ha hl h => cLev hα gs hs j n a l σ (by omega) (by omega) ha hl h
    have gK := fun a ha => gd_K (B := B) gs j a ha
    show CP α l (pL (btA B F) (pK (btA B F) op j) (zI (4 - j)) a) _
    refine (ih a l σ ha hl h).bd (fun e σ' he hk => ⟨σ', ?_, hk⟩) (fun a' c' u σ' he hk => ?_)
    · have hb := gK a ha
      rw [he] at hb
      have hb : e ≤ F := hb
      rw [show FU = 99999 + 1 from rfl]
      show (if _ then _ else (if _ then _ else _)) = _
      rw [if_neg (show ¬ (120 : Int32) ≤ 0 by decide), if_pos (hk.nf (by omega))]
    · have hb := gK a ha
      rw [he] at hb
      obtain ⟨b1, b2, b3⟩ : a < a' ∧ a' ≤ F ∧ c'.length + a ≤ a' := hb
      have := cLoop hα (lv := 4 - j) (o := o) (rec := m_GLaw n) (by omega) gK (by rw [show 4 - j + 1 = 5 - j by omega]; exact ih) l 120 FU 0 a' c' u σ' (by omega) (by unfold FU; omega) b2 (by rw [List.length_append]; omega) hk
      rw [show 5 - (j + 1) = 4 - j by omega]
      exact this
theorem cAtom (hα : HC α B F) {a : Nat} {l : CD} {σ : SS} (ha : a ≤ F) (hl : l.length ≤ a + 1) (h : KS α a l σ) {els : PR} {r : Option SS} (he : CP α l els r) : CP α l (pAtom (btA B F) a els) (if m_X3_isDigit (btA B F a) = 0 then (if m_X3_nameOf (btA B F a) < 0 then r else some (m_X3_addStep 110 (m_X3_nameOf (btA B F a)) (sI σ 7 0 8 (zI (a + 1))))) else m_X3_readNumber σ) := by
  have hF := hα.2.2
  unfold pAtom
  by_cases c : m_X3_isDigit (btA B F a) = 0
  · rw [if_pos c, if_pos c]
    by_cases d : m_X3_nameOf (btA B F a) < 0
    · rw [if_pos d, if_pos d]
      exact he
    · rw [if_neg d, if_neg d]
      exact ⟨_, rfl, h.at.ad (by omega) _ _⟩
  · rw [if_neg c, if_neg c]
    obtain ⟨τ, t1, t2⟩ := numC3 hα 4 FU 0 a 0 l σ (by omega) (by unfold FU; omega) ha (by omega) h
    exact ⟨τ, t1, t2⟩
theorem opE (hα : HC α B F) (rec : Nat → Int32 → Int32 → SS → Option SS) {a o : Nat} {l : CD} {σ : SS} (ha : a ≤ F) (h : KS α a l σ) (ho : o ≤ 6) : m_X3_readOperand rec (zI o) σ = if m_X3_isDigit (btA B F a) = 0 then (if m_X3_nameOf (btA B F a) < 0 then (if 6 ≤ o then some (sI σ 7 0 9 (zI a)) else if btA B F a = 33 then Option.bind (rec 1 (zI (o + 1)) 0 (sI σ 7 0 8 (zI (a + 1)))) (fun q => some (m_X3_addStep 33 0 q)) else if btA B F a = 45 then Option.bind (rec 1 (zI (o + 1)) 0 (sI σ 7 0 8 (zI (a + 1)))) (fun q => some (m_X3_addStep 126 0 q)) else if btA B F a = 40 then Option.bind (rec 0 0 (zI (o + 1)) (sI σ 7 0 8 (zI (a + 1)))) (fun q11 => if q11.1 7 0 9 < 0 then (if m_X3_next q11 = 41 then some (sI q11 7 0 8 (q11.1 7 0 8 + 1)) else some (sI q11 7 0 9 (q11.1 7 0 8))) else some q11) else some (sI σ 7 0 9 (zI a))) else some (m_X3_addStep 110 (m_X3_nameOf (btA B F a)) (sI σ 7 0 8 (zI (a + 1))))) else m_X3_readNumber σ := by
  have e : ∀ r : Option SS, Option.bind r (fun q9 => some q9) = r := fun r => by cases r <;> rfl
  have e6 : ((6 : Int32) ≤ zI o) ↔ 6 ≤ o := by rw [i6, zI_le (by omega) (by omega)]
  unfold m_X3_readOperand
  rw [nextC hα ha h, h.1, show zI a + 1 = zI (a + 1) from zI_add a 1, show zI o + 1 = zI (o + 1) from zI_add o 1, e]
  simp only [bnT]
  by_cases c : 6 ≤ o
  · rw [if_pos (e6.mpr c), if_pos c]
  · rw [if_neg (fun z => c (e6.mp z)), if_neg c]
theorem cOp (hα : HC α B F) : ∀ (d n a : Nat) (l : CD) (σ : SS), d ≤ 6 → ndO d ≤ n → a ≤ F → l.length ≤ a + 1 → KS α a l σ → CP α l (pOp (btA B F) d a) (m_GLaw n 1 (zI (6 - d)) 0 σ)
  | d, 0, a, l, σ, hd, hn, ha, hl, h => absurd hn (by cases d <;> simp [ndO])
  | 0, n + 1, a, l, σ, hd, hn, ha, hl, h => by
    rw [GL1, opE hα _ ha h (by omega), if_pos (by omega : 6 ≤ 6 - 0)]
    exact cAtom hα ha hl h ⟨_, rfl, h.ft⟩
  | d + 1, n + 1, a, l, σ, hd, hn, ha, hl, h => by
    have hF := hα.2.2
    have ndd : ndO (d + 1) = ndO d + 7 := rfl
    rw [GL1, opE hα _ ha h (by omega), if_neg (by omega : ¬ 6 ≤ 6 - (d + 1)), show 6 - (d + 1) + 1 = 6 - d by omega]
    refine cAtom hα ha hl h ?_
    by_cases c1 : btA B F a = 33
    · rw [if_pos c1, if_pos c1]
      have hlt := bt_c c1 (by decide)
      refine (cOp hα d n (a + 1) l _ (by omega) (by omega) hlt (by omega) h.at).bd (fun e σ' he hk => ⟨_, rfl, hk.ad _ _⟩) (fun a' c' u σ' he hk => ?_)
      have hb := gd_Op (B := B) d (a + 1) hlt
      rw [he] at hb
      obtain ⟨b1, b2, b3⟩ : a + 1 < a' ∧ a' ≤ F ∧ c'.length + (a + 1) ≤ a' := hb
      have := hk.ad (by rw [List.length_append]; omega) 33 0
      rw [List.append_assoc] at this
      exact ⟨_, rfl, this⟩
    · rw [if_neg c1, if_neg c1]
      by_cases c2 : btA B F a = 45
      · rw [if_pos c2, if_pos c2]
        have hlt := bt_c c2 (by decide)
        refine (cOp hα d n (a + 1) l _ (by omega) (by omega) hlt (by omega) h.at).bd (fun e σ' he hk => ⟨_, rfl, hk.ad _ _⟩) (fun a' c' u σ' he hk => ?_)
        have hb := gd_Op (B := B) d (a + 1) hlt
        rw [he] at hb
        obtain ⟨b1, b2, b3⟩ : a + 1 < a' ∧ a' ≤ F ∧ c'.length + (a + 1) ≤ a' := hb
        have := hk.ad (by rw [List.length_append]; omega) 126 0
        rw [List.append_assoc] at this
        exact ⟨_, rfl, this⟩
      · rw [if_neg c2, if_neg c2]
        by_cases c3 : btA B F a = 40
        · rw [if_pos c3, if_pos c3]
          have hlt := bt_c c3 (by decide)
          have hK := cLev hα (o := zI (6 - d)) (need := ndO d) (fun a ha => gd_Op (B := B) d a ha) (fun n a l σ q1 q2 q3 q4 => cOp hα d n a l σ (by omega) q1 q2 q3 q4) 5 n (a + 1) l _ (by omega) (by omega) hlt (by omega) h.at
          refine hK.bd (fun e σ' he hk => ?_) (fun a' c' u σ' he hk => ?_)
          · have hb := gd_K (B := B) (fun a ha => gd_Op (B := B) d a ha) 5 (a + 1) hlt
            rw [he] at hb
            have hb : e ≤ F := hb
            refine ⟨σ', ?_, hk⟩
            rw [hk.1, if_neg (zI_ge (by omega))]
          · have hb := gd_K (B := B) (fun a ha => gd_Op (B := B) d a ha) 5 (a + 1) hlt
            rw [he] at hb
            obtain ⟨b1, b2, b3⟩ : a + 1 < a' ∧ a' ≤ F ∧ c'.length + (a + 1) ≤ a' := hb
            rw [hk.2.1, if_pos (show (-1 : Int32) < 0 by decide), nextC hα b2 hk, hk.1]
            by_cases c4 : btA B F a' = 41
            · rw [if_pos c4, if_pos c4, show zI a' + 1 = zI (a' + 1) from zI_add a' 1]
              exact ⟨_, rfl, hk.at⟩
            · rw [if_neg c4, if_neg c4]
              exact ⟨_, rfl, hk.ft⟩
        · rw [if_neg c3, if_neg c3]
          exact ⟨_, rfl, h.ft⟩
theorem cE (hα : HC α B F) (a : Nat) (l : CD) (σ : SS) (ha : a ≤ F) (hl : l.length ≤ a + 1) (h : KS α a l σ) : CP α l (pE (btA B F) a) (m_GLaw 60 0 0 0 σ) :=
  cLev hα (o := zI (6 - 6)) (need := 43) (fun a ha => gd_Op (B := B) 6 a ha) (fun n a l σ q1 q2 q3 q4 => cOp hα 6 n a l σ (by omega) q1 q2 q3 q4) 5 60 a l σ (by omega) (by omega) ha hl h
end PARC
