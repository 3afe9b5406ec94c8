/-! law(): class and model; the steps run -/
theorem btA_c {f g : Nat → Int32} {N : Nat} (h : ∀ i, i < N → f i = g i) : btA f N = btA g N := by
  funext i
  unfold btA
  by_cases c : i < N
  · rw [if_pos c, if_pos c, h i c]
  · rw [if_neg c, if_neg c]
theorem law37 : ∀ (n q N : Nat) (σ : SS), q ≤ N → N ≤ 120 → N - q < n → ∃ ρ : SS, L_X11_law_37 n (zI N) (zI q) σ = some (1, ρ) ∧ (∀ t j k, ¬ (t = 0 ∧ k = 11) → ρ.1 t j k = σ.1 t j k) ∧ ρ.1 0 0 11 = zI N ∧ (∀ t, t ≠ 6 → ρ.2.1 t = σ.2.1 t) ∧ ρ.2.2 = σ.2.2 ∧ (∀ i, q ≤ i → i < N → ρ.2.1 6 0 i = σ.2.1 5 0 i) ∧ (∀ i, i < q → ρ.2.1 6 0 i = σ.2.1 6 0 i)
  | 0, q, N, σ, h1, h2, h3 => absurd h3 (by omega)
  | n + 1, q, N, σ, h1, h2, h3 => by
    by_cases e : q = N
    · subst e
      refine ⟨sI σ 0 0 11 (zI q), ?_, fun t j k hk => if_neg (by omega), rfl, fun _ _ => rfl, rfl, fun i a b => absurd a (by omega), fun i _ => rfl⟩
      show (if _ then _ else _) = _
      rw [if_pos (Int32.le_refl _)]
    · obtain ⟨ρ, r1, r2, r3, r4, r5, r6, r7⟩ := law37 n (q + 1) N (sA σ 6 0 q (σ.2.1 5 0 q)) (by omega) h2 (by omega)
      refine ⟨ρ, ?_, r2, r3, fun t ht => by rw [r4 t ht, sA_o ht], r5, fun i a b => ?_, fun i a => ?_⟩
      · rw [← r1]
        show (if _ then _ else _) = _
        rw [if_neg (by rw [zI_le (by omega) (by omega)]; omega), if_neg (zI_in (by omega) (by omega)), zI_cl (by omega), i1, zI_add]
      · by_cases f : i = q
        · rw [r7 i (by omega), sA_g, if_pos f, f]
        · rw [r6 i (by omega) b, sA_o (by decide)]
      · rw [r7 i (by omega), sA_g, if_neg (by omega)]
def wkS (σ : SS) (b : Int32) (N : Nat) : SS := sI (sI (sI (sI (sI σ 0 0 12 b) 0 0 13 0) 0 0 14 (zI N)) 0 0 15 (-1)) 0 0 16 0
theorem wkS_f {σ : SS} {b : Int32} {N : Nat} {t j k : Nat} (h : ¬ (t = 0 ∧ 12 ≤ k ∧ k ≤ 16)) : (wkS σ b N).1 t j k = σ.1 t j k := by
  unfold wkS
  show (if _ then _ else (if _ then _ else (if _ then _ else (if _ then _ else (if _ then _ else _))))) = _
  rw [if_neg (by omega), if_neg (by omega), if_neg (by omega), if_neg (by omega), if_neg (by omega)]
theorem P_law {σC σM : SS} (h : Inv σC σM) : ∃ r τC τM, m_X10_law σC = some (r, τC) ∧ m_X11_law σM = some (r, τM) ∧ Inv τC τM := by
  obtain ⟨P, Bn, lf, h1, h2, h3, h4, h5, h6, h7, h8, h9⟩ := h
  obtain ⟨N, d1, d2, d3, d4⟩ := h4
  have eB : btA (σM.2.1 5 0) N = btA (σC.2.1 8 0) N := btA_c d4
  have hC : HC σC (σC.2.1 8 0) N := ⟨d2, rfl, d1⟩
  have hM : HM (wkS σM (-1) N) (σM.2.1 5 0) N := ⟨d1, rfl, Or.inl ⟨rfl, rfl⟩⟩
  have h0 : MS (wkS σM (-1) N) 0 0 (wkS σM (-1) N) := ⟨rfl, rfl, rfl, fun _ _ _ _ => rfl, rfl⟩
  have tC := cText hC
  have tM := mText hM h0
  rw [eB] at tM
  have eW : m_X11_workOut (-1) (σM.1 0 0 9) σM = L_X11_workOut_33 FU 0 0 1 (wkS σM (-1) N) := by
    unfold m_X11_workOut
    rw [d3]
    rfl
  have FC : ∀ {τ : SS}, FL σC τ → ∀ t, t ≠ 7 → τ.1 t = σC.1 t := fun hf t ht => funext fun j => funext fun k => hf.1 t j k (fun e => ht e.1)
  have FA : ∀ {τ : SS}, FL σC τ → ∀ t, t ≠ 9 → t ≠ 10 → t ≠ 11 → t ≠ 12 → τ.2.1 t 0 = σC.2.1 t 0 := fun hf t a b c d => by rw [hf.2.1 t a b c d]
  unfold m_X11_law
  rw [eW]
  cases hx : pText (btA (σC.2.1 8 0) N) N with
  | inl e =>
    rw [hx] at tC tM
    obtain ⟨c0, τC, c1, c2, c3, c4, c5⟩ := tC
    obtain ⟨w, τM, m1, m2⟩ := tM
    rw [m1]
    simp only [Option.bind_some]
    rw [m2.2.1, if_neg (zI_ge (by omega))]
    have G : ∀ k, ¬ (12 ≤ k ∧ k ≤ 16) → k ≠ 9 → (sI τM 0 0 9 0).1 0 0 k = σM.1 0 0 k := fun k a b => by
      rw [sI_g, if_neg b, m2.2.2.2.1 0 0 k (by omega), wkS_f (by omega)]
    have A : (sI τM 0 0 9 0).2 = σM.2 := by rw [sI_2, m2.2.2.2.2]; rfl
    refine ⟨_, τC, _, c1, rfl, P, Bn, lf, h1.c (by rw [FC c2 1 (by decide)]) (G 6 (by omega) (by decide)) (G 7 (by omega) (by decide)), h2.c (FA c2 2 (by decide) (by decide) (by decide) (by decide)) (by rw [A]), h3.c (by rw [FC c2 3 (by decide)]) (G 5 (by omega) (by decide)) (G 4 (by omega) (by decide)) (FA c2 4 (by decide) (by decide) (by decide) (by decide)) (FA c2 5 (by decide) (by decide) (by decide) (by decide)) (FA c2 6 (by decide) (by decide) (by decide) (by decide)) (by rw [A]) (by rw [A]) (by rw [A]), ⟨0, by omega, c2.2.2.2, rfl, fun i hi => absurd hi (by omega)⟩, h5.c c3 (G 11 (by omega) (by decide)) c4 c5 (by rw [A]), h6.c (FC c2 28 (by decide)) (by rw [c2.2.2.1]) (by rw [A]) (by rw [A]) (by rw [A]), h7.c (by rw [FC c2 24 (by decide)]) (G 34 (by omega) (by decide)) (FA c2 25 (by decide) (by decide) (by decide) (by decide)) (by rw [A]), h8.c (by rw [FC c2 24 (by decide)]) (G 37 (by omega) (by decide)) (FA c2 26 (by decide) (by decide) (by decide) (by decide)) (by rw [A]), h9.c (by rw [FC c2 22 (by decide)]) (by rw [FC c2 23 (by decide)]) (by rw [FC c2 21 (by decide)]) (fun k a b => G k (by omega) (by omega)) (by rw [A])⟩
  | inr q =>
    rw [hx] at tC tM
    obtain ⟨p1, p2, τC, c1, c2, c3, c4⟩ := tC
    obtain ⟨τM, m1, m2, m3⟩ := tM
    rw [m1]
    simp only [Option.bind_some]
    rw [m2, if_pos (show (-1 : Int32) < 0 by decide), m3.1 0 0 9 (by omega), wkS_f (by omega), d3, i0]
    obtain ⟨ρ, r1, r2, r3, r4, r5, r6, -⟩ := law37 FU 0 N (sI τM 0 0 9 (zI 0)) (by omega) d1 (by unfold FU; omega)
    rw [r1]
    have A : τM.2 = σM.2 := by rw [m3.2]; rfl
    have G : ∀ k, ¬ (11 ≤ k ∧ k ≤ 16) → k ≠ 9 → ρ.1 0 0 k = σM.1 0 0 k := fun k a b => by
      rw [r2 0 0 k (by omega), sI_g, if_neg b, m3.1 0 0 k (by omega), wkS_f (by omega)]
    have AM : ∀ t, t ≠ 6 → ρ.2.1 t 0 = σM.2.1 t 0 := fun t ht => by rw [r4 t ht, sI_2, A]
    have AL : ρ.2.2 = σM.2.2 := by rw [r5, sI_2, A]
    refine ⟨_, τC, _, c1, rfl, P, Bn, some q.2, h1.c (by rw [FC c2 1 (by decide)]) (G 6 (by omega) (by decide)) (G 7 (by omega) (by decide)), h2.c (FA c2 2 (by decide) (by decide) (by decide) (by decide)) (AM 1 (by decide)), h3.c (by rw [FC c2 3 (by decide)]) (G 5 (by omega) (by decide)) (G 4 (by omega) (by decide)) (FA c2 4 (by decide) (by decide) (by decide) (by decide)) (FA c2 5 (by decide) (by decide) (by decide) (by decide)) (FA c2 6 (by decide) (by decide) (by decide) (by decide)) (AM 2 (by decide)) (AM 3 (by decide)) (AM 4 (by decide)), ⟨0, by omega, c2.2.2.2, ?_, fun i hi => absurd hi (by omega)⟩, ⟨N, q.1, d1, r3, ?_, p1, p2, c3, c4⟩, h6.c (FC c2 28 (by decide)) (by rw [c2.2.2.1]) (AM 14 (by decide)) (AM 15 (by decide)) (by rw [AL]), h7.c (by rw [FC c2 24 (by decide)]) (G 34 (by omega) (by decide)) (FA c2 25 (by decide) (by decide) (by decide) (by decide)) (AM 12 (by decide)), h8.c (by rw [FC c2 24 (by decide)]) (G 37 (by omega) (by decide)) (FA c2 26 (by decide) (by decide) (by decide) (by decide)) (AM 13 (by decide)), h9.c (by rw [FC c2 22 (by decide)]) (by rw [FC c2 23 (by decide)]) (by rw [FC c2 21 (by decide)]) (fun k a b => G k (by omega) (by omega)) (AM 11 (by decide))⟩
    · rw [r2 0 0 9 (by omega)]
      rfl
    · have : btA (ρ.2.1 6 0) N = btA (σC.2.1 8 0) N := btA_c (fun i hi => by
        rw [r6 i (by omega) hi, sI_2, A, d4 i hi])
      rw [this, hx]
/-! the steps -/
def FrX (σ τ : SS) : Prop := (∀ t j k, ¬ (t = 7 ∧ k = 11) → τ.1 t j k = σ.1 t j k) ∧ (∀ t, t ≠ 13 → τ.2.1 t = σ.2.1 t) ∧ τ.2.2 = σ.2.2
theorem FrX.rf (σ : SS) : FrX σ σ := ⟨fun _ _ _ _ => rfl, fun _ _ => rfl, rfl⟩
theorem FrX.tr {σ τ υ : SS} (h : FrX σ τ) (g : FrX τ υ) : FrX σ υ := ⟨fun t j k a => (g.1 t j k a).trans (h.1 t j k a), fun t a => (g.2.1 t a).trans (h.2.1 t a), g.2.2.trans h.2.2⟩
def cAt (c : CD) (i : Nat) (σ : SS) : Prop := ∀ k, k < c.length → σ.2.1 9 0 (i + k) = (c.getD k (0, 0)).1 ∧ σ.2.1 10 0 (i + k) = (c.getD k (0, 0)).2
theorem cAt.fr {c : CD} {i : Nat} {σ τ : SS} (h : cAt c i σ) (f : FrX σ τ) : cAt c i τ := fun k hk => by
  rw [f.2.1 9 (by decide), f.2.1 10 (by decide)]
  exact h k hk
theorem cAt.lf {c d : CD} {i : Nat} {σ : SS} (h : cAt (c ++ d) i σ) : cAt c i σ := fun k hk => by
  have := h k (by rw [List.length_append]; omega)
  rw [show (c ++ d).getD k (0, 0) = c.getD k (0, 0) by simp [List.getD, List.getElem?_append_left hk]] at this
  exact this
theorem cAt.rt {c d : CD} {i : Nat} {σ : SS} (h : cAt (c ++ d) i σ) : cAt d (i + c.length) σ := fun k hk => by
  have := h (c.length + k) (by rw [List.length_append]; omega)
  rw [show (c ++ d).getD (c.length + k) (0, 0) = d.getD k (0, 0) by simp [List.getD, List.getElem?_append_right], ← Nat.add_assoc] at this
  exact this
def Ex (c : CD) (f : FN) : Prop := 0 < c.length ∧ ∀ (n i p len : Nat) (sk : Int32) (σ : SS), cAt c i σ → σ.1 7 0 4 = zI len → i + c.length ≤ len → len ≤ 128 → σ.1 7 0 11 = zI p → p ≤ i → ∃ τ, L_X3_worth_9 (n + c.length) sk (zI i) σ = L_X3_worth_9 n sk (zI (i + c.length)) τ ∧ FrX σ τ ∧ τ.1 7 0 11 = zI (p + 1) ∧ τ.2.1 13 0 p = f (σ.2.1 15 0) ∧ ∀ k, k < p → τ.2.1 13 0 k = σ.2.1 13 0 k
theorem push_ok {σ : SS} {p : Nat} (hp : σ.1 7 0 11 = zI p) (h : p < 128) (v : Int32) : FrX σ (m_X3_push v σ) ∧ (m_X3_push v σ).1 7 0 11 = zI (p + 1) ∧ (m_X3_push v σ).2.1 13 0 p = v ∧ ∀ k, k < p → (m_X3_push v σ).2.1 13 0 k = σ.2.1 13 0 k := by
  unfold m_X3_push
  rw [hp, if_neg (zI_ge (by omega)), if_pos (by rw [i128, zI_lt (by omega) (by omega)]; exact h), zI_cl (by omega), i1, zI_add]
  refine ⟨⟨fun t j k hk => if_neg (by omega), fun t ht => by rw [sI_2, sA_o ht], rfl⟩, rfl, ?_, fun k hk => ?_⟩
  · rw [sI_2, sA_g, if_pos rfl]
  · rw [sI_2, sA_g, if_neg (by omega)]
theorem pop_ok {σ : SS} {p : Nat} (hp : σ.1 7 0 11 = zI (p + 1)) (h : p < 128) : ∃ τ, m_X3_pop σ = some (σ.2.1 13 0 p, τ) ∧ FrX σ τ ∧ τ.1 7 0 11 = zI p ∧ τ.2 = σ.2 := by
  unfold m_X3_pop
  rw [hp, i1, if_neg (by rw [zI_lt (by omega) (by omega)]; omega), if_pos (by rw [i128, zI_le (by omega) (by omega)]; omega), zI_sub (by omega), show p + 1 - 1 = p by omega, if_neg (zI_in (by omega) (by omega)), zI_cl (by omega)]
  exact ⟨_, rfl, ⟨fun t j k hk => if_neg (by omega), fun t ht => rfl, rfl⟩, rfl, rfl⟩
theorem w_in {σ : SS} {i len : Nat} (hl : σ.1 7 0 4 = zI len) (h : i < len) (h2 : len ≤ 128) (n : Nat) (sk : Int32) {s v : Int32} (e1 : σ.2.1 9 0 i = s) (e2 : σ.2.1 10 0 i = v) : L_X3_worth_9 (n + 1) sk (zI i) σ = if s = 48 then bnT (m_X3_push v σ) (fun q5 => L_X3_worth_9 n sk (zI (i + 1)) q5) else if s = 110 then (if v < 0 then bnT (m_X3_push 0 σ) (fun q8 => L_X3_worth_9 n sk (zI (i + 1)) q8) else if 6 ≤ v then bnT (m_X3_push 0 σ) (fun q10 => L_X3_worth_9 n sk (zI (i + 1)) q10) else bnT (m_X3_push (σ.2.1 15 0 v.toNatClampNeg) σ) (fun q11 => L_X3_worth_9 n sk (zI (i + 1)) q11)) else if s = 63 then Option.bind (m_X3_pop σ) (fun q13 => if q13.1 = 0 then L_X3_worth_9 n 1 (zI (i + 1)) q13.2 else L_X3_worth_9 n 0 (zI (i + 1)) q13.2) else if s = 59 then Option.bind (m_X3_pop σ) (fun q16 => if sk = 0 then some (q16.1, q16.2) else L_X3_worth_9 n 0 (zI (i + 1)) q16.2) else Option.bind (m_X3_pop σ) (fun q18 => if s = 126 then bnT (m_X3_push (-q18.1) q18.2) (fun q20 => L_X3_worth_9 n sk (zI (i + 1)) q20) else if s = 33 then (if q18.1 = 0 then bnT (m_X3_push 1 q18.2) (fun q23 => L_X3_worth_9 n sk (zI (i + 1)) q23) else bnT (m_X3_push 0 q18.2) (fun q24 => L_X3_worth_9 n sk (zI (i + 1)) q24)) else Option.bind (m_X3_pop q18.2) (fun q25 => bnT (m_X3_push (m_X3_both s q25.1 q18.1) q25.2) (fun q26 => L_X3_worth_9 n sk (zI (i + 1)) q26))) := by
  rw [L_X3_worth_9, hl, if_neg (by rw [zI_le (by omega) (by omega)]; omega), if_neg (by rw [i128, zI_le (by omega) (by omega)]; omega), if_neg (zI_in (by omega) (by omega)), zI_cl (by omega), e1, e2, show zI i + 1 = zI (i + 1) from zI_add i 1]
theorem ex_num (v : Int32) : Ex [(48, v)] (fun _ => v) := ⟨Nat.zero_lt_succ _, fun n i p len sk σ hc hl h1 h2 hp hpi => by
  have h1 : i + 1 ≤ len := h1
  have c1 : σ.2.1 9 0 i = 48 := (hc 0 (Nat.zero_lt_succ _)).1
  have c2 : σ.2.1 10 0 i = v := (hc 0 (Nat.zero_lt_succ _)).2
  obtain ⟨q1, q2, q3, q4⟩ := push_ok hp (by omega) v
  refine ⟨m_X3_push v σ, ?_, q1, q2, q3, q4⟩
  show L_X3_worth_9 (n + 1) sk (zI i) σ = _
  rw [w_in hl (by omega) h2 n sk c1 c2, if_pos (show (48 : Int32) = 48 from rfl)]
  rfl⟩
theorem ex_name {k : Nat} (hk : k < 6) : Ex [(110, zI k)] (fun ν => ν k) := ⟨Nat.zero_lt_succ _, fun n i p len sk σ hc hl h1 h2 hp hpi => by
  have h1 : i + 1 ≤ len := h1
  have c1 : σ.2.1 9 0 i = 110 := (hc 0 (Nat.zero_lt_succ _)).1
  have c2 : σ.2.1 10 0 i = zI k := (hc 0 (Nat.zero_lt_succ _)).2
  obtain ⟨q1, q2, q3, q4⟩ := push_ok hp (by omega) (σ.2.1 15 0 k)
  refine ⟨m_X3_push (σ.2.1 15 0 k) σ, ?_, q1, q2, q3, q4⟩
  show L_X3_worth_9 (n + 1) sk (zI i) σ = _
  rw [w_in hl (by omega) h2 n sk c1 c2, if_neg (show ¬ (110 : Int32) = 48 by decide), if_pos (show (110 : Int32) = 110 from rfl), if_neg (zI_ge (by omega)), if_neg (by rw [i6, zI_le (by omega) (by omega)]; omega), zI_cl (by omega)]
  rfl⟩
theorem len1 (c : CD) (s v : Int32) : (c ++ [(s, v)]).length = c.length + 1 := by
  rw [List.length_append]
  rfl
theorem ex_un {c : CD} {f : FN} (h : Ex c f) (s : Int32) (u : Int32 → Int32) (hs : (s = 126 ∧ u = fun x => -x) ∨ (s = 33 ∧ u = fun x => if x = 0 then 1 else 0)) : Ex (c ++ [(s, 0)]) (fun ν => u (f ν)) := ⟨by rw [len1]; omega, fun n i p len sk σ hc hl h1 h2 hp hpi => by
  rw [len1] at h1
  obtain ⟨τ, t1, t2, t3, t4, t5⟩ := h.2 (n + 1) i p len sk σ hc.lf hl (by omega) h2 hp hpi
  have c1 : τ.2.1 9 0 (i + c.length) = s := ((hc.rt.fr t2) 0 (Nat.zero_lt_succ _)).1
  have c2 : τ.2.1 10 0 (i + c.length) = 0 := ((hc.rt.fr t2) 0 (Nat.zero_lt_succ _)).2
  obtain ⟨υ, u1, u2, u3, u4⟩ := pop_ok t3 (by omega)
  obtain ⟨q1, q2, q3, q4⟩ := push_ok u3 (by omega) (u (f (σ.2.1 15 0)))
  have hl' : τ.1 7 0 4 = zI len := by rw [t2.1 7 0 4 (by omega)]; exact hl
  refine ⟨m_X3_push (u (f (σ.2.1 15 0))) υ, ?_, (t2.tr u2).tr q1, q2, q3, fun k hk => ?_⟩
  · rw [len1, show n + (c.length + 1) = n + 1 + c.length by omega, t1, w_in hl' (by omega) h2 n sk c1 c2, u1, t4, ← Nat.add_assoc]
    simp only [Option.bind_some]
    rcases hs with ⟨rfl, rfl⟩ | ⟨rfl, rfl⟩
    · rfl
    · rw [if_neg (show ¬ (33 : Int32) = 48 by decide), if_neg (show ¬ (33 : Int32) = 110 by decide), if_neg (show ¬ (33 : Int32) = 63 by decide), if_neg (show ¬ (33 : Int32) = 59 by decide), if_neg (show ¬ (33 : Int32) = 126 by decide), if_pos (show (33 : Int32) = 33 from rfl)]
      by_cases z : f (σ.2.1 15 0) = 0
      · rw [if_pos z, show (fun x : Int32 => if x = 0 then (1 : Int32) else 0) (f (σ.2.1 15 0)) = 1 from if_pos z]
        rfl
      · rw [if_neg z, show (fun x : Int32 => if x = 0 then (1 : Int32) else 0) (f (σ.2.1 15 0)) = 0 from if_neg z]
        rfl
  · rw [q4 k hk, u4, t5 k hk]⟩
theorem ex_bin {c c' : CD} {f f' : FN} (h : Ex c f) (h' : Ex c' f') {s : Int32} (hs : ¬ s = 48 ∧ ¬ s = 110 ∧ ¬ s = 63 ∧ ¬ s = 59 ∧ ¬ s = 126 ∧ ¬ s = 33) : Ex (c ++ c' ++ [(s, 0)]) (fun ν => m_X3_both s (f ν) (f' ν)) := ⟨by rw [len1]; omega, fun n i p len sk σ hc hl h1 h2 hp hpi => by
  rw [len1, List.length_append] at h1
  have hpos := h.1
  obtain ⟨τ, t1, t2, t3, t4, t5⟩ := h.2 (n + 1 + c'.length) i p len sk σ hc.lf.lf hl (by omega) h2 hp hpi
  have hl' : τ.1 7 0 4 = zI len := by rw [t2.1 7 0 4 (by omega)]; exact hl
  obtain ⟨υ, u1, u2, u3, u4, u5⟩ := h'.2 (n + 1) (i + c.length) (p + 1) len sk τ (hc.lf.rt.fr t2) hl' (by omega) h2 t3 (by omega)
  have hl2 : υ.1 7 0 4 = zI len := by rw [u2.1 7 0 4 (by omega)]; exact hl'
  have hcr := (hc.rt.fr t2).fr u2
  rw [List.length_append, ← Nat.add_assoc] at hcr
  have c1 : υ.2.1 9 0 (i + c.length + c'.length) = s := (hcr 0 (Nat.zero_lt_succ _)).1
  have c2 : υ.2.1 10 0 (i + c.length + c'.length) = 0 := (hcr 0 (Nat.zero_lt_succ _)).2
  have hν : τ.2.1 15 0 = σ.2.1 15 0 := by rw [t2.2.1 15 (by decide)]
  obtain ⟨φ, v1, v2, v3, v4⟩ := pop_ok u3 (by omega)
  obtain ⟨χ, w1, w2, w3, w4⟩ := pop_ok v3 (by omega)
  have ea : φ.2.1 13 0 p = f (σ.2.1 15 0) := by rw [v4, u5 p (by omega), t4]
  have eb : υ.2.1 13 0 (p + 1) = f' (σ.2.1 15 0) := by rw [u4, hν]
  obtain ⟨q1, q2, q3, q4⟩ := push_ok w3 (by omega) (m_X3_both s (f (σ.2.1 15 0)) (f' (σ.2.1 15 0)))
  obtain ⟨s1, s2, s3, s4, s5, s6⟩ := hs
  refine ⟨m_X3_push (m_X3_both s (f (σ.2.1 15 0)) (f' (σ.2.1 15 0))) χ, ?_, (((t2.tr u2).tr v2).tr w2).tr q1, q2, q3, fun k hk => ?_⟩
  · rw [len1, List.length_append, show n + (c.length + c'.length + 1) = n + 1 + c'.length + c.length by omega, t1, u1, w_in hl2 (by omega) h2 n sk c1 c2, v1, eb]
    simp only [Option.bind_some]
    rw [if_neg s1, if_neg s2, if_neg s3, if_neg s4, if_neg s5, if_neg s6, w1, ea, show i + (c.length + c'.length + 1) = i + c.length + c'.length + 1 by omega]
    rfl
  · rw [q4 k hk, w4, v4, u5 k (by omega), t5 k hk]⟩
/-! a text's steps give what it gives -/
section EXP
variable {bt : Nat → Int32}
def EP (x : PR) : Prop := match x with
  | .inl _ => True
  | .inr q => Ex q.2.1 q.2.2
theorem EP.bd {x : PR} {f : Nat → CD → FN → PR} (h : EP x) (hf : ∀ a c g, Ex c g → EP (f a c g)) : EP (pBd x f) := by
  cases x with
  | inl e => trivial
  | inr q => exact hf _ _ _ h
theorem lev_ne {c : Int32} {k : Nat} (hk : k < 5) (h : m_X3_levelOf c = zI k) : ¬ c = 48 ∧ ¬ c = 110 ∧ ¬ c = 63 ∧ ¬ c = 59 ∧ ¬ c = 126 ∧ ¬ c = 33 := by
  have z : ∀ d : Int32, m_X3_levelOf d = -1 → ¬ c = d := fun d hd e => by
    rw [e, hd] at h
    exact zI_ne (by omega) h.symm
  exact ⟨z _ rfl, z _ rfl, z _ rfl, z _ rfl, z _ rfl, z _ rfl⟩
theorem ep_atom {a : Nat} {els : PR} (h : EP els) : EP (pAtom bt a els) := by
  unfold pAtom
  by_cases c : m_X3_isDigit (bt a) = 0
  · rw [if_pos c]
    by_cases d : m_X3_nameOf (bt a) < 0
    · rw [if_pos d]; exact h
    · rw [if_neg d]
      rcases nmV (bt a) with e | ⟨-, k, hk, e⟩
      · rw [e] at d
        exact absurd (by decide) d
      · show Ex [(110, m_X3_nameOf (bt a))] (fun ν => ν (m_X3_nameOf (bt a)).toNatClampNeg)
        rw [e, zI_cl (by omega)]
        exact ex_name hk
  · rw [if_neg c]
    exact ex_num _
theorem ep_loop {sub : Nat → PR} (hs : ∀ a, EP (sub a)) {k : Nat} (hk : k < 5) : ∀ (n a : Nat) (c : CD) (f : FN), Ex c f → EP (pLoop bt sub (zI k) n a c f)
  | 0, a, c, f, h => h
  | n + 1, a, c, f, h => by
    unfold pLoop
    by_cases e : m_X3_levelOf (bt a) = zI k
    · rw [if_pos e]
      refine (hs (a + 1)).bd (fun a' c' g hg => ?_)
      have := ex_bin h hg (lev_ne hk e)
      by_cases d : zI k = 2
      · rw [if_pos d]
        exact this
      · rw [if_neg d]
        exact ep_loop hs hk n a' _ _ this
    · rw [if_neg e]
      exact h
theorem ep_K {op : Nat → PR} (hs : ∀ a, EP (op a)) : ∀ (j a : Nat), EP (pK bt op j a)
  | 0, a => hs a
  | j + 1, a => (ep_K hs j a).bd (fun a' c g hg => ep_loop (fun a => ep_K hs j a) (by omega) 120 a' c g hg)
theorem ep_Op : ∀ (d a : Nat), EP (pOp bt d a)
  | 0, a => ep_atom trivial
  | d + 1, a => by
    refine ep_atom ?_
    by_cases c1 : bt a = 33
    · rw [if_pos c1]
      exact (ep_Op d (a + 1)).bd (fun a' c g hg => ex_un hg 33 (fun x => if x = 0 then 1 else 0) (Or.inr ⟨rfl, rfl⟩))
    · rw [if_neg c1]
      by_cases c2 : bt a = 45
      · rw [if_pos c2]
        exact (ep_Op d (a + 1)).bd (fun a' c g hg => ex_un hg 126 (fun x => -x) (Or.inl ⟨rfl, rfl⟩))
      · rw [if_neg c2]
        by_cases c3 : bt a = 40
        · rw [if_pos c3]
          refine (ep_K (fun a => ep_Op d a) 5 (a + 1)).bd (fun a' c g hg => ?_)
          by_cases c4 : bt a' = 41
          · rw [if_pos c4]
            exact hg
          · rw [if_neg c4]
            trivial
        · rw [if_neg c3]
          trivial
theorem ep_E (a : Nat) : EP (pE bt a) := ep_K (fun a => ep_Op 6 a) 5 a
/-- lines -/
def Lx (c : CD) (g : LN) : Prop := ∀ (n i p len : Nat) (σ : SS), cAt c i σ → σ.1 7 0 4 = zI len → i + c.length ≤ len → len ≤ 128 → σ.1 7 0 11 = zI p → p ≤ i → match g (σ.2.1 15 0) with
  | some v => ∃ τ, L_X3_worth_9 (n + c.length) 0 (zI i) σ = some (v, τ) ∧ FrX σ τ
  | none => ∃ τ, L_X3_worth_9 (n + c.length) 0 (zI i) σ = L_X3_worth_9 n 0 (zI (i + c.length)) τ ∧ FrX σ τ ∧ τ.1 7 0 11 = zI p
theorem lx_1 {c : CD} {f : FN} (h : Ex c f) : Lx (c ++ [(59, 0)]) (fun ν => some (f ν)) := fun n i p len σ hc hl h1 h2 hp hpi => by
  rw [len1] at h1
  obtain ⟨τ, t1, t2, t3, t4, t5⟩ := h.2 (n + 1) i p len 0 σ hc.lf hl (by omega) h2 hp hpi
  have c1 : τ.2.1 9 0 (i + c.length) = 59 := ((hc.rt.fr t2) 0 (Nat.zero_lt_succ _)).1
  have c2 : τ.2.1 10 0 (i + c.length) = 0 := ((hc.rt.fr t2) 0 (Nat.zero_lt_succ _)).2
  obtain ⟨υ, u1, u2, u3, u4⟩ := pop_ok t3 (by omega)
  have hl' : τ.1 7 0 4 = zI len := by rw [t2.1 7 0 4 (by omega)]; exact hl
  refine ⟨υ, ?_, t2.tr u2⟩
  rw [len1, show n + (c.length + 1) = n + 1 + c.length by omega, t1, w_in hl' (by omega) h2 n 0 c1 c2, u1, t4]
  rfl
theorem lx_2 {c c' : CD} {f f' : FN} (h : Ex c f) (h' : Ex c' f') : Lx (c ++ [(63, 0)] ++ c' ++ [(59, 0)]) (fun ν => if f ν = 0 then none else some (f' ν)) := fun n i p len σ hc hl h1 h2 hp hpi => by
  have eL : (c ++ [((63 : Int32), (0 : Int32))] ++ c' ++ [(59, 0)]).length = c.length + 1 + c'.length + 1 := by rw [len1, List.length_append, len1]
  rw [eL] at h1
  obtain ⟨τ, t1, t2, t3, t4, t5⟩ := h.2 (n + 1 + c'.length + 1) i p len 0 σ hc.lf.lf.lf hl (by omega) h2 hp hpi
  have c1 : τ.2.1 9 0 (i + c.length) = 63 := ((hc.lf.lf.rt.fr t2) 0 (Nat.zero_lt_succ _)).1
  have c2 : τ.2.1 10 0 (i + c.length) = 0 := ((hc.lf.lf.rt.fr t2) 0 (Nat.zero_lt_succ _)).2
  obtain ⟨υ, u1, u2, u3, u4⟩ := pop_ok t3 (by omega)
  have hl' : τ.1 7 0 4 = zI len := by rw [t2.1 7 0 4 (by omega)]; exact hl
  have hl2 : υ.1 7 0 4 = zI len := by rw [u2.1 7 0 4 (by omega)]; exact hl'
  have hc' := (hc.lf.rt.fr t2).fr u2
  rw [len1, ← Nat.add_assoc] at hc'
  have hg := hc.rt
  rw [List.length_append, len1, ← Nat.add_assoc, ← Nat.add_assoc] at hg
  have hν : υ.2.1 15 0 = σ.2.1 15 0 := by rw [u2.2.1 15 (by decide), t2.2.1 15 (by decide)]
  have e1 : L_X3_worth_9 (n + (c ++ [((63 : Int32), (0 : Int32))] ++ c' ++ [(59, 0)]).length) 0 (zI i) σ = if f (σ.2.1 15 0) = 0 then L_X3_worth_9 (n + 1 + c'.length) 1 (zI (i + c.length + 1)) υ else L_X3_worth_9 (n + 1 + c'.length) 0 (zI (i + c.length + 1)) υ := by
    rw [eL, show n + (c.length + 1 + c'.length + 1) = n + 1 + c'.length + 1 + c.length by omega, t1, w_in hl' (by omega) h2 (n + 1 + c'.length) 0 c1 c2, u1, t4]
    rfl
  have fin : ∀ sk, ∃ φ, L_X3_worth_9 (n + 1 + c'.length) sk (zI (i + c.length + 1)) υ = (if sk = 0 then some (f' (σ.2.1 15 0), φ) else L_X3_worth_9 n 0 (zI (i + (c.length + 1 + c'.length + 1))) φ) ∧ FrX σ φ ∧ φ.1 7 0 11 = zI p := fun sk => by
    obtain ⟨χ, v1, v2, v3, v4, v5⟩ := h'.2 (n + 1) (i + c.length + 1) p len sk υ hc' hl2 (by omega) h2 u3 (by omega)
    have hl3 : χ.1 7 0 4 = zI len := by rw [v2.1 7 0 4 (by omega)]; exact hl2
    have hgr := ((hg.fr t2).fr u2).fr v2
    have d1 : χ.2.1 9 0 (i + c.length + 1 + c'.length) = 59 := (hgr 0 (Nat.zero_lt_succ _)).1
    have d2 : χ.2.1 10 0 (i + c.length + 1 + c'.length) = 0 := (hgr 0 (Nat.zero_lt_succ _)).2
    obtain ⟨φ, w1, w2, w3, w4⟩ := pop_ok v3 (by omega)
    refine ⟨φ, ?_, ((t2.tr u2).tr v2).tr w2, w3⟩
    rw [v1, w_in hl3 (by omega) h2 n sk d1 d2, w1, v4, hν, show i + (c.length + 1 + c'.length + 1) = i + c.length + 1 + c'.length + 1 by omega]
    rfl
  rw [e1]
  show match (if f (σ.2.1 15 0) = 0 then none else some (f' (σ.2.1 15 0)) : Option Int32) with
    | some v => _
    | none => _
  by_cases z : f (σ.2.1 15 0) = 0
  · rw [if_pos z, if_pos z]
    obtain ⟨φ, w1, w2, w3⟩ := fin 1
    rw [if_neg (show ¬ (1 : Int32) = 0 by decide)] at w1
    show ∃ τ, _ ∧ _ ∧ _
    rw [eL]
    exact ⟨φ, w1, w2, w3⟩
  · rw [if_neg z, if_neg z]
    obtain ⟨φ, w1, w2, w3⟩ := fin 0
    rw [if_pos (show (0 : Int32) = 0 from rfl)] at w1
    exact ⟨φ, w1, w2⟩
theorem lx_or {c c' : CD} {g g' : LN} (h : Lx c g) (h' : Lx c' g') : Lx (c ++ c') (lnOr g g') := fun n i p len σ hc hl h1 h2 hp hpi => by
  rw [List.length_append] at h1
  have q := h (n + c'.length) i p len σ hc.lf hl (by omega) h2 hp hpi
  unfold lnOr
  rw [List.length_append, show n + (c.length + c'.length) = n + c'.length + c.length by omega]
  cases e : g (σ.2.1 15 0) with
  | some v =>
    rw [e] at q
    exact q
  | none =>
    rw [e] at q
    obtain ⟨τ, t1, t2, t3⟩ := q
    have q' := h' n (i + c.length) p len τ (hc.rt.fr t2) (by rw [t2.1 7 0 4 (by omega)]; exact hl) (by omega) h2 t3 (by omega)
    rw [t2.2.1 15 (by decide)] at q'
    rw [t1]
    show match g' (σ.2.1 15 0) with
      | some v => _
      | none => _
    cases e' : g' (σ.2.1 15 0) with
    | some v =>
      rw [e'] at q'
      obtain ⟨υ, u1, u2⟩ := q'
      exact ⟨υ, u1, t2.tr u2⟩
    | none =>
      rw [e'] at q'
      obtain ⟨υ, u1, u2, u3⟩ := q'
      exact ⟨υ, by rw [u1, Nat.add_assoc], t2.tr u2, u3⟩
def LPx (x : QR) : Prop := match x with
  | .inl _ => True
  | .inr q => Lx q.2.1 q.2.2
theorem lp_line (a : Nat) : LPx (pLine bt a) := by
  unfold pLine
  have h := ep_E (bt := bt) a
  cases hx : pE bt a with
  | inl e => trivial
  | inr q =>
    rw [hx] at h
    show LPx (if _ then _ else _)
    by_cases c : bt q.1 = 63
    · rw [if_pos c]
      have h2 := ep_E (bt := bt) (q.1 + 1)
      cases hy : pE bt (q.1 + 1) with
      | inl e => trivial
      | inr r =>
        rw [hy] at h2
        exact lx_2 h h2
    · rw [if_neg c]
      exact lx_1 h
theorem lp_tx : ∀ (n a : Nat) (c : CD) (g : LN), Lx c g → LPx (pTx bt n a c g)
  | 0, a, c, g, h => h
  | n + 1, a, c, g, h => by
    unfold pTx
    by_cases e : bt a = 59
    · rw [if_pos e]
      have h2 := lp_line (bt := bt) (a + 1)
      cases hx : pLine bt (a + 1) with
      | inl e => trivial
      | inr q =>
        rw [hx] at h2
        exact lp_tx n q.1 _ _ (lx_or h h2)
    · rw [if_neg e]
      exact h
theorem worth_ok {N : Nat} {c : CD} {f : FN} (h : pText bt N = .inr (c, f)) (σ : SS) (hl : σ.1 7 0 4 = zI c.length) (h2 : c.length ≤ 128) (hc : cdAt c (σ.2.1 9 0) (σ.2.1 10 0)) : ∃ τ, m_X3_worth σ = some (f (σ.2.1 15 0), τ) ∧ FrX σ τ := by
  have key : ∀ g : LN, f = (fun ν => (g ν).getD 0) → Lx c g → ∃ τ, m_X3_worth σ = some (f (σ.2.1 15 0), τ) ∧ FrX σ τ := fun g hf hx => by
    have hfu : 200 < FU := by unfold FU; omega
    unfold m_X3_worth
    generalize FU = fu at hfu
    obtain ⟨fu, rfl⟩ : ∃ m, fu = m + 1 + c.length := ⟨fu - 1 - c.length, by omega⟩
    have f0 : FrX σ (sI σ 7 0 11 0) := ⟨fun t j k hk => if_neg (by omega), fun _ _ => rfl, rfl⟩
    have q := hx (fu + 1) 0 0 c.length (sI σ 7 0 11 0) (fun k hk => by rw [Nat.zero_add]; exact hc k hk) hl (by omega) h2 rfl (Nat.le_refl _)
    rw [hf]
    show ∃ τ, L_X3_worth_9 (fu + 1 + c.length) 0 0 (sI σ 7 0 11 0) = some ((g (σ.2.1 15 0)).getD 0, τ) ∧ _
    have q : match g (σ.2.1 15 0) with
      | some v => ∃ τ, L_X3_worth_9 (fu + 1 + c.length) 0 (zI 0) (sI σ 7 0 11 0) = some (v, τ) ∧ FrX (sI σ 7 0 11 0) τ
      | none => ∃ τ, L_X3_worth_9 (fu + 1 + c.length) 0 (zI 0) (sI σ 7 0 11 0) = L_X3_worth_9 (fu + 1) 0 (zI (0 + c.length)) τ ∧ FrX (sI σ 7 0 11 0) τ ∧ τ.1 7 0 11 = zI 0 := q
    cases e : g (σ.2.1 15 0) with
    | some v =>
      rw [e] at q
      obtain ⟨τ, t1, t2⟩ := q
      exact ⟨τ, t1, f0.tr t2⟩
    | none =>
      rw [e] at q
      obtain ⟨τ, t1, t2, t3⟩ := q
      have hl' : τ.1 7 0 4 = zI c.length := by rw [t2.1 7 0 4 (by omega)]; exact hl
      refine ⟨τ, ?_, f0.tr t2⟩
      refine Eq.trans t1 ?_
      rw [L_X3_worth_9, hl', Nat.zero_add, if_pos (Int32.le_refl _)]
      rfl
  unfold pText at h
  have hL := lp_line (bt := bt) 0
  cases hx : pLine bt 0 with
  | inl e =>
    rw [hx] at h
    cases h
  | inr q =>
    rw [hx] at h hL
    have hT := lp_tx (bt := bt) 120 q.1 q.2.1 q.2.2 hL
    have h : qBd (pTx bt 120 q.1 q.2.1 q.2.2) (fun a' c' g' => if a' < N then .inl a' else .inr (c', fun ν => (g' ν).getD 0)) = .inr (c, f) := h
    cases hy : pTx bt 120 q.1 q.2.1 q.2.2 with
    | inl e =>
      rw [hy] at h
      cases h
    | inr p =>
      rw [hy] at h hT
      have h : (if p.1 < N then .inl p.1 else .inr (p.2.1, fun ν => (p.2.2 ν).getD 0) : Nat ⊕ (CD × FN)) = .inr (c, f) := h
      by_cases k : p.1 < N
      · rw [if_pos k] at h
        cases h
      · rw [if_neg k] at h
        cases h
        exact key p.2.2 rfl hT
end EXP
