/-! System.arraycopy; java.util.Arrays.fill -/
theorem GW_cp : Cond.native arraycopyName ∈ GW ∧ Cond.static arraycopyName ∈ GW ∧ Cond.initialized "java/lang/System" ∈ GW := ⟨GW_2 179 rfl rfl, GW_2 178 rfl rfl, GW_1 13 rfl rfl⟩
theorem cp_room : nativeFrameWords "java/lang/System" "arraycopy" 5 + 11 ≤ 30 := by decide +kernel
section XCP
variable {Γ : XC} {cc : ByteArray} {own : String} {d N : Nat} {K : aKt} {Λ : aLy} {pc : Nat} {ls : List (Option AV)} {st : List AV} {σ : SS}
theorem XW.copyi (B : XB Γ cc own d K Λ N) {x t1 j1 n1 c1 t2 j2 n2 c2 : Nat} {sp dp n : Int32} (hlk : Cond.methodLink own x arraycopyName ∈ GW) (hl1 : Λ[t1]? = some (c1, .inr (0, n1))) (hj1 : j1 < c1) (hl2 : Λ[t2]? = some (c2, .inr (0, n2))) (hj2 : j2 < c2) (h1 : ¬ sp < 0) (h2 : ¬ dp < 0) (h3 : ¬ n < 0) (h4 : sp.toNatClampNeg + n.toNatClampNeg ≤ n1) (h5 : dp.toNatClampNeg + n.toNatClampNeg ≤ n2) (hst : (st.map (fun v => (rv (fun _ _ => 0) v).category)).sum ≤ 8) (hd : decode cc pc = .ok (.invokestatic x, 3))
    (kk : XW Γ (pc + 3) ls st (sAf σ t2 j2 (va_cpy (σ.2.1 t1 j1) (σ.2.1 t2 j2) sp.toNatClampNeg dp.toNatClampNeg n.toNatClampNeg))) : XW Γ pc ls (aI n :: aI dp :: aR t2 j2 :: aI sp :: aR t1 j1 :: st) σ := by
  obtain ⟨⟨p, l, e, R⟩, ⟨s, m, args, below, meth, c⟩, ⟨Q, cells, slots, nL⟩, ⟨D, cs, ad, A, Λ'⟩⟩ := Γ
  obtain ⟨⟨hx, hcb, hml, hown, hts, hKK, hstt, g1, g2, g3, g4, g5⟩, -, hΛ, -⟩ := B
  have hΛ : Λ' = Λ := hΛ
  subst hΛ
  intro H locs L hP hD hS hL
  rw [← aCat_eq ad] at hst
  obtain ⟨q1, -, hq1⟩ := aWl_at (cs := cs) (ad := ad) (σ := σ) hl1 hj1
  obtain ⟨q2, hi2, hq2⟩ := aWl_at (cs := cs) (ad := ad) (σ := σ) hl2 hj2
  have hrm := cp_room
  refine va_copyi (D := D) (f := σ.2.1 t1 j1) (g := σ.2.1 t2 j2) (ty := .int) hx hcb (hml.trans hL.1.symm) hown (hts _ hlk) (hts _ GW_cp.1) (hts _ GW_cp.2.1) (hts _ GW_cp.2.2) hKK hP hD hS q1 q2 0 0 hq1 hq2 rfl rfl rfl h1 h2 h3 h4 h5 (fun i _ => rfl) (by omega) (by omega) hd (fun H1 locs1 hP1 hD1 hS1 => ?_)
  generalize hf : va_cpy (σ.2.1 t1 j1) (σ.2.1 t2 j2) sp.toNatClampNeg dp.toNatClampNeg n.toNatClampNeg = f at hP1 hD1 kk
  have e : (aWl Λ' cs ad σ).set q2 (ad t2 j2, .inl (cs.1, n2, .inl f)) = aWl Λ' cs ad (sAf σ t2 j2 f) := by
    rw [← aWl_set (σ := σ) (σ' := sAf σ t2 j2 f) hi2 (fun q hq => aWc_A (σ := σ) (σ' := sAf σ t2 j2 f) rfl rfl (fun a b hab => sAf_ne hab) q hq)]
    simp [aWc, aSpOf, hl2, aCell, sAf]
  rw [e] at hP1 hD1
  exact kk H1 locs1 L hP1 hD1 hS1 hL
theorem XW.copyl (B : XB Γ cc own d K Λ N) {x t1 j1 n1 c1 t2 j2 n2 c2 : Nat} {sp dp n : Int32} (hlk : Cond.methodLink own x arraycopyName ∈ GW) (hl1 : Λ[t1]? = some (c1, .inr (1, n1))) (hj1 : j1 < c1) (hl2 : Λ[t2]? = some (c2, .inr (1, n2))) (hj2 : j2 < c2) (h1 : ¬ sp < 0) (h2 : ¬ dp < 0) (h3 : ¬ n < 0) (h4 : sp.toNatClampNeg + n.toNatClampNeg ≤ n1) (h5 : dp.toNatClampNeg + n.toNatClampNeg ≤ n2) (hst : (st.map (fun v => (rv (fun _ _ => 0) v).category)).sum ≤ 8) (hd : decode cc pc = .ok (.invokestatic x, 3))
    (kk : XW Γ (pc + 3) ls st (sLf σ t2 j2 (va_cpy (σ.2.2 t1 j1) (σ.2.2 t2 j2) sp.toNatClampNeg dp.toNatClampNeg n.toNatClampNeg))) : XW Γ pc ls (aI n :: aI dp :: aR t2 j2 :: aI sp :: aR t1 j1 :: st) σ := by
  obtain ⟨⟨p, l, e, R⟩, ⟨s, m, args, below, meth, c⟩, ⟨Q, cells, slots, nL⟩, ⟨D, cs, ad, A, Λ'⟩⟩ := Γ
  obtain ⟨⟨hx, hcb, hml, hown, hts, hKK, hstt, g1, g2, g3, g4, g5⟩, -, hΛ, -⟩ := B
  have hΛ : Λ' = Λ := hΛ
  subst hΛ
  intro H locs L hP hD hS hL
  rw [← aCat_eq ad] at hst
  obtain ⟨q1, -, hq1⟩ := aWl_at (cs := cs) (ad := ad) (σ := σ) hl1 hj1
  obtain ⟨q2, hi2, hq2⟩ := aWl_at (cs := cs) (ad := ad) (σ := σ) hl2 hj2
  have hrm := cp_room
  refine va_copyl (D := D) (f := σ.2.2 t1 j1) (g := σ.2.2 t2 j2) (ty := .long) hx hcb (hml.trans hL.1.symm) hown (hts _ hlk) (hts _ GW_cp.1) (hts _ GW_cp.2.1) (hts _ GW_cp.2.2) hKK hP hD hS q1 q2 1 1 hq1 hq2 rfl rfl rfl h1 h2 h3 h4 h5 (fun i _ => rfl) (by omega) (by omega) hd (fun H1 locs1 hP1 hD1 hS1 => ?_)
  generalize hf : va_cpy (σ.2.2 t1 j1) (σ.2.2 t2 j2) sp.toNatClampNeg dp.toNatClampNeg n.toNatClampNeg = f at hP1 hD1 kk
  have e : (aWl Λ' cs ad σ).set q2 (ad t2 j2, .inl (cs.2.1, n2, .inr (.inl f))) = aWl Λ' cs ad (sLf σ t2 j2 f) := by
    rw [← aWl_set (σ := σ) (σ' := sLf σ t2 j2 f) hi2 (fun q hq => aWc_L (σ := σ) (σ' := sLf σ t2 j2 f) rfl rfl (fun a b hab => sLf_ne hab) q hq)]
    simp [aWc, aSpOf, hl2, aCell, sLf]
  rw [e] at hP1 hD1
  exact kk H1 locs1 L hP1 hD1 hS1 hL
end XCP
abbrev M_fillI : MR := (yJ7_fill_53178, cJ7_fill_53178, 4, none)
abbrev M_fillL : MR := (yJ7_fill_d0a16, cJ7_fill_d0a16, 5, none)
theorem wS_fillI : calS M_fillI := ⟨GW_3 29 rfl rfl, GW_1 14 rfl rfl, GW_3 30 rfl rfl⟩
theorem wS_fillL : calS M_fillL := ⟨GW_4 183 rfl rfl, GW_1 14 rfl rfl, GW_4 184 rfl rfl⟩
theorem wN_fillI : calN M_fillI 2 := ⟨by decide, by decide, by decide +kernel, by decide⟩
theorem wN_fillL : calN M_fillL 2 := ⟨by decide, by decide, by decide +kernel, by decide⟩
def Kno : aKt := ([], [], [], [], [])
theorem KOK_no (own : String) : KOK own Kno := ⟨fun _ h => absurd h List.not_mem_nil, fun _ h => absurd h List.not_mem_nil, fun _ h => absurd h List.not_mem_nil, fun _ h => absurd h List.not_mem_nil, fun _ h => absurd h List.not_mem_nil⟩
def fillF {α : Type} (f : Nat → α) (v : α) (n : Nat) : Nat → α := fun k => if k < n then v else f k
theorem sAf_id (σ : SS) (t j : Nat) : sAf σ t j (σ.2.1 t j) = σ := by
  obtain ⟨a, b, c⟩ := σ
  simp only [sAf, Prod.mk.injEq, true_and, and_true]
  funext x y z
  by_cases h : x = t ∧ y = j
  · rw [if_pos h, h.1, h.2]
  · rw [if_neg h]
theorem sLf_id (σ : SS) (t j : Nat) : sLf σ t j (σ.2.2 t j) = σ := by
  obtain ⟨a, b, c⟩ := σ
  simp only [sLf, Prod.mk.injEq, true_and]
  funext x y z
  by_cases h : x = t ∧ y = j
  · rw [if_pos h, h.1, h.2]
  · rw [if_neg h]
theorem sAf_sA (σ : SS) (t j i : Nat) (v : Int32) (f : Nat → Int32) : sA (sAf σ t j f) t j i v = sAf σ t j (upd f i v) := by
  obtain ⟨a, b, c⟩ := σ
  simp only [sAf, sA, Prod.mk.injEq, true_and, and_true]
  funext x y z
  by_cases h : x = t ∧ y = j
  · by_cases h2 : z = i <;> simp [h, h2, upd]
  · have h3 : ¬ (x = t ∧ y = j ∧ z = i) := fun q => h ⟨q.1, q.2.1⟩
    simp [h, h3]
theorem sLf_sL (σ : SS) (t j i : Nat) (v : Int64) (f : Nat → Int64) : sL (sLf σ t j f) t j i v = sLf σ t j (vp_updL f i v) := by
  obtain ⟨a, b, c⟩ := σ
  simp only [sLf, sL, Prod.mk.injEq, true_and]
  funext x y z
  by_cases h : x = t ∧ y = j
  · by_cases h2 : z = i <;> simp [h, h2, vp_updL]
  · have h3 : ¬ (x = t ∧ y = j ∧ z = i) := fun q => h ⟨q.1, q.2.1⟩
    simp [h, h3]
theorem fillF_0 {α : Type} (f : Nat → α) (v : α) : fillF f v 0 = f := by
  funext k
  simp [fillF]
theorem fillF_s (f : Nat → Int32) (v : Int32) (n : Nat) : upd (fillF f v n) n v = fillF f v (n + 1) := by
  funext k
  simp only [upd, fillF]
  by_cases h : k = n
  · simp [h]
  · by_cases h2 : k < n
    · simp [h, h2, Nat.lt_succ_of_lt h2]
    · simp [h, h2, show ¬ k < n + 1 by omega]
theorem fillF_sL (f : Nat → Int64) (v : Int64) (n : Nat) : vp_updL (fillF f v n) n v = fillF f v (n + 1) := by
  funext k
  simp only [vp_updL, fillF]
  by_cases h : k = n
  · simp [h]
  · by_cases h2 : k < n
    · simp [h, h2, Nat.lt_succ_of_lt h2]
    · simp [h, h2, show ¬ k < n + 1 by omega]
theorem c_fillI {Λ : aLy} {t j cn n : Nat} (hl : Λ[t]? = some (cn, .inr (0, n))) (hj : j < cn) (hn : n < 2 ^ 31) (v : Int32) (σ : SS) : XM Λ 1 M_fillI [aR t j, aI v] σ none (sAf σ t j (fillF (σ.2.1 t j) v n)) := by
  refine XM.of (K := Kno) (Nat.le_refl 1) (by decide) (KOK_no _) (Nat.le_of_ble_eq_true rfl) (fun Γ B q => ?_)
  have hl2 : (xL Γ)[t]? = some (cn, .inr (0, n)) := by rw [B.2.2.1]; exact hl
  have key : ∀ (z i : Nat), i + z = n → XW Γ 5 [some (aR t j), some (aI v), some (aI (nI i)), some (aI (nI n))] [] (sAf σ t j (fillF (σ.2.1 t j) v i)) := by
    intro z
    induction z with
    | zero =>
      intro i hi
      have hi : i = n := by omega
      subst hi
      refine XW.bb B [(5, .iload_n 2), (6, .iload_n 3)] (by decide +kernel) (P := []) (i := .if_icmp .ge 13) (tgt := 20) rfl trivial (by decide +kernel) rfl (by decide) (fun _ => ?_) (fun h => absurd (Int32.le_refl _) h)
      exact XW.vret B q (by decide +kernel)
    | succ z ih =>
      intro i hi
      have hlt : i < n := by omega
      refine XW.bb B [(5, .iload_n 2), (6, .iload_n 3)] (by decide +kernel) (P := []) (i := .if_icmp .ge 13) (tgt := 20) rfl trivial (by decide +kernel) rfl (by decide) (fun h => absurd h (nI_ge hlt hn)) (fun _ => ?_)
      have e := ih (i + 1) (by omega)
      rw [← fillF_s, ← sAf_sA] at e
      refine XW.bk B [(10, .aload_n 0), (11, .iload_n 2), (12, .iload_n 1)] (P := []) (pc1 := 13) (by decide +kernel) rfl trivial ?_
      refine XW.iast B.1 hl2 hj (vp_in_nI hlt hn) (by decide +kernel) ?_
      rw [nI_clamp (by omega)]
      refine XW.bk B [(14, .iinc 2 1), (17, .goto (-12))] (P := []) (pc1 := 5) (ls1 := [some (aR t j), some (aI v), some (aI (nI (i + 1))), some (aI (nI n))]) (st1 := []) (σ1 := sA (sAf σ t j (fillF (σ.2.1 t j) v i)) t j i v) (by decide +kernel) ?_ trivial e
      rw [← nI_1]
      rfl
  have e0 := key n 0 (by omega)
  rw [fillF_0, sAf_id, nI_0] at e0
  refine XW.bk B [(0, .iconst 0), (1, .istore_n 2), (2, .aload_n 0)] (P := []) (pc1 := 3) (ls1 := [some (aR t j), some (aI v), some (aI 0), none]) (st1 := [aR t j]) (σ1 := σ) (by decide +kernel) rfl trivial ?_
  refine XW.alen B.1 hl2 hj (by decide +kernel) ?_
  exact XW.bk B [(4, .istore_n 3)] (P := []) (pc1 := 5) (ls1 := [some (aR t j), some (aI v), some (aI 0), some (aI (nI n))]) (st1 := []) (σ1 := σ) (by decide +kernel) rfl trivial e0
theorem c_fillL {Λ : aLy} {t j cn n : Nat} (hl : Λ[t]? = some (cn, .inr (1, n))) (hj : j < cn) (hn : n < 2 ^ 31) (v : Int64) (σ : SS) : XM Λ 1 M_fillL [aR t j, aJ v] σ none (sLf σ t j (fillF (σ.2.2 t j) v n)) := by
  refine XM.of (K := Kno) (Nat.le_refl 1) (by decide) (KOK_no _) (Nat.le_of_ble_eq_true rfl) (fun Γ B q => ?_)
  have hl2 : (xL Γ)[t]? = some (cn, .inr (1, n)) := by rw [B.2.2.1]; exact hl
  have key : ∀ (z i : Nat), i + z = n → XW Γ 6 [some (aR t j), some (aJ v), none, some (aI (nI i)), some (aI (nI n))] [] (sLf σ t j (fillF (σ.2.2 t j) v i)) := by
    intro z
    induction z with
    | zero =>
      intro i hi
      have hi : i = n := by omega
      subst hi
      refine XW.bb B [(6, .iload_n 3), (7, .iload 4)] (by decide +kernel) (P := []) (i := .if_icmp .ge 13) (tgt := 22) rfl trivial (by decide +kernel) rfl (by decide) (fun _ => ?_) (fun h => absurd (Int32.le_refl _) h)
      exact XW.vret B q (by decide +kernel)
    | succ z ih =>
      intro i hi
      have hlt : i < n := by omega
      refine XW.bb B [(6, .iload_n 3), (7, .iload 4)] (by decide +kernel) (P := []) (i := .if_icmp .ge 13) (tgt := 22) rfl trivial (by decide +kernel) rfl (by decide) (fun h => absurd h (nI_ge hlt hn)) (fun _ => ?_)
      have e := ih (i + 1) (by omega)
      rw [← fillF_sL, ← sLf_sL] at e
      refine XW.bk B [(12, .aload_n 0), (13, .iload_n 3), (14, .lload_n 1)] (P := []) (pc1 := 15) (by decide +kernel) rfl trivial ?_
      refine XW.last B.1 hl2 hj (vp_in_nI hlt hn) (by decide +kernel) ?_
      rw [nI_clamp (by omega)]
      refine XW.bk B [(16, .iinc 3 1), (19, .goto (-13))] (P := []) (pc1 := 6) (ls1 := [some (aR t j), some (aJ v), none, some (aI (nI (i + 1))), some (aI (nI n))]) (st1 := []) (σ1 := sL (sLf σ t j (fillF (σ.2.2 t j) v i)) t j i v) (by decide +kernel) ?_ trivial e
      rw [← nI_1]
      rfl
  have e0 := key n 0 (by omega)
  rw [fillF_0, sLf_id, nI_0] at e0
  refine XW.bk B [(0, .iconst 0), (1, .istore_n 3), (2, .aload_n 0)] (P := []) (pc1 := 3) (ls1 := [some (aR t j), some (aJ v), none, some (aI 0), none]) (st1 := [aR t j]) (σ1 := σ) (by decide +kernel) rfl trivial ?_
  refine XW.alen B.1 hl2 hj (by decide +kernel) ?_
  exact XW.bk B [(4, .istore 4)] (P := []) (pc1 := 6) (ls1 := [some (aR t j), some (aJ v), none, some (aI 0), some (aI (nI n))]) (st1 := []) (σ1 := σ) (by decide +kernel) rfl trivial e0
