/-! THE START: lists of cells, static arrays, what the two constructors leave -/
section LISTS
variable {D : va_G} {cl : List vw_C} {A : Nat → Prop} {w1 w2 ws : va_W} {H : Heap}
theorem vaP_l (h : va_P D cl (w1 ++ w2) H) : va_P D cl w1 H := fun k q hq => h k q (by rw [List.getElem?_append_left (List.getElem?_eq_some_iff.mp hq).1]; exact hq)
theorem vaP_r (h : va_P D cl (w1 ++ w2) H) : va_P D cl w2 H := fun k q hq => h (w1.length + k) q (by rw [List.getElem?_append_right (by omega), Nat.add_sub_cancel_left]; exact hq)
theorem vaD_l (h : va_D A (w1 ++ w2)) : va_D A w1 := ⟨fun i j p q hp hq => h.1 i j p q (by rw [List.getElem?_append_left (List.getElem?_eq_some_iff.mp hp).1]; exact hp) (by rw [List.getElem?_append_left (List.getElem?_eq_some_iff.mp hq).1]; exact hq), fun k q hq => h.2 k q (by rw [List.getElem?_append_left (List.getElem?_eq_some_iff.mp hq).1]; exact hq)⟩
theorem vaD_r (h : va_D A (w1 ++ w2)) : va_D A w2 := ⟨fun i j p q hp hq e => by
  have := h.1 (w1.length + i) (w1.length + j) p q (by rw [List.getElem?_append_right (by omega), Nat.add_sub_cancel_left]; exact hp) (by rw [List.getElem?_append_right (by omega), Nat.add_sub_cancel_left]; exact hq) e
  omega, fun k q hq => h.2 (w1.length + k) q (by rw [List.getElem?_append_right (by omega), Nat.add_sub_cancel_left]; exact hq)⟩
theorem vaD_x (h : va_D A (w1 ++ w2)) {i j : Nat} {p q : Nat × va_E} (hp : w1[i]? = some p) (hq : w2[j]? = some q) : p.1 ≠ q.1 := fun e => by
  have hi := (List.getElem?_eq_some_iff.mp hp).1
  have := h.1 i (w1.length + j) p q (by rw [List.getElem?_append_left hi]; exact hp) (by rw [List.getElem?_append_right (by omega), Nat.add_sub_cancel_left]; exact hq) e
  omega
theorem refs_eq {c : ClassId} {n : Nat} {f g : Nat → Option Nat} (h : ∀ i, i < n → f i = g i) : vp_cell c (n, .inr (.inr (.inr (.inr f)))) = vp_cell c (n, .inr (.inr (.inr (.inr g)))) := by
  show ({ cls := c, slots := Array.ofFn (n := n) (fun j => va_rf (f j.val)), vm := .none } : Cell) = { cls := c, slots := Array.ofFn (n := n) (fun j => va_rf (g j.val)), vm := .none }
  rw [show (fun j : Fin n => va_rf (f j.val)) = (fun j : Fin n => va_rf (g j.val)) from funext fun j => by rw [h _ j.isLt]]
theorem vaP_rep (h : va_P D cl ws H) {k a n : Nat} {c : ClassId} {f g : Nat → Option Nat} (he : ws[k]? = some (a, .inl (c, n, .inr (.inr (.inr (.inr f)))))) (hfg : ∀ i, i < n → f i = g i) : va_P D cl (ws.set k (a, .inl (c, n, .inr (.inr (.inr (.inr g)))))) H := by
  intro j q hq
  by_cases e : j = k
  · subst e
    rw [List.getElem?_set_self (List.getElem?_eq_some_iff.mp he).1] at hq
    obtain rfl := Option.some.inj hq
    have := h j _ he
    show H[a]? = some (vp_cell c (n, .inr (.inr (.inr (.inr g)))))
    rw [← refs_eq hfg]
    exact this
  · rw [List.getElem?_set_ne (fun z => e z.symm)] at hq
    exact h j q hq
theorem vaD_rep (h : va_D A ws) {k a : Nat} {x y : va_E} (he : ws[k]? = some (a, x)) : va_D A (ws.set k (a, y)) := by
  have key : ∀ (j : Nat) (q : Nat × va_E), (ws.set k (a, y))[j]? = some q → ∃ q', ws[j]? = some q' ∧ q'.1 = q.1 := fun j q hq => by
    by_cases e : j = k
    · subst e
      rw [List.getElem?_set_self (List.getElem?_eq_some_iff.mp he).1] at hq
      obtain rfl := Option.some.inj hq
      exact ⟨_, he, rfl⟩
    · rw [List.getElem?_set_ne (fun z => e z.symm)] at hq
      exact ⟨q, hq, rfl⟩
  refine ⟨fun i j p q hp hq e => ?_, fun j q hq => ?_⟩
  · obtain ⟨p', h1, h2⟩ := key i p hp
    obtain ⟨q', h3, h4⟩ := key j q hq
    exact h.1 i j p' q' h1 h3 (by rw [h2, h4]; exact e)
  · obtain ⟨q', h3, h4⟩ := key j q hq
    rw [← h4]
    exact h.2 j q' h3
theorem dom_at {Λ : aLy} {cs : aCs} {ad : aMp} {σ : SS} {z : Nat} (h : aDom Λ ad z) : ∃ (i : Nat) (q : Nat × va_E), (aWl Λ cs ad σ)[i]? = some q ∧ q.1 = z := by
  obtain ⟨t, j, h1, rfl⟩ := h
  obtain ⟨p, hp⟩ := List.getElem?_of_mem h1
  refine ⟨p, (ad t j, aWc Λ cs ad σ (t, j)), ?_, rfl⟩
  unfold aWl
  rw [List.getElem?_map, hp]
  rfl
end LISTS
theorem st_arr0 {b : Nat} {s : State} (hgv : (Jvm.Cond.and given_1 narrow_1).before #[Value.ref b] s = true) (hts : ∀ w ∈ lw_tbl, w.before #[Value.ref b] s = true) : ∃ t, va_Z (aStC 0) (aStN 0) "[I" (.ref t) (fun q => s.heap.size ≤ q) s s.heap ∧ va_T .int t (aStL 0) (fun i => .int (aStF 0 i)) (fun q => s.heap.size ≤ q) s s.heap := by
  have hs := flat_of_before _ hgv
  have he : ∀ j, j < 11 → Cond.eq (.elem (.static "PaneAcross" "LOWEST" "[I") (.int (Int32.ofNat j))) (.int (aStF 0 j)) ∈ flatC (Jvm.Cond.and given_1 narrow_1) := by decide +kernel
  obtain ⟨t, ht, hT⟩ := va_Tof (tm := .static "PaneAcross" "LOWEST" "[I") (ty := .int) (N := 11) (f := fun i => .int (aStF 0 i)) (A := fun q => s.heap.size ≤ q) (by decide) (hs _ (by decide +kernel)) (va_eqt (hs _ (by decide +kernel))) (fun j hj => va_eqt (hs _ (he j hj))) (fun a ha z => absurd ha (Nat.not_lt.mpr z))
  exact ⟨t, va_Zref (hts _ (List.mem_append_right _ (List.mem_append_right _ (List.mem_append_left _ (List.mem_of_getElem? (l := tables_1_2) (i := 110) rfl))))) (hts _ (List.mem_append_right _ (List.mem_append_left _ (List.mem_of_getElem? (l := tables_1_1) (i := 1) rfl)))) ht (fun a ha z => absurd ha (Nat.not_lt.mpr z)), hT⟩
theorem st_arr1 {b : Nat} {s : State} (hgv : (Jvm.Cond.and given_1 narrow_1).before #[Value.ref b] s = true) (hts : ∀ w ∈ lw_tbl, w.before #[Value.ref b] s = true) : ∃ t, va_Z (aStC 1) (aStN 1) "[I" (.ref t) (fun q => s.heap.size ≤ q) s s.heap ∧ va_T .int t (aStL 1) (fun i => .int (aStF 1 i)) (fun q => s.heap.size ≤ q) s s.heap := by
  have hs := flat_of_before _ hgv
  have he : ∀ j, j < 11 → Cond.eq (.elem (.static "PaneAcross" "HIGHEST" "[I") (.int (Int32.ofNat j))) (.int (aStF 1 j)) ∈ flatC (Jvm.Cond.and given_1 narrow_1) := by decide +kernel
  obtain ⟨t, ht, hT⟩ := va_Tof (tm := .static "PaneAcross" "HIGHEST" "[I") (ty := .int) (N := 11) (f := fun i => .int (aStF 1 i)) (A := fun q => s.heap.size ≤ q) (by decide) (hs _ (by decide +kernel)) (va_eqt (hs _ (by decide +kernel))) (fun j hj => va_eqt (hs _ (he j hj))) (fun a ha z => absurd ha (Nat.not_lt.mpr z))
  exact ⟨t, va_Zref (hts _ (List.mem_append_right _ (List.mem_append_right _ (List.mem_append_left _ (List.mem_of_getElem? (l := tables_1_2) (i := 112) rfl))))) (hts _ (List.mem_append_right _ (List.mem_append_left _ (List.mem_of_getElem? (l := tables_1_1) (i := 1) rfl)))) ht (fun a ha z => absurd ha (Nat.not_lt.mpr z)), hT⟩
theorem st_arr2 {b : Nat} {s : State} (hgv : (Jvm.Cond.and given_1 narrow_1).before #[Value.ref b] s = true) (hts : ∀ w ∈ lw_tbl, w.before #[Value.ref b] s = true) : ∃ t, va_Z (aStC 2) (aStN 2) "[I" (.ref t) (fun q => s.heap.size ≤ q) s s.heap ∧ va_T .int t (aStL 2) (fun i => .int (aStF 2 i)) (fun q => s.heap.size ≤ q) s s.heap := by
  have hs := flat_of_before _ hgv
  have he : ∀ j, j < 8 → Cond.eq (.elem (.static "PaneAcross$Paces" "ABOVE" "[I") (.int (Int32.ofNat j))) (.int (aStF 2 j)) ∈ flatC (Jvm.Cond.and given_1 narrow_1) := by decide +kernel
  obtain ⟨t, ht, hT⟩ := va_Tof (tm := .static "PaneAcross$Paces" "ABOVE" "[I") (ty := .int) (N := 8) (f := fun i => .int (aStF 2 i)) (A := fun q => s.heap.size ≤ q) (by decide) (hs _ (by decide +kernel)) (va_eqt (hs _ (by decide +kernel))) (fun j hj => va_eqt (hs _ (he j hj))) (fun a ha z => absurd ha (Nat.not_lt.mpr z))
  exact ⟨t, va_Zref (hts _ (List.mem_append_right _ (List.mem_append_right _ (List.mem_append_right _ (List.mem_append_right _ (List.mem_append_left _ (List.mem_of_getElem? (l := tables_1_4) (i := 152) rfl))))))) (hts _ (List.mem_append_right _ (List.mem_append_left _ (List.mem_of_getElem? (l := tables_1_1) (i := 11) rfl)))) ht (fun a ha z => absurd ha (Nat.not_lt.mpr z)), hT⟩
theorem st_arr3 {b : Nat} {s : State} (hgv : (Jvm.Cond.and given_1 narrow_1).before #[Value.ref b] s = true) (hts : ∀ w ∈ lw_tbl, w.before #[Value.ref b] s = true) : ∃ t, va_Z (aStC 3) (aStN 3) "[I" (.ref t) (fun q => s.heap.size ≤ q) s s.heap ∧ va_T .int t (aStL 3) (fun i => .int (aStF 3 i)) (fun q => s.heap.size ≤ q) s s.heap := by
  have hs := flat_of_before _ hgv
  have he : ∀ j, j < 32 → Cond.eq (.elem (.static "PaneAcross$Paces" "OWN" "[I") (.int (Int32.ofNat j))) (.int (aStF 3 j)) ∈ flatC (Jvm.Cond.and given_1 narrow_1) := by decide +kernel
  obtain ⟨t, ht, hT⟩ := va_Tof (tm := .static "PaneAcross$Paces" "OWN" "[I") (ty := .int) (N := 32) (f := fun i => .int (aStF 3 i)) (A := fun q => s.heap.size ≤ q) (by decide) (hs _ (by decide +kernel)) (va_eqt (hs _ (by decide +kernel))) (fun j hj => va_eqt (hs _ (he j hj))) (fun a ha z => absurd ha (Nat.not_lt.mpr z))
  exact ⟨t, va_Zref (hts _ (List.mem_append_right _ (List.mem_append_right _ (List.mem_append_right _ (List.mem_append_right _ (List.mem_append_left _ (List.mem_of_getElem? (l := tables_1_4) (i := 147) rfl))))))) (hts _ (List.mem_append_right _ (List.mem_append_left _ (List.mem_of_getElem? (l := tables_1_1) (i := 11) rfl)))) ht (fun a ha z => absurd ha (Nat.not_lt.mpr z)), hT⟩
theorem st_cls {args : Array Value} {s : State} (hts : ∀ w ∈ lw_tbl, w.before args s = true) : ∃ D : va_G, ∀ (k : Nat) (q : vw_C), vwCl[k]? = some q → u_Kn s q.1 q.2.1 q.2.2 (D.1 k) (D.2 k) := by
  have htg : ∀ w ∈ GW, w.before args s = true := fun w hw => hts w (List.mem_filter.mp hw).1
  obtain ⟨c0, i0, h0⟩ := u_known (C := RX0) (T := TX0) (N := 1) (n := 1) htg cl_ws0 (hts _ (List.mem_append_right _ (List.mem_append_left _ (List.mem_of_getElem? (l := tables_1_1) (i := 205) rfl))))
  obtain ⟨c1, i1, h1⟩ := u_known (C := RX1) (T := TX1) (N := 5) (n := 5) htg cl_ws1 (hts _ (List.mem_append_right _ (List.mem_append_left _ (List.mem_of_getElem? (l := tables_1_1) (i := 143) rfl))))
  obtain ⟨c2, i2, h2⟩ := u_known (C := RX2) (T := TX2) (N := 5) (n := 5) htg cl_ws2 (hts _ (List.mem_append_right _ (List.mem_append_left _ (List.mem_of_getElem? (l := tables_1_1) (i := 215) rfl))))
  obtain ⟨c3, i3, h3⟩ := u_known (C := RX3) (T := TX3) (N := 12) (n := 12) htg cl_ws3 (hts _ (List.mem_append_right _ (List.mem_append_left _ (List.mem_of_getElem? (l := tables_1_1) (i := 43) rfl))))
  obtain ⟨c4, i4, h4⟩ := u_known (C := RX4) (T := TX4) (N := 10) (n := 10) htg cl_ws4 (hts _ (List.mem_append_right _ (List.mem_append_left _ (List.mem_of_getElem? (l := tables_1_1) (i := 221) rfl))))
  obtain ⟨c5, i5, h5⟩ := u_known (C := RX5) (T := TX5) (N := 6) (n := 6) htg cl_ws5 (hts _ (List.mem_append_right _ (List.mem_append_right _ (List.mem_append_left _ (List.mem_of_getElem? (l := tables_1_2) (i := 48) rfl)))))
  obtain ⟨c6, i6, h6⟩ := u_known (C := RX6) (T := TX6) (N := 4) (n := 4) htg cl_ws6 (hts _ (List.mem_append_right _ (List.mem_append_left _ (List.mem_of_getElem? (l := tables_1_1) (i := 119) rfl))))
  obtain ⟨c7, i7, h7⟩ := u_known (C := RX7) (T := TX7) (N := 8) (n := 8) htg cl_ws7 (hts _ (List.mem_append_right _ (List.mem_append_left _ (List.mem_of_getElem? (l := tables_1_1) (i := 87) rfl))))
  obtain ⟨c8, i8, h8⟩ := u_known (C := RX8) (T := TX8) (N := 2) (n := 2) htg cl_ws8 (hts _ (List.mem_append_right _ (List.mem_append_left _ (List.mem_of_getElem? (l := tables_1_1) (i := 25) rfl))))
  obtain ⟨c9, i9, h9⟩ := u_known (C := RX9) (T := TX9) (N := 9) (n := 9) htg cl_ws9 (hts _ (List.mem_append_right _ (List.mem_append_left _ (List.mem_of_getElem? (l := tables_1_1) (i := 167) rfl))))
  obtain ⟨c10, i10, h10⟩ := u_known (C := RX10) (T := TX10) (N := 9) (n := 9) htg cl_ws10 (hts _ (List.mem_append_right _ (List.mem_append_left _ (List.mem_of_getElem? (l := tables_1_1) (i := 17) rfl))))
  obtain ⟨c11, i11, h11⟩ := u_known (C := RX11) (T := TX11) (N := 44) (n := 44) htg cl_ws11 (hts _ (List.mem_append_right _ (List.mem_append_right _ (List.mem_append_right _ (List.mem_append_right _ (List.mem_append_left _ (List.mem_of_getElem? (l := tables_1_4) (i := 226) rfl)))))))
  refine ⟨(fun k => [c0, c1, c2, c3, c4, c5, c6, c7, c8, c9, c10, c11].getD k c0, fun k => [i0, i1, i2, i3, i4, i5, i6, i7, i8, i9, i10, i11].getD k i0), fun k q hq => ?_⟩
  match k, hq with
  | 0, hq => cases hq; exact h0
  | 1, hq => cases hq; exact h1
  | 2, hq => cases hq; exact h2
  | 3, hq => cases hq; exact h3
  | 4, hq => cases hq; exact h4
  | 5, hq => cases hq; exact h5
  | 6, hq => cases hq; exact h6
  | 7, hq => cases hq; exact h7
  | 8, hq => cases hq; exact h8
  | 9, hq => cases hq; exact h9
  | 10, hq => cases hq; exact h10
  | 11, hq => cases hq; exact h11
  | k + 12, hq => simp [vwCl] at hq
theorem st_tys {args : Array Value} {s : State} (hts : ∀ w ∈ lw_tbl, w.before args s = true) : ∃ cI cJ : ClassId, ∀ (k : Nat) (q : ClassId × FieldType), ([(cI, .int), (cJ, .long)] : List (ClassId × FieldType))[k]? = some q → ArrOfT s q.1 q.2 ∧ va_RA s q.1 q.2 := by
  obtain ⟨cI, kI, mI, a1, a2, a3⟩ := Cond.arrayClass_spec (hts (.arrayClass .int) (List.mem_append_right _ (List.mem_append_left _ (List.mem_of_getElem? (l := tables_1_1) (i := 41) rfl))))
  obtain ⟨cJ, kJ, mJ, b1, b2, b3⟩ := Cond.arrayClass_spec (hts (.arrayClass .long) (List.mem_append_right _ (List.mem_append_left _ (List.mem_of_getElem? (l := tables_1_1) (i := 141) rfl))))
  refine ⟨cI, cJ, fun k q hq => ?_⟩
  match k, hq with
  | 0, hq => cases hq; exact ⟨fun n z => ⟨fun _ h => (by cases h), kI, a2, mI, a3⟩, a1⟩
  | 1, hq => cases hq; exact ⟨fun n z => ⟨fun _ h => (by cases h), kJ, b2, mJ, b3⟩, b1⟩
  | k + 2, hq => simp at hq
/-! the numbers at the start -/
def zC0 : SS := (fun t _ k => if t = 28 ∧ k = 0 then -2 else if (t = 22 ∨ t = 23) ∧ k = 9 then -2000000000 else 0, fun t _ => if t = 2 then upd (upd (upd (upd (fun _ => 0) 84 (2 : Int32)) 85 (99 : Int32)) 86 (0 : Int32)) 87 (400 : Int32) else fun _ => 0, fun _ _ _ => 0)
def zM0 : SS := (fun _ _ k => if k = 11 ∨ k = 23 then -1 else if k = 31 then -2000000000 else 0, fun t _ => if t = 1 then upd (upd (upd (fun _ => 0) 84 (2 : Int32)) 85 (99 : Int32)) 87 (400 : Int32) else if t = 14 then upd (upd (upd (upd (upd (upd (fun _ => 0) 0 (-1 : Int32)) 1 (-1 : Int32)) 2 (-1 : Int32)) 3 (-1 : Int32)) 4 (-1 : Int32)) 5 (-1 : Int32) else fun _ => 0, fun _ _ _ => 0)
theorem upd_o {f : Nat → Int32} {k j : Nat} {x : Int32} (h : j ≠ k) : upd f k x j = f j := if_neg h
theorem zC_lo {i : Nat} (h : i < 84) : zC0.2.1 2 0 i = 0 := by
  show upd (upd (upd (upd (fun _ => 0) 84 (2 : Int32)) 85 (99 : Int32)) 86 (0 : Int32)) 87 (400 : Int32) i = 0
  rw [upd_o (by omega), upd_o (by omega), upd_o (by omega), upd_o (by omega)]
theorem zM_lo {i : Nat} (h : i < 84) : zM0.2.1 1 0 i = 0 := by
  show upd (upd (upd (fun _ => 0) 84 (2 : Int32)) 85 (99 : Int32)) 87 (400 : Int32) i = 0
  rw [upd_o (by omega), upd_o (by omega), upd_o (by omega)]
theorem inv_0 : Inv zC0 zM0 := by
  refine ⟨0, 0, none, ⟨by omega, rfl, rfl, rfl⟩, ⟨fun p w hp hw => ?_, fun k hk => ?_, fun p w hp _ => absurd hp (by omega), fun k hk => ?_⟩, ⟨0, 0, by omega, by omega, rfl, rfl, rfl, rfl, fun i hi => absurd hi (by omega)⟩, ⟨0, by omega, rfl, rfl, fun i hi => absurd hi (by omega)⟩, ⟨rfl, rfl⟩, fun d hd => ⟨⟨0, by omega, rfl, ?_⟩, fun i hi => rfl, Or.inl ⟨rfl, ?_⟩⟩, ⟨by omega, rfl, rfl, fun i hi => absurd hi (by omega)⟩, ⟨0, by omega, rfl, rfl, fun i hi => absurd hi (by omega)⟩, ⟨Or.inr ⟨rfl, rfl⟩, rfl, rfl, rfl, rfl, rfl⟩, Or.inl ⟨rfl, rfl⟩⟩
  · rw [zC_lo (by omega), zM_lo (by omega)]
  · have : k = 0 ∨ k = 1 ∨ k = 2 ∨ k = 3 := by omega
    rcases this with rfl | rfl | rfl | rfl <;> rfl
  · have : k = 0 ∨ k = 1 ∨ k = 2 ∨ k = 3 := by omega
    rcases this with rfl | rfl | rfl | rfl
    · show okV 7 2
      unfold okV; decide
    · show okV 8 99
      unfold okV; decide
    · show okV 9 0
      unfold okV; decide
    · show okV 10 400
      unfold okV; decide
  · rfl
  · have : d = 0 ∨ d = 1 ∨ d = 2 ∨ d = 3 ∨ d = 4 ∨ d = 5 := by omega
    rcases this with rfl | rfl | rfl | rfl | rfl | rfl <;> rfl
