def m_X11_act (x1 : Int32) (x2 : Int32) (x3 : Int32) (σ : SS) : Option (Int32 × SS) :=
  if (m_X11_isBody x1 (sI σ 0 0 37 (0 : Int32))) = (0 : Int32) then
    some ((0 : Int32), (sI σ 0 0 37 (0 : Int32)))
  else
  if x1 < 0 ∨ 50 ≤ x1.toNatClampNeg then none else
  if x2 = (0 : Int32) then
    Option.bind (m_GAct 60 0 (σ.2.1 12 0 x1.toNatClampNeg) x3 (sI (sI (sI σ 0 0 37 (0 : Int32)) 0 0 38 (σ.2.1 12 0 x1.toNatClampNeg)) 0 0 39 x1)) (fun q4 =>
    some (q4.1, q4.2))
  else
  if x2 = (1 : Int32) then
    Option.bind (m_GAct 60 1 (σ.2.1 12 0 x1.toNatClampNeg) x3 (sI (sI (sI σ 0 0 37 (0 : Int32)) 0 0 38 (σ.2.1 12 0 x1.toNatClampNeg)) 0 0 39 x1)) (fun q6 =>
    some (q6.1, q6.2))
  else
  if x2 = (2 : Int32) then
    Option.bind (m_GAct 60 2 (σ.2.1 12 0 x1.toNatClampNeg) x3 (sI (sI (sI σ 0 0 37 (0 : Int32)) 0 0 38 (σ.2.1 12 0 x1.toNatClampNeg)) 0 0 39 x1)) (fun q8 =>
    some (q8.1, q8.2))
  else
  if x2 = (3 : Int32) then
    Option.bind (m_GAct 60 3 (σ.2.1 12 0 x1.toNatClampNeg) x3 (sI (sI (sI σ 0 0 37 (0 : Int32)) 0 0 38 (σ.2.1 12 0 x1.toNatClampNeg)) 0 0 39 x1)) (fun q10 =>
    some (q10.1, q10.2))
  else
  some ((0 : Int32), (sI (sI (sI σ 0 0 37 (0 : Int32)) 0 0 38 (σ.2.1 12 0 x1.toNatClampNeg)) 0 0 39 x1))
set_option maxRecDepth 100000 in
set_option maxHeartbeats 4000000 in
theorem c_X11_act (x1 : Int32) (x2 : Int32) (x3 : Int32) (σ : SS) {r : Int32} {σ' : SS} (hm : m_X11_act x1 x2 x3 σ = some (r, σ')) : XM LM 63 M_X11_act [aR 0 0, aI x1, aI x2, aI x3] σ (some (aI r)) σ' := by
  refine XM.of (K := K11) (by decide) (by decide +kernel) K11_ok (Nat.le_of_ble_eq_true rfl) (fun Γ B q => ?_)
  unfold m_X11_act at hm
  refine XW.bk B [(0, .aload_n 0), (1, .iconst 0), (2, .putfield 314), (5, .aload_n 0), (6, .iload_n 1)] (by decide +kernel) (pc1 := 7) (ls1 := [some (aR 0 0), some (aI x1), some (aI x2), some (aI x3)]) (st1 := [aI x1, aR 0 0]) (σ1 := (sI σ 0 0 37 (0 : Int32))) (P := []) rfl trivial ?_
  refine XW.callV B (M := M_X11_isBody) (t := 0) (j := 0) (cn := 1) (as := [aI x1]) (c_X11_isBody x1 (sI σ 0 0 37 (0 : Int32)) rfl) (by decide) wV_X11_isBody wN_X11_isBody lk_X11_338 rfl rfl rfl (by decide) rfl (Nat.le_of_ble_eq_true rfl) (by decide +kernel) ?_
  refine XW.bn B [] (by decide +kernel) (pc1 := 10) (ls1 := [some (aR 0 0), some (aI x1), some (aI x2), some (aI x3)]) (st1 := [aI (m_X11_isBody x1 (sI σ 0 0 37 (0 : Int32)))]) (σ1 := (sI σ 0 0 37 (0 : Int32))) (P := []) (i := .ifCond .ne 5) (tgt := 15) (q := (m_X11_isBody x1 (sI σ 0 0 37 (0 : Int32))) = (0 : Int32)) rfl trivial (by decide +kernel) rfl (by decide) (fun h1 => ?_) (fun h1 => ?_)
  · rw [if_pos h1] at hm
    refine XW.bk B [(13, .iconst 0)] (by decide +kernel) (pc1 := 14) (ls1 := [some (aR 0 0), some (aI x1), some (aI x2), some (aI x3)]) (st1 := [aI (0 : Int32)]) (σ1 := (sI σ 0 0 37 (0 : Int32))) (P := []) rfl trivial ?_
    obtain ⟨rfl, rfl⟩ := Prod.mk.inj (Option.some.inj hm)
    exact XW.iret B q (by decide +kernel)
  · rw [if_neg h1] at hm
    refine XW.bk B [(15, .aload_n 0), (16, .aload_n 0), (17, .getfield 45), (20, .iload_n 1)] (by decide +kernel) (pc1 := 21) (ls1 := [some (aR 0 0), some (aI x1), some (aI x2), some (aI x3)]) (st1 := [aI x1, aR 12 0, aR 0 0]) (σ1 := (sI σ 0 0 37 (0 : Int32))) (P := []) rfl trivial ?_
    by_cases g2 : x1 < 0 ∨ 50 ≤ x1.toNatClampNeg
    · rw [if_pos g2] at hm; cases hm
    rw [if_neg g2] at hm
    refine XW.bk B [(21, .iaload), (22, .putfield 329), (25, .aload_n 0), (26, .iload_n 1), (27, .putfield 323), (30, .iload_n 2)] (by decide +kernel) (pc1 := 31) (ls1 := [some (aR 0 0), some (aI x1), some (aI x2), some (aI x3)]) (st1 := [aI x2]) (σ1 := (sI (sI (sI σ 0 0 37 (0 : Int32)) 0 0 38 (σ.2.1 12 0 x1.toNatClampNeg)) 0 0 39 x1)) (P := [vp_in x1 50]) rfl ⟨g2, trivial⟩ ?_
    by_cases h3 : x2 = (0 : Int32)
    · rw [if_pos h3] at hm
      refine XW.tsI B (0 : Int32) (dflt := 69) (n := 29) (lo := 0) (hi := 3) (offs := #[29, 39, 49, 59]) (off := 29) (by decide +kernel) h3 (by decide +kernel) (tgt := 60) (by decide) ?_
      refine XW.bk B [(60, .aload_n 0), (61, .aload_n 0), (62, .getfield 329), (65, .iload_n 3)] (by decide +kernel) (pc1 := 66) (ls1 := [some (aR 0 0), some (aI x1), some (aI x2), some (aI x3)]) (st1 := [aI x3, aI (σ.2.1 12 0 x1.toNatClampNeg), aR 0 0]) (σ1 := (sI (sI (sI σ 0 0 37 (0 : Int32)) 0 0 38 (σ.2.1 12 0 x1.toNatClampNeg)) 0 0 39 x1)) (P := []) rfl trivial ?_
      obtain ⟨q4, hq4, hm⟩ := obind_eq hm
      refine XW.callV B (M := M_X11_goesAs) (t := 0) (j := 0) (cn := 1) (as := [aI (σ.2.1 12 0 x1.toNatClampNeg), aI x3]) ((c_GAct 60).1 (σ.2.1 12 0 x1.toNatClampNeg) x3 (sI (sI (sI σ 0 0 37 (0 : Int32)) 0 0 38 (σ.2.1 12 0 x1.toNatClampNeg)) 0 0 39 x1) hq4) (by decide) wV_X11_goesAs wN_X11_goesAs lk_X11_320 rfl rfl rfl (by decide) rfl (Nat.le_of_ble_eq_true rfl) (by decide +kernel) ?_
      obtain ⟨rfl, rfl⟩ := Prod.mk.inj (Option.some.inj hm)
      exact XW.iret B q (by decide +kernel)
    rw [if_neg h3] at hm
    by_cases h5 : x2 = (1 : Int32)
    · rw [if_pos h5] at hm
      refine XW.tsI B (1 : Int32) (dflt := 69) (n := 29) (lo := 0) (hi := 3) (offs := #[29, 39, 49, 59]) (off := 39) (by decide +kernel) h5 (by decide +kernel) (tgt := 70) (by decide) ?_
      refine XW.bk B [(70, .aload_n 0), (71, .aload_n 0), (72, .getfield 329), (75, .iload_n 3)] (by decide +kernel) (pc1 := 76) (ls1 := [some (aR 0 0), some (aI x1), some (aI x2), some (aI x3)]) (st1 := [aI x3, aI (σ.2.1 12 0 x1.toNatClampNeg), aR 0 0]) (σ1 := (sI (sI (sI σ 0 0 37 (0 : Int32)) 0 0 38 (σ.2.1 12 0 x1.toNatClampNeg)) 0 0 39 x1)) (P := []) rfl trivial ?_
      obtain ⟨q6, hq6, hm⟩ := obind_eq hm
      refine XW.callV B (M := M_X11_strainsAs) (t := 0) (j := 0) (cn := 1) (as := [aI (σ.2.1 12 0 x1.toNatClampNeg), aI x3]) ((c_GAct 60).2.1 (σ.2.1 12 0 x1.toNatClampNeg) x3 (sI (sI (sI σ 0 0 37 (0 : Int32)) 0 0 38 (σ.2.1 12 0 x1.toNatClampNeg)) 0 0 39 x1) hq6) (by decide) wV_X11_strainsAs wN_X11_strainsAs lk_X11_326 rfl rfl rfl (by decide) rfl (Nat.le_of_ble_eq_true rfl) (by decide +kernel) ?_
      obtain ⟨rfl, rfl⟩ := Prod.mk.inj (Option.some.inj hm)
      exact XW.iret B q (by decide +kernel)
    rw [if_neg h5] at hm
    by_cases h7 : x2 = (2 : Int32)
    · rw [if_pos h7] at hm
      refine XW.tsI B (2 : Int32) (dflt := 69) (n := 29) (lo := 0) (hi := 3) (offs := #[29, 39, 49, 59]) (off := 49) (by decide +kernel) h7 (by decide +kernel) (tgt := 80) (by decide) ?_
      refine XW.bk B [(80, .aload_n 0), (81, .aload_n 0), (82, .getfield 329), (85, .iload_n 3)] (by decide +kernel) (pc1 := 86) (ls1 := [some (aR 0 0), some (aI x1), some (aI x2), some (aI x3)]) (st1 := [aI x3, aI (σ.2.1 12 0 x1.toNatClampNeg), aR 0 0]) (σ1 := (sI (sI (sI σ 0 0 37 (0 : Int32)) 0 0 38 (σ.2.1 12 0 x1.toNatClampNeg)) 0 0 39 x1)) (P := []) rfl trivial ?_
      obtain ⟨q8, hq8, hm⟩ := obind_eq hm
      refine XW.callV B (M := M_X11_leansAs) (t := 0) (j := 0) (cn := 1) (as := [aI (σ.2.1 12 0 x1.toNatClampNeg), aI x3]) ((c_GAct 60).2.2.1 (σ.2.1 12 0 x1.toNatClampNeg) x3 (sI (sI (sI σ 0 0 37 (0 : Int32)) 0 0 38 (σ.2.1 12 0 x1.toNatClampNeg)) 0 0 39 x1) hq8) (by decide) wV_X11_leansAs wN_X11_leansAs lk_X11_332 rfl rfl rfl (by decide) rfl (Nat.le_of_ble_eq_true rfl) (by decide +kernel) ?_
      obtain ⟨rfl, rfl⟩ := Prod.mk.inj (Option.some.inj hm)
      exact XW.iret B q (by decide +kernel)
    rw [if_neg h7] at hm
    by_cases h9 : x2 = (3 : Int32)
    · rw [if_pos h9] at hm
      refine XW.tsI B (3 : Int32) (dflt := 69) (n := 29) (lo := 0) (hi := 3) (offs := #[29, 39, 49, 59]) (off := 59) (by decide +kernel) h9 (by decide +kernel) (tgt := 90) (by decide) ?_
      refine XW.bk B [(90, .aload_n 0), (91, .aload_n 0), (92, .getfield 329), (95, .iload_n 3)] (by decide +kernel) (pc1 := 96) (ls1 := [some (aR 0 0), some (aI x1), some (aI x2), some (aI x3)]) (st1 := [aI x3, aI (σ.2.1 12 0 x1.toNatClampNeg), aR 0 0]) (σ1 := (sI (sI (sI σ 0 0 37 (0 : Int32)) 0 0 38 (σ.2.1 12 0 x1.toNatClampNeg)) 0 0 39 x1)) (P := []) rfl trivial ?_
      obtain ⟨q10, hq10, hm⟩ := obind_eq hm
      refine XW.callV B (M := M_X11_tellsAs) (t := 0) (j := 0) (cn := 1) (as := [aI (σ.2.1 12 0 x1.toNatClampNeg), aI x3]) ((c_GAct 60).2.2.2 (σ.2.1 12 0 x1.toNatClampNeg) x3 (sI (sI (sI σ 0 0 37 (0 : Int32)) 0 0 38 (σ.2.1 12 0 x1.toNatClampNeg)) 0 0 39 x1) hq10) (by decide) wV_X11_tellsAs wN_X11_tellsAs lk_X11_335 rfl rfl rfl (by decide) rfl (Nat.le_of_ble_eq_true rfl) (by decide +kernel) ?_
      obtain ⟨rfl, rfl⟩ := Prod.mk.inj (Option.some.inj hm)
      exact XW.iret B q (by decide +kernel)
    rw [if_neg h9] at hm
    refine XW.tsD B [(0 : Int32), (1 : Int32), (2 : Int32), (3 : Int32)] (dflt := 69) (n := 29) (lo := 0) (hi := 3) (offs := #[29, 39, 49, 59]) (by decide +kernel) (List.forall_mem_cons.mpr ⟨h3, (List.forall_mem_cons.mpr ⟨h5, (List.forall_mem_cons.mpr ⟨h7, (List.forall_mem_cons.mpr ⟨h9, (fun _ hz => absurd hz List.not_mem_nil)⟩)⟩)⟩)⟩) (by decide +kernel) (by decide) (tgt := 100) (by decide) ?_
    refine XW.bk B [(100, .iconst 0)] (by decide +kernel) (pc1 := 101) (ls1 := [some (aR 0 0), some (aI x1), some (aI x2), some (aI x3)]) (st1 := [aI (0 : Int32)]) (σ1 := (sI (sI (sI σ 0 0 37 (0 : Int32)) 0 0 38 (σ.2.1 12 0 x1.toNatClampNeg)) 0 0 39 x1)) (P := []) rfl trivial ?_
    obtain ⟨rfl, rfl⟩ := Prod.mk.inj (Option.some.inj hm)
    exact XW.iret B q (by decide +kernel)

def m_X11_trace (x1 : Int32) (σ : SS) : Int32 :=
  if x1 < (0 : Int32) then
    (-1 : Int32)
  else
  if (σ.1 0 0 37) ≤ x1 then
    (-1 : Int32)
  else
  if (24 : Int32) ≤ x1 then
    (-1 : Int32)
  else
  (σ.2.1 13 0 x1.toNatClampNeg)
set_option maxRecDepth 100000 in
set_option maxHeartbeats 4000000 in
theorem c_X11_trace (x1 : Int32) (σ : SS) {r : Int32} (hm : m_X11_trace x1 σ = r) : XM LM 1 M_X11_trace [aR 0 0, aI x1] σ (some (aI r)) σ := by
  refine XM.of (K := K11) (by decide) (by decide +kernel) K11_ok (Nat.le_of_ble_eq_true rfl) (fun Γ B q => ?_)
  unfold m_X11_trace at hm
  refine XW.bb B [(0, .iload_n 1)] (by decide +kernel) (pc1 := 1) (ls1 := [some (aR 0 0), some (aI x1)]) (st1 := [aI x1]) (σ1 := σ) (P := []) (i := .ifCond .lt 26) (tgt := 27) (q := x1 < (0 : Int32)) rfl trivial (by decide +kernel) rfl (by decide) (fun h1 => ?_) (fun h1 => ?_)
  · rw [if_pos h1] at hm
    refine XW.bk B [(27, .iconst (-1))] (by decide +kernel) (pc1 := 28) (ls1 := [some (aR 0 0), some (aI x1)]) (st1 := [aI (-1 : Int32)]) (σ1 := σ) (P := []) rfl trivial ?_
    subst hm
    exact XW.iret B q (by decide +kernel)
  · rw [if_neg h1] at hm
    refine XW.bb B [(4, .iload_n 1), (5, .aload_n 0), (6, .getfield 314)] (by decide +kernel) (pc1 := 9) (ls1 := [some (aR 0 0), some (aI x1)]) (st1 := [aI (σ.1 0 0 37), aI x1]) (σ1 := σ) (P := []) (i := .if_icmp .ge 18) (tgt := 27) (q := (σ.1 0 0 37) ≤ x1) rfl trivial (by decide +kernel) rfl (by decide) (fun h2 => ?_) (fun h2 => ?_)
    · rw [if_pos h2] at hm
      refine XW.bk B [(27, .iconst (-1))] (by decide +kernel) (pc1 := 28) (ls1 := [some (aR 0 0), some (aI x1)]) (st1 := [aI (-1 : Int32)]) (σ1 := σ) (P := []) rfl trivial ?_
      subst hm
      exact XW.iret B q (by decide +kernel)
    · rw [if_neg h2] at hm
      refine XW.bb B [(12, .iload_n 1), (13, .bipush 24)] (by decide +kernel) (pc1 := 15) (ls1 := [some (aR 0 0), some (aI x1)]) (st1 := [aI (24 : Int32), aI x1]) (σ1 := σ) (P := []) (i := .if_icmp .ge 12) (tgt := 27) (q := (24 : Int32) ≤ x1) rfl trivial (by decide +kernel) rfl (by decide) (fun h3 => ?_) (fun h3 => ?_)
      · rw [if_pos h3] at hm
        refine XW.bk B [(27, .iconst (-1))] (by decide +kernel) (pc1 := 28) (ls1 := [some (aR 0 0), some (aI x1)]) (st1 := [aI (-1 : Int32)]) (σ1 := σ) (P := []) rfl trivial ?_
        subst hm
        exact XW.iret B q (by decide +kernel)
      · rw [if_neg h3] at hm
        refine XW.bk B [(18, .aload_n 0), (19, .getfield 48), (22, .iload_n 1), (23, .iaload), (24, .goto 4)] (by decide +kernel) (pc1 := 28) (ls1 := [some (aR 0 0), some (aI x1)]) (st1 := [aI (σ.2.1 13 0 x1.toNatClampNeg)]) (σ1 := σ) (P := [vp_in x1 24]) rfl ⟨(vin_a h1 h3 (by decide +kernel)), trivial⟩ ?_
        subst hm
        exact XW.iret B q (by decide +kernel)

def m_X11_keep (x1 : Int32) (x2 : Int32) (σ : SS) : Option (Int32 × SS) :=
  if (m_X11_isShelf x1) = (0 : Int32) then
    some ((-1 : Int32), σ)
  else
  if x2 = (-1 : Int32) then
    if x1 < 0 ∨ 6 ≤ x1.toNatClampNeg then none else
    some ((1 : Int32), (sA (sA σ 14 0 x1.toNatClampNeg x2) 15 0 x1.toNatClampNeg (0 : Int32)))
  else
  if (m_X11_isBody x2 σ) = (0 : Int32) then
    some ((-1 : Int32), σ)
  else
  if x1 < 0 ∨ 6 ≤ x1.toNatClampNeg then none else
  some ((1 : Int32), (sA (sA σ 14 0 x1.toNatClampNeg x2) 15 0 x1.toNatClampNeg (0 : Int32)))
set_option maxRecDepth 100000 in
set_option maxHeartbeats 4000000 in
theorem c_X11_keep (x1 : Int32) (x2 : Int32) (σ : SS) {r : Int32} {σ' : SS} (hm : m_X11_keep x1 x2 σ = some (r, σ')) : XM LM 3 M_X11_keep [aR 0 0, aI x1, aI x2] σ (some (aI r)) σ' := by
  refine XM.of (K := K11) (by decide) (by decide +kernel) K11_ok (Nat.le_of_ble_eq_true rfl) (fun Γ B q => ?_)
  unfold m_X11_keep at hm
  refine XW.bk B [(0, .iload_n 1)] (by decide +kernel) (pc1 := 1) (ls1 := [some (aR 0 0), some (aI x1), some (aI x2)]) (st1 := [aI x1]) (σ1 := σ) (P := []) rfl trivial ?_
  refine XW.callS B (M := M_X11_isShelf) (as := [aI x1]) (c_X11_isShelf x1 σ rfl) (by decide) wS_X11_isShelf wN_X11_isShelf lk_X11_105 rfl (Nat.le_of_ble_eq_true rfl) (by decide +kernel) ?_
  refine XW.bb B [] (by decide +kernel) (pc1 := 4) (ls1 := [some (aR 0 0), some (aI x1), some (aI x2)]) (st1 := [aI (m_X11_isShelf x1)]) (σ1 := σ) (P := []) (i := .ifCond .eq 16) (tgt := 20) (q := (m_X11_isShelf x1) = (0 : Int32)) rfl trivial (by decide +kernel) rfl (by decide) (fun h1 => ?_) (fun h1 => ?_)
  · rw [if_pos h1] at hm
    refine XW.bk B [(20, .iconst (-1))] (by decide +kernel) (pc1 := 21) (ls1 := [some (aR 0 0), some (aI x1), some (aI x2)]) (st1 := [aI (-1 : Int32)]) (σ1 := σ) (P := []) rfl trivial ?_
    obtain ⟨rfl, rfl⟩ := Prod.mk.inj (Option.some.inj hm)
    exact XW.iret B q (by decide +kernel)
  · rw [if_neg h1] at hm
    refine XW.bb B [(7, .iload_n 2), (8, .iconst (-1))] (by decide +kernel) (pc1 := 9) (ls1 := [some (aR 0 0), some (aI x1), some (aI x2)]) (st1 := [aI (-1 : Int32), aI x2]) (σ1 := σ) (P := []) (i := .if_icmp .eq 13) (tgt := 22) (q := x2 = (-1 : Int32)) rfl trivial (by decide +kernel) rfl (by decide) (fun h2 => ?_) (fun h2 => ?_)
    · rw [if_pos h2] at hm
      refine XW.bk B [(22, .aload_n 0), (23, .getfield 51), (26, .iload_n 1), (27, .iload_n 2)] (by decide +kernel) (pc1 := 28) (ls1 := [some (aR 0 0), some (aI x1), some (aI x2)]) (st1 := [aI x2, aI x1, aR 14 0]) (σ1 := σ) (P := []) rfl trivial ?_
      by_cases g3 : x1 < 0 ∨ 6 ≤ x1.toNatClampNeg
      · rw [if_pos g3] at hm; cases hm
      rw [if_neg g3] at hm
      refine XW.bk B [(28, .iastore), (29, .aload_n 0), (30, .getfield 54), (33, .iload_n 1), (34, .iconst 0), (35, .iastore), (36, .iconst 1)] (by decide +kernel) (pc1 := 37) (ls1 := [some (aR 0 0), some (aI x1), some (aI x2)]) (st1 := [aI (1 : Int32)]) (σ1 := (sA (sA σ 14 0 x1.toNatClampNeg x2) 15 0 x1.toNatClampNeg (0 : Int32))) (P := [vp_in x1 6, vp_in x1 6]) rfl ⟨g3, g3, trivial⟩ ?_
      obtain ⟨rfl, rfl⟩ := Prod.mk.inj (Option.some.inj hm)
      exact XW.iret B q (by decide +kernel)
    · rw [if_neg h2] at hm
      refine XW.bk B [(12, .aload_n 0), (13, .iload_n 2)] (by decide +kernel) (pc1 := 14) (ls1 := [some (aR 0 0), some (aI x1), some (aI x2)]) (st1 := [aI x2, aR 0 0]) (σ1 := σ) (P := []) rfl trivial ?_
      refine XW.callV B (M := M_X11_isBody) (t := 0) (j := 0) (cn := 1) (as := [aI x2]) (c_X11_isBody x2 σ rfl) (by decide) wV_X11_isBody wN_X11_isBody lk_X11_338 rfl rfl rfl (by decide) rfl (Nat.le_of_ble_eq_true rfl) (by decide +kernel) ?_
      refine XW.bn B [] (by decide +kernel) (pc1 := 17) (ls1 := [some (aR 0 0), some (aI x1), some (aI x2)]) (st1 := [aI (m_X11_isBody x2 σ)]) (σ1 := σ) (P := []) (i := .ifCond .ne 5) (tgt := 22) (q := (m_X11_isBody x2 σ) = (0 : Int32)) rfl trivial (by decide +kernel) rfl (by decide) (fun h4 => ?_) (fun h4 => ?_)
      · rw [if_pos h4] at hm
        refine XW.bk B [(20, .iconst (-1))] (by decide +kernel) (pc1 := 21) (ls1 := [some (aR 0 0), some (aI x1), some (aI x2)]) (st1 := [aI (-1 : Int32)]) (σ1 := σ) (P := []) rfl trivial ?_
        obtain ⟨rfl, rfl⟩ := Prod.mk.inj (Option.some.inj hm)
        exact XW.iret B q (by decide +kernel)
      · rw [if_neg h4] at hm
        refine XW.bk B [(22, .aload_n 0), (23, .getfield 51), (26, .iload_n 1), (27, .iload_n 2)] (by decide +kernel) (pc1 := 28) (ls1 := [some (aR 0 0), some (aI x1), some (aI x2)]) (st1 := [aI x2, aI x1, aR 14 0]) (σ1 := σ) (P := []) rfl trivial ?_
        by_cases g5 : x1 < 0 ∨ 6 ≤ x1.toNatClampNeg
        · rw [if_pos g5] at hm; cases hm
        rw [if_neg g5] at hm
        refine XW.bk B [(28, .iastore), (29, .aload_n 0), (30, .getfield 54), (33, .iload_n 1), (34, .iconst 0), (35, .iastore), (36, .iconst 1)] (by decide +kernel) (pc1 := 37) (ls1 := [some (aR 0 0), some (aI x1), some (aI x2)]) (st1 := [aI (1 : Int32)]) (σ1 := (sA (sA σ 14 0 x1.toNatClampNeg x2) 15 0 x1.toNatClampNeg (0 : Int32))) (P := [vp_in x1 6, vp_in x1 6]) rfl ⟨g5, g5, trivial⟩ ?_
        obtain ⟨rfl, rfl⟩ := Prod.mk.inj (Option.some.inj hm)
        exact XW.iret B q (by decide +kernel)

def L_X11_row_57 : Nat → Int32 → Int32 → SS → Option (Int32 × SS)
  | 0, _, _, _ => none
  | n + 1, v1, v4, σ =>
    if (((60 : Int32) * v1) + (60 : Int32)) ≤ v4 then
      some ((1 : Int32), σ)
    else
    if v4 < 0 ∨ 360 ≤ v4.toNatClampNeg then none else
    L_X11_row_57 n v1 (v4 + (1 : Int32)) (sL σ 16 0 v4.toNatClampNeg (0 : Int64))
def m_X11_row (x1 : Int32) (x2 : Int32) (x3 : Int32) (σ : SS) : Option (Int32 × SS) :=
  if (m_X11_isShelf x1) = (0 : Int32) then
    some ((-1 : Int32), σ)
  else
  if (m_X11_within x2.toInt64 (0 : Int64) (4 : Int64)) = (0 : Int32) then
    some ((-1 : Int32), σ)
  else
  if x3 ≤ (60 : Int32) then
    if (0 : Int32) ≤ x3 then
      if x1 < 0 ∨ 6 ≤ x1.toNatClampNeg then none else
      L_X11_row_57 FU x1 ((60 : Int32) * x1) (sA (sA σ 14 0 x1.toNatClampNeg ((50 : Int32) + x2)) 15 0 x1.toNatClampNeg x3)
    else
    some ((-14 : Int32), σ)
  else
  some ((-1 : Int32), σ)
set_option maxRecDepth 100000 in
set_option maxHeartbeats 4000000 in
theorem lp_X11_row_57 {Γ : XC} {r : Int32} {σ' : SS} (B : XB Γ cX11_row RX11 3 K11 LM 5) (q : XQ Γ (some .int) (some (aI r)) σ') : ∀ (n : Nat) (v1 : Int32) (v4 : Int32) (σ : SS), L_X11_row_57 n v1 v4 σ = some (r, σ') → XW Γ 57 [some (aR 0 0), some (aI v1), none, none, some (aI v4)] [] σ := by
  intro n
  induction n with
  | zero => intro v1 v4 σ hm; cases hm
  | succ n ih =>
    intro v1 v4 σ hm
    rw [L_X11_row_57] at hm
    refine XW.bb B [(57, .iload 4), (59, .bipush 60), (61, .iload_n 1), (62, .imul), (63, .bipush 60), (65, .iadd)] (by decide +kernel) (pc1 := 66) (ls1 := [some (aR 0 0), some (aI v1), none, none, some (aI v4)]) (st1 := [aI (((60 : Int32) * v1) + (60 : Int32)), aI v4]) (σ1 := σ) (P := []) (i := .if_icmp .ge 17) (tgt := 83) (q := (((60 : Int32) * v1) + (60 : Int32)) ≤ v4) rfl trivial (by decide +kernel) rfl (by decide) (fun h6 => ?_) (fun h6 => ?_)
    · rw [if_pos h6] at hm
      refine XW.bk B [(83, .iconst 1)] (by decide +kernel) (pc1 := 84) (ls1 := [some (aR 0 0), some (aI v1), none, none, some (aI v4)]) (st1 := [aI (1 : Int32)]) (σ1 := σ) (P := []) rfl trivial ?_
      obtain ⟨rfl, rfl⟩ := Prod.mk.inj (Option.some.inj hm)
      exact XW.iret B q (by decide +kernel)
    · rw [if_neg h6] at hm
      refine XW.bk B [(69, .aload_n 0), (70, .getfield 57), (73, .iload 4), (75, .lconst 0)] (by decide +kernel) (pc1 := 76) (ls1 := [some (aR 0 0), some (aI v1), none, none, some (aI v4)]) (st1 := [aJ (0 : Int64), aI v4, aR 16 0]) (σ1 := σ) (P := []) rfl trivial ?_
      by_cases g7 : v4 < 0 ∨ 360 ≤ v4.toNatClampNeg
      · rw [if_pos g7] at hm; cases hm
      rw [if_neg g7] at hm
      refine XW.bk B [(76, .lastore), (77, .iinc 4 1), (80, .goto (-23))] (by decide +kernel) (pc1 := 57) (ls1 := [some (aR 0 0), some (aI v1), none, none, some (aI (v4 + (1 : Int32)))]) (st1 := []) (σ1 := (sL σ 16 0 v4.toNatClampNeg (0 : Int64))) (P := [vp_in v4 360]) rfl ⟨g7, trivial⟩ ?_
      exact ih v1 (v4 + (1 : Int32)) (sL σ 16 0 v4.toNatClampNeg (0 : Int64)) hm
set_option maxRecDepth 100000 in
set_option maxHeartbeats 4000000 in
theorem c_X11_row (x1 : Int32) (x2 : Int32) (x3 : Int32) (σ : SS) {r : Int32} {σ' : SS} (hm : m_X11_row x1 x2 x3 σ = some (r, σ')) : XM LM 3 M_X11_row [aR 0 0, aI x1, aI x2, aI x3] σ (some (aI r)) σ' := by
  refine XM.of (K := K11) (by decide) (by decide +kernel) K11_ok (Nat.le_of_ble_eq_true rfl) (fun Γ B q => ?_)
  unfold m_X11_row at hm
  refine XW.bk B [(0, .iload_n 1)] (by decide +kernel) (pc1 := 1) (ls1 := [some (aR 0 0), some (aI x1), some (aI x2), some (aI x3), none]) (st1 := [aI x1]) (σ1 := σ) (P := []) rfl trivial ?_
  refine XW.callS B (M := M_X11_isShelf) (as := [aI x1]) (c_X11_isShelf x1 σ rfl) (by decide) wS_X11_isShelf wN_X11_isShelf lk_X11_105 rfl (Nat.le_of_ble_eq_true rfl) (by decide +kernel) ?_
  refine XW.bb B [] (by decide +kernel) (pc1 := 4) (ls1 := [some (aR 0 0), some (aI x1), some (aI x2), some (aI x3), none]) (st1 := [aI (m_X11_isShelf x1)]) (σ1 := σ) (P := []) (i := .ifCond .eq 21) (tgt := 25) (q := (m_X11_isShelf x1) = (0 : Int32)) rfl trivial (by decide +kernel) rfl (by decide) (fun h1 => ?_) (fun h1 => ?_)
  · rw [if_pos h1] at hm
    refine XW.bk B [(25, .iconst (-1))] (by decide +kernel) (pc1 := 26) (ls1 := [some (aR 0 0), some (aI x1), some (aI x2), some (aI x3), none]) (st1 := [aI (-1 : Int32)]) (σ1 := σ) (P := []) rfl trivial ?_
    obtain ⟨rfl, rfl⟩ := Prod.mk.inj (Option.some.inj hm)
    exact XW.iret B q (by decide +kernel)
  · rw [if_neg h1] at hm
    refine XW.bk B [(7, .iload_n 2), (8, .i2l), (9, .lconst 0), (10, .ldc2_w 343)] (by decide +kernel) (pc1 := 13) (ls1 := [some (aR 0 0), some (aI x1), some (aI x2), some (aI x3), none]) (st1 := [aJ (4 : Int64), aJ (0 : Int64), aJ x2.toInt64]) (σ1 := σ) (P := []) rfl trivial ?_
    refine XW.callS B (M := M_X11_within) (as := [aJ x2.toInt64, aJ (0 : Int64), aJ (4 : Int64)]) (c_X11_within x2.toInt64 (0 : Int64) (4 : Int64) σ rfl) (by decide) wS_X11_within wN_X11_within lk_X11_84 rfl (Nat.le_of_ble_eq_true rfl) (by decide +kernel) ?_
    refine XW.bb B [] (by decide +kernel) (pc1 := 16) (ls1 := [some (aR 0 0), some (aI x1), some (aI x2), some (aI x3), none]) (st1 := [aI (m_X11_within x2.toInt64 (0 : Int64) (4 : Int64))]) (σ1 := σ) (P := []) (i := .ifCond .eq 9) (tgt := 25) (q := (m_X11_within x2.toInt64 (0 : Int64) (4 : Int64)) = (0 : Int32)) rfl trivial (by decide +kernel) rfl (by decide) (fun h2 => ?_) (fun h2 => ?_)
    · rw [if_pos h2] at hm
      refine XW.bk B [(25, .iconst (-1))] (by decide +kernel) (pc1 := 26) (ls1 := [some (aR 0 0), some (aI x1), some (aI x2), some (aI x3), none]) (st1 := [aI (-1 : Int32)]) (σ1 := σ) (P := []) rfl trivial ?_
      obtain ⟨rfl, rfl⟩ := Prod.mk.inj (Option.some.inj hm)
      exact XW.iret B q (by decide +kernel)
    · rw [if_neg h2] at hm
      refine XW.bb B [(19, .iload_n 3), (20, .bipush 60)] (by decide +kernel) (pc1 := 22) (ls1 := [some (aR 0 0), some (aI x1), some (aI x2), some (aI x3), none]) (st1 := [aI (60 : Int32), aI x3]) (σ1 := σ) (P := []) (i := .if_icmp .le 5) (tgt := 27) (q := x3 ≤ (60 : Int32)) rfl trivial (by decide +kernel) rfl (by decide) (fun h3 => ?_) (fun h3 => ?_)
      · rw [if_pos h3] at hm
        refine XW.bb B [(27, .iload_n 3)] (by decide +kernel) (pc1 := 28) (ls1 := [some (aR 0 0), some (aI x1), some (aI x2), some (aI x3), none]) (st1 := [aI x3]) (σ1 := σ) (P := []) (i := .ifCond .ge 6) (tgt := 34) (q := (0 : Int32) ≤ x3) rfl trivial (by decide +kernel) rfl (by decide) (fun h4 => ?_) (fun h4 => ?_)
        · rw [if_pos h4] at hm
          refine XW.bk B [(34, .aload_n 0), (35, .getfield 51), (38, .iload_n 1), (39, .bipush 50), (41, .iload_n 2), (42, .iadd)] (by decide +kernel) (pc1 := 43) (ls1 := [some (aR 0 0), some (aI x1), some (aI x2), some (aI x3), none]) (st1 := [aI ((50 : Int32) + x2), aI x1, aR 14 0]) (σ1 := σ) (P := []) rfl trivial ?_
          by_cases g5 : x1 < 0 ∨ 6 ≤ x1.toNatClampNeg
          · rw [if_pos g5] at hm; cases hm
          rw [if_neg g5] at hm
          refine XW.bk B [(43, .iastore), (44, .aload_n 0), (45, .getfield 54), (48, .iload_n 1), (49, .iload_n 3), (50, .iastore), (51, .bipush 60), (53, .iload_n 1), (54, .imul), (55, .istore 4)] (by decide +kernel) (pc1 := 57) (ls1 := [some (aR 0 0), some (aI x1), some (aI x2), some (aI x3), some (aI ((60 : Int32) * x1))]) (st1 := []) (σ1 := (sA (sA σ 14 0 x1.toNatClampNeg ((50 : Int32) + x2)) 15 0 x1.toNatClampNeg x3)) (P := [vp_in x1 6, vp_in x1 6]) rfl ⟨g5, g5, trivial⟩ ?_
          refine XW.loc [true, true, false, false, true] rfl ?_
          exact lp_X11_row_57 B q FU x1 ((60 : Int32) * x1) (sA (sA σ 14 0 x1.toNatClampNeg ((50 : Int32) + x2)) 15 0 x1.toNatClampNeg x3) hm
        · rw [if_neg h4] at hm
          refine XW.bk B [(31, .bipush (-14))] (by decide +kernel) (pc1 := 33) (ls1 := [some (aR 0 0), some (aI x1), some (aI x2), some (aI x3), none]) (st1 := [aI (-14 : Int32)]) (σ1 := σ) (P := []) rfl trivial ?_
          obtain ⟨rfl, rfl⟩ := Prod.mk.inj (Option.some.inj hm)
          exact XW.iret B q (by decide +kernel)
      · rw [if_neg h3] at hm
        refine XW.bk B [(25, .iconst (-1))] (by decide +kernel) (pc1 := 26) (ls1 := [some (aR 0 0), some (aI x1), some (aI x2), some (aI x3), none]) (st1 := [aI (-1 : Int32)]) (σ1 := σ) (P := []) rfl trivial ?_
        obtain ⟨rfl, rfl⟩ := Prod.mk.inj (Option.some.inj hm)
        exact XW.iret B q (by decide +kernel)

def m_X11_refusal (x1 : Int32) (x2 : Int32) (σ : SS) : Option (Int32) :=
  if (m_X11_isShelf x1) = (0 : Int32) then
    some (-1 : Int32)
  else
  if x1 < 0 ∨ 6 ≤ x1.toNatClampNeg then none else
  if (0 : Int32) ≤ (σ.2.1 14 0 x1.toNatClampNeg) then
    if (50 : Int32) ≤ (σ.2.1 14 0 x1.toNatClampNeg) then
      if x2 < (0 : Int32) then
        some (-13 : Int32)
      else
      if (σ.2.1 15 0 x1.toNatClampNeg) ≤ x2 then
        some (-13 : Int32)
      else
      some (0 : Int32)
    else
    some (-12 : Int32)
  else
  some (-11 : Int32)
set_option maxRecDepth 100000 in
set_option maxHeartbeats 4000000 in
theorem c_X11_refusal (x1 : Int32) (x2 : Int32) (σ : SS) {r : Int32} (hm : m_X11_refusal x1 x2 σ = some r) : XM LM 3 M_X11_refusal [aR 0 0, aI x1, aI x2] σ (some (aI r)) σ := by
  refine XM.of (K := K11) (by decide) (by decide +kernel) K11_ok (Nat.le_of_ble_eq_true rfl) (fun Γ B q => ?_)
  unfold m_X11_refusal at hm
  refine XW.bk B [(0, .iload_n 1)] (by decide +kernel) (pc1 := 1) (ls1 := [some (aR 0 0), some (aI x1), some (aI x2)]) (st1 := [aI x1]) (σ1 := σ) (P := []) rfl trivial ?_
  refine XW.callS B (M := M_X11_isShelf) (as := [aI x1]) (c_X11_isShelf x1 σ rfl) (by decide) wS_X11_isShelf wN_X11_isShelf lk_X11_105 rfl (Nat.le_of_ble_eq_true rfl) (by decide +kernel) ?_
  refine XW.bn B [] (by decide +kernel) (pc1 := 4) (ls1 := [some (aR 0 0), some (aI x1), some (aI x2)]) (st1 := [aI (m_X11_isShelf x1)]) (σ1 := σ) (P := []) (i := .ifCond .ne 5) (tgt := 9) (q := (m_X11_isShelf x1) = (0 : Int32)) rfl trivial (by decide +kernel) rfl (by decide) (fun h1 => ?_) (fun h1 => ?_)
  · rw [if_pos h1] at hm
    refine XW.bk B [(7, .iconst (-1))] (by decide +kernel) (pc1 := 8) (ls1 := [some (aR 0 0), some (aI x1), some (aI x2)]) (st1 := [aI (-1 : Int32)]) (σ1 := σ) (P := []) rfl trivial ?_
    obtain rfl := Option.some.inj hm
    exact XW.iret B q (by decide +kernel)
  · rw [if_neg h1] at hm
    refine XW.bk B [(9, .aload_n 0), (10, .getfield 51), (13, .iload_n 1)] (by decide +kernel) (pc1 := 14) (ls1 := [some (aR 0 0), some (aI x1), some (aI x2)]) (st1 := [aI x1, aR 14 0]) (σ1 := σ) (P := []) rfl trivial ?_
    by_cases g2 : x1 < 0 ∨ 6 ≤ x1.toNatClampNeg
    · rw [if_pos g2] at hm; cases hm
    rw [if_neg g2] at hm
    refine XW.bb B [(14, .iaload)] (by decide +kernel) (pc1 := 15) (ls1 := [some (aR 0 0), some (aI x1), some (aI x2)]) (st1 := [aI (σ.2.1 14 0 x1.toNatClampNeg)]) (σ1 := σ) (P := [vp_in x1 6]) (i := .ifCond .ge 6) (tgt := 21) (q := (0 : Int32) ≤ (σ.2.1 14 0 x1.toNatClampNeg)) rfl ⟨g2, trivial⟩ (by decide +kernel) rfl (by decide) (fun h3 => ?_) (fun h3 => ?_)
    · rw [if_pos h3] at hm
      refine XW.bb B [(21, .aload_n 0), (22, .getfield 51), (25, .iload_n 1), (26, .iaload), (27, .bipush 50)] (by decide +kernel) (pc1 := 29) (ls1 := [some (aR 0 0), some (aI x1), some (aI x2)]) (st1 := [aI (50 : Int32), aI (σ.2.1 14 0 x1.toNatClampNeg)]) (σ1 := σ) (P := [vp_in x1 6]) (i := .if_icmp .ge 6) (tgt := 35) (q := (50 : Int32) ≤ (σ.2.1 14 0 x1.toNatClampNeg)) rfl ⟨g2, trivial⟩ (by decide +kernel) rfl (by decide) (fun h4 => ?_) (fun h4 => ?_)
      · rw [if_pos h4] at hm
        refine XW.bb B [(35, .iload_n 2)] (by decide +kernel) (pc1 := 36) (ls1 := [some (aR 0 0), some (aI x1), some (aI x2)]) (st1 := [aI x2]) (σ1 := σ) (P := []) (i := .ifCond .lt 17) (tgt := 53) (q := x2 < (0 : Int32)) rfl trivial (by decide +kernel) rfl (by decide) (fun h5 => ?_) (fun h5 => ?_)
        · rw [if_pos h5] at hm
          refine XW.bk B [(53, .bipush (-13))] (by decide +kernel) (pc1 := 55) (ls1 := [some (aR 0 0), some (aI x1), some (aI x2)]) (st1 := [aI (-13 : Int32)]) (σ1 := σ) (P := []) rfl trivial ?_
          obtain rfl := Option.some.inj hm
          exact XW.iret B q (by decide +kernel)
        · rw [if_neg h5] at hm
          refine XW.bb B [(39, .iload_n 2), (40, .aload_n 0), (41, .getfield 54), (44, .iload_n 1), (45, .iaload)] (by decide +kernel) (pc1 := 46) (ls1 := [some (aR 0 0), some (aI x1), some (aI x2)]) (st1 := [aI (σ.2.1 15 0 x1.toNatClampNeg), aI x2]) (σ1 := σ) (P := [vp_in x1 6]) (i := .if_icmp .ge 7) (tgt := 53) (q := (σ.2.1 15 0 x1.toNatClampNeg) ≤ x2) rfl ⟨g2, trivial⟩ (by decide +kernel) rfl (by decide) (fun h6 => ?_) (fun h6 => ?_)
          · rw [if_pos h6] at hm
            refine XW.bk B [(53, .bipush (-13))] (by decide +kernel) (pc1 := 55) (ls1 := [some (aR 0 0), some (aI x1), some (aI x2)]) (st1 := [aI (-13 : Int32)]) (σ1 := σ) (P := []) rfl trivial ?_
            obtain rfl := Option.some.inj hm
            exact XW.iret B q (by decide +kernel)
          · rw [if_neg h6] at hm
            refine XW.bk B [(49, .iconst 0), (50, .goto 5)] (by decide +kernel) (pc1 := 55) (ls1 := [some (aR 0 0), some (aI x1), some (aI x2)]) (st1 := [aI (0 : Int32)]) (σ1 := σ) (P := []) rfl trivial ?_
            obtain rfl := Option.some.inj hm
            exact XW.iret B q (by decide +kernel)
      · rw [if_neg h4] at hm
        refine XW.bk B [(32, .bipush (-12))] (by decide +kernel) (pc1 := 34) (ls1 := [some (aR 0 0), some (aI x1), some (aI x2)]) (st1 := [aI (-12 : Int32)]) (σ1 := σ) (P := []) rfl trivial ?_
        obtain rfl := Option.some.inj hm
        exact XW.iret B q (by decide +kernel)
    · rw [if_neg h3] at hm
      refine XW.bk B [(18, .bipush (-11))] (by decide +kernel) (pc1 := 20) (ls1 := [some (aR 0 0), some (aI x1), some (aI x2)]) (st1 := [aI (-11 : Int32)]) (σ1 := σ) (P := []) rfl trivial ?_
      obtain rfl := Option.some.inj hm
      exact XW.iret B q (by decide +kernel)

def m_X11_asSort (x1 : Int32) (x2 : Int64) : Int64 :=
  if x1 = (0 : Int32) then
    x2.toInt32.toInt8.toInt32.toInt64
  else
  if x1 = (1 : Int32) then
    x2.toInt32.toInt16.toInt32.toInt64
  else
  if x1 = (2 : Int32) then
    x2.toInt32.toInt64
  else
  if x1 = (4 : Int32) then
    if lg_cmp x2 (0 : Int64) = (0 : Int32) then
      (0 : Int64)
    else
    (1 : Int64)
  else
  x2
set_option maxRecDepth 100000 in
set_option maxHeartbeats 4000000 in
theorem c_X11_asSort (x1 : Int32) (x2 : Int64) (σ : SS) {r : Int64} (hm : m_X11_asSort x1 x2 = r) : XM LM 1 M_X11_asSort [aI x1, aJ x2] σ (some (aJ r)) σ := by
  refine XM.of (K := K11) (by decide) (by decide +kernel) K11_ok (Nat.le_of_ble_eq_true rfl) (fun Γ B q => ?_)
  unfold m_X11_asSort at hm
  refine XW.bn B [(0, .iload_n 0)] (by decide +kernel) (pc1 := 1) (ls1 := [some (aI x1), some (aJ x2), none]) (st1 := [aI x1]) (σ1 := σ) (P := []) (i := .ifCond .ne 10) (tgt := 11) (q := x1 = (0 : Int32)) rfl trivial (by decide +kernel) rfl (by decide) (fun h1 => ?_) (fun h1 => ?_)
  · rw [if_pos h1] at hm
    refine XW.bk B [(4, .lload_n 1), (5, .l2i), (6, .i2b), (7, .i2l), (8, .goto 46)] (by decide +kernel) (pc1 := 54) (ls1 := [some (aI x1), some (aJ x2), none]) (st1 := [aJ x2.toInt32.toInt8.toInt32.toInt64]) (σ1 := σ) (P := []) rfl trivial ?_
    subst hm
    exact XW.lret B q (by decide +kernel)
  · rw [if_neg h1] at hm
    refine XW.bn B [(11, .iload_n 0), (12, .iconst 1)] (by decide +kernel) (pc1 := 13) (ls1 := [some (aI x1), some (aJ x2), none]) (st1 := [aI (1 : Int32), aI x1]) (σ1 := σ) (P := []) (i := .if_icmp .ne 10) (tgt := 23) (q := x1 = (1 : Int32)) rfl trivial (by decide +kernel) rfl (by decide) (fun h2 => ?_) (fun h2 => ?_)
    · rw [if_pos h2] at hm
      refine XW.bk B [(16, .lload_n 1), (17, .l2i), (18, .i2s), (19, .i2l), (20, .goto 34)] (by decide +kernel) (pc1 := 54) (ls1 := [some (aI x1), some (aJ x2), none]) (st1 := [aJ x2.toInt32.toInt16.toInt32.toInt64]) (σ1 := σ) (P := []) rfl trivial ?_
      subst hm
      exact XW.lret B q (by decide +kernel)
    · rw [if_neg h2] at hm
      refine XW.bn B [(23, .iload_n 0), (24, .iconst 2)] (by decide +kernel) (pc1 := 25) (ls1 := [some (aI x1), some (aJ x2), none]) (st1 := [aI (2 : Int32), aI x1]) (σ1 := σ) (P := []) (i := .if_icmp .ne 9) (tgt := 34) (q := x1 = (2 : Int32)) rfl trivial (by decide +kernel) rfl (by decide) (fun h3 => ?_) (fun h3 => ?_)
      · rw [if_pos h3] at hm
        refine XW.bk B [(28, .lload_n 1), (29, .l2i), (30, .i2l), (31, .goto 23)] (by decide +kernel) (pc1 := 54) (ls1 := [some (aI x1), some (aJ x2), none]) (st1 := [aJ x2.toInt32.toInt64]) (σ1 := σ) (P := []) rfl trivial ?_
        subst hm
        exact XW.lret B q (by decide +kernel)
      · rw [if_neg h3] at hm
        refine XW.bn B [(34, .iload_n 0), (35, .iconst 4)] (by decide +kernel) (pc1 := 36) (ls1 := [some (aI x1), some (aJ x2), none]) (st1 := [aI (4 : Int32), aI x1]) (σ1 := σ) (P := []) (i := .if_icmp .ne 17) (tgt := 53) (q := x1 = (4 : Int32)) rfl trivial (by decide +kernel) rfl (by decide) (fun h4 => ?_) (fun h4 => ?_)
        · rw [if_pos h4] at hm
          refine XW.bb B [(39, .lload_n 1), (40, .lconst 0), (41, .lcmp)] (by decide +kernel) (pc1 := 42) (ls1 := [some (aI x1), some (aJ x2), none]) (st1 := [aI (lg_cmp x2 (0 : Int64))]) (σ1 := σ) (P := []) (i := .ifCond .eq 7) (tgt := 49) (q := lg_cmp x2 (0 : Int64) = (0 : Int32)) rfl trivial (by decide +kernel) rfl (by decide) (fun h5 => ?_) (fun h5 => ?_)
          · rw [if_pos h5] at hm
            refine XW.bk B [(49, .lconst 0), (50, .goto 4)] (by decide +kernel) (pc1 := 54) (ls1 := [some (aI x1), some (aJ x2), none]) (st1 := [aJ (0 : Int64)]) (σ1 := σ) (P := []) rfl trivial ?_
            subst hm
            exact XW.lret B q (by decide +kernel)
          · rw [if_neg h5] at hm
            refine XW.bk B [(45, .lconst 1), (46, .goto 8)] (by decide +kernel) (pc1 := 54) (ls1 := [some (aI x1), some (aJ x2), none]) (st1 := [aJ (1 : Int64)]) (σ1 := σ) (P := []) rfl trivial ?_
            subst hm
            exact XW.lret B q (by decide +kernel)
        · rw [if_neg h4] at hm
          refine XW.bk B [(53, .lload_n 1)] (by decide +kernel) (pc1 := 54) (ls1 := [some (aI x1), some (aJ x2), none]) (st1 := [aJ x2]) (σ1 := σ) (P := []) rfl trivial ?_
          subst hm
          exact XW.lret B q (by decide +kernel)

def m_X11_put (x1 : Int32) (x2 : Int32) (x3 : Int64) (σ : SS) : Option (Int32 × SS) :=
  Option.bind (m_X11_refusal x1 x2 σ) (fun q1 =>
  if q1 = (0 : Int32) then
    if x1 < 0 ∨ 6 ≤ x1.toNatClampNeg then none else
    if (((60 : Int32) * x1) + x2) < 0 ∨ 360 ≤ (((60 : Int32) * x1) + x2).toNatClampNeg then none else
    some ((1 : Int32), (sL σ 16 0 (((60 : Int32) * x1) + x2).toNatClampNeg (m_X11_asSort ((σ.2.1 14 0 x1.toNatClampNeg) - (50 : Int32)) x3)))
  else
  some (q1, σ))
set_option maxRecDepth 100000 in
set_option maxHeartbeats 4000000 in
theorem c_X11_put (x1 : Int32) (x2 : Int32) (x3 : Int64) (σ : SS) {r : Int32} {σ' : SS} (hm : m_X11_put x1 x2 x3 σ = some (r, σ')) : XM LM 4 M_X11_put [aR 0 0, aI x1, aI x2, aJ x3] σ (some (aI r)) σ' := by
  refine XM.of (K := K11) (by decide) (by decide +kernel) K11_ok (Nat.le_of_ble_eq_true rfl) (fun Γ B q => ?_)
  unfold m_X11_put at hm
  refine XW.bk B [(0, .aload_n 0), (1, .iload_n 1), (2, .iload_n 2)] (by decide +kernel) (pc1 := 3) (ls1 := [some (aR 0 0), some (aI x1), some (aI x2), some (aJ x3), none, none]) (st1 := [aI x2, aI x1, aR 0 0]) (σ1 := σ) (P := []) rfl trivial ?_
  obtain ⟨q1, hq1, hm⟩ := obind_eq hm
  refine XW.callV B (M := M_X11_refusal) (t := 0) (j := 0) (cn := 1) (as := [aI x1, aI x2]) (c_X11_refusal x1 x2 σ hq1) (by decide) wV_X11_refusal wN_X11_refusal lk_X11_345 rfl rfl rfl (by decide) rfl (Nat.le_of_ble_eq_true rfl) (by decide +kernel) ?_
  refine XW.bn B [(6, .istore 5), (8, .iload 5)] (by decide +kernel) (pc1 := 10) (ls1 := [some (aR 0 0), some (aI x1), some (aI x2), some (aJ x3), none, some (aI q1)]) (st1 := [aI q1]) (σ1 := σ) (P := []) (i := .ifCond .ne 27) (tgt := 37) (q := q1 = (0 : Int32)) rfl trivial (by decide +kernel) rfl (by decide) (fun h2 => ?_) (fun h2 => ?_)
  · rw [if_pos h2] at hm
    refine XW.bk B [(13, .aload_n 0), (14, .getfield 57), (17, .bipush 60), (19, .iload_n 1), (20, .imul), (21, .iload_n 2), (22, .iadd), (23, .aload_n 0), (24, .getfield 51), (27, .iload_n 1)] (by decide +kernel) (pc1 := 28) (ls1 := [some (aR 0 0), some (aI x1), some (aI x2), some (aJ x3), none, some (aI q1)]) (st1 := [aI x1, aR 14 0, aI (((60 : Int32) * x1) + x2), aR 16 0]) (σ1 := σ) (P := []) rfl trivial ?_
    by_cases g3 : x1 < 0 ∨ 6 ≤ x1.toNatClampNeg
    · rw [if_pos g3] at hm; cases hm
    rw [if_neg g3] at hm
    refine XW.bk B [(28, .iaload), (29, .bipush 50), (31, .isub), (32, .lload_n 3)] (by decide +kernel) (pc1 := 33) (ls1 := [some (aR 0 0), some (aI x1), some (aI x2), some (aJ x3), none, some (aI q1)]) (st1 := [aJ x3, aI ((σ.2.1 14 0 x1.toNatClampNeg) - (50 : Int32)), aI (((60 : Int32) * x1) + x2), aR 16 0]) (σ1 := σ) (P := [vp_in x1 6]) rfl ⟨g3, trivial⟩ ?_
    refine XW.callS B (M := M_X11_asSort) (as := [aI ((σ.2.1 14 0 x1.toNatClampNeg) - (50 : Int32)), aJ x3]) (c_X11_asSort ((σ.2.1 14 0 x1.toNatClampNeg) - (50 : Int32)) x3 σ rfl) (by decide) wS_X11_asSort wN_X11_asSort lk_X11_348 rfl (Nat.le_of_ble_eq_true rfl) (by decide +kernel) ?_
    by_cases g4 : (((60 : Int32) * x1) + x2) < 0 ∨ 360 ≤ (((60 : Int32) * x1) + x2).toNatClampNeg
    · rw [if_pos g4] at hm; cases hm
    rw [if_neg g4] at hm
    refine XW.bn B [(36, .lastore), (37, .iload 5)] (by decide +kernel) (pc1 := 39) (ls1 := [some (aR 0 0), some (aI x1), some (aI x2), some (aJ x3), none, some (aI q1)]) (st1 := [aI q1]) (σ1 := (sL σ 16 0 (((60 : Int32) * x1) + x2).toNatClampNeg (m_X11_asSort ((σ.2.1 14 0 x1.toNatClampNeg) - (50 : Int32)) x3))) (P := [vp_in (((60 : Int32) * x1) + x2) 360]) (i := .ifCond .ne 7) (tgt := 46) (q := q1 = (0 : Int32)) rfl ⟨g4, trivial⟩ (by decide +kernel) rfl (by decide) (fun _ => ?_) (fun h => absurd h2 h)
    refine XW.bk B [(42, .iconst 1), (43, .goto 5)] (by decide +kernel) (pc1 := 48) (ls1 := [some (aR 0 0), some (aI x1), some (aI x2), some (aJ x3), none, some (aI q1)]) (st1 := [aI (1 : Int32)]) (σ1 := (sL σ 16 0 (((60 : Int32) * x1) + x2).toNatClampNeg (m_X11_asSort ((σ.2.1 14 0 x1.toNatClampNeg) - (50 : Int32)) x3))) (P := []) rfl trivial ?_
    obtain ⟨rfl, rfl⟩ := Prod.mk.inj (Option.some.inj hm)
    exact XW.iret B q (by decide +kernel)
  · rw [if_neg h2] at hm
    refine XW.bn B [(37, .iload 5)] (by decide +kernel) (pc1 := 39) (ls1 := [some (aR 0 0), some (aI x1), some (aI x2), some (aJ x3), none, some (aI q1)]) (st1 := [aI q1]) (σ1 := σ) (P := []) (i := .ifCond .ne 7) (tgt := 46) (q := q1 = (0 : Int32)) rfl trivial (by decide +kernel) rfl (by decide) (fun h => absurd h h2) (fun _ => ?_)
    refine XW.bk B [(46, .iload 5)] (by decide +kernel) (pc1 := 48) (ls1 := [some (aR 0 0), some (aI x1), some (aI x2), some (aJ x3), none, some (aI q1)]) (st1 := [aI q1]) (σ1 := σ) (P := []) rfl trivial ?_
    obtain ⟨rfl, rfl⟩ := Prod.mk.inj (Option.some.inj hm)
    exact XW.iret B q (by decide +kernel)

def m_X11_element (x1 : Int32) (x2 : Int32) (σ : SS) : Option (Int64) :=
  Option.bind (m_X11_refusal x1 x2 σ) (fun q1 =>
  if q1 = (0 : Int32) then
    if (((60 : Int32) * x1) + x2) < 0 ∨ 360 ≤ (((60 : Int32) * x1) + x2).toNatClampNeg then none else
    some (σ.2.2 16 0 (((60 : Int32) * x1) + x2).toNatClampNeg)
  else
  some (-9223372036854775808 : Int64))
set_option maxRecDepth 100000 in
set_option maxHeartbeats 4000000 in
theorem c_X11_element (x1 : Int32) (x2 : Int32) (σ : SS) {r : Int64} (hm : m_X11_element x1 x2 σ = some r) : XM LM 4 M_X11_element [aR 0 0, aI x1, aI x2] σ (some (aJ r)) σ := by
  refine XM.of (K := K11) (by decide) (by decide +kernel) K11_ok (Nat.le_of_ble_eq_true rfl) (fun Γ B q => ?_)
  unfold m_X11_element at hm
  refine XW.bk B [(0, .aload_n 0), (1, .iload_n 1), (2, .iload_n 2)] (by decide +kernel) (pc1 := 3) (ls1 := [some (aR 0 0), some (aI x1), some (aI x2)]) (st1 := [aI x2, aI x1, aR 0 0]) (σ1 := σ) (P := []) rfl trivial ?_
  obtain ⟨q1, hq1, hm⟩ := obind_eq hm
  refine XW.callV B (M := M_X11_refusal) (t := 0) (j := 0) (cn := 1) (as := [aI x1, aI x2]) (c_X11_refusal x1 x2 σ hq1) (by decide) wV_X11_refusal wN_X11_refusal lk_X11_345 rfl rfl rfl (by decide) rfl (Nat.le_of_ble_eq_true rfl) (by decide +kernel) ?_
  refine XW.bb B [] (by decide +kernel) (pc1 := 6) (ls1 := [some (aR 0 0), some (aI x1), some (aI x2)]) (st1 := [aI q1]) (σ1 := σ) (P := []) (i := .ifCond .eq 9) (tgt := 15) (q := q1 = (0 : Int32)) rfl trivial (by decide +kernel) rfl (by decide) (fun h2 => ?_) (fun h2 => ?_)
  · rw [if_pos h2] at hm
    refine XW.bk B [(15, .aload_n 0), (16, .getfield 57), (19, .bipush 60), (21, .iload_n 1), (22, .imul), (23, .iload_n 2), (24, .iadd)] (by decide +kernel) (pc1 := 25) (ls1 := [some (aR 0 0), some (aI x1), some (aI x2)]) (st1 := [aI (((60 : Int32) * x1) + x2), aR 16 0]) (σ1 := σ) (P := []) rfl trivial ?_
    by_cases g3 : (((60 : Int32) * x1) + x2) < 0 ∨ 360 ≤ (((60 : Int32) * x1) + x2).toNatClampNeg
    · rw [if_pos g3] at hm; cases hm
    rw [if_neg g3] at hm
    refine XW.bk B [(25, .laload)] (by decide +kernel) (pc1 := 26) (ls1 := [some (aR 0 0), some (aI x1), some (aI x2)]) (st1 := [aJ (σ.2.2 16 0 (((60 : Int32) * x1) + x2).toNatClampNeg)]) (σ1 := σ) (P := [vp_in (((60 : Int32) * x1) + x2) 360]) rfl ⟨g3, trivial⟩ ?_
    obtain rfl := Option.some.inj hm
    exact XW.lret B q (by decide +kernel)
  · rw [if_neg h2] at hm
    refine XW.bk B [(9, .ldc2_w 239), (12, .goto 14)] (by decide +kernel) (pc1 := 26) (ls1 := [some (aR 0 0), some (aI x1), some (aI x2)]) (st1 := [aJ (-9223372036854775808 : Int64)]) (σ1 := σ) (P := []) rfl trivial ?_
    obtain rfl := Option.some.inj hm
    exact XW.lret B q (by decide +kernel)

def L_X11_shift_150 : Nat → Int32 → Int32 → Int32 → Int32 → SS → Option (Int32 × SS)
  | 0, _, _, _, _, _ => none
  | n + 1, v3, v4, v5, v6, σ =>
    if v5 ≤ v6 then
      some (v5, σ)
    else
    if v6 < 0 ∨ 60 ≤ v6.toNatClampNeg then none else
    if ((((60 : Int32) * v3) + v4) + v6) < 0 ∨ 360 ≤ ((((60 : Int32) * v3) + v4) + v6).toNatClampNeg then none else
    L_X11_shift_150 n v3 v4 v5 (v6 + (1 : Int32)) (sL σ 16 0 ((((60 : Int32) * v3) + v4) + v6).toNatClampNeg (σ.2.2 17 0 v6.toNatClampNeg))
def L_X11_shift_113 : Nat → Int32 → Int32 → Int32 → Int32 → Int32 → Int32 → SS → Option (Int32 × SS)
  | 0, _, _, _, _, _, _, _ => none
  | n + 1, v1, v2, v3, v4, v5, v6, σ =>
    if v5 ≤ v6 then
      L_X11_shift_150 FU v3 v4 v5 (0 : Int32) σ
    else
    if ((((60 : Int32) * v1) + v2) + v6) < 0 ∨ 360 ≤ ((((60 : Int32) * v1) + v2) + v6).toNatClampNeg then none else
    if v6 < 0 ∨ 60 ≤ v6.toNatClampNeg then none else
    L_X11_shift_113 n v1 v2 v3 v4 v5 (v6 + (1 : Int32)) (sL σ 17 0 v6.toNatClampNeg (σ.2.2 16 0 ((((60 : Int32) * v1) + v2) + v6).toNatClampNeg))
def m_X11_shift (x1 : Int32) (x2 : Int32) (x3 : Int32) (x4 : Int32) (x5 : Int32) (σ : SS) : Option (Int32 × SS) :=
  if (m_X11_isShelf x1) = (0 : Int32) then
    some ((-1 : Int32), σ)
  else
  if (m_X11_isShelf x3) = (0 : Int32) then
    some ((-1 : Int32), σ)
  else
  if x1 < 0 ∨ 6 ≤ x1.toNatClampNeg then none else
  if (σ.2.1 14 0 x1.toNatClampNeg) < (0 : Int32) then
    some ((-11 : Int32), σ)
  else
  if x3 < 0 ∨ 6 ≤ x3.toNatClampNeg then none else
  if (0 : Int32) ≤ (σ.2.1 14 0 x3.toNatClampNeg) then
    if (σ.2.1 14 0 x1.toNatClampNeg) < (50 : Int32) then
      some ((-12 : Int32), σ)
    else
    if (σ.2.1 14 0 x1.toNatClampNeg) = (σ.2.1 14 0 x3.toNatClampNeg) then
      if x5 < (0 : Int32) then
        some ((-13 : Int32), σ)
      else
      if x2 < (0 : Int32) then
        some ((-13 : Int32), σ)
      else
      if x4 < (0 : Int32) then
        some ((-13 : Int32), σ)
      else
      if ((σ.2.1 15 0 x1.toNatClampNeg) - x5) < x2 then
        some ((-13 : Int32), σ)
      else
      if x4 ≤ ((σ.2.1 15 0 x3.toNatClampNeg) - x5) then
        L_X11_shift_113 FU x1 x2 x3 x4 x5 (0 : Int32) σ
      else
      some ((-13 : Int32), σ)
    else
    some ((-12 : Int32), σ)
  else
  some ((-11 : Int32), σ)
set_option maxRecDepth 100000 in
set_option maxHeartbeats 4000000 in
theorem lp_X11_shift_150 {Γ : XC} {r : Int32} {σ' : SS} (B : XB Γ cX11_shift RX11 3 K11 LM 7) (q : XQ Γ (some .int) (some (aI r)) σ') : ∀ (n : Nat) (v3 : Int32) (v4 : Int32) (v5 : Int32) (v6 : Int32) (σ : SS), L_X11_shift_150 n v3 v4 v5 v6 σ = some (r, σ') → XW Γ 150 [some (aR 0 0), none, none, some (aI v3), some (aI v4), some (aI v5), some (aI v6)] [] σ := by
  intro n
  induction n with
  | zero => intro v3 v4 v5 v6 σ hm; cases hm
  | succ n ih =>
    intro v3 v4 v5 v6 σ hm
    rw [L_X11_shift_150] at hm
    refine XW.bb B [(150, .iload 6), (152, .iload 5)] (by decide +kernel) (pc1 := 154) (ls1 := [some (aR 0 0), none, none, some (aI v3), some (aI v4), some (aI v5), some (aI v6)]) (st1 := [aI v5, aI v6]) (σ1 := σ) (P := []) (i := .if_icmp .ge 31) (tgt := 185) (q := v5 ≤ v6) rfl trivial (by decide +kernel) rfl (by decide) (fun h15 => ?_) (fun h15 => ?_)
    · rw [if_pos h15] at hm
      refine XW.bk B [(185, .iload 5)] (by decide +kernel) (pc1 := 187) (ls1 := [some (aR 0 0), none, none, some (aI v3), some (aI v4), some (aI v5), some (aI v6)]) (st1 := [aI v5]) (σ1 := σ) (P := []) rfl trivial ?_
      obtain ⟨rfl, rfl⟩ := Prod.mk.inj (Option.some.inj hm)
      exact XW.iret B q (by decide +kernel)
    · rw [if_neg h15] at hm
      refine XW.bk B [(157, .aload_n 0), (158, .getfield 57), (161, .bipush 60), (163, .iload_n 3), (164, .imul), (165, .iload 4), (167, .iadd), (168, .iload 6), (170, .iadd), (171, .aload_n 0), (172, .getfield 61), (175, .iload 6)] (by decide +kernel) (pc1 := 177) (ls1 := [some (aR 0 0), none, none, some (aI v3), some (aI v4), some (aI v5), some (aI v6)]) (st1 := [aI v6, aR 17 0, aI ((((60 : Int32) * v3) + v4) + v6), aR 16 0]) (σ1 := σ) (P := []) rfl trivial ?_
      by_cases g16 : v6 < 0 ∨ 60 ≤ v6.toNatClampNeg
      · rw [if_pos g16] at hm; cases hm
      rw [if_neg g16] at hm
      refine XW.bk B [(177, .laload)] (by decide +kernel) (pc1 := 178) (ls1 := [some (aR 0 0), none, none, some (aI v3), some (aI v4), some (aI v5), some (aI v6)]) (st1 := [aJ (σ.2.2 17 0 v6.toNatClampNeg), aI ((((60 : Int32) * v3) + v4) + v6), aR 16 0]) (σ1 := σ) (P := [vp_in v6 60]) rfl ⟨g16, trivial⟩ ?_
      by_cases g17 : ((((60 : Int32) * v3) + v4) + v6) < 0 ∨ 360 ≤ ((((60 : Int32) * v3) + v4) + v6).toNatClampNeg
      · rw [if_pos g17] at hm; cases hm
      rw [if_neg g17] at hm
      refine XW.bk B [(178, .lastore), (179, .iinc 6 1), (182, .goto (-32))] (by decide +kernel) (pc1 := 150) (ls1 := [some (aR 0 0), none, none, some (aI v3), some (aI v4), some (aI v5), some (aI (v6 + (1 : Int32)))]) (st1 := []) (σ1 := (sL σ 16 0 ((((60 : Int32) * v3) + v4) + v6).toNatClampNeg (σ.2.2 17 0 v6.toNatClampNeg))) (P := [vp_in ((((60 : Int32) * v3) + v4) + v6) 360]) rfl ⟨g17, trivial⟩ ?_
      exact ih v3 v4 v5 (v6 + (1 : Int32)) (sL σ 16 0 ((((60 : Int32) * v3) + v4) + v6).toNatClampNeg (σ.2.2 17 0 v6.toNatClampNeg)) hm
set_option maxRecDepth 100000 in
set_option maxHeartbeats 4000000 in
theorem lp_X11_shift_113 {Γ : XC} {r : Int32} {σ' : SS} (B : XB Γ cX11_shift RX11 3 K11 LM 7) (q : XQ Γ (some .int) (some (aI r)) σ') : ∀ (n : Nat) (v1 : Int32) (v2 : Int32) (v3 : Int32) (v4 : Int32) (v5 : Int32) (v6 : Int32) (σ : SS), L_X11_shift_113 n v1 v2 v3 v4 v5 v6 σ = some (r, σ') → XW Γ 113 [some (aR 0 0), some (aI v1), some (aI v2), some (aI v3), some (aI v4), some (aI v5), some (aI v6)] [] σ := by
  intro n
  induction n with
  | zero => intro v1 v2 v3 v4 v5 v6 σ hm; cases hm
  | succ n ih =>
    intro v1 v2 v3 v4 v5 v6 σ hm
    rw [L_X11_shift_113] at hm
    refine XW.bb B [(113, .iload 6), (115, .iload 5)] (by decide +kernel) (pc1 := 117) (ls1 := [some (aR 0 0), some (aI v1), some (aI v2), some (aI v3), some (aI v4), some (aI v5), some (aI v6)]) (st1 := [aI v5, aI v6]) (σ1 := σ) (P := []) (i := .if_icmp .ge 30) (tgt := 147) (q := v5 ≤ v6) rfl trivial (by decide +kernel) rfl (by decide) (fun h14 => ?_) (fun h14 => ?_)
    · rw [if_pos h14] at hm
      refine XW.bk B [(147, .iconst 0), (148, .istore 6)] (by decide +kernel) (pc1 := 150) (ls1 := [some (aR 0 0), some (aI v1), some (aI v2), some (aI v3), some (aI v4), some (aI v5), some (aI (0 : Int32))]) (st1 := []) (σ1 := σ) (P := []) rfl trivial ?_
      refine XW.loc [true, false, false, true, true, true, true] rfl ?_
      exact lp_X11_shift_150 B q FU v3 v4 v5 (0 : Int32) σ hm
    · rw [if_neg h14] at hm
      refine XW.bk B [(120, .aload_n 0), (121, .getfield 61), (124, .iload 6), (126, .aload_n 0), (127, .getfield 57), (130, .bipush 60), (132, .iload_n 1), (133, .imul), (134, .iload_n 2), (135, .iadd), (136, .iload 6), (138, .iadd)] (by decide +kernel) (pc1 := 139) (ls1 := [some (aR 0 0), some (aI v1), some (aI v2), some (aI v3), some (aI v4), some (aI v5), some (aI v6)]) (st1 := [aI ((((60 : Int32) * v1) + v2) + v6), aR 16 0, aI v6, aR 17 0]) (σ1 := σ) (P := []) rfl trivial ?_
      by_cases g18 : ((((60 : Int32) * v1) + v2) + v6) < 0 ∨ 360 ≤ ((((60 : Int32) * v1) + v2) + v6).toNatClampNeg
      · rw [if_pos g18] at hm; cases hm
      rw [if_neg g18] at hm
      refine XW.bk B [(139, .laload)] (by decide +kernel) (pc1 := 140) (ls1 := [some (aR 0 0), some (aI v1), some (aI v2), some (aI v3), some (aI v4), some (aI v5), some (aI v6)]) (st1 := [aJ (σ.2.2 16 0 ((((60 : Int32) * v1) + v2) + v6).toNatClampNeg), aI v6, aR 17 0]) (σ1 := σ) (P := [vp_in ((((60 : Int32) * v1) + v2) + v6) 360]) rfl ⟨g18, trivial⟩ ?_
      by_cases g19 : v6 < 0 ∨ 60 ≤ v6.toNatClampNeg
      · rw [if_pos g19] at hm; cases hm
      rw [if_neg g19] at hm
      refine XW.bk B [(140, .lastore), (141, .iinc 6 1), (144, .goto (-31))] (by decide +kernel) (pc1 := 113) (ls1 := [some (aR 0 0), some (aI v1), some (aI v2), some (aI v3), some (aI v4), some (aI v5), some (aI (v6 + (1 : Int32)))]) (st1 := []) (σ1 := (sL σ 17 0 v6.toNatClampNeg (σ.2.2 16 0 ((((60 : Int32) * v1) + v2) + v6).toNatClampNeg))) (P := [vp_in v6 60]) rfl ⟨g19, trivial⟩ ?_
      exact ih v1 v2 v3 v4 v5 (v6 + (1 : Int32)) (sL σ 17 0 v6.toNatClampNeg (σ.2.2 16 0 ((((60 : Int32) * v1) + v2) + v6).toNatClampNeg)) hm
set_option maxRecDepth 100000 in
set_option maxHeartbeats 4000000 in
theorem c_X11_shift (x1 : Int32) (x2 : Int32) (x3 : Int32) (x4 : Int32) (x5 : Int32) (σ : SS) {r : Int32} {σ' : SS} (hm : m_X11_shift x1 x2 x3 x4 x5 σ = some (r, σ')) : XM LM 3 M_X11_shift [aR 0 0, aI x1, aI x2, aI x3, aI x4, aI x5] σ (some (aI r)) σ' := by
  refine XM.of (K := K11) (by decide) (by decide +kernel) K11_ok (Nat.le_of_ble_eq_true rfl) (fun Γ B q => ?_)
  unfold m_X11_shift at hm
  refine XW.bk B [(0, .iload_n 1)] (by decide +kernel) (pc1 := 1) (ls1 := [some (aR 0 0), some (aI x1), some (aI x2), some (aI x3), some (aI x4), some (aI x5), none]) (st1 := [aI x1]) (σ1 := σ) (P := []) rfl trivial ?_
  refine XW.callS B (M := M_X11_isShelf) (as := [aI x1]) (c_X11_isShelf x1 σ rfl) (by decide) wS_X11_isShelf wN_X11_isShelf lk_X11_105 rfl (Nat.le_of_ble_eq_true rfl) (by decide +kernel) ?_
  refine XW.bb B [] (by decide +kernel) (pc1 := 4) (ls1 := [some (aR 0 0), some (aI x1), some (aI x2), some (aI x3), some (aI x4), some (aI x5), none]) (st1 := [aI (m_X11_isShelf x1)]) (σ1 := σ) (P := []) (i := .ifCond .eq 10) (tgt := 14) (q := (m_X11_isShelf x1) = (0 : Int32)) rfl trivial (by decide +kernel) rfl (by decide) (fun h1 => ?_) (fun h1 => ?_)
  · rw [if_pos h1] at hm
    refine XW.bk B [(14, .iconst (-1))] (by decide +kernel) (pc1 := 15) (ls1 := [some (aR 0 0), some (aI x1), some (aI x2), some (aI x3), some (aI x4), some (aI x5), none]) (st1 := [aI (-1 : Int32)]) (σ1 := σ) (P := []) rfl trivial ?_
    obtain ⟨rfl, rfl⟩ := Prod.mk.inj (Option.some.inj hm)
    exact XW.iret B q (by decide +kernel)
  · rw [if_neg h1] at hm
    refine XW.bk B [(7, .iload_n 3)] (by decide +kernel) (pc1 := 8) (ls1 := [some (aR 0 0), some (aI x1), some (aI x2), some (aI x3), some (aI x4), some (aI x5), none]) (st1 := [aI x3]) (σ1 := σ) (P := []) rfl trivial ?_
    refine XW.callS B (M := M_X11_isShelf) (as := [aI x3]) (c_X11_isShelf x3 σ rfl) (by decide) wS_X11_isShelf wN_X11_isShelf lk_X11_105 rfl (Nat.le_of_ble_eq_true rfl) (by decide +kernel) ?_
    refine XW.bn B [] (by decide +kernel) (pc1 := 11) (ls1 := [some (aR 0 0), some (aI x1), some (aI x2), some (aI x3), some (aI x4), some (aI x5), none]) (st1 := [aI (m_X11_isShelf x3)]) (σ1 := σ) (P := []) (i := .ifCond .ne 5) (tgt := 16) (q := (m_X11_isShelf x3) = (0 : Int32)) rfl trivial (by decide +kernel) rfl (by decide) (fun h2 => ?_) (fun h2 => ?_)
    · rw [if_pos h2] at hm
      refine XW.bk B [(14, .iconst (-1))] (by decide +kernel) (pc1 := 15) (ls1 := [some (aR 0 0), some (aI x1), some (aI x2), some (aI x3), some (aI x4), some (aI x5), none]) (st1 := [aI (-1 : Int32)]) (σ1 := σ) (P := []) rfl trivial ?_
      obtain ⟨rfl, rfl⟩ := Prod.mk.inj (Option.some.inj hm)
      exact XW.iret B q (by decide +kernel)
    · rw [if_neg h2] at hm
      refine XW.bk B [(16, .aload_n 0), (17, .getfield 51), (20, .iload_n 1)] (by decide +kernel) (pc1 := 21) (ls1 := [some (aR 0 0), some (aI x1), some (aI x2), some (aI x3), some (aI x4), some (aI x5), none]) (st1 := [aI x1, aR 14 0]) (σ1 := σ) (P := []) rfl trivial ?_
      by_cases g3 : x1 < 0 ∨ 6 ≤ x1.toNatClampNeg
      · rw [if_pos g3] at hm; cases hm
      rw [if_neg g3] at hm
      refine XW.bb B [(21, .iaload)] (by decide +kernel) (pc1 := 22) (ls1 := [some (aR 0 0), some (aI x1), some (aI x2), some (aI x3), some (aI x4), some (aI x5), none]) (st1 := [aI (σ.2.1 14 0 x1.toNatClampNeg)]) (σ1 := σ) (P := [vp_in x1 6]) (i := .ifCond .lt 12) (tgt := 34) (q := (σ.2.1 14 0 x1.toNatClampNeg) < (0 : Int32)) rfl ⟨g3, trivial⟩ (by decide +kernel) rfl (by decide) (fun h4 => ?_) (fun h4 => ?_)
      · rw [if_pos h4] at hm
        refine XW.bk B [(34, .bipush (-11))] (by decide +kernel) (pc1 := 36) (ls1 := [some (aR 0 0), some (aI x1), some (aI x2), some (aI x3), some (aI x4), some (aI x5), none]) (st1 := [aI (-11 : Int32)]) (σ1 := σ) (P := []) rfl trivial ?_
        obtain ⟨rfl, rfl⟩ := Prod.mk.inj (Option.some.inj hm)
        exact XW.iret B q (by decide +kernel)
      · rw [if_neg h4] at hm
        refine XW.bk B [(25, .aload_n 0), (26, .getfield 51), (29, .iload_n 3)] (by decide +kernel) (pc1 := 30) (ls1 := [some (aR 0 0), some (aI x1), some (aI x2), some (aI x3), some (aI x4), some (aI x5), none]) (st1 := [aI x3, aR 14 0]) (σ1 := σ) (P := []) rfl trivial ?_
        by_cases g5 : x3 < 0 ∨ 6 ≤ x3.toNatClampNeg
        · rw [if_pos g5] at hm; cases hm
        rw [if_neg g5] at hm
        refine XW.bb B [(30, .iaload)] (by decide +kernel) (pc1 := 31) (ls1 := [some (aR 0 0), some (aI x1), some (aI x2), some (aI x3), some (aI x4), some (aI x5), none]) (st1 := [aI (σ.2.1 14 0 x3.toNatClampNeg)]) (σ1 := σ) (P := [vp_in x3 6]) (i := .ifCond .ge 6) (tgt := 37) (q := (0 : Int32) ≤ (σ.2.1 14 0 x3.toNatClampNeg)) rfl ⟨g5, trivial⟩ (by decide +kernel) rfl (by decide) (fun h6 => ?_) (fun h6 => ?_)
        · rw [if_pos h6] at hm
          refine XW.bb B [(37, .aload_n 0), (38, .getfield 51), (41, .iload_n 1), (42, .iaload), (43, .bipush 50)] (by decide +kernel) (pc1 := 45) (ls1 := [some (aR 0 0), some (aI x1), some (aI x2), some (aI x3), some (aI x4), some (aI x5), none]) (st1 := [aI (50 : Int32), aI (σ.2.1 14 0 x1.toNatClampNeg)]) (σ1 := σ) (P := [vp_in x1 6]) (i := .if_icmp .lt 18) (tgt := 63) (q := (σ.2.1 14 0 x1.toNatClampNeg) < (50 : Int32)) rfl ⟨g3, trivial⟩ (by decide +kernel) rfl (by decide) (fun h7 => ?_) (fun h7 => ?_)
          · rw [if_pos h7] at hm
            refine XW.bk B [(63, .bipush (-12))] (by decide +kernel) (pc1 := 65) (ls1 := [some (aR 0 0), some (aI x1), some (aI x2), some (aI x3), some (aI x4), some (aI x5), none]) (st1 := [aI (-12 : Int32)]) (σ1 := σ) (P := []) rfl trivial ?_
            obtain ⟨rfl, rfl⟩ := Prod.mk.inj (Option.some.inj hm)
            exact XW.iret B q (by decide +kernel)
          · rw [if_neg h7] at hm
            refine XW.bb B [(48, .aload_n 0), (49, .getfield 51), (52, .iload_n 1), (53, .iaload), (54, .aload_n 0), (55, .getfield 51), (58, .iload_n 3), (59, .iaload)] (by decide +kernel) (pc1 := 60) (ls1 := [some (aR 0 0), some (aI x1), some (aI x2), some (aI x3), some (aI x4), some (aI x5), none]) (st1 := [aI (σ.2.1 14 0 x3.toNatClampNeg), aI (σ.2.1 14 0 x1.toNatClampNeg)]) (σ1 := σ) (P := [vp_in x1 6, vp_in x3 6]) (i := .if_icmp .eq 6) (tgt := 66) (q := (σ.2.1 14 0 x1.toNatClampNeg) = (σ.2.1 14 0 x3.toNatClampNeg)) rfl ⟨g3, g5, trivial⟩ (by decide +kernel) rfl (by decide) (fun h8 => ?_) (fun h8 => ?_)
            · rw [if_pos h8] at hm
              refine XW.bb B [(66, .iload 5)] (by decide +kernel) (pc1 := 68) (ls1 := [some (aR 0 0), some (aI x1), some (aI x2), some (aI x3), some (aI x4), some (aI x5), none]) (st1 := [aI x5]) (σ1 := σ) (P := []) (i := .ifCond .lt 39) (tgt := 107) (q := x5 < (0 : Int32)) rfl trivial (by decide +kernel) rfl (by decide) (fun h9 => ?_) (fun h9 => ?_)
              · rw [if_pos h9] at hm
                refine XW.bk B [(107, .bipush (-13))] (by decide +kernel) (pc1 := 109) (ls1 := [some (aR 0 0), some (aI x1), some (aI x2), some (aI x3), some (aI x4), some (aI x5), none]) (st1 := [aI (-13 : Int32)]) (σ1 := σ) (P := []) rfl trivial ?_
                obtain ⟨rfl, rfl⟩ := Prod.mk.inj (Option.some.inj hm)
                exact XW.iret B q (by decide +kernel)
              · rw [if_neg h9] at hm
                refine XW.bb B [(71, .iload_n 2)] (by decide +kernel) (pc1 := 72) (ls1 := [some (aR 0 0), some (aI x1), some (aI x2), some (aI x3), some (aI x4), some (aI x5), none]) (st1 := [aI x2]) (σ1 := σ) (P := []) (i := .ifCond .lt 35) (tgt := 107) (q := x2 < (0 : Int32)) rfl trivial (by decide +kernel) rfl (by decide) (fun h10 => ?_) (fun h10 => ?_)
                · rw [if_pos h10] at hm
                  refine XW.bk B [(107, .bipush (-13))] (by decide +kernel) (pc1 := 109) (ls1 := [some (aR 0 0), some (aI x1), some (aI x2), some (aI x3), some (aI x4), some (aI x5), none]) (st1 := [aI (-13 : Int32)]) (σ1 := σ) (P := []) rfl trivial ?_
                  obtain ⟨rfl, rfl⟩ := Prod.mk.inj (Option.some.inj hm)
                  exact XW.iret B q (by decide +kernel)
                · rw [if_neg h10] at hm
                  refine XW.bb B [(75, .iload 4)] (by decide +kernel) (pc1 := 77) (ls1 := [some (aR 0 0), some (aI x1), some (aI x2), some (aI x3), some (aI x4), some (aI x5), none]) (st1 := [aI x4]) (σ1 := σ) (P := []) (i := .ifCond .lt 30) (tgt := 107) (q := x4 < (0 : Int32)) rfl trivial (by decide +kernel) rfl (by decide) (fun h11 => ?_) (fun h11 => ?_)
                  · rw [if_pos h11] at hm
                    refine XW.bk B [(107, .bipush (-13))] (by decide +kernel) (pc1 := 109) (ls1 := [some (aR 0 0), some (aI x1), some (aI x2), some (aI x3), some (aI x4), some (aI x5), none]) (st1 := [aI (-13 : Int32)]) (σ1 := σ) (P := []) rfl trivial ?_
                    obtain ⟨rfl, rfl⟩ := Prod.mk.inj (Option.some.inj hm)
                    exact XW.iret B q (by decide +kernel)
                  · rw [if_neg h11] at hm
                    refine XW.bb B [(80, .iload_n 2), (81, .aload_n 0), (82, .getfield 54), (85, .iload_n 1), (86, .iaload), (87, .iload 5), (89, .isub)] (by decide +kernel) (pc1 := 90) (ls1 := [some (aR 0 0), some (aI x1), some (aI x2), some (aI x3), some (aI x4), some (aI x5), none]) (st1 := [aI ((σ.2.1 15 0 x1.toNatClampNeg) - x5), aI x2]) (σ1 := σ) (P := [vp_in x1 6]) (i := .if_icmp .gt 17) (tgt := 107) (q := ((σ.2.1 15 0 x1.toNatClampNeg) - x5) < x2) rfl ⟨g3, trivial⟩ (by decide +kernel) rfl (by decide) (fun h12 => ?_) (fun h12 => ?_)
                    · rw [if_pos h12] at hm
                      refine XW.bk B [(107, .bipush (-13))] (by decide +kernel) (pc1 := 109) (ls1 := [some (aR 0 0), some (aI x1), some (aI x2), some (aI x3), some (aI x4), some (aI x5), none]) (st1 := [aI (-13 : Int32)]) (σ1 := σ) (P := []) rfl trivial ?_
                      obtain ⟨rfl, rfl⟩ := Prod.mk.inj (Option.some.inj hm)
                      exact XW.iret B q (by decide +kernel)
                    · rw [if_neg h12] at hm
                      refine XW.bb B [(93, .iload 4), (95, .aload_n 0), (96, .getfield 54), (99, .iload_n 3), (100, .iaload), (101, .iload 5), (103, .isub)] (by decide +kernel) (pc1 := 104) (ls1 := [some (aR 0 0), some (aI x1), some (aI x2), some (aI x3), some (aI x4), some (aI x5), none]) (st1 := [aI ((σ.2.1 15 0 x3.toNatClampNeg) - x5), aI x4]) (σ1 := σ) (P := [vp_in x3 6]) (i := .if_icmp .le 6) (tgt := 110) (q := x4 ≤ ((σ.2.1 15 0 x3.toNatClampNeg) - x5)) rfl ⟨g5, trivial⟩ (by decide +kernel) rfl (by decide) (fun h13 => ?_) (fun h13 => ?_)
                      · rw [if_pos h13] at hm
                        refine XW.bk B [(110, .iconst 0), (111, .istore 6)] (by decide +kernel) (pc1 := 113) (ls1 := [some (aR 0 0), some (aI x1), some (aI x2), some (aI x3), some (aI x4), some (aI x5), some (aI (0 : Int32))]) (st1 := []) (σ1 := σ) (P := []) rfl trivial ?_
                        exact lp_X11_shift_113 B q FU x1 x2 x3 x4 x5 (0 : Int32) σ hm
                      · rw [if_neg h13] at hm
                        refine XW.bk B [(107, .bipush (-13))] (by decide +kernel) (pc1 := 109) (ls1 := [some (aR 0 0), some (aI x1), some (aI x2), some (aI x3), some (aI x4), some (aI x5), none]) (st1 := [aI (-13 : Int32)]) (σ1 := σ) (P := []) rfl trivial ?_
                        obtain ⟨rfl, rfl⟩ := Prod.mk.inj (Option.some.inj hm)
                        exact XW.iret B q (by decide +kernel)
            · rw [if_neg h8] at hm
              refine XW.bk B [(63, .bipush (-12))] (by decide +kernel) (pc1 := 65) (ls1 := [some (aR 0 0), some (aI x1), some (aI x2), some (aI x3), some (aI x4), some (aI x5), none]) (st1 := [aI (-12 : Int32)]) (σ1 := σ) (P := []) rfl trivial ?_
              obtain ⟨rfl, rfl⟩ := Prod.mk.inj (Option.some.inj hm)
              exact XW.iret B q (by decide +kernel)
        · rw [if_neg h6] at hm
          refine XW.bk B [(34, .bipush (-11))] (by decide +kernel) (pc1 := 36) (ls1 := [some (aR 0 0), some (aI x1), some (aI x2), some (aI x3), some (aI x4), some (aI x5), none]) (st1 := [aI (-11 : Int32)]) (σ1 := σ) (P := []) rfl trivial ?_
          obtain ⟨rfl, rfl⟩ := Prod.mk.inj (Option.some.inj hm)
          exact XW.iret B q (by decide +kernel)

def L_X11_taken_58 : Nat → Int32 → Int32 → Int32 → SS → Option (Int32)
  | 0, _, _, _, _ => none
  | n + 1, v1, v2, v3, σ =>
    if v3 = v2 then
      if v1 < 0 ∨ 6 ≤ v1.toNatClampNeg then none else
      Option.bind (m_X11_kindOf (σ.2.1 14 0 v1.toNatClampNeg) σ) (fun q9 =>
      some q9)
    else
    if v3 ≤ (0 : Int32) then
      some (-12 : Int32)
    else
    L_X11_taken_58 n v1 v2 (m_X11_above v3) σ
def m_X11_taken (x1 : Int32) (x2 : Int32) (σ : SS) : Option (Int32) :=
  if (m_X11_isShelf x1) = (0 : Int32) then
    some (-1 : Int32)
  else
  if (m_X11_within x2.toInt64 (0 : Int64) (7 : Int64)) = (0 : Int32) then
    some (-1 : Int32)
  else
  if x1 < 0 ∨ 6 ≤ x1.toNatClampNeg then none else
  if (0 : Int32) ≤ (σ.2.1 14 0 x1.toNatClampNeg) then
    if (σ.2.1 14 0 x1.toNatClampNeg) < (50 : Int32) then
      Option.bind (m_X11_kindOf (σ.2.1 14 0 x1.toNatClampNeg) σ) (fun q6 =>
      L_X11_taken_58 FU x1 x2 q6 σ)
    else
    some (-12 : Int32)
  else
  some (-11 : Int32)
set_option maxRecDepth 100000 in
set_option maxHeartbeats 4000000 in
theorem lp_X11_taken_58 {Γ : XC} {r : Int32} {σ0 : SS} (B : XB Γ cX11_taken RX11 3 K11 LM 4) (q : XQ Γ (some .int) (some (aI r)) σ0) : ∀ (n : Nat) (v1 : Int32) (v2 : Int32) (v3 : Int32) (σ : SS), σ = σ0 → L_X11_taken_58 n v1 v2 v3 σ = some r → XW Γ 58 [some (aR 0 0), some (aI v1), some (aI v2), some (aI v3)] [] σ := by
  intro n
  induction n with
  | zero => intro v1 v2 v3 σ hσ hm; cases hm
  | succ n ih =>
    intro v1 v2 v3 σ hσ hm
    subst hσ
    rw [L_X11_taken_58] at hm
    refine XW.bb B [(58, .iload_n 3), (59, .iload_n 2)] (by decide +kernel) (pc1 := 60) (ls1 := [some (aR 0 0), some (aI v1), some (aI v2), some (aI v3)]) (st1 := [aI v2, aI v3]) (σ1 := σ) (P := []) (i := .if_icmp .eq 15) (tgt := 75) (q := v3 = v2) rfl trivial (by decide +kernel) rfl (by decide) (fun h7 => ?_) (fun h7 => ?_)
    · rw [if_pos h7] at hm
      refine XW.bn B [(75, .iload_n 3), (76, .iload_n 2)] (by decide +kernel) (pc1 := 77) (ls1 := [some (aR 0 0), some (aI v1), some (aI v2), some (aI v3)]) (st1 := [aI v2, aI v3]) (σ1 := σ) (P := []) (i := .if_icmp .ne 16) (tgt := 93) (q := v3 = v2) rfl trivial (by decide +kernel) rfl (by decide) (fun _ => ?_) (fun h => absurd h7 h)
      refine XW.bk B [(80, .aload_n 0), (81, .aload_n 0), (82, .getfield 51), (85, .iload_n 1)] (by decide +kernel) (pc1 := 86) (ls1 := [some (aR 0 0), some (aI v1), some (aI v2), some (aI v3)]) (st1 := [aI v1, aR 14 0, aR 0 0]) (σ1 := σ) (P := []) rfl trivial ?_
      by_cases g8 : v1 < 0 ∨ 6 ≤ v1.toNatClampNeg
      · rw [if_pos g8] at hm; cases hm
      rw [if_neg g8] at hm
      refine XW.bk B [(86, .iaload)] (by decide +kernel) (pc1 := 87) (ls1 := [some (aR 0 0), some (aI v1), some (aI v2), some (aI v3)]) (st1 := [aI (σ.2.1 14 0 v1.toNatClampNeg), aR 0 0]) (σ1 := σ) (P := [vp_in v1 6]) rfl ⟨g8, trivial⟩ ?_
      obtain ⟨q9, hq9, hm⟩ := obind_eq hm
      refine XW.callV B (M := M_X11_kindOf) (t := 0) (j := 0) (cn := 1) (as := [aI (σ.2.1 14 0 v1.toNatClampNeg)]) (c_X11_kindOf (σ.2.1 14 0 v1.toNatClampNeg) σ hq9) (by decide) wV_X11_kindOf wN_X11_kindOf lk_X11_352 rfl rfl rfl (by decide) rfl (Nat.le_of_ble_eq_true rfl) (by decide +kernel) ?_
      refine XW.bk B [(90, .goto 5)] (by decide +kernel) (pc1 := 95) (ls1 := [some (aR 0 0), some (aI v1), some (aI v2), some (aI v3)]) (st1 := [aI q9]) (σ1 := σ) (P := []) rfl trivial ?_
      obtain rfl := Option.some.inj hm
      exact XW.iret B q (by decide +kernel)
    · rw [if_neg h7] at hm
      refine XW.bb B [(63, .iload_n 3)] (by decide +kernel) (pc1 := 64) (ls1 := [some (aR 0 0), some (aI v1), some (aI v2), some (aI v3)]) (st1 := [aI v3]) (σ1 := σ) (P := []) (i := .ifCond .le 11) (tgt := 75) (q := v3 ≤ (0 : Int32)) rfl trivial (by decide +kernel) rfl (by decide) (fun h10 => ?_) (fun h10 => ?_)
      · rw [if_pos h10] at hm
        refine XW.bn B [(75, .iload_n 3), (76, .iload_n 2)] (by decide +kernel) (pc1 := 77) (ls1 := [some (aR 0 0), some (aI v1), some (aI v2), some (aI v3)]) (st1 := [aI v2, aI v3]) (σ1 := σ) (P := []) (i := .if_icmp .ne 16) (tgt := 93) (q := v3 = v2) rfl trivial (by decide +kernel) rfl (by decide) (fun h => absurd h h7) (fun _ => ?_)
        refine XW.bk B [(93, .bipush (-12))] (by decide +kernel) (pc1 := 95) (ls1 := [some (aR 0 0), some (aI v1), some (aI v2), some (aI v3)]) (st1 := [aI (-12 : Int32)]) (σ1 := σ) (P := []) rfl trivial ?_
        obtain rfl := Option.some.inj hm
        exact XW.iret B q (by decide +kernel)
      · rw [if_neg h10] at hm
        refine XW.bk B [(67, .iload_n 3)] (by decide +kernel) (pc1 := 68) (ls1 := [some (aR 0 0), some (aI v1), some (aI v2), some (aI v3)]) (st1 := [aI v3]) (σ1 := σ) (P := []) rfl trivial ?_
        refine XW.callS B (M := M_X11_above) (as := [aI v3]) (c_X11_above v3 σ rfl) (by decide) wS_X11_above wN_X11_above lk_X11_355 rfl (Nat.le_of_ble_eq_true rfl) (by decide +kernel) ?_
        refine XW.bk B [(71, .istore_n 3), (72, .goto (-14))] (by decide +kernel) (pc1 := 58) (ls1 := [some (aR 0 0), some (aI v1), some (aI v2), some (aI (m_X11_above v3))]) (st1 := []) (σ1 := σ) (P := []) rfl trivial ?_
        exact ih v1 v2 (m_X11_above v3) σ rfl hm
set_option maxRecDepth 100000 in
set_option maxHeartbeats 4000000 in
theorem c_X11_taken (x1 : Int32) (x2 : Int32) (σ : SS) {r : Int32} (hm : m_X11_taken x1 x2 σ = some r) : XM LM 3 M_X11_taken [aR 0 0, aI x1, aI x2] σ (some (aI r)) σ := by
  refine XM.of (K := K11) (by decide) (by decide +kernel) K11_ok (Nat.le_of_ble_eq_true rfl) (fun Γ B q => ?_)
  unfold m_X11_taken at hm
  refine XW.bk B [(0, .iload_n 1)] (by decide +kernel) (pc1 := 1) (ls1 := [some (aR 0 0), some (aI x1), some (aI x2), none]) (st1 := [aI x1]) (σ1 := σ) (P := []) rfl trivial ?_
  refine XW.callS B (M := M_X11_isShelf) (as := [aI x1]) (c_X11_isShelf x1 σ rfl) (by decide) wS_X11_isShelf wN_X11_isShelf lk_X11_105 rfl (Nat.le_of_ble_eq_true rfl) (by decide +kernel) ?_
  refine XW.bb B [] (by decide +kernel) (pc1 := 4) (ls1 := [some (aR 0 0), some (aI x1), some (aI x2), none]) (st1 := [aI (m_X11_isShelf x1)]) (σ1 := σ) (P := []) (i := .ifCond .eq 15) (tgt := 19) (q := (m_X11_isShelf x1) = (0 : Int32)) rfl trivial (by decide +kernel) rfl (by decide) (fun h1 => ?_) (fun h1 => ?_)
  · rw [if_pos h1] at hm
    refine XW.bk B [(19, .iconst (-1))] (by decide +kernel) (pc1 := 20) (ls1 := [some (aR 0 0), some (aI x1), some (aI x2), none]) (st1 := [aI (-1 : Int32)]) (σ1 := σ) (P := []) rfl trivial ?_
    obtain rfl := Option.some.inj hm
    exact XW.iret B q (by decide +kernel)
  · rw [if_neg h1] at hm
    refine XW.bk B [(7, .iload_n 2), (8, .i2l), (9, .lconst 0), (10, .ldc2_w 114)] (by decide +kernel) (pc1 := 13) (ls1 := [some (aR 0 0), some (aI x1), some (aI x2), none]) (st1 := [aJ (7 : Int64), aJ (0 : Int64), aJ x2.toInt64]) (σ1 := σ) (P := []) rfl trivial ?_
    refine XW.callS B (M := M_X11_within) (as := [aJ x2.toInt64, aJ (0 : Int64), aJ (7 : Int64)]) (c_X11_within x2.toInt64 (0 : Int64) (7 : Int64) σ rfl) (by decide) wS_X11_within wN_X11_within lk_X11_84 rfl (Nat.le_of_ble_eq_true rfl) (by decide +kernel) ?_
    refine XW.bn B [] (by decide +kernel) (pc1 := 16) (ls1 := [some (aR 0 0), some (aI x1), some (aI x2), none]) (st1 := [aI (m_X11_within x2.toInt64 (0 : Int64) (7 : Int64))]) (σ1 := σ) (P := []) (i := .ifCond .ne 5) (tgt := 21) (q := (m_X11_within x2.toInt64 (0 : Int64) (7 : Int64)) = (0 : Int32)) rfl trivial (by decide +kernel) rfl (by decide) (fun h2 => ?_) (fun h2 => ?_)
    · rw [if_pos h2] at hm
      refine XW.bk B [(19, .iconst (-1))] (by decide +kernel) (pc1 := 20) (ls1 := [some (aR 0 0), some (aI x1), some (aI x2), none]) (st1 := [aI (-1 : Int32)]) (σ1 := σ) (P := []) rfl trivial ?_
      obtain rfl := Option.some.inj hm
      exact XW.iret B q (by decide +kernel)
    · rw [if_neg h2] at hm
      refine XW.bk B [(21, .aload_n 0), (22, .getfield 51), (25, .iload_n 1)] (by decide +kernel) (pc1 := 26) (ls1 := [some (aR 0 0), some (aI x1), some (aI x2), none]) (st1 := [aI x1, aR 14 0]) (σ1 := σ) (P := []) rfl trivial ?_
      by_cases g3 : x1 < 0 ∨ 6 ≤ x1.toNatClampNeg
      · rw [if_pos g3] at hm; cases hm
      rw [if_neg g3] at hm
      refine XW.bb B [(26, .iaload)] (by decide +kernel) (pc1 := 27) (ls1 := [some (aR 0 0), some (aI x1), some (aI x2), none]) (st1 := [aI (σ.2.1 14 0 x1.toNatClampNeg)]) (σ1 := σ) (P := [vp_in x1 6]) (i := .ifCond .ge 6) (tgt := 33) (q := (0 : Int32) ≤ (σ.2.1 14 0 x1.toNatClampNeg)) rfl ⟨g3, trivial⟩ (by decide +kernel) rfl (by decide) (fun h4 => ?_) (fun h4 => ?_)
      · rw [if_pos h4] at hm
        refine XW.bb B [(33, .aload_n 0), (34, .getfield 51), (37, .iload_n 1), (38, .iaload), (39, .bipush 50)] (by decide +kernel) (pc1 := 41) (ls1 := [some (aR 0 0), some (aI x1), some (aI x2), none]) (st1 := [aI (50 : Int32), aI (σ.2.1 14 0 x1.toNatClampNeg)]) (σ1 := σ) (P := [vp_in x1 6]) (i := .if_icmp .lt 6) (tgt := 47) (q := (σ.2.1 14 0 x1.toNatClampNeg) < (50 : Int32)) rfl ⟨g3, trivial⟩ (by decide +kernel) rfl (by decide) (fun h5 => ?_) (fun h5 => ?_)
        · rw [if_pos h5] at hm
          refine XW.bk B [(47, .aload_n 0), (48, .aload_n 0), (49, .getfield 51), (52, .iload_n 1), (53, .iaload)] (by decide +kernel) (pc1 := 54) (ls1 := [some (aR 0 0), some (aI x1), some (aI x2), none]) (st1 := [aI (σ.2.1 14 0 x1.toNatClampNeg), aR 0 0]) (σ1 := σ) (P := [vp_in x1 6]) rfl ⟨g3, trivial⟩ ?_
          obtain ⟨q6, hq6, hm⟩ := obind_eq hm
          refine XW.callV B (M := M_X11_kindOf) (t := 0) (j := 0) (cn := 1) (as := [aI (σ.2.1 14 0 x1.toNatClampNeg)]) (c_X11_kindOf (σ.2.1 14 0 x1.toNatClampNeg) σ hq6) (by decide) wV_X11_kindOf wN_X11_kindOf lk_X11_352 rfl rfl rfl (by decide) rfl (Nat.le_of_ble_eq_true rfl) (by decide +kernel) ?_
          refine XW.bk B [(57, .istore_n 3)] (by decide +kernel) (pc1 := 58) (ls1 := [some (aR 0 0), some (aI x1), some (aI x2), some (aI q6)]) (st1 := []) (σ1 := σ) (P := []) rfl trivial ?_
          exact lp_X11_taken_58 B q FU x1 x2 q6 σ rfl hm
        · rw [if_neg h5] at hm
          refine XW.bk B [(44, .bipush (-12))] (by decide +kernel) (pc1 := 46) (ls1 := [some (aR 0 0), some (aI x1), some (aI x2), none]) (st1 := [aI (-12 : Int32)]) (σ1 := σ) (P := []) rfl trivial ?_
          obtain rfl := Option.some.inj hm
          exact XW.iret B q (by decide +kernel)
      · rw [if_neg h4] at hm
        refine XW.bk B [(30, .bipush (-11))] (by decide +kernel) (pc1 := 32) (ls1 := [some (aR 0 0), some (aI x1), some (aI x2), none]) (st1 := [aI (-11 : Int32)]) (σ1 := σ) (P := []) rfl trivial ?_
        obtain rfl := Option.some.inj hm
        exact XW.iret B q (by decide +kernel)

def m_X11_count (x1 : Int32) (σ : SS) : Int32 :=
  if x1 = (0 : Int32) then
    (σ.1 0 0 6)
  else
  if x1 = (1 : Int32) then
    (σ.1 0 0 9)
  else
  if x1 = (2 : Int32) then
    (σ.1 0 0 5)
  else
  if x1 = (3 : Int32) then
    (σ.1 0 0 34)
  else
  if x1 = (4 : Int32) then
    (σ.1 0 0 37)
  else
  (-1 : Int32)
set_option maxRecDepth 100000 in
set_option maxHeartbeats 4000000 in
theorem c_X11_count (x1 : Int32) (σ : SS) {r : Int32} (hm : m_X11_count x1 σ = r) : XM LM 1 M_X11_count [aR 0 0, aI x1] σ (some (aI r)) σ := by
  refine XM.of (K := K11) (by decide) (by decide +kernel) K11_ok (Nat.le_of_ble_eq_true rfl) (fun Γ B q => ?_)
  unfold m_X11_count at hm
  refine XW.bk B [(0, .iload_n 1)] (by decide +kernel) (pc1 := 1) (ls1 := [some (aR 0 0), some (aI x1)]) (st1 := [aI x1]) (σ1 := σ) (P := []) rfl trivial ?_
  by_cases h1 : x1 = (0 : Int32)
  · rw [if_pos h1] at hm
    refine XW.tsI B (0 : Int32) (dflt := 60) (n := 35) (lo := 0) (hi := 4) (offs := #[35, 40, 45, 50, 55]) (off := 35) (by decide +kernel) h1 (by decide +kernel) (tgt := 36) (by decide) ?_
    refine XW.bk B [(36, .aload_n 0), (37, .getfield 81)] (by decide +kernel) (pc1 := 40) (ls1 := [some (aR 0 0), some (aI x1)]) (st1 := [aI (σ.1 0 0 6)]) (σ1 := σ) (P := []) rfl trivial ?_
    subst hm
    exact XW.iret B q (by decide +kernel)
  rw [if_neg h1] at hm
  by_cases h2 : x1 = (1 : Int32)
  · rw [if_pos h2] at hm
    refine XW.tsI B (1 : Int32) (dflt := 60) (n := 35) (lo := 0) (hi := 4) (offs := #[35, 40, 45, 50, 55]) (off := 40) (by decide +kernel) h2 (by decide +kernel) (tgt := 41) (by decide) ?_
    refine XW.bk B [(41, .aload_n 0), (42, .getfield 147)] (by decide +kernel) (pc1 := 45) (ls1 := [some (aR 0 0), some (aI x1)]) (st1 := [aI (σ.1 0 0 9)]) (σ1 := σ) (P := []) rfl trivial ?_
    subst hm
    exact XW.iret B q (by decide +kernel)
  rw [if_neg h2] at hm
  by_cases h3 : x1 = (2 : Int32)
  · rw [if_pos h3] at hm
    refine XW.tsI B (2 : Int32) (dflt := 60) (n := 35) (lo := 0) (hi := 4) (offs := #[35, 40, 45, 50, 55]) (off := 45) (by decide +kernel) h3 (by decide +kernel) (tgt := 46) (by decide) ?_
    refine XW.bk B [(46, .aload_n 0), (47, .getfield 75)] (by decide +kernel) (pc1 := 50) (ls1 := [some (aR 0 0), some (aI x1)]) (st1 := [aI (σ.1 0 0 5)]) (σ1 := σ) (P := []) rfl trivial ?_
    subst hm
    exact XW.iret B q (by decide +kernel)
  rw [if_neg h3] at hm
  by_cases h4 : x1 = (3 : Int32)
  · rw [if_pos h4] at hm
    refine XW.tsI B (3 : Int32) (dflt := 60) (n := 35) (lo := 0) (hi := 4) (offs := #[35, 40, 45, 50, 55]) (off := 50) (by decide +kernel) h4 (by decide +kernel) (tgt := 51) (by decide) ?_
    refine XW.bk B [(51, .aload_n 0), (52, .getfield 311)] (by decide +kernel) (pc1 := 55) (ls1 := [some (aR 0 0), some (aI x1)]) (st1 := [aI (σ.1 0 0 34)]) (σ1 := σ) (P := []) rfl trivial ?_
    subst hm
    exact XW.iret B q (by decide +kernel)
  rw [if_neg h4] at hm
  by_cases h5 : x1 = (4 : Int32)
  · rw [if_pos h5] at hm
    refine XW.tsI B (4 : Int32) (dflt := 60) (n := 35) (lo := 0) (hi := 4) (offs := #[35, 40, 45, 50, 55]) (off := 55) (by decide +kernel) h5 (by decide +kernel) (tgt := 56) (by decide) ?_
    refine XW.bk B [(56, .aload_n 0), (57, .getfield 314)] (by decide +kernel) (pc1 := 60) (ls1 := [some (aR 0 0), some (aI x1)]) (st1 := [aI (σ.1 0 0 37)]) (σ1 := σ) (P := []) rfl trivial ?_
    subst hm
    exact XW.iret B q (by decide +kernel)
  rw [if_neg h5] at hm
  refine XW.tsD B [(0 : Int32), (1 : Int32), (2 : Int32), (3 : Int32), (4 : Int32)] (dflt := 60) (n := 35) (lo := 0) (hi := 4) (offs := #[35, 40, 45, 50, 55]) (by decide +kernel) (List.forall_mem_cons.mpr ⟨h1, (List.forall_mem_cons.mpr ⟨h2, (List.forall_mem_cons.mpr ⟨h3, (List.forall_mem_cons.mpr ⟨h4, (List.forall_mem_cons.mpr ⟨h5, (fun _ hz => absurd hz List.not_mem_nil)⟩)⟩)⟩)⟩)⟩) (by decide +kernel) (by decide) (tgt := 61) (by decide) ?_
  refine XW.bk B [(61, .iconst (-1))] (by decide +kernel) (pc1 := 62) (ls1 := [some (aR 0 0), some (aI x1)]) (st1 := [aI (-1 : Int32)]) (σ1 := σ) (P := []) rfl trivial ?_
  subst hm
  exact XW.iret B q (by decide +kernel)
