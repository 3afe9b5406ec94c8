def m_X1_dropOldest (σ : SS) : SS :=
  (sI (sAf (sAf (sAf σ 4 0 (va_cpy (σ.2.1 4 0) (σ.2.1 4 0) (1 : Int32).toNatClampNeg (0 : Int32).toNatClampNeg (39 : Int32).toNatClampNeg)) 5 0 (va_cpy ((sAf σ 4 0 (va_cpy (σ.2.1 4 0) (σ.2.1 4 0) (1 : Int32).toNatClampNeg (0 : Int32).toNatClampNeg (39 : Int32).toNatClampNeg)).2.1 5 0) ((sAf σ 4 0 (va_cpy (σ.2.1 4 0) (σ.2.1 4 0) (1 : Int32).toNatClampNeg (0 : Int32).toNatClampNeg (39 : Int32).toNatClampNeg)).2.1 5 0) (1 : Int32).toNatClampNeg (0 : Int32).toNatClampNeg (39 : Int32).toNatClampNeg)) 6 0 (va_cpy ((sAf (sAf σ 4 0 (va_cpy (σ.2.1 4 0) (σ.2.1 4 0) (1 : Int32).toNatClampNeg (0 : Int32).toNatClampNeg (39 : Int32).toNatClampNeg)) 5 0 (va_cpy ((sAf σ 4 0 (va_cpy (σ.2.1 4 0) (σ.2.1 4 0) (1 : Int32).toNatClampNeg (0 : Int32).toNatClampNeg (39 : Int32).toNatClampNeg)).2.1 5 0) ((sAf σ 4 0 (va_cpy (σ.2.1 4 0) (σ.2.1 4 0) (1 : Int32).toNatClampNeg (0 : Int32).toNatClampNeg (39 : Int32).toNatClampNeg)).2.1 5 0) (1 : Int32).toNatClampNeg (0 : Int32).toNatClampNeg (39 : Int32).toNatClampNeg)).2.1 6 0) ((sAf (sAf σ 4 0 (va_cpy (σ.2.1 4 0) (σ.2.1 4 0) (1 : Int32).toNatClampNeg (0 : Int32).toNatClampNeg (39 : Int32).toNatClampNeg)) 5 0 (va_cpy ((sAf σ 4 0 (va_cpy (σ.2.1 4 0) (σ.2.1 4 0) (1 : Int32).toNatClampNeg (0 : Int32).toNatClampNeg (39 : Int32).toNatClampNeg)).2.1 5 0) ((sAf σ 4 0 (va_cpy (σ.2.1 4 0) (σ.2.1 4 0) (1 : Int32).toNatClampNeg (0 : Int32).toNatClampNeg (39 : Int32).toNatClampNeg)).2.1 5 0) (1 : Int32).toNatClampNeg (0 : Int32).toNatClampNeg (39 : Int32).toNatClampNeg)).2.1 6 0) (1 : Int32).toNatClampNeg (0 : Int32).toNatClampNeg (39 : Int32).toNatClampNeg)) 3 0 4 (39 : Int32))
set_option maxRecDepth 100000 in
set_option maxHeartbeats 4000000 in
theorem c_X1_dropOldest (σ : SS) {σ' : SS} (hm : m_X1_dropOldest σ = σ') : XM LC 1 M_X1_dropOldest [aR 3 0] σ none σ' := by
  refine XM.of (K := K1) (by decide) (by decide +kernel) K1_ok (Nat.le_of_ble_eq_true rfl) (fun Γ B q => ?_)
  unfold m_X1_dropOldest at hm
  refine XW.bk B [(0, .aload_n 0), (1, .getfield 9), (4, .iconst 1), (5, .aload_n 0), (6, .getfield 9), (9, .iconst 0), (10, .bipush 39)] (by decide +kernel) (pc1 := 12) (ls1 := [some (aR 3 0)]) (st1 := [aI (39 : Int32), aI (0 : Int32), aR 4 0, aI (1 : Int32), aR 4 0]) (σ1 := σ) (P := []) rfl trivial ?_
  refine XW.copyi B (c1 := 1) (c2 := 1) (n1 := 40) (n2 := 40) lk_X1_29 rfl (by decide) rfl (by decide) (by decide) (by decide) (by decide) (by decide +kernel) (by decide +kernel) (Nat.le_of_ble_eq_true rfl) (by decide +kernel) ?_
  refine XW.bk B [(15, .aload_n 0), (16, .getfield 13), (19, .iconst 1), (20, .aload_n 0), (21, .getfield 13), (24, .iconst 0), (25, .bipush 39)] (by decide +kernel) (pc1 := 27) (ls1 := [some (aR 3 0)]) (st1 := [aI (39 : Int32), aI (0 : Int32), aR 5 0, aI (1 : Int32), aR 5 0]) (σ1 := (sAf σ 4 0 (va_cpy (σ.2.1 4 0) (σ.2.1 4 0) (1 : Int32).toNatClampNeg (0 : Int32).toNatClampNeg (39 : Int32).toNatClampNeg))) (P := []) rfl trivial ?_
  refine XW.copyi B (c1 := 1) (c2 := 1) (n1 := 40) (n2 := 40) lk_X1_29 rfl (by decide) rfl (by decide) (by decide) (by decide) (by decide) (by decide +kernel) (by decide +kernel) (Nat.le_of_ble_eq_true rfl) (by decide +kernel) ?_
  refine XW.bk B [(30, .aload_n 0), (31, .getfield 16), (34, .iconst 1), (35, .aload_n 0), (36, .getfield 16), (39, .iconst 0), (40, .bipush 39)] (by decide +kernel) (pc1 := 42) (ls1 := [some (aR 3 0)]) (st1 := [aI (39 : Int32), aI (0 : Int32), aR 6 0, aI (1 : Int32), aR 6 0]) (σ1 := (sAf (sAf σ 4 0 (va_cpy (σ.2.1 4 0) (σ.2.1 4 0) (1 : Int32).toNatClampNeg (0 : Int32).toNatClampNeg (39 : Int32).toNatClampNeg)) 5 0 (va_cpy ((sAf σ 4 0 (va_cpy (σ.2.1 4 0) (σ.2.1 4 0) (1 : Int32).toNatClampNeg (0 : Int32).toNatClampNeg (39 : Int32).toNatClampNeg)).2.1 5 0) ((sAf σ 4 0 (va_cpy (σ.2.1 4 0) (σ.2.1 4 0) (1 : Int32).toNatClampNeg (0 : Int32).toNatClampNeg (39 : Int32).toNatClampNeg)).2.1 5 0) (1 : Int32).toNatClampNeg (0 : Int32).toNatClampNeg (39 : Int32).toNatClampNeg))) (P := []) rfl trivial ?_
  refine XW.copyi B (c1 := 1) (c2 := 1) (n1 := 40) (n2 := 40) lk_X1_29 rfl (by decide) rfl (by decide) (by decide) (by decide) (by decide) (by decide +kernel) (by decide +kernel) (Nat.le_of_ble_eq_true rfl) (by decide +kernel) ?_
  refine XW.bk B [(45, .aload_n 0), (46, .bipush 39), (48, .putfield 19)] (by decide +kernel) (pc1 := 51) (ls1 := [some (aR 3 0)]) (st1 := []) (σ1 := (sI (sAf (sAf (sAf σ 4 0 (va_cpy (σ.2.1 4 0) (σ.2.1 4 0) (1 : Int32).toNatClampNeg (0 : Int32).toNatClampNeg (39 : Int32).toNatClampNeg)) 5 0 (va_cpy ((sAf σ 4 0 (va_cpy (σ.2.1 4 0) (σ.2.1 4 0) (1 : Int32).toNatClampNeg (0 : Int32).toNatClampNeg (39 : Int32).toNatClampNeg)).2.1 5 0) ((sAf σ 4 0 (va_cpy (σ.2.1 4 0) (σ.2.1 4 0) (1 : Int32).toNatClampNeg (0 : Int32).toNatClampNeg (39 : Int32).toNatClampNeg)).2.1 5 0) (1 : Int32).toNatClampNeg (0 : Int32).toNatClampNeg (39 : Int32).toNatClampNeg)) 6 0 (va_cpy ((sAf (sAf σ 4 0 (va_cpy (σ.2.1 4 0) (σ.2.1 4 0) (1 : Int32).toNatClampNeg (0 : Int32).toNatClampNeg (39 : Int32).toNatClampNeg)) 5 0 (va_cpy ((sAf σ 4 0 (va_cpy (σ.2.1 4 0) (σ.2.1 4 0) (1 : Int32).toNatClampNeg (0 : Int32).toNatClampNeg (39 : Int32).toNatClampNeg)).2.1 5 0) ((sAf σ 4 0 (va_cpy (σ.2.1 4 0) (σ.2.1 4 0) (1 : Int32).toNatClampNeg (0 : Int32).toNatClampNeg (39 : Int32).toNatClampNeg)).2.1 5 0) (1 : Int32).toNatClampNeg (0 : Int32).toNatClampNeg (39 : Int32).toNatClampNeg)).2.1 6 0) ((sAf (sAf σ 4 0 (va_cpy (σ.2.1 4 0) (σ.2.1 4 0) (1 : Int32).toNatClampNeg (0 : Int32).toNatClampNeg (39 : Int32).toNatClampNeg)) 5 0 (va_cpy ((sAf σ 4 0 (va_cpy (σ.2.1 4 0) (σ.2.1 4 0) (1 : Int32).toNatClampNeg (0 : Int32).toNatClampNeg (39 : Int32).toNatClampNeg)).2.1 5 0) ((sAf σ 4 0 (va_cpy (σ.2.1 4 0) (σ.2.1 4 0) (1 : Int32).toNatClampNeg (0 : Int32).toNatClampNeg (39 : Int32).toNatClampNeg)).2.1 5 0) (1 : Int32).toNatClampNeg (0 : Int32).toNatClampNeg (39 : Int32).toNatClampNeg)).2.1 6 0) (1 : Int32).toNatClampNeg (0 : Int32).toNatClampNeg (39 : Int32).toNatClampNeg)) 3 0 4 (39 : Int32))) (P := []) rfl trivial ?_
  cases hm
  exact XW.vret B q (by decide +kernel)

def m_X1_note (x1 : Int32) (x2 : Int32) (x3 : Int32) (σ : SS) : SS :=
  if (σ.1 3 0 4) < (40 : Int32) then
    if (σ.1 3 0 4) < (0 : Int32) then
      σ
    else
    (sI (sI (sA (sA (sA σ 4 0 (σ.1 3 0 4).toNatClampNeg x1) 5 0 (σ.1 3 0 4).toNatClampNeg x2) 6 0 (σ.1 3 0 4).toNatClampNeg x3) 3 0 4 ((σ.1 3 0 4) + (1 : Int32))) 3 0 3 ((σ.1 3 0 4) + (1 : Int32)))
  else
  bnT (m_X1_dropOldest σ) (fun q3 =>
  if (q3.1 3 0 4) < (0 : Int32) then
    q3
  else
  if (q3.1 3 0 4) < (40 : Int32) then
    (sI (sI (sA (sA (sA q3 4 0 (q3.1 3 0 4).toNatClampNeg x1) 5 0 (q3.1 3 0 4).toNatClampNeg x2) 6 0 (q3.1 3 0 4).toNatClampNeg x3) 3 0 4 ((q3.1 3 0 4) + (1 : Int32))) 3 0 3 ((q3.1 3 0 4) + (1 : Int32)))
  else
  q3)
set_option maxRecDepth 100000 in
set_option maxHeartbeats 4000000 in
theorem c_X1_note (x1 : Int32) (x2 : Int32) (x3 : Int32) (σ : SS) {σ' : SS} (hm : m_X1_note x1 x2 x3 σ = σ') : XM LC 2 M_X1_note [aR 3 0, aI x1, aI x2, aI x3] σ none σ' := by
  refine XM.of (K := K1) (by decide) (by decide +kernel) K1_ok (Nat.le_of_ble_eq_true rfl) (fun Γ B q => ?_)
  unfold m_X1_note at hm
  refine XW.bb B [(0, .aload_n 0), (1, .getfield 19), (4, .bipush 40)] (by decide +kernel) (pc1 := 6) (ls1 := [some (aR 3 0), some (aI x1), some (aI x2), some (aI x3)]) (st1 := [aI (40 : Int32), aI (σ.1 3 0 4)]) (σ1 := σ) (P := []) (i := .if_icmp .lt 7) (tgt := 13) (q := (σ.1 3 0 4) < (40 : Int32)) rfl trivial (by decide +kernel) rfl (by decide) (fun h1 => ?_) (fun h1 => ?_)
  · rw [if_pos h1] at hm
    refine XW.bb B [(13, .aload_n 0), (14, .getfield 19)] (by decide +kernel) (pc1 := 17) (ls1 := [some (aR 3 0), some (aI x1), some (aI x2), some (aI x3)]) (st1 := [aI (σ.1 3 0 4)]) (σ1 := σ) (P := []) (i := .ifCond .lt 12) (tgt := 29) (q := (σ.1 3 0 4) < (0 : Int32)) rfl trivial (by decide +kernel) rfl (by decide) (fun h2 => ?_) (fun h2 => ?_)
    · rw [if_pos h2] at hm
      cases hm
      exact XW.vret B q (by decide +kernel)
    · rw [if_neg h2] at hm
      refine XW.bb B [(20, .aload_n 0), (21, .getfield 19), (24, .bipush 40)] (by decide +kernel) (pc1 := 26) (ls1 := [some (aR 3 0), some (aI x1), some (aI x2), some (aI x3)]) (st1 := [aI (40 : Int32), aI (σ.1 3 0 4)]) (σ1 := σ) (P := []) (i := .if_icmp .lt 4) (tgt := 30) (q := (σ.1 3 0 4) < (40 : Int32)) rfl trivial (by decide +kernel) rfl (by decide) (fun _ => ?_) (fun h => absurd h1 h)
      refine XW.bk B [(30, .aload_n 0), (31, .getfield 9), (34, .aload_n 0), (35, .getfield 19), (38, .iload_n 1), (39, .iastore), (40, .aload_n 0), (41, .getfield 13), (44, .aload_n 0), (45, .getfield 19), (48, .iload_n 2), (49, .iastore), (50, .aload_n 0), (51, .getfield 16), (54, .aload_n 0), (55, .getfield 19), (58, .iload_n 3), (59, .iastore), (60, .aload_n 0), (61, .dup), (62, .getfield 19), (65, .iconst 1), (66, .iadd), (67, .putfield 19), (70, .aload_n 0), (71, .aload_n 0), (72, .getfield 19), (75, .putfield 26)] (by decide +kernel) (pc1 := 78) (ls1 := [some (aR 3 0), some (aI x1), some (aI x2), some (aI x3)]) (st1 := []) (σ1 := (sI (sI (sA (sA (sA σ 4 0 (σ.1 3 0 4).toNatClampNeg x1) 5 0 (σ.1 3 0 4).toNatClampNeg x2) 6 0 (σ.1 3 0 4).toNatClampNeg x3) 3 0 4 ((σ.1 3 0 4) + (1 : Int32))) 3 0 3 ((σ.1 3 0 4) + (1 : Int32)))) (P := [vp_in (σ.1 3 0 4) 40, vp_in (σ.1 3 0 4) 40, vp_in (σ.1 3 0 4) 40]) rfl ⟨(vin_b h2 h1 (by decide +kernel)), (vin_b h2 h1 (by decide +kernel)), (vin_b h2 h1 (by decide +kernel)), trivial⟩ ?_
      cases hm
      exact XW.vret B q (by decide +kernel)
  · rw [if_neg h1] at hm
    refine XW.bk B [(9, .aload_n 0)] (by decide +kernel) (pc1 := 10) (ls1 := [some (aR 3 0), some (aI x1), some (aI x2), some (aI x3)]) (st1 := [aR 3 0]) (σ1 := σ) (P := []) rfl trivial ?_
    obtain ⟨q3, hq3, hm⟩ := bnT_eq hm
    refine XW.callV B (M := M_X1_dropOldest) (t := 3) (j := 0) (cn := 1) (as := []) (c_X1_dropOldest σ hq3) (by decide) wV_X1_dropOldest wN_X1_dropOldest lk_X1_23 rfl rfl rfl (by decide) rfl (Nat.le_of_ble_eq_true rfl) (by decide +kernel) ?_
    refine XW.bb B [(13, .aload_n 0), (14, .getfield 19)] (by decide +kernel) (pc1 := 17) (ls1 := [some (aR 3 0), some (aI x1), some (aI x2), some (aI x3)]) (st1 := [aI (q3.1 3 0 4)]) (σ1 := q3) (P := []) (i := .ifCond .lt 12) (tgt := 29) (q := (q3.1 3 0 4) < (0 : Int32)) rfl trivial (by decide +kernel) rfl (by decide) (fun h4 => ?_) (fun h4 => ?_)
    · rw [if_pos h4] at hm
      cases hm
      exact XW.vret B q (by decide +kernel)
    · rw [if_neg h4] at hm
      refine XW.bb B [(20, .aload_n 0), (21, .getfield 19), (24, .bipush 40)] (by decide +kernel) (pc1 := 26) (ls1 := [some (aR 3 0), some (aI x1), some (aI x2), some (aI x3)]) (st1 := [aI (40 : Int32), aI (q3.1 3 0 4)]) (σ1 := q3) (P := []) (i := .if_icmp .lt 4) (tgt := 30) (q := (q3.1 3 0 4) < (40 : Int32)) rfl trivial (by decide +kernel) rfl (by decide) (fun h5 => ?_) (fun h5 => ?_)
      · rw [if_pos h5] at hm
        refine XW.bk B [(30, .aload_n 0), (31, .getfield 9), (34, .aload_n 0), (35, .getfield 19), (38, .iload_n 1), (39, .iastore), (40, .aload_n 0), (41, .getfield 13), (44, .aload_n 0), (45, .getfield 19), (48, .iload_n 2), (49, .iastore), (50, .aload_n 0), (51, .getfield 16), (54, .aload_n 0), (55, .getfield 19), (58, .iload_n 3), (59, .iastore), (60, .aload_n 0), (61, .dup), (62, .getfield 19), (65, .iconst 1), (66, .iadd), (67, .putfield 19), (70, .aload_n 0), (71, .aload_n 0), (72, .getfield 19), (75, .putfield 26)] (by decide +kernel) (pc1 := 78) (ls1 := [some (aR 3 0), some (aI x1), some (aI x2), some (aI x3)]) (st1 := []) (σ1 := (sI (sI (sA (sA (sA q3 4 0 (q3.1 3 0 4).toNatClampNeg x1) 5 0 (q3.1 3 0 4).toNatClampNeg x2) 6 0 (q3.1 3 0 4).toNatClampNeg x3) 3 0 4 ((q3.1 3 0 4) + (1 : Int32))) 3 0 3 ((q3.1 3 0 4) + (1 : Int32)))) (P := [vp_in (q3.1 3 0 4) 40, vp_in (q3.1 3 0 4) 40, vp_in (q3.1 3 0 4) 40]) rfl ⟨(vin_b h4 h5 (by decide +kernel)), (vin_b h4 h5 (by decide +kernel)), (vin_b h4 h5 (by decide +kernel)), trivial⟩ ?_
        cases hm
        exact XW.vret B q (by decide +kernel)
      · rw [if_neg h5] at hm
        cases hm
        exact XW.vret B q (by decide +kernel)

def m_X1_stepBack (σ : SS) : Option (SS) :=
  if (σ.1 3 0 4) < (1 : Int32) then
    some σ
  else
  if (σ.1 3 0 4) ≤ (40 : Int32) then
    if ((σ.1 3 0 4) - (1 : Int32)) < 0 ∨ 40 ≤ ((σ.1 3 0 4) - (1 : Int32)).toNatClampNeg then none else
    bnT (m_X8_write (σ.2.1 4 0 ((σ.1 3 0 4) - (1 : Int32)).toNatClampNeg) (σ.2.1 5 0 ((σ.1 3 0 4) - (1 : Int32)).toNatClampNeg) (sI σ 3 0 4 ((σ.1 3 0 4) - (1 : Int32)))) (fun q4 =>
    some q4)
  else
  some σ
set_option maxRecDepth 100000 in
set_option maxHeartbeats 4000000 in
theorem c_X1_stepBack (σ : SS) {σ' : SS} (hm : m_X1_stepBack σ = some σ') : XM LC 2 M_X1_stepBack [aR 3 0, aR 1 0] σ none σ' := by
  refine XM.of (K := K1) (by decide) (by decide +kernel) K1_ok (Nat.le_of_ble_eq_true rfl) (fun Γ B q => ?_)
  unfold m_X1_stepBack at hm
  refine XW.bb B [(0, .aload_n 0), (1, .getfield 19), (4, .iconst 1)] (by decide +kernel) (pc1 := 5) (ls1 := [some (aR 3 0), some (aR 1 0)]) (st1 := [aI (1 : Int32), aI (σ.1 3 0 4)]) (σ1 := σ) (P := []) (i := .if_icmp .lt 12) (tgt := 17) (q := (σ.1 3 0 4) < (1 : Int32)) rfl trivial (by decide +kernel) rfl (by decide) (fun h1 => ?_) (fun h1 => ?_)
  · rw [if_pos h1] at hm
    cases hm
    exact XW.vret B q (by decide +kernel)
  · rw [if_neg h1] at hm
    refine XW.bb B [(8, .aload_n 0), (9, .getfield 19), (12, .bipush 40)] (by decide +kernel) (pc1 := 14) (ls1 := [some (aR 3 0), some (aR 1 0)]) (st1 := [aI (40 : Int32), aI (σ.1 3 0 4)]) (σ1 := σ) (P := []) (i := .if_icmp .le 4) (tgt := 18) (q := (σ.1 3 0 4) ≤ (40 : Int32)) rfl trivial (by decide +kernel) rfl (by decide) (fun h2 => ?_) (fun h2 => ?_)
    · rw [if_pos h2] at hm
      refine XW.bk B [(18, .aload_n 0), (19, .dup), (20, .getfield 19), (23, .iconst 1), (24, .isub), (25, .putfield 19), (28, .aload_n 1), (29, .aload_n 0), (30, .getfield 9), (33, .aload_n 0), (34, .getfield 19)] (by decide +kernel) (pc1 := 37) (ls1 := [some (aR 3 0), some (aR 1 0)]) (st1 := [aI ((σ.1 3 0 4) - (1 : Int32)), aR 4 0, aR 1 0]) (σ1 := (sI σ 3 0 4 ((σ.1 3 0 4) - (1 : Int32)))) (P := []) rfl trivial ?_
      by_cases g3 : ((σ.1 3 0 4) - (1 : Int32)) < 0 ∨ 40 ≤ ((σ.1 3 0 4) - (1 : Int32)).toNatClampNeg
      · rw [if_pos g3] at hm; cases hm
      rw [if_neg g3] at hm
      refine XW.bk B [(37, .iaload), (38, .aload_n 0), (39, .getfield 13), (42, .aload_n 0), (43, .getfield 19), (46, .iaload)] (by decide +kernel) (pc1 := 47) (ls1 := [some (aR 3 0), some (aR 1 0)]) (st1 := [aI (σ.2.1 5 0 ((σ.1 3 0 4) - (1 : Int32)).toNatClampNeg), aI (σ.2.1 4 0 ((σ.1 3 0 4) - (1 : Int32)).toNatClampNeg), aR 1 0]) (σ1 := (sI σ 3 0 4 ((σ.1 3 0 4) - (1 : Int32)))) (P := [vp_in ((σ.1 3 0 4) - (1 : Int32)) 40, vp_in ((σ.1 3 0 4) - (1 : Int32)) 40]) rfl ⟨g3, g3, trivial⟩ ?_
      obtain ⟨q4, hq4, hm⟩ := bnT_eq hm
      refine XW.callV B (M := M_X8_write) (t := 1) (j := 0) (cn := 1) (as := [aI (σ.2.1 4 0 ((σ.1 3 0 4) - (1 : Int32)).toNatClampNeg), aI (σ.2.1 5 0 ((σ.1 3 0 4) - (1 : Int32)).toNatClampNeg)]) (c_X8_write (σ.2.1 4 0 ((σ.1 3 0 4) - (1 : Int32)).toNatClampNeg) (σ.2.1 5 0 ((σ.1 3 0 4) - (1 : Int32)).toNatClampNeg) (sI σ 3 0 4 ((σ.1 3 0 4) - (1 : Int32))) hq4) (by decide) wV_X8_write wN_X8_write lk_X1_35 rfl rfl rfl (by decide) rfl (Nat.le_of_ble_eq_true rfl) (by decide +kernel) ?_
      cases hm
      exact XW.vret B q (by decide +kernel)
    · rw [if_neg h2] at hm
      cases hm
      exact XW.vret B q (by decide +kernel)

def m_X1_stepOn (σ : SS) : SS :=
  if (σ.1 3 0 4) < (0 : Int32) then
    σ
  else
  if (σ.1 3 0 3) ≤ (σ.1 3 0 4) then
    σ
  else
  if (σ.1 3 0 4) < (40 : Int32) then
    bnT (m_X8_write (σ.2.1 4 0 (σ.1 3 0 4).toNatClampNeg) (σ.2.1 6 0 (σ.1 3 0 4).toNatClampNeg) σ) (fun q4 =>
    (sI q4 3 0 4 ((q4.1 3 0 4) + (1 : Int32))))
  else
  σ
set_option maxRecDepth 100000 in
set_option maxHeartbeats 4000000 in
theorem c_X1_stepOn (σ : SS) {σ' : SS} (hm : m_X1_stepOn σ = σ') : XM LC 2 M_X1_stepOn [aR 3 0, aR 1 0] σ none σ' := by
  refine XM.of (K := K1) (by decide) (by decide +kernel) K1_ok (Nat.le_of_ble_eq_true rfl) (fun Γ B q => ?_)
  unfold m_X1_stepOn at hm
  refine XW.bb B [(0, .aload_n 0), (1, .getfield 19)] (by decide +kernel) (pc1 := 4) (ls1 := [some (aR 3 0), some (aR 1 0)]) (st1 := [aI (σ.1 3 0 4)]) (σ1 := σ) (P := []) (i := .ifCond .lt 23) (tgt := 27) (q := (σ.1 3 0 4) < (0 : Int32)) rfl trivial (by decide +kernel) rfl (by decide) (fun h1 => ?_) (fun h1 => ?_)
  · rw [if_pos h1] at hm
    cases hm
    exact XW.vret B q (by decide +kernel)
  · rw [if_neg h1] at hm
    refine XW.bb B [(7, .aload_n 0), (8, .getfield 19), (11, .aload_n 0), (12, .getfield 26)] (by decide +kernel) (pc1 := 15) (ls1 := [some (aR 3 0), some (aR 1 0)]) (st1 := [aI (σ.1 3 0 3), aI (σ.1 3 0 4)]) (σ1 := σ) (P := []) (i := .if_icmp .ge 12) (tgt := 27) (q := (σ.1 3 0 3) ≤ (σ.1 3 0 4)) rfl trivial (by decide +kernel) rfl (by decide) (fun h2 => ?_) (fun h2 => ?_)
    · rw [if_pos h2] at hm
      cases hm
      exact XW.vret B q (by decide +kernel)
    · rw [if_neg h2] at hm
      refine XW.bb B [(18, .aload_n 0), (19, .getfield 19), (22, .bipush 40)] (by decide +kernel) (pc1 := 24) (ls1 := [some (aR 3 0), some (aR 1 0)]) (st1 := [aI (40 : Int32), aI (σ.1 3 0 4)]) (σ1 := σ) (P := []) (i := .if_icmp .lt 4) (tgt := 28) (q := (σ.1 3 0 4) < (40 : Int32)) rfl trivial (by decide +kernel) rfl (by decide) (fun h3 => ?_) (fun h3 => ?_)
      · rw [if_pos h3] at hm
        refine XW.bk B [(28, .aload_n 1), (29, .aload_n 0), (30, .getfield 9), (33, .aload_n 0), (34, .getfield 19), (37, .iaload), (38, .aload_n 0), (39, .getfield 16), (42, .aload_n 0), (43, .getfield 19), (46, .iaload)] (by decide +kernel) (pc1 := 47) (ls1 := [some (aR 3 0), some (aR 1 0)]) (st1 := [aI (σ.2.1 6 0 (σ.1 3 0 4).toNatClampNeg), aI (σ.2.1 4 0 (σ.1 3 0 4).toNatClampNeg), aR 1 0]) (σ1 := σ) (P := [vp_in (σ.1 3 0 4) 40, vp_in (σ.1 3 0 4) 40]) rfl ⟨(vin_b h1 h3 (by decide +kernel)), (vin_b h1 h3 (by decide +kernel)), trivial⟩ ?_
        obtain ⟨q4, hq4, hm⟩ := bnT_eq hm
        refine XW.callV B (M := M_X8_write) (t := 1) (j := 0) (cn := 1) (as := [aI (σ.2.1 4 0 (σ.1 3 0 4).toNatClampNeg), aI (σ.2.1 6 0 (σ.1 3 0 4).toNatClampNeg)]) (c_X8_write (σ.2.1 4 0 (σ.1 3 0 4).toNatClampNeg) (σ.2.1 6 0 (σ.1 3 0 4).toNatClampNeg) σ hq4) (by decide) wV_X8_write wN_X8_write lk_X1_35 rfl rfl rfl (by decide) rfl (Nat.le_of_ble_eq_true rfl) (by decide +kernel) ?_
        refine XW.bk B [(50, .aload_n 0), (51, .dup), (52, .getfield 19), (55, .iconst 1), (56, .iadd), (57, .putfield 19)] (by decide +kernel) (pc1 := 60) (ls1 := [some (aR 3 0), some (aR 1 0)]) (st1 := []) (σ1 := (sI q4 3 0 4 ((q4.1 3 0 4) + (1 : Int32)))) (P := []) rfl trivial ?_
        cases hm
        exact XW.vret B q (by decide +kernel)
      · rw [if_neg h3] at hm
        cases hm
        exact XW.vret B q (by decide +kernel)
