def m_X2_arrive (σ : SS) : SS :=
  if (σ.1 22 0 9) = (-2000000000 : Int32) then
    (sI (sI (sI σ 22 0 0 (0 : Int32)) 22 0 5 ((σ.1 22 0 5) + (1 : Int32))) 22 0 9 (m_X7_left (σ.1 22 0 4) σ))
  else
  if (σ.1 22 0 9) ≤ (m_X7_left (σ.1 22 0 4) σ) then
    (sI (sI σ 22 0 0 (0 : Int32)) 22 0 5 ((σ.1 22 0 5) + (1 : Int32)))
  else
  (sI (sI (sI σ 22 0 0 (0 : Int32)) 22 0 5 ((σ.1 22 0 5) + (1 : Int32))) 22 0 9 (m_X7_left (σ.1 22 0 4) σ))
set_option maxRecDepth 100000 in
set_option maxHeartbeats 4000000 in
theorem c_X2_arrive (σ : SS) {σ' : SS} (hm : m_X2_arrive σ = σ') : XM LC 2 M_X2_arrive [aR 21 0] σ none σ' := by
  refine XM.of (K := K2) (by decide) (by decide +kernel) K2_ok (Nat.le_of_ble_eq_true rfl) (fun Γ B q => ?_)
  unfold m_X2_arrive at hm
  refine XW.bk B [(0, .aload_n 0), (1, .getfield 25), (4, .aload_n 0), (5, .getfield 12), (8, .getfield 52)] (by decide +kernel) (pc1 := 11) (ls1 := [some (aR 21 0), none]) (st1 := [aI (σ.1 22 0 4), aR 14 0]) (σ1 := σ) (P := []) rfl trivial ?_
  refine XW.callV B (M := M_X7_left) (t := 14) (j := 0) (cn := 1) (as := [aI (σ.1 22 0 4)]) (c_X7_left (σ.1 22 0 4) σ rfl) (by decide) wV_X7_left wN_X7_left lk_X2_94 rfl rfl rfl (by decide) rfl (Nat.le_of_ble_eq_true rfl) (by decide +kernel) ?_
  refine XW.bk B [(14, .istore_n 1), (15, .aload_n 0), (16, .getfield 12), (19, .iconst 0)] (by decide +kernel) (pc1 := 20) (ls1 := [some (aR 21 0), some (aI (m_X7_left (σ.1 22 0 4) σ))]) (st1 := [aI (0 : Int32), aR 22 0]) (σ1 := σ) (P := []) rfl trivial ?_
  refine XW.putz B (x := 29) (ci := 4) (k := 0) (cn := 1) ⟨_, _, _, rfl, by decide, GW_1 228 rfl rfl, rfl, rfl, by decide +kernel⟩ rfl rfl (by decide) (by decide) (by decide +kernel) ?_
  refine XW.bb B [(23, .aload_n 0), (24, .getfield 12), (27, .dup), (28, .getfield 98), (31, .iconst 1), (32, .iadd), (33, .putfield 98), (36, .aload_n 0), (37, .getfield 12), (40, .getfield 101), (43, .ldc 104)] (by decide +kernel) (pc1 := 45) (ls1 := [some (aR 21 0), some (aI (m_X7_left (σ.1 22 0 4) σ))]) (st1 := [aI (-2000000000 : Int32), aI (σ.1 22 0 9)]) (σ1 := (sI (sI σ 22 0 0 (0 : Int32)) 22 0 5 ((σ.1 22 0 5) + (1 : Int32)))) (P := []) (i := .if_icmp .eq 14) (tgt := 59) (q := (σ.1 22 0 9) = (-2000000000 : Int32)) rfl trivial (by decide +kernel) rfl (by decide) (fun h1 => ?_) (fun h1 => ?_)
  · rw [if_pos h1] at hm
    refine XW.bk B [(59, .aload_n 0), (60, .getfield 12), (63, .iload_n 1), (64, .putfield 101)] (by decide +kernel) (pc1 := 67) (ls1 := [some (aR 21 0), some (aI (m_X7_left (σ.1 22 0 4) σ))]) (st1 := []) (σ1 := (sI (sI (sI σ 22 0 0 (0 : Int32)) 22 0 5 ((σ.1 22 0 5) + (1 : Int32))) 22 0 9 (m_X7_left (σ.1 22 0 4) σ))) (P := []) rfl trivial ?_
    cases hm
    exact XW.vret B q (by decide +kernel)
  · rw [if_neg h1] at hm
    refine XW.bb B [(48, .iload_n 1), (49, .aload_n 0), (50, .getfield 12), (53, .getfield 101)] (by decide +kernel) (pc1 := 56) (ls1 := [some (aR 21 0), some (aI (m_X7_left (σ.1 22 0 4) σ))]) (st1 := [aI (σ.1 22 0 9), aI (m_X7_left (σ.1 22 0 4) σ)]) (σ1 := (sI (sI σ 22 0 0 (0 : Int32)) 22 0 5 ((σ.1 22 0 5) + (1 : Int32)))) (P := []) (i := .if_icmp .ge 11) (tgt := 67) (q := (σ.1 22 0 9) ≤ (m_X7_left (σ.1 22 0 4) σ)) rfl trivial (by decide +kernel) rfl (by decide) (fun h2 => ?_) (fun h2 => ?_)
    · rw [if_pos h2] at hm
      cases hm
      exact XW.vret B q (by decide +kernel)
    · rw [if_neg h2] at hm
      refine XW.bk B [(59, .aload_n 0), (60, .getfield 12), (63, .iload_n 1), (64, .putfield 101)] (by decide +kernel) (pc1 := 67) (ls1 := [some (aR 21 0), some (aI (m_X7_left (σ.1 22 0 4) σ))]) (st1 := []) (σ1 := (sI (sI (sI σ 22 0 0 (0 : Int32)) 22 0 5 ((σ.1 22 0 5) + (1 : Int32))) 22 0 9 (m_X7_left (σ.1 22 0 4) σ))) (P := []) rfl trivial ?_
      cases hm
      exact XW.vret B q (by decide +kernel)

def m_X2_bear (x1 : Int32) (x2 : Int32) (σ : SS) : Option (Int32 × SS) :=
  bnT (m_X7_supposeNow σ) (fun q1 =>
  Option.bind (m_X7_inMinute (q1.1 22 0 1) x1 (q1.1 22 0 2) q1) (fun q2 =>
  if x1 = (q2.2.1 22 0 3) then
    if x2 = (0 : Int32) then
      if (m_X7_isTooMuch (((q1.1 22 0 4) + q2.1) + (0 : Int32)) (sI (sI q2.2 22 0 3 x1) 22 0 4 (((q1.1 22 0 4) + q2.1) + (0 : Int32)))) = (0 : Int32) then
        if (q2.2.1 22 0 1) = ((q2.2.1 1 0 1) - (1 : Int32)) then
          bnT (m_X2_arrive (sI (sI q2.2 22 0 3 x1) 22 0 4 (((q1.1 22 0 4) + q2.1) + (0 : Int32)))) (fun q7 =>
          some ((1 : Int32), q7))
        else
        some ((1 : Int32), (sI (sI q2.2 22 0 3 x1) 22 0 4 (((q1.1 22 0 4) + q2.1) + (0 : Int32))))
      else
      some ((0 : Int32), (sI (sI (sI (sI q2.2 22 0 3 x1) 22 0 4 (((q1.1 22 0 4) + q2.1) + (0 : Int32))) 22 0 0 (0 : Int32)) 22 0 6 ((q2.2.1 22 0 6) + (1 : Int32))))
    else
    if (m_X8_windIn (q2.2.1 22 0 1) (q2.2.1 22 0 2) q2.2) = (0 : Int32) then
      if (m_X7_isTooMuch (if (0 : Int32) < ((((q1.1 22 0 4) + q2.1) + (0 : Int32)) - (3 : Int32)) then ((((q1.1 22 0 4) + q2.1) + (0 : Int32)) - (3 : Int32)) else (0 : Int32)) (sI (sI q2.2 22 0 3 x1) 22 0 4 (if (0 : Int32) < ((((q1.1 22 0 4) + q2.1) + (0 : Int32)) - (3 : Int32)) then ((((q1.1 22 0 4) + q2.1) + (0 : Int32)) - (3 : Int32)) else (0 : Int32)))) = (0 : Int32) then
        some ((1 : Int32), (sI (sI q2.2 22 0 3 x1) 22 0 4 (if (0 : Int32) < ((((q1.1 22 0 4) + q2.1) + (0 : Int32)) - (3 : Int32)) then ((((q1.1 22 0 4) + q2.1) + (0 : Int32)) - (3 : Int32)) else (0 : Int32))))
      else
      some ((0 : Int32), (sI (sI (sI (sI q2.2 22 0 3 x1) 22 0 4 (if (0 : Int32) < ((((q1.1 22 0 4) + q2.1) + (0 : Int32)) - (3 : Int32)) then ((((q1.1 22 0 4) + q2.1) + (0 : Int32)) - (3 : Int32)) else (0 : Int32))) 22 0 0 (0 : Int32)) 22 0 6 ((q2.2.1 22 0 6) + (1 : Int32))))
    else
    if (m_X7_isTooMuch (((q1.1 22 0 4) + q2.1) + (0 : Int32)) (sI (sI q2.2 22 0 3 x1) 22 0 4 (((q1.1 22 0 4) + q2.1) + (0 : Int32)))) = (0 : Int32) then
      some ((1 : Int32), (sI (sI q2.2 22 0 3 x1) 22 0 4 (((q1.1 22 0 4) + q2.1) + (0 : Int32))))
    else
    some ((0 : Int32), (sI (sI (sI (sI q2.2 22 0 3 x1) 22 0 4 (((q1.1 22 0 4) + q2.1) + (0 : Int32))) 22 0 0 (0 : Int32)) 22 0 6 ((q2.2.1 22 0 6) + (1 : Int32))))
  else
  if x2 = (0 : Int32) then
    if (m_X7_isTooMuch (((q1.1 22 0 4) + q2.1) + (1 : Int32)) (sI (sI q2.2 22 0 3 x1) 22 0 4 (((q1.1 22 0 4) + q2.1) + (1 : Int32)))) = (0 : Int32) then
      if (q2.2.1 22 0 1) = ((q2.2.1 1 0 1) - (1 : Int32)) then
        bnT (m_X2_arrive (sI (sI q2.2 22 0 3 x1) 22 0 4 (((q1.1 22 0 4) + q2.1) + (1 : Int32)))) (fun q14 =>
        some ((1 : Int32), q14))
      else
      some ((1 : Int32), (sI (sI q2.2 22 0 3 x1) 22 0 4 (((q1.1 22 0 4) + q2.1) + (1 : Int32))))
    else
    some ((0 : Int32), (sI (sI (sI (sI q2.2 22 0 3 x1) 22 0 4 (((q1.1 22 0 4) + q2.1) + (1 : Int32))) 22 0 0 (0 : Int32)) 22 0 6 ((q2.2.1 22 0 6) + (1 : Int32))))
  else
  if (m_X8_windIn (q2.2.1 22 0 1) (q2.2.1 22 0 2) q2.2) = (0 : Int32) then
    if (m_X7_isTooMuch (if (0 : Int32) < ((((q1.1 22 0 4) + q2.1) + (1 : Int32)) - (3 : Int32)) then ((((q1.1 22 0 4) + q2.1) + (1 : Int32)) - (3 : Int32)) else (0 : Int32)) (sI (sI q2.2 22 0 3 x1) 22 0 4 (if (0 : Int32) < ((((q1.1 22 0 4) + q2.1) + (1 : Int32)) - (3 : Int32)) then ((((q1.1 22 0 4) + q2.1) + (1 : Int32)) - (3 : Int32)) else (0 : Int32)))) = (0 : Int32) then
      some ((1 : Int32), (sI (sI q2.2 22 0 3 x1) 22 0 4 (if (0 : Int32) < ((((q1.1 22 0 4) + q2.1) + (1 : Int32)) - (3 : Int32)) then ((((q1.1 22 0 4) + q2.1) + (1 : Int32)) - (3 : Int32)) else (0 : Int32))))
    else
    some ((0 : Int32), (sI (sI (sI (sI q2.2 22 0 3 x1) 22 0 4 (if (0 : Int32) < ((((q1.1 22 0 4) + q2.1) + (1 : Int32)) - (3 : Int32)) then ((((q1.1 22 0 4) + q2.1) + (1 : Int32)) - (3 : Int32)) else (0 : Int32))) 22 0 0 (0 : Int32)) 22 0 6 ((q2.2.1 22 0 6) + (1 : Int32))))
  else
  if (m_X7_isTooMuch (((q1.1 22 0 4) + q2.1) + (1 : Int32)) (sI (sI q2.2 22 0 3 x1) 22 0 4 (((q1.1 22 0 4) + q2.1) + (1 : Int32)))) = (0 : Int32) then
    some ((1 : Int32), (sI (sI q2.2 22 0 3 x1) 22 0 4 (((q1.1 22 0 4) + q2.1) + (1 : Int32))))
  else
  some ((0 : Int32), (sI (sI (sI (sI q2.2 22 0 3 x1) 22 0 4 (((q1.1 22 0 4) + q2.1) + (1 : Int32))) 22 0 0 (0 : Int32)) 22 0 6 ((q2.2.1 22 0 6) + (1 : Int32))))))
set_option maxRecDepth 100000 in
set_option maxHeartbeats 4000000 in
theorem c_X2_bear (x1 : Int32) (x2 : Int32) (σ : SS) {r : Int32} {σ' : SS} (hm : m_X2_bear x1 x2 σ = some (r, σ')) : XM LC 5 M_X2_bear [aR 21 0, aI x1, aI x2] σ (some (aI r)) σ' := by
  refine XM.of (K := K2) (by decide) (by decide +kernel) K2_ok (Nat.le_of_ble_eq_true rfl) (fun Γ B q => ?_)
  unfold m_X2_bear at hm
  refine XW.bk B [(0, .aload_n 0), (1, .getfield 25)] (by decide +kernel) (pc1 := 4) (ls1 := [some (aR 21 0), some (aI x1), some (aI x2), none]) (st1 := [aR 14 0]) (σ1 := σ) (P := []) rfl trivial ?_
  obtain ⟨q1, hq1, hm⟩ := bnT_eq hm
  refine XW.callV B (M := M_X7_supposeNow) (t := 14) (j := 0) (cn := 1) (as := []) (c_X7_supposeNow σ hq1) (by decide) wV_X7_supposeNow wN_X7_supposeNow lk_X2_65 rfl rfl rfl (by decide) rfl (Nat.le_of_ble_eq_true rfl) (by decide +kernel) ?_
  refine XW.bk B [(7, .aload_n 0), (8, .getfield 12), (11, .getfield 52), (14, .aload_n 0), (15, .getfield 25), (18, .aload_n 0), (19, .getfield 12), (22, .getfield 43), (25, .iload_n 1), (26, .aload_n 0), (27, .getfield 12), (30, .getfield 46)] (by decide +kernel) (pc1 := 33) (ls1 := [some (aR 21 0), some (aI x1), some (aI x2), none]) (st1 := [aI (q1.1 22 0 2), aI x1, aI (q1.1 22 0 1), aR 14 0, aI (q1.1 22 0 4)]) (σ1 := q1) (P := []) rfl trivial ?_
  obtain ⟨q2, hq2, hm⟩ := obind_eq hm
  refine XW.callV B (M := M_X7_inMinute) (t := 14) (j := 0) (cn := 1) (as := [aI (q1.1 22 0 1), aI x1, aI (q1.1 22 0 2)]) (c_X7_inMinute (q1.1 22 0 1) x1 (q1.1 22 0 2) q1 hq2) (by decide) wV_X7_inMinute wN_X7_inMinute lk_X2_70 rfl rfl rfl (by decide) rfl (Nat.le_of_ble_eq_true rfl) (by decide +kernel) ?_
  refine XW.bn B [(36, .iadd), (37, .iload_n 1), (38, .aload_n 0), (39, .getfield 12), (42, .getfield 49)] (by decide +kernel) (pc1 := 45) (ls1 := [some (aR 21 0), some (aI x1), some (aI x2), none]) (st1 := [aI (q2.2.1 22 0 3), aI x1, aI ((q1.1 22 0 4) + q2.1)]) (σ1 := q2.2) (P := []) (i := .if_icmp .ne 7) (tgt := 52) (q := x1 = (q2.2.1 22 0 3)) rfl trivial (by decide +kernel) rfl (by decide) (fun h3 => ?_) (fun h3 => ?_)
  · rw [if_pos h3] at hm
    refine XW.bb B [(48, .iconst 0), (49, .goto 4), (53, .iadd), (54, .istore_n 3), (55, .iload_n 2)] (by decide +kernel) (pc1 := 56) (ls1 := [some (aR 21 0), some (aI x1), some (aI x2), some (aI (((q1.1 22 0 4) + q2.1) + (0 : Int32)))]) (st1 := [aI x2]) (σ1 := q2.2) (P := []) (i := .ifCond .eq 35) (tgt := 91) (q := x2 = (0 : Int32)) rfl trivial (by decide +kernel) rfl (by decide) (fun h4 => ?_) (fun h4 => ?_)
    · rw [if_pos h4] at hm
      refine XW.bk B [(91, .aload_n 0), (92, .getfield 12), (95, .iload_n 1), (96, .putfield 49), (99, .aload_n 0), (100, .getfield 12), (103, .iload_n 3), (104, .putfield 52), (107, .aload_n 0), (108, .getfield 25), (111, .iload_n 3)] (by decide +kernel) (pc1 := 112) (ls1 := [some (aR 21 0), some (aI x1), some (aI x2), some (aI (((q1.1 22 0 4) + q2.1) + (0 : Int32)))]) (st1 := [aI (((q1.1 22 0 4) + q2.1) + (0 : Int32)), aR 14 0]) (σ1 := (sI (sI q2.2 22 0 3 x1) 22 0 4 (((q1.1 22 0 4) + q2.1) + (0 : Int32)))) (P := []) rfl trivial ?_
      refine XW.callV B (M := M_X7_isTooMuch) (t := 14) (j := 0) (cn := 1) (as := [aI (((q1.1 22 0 4) + q2.1) + (0 : Int32))]) (c_X7_isTooMuch (((q1.1 22 0 4) + q2.1) + (0 : Int32)) (sI (sI q2.2 22 0 3 x1) 22 0 4 (((q1.1 22 0 4) + q2.1) + (0 : Int32))) rfl) (by decide) wV_X7_isTooMuch wN_X7_isTooMuch lk_X2_84 rfl rfl rfl (by decide) rfl (Nat.le_of_ble_eq_true rfl) (by decide +kernel) ?_
      refine XW.bb B [] (by decide +kernel) (pc1 := 115) (ls1 := [some (aR 21 0), some (aI x1), some (aI x2), some (aI (((q1.1 22 0 4) + q2.1) + (0 : Int32)))]) (st1 := [aI (m_X7_isTooMuch (((q1.1 22 0 4) + q2.1) + (0 : Int32)) (sI (sI q2.2 22 0 3 x1) 22 0 4 (((q1.1 22 0 4) + q2.1) + (0 : Int32))))]) (σ1 := (sI (sI q2.2 22 0 3 x1) 22 0 4 (((q1.1 22 0 4) + q2.1) + (0 : Int32)))) (P := []) (i := .ifCond .eq 26) (tgt := 141) (q := (m_X7_isTooMuch (((q1.1 22 0 4) + q2.1) + (0 : Int32)) (sI (sI q2.2 22 0 3 x1) 22 0 4 (((q1.1 22 0 4) + q2.1) + (0 : Int32)))) = (0 : Int32)) rfl trivial (by decide +kernel) rfl (by decide) (fun h5 => ?_) (fun h5 => ?_)
      · rw [if_pos h5] at hm
        refine XW.bn B [(141, .iload_n 2)] (by decide +kernel) (pc1 := 142) (ls1 := [some (aR 21 0), some (aI x1), some (aI x2), some (aI (((q1.1 22 0 4) + q2.1) + (0 : Int32)))]) (st1 := [aI x2]) (σ1 := (sI (sI q2.2 22 0 3 x1) 22 0 4 (((q1.1 22 0 4) + q2.1) + (0 : Int32)))) (P := []) (i := .ifCond .ne 26) (tgt := 168) (q := x2 = (0 : Int32)) rfl trivial (by decide +kernel) rfl (by decide) (fun _ => ?_) (fun h => absurd h4 h)
        refine XW.bn B [(145, .aload_n 0), (146, .getfield 12), (149, .getfield 43), (152, .aload_n 0), (153, .getfield 21), (156, .getfield 33), (159, .iconst 1), (160, .isub)] (by decide +kernel) (pc1 := 161) (ls1 := [some (aR 21 0), some (aI x1), some (aI x2), some (aI (((q1.1 22 0 4) + q2.1) + (0 : Int32)))]) (st1 := [aI ((q2.2.1 1 0 1) - (1 : Int32)), aI (q2.2.1 22 0 1)]) (σ1 := (sI (sI q2.2 22 0 3 x1) 22 0 4 (((q1.1 22 0 4) + q2.1) + (0 : Int32)))) (P := []) (i := .if_icmp .ne 7) (tgt := 168) (q := (q2.2.1 22 0 1) = ((q2.2.1 1 0 1) - (1 : Int32))) rfl trivial (by decide +kernel) rfl (by decide) (fun h6 => ?_) (fun h6 => ?_)
        · rw [if_pos h6] at hm
          refine XW.bk B [(164, .aload_n 0)] (by decide +kernel) (pc1 := 165) (ls1 := [some (aR 21 0), some (aI x1), some (aI x2), some (aI (((q1.1 22 0 4) + q2.1) + (0 : Int32)))]) (st1 := [aR 21 0]) (σ1 := (sI (sI q2.2 22 0 3 x1) 22 0 4 (((q1.1 22 0 4) + q2.1) + (0 : Int32)))) (P := []) rfl trivial ?_
          obtain ⟨q7, hq7, hm⟩ := bnT_eq hm
          refine XW.callV B (M := M_X2_arrive) (t := 21) (j := 0) (cn := 1) (as := []) (c_X2_arrive (sI (sI q2.2 22 0 3 x1) 22 0 4 (((q1.1 22 0 4) + q2.1) + (0 : Int32))) hq7) (by decide) wV_X2_arrive wN_X2_arrive lk_X2_91 rfl rfl rfl (by decide) rfl (Nat.le_of_ble_eq_true rfl) (by decide +kernel) ?_
          refine XW.bk B [(168, .iconst 1)] (by decide +kernel) (pc1 := 169) (ls1 := [some (aR 21 0), some (aI x1), some (aI x2), some (aI (((q1.1 22 0 4) + q2.1) + (0 : Int32)))]) (st1 := [aI (1 : Int32)]) (σ1 := q7) (P := []) rfl trivial ?_
          cases hm
          exact XW.iret B q (by decide +kernel)
        · rw [if_neg h6] at hm
          refine XW.bk B [(168, .iconst 1)] (by decide +kernel) (pc1 := 169) (ls1 := [some (aR 21 0), some (aI x1), some (aI x2), some (aI (((q1.1 22 0 4) + q2.1) + (0 : Int32)))]) (st1 := [aI (1 : Int32)]) (σ1 := (sI (sI q2.2 22 0 3 x1) 22 0 4 (((q1.1 22 0 4) + q2.1) + (0 : Int32)))) (P := []) rfl trivial ?_
          cases hm
          exact XW.iret B q (by decide +kernel)
      · rw [if_neg h5] at hm
        refine XW.bk B [(118, .aload_n 0), (119, .getfield 12), (122, .iconst 0)] (by decide +kernel) (pc1 := 123) (ls1 := [some (aR 21 0), some (aI x1), some (aI x2), some (aI (((q1.1 22 0 4) + q2.1) + (0 : Int32)))]) (st1 := [aI (0 : Int32), aR 22 0]) (σ1 := (sI (sI q2.2 22 0 3 x1) 22 0 4 (((q1.1 22 0 4) + q2.1) + (0 : Int32)))) (P := []) rfl trivial ?_
        refine XW.putz B (x := 29) (ci := 4) (k := 0) (cn := 1) ⟨_, _, _, rfl, by decide, GW_1 228 rfl rfl, rfl, rfl, by decide +kernel⟩ rfl rfl (by decide) (by decide) (by decide +kernel) ?_
        refine XW.bk B [(126, .aload_n 0), (127, .getfield 12), (130, .dup), (131, .getfield 88), (134, .iconst 1), (135, .iadd), (136, .putfield 88), (139, .iconst 0)] (by decide +kernel) (pc1 := 140) (ls1 := [some (aR 21 0), some (aI x1), some (aI x2), some (aI (((q1.1 22 0 4) + q2.1) + (0 : Int32)))]) (st1 := [aI (0 : Int32)]) (σ1 := (sI (sI (sI (sI q2.2 22 0 3 x1) 22 0 4 (((q1.1 22 0 4) + q2.1) + (0 : Int32))) 22 0 0 (0 : Int32)) 22 0 6 ((q2.2.1 22 0 6) + (1 : Int32)))) (P := []) rfl trivial ?_
        cases hm
        exact XW.iret B q (by decide +kernel)
    · rw [if_neg h4] at hm
      refine XW.bk B [(59, .aload_n 0), (60, .getfield 21), (63, .aload_n 0), (64, .getfield 12), (67, .getfield 43), (70, .aload_n 0), (71, .getfield 12), (74, .getfield 46)] (by decide +kernel) (pc1 := 77) (ls1 := [some (aR 21 0), some (aI x1), some (aI x2), some (aI (((q1.1 22 0 4) + q2.1) + (0 : Int32)))]) (st1 := [aI (q2.2.1 22 0 2), aI (q2.2.1 22 0 1), aR 1 0]) (σ1 := q2.2) (P := []) rfl trivial ?_
      refine XW.callV B (M := M_X8_windIn) (t := 1) (j := 0) (cn := 1) (as := [aI (q2.2.1 22 0 1), aI (q2.2.1 22 0 2)]) (c_X8_windIn (q2.2.1 22 0 1) (q2.2.1 22 0 2) q2.2 rfl) (by decide) wV_X8_windIn wN_X8_windIn lk_X2_74 rfl rfl rfl (by decide) rfl (Nat.le_of_ble_eq_true rfl) (by decide +kernel) ?_
      refine XW.bn B [] (by decide +kernel) (pc1 := 80) (ls1 := [some (aR 21 0), some (aI x1), some (aI x2), some (aI (((q1.1 22 0 4) + q2.1) + (0 : Int32)))]) (st1 := [aI (m_X8_windIn (q2.2.1 22 0 1) (q2.2.1 22 0 2) q2.2)]) (σ1 := q2.2) (P := []) (i := .ifCond .ne 11) (tgt := 91) (q := (m_X8_windIn (q2.2.1 22 0 1) (q2.2.1 22 0 2) q2.2) = (0 : Int32)) rfl trivial (by decide +kernel) rfl (by decide) (fun h8 => ?_) (fun h8 => ?_)
      · rw [if_pos h8] at hm
        refine XW.bk B [(83, .iconst 0), (84, .iload_n 3), (85, .iconst 3), (86, .isub), (87, .invokestatic 79), (90, .istore_n 3), (91, .aload_n 0), (92, .getfield 12), (95, .iload_n 1), (96, .putfield 49), (99, .aload_n 0), (100, .getfield 12), (103, .iload_n 3), (104, .putfield 52), (107, .aload_n 0), (108, .getfield 25), (111, .iload_n 3)] (by decide +kernel) (pc1 := 112) (ls1 := [some (aR 21 0), some (aI x1), some (aI x2), some (aI (if (0 : Int32) < ((((q1.1 22 0 4) + q2.1) + (0 : Int32)) - (3 : Int32)) then ((((q1.1 22 0 4) + q2.1) + (0 : Int32)) - (3 : Int32)) else (0 : Int32)))]) (st1 := [aI (if (0 : Int32) < ((((q1.1 22 0 4) + q2.1) + (0 : Int32)) - (3 : Int32)) then ((((q1.1 22 0 4) + q2.1) + (0 : Int32)) - (3 : Int32)) else (0 : Int32)), aR 14 0]) (σ1 := (sI (sI q2.2 22 0 3 x1) 22 0 4 (if (0 : Int32) < ((((q1.1 22 0 4) + q2.1) + (0 : Int32)) - (3 : Int32)) then ((((q1.1 22 0 4) + q2.1) + (0 : Int32)) - (3 : Int32)) else (0 : Int32)))) (P := [(([] : List AV).map (fun v => (rv (fun _ _ => 0) v).category)).sum ≤ 8]) rfl ⟨(Nat.le_of_ble_eq_true rfl), trivial⟩ ?_
        refine XW.callV B (M := M_X7_isTooMuch) (t := 14) (j := 0) (cn := 1) (as := [aI (if (0 : Int32) < ((((q1.1 22 0 4) + q2.1) + (0 : Int32)) - (3 : Int32)) then ((((q1.1 22 0 4) + q2.1) + (0 : Int32)) - (3 : Int32)) else (0 : Int32))]) (c_X7_isTooMuch (if (0 : Int32) < ((((q1.1 22 0 4) + q2.1) + (0 : Int32)) - (3 : Int32)) then ((((q1.1 22 0 4) + q2.1) + (0 : Int32)) - (3 : Int32)) else (0 : Int32)) (sI (sI q2.2 22 0 3 x1) 22 0 4 (if (0 : Int32) < ((((q1.1 22 0 4) + q2.1) + (0 : Int32)) - (3 : Int32)) then ((((q1.1 22 0 4) + q2.1) + (0 : Int32)) - (3 : Int32)) else (0 : Int32))) rfl) (by decide) wV_X7_isTooMuch wN_X7_isTooMuch lk_X2_84 rfl rfl rfl (by decide) rfl (Nat.le_of_ble_eq_true rfl) (by decide +kernel) ?_
        refine XW.bb B [] (by decide +kernel) (pc1 := 115) (ls1 := [some (aR 21 0), some (aI x1), some (aI x2), some (aI (if (0 : Int32) < ((((q1.1 22 0 4) + q2.1) + (0 : Int32)) - (3 : Int32)) then ((((q1.1 22 0 4) + q2.1) + (0 : Int32)) - (3 : Int32)) else (0 : Int32)))]) (st1 := [aI (m_X7_isTooMuch (if (0 : Int32) < ((((q1.1 22 0 4) + q2.1) + (0 : Int32)) - (3 : Int32)) then ((((q1.1 22 0 4) + q2.1) + (0 : Int32)) - (3 : Int32)) else (0 : Int32)) (sI (sI q2.2 22 0 3 x1) 22 0 4 (if (0 : Int32) < ((((q1.1 22 0 4) + q2.1) + (0 : Int32)) - (3 : Int32)) then ((((q1.1 22 0 4) + q2.1) + (0 : Int32)) - (3 : Int32)) else (0 : Int32))))]) (σ1 := (sI (sI q2.2 22 0 3 x1) 22 0 4 (if (0 : Int32) < ((((q1.1 22 0 4) + q2.1) + (0 : Int32)) - (3 : Int32)) then ((((q1.1 22 0 4) + q2.1) + (0 : Int32)) - (3 : Int32)) else (0 : Int32)))) (P := []) (i := .ifCond .eq 26) (tgt := 141) (q := (m_X7_isTooMuch (if (0 : Int32) < ((((q1.1 22 0 4) + q2.1) + (0 : Int32)) - (3 : Int32)) then ((((q1.1 22 0 4) + q2.1) + (0 : Int32)) - (3 : Int32)) else (0 : Int32)) (sI (sI q2.2 22 0 3 x1) 22 0 4 (if (0 : Int32) < ((((q1.1 22 0 4) + q2.1) + (0 : Int32)) - (3 : Int32)) then ((((q1.1 22 0 4) + q2.1) + (0 : Int32)) - (3 : Int32)) else (0 : Int32)))) = (0 : Int32)) rfl trivial (by decide +kernel) rfl (by decide) (fun h9 => ?_) (fun h9 => ?_)
        · rw [if_pos h9] at hm
          refine XW.bn B [(141, .iload_n 2)] (by decide +kernel) (pc1 := 142) (ls1 := [some (aR 21 0), some (aI x1), some (aI x2), some (aI (if (0 : Int32) < ((((q1.1 22 0 4) + q2.1) + (0 : Int32)) - (3 : Int32)) then ((((q1.1 22 0 4) + q2.1) + (0 : Int32)) - (3 : Int32)) else (0 : Int32)))]) (st1 := [aI x2]) (σ1 := (sI (sI q2.2 22 0 3 x1) 22 0 4 (if (0 : Int32) < ((((q1.1 22 0 4) + q2.1) + (0 : Int32)) - (3 : Int32)) then ((((q1.1 22 0 4) + q2.1) + (0 : Int32)) - (3 : Int32)) else (0 : Int32)))) (P := []) (i := .ifCond .ne 26) (tgt := 168) (q := x2 = (0 : Int32)) rfl trivial (by decide +kernel) rfl (by decide) (fun h => absurd h h4) (fun _ => ?_)
          refine XW.bk B [(168, .iconst 1)] (by decide +kernel) (pc1 := 169) (ls1 := [some (aR 21 0), some (aI x1), some (aI x2), some (aI (if (0 : Int32) < ((((q1.1 22 0 4) + q2.1) + (0 : Int32)) - (3 : Int32)) then ((((q1.1 22 0 4) + q2.1) + (0 : Int32)) - (3 : Int32)) else (0 : Int32)))]) (st1 := [aI (1 : Int32)]) (σ1 := (sI (sI q2.2 22 0 3 x1) 22 0 4 (if (0 : Int32) < ((((q1.1 22 0 4) + q2.1) + (0 : Int32)) - (3 : Int32)) then ((((q1.1 22 0 4) + q2.1) + (0 : Int32)) - (3 : Int32)) else (0 : Int32)))) (P := []) rfl trivial ?_
          cases hm
          exact XW.iret B q (by decide +kernel)
        · rw [if_neg h9] at hm
          refine XW.bk B [(118, .aload_n 0), (119, .getfield 12), (122, .iconst 0)] (by decide +kernel) (pc1 := 123) (ls1 := [some (aR 21 0), some (aI x1), some (aI x2), some (aI (if (0 : Int32) < ((((q1.1 22 0 4) + q2.1) + (0 : Int32)) - (3 : Int32)) then ((((q1.1 22 0 4) + q2.1) + (0 : Int32)) - (3 : Int32)) else (0 : Int32)))]) (st1 := [aI (0 : Int32), aR 22 0]) (σ1 := (sI (sI q2.2 22 0 3 x1) 22 0 4 (if (0 : Int32) < ((((q1.1 22 0 4) + q2.1) + (0 : Int32)) - (3 : Int32)) then ((((q1.1 22 0 4) + q2.1) + (0 : Int32)) - (3 : Int32)) else (0 : Int32)))) (P := []) rfl trivial ?_
          refine XW.putz B (x := 29) (ci := 4) (k := 0) (cn := 1) ⟨_, _, _, rfl, by decide, GW_1 228 rfl rfl, rfl, rfl, by decide +kernel⟩ rfl rfl (by decide) (by decide) (by decide +kernel) ?_
          refine XW.bk B [(126, .aload_n 0), (127, .getfield 12), (130, .dup), (131, .getfield 88), (134, .iconst 1), (135, .iadd), (136, .putfield 88), (139, .iconst 0)] (by decide +kernel) (pc1 := 140) (ls1 := [some (aR 21 0), some (aI x1), some (aI x2), some (aI (if (0 : Int32) < ((((q1.1 22 0 4) + q2.1) + (0 : Int32)) - (3 : Int32)) then ((((q1.1 22 0 4) + q2.1) + (0 : Int32)) - (3 : Int32)) else (0 : Int32)))]) (st1 := [aI (0 : Int32)]) (σ1 := (sI (sI (sI (sI q2.2 22 0 3 x1) 22 0 4 (if (0 : Int32) < ((((q1.1 22 0 4) + q2.1) + (0 : Int32)) - (3 : Int32)) then ((((q1.1 22 0 4) + q2.1) + (0 : Int32)) - (3 : Int32)) else (0 : Int32))) 22 0 0 (0 : Int32)) 22 0 6 ((q2.2.1 22 0 6) + (1 : Int32)))) (P := []) rfl trivial ?_
          cases hm
          exact XW.iret B q (by decide +kernel)
      · rw [if_neg h8] at hm
        refine XW.bk B [(91, .aload_n 0), (92, .getfield 12), (95, .iload_n 1), (96, .putfield 49), (99, .aload_n 0), (100, .getfield 12), (103, .iload_n 3), (104, .putfield 52), (107, .aload_n 0), (108, .getfield 25), (111, .iload_n 3)] (by decide +kernel) (pc1 := 112) (ls1 := [some (aR 21 0), some (aI x1), some (aI x2), some (aI (((q1.1 22 0 4) + q2.1) + (0 : Int32)))]) (st1 := [aI (((q1.1 22 0 4) + q2.1) + (0 : Int32)), aR 14 0]) (σ1 := (sI (sI q2.2 22 0 3 x1) 22 0 4 (((q1.1 22 0 4) + q2.1) + (0 : Int32)))) (P := []) rfl trivial ?_
        refine XW.callV B (M := M_X7_isTooMuch) (t := 14) (j := 0) (cn := 1) (as := [aI (((q1.1 22 0 4) + q2.1) + (0 : Int32))]) (c_X7_isTooMuch (((q1.1 22 0 4) + q2.1) + (0 : Int32)) (sI (sI q2.2 22 0 3 x1) 22 0 4 (((q1.1 22 0 4) + q2.1) + (0 : Int32))) rfl) (by decide) wV_X7_isTooMuch wN_X7_isTooMuch lk_X2_84 rfl rfl rfl (by decide) rfl (Nat.le_of_ble_eq_true rfl) (by decide +kernel) ?_
        refine XW.bb B [] (by decide +kernel) (pc1 := 115) (ls1 := [some (aR 21 0), some (aI x1), some (aI x2), some (aI (((q1.1 22 0 4) + q2.1) + (0 : Int32)))]) (st1 := [aI (m_X7_isTooMuch (((q1.1 22 0 4) + q2.1) + (0 : Int32)) (sI (sI q2.2 22 0 3 x1) 22 0 4 (((q1.1 22 0 4) + q2.1) + (0 : Int32))))]) (σ1 := (sI (sI q2.2 22 0 3 x1) 22 0 4 (((q1.1 22 0 4) + q2.1) + (0 : Int32)))) (P := []) (i := .ifCond .eq 26) (tgt := 141) (q := (m_X7_isTooMuch (((q1.1 22 0 4) + q2.1) + (0 : Int32)) (sI (sI q2.2 22 0 3 x1) 22 0 4 (((q1.1 22 0 4) + q2.1) + (0 : Int32)))) = (0 : Int32)) rfl trivial (by decide +kernel) rfl (by decide) (fun h10 => ?_) (fun h10 => ?_)
        · rw [if_pos h10] at hm
          refine XW.bn B [(141, .iload_n 2)] (by decide +kernel) (pc1 := 142) (ls1 := [some (aR 21 0), some (aI x1), some (aI x2), some (aI (((q1.1 22 0 4) + q2.1) + (0 : Int32)))]) (st1 := [aI x2]) (σ1 := (sI (sI q2.2 22 0 3 x1) 22 0 4 (((q1.1 22 0 4) + q2.1) + (0 : Int32)))) (P := []) (i := .ifCond .ne 26) (tgt := 168) (q := x2 = (0 : Int32)) rfl trivial (by decide +kernel) rfl (by decide) (fun h => absurd h h4) (fun _ => ?_)
          refine XW.bk B [(168, .iconst 1)] (by decide +kernel) (pc1 := 169) (ls1 := [some (aR 21 0), some (aI x1), some (aI x2), some (aI (((q1.1 22 0 4) + q2.1) + (0 : Int32)))]) (st1 := [aI (1 : Int32)]) (σ1 := (sI (sI q2.2 22 0 3 x1) 22 0 4 (((q1.1 22 0 4) + q2.1) + (0 : Int32)))) (P := []) rfl trivial ?_
          cases hm
          exact XW.iret B q (by decide +kernel)
        · rw [if_neg h10] at hm
          refine XW.bk B [(118, .aload_n 0), (119, .getfield 12), (122, .iconst 0)] (by decide +kernel) (pc1 := 123) (ls1 := [some (aR 21 0), some (aI x1), some (aI x2), some (aI (((q1.1 22 0 4) + q2.1) + (0 : Int32)))]) (st1 := [aI (0 : Int32), aR 22 0]) (σ1 := (sI (sI q2.2 22 0 3 x1) 22 0 4 (((q1.1 22 0 4) + q2.1) + (0 : Int32)))) (P := []) rfl trivial ?_
          refine XW.putz B (x := 29) (ci := 4) (k := 0) (cn := 1) ⟨_, _, _, rfl, by decide, GW_1 228 rfl rfl, rfl, rfl, by decide +kernel⟩ rfl rfl (by decide) (by decide) (by decide +kernel) ?_
          refine XW.bk B [(126, .aload_n 0), (127, .getfield 12), (130, .dup), (131, .getfield 88), (134, .iconst 1), (135, .iadd), (136, .putfield 88), (139, .iconst 0)] (by decide +kernel) (pc1 := 140) (ls1 := [some (aR 21 0), some (aI x1), some (aI x2), some (aI (((q1.1 22 0 4) + q2.1) + (0 : Int32)))]) (st1 := [aI (0 : Int32)]) (σ1 := (sI (sI (sI (sI q2.2 22 0 3 x1) 22 0 4 (((q1.1 22 0 4) + q2.1) + (0 : Int32))) 22 0 0 (0 : Int32)) 22 0 6 ((q2.2.1 22 0 6) + (1 : Int32)))) (P := []) rfl trivial ?_
          cases hm
          exact XW.iret B q (by decide +kernel)
  · rw [if_neg h3] at hm
    refine XW.bb B [(52, .iconst 1), (53, .iadd), (54, .istore_n 3), (55, .iload_n 2)] (by decide +kernel) (pc1 := 56) (ls1 := [some (aR 21 0), some (aI x1), some (aI x2), some (aI (((q1.1 22 0 4) + q2.1) + (1 : Int32)))]) (st1 := [aI x2]) (σ1 := q2.2) (P := []) (i := .ifCond .eq 35) (tgt := 91) (q := x2 = (0 : Int32)) rfl trivial (by decide +kernel) rfl (by decide) (fun h11 => ?_) (fun h11 => ?_)
    · rw [if_pos h11] at hm
      refine XW.bk B [(91, .aload_n 0), (92, .getfield 12), (95, .iload_n 1), (96, .putfield 49), (99, .aload_n 0), (100, .getfield 12), (103, .iload_n 3), (104, .putfield 52), (107, .aload_n 0), (108, .getfield 25), (111, .iload_n 3)] (by decide +kernel) (pc1 := 112) (ls1 := [some (aR 21 0), some (aI x1), some (aI x2), some (aI (((q1.1 22 0 4) + q2.1) + (1 : Int32)))]) (st1 := [aI (((q1.1 22 0 4) + q2.1) + (1 : Int32)), aR 14 0]) (σ1 := (sI (sI q2.2 22 0 3 x1) 22 0 4 (((q1.1 22 0 4) + q2.1) + (1 : Int32)))) (P := []) rfl trivial ?_
      refine XW.callV B (M := M_X7_isTooMuch) (t := 14) (j := 0) (cn := 1) (as := [aI (((q1.1 22 0 4) + q2.1) + (1 : Int32))]) (c_X7_isTooMuch (((q1.1 22 0 4) + q2.1) + (1 : Int32)) (sI (sI q2.2 22 0 3 x1) 22 0 4 (((q1.1 22 0 4) + q2.1) + (1 : Int32))) rfl) (by decide) wV_X7_isTooMuch wN_X7_isTooMuch lk_X2_84 rfl rfl rfl (by decide) rfl (Nat.le_of_ble_eq_true rfl) (by decide +kernel) ?_
      refine XW.bb B [] (by decide +kernel) (pc1 := 115) (ls1 := [some (aR 21 0), some (aI x1), some (aI x2), some (aI (((q1.1 22 0 4) + q2.1) + (1 : Int32)))]) (st1 := [aI (m_X7_isTooMuch (((q1.1 22 0 4) + q2.1) + (1 : Int32)) (sI (sI q2.2 22 0 3 x1) 22 0 4 (((q1.1 22 0 4) + q2.1) + (1 : Int32))))]) (σ1 := (sI (sI q2.2 22 0 3 x1) 22 0 4 (((q1.1 22 0 4) + q2.1) + (1 : Int32)))) (P := []) (i := .ifCond .eq 26) (tgt := 141) (q := (m_X7_isTooMuch (((q1.1 22 0 4) + q2.1) + (1 : Int32)) (sI (sI q2.2 22 0 3 x1) 22 0 4 (((q1.1 22 0 4) + q2.1) + (1 : Int32)))) = (0 : Int32)) rfl trivial (by decide +kernel) rfl (by decide) (fun h12 => ?_) (fun h12 => ?_)
      · rw [if_pos h12] at hm
        refine XW.bn B [(141, .iload_n 2)] (by decide +kernel) (pc1 := 142) (ls1 := [some (aR 21 0), some (aI x1), some (aI x2), some (aI (((q1.1 22 0 4) + q2.1) + (1 : Int32)))]) (st1 := [aI x2]) (σ1 := (sI (sI q2.2 22 0 3 x1) 22 0 4 (((q1.1 22 0 4) + q2.1) + (1 : Int32)))) (P := []) (i := .ifCond .ne 26) (tgt := 168) (q := x2 = (0 : Int32)) rfl trivial (by decide +kernel) rfl (by decide) (fun _ => ?_) (fun h => absurd h11 h)
        refine XW.bn B [(145, .aload_n 0), (146, .getfield 12), (149, .getfield 43), (152, .aload_n 0), (153, .getfield 21), (156, .getfield 33), (159, .iconst 1), (160, .isub)] (by decide +kernel) (pc1 := 161) (ls1 := [some (aR 21 0), some (aI x1), some (aI x2), some (aI (((q1.1 22 0 4) + q2.1) + (1 : Int32)))]) (st1 := [aI ((q2.2.1 1 0 1) - (1 : Int32)), aI (q2.2.1 22 0 1)]) (σ1 := (sI (sI q2.2 22 0 3 x1) 22 0 4 (((q1.1 22 0 4) + q2.1) + (1 : Int32)))) (P := []) (i := .if_icmp .ne 7) (tgt := 168) (q := (q2.2.1 22 0 1) = ((q2.2.1 1 0 1) - (1 : Int32))) rfl trivial (by decide +kernel) rfl (by decide) (fun h13 => ?_) (fun h13 => ?_)
        · rw [if_pos h13] at hm
          refine XW.bk B [(164, .aload_n 0)] (by decide +kernel) (pc1 := 165) (ls1 := [some (aR 21 0), some (aI x1), some (aI x2), some (aI (((q1.1 22 0 4) + q2.1) + (1 : Int32)))]) (st1 := [aR 21 0]) (σ1 := (sI (sI q2.2 22 0 3 x1) 22 0 4 (((q1.1 22 0 4) + q2.1) + (1 : Int32)))) (P := []) rfl trivial ?_
          obtain ⟨q14, hq14, hm⟩ := bnT_eq hm
          refine XW.callV B (M := M_X2_arrive) (t := 21) (j := 0) (cn := 1) (as := []) (c_X2_arrive (sI (sI q2.2 22 0 3 x1) 22 0 4 (((q1.1 22 0 4) + q2.1) + (1 : Int32))) hq14) (by decide) wV_X2_arrive wN_X2_arrive lk_X2_91 rfl rfl rfl (by decide) rfl (Nat.le_of_ble_eq_true rfl) (by decide +kernel) ?_
          refine XW.bk B [(168, .iconst 1)] (by decide +kernel) (pc1 := 169) (ls1 := [some (aR 21 0), some (aI x1), some (aI x2), some (aI (((q1.1 22 0 4) + q2.1) + (1 : Int32)))]) (st1 := [aI (1 : Int32)]) (σ1 := q14) (P := []) rfl trivial ?_
          cases hm
          exact XW.iret B q (by decide +kernel)
        · rw [if_neg h13] at hm
          refine XW.bk B [(168, .iconst 1)] (by decide +kernel) (pc1 := 169) (ls1 := [some (aR 21 0), some (aI x1), some (aI x2), some (aI (((q1.1 22 0 4) + q2.1) + (1 : Int32)))]) (st1 := [aI (1 : Int32)]) (σ1 := (sI (sI q2.2 22 0 3 x1) 22 0 4 (((q1.1 22 0 4) + q2.1) + (1 : Int32)))) (P := []) rfl trivial ?_
          cases hm
          exact XW.iret B q (by decide +kernel)
      · rw [if_neg h12] at hm
        refine XW.bk B [(118, .aload_n 0), (119, .getfield 12), (122, .iconst 0)] (by decide +kernel) (pc1 := 123) (ls1 := [some (aR 21 0), some (aI x1), some (aI x2), some (aI (((q1.1 22 0 4) + q2.1) + (1 : Int32)))]) (st1 := [aI (0 : Int32), aR 22 0]) (σ1 := (sI (sI q2.2 22 0 3 x1) 22 0 4 (((q1.1 22 0 4) + q2.1) + (1 : Int32)))) (P := []) rfl trivial ?_
        refine XW.putz B (x := 29) (ci := 4) (k := 0) (cn := 1) ⟨_, _, _, rfl, by decide, GW_1 228 rfl rfl, rfl, rfl, by decide +kernel⟩ rfl rfl (by decide) (by decide) (by decide +kernel) ?_
        refine XW.bk B [(126, .aload_n 0), (127, .getfield 12), (130, .dup), (131, .getfield 88), (134, .iconst 1), (135, .iadd), (136, .putfield 88), (139, .iconst 0)] (by decide +kernel) (pc1 := 140) (ls1 := [some (aR 21 0), some (aI x1), some (aI x2), some (aI (((q1.1 22 0 4) + q2.1) + (1 : Int32)))]) (st1 := [aI (0 : Int32)]) (σ1 := (sI (sI (sI (sI q2.2 22 0 3 x1) 22 0 4 (((q1.1 22 0 4) + q2.1) + (1 : Int32))) 22 0 0 (0 : Int32)) 22 0 6 ((q2.2.1 22 0 6) + (1 : Int32)))) (P := []) rfl trivial ?_
        cases hm
        exact XW.iret B q (by decide +kernel)
    · rw [if_neg h11] at hm
      refine XW.bk B [(59, .aload_n 0), (60, .getfield 21), (63, .aload_n 0), (64, .getfield 12), (67, .getfield 43), (70, .aload_n 0), (71, .getfield 12), (74, .getfield 46)] (by decide +kernel) (pc1 := 77) (ls1 := [some (aR 21 0), some (aI x1), some (aI x2), some (aI (((q1.1 22 0 4) + q2.1) + (1 : Int32)))]) (st1 := [aI (q2.2.1 22 0 2), aI (q2.2.1 22 0 1), aR 1 0]) (σ1 := q2.2) (P := []) rfl trivial ?_
      refine XW.callV B (M := M_X8_windIn) (t := 1) (j := 0) (cn := 1) (as := [aI (q2.2.1 22 0 1), aI (q2.2.1 22 0 2)]) (c_X8_windIn (q2.2.1 22 0 1) (q2.2.1 22 0 2) q2.2 rfl) (by decide) wV_X8_windIn wN_X8_windIn lk_X2_74 rfl rfl rfl (by decide) rfl (Nat.le_of_ble_eq_true rfl) (by decide +kernel) ?_
      refine XW.bn B [] (by decide +kernel) (pc1 := 80) (ls1 := [some (aR 21 0), some (aI x1), some (aI x2), some (aI (((q1.1 22 0 4) + q2.1) + (1 : Int32)))]) (st1 := [aI (m_X8_windIn (q2.2.1 22 0 1) (q2.2.1 22 0 2) q2.2)]) (σ1 := q2.2) (P := []) (i := .ifCond .ne 11) (tgt := 91) (q := (m_X8_windIn (q2.2.1 22 0 1) (q2.2.1 22 0 2) q2.2) = (0 : Int32)) rfl trivial (by decide +kernel) rfl (by decide) (fun h15 => ?_) (fun h15 => ?_)
      · rw [if_pos h15] at hm
        refine XW.bk B [(83, .iconst 0), (84, .iload_n 3), (85, .iconst 3), (86, .isub), (87, .invokestatic 79), (90, .istore_n 3), (91, .aload_n 0), (92, .getfield 12), (95, .iload_n 1), (96, .putfield 49), (99, .aload_n 0), (100, .getfield 12), (103, .iload_n 3), (104, .putfield 52), (107, .aload_n 0), (108, .getfield 25), (111, .iload_n 3)] (by decide +kernel) (pc1 := 112) (ls1 := [some (aR 21 0), some (aI x1), some (aI x2), some (aI (if (0 : Int32) < ((((q1.1 22 0 4) + q2.1) + (1 : Int32)) - (3 : Int32)) then ((((q1.1 22 0 4) + q2.1) + (1 : Int32)) - (3 : Int32)) else (0 : Int32)))]) (st1 := [aI (if (0 : Int32) < ((((q1.1 22 0 4) + q2.1) + (1 : Int32)) - (3 : Int32)) then ((((q1.1 22 0 4) + q2.1) + (1 : Int32)) - (3 : Int32)) else (0 : Int32)), aR 14 0]) (σ1 := (sI (sI q2.2 22 0 3 x1) 22 0 4 (if (0 : Int32) < ((((q1.1 22 0 4) + q2.1) + (1 : Int32)) - (3 : Int32)) then ((((q1.1 22 0 4) + q2.1) + (1 : Int32)) - (3 : Int32)) else (0 : Int32)))) (P := [(([] : List AV).map (fun v => (rv (fun _ _ => 0) v).category)).sum ≤ 8]) rfl ⟨(Nat.le_of_ble_eq_true rfl), trivial⟩ ?_
        refine XW.callV B (M := M_X7_isTooMuch) (t := 14) (j := 0) (cn := 1) (as := [aI (if (0 : Int32) < ((((q1.1 22 0 4) + q2.1) + (1 : Int32)) - (3 : Int32)) then ((((q1.1 22 0 4) + q2.1) + (1 : Int32)) - (3 : Int32)) else (0 : Int32))]) (c_X7_isTooMuch (if (0 : Int32) < ((((q1.1 22 0 4) + q2.1) + (1 : Int32)) - (3 : Int32)) then ((((q1.1 22 0 4) + q2.1) + (1 : Int32)) - (3 : Int32)) else (0 : Int32)) (sI (sI q2.2 22 0 3 x1) 22 0 4 (if (0 : Int32) < ((((q1.1 22 0 4) + q2.1) + (1 : Int32)) - (3 : Int32)) then ((((q1.1 22 0 4) + q2.1) + (1 : Int32)) - (3 : Int32)) else (0 : Int32))) rfl) (by decide) wV_X7_isTooMuch wN_X7_isTooMuch lk_X2_84 rfl rfl rfl (by decide) rfl (Nat.le_of_ble_eq_true rfl) (by decide +kernel) ?_
        refine XW.bb B [] (by decide +kernel) (pc1 := 115) (ls1 := [some (aR 21 0), some (aI x1), some (aI x2), some (aI (if (0 : Int32) < ((((q1.1 22 0 4) + q2.1) + (1 : Int32)) - (3 : Int32)) then ((((q1.1 22 0 4) + q2.1) + (1 : Int32)) - (3 : Int32)) else (0 : Int32)))]) (st1 := [aI (m_X7_isTooMuch (if (0 : Int32) < ((((q1.1 22 0 4) + q2.1) + (1 : Int32)) - (3 : Int32)) then ((((q1.1 22 0 4) + q2.1) + (1 : Int32)) - (3 : Int32)) else (0 : Int32)) (sI (sI q2.2 22 0 3 x1) 22 0 4 (if (0 : Int32) < ((((q1.1 22 0 4) + q2.1) + (1 : Int32)) - (3 : Int32)) then ((((q1.1 22 0 4) + q2.1) + (1 : Int32)) - (3 : Int32)) else (0 : Int32))))]) (σ1 := (sI (sI q2.2 22 0 3 x1) 22 0 4 (if (0 : Int32) < ((((q1.1 22 0 4) + q2.1) + (1 : Int32)) - (3 : Int32)) then ((((q1.1 22 0 4) + q2.1) + (1 : Int32)) - (3 : Int32)) else (0 : Int32)))) (P := []) (i := .ifCond .eq 26) (tgt := 141) (q := (m_X7_isTooMuch (if (0 : Int32) < ((((q1.1 22 0 4) + q2.1) + (1 : Int32)) - (3 : Int32)) then ((((q1.1 22 0 4) + q2.1) + (1 : Int32)) - (3 : Int32)) else (0 : Int32)) (sI (sI q2.2 22 0 3 x1) 22 0 4 (if (0 : Int32) < ((((q1.1 22 0 4) + q2.1) + (1 : Int32)) - (3 : Int32)) then ((((q1.1 22 0 4) + q2.1) + (1 : Int32)) - (3 : Int32)) else (0 : Int32)))) = (0 : Int32)) rfl trivial (by decide +kernel) rfl (by decide) (fun h16 => ?_) (fun h16 => ?_)
        · rw [if_pos h16] at hm
          refine XW.bn B [(141, .iload_n 2)] (by decide +kernel) (pc1 := 142) (ls1 := [some (aR 21 0), some (aI x1), some (aI x2), some (aI (if (0 : Int32) < ((((q1.1 22 0 4) + q2.1) + (1 : Int32)) - (3 : Int32)) then ((((q1.1 22 0 4) + q2.1) + (1 : Int32)) - (3 : Int32)) else (0 : Int32)))]) (st1 := [aI x2]) (σ1 := (sI (sI q2.2 22 0 3 x1) 22 0 4 (if (0 : Int32) < ((((q1.1 22 0 4) + q2.1) + (1 : Int32)) - (3 : Int32)) then ((((q1.1 22 0 4) + q2.1) + (1 : Int32)) - (3 : Int32)) else (0 : Int32)))) (P := []) (i := .ifCond .ne 26) (tgt := 168) (q := x2 = (0 : Int32)) rfl trivial (by decide +kernel) rfl (by decide) (fun h => absurd h h11) (fun _ => ?_)
          refine XW.bk B [(168, .iconst 1)] (by decide +kernel) (pc1 := 169) (ls1 := [some (aR 21 0), some (aI x1), some (aI x2), some (aI (if (0 : Int32) < ((((q1.1 22 0 4) + q2.1) + (1 : Int32)) - (3 : Int32)) then ((((q1.1 22 0 4) + q2.1) + (1 : Int32)) - (3 : Int32)) else (0 : Int32)))]) (st1 := [aI (1 : Int32)]) (σ1 := (sI (sI q2.2 22 0 3 x1) 22 0 4 (if (0 : Int32) < ((((q1.1 22 0 4) + q2.1) + (1 : Int32)) - (3 : Int32)) then ((((q1.1 22 0 4) + q2.1) + (1 : Int32)) - (3 : Int32)) else (0 : Int32)))) (P := []) rfl trivial ?_
          cases hm
          exact XW.iret B q (by decide +kernel)
        · rw [if_neg h16] at hm
          refine XW.bk B [(118, .aload_n 0), (119, .getfield 12), (122, .iconst 0)] (by decide +kernel) (pc1 := 123) (ls1 := [some (aR 21 0), some (aI x1), some (aI x2), some (aI (if (0 : Int32) < ((((q1.1 22 0 4) + q2.1) + (1 : Int32)) - (3 : Int32)) then ((((q1.1 22 0 4) + q2.1) + (1 : Int32)) - (3 : Int32)) else (0 : Int32)))]) (st1 := [aI (0 : Int32), aR 22 0]) (σ1 := (sI (sI q2.2 22 0 3 x1) 22 0 4 (if (0 : Int32) < ((((q1.1 22 0 4) + q2.1) + (1 : Int32)) - (3 : Int32)) then ((((q1.1 22 0 4) + q2.1) + (1 : Int32)) - (3 : Int32)) else (0 : Int32)))) (P := []) rfl trivial ?_
          refine XW.putz B (x := 29) (ci := 4) (k := 0) (cn := 1) ⟨_, _, _, rfl, by decide, GW_1 228 rfl rfl, rfl, rfl, by decide +kernel⟩ rfl rfl (by decide) (by decide) (by decide +kernel) ?_
          refine XW.bk B [(126, .aload_n 0), (127, .getfield 12), (130, .dup), (131, .getfield 88), (134, .iconst 1), (135, .iadd), (136, .putfield 88), (139, .iconst 0)] (by decide +kernel) (pc1 := 140) (ls1 := [some (aR 21 0), some (aI x1), some (aI x2), some (aI (if (0 : Int32) < ((((q1.1 22 0 4) + q2.1) + (1 : Int32)) - (3 : Int32)) then ((((q1.1 22 0 4) + q2.1) + (1 : Int32)) - (3 : Int32)) else (0 : Int32)))]) (st1 := [aI (0 : Int32)]) (σ1 := (sI (sI (sI (sI q2.2 22 0 3 x1) 22 0 4 (if (0 : Int32) < ((((q1.1 22 0 4) + q2.1) + (1 : Int32)) - (3 : Int32)) then ((((q1.1 22 0 4) + q2.1) + (1 : Int32)) - (3 : Int32)) else (0 : Int32))) 22 0 0 (0 : Int32)) 22 0 6 ((q2.2.1 22 0 6) + (1 : Int32)))) (P := []) rfl trivial ?_
          cases hm
          exact XW.iret B q (by decide +kernel)
      · rw [if_neg h15] at hm
        refine XW.bk B [(91, .aload_n 0), (92, .getfield 12), (95, .iload_n 1), (96, .putfield 49), (99, .aload_n 0), (100, .getfield 12), (103, .iload_n 3), (104, .putfield 52), (107, .aload_n 0), (108, .getfield 25), (111, .iload_n 3)] (by decide +kernel) (pc1 := 112) (ls1 := [some (aR 21 0), some (aI x1), some (aI x2), some (aI (((q1.1 22 0 4) + q2.1) + (1 : Int32)))]) (st1 := [aI (((q1.1 22 0 4) + q2.1) + (1 : Int32)), aR 14 0]) (σ1 := (sI (sI q2.2 22 0 3 x1) 22 0 4 (((q1.1 22 0 4) + q2.1) + (1 : Int32)))) (P := []) rfl trivial ?_
        refine XW.callV B (M := M_X7_isTooMuch) (t := 14) (j := 0) (cn := 1) (as := [aI (((q1.1 22 0 4) + q2.1) + (1 : Int32))]) (c_X7_isTooMuch (((q1.1 22 0 4) + q2.1) + (1 : Int32)) (sI (sI q2.2 22 0 3 x1) 22 0 4 (((q1.1 22 0 4) + q2.1) + (1 : Int32))) rfl) (by decide) wV_X7_isTooMuch wN_X7_isTooMuch lk_X2_84 rfl rfl rfl (by decide) rfl (Nat.le_of_ble_eq_true rfl) (by decide +kernel) ?_
        refine XW.bb B [] (by decide +kernel) (pc1 := 115) (ls1 := [some (aR 21 0), some (aI x1), some (aI x2), some (aI (((q1.1 22 0 4) + q2.1) + (1 : Int32)))]) (st1 := [aI (m_X7_isTooMuch (((q1.1 22 0 4) + q2.1) + (1 : Int32)) (sI (sI q2.2 22 0 3 x1) 22 0 4 (((q1.1 22 0 4) + q2.1) + (1 : Int32))))]) (σ1 := (sI (sI q2.2 22 0 3 x1) 22 0 4 (((q1.1 22 0 4) + q2.1) + (1 : Int32)))) (P := []) (i := .ifCond .eq 26) (tgt := 141) (q := (m_X7_isTooMuch (((q1.1 22 0 4) + q2.1) + (1 : Int32)) (sI (sI q2.2 22 0 3 x1) 22 0 4 (((q1.1 22 0 4) + q2.1) + (1 : Int32)))) = (0 : Int32)) rfl trivial (by decide +kernel) rfl (by decide) (fun h17 => ?_) (fun h17 => ?_)
        · rw [if_pos h17] at hm
          refine XW.bn B [(141, .iload_n 2)] (by decide +kernel) (pc1 := 142) (ls1 := [some (aR 21 0), some (aI x1), some (aI x2), some (aI (((q1.1 22 0 4) + q2.1) + (1 : Int32)))]) (st1 := [aI x2]) (σ1 := (sI (sI q2.2 22 0 3 x1) 22 0 4 (((q1.1 22 0 4) + q2.1) + (1 : Int32)))) (P := []) (i := .ifCond .ne 26) (tgt := 168) (q := x2 = (0 : Int32)) rfl trivial (by decide +kernel) rfl (by decide) (fun h => absurd h h11) (fun _ => ?_)
          refine XW.bk B [(168, .iconst 1)] (by decide +kernel) (pc1 := 169) (ls1 := [some (aR 21 0), some (aI x1), some (aI x2), some (aI (((q1.1 22 0 4) + q2.1) + (1 : Int32)))]) (st1 := [aI (1 : Int32)]) (σ1 := (sI (sI q2.2 22 0 3 x1) 22 0 4 (((q1.1 22 0 4) + q2.1) + (1 : Int32)))) (P := []) rfl trivial ?_
          cases hm
          exact XW.iret B q (by decide +kernel)
        · rw [if_neg h17] at hm
          refine XW.bk B [(118, .aload_n 0), (119, .getfield 12), (122, .iconst 0)] (by decide +kernel) (pc1 := 123) (ls1 := [some (aR 21 0), some (aI x1), some (aI x2), some (aI (((q1.1 22 0 4) + q2.1) + (1 : Int32)))]) (st1 := [aI (0 : Int32), aR 22 0]) (σ1 := (sI (sI q2.2 22 0 3 x1) 22 0 4 (((q1.1 22 0 4) + q2.1) + (1 : Int32)))) (P := []) rfl trivial ?_
          refine XW.putz B (x := 29) (ci := 4) (k := 0) (cn := 1) ⟨_, _, _, rfl, by decide, GW_1 228 rfl rfl, rfl, rfl, by decide +kernel⟩ rfl rfl (by decide) (by decide) (by decide +kernel) ?_
          refine XW.bk B [(126, .aload_n 0), (127, .getfield 12), (130, .dup), (131, .getfield 88), (134, .iconst 1), (135, .iadd), (136, .putfield 88), (139, .iconst 0)] (by decide +kernel) (pc1 := 140) (ls1 := [some (aR 21 0), some (aI x1), some (aI x2), some (aI (((q1.1 22 0 4) + q2.1) + (1 : Int32)))]) (st1 := [aI (0 : Int32)]) (σ1 := (sI (sI (sI (sI q2.2 22 0 3 x1) 22 0 4 (((q1.1 22 0 4) + q2.1) + (1 : Int32))) 22 0 0 (0 : Int32)) 22 0 6 ((q2.2.1 22 0 6) + (1 : Int32)))) (P := []) rfl trivial ?_
          cases hm
          exact XW.iret B q (by decide +kernel)

def m_X2_setOut (x1 : Int32) (x2 : Int32) (σ : SS) : Option (Int32 × SS) :=
  if (σ.1 22 0 0) = (0 : Int32) then
    if (σ.1 1 0 1) = (0 : Int32) then
      some ((-5 : Int32), σ)
    else
    if x2 ≤ (m_X8_number (0 : Int32) (6 : Int32) σ) then
      Option.bind (m_X2_bear x2 (0 : Int32) (sI (sI (sI (sI (sI σ 22 0 0 (1 : Int32)) 22 0 1 (0 : Int32)) 22 0 2 x1) 22 0 3 x2) 22 0 4 (0 : Int32))) (fun q4 =>
      some (q4.1, q4.2))
    else
    some ((-2 : Int32), σ)
  else
  some ((-5 : Int32), σ)
set_option maxRecDepth 100000 in
set_option maxHeartbeats 4000000 in
theorem c_X2_setOut (x1 : Int32) (x2 : Int32) (σ : SS) {r : Int32} {σ' : SS} (hm : m_X2_setOut x1 x2 σ = some (r, σ')) : XM LC 6 M_X2_setOut [aR 21 0, aI x1, aI x2] σ (some (aI r)) σ' := by
  refine XM.of (K := K2) (by decide) (by decide +kernel) K2_ok (Nat.le_of_ble_eq_true rfl) (fun Γ B q => ?_)
  unfold m_X2_setOut at hm
  refine XW.bn B [(0, .aload_n 0), (1, .getfield 12), (4, .getfield 29)] (by decide +kernel) (pc1 := 7) (ls1 := [some (aR 21 0), some (aI x1), some (aI x2)]) (st1 := [aI (σ.1 22 0 0)]) (σ1 := σ) (P := []) (i := .ifCond .ne 13) (tgt := 20) (q := (σ.1 22 0 0) = (0 : Int32)) rfl trivial (by decide +kernel) rfl (by decide) (fun h1 => ?_) (fun h1 => ?_)
  · rw [if_pos h1] at hm
    refine XW.bn B [(10, .aload_n 0), (11, .getfield 21), (14, .getfield 33)] (by decide +kernel) (pc1 := 17) (ls1 := [some (aR 21 0), some (aI x1), some (aI x2)]) (st1 := [aI (σ.1 1 0 1)]) (σ1 := σ) (P := []) (i := .ifCond .ne 6) (tgt := 23) (q := (σ.1 1 0 1) = (0 : Int32)) rfl trivial (by decide +kernel) rfl (by decide) (fun h2 => ?_) (fun h2 => ?_)
    · rw [if_pos h2] at hm
      refine XW.bk B [(20, .bipush (-5))] (by decide +kernel) (pc1 := 22) (ls1 := [some (aR 21 0), some (aI x1), some (aI x2)]) (st1 := [aI (-5 : Int32)]) (σ1 := σ) (P := []) rfl trivial ?_
      cases hm
      exact XW.iret B q (by decide +kernel)
    · rw [if_neg h2] at hm
      refine XW.bk B [(23, .iload_n 2), (24, .aload_n 0), (25, .getfield 21), (28, .iconst 0), (29, .bipush 6)] (by decide +kernel) (pc1 := 31) (ls1 := [some (aR 21 0), some (aI x1), some (aI x2)]) (st1 := [aI (6 : Int32), aI (0 : Int32), aR 1 0, aI x2]) (σ1 := σ) (P := []) rfl trivial ?_
      refine XW.callV B (M := M_X8_number) (t := 1) (j := 0) (cn := 1) (as := [aI (0 : Int32), aI (6 : Int32)]) (c_X8_number (0 : Int32) (6 : Int32) σ rfl) (by decide) wV_X8_number wN_X8_number lk_X2_39 rfl rfl rfl (by decide) rfl (Nat.le_of_ble_eq_true rfl) (by decide +kernel) ?_
      refine XW.bb B [] (by decide +kernel) (pc1 := 34) (ls1 := [some (aR 21 0), some (aI x1), some (aI x2)]) (st1 := [aI (m_X8_number (0 : Int32) (6 : Int32) σ), aI x2]) (σ1 := σ) (P := []) (i := .if_icmp .le 6) (tgt := 40) (q := x2 ≤ (m_X8_number (0 : Int32) (6 : Int32) σ)) rfl trivial (by decide +kernel) rfl (by decide) (fun h3 => ?_) (fun h3 => ?_)
      · rw [if_pos h3] at hm
        refine XW.bk B [(40, .aload_n 0), (41, .getfield 12), (44, .iconst 1)] (by decide +kernel) (pc1 := 45) (ls1 := [some (aR 21 0), some (aI x1), some (aI x2)]) (st1 := [aI (1 : Int32), aR 22 0]) (σ1 := σ) (P := []) rfl trivial ?_
        refine XW.putz B (x := 29) (ci := 4) (k := 0) (cn := 1) ⟨_, _, _, rfl, by decide, GW_1 228 rfl rfl, rfl, rfl, by decide +kernel⟩ rfl rfl (by decide) (by decide) (by decide +kernel) ?_
        refine XW.bk B [(48, .aload_n 0), (49, .getfield 12), (52, .iconst 0), (53, .putfield 43), (56, .aload_n 0), (57, .getfield 12), (60, .iload_n 1), (61, .putfield 46), (64, .aload_n 0), (65, .getfield 12), (68, .iload_n 2), (69, .putfield 49), (72, .aload_n 0), (73, .getfield 12), (76, .iconst 0), (77, .putfield 52), (80, .aload_n 0), (81, .iload_n 2), (82, .iconst 0)] (by decide +kernel) (pc1 := 83) (ls1 := [some (aR 21 0), some (aI x1), some (aI x2)]) (st1 := [aI (0 : Int32), aI x2, aR 21 0]) (σ1 := (sI (sI (sI (sI (sI σ 22 0 0 (1 : Int32)) 22 0 1 (0 : Int32)) 22 0 2 x1) 22 0 3 x2) 22 0 4 (0 : Int32))) (P := []) rfl trivial ?_
        obtain ⟨q4, hq4, hm⟩ := obind_eq hm
        refine XW.callV B (M := M_X2_bear) (t := 21) (j := 0) (cn := 1) (as := [aI x2, aI (0 : Int32)]) (c_X2_bear x2 (0 : Int32) (sI (sI (sI (sI (sI σ 22 0 0 (1 : Int32)) 22 0 1 (0 : Int32)) 22 0 2 x1) 22 0 3 x2) 22 0 4 (0 : Int32)) hq4) (by decide) wV_X2_bear wN_X2_bear lk_X2_55 rfl rfl rfl (by decide) rfl (Nat.le_of_ble_eq_true rfl) (by decide +kernel) ?_
        cases hm
        exact XW.iret B q (by decide +kernel)
      · rw [if_neg h3] at hm
        refine XW.bk B [(37, .bipush (-2))] (by decide +kernel) (pc1 := 39) (ls1 := [some (aR 21 0), some (aI x1), some (aI x2)]) (st1 := [aI (-2 : Int32)]) (σ1 := σ) (P := []) rfl trivial ?_
        cases hm
        exact XW.iret B q (by decide +kernel)
  · rw [if_neg h1] at hm
    refine XW.bk B [(20, .bipush (-5))] (by decide +kernel) (pc1 := 22) (ls1 := [some (aR 21 0), some (aI x1), some (aI x2)]) (st1 := [aI (-5 : Int32)]) (σ1 := σ) (P := []) rfl trivial ?_
    cases hm
    exact XW.iret B q (by decide +kernel)

def m_X2_goOn (x1 : Int32) (σ : SS) : Option (Int32 × SS) :=
  if (σ.1 22 0 0) = (0 : Int32) then
    some ((-5 : Int32), σ)
  else
  if x1 ≤ (m_X8_number ((σ.1 22 0 1) + (1 : Int32)) (6 : Int32) σ) then
    Option.bind (m_X2_bear x1 (0 : Int32) (sI (sI (sI σ 22 0 1 ((σ.1 22 0 1) + (1 : Int32))) 22 0 2 ((σ.1 22 0 2) + (1 : Int32))) 22 0 7 ((σ.1 22 0 7) + (1 : Int32)))) (fun q3 =>
    some (q3.1, q3.2))
  else
  some ((-2 : Int32), σ)
set_option maxRecDepth 100000 in
set_option maxHeartbeats 4000000 in
theorem c_X2_goOn (x1 : Int32) (σ : SS) {r : Int32} {σ' : SS} (hm : m_X2_goOn x1 σ = some (r, σ')) : XM LC 6 M_X2_goOn [aR 21 0, aI x1] σ (some (aI r)) σ' := by
  refine XM.of (K := K2) (by decide) (by decide +kernel) K2_ok (Nat.le_of_ble_eq_true rfl) (fun Γ B q => ?_)
  unfold m_X2_goOn at hm
  refine XW.bn B [(0, .aload_n 0), (1, .getfield 12), (4, .getfield 29)] (by decide +kernel) (pc1 := 7) (ls1 := [some (aR 21 0), some (aI x1)]) (st1 := [aI (σ.1 22 0 0)]) (σ1 := σ) (P := []) (i := .ifCond .ne 6) (tgt := 13) (q := (σ.1 22 0 0) = (0 : Int32)) rfl trivial (by decide +kernel) rfl (by decide) (fun h1 => ?_) (fun h1 => ?_)
  · rw [if_pos h1] at hm
    refine XW.bk B [(10, .bipush (-5))] (by decide +kernel) (pc1 := 12) (ls1 := [some (aR 21 0), some (aI x1)]) (st1 := [aI (-5 : Int32)]) (σ1 := σ) (P := []) rfl trivial ?_
    cases hm
    exact XW.iret B q (by decide +kernel)
  · rw [if_neg h1] at hm
    refine XW.bk B [(13, .iload_n 1), (14, .aload_n 0), (15, .getfield 21), (18, .aload_n 0), (19, .getfield 12), (22, .getfield 43), (25, .iconst 1), (26, .iadd), (27, .bipush 6)] (by decide +kernel) (pc1 := 29) (ls1 := [some (aR 21 0), some (aI x1)]) (st1 := [aI (6 : Int32), aI ((σ.1 22 0 1) + (1 : Int32)), aR 1 0, aI x1]) (σ1 := σ) (P := []) rfl trivial ?_
    refine XW.callV B (M := M_X8_number) (t := 1) (j := 0) (cn := 1) (as := [aI ((σ.1 22 0 1) + (1 : Int32)), aI (6 : Int32)]) (c_X8_number ((σ.1 22 0 1) + (1 : Int32)) (6 : Int32) σ rfl) (by decide) wV_X8_number wN_X8_number lk_X2_39 rfl rfl rfl (by decide) rfl (Nat.le_of_ble_eq_true rfl) (by decide +kernel) ?_
    refine XW.bb B [] (by decide +kernel) (pc1 := 32) (ls1 := [some (aR 21 0), some (aI x1)]) (st1 := [aI (m_X8_number ((σ.1 22 0 1) + (1 : Int32)) (6 : Int32) σ), aI x1]) (σ1 := σ) (P := []) (i := .if_icmp .le 6) (tgt := 38) (q := x1 ≤ (m_X8_number ((σ.1 22 0 1) + (1 : Int32)) (6 : Int32) σ)) rfl trivial (by decide +kernel) rfl (by decide) (fun h2 => ?_) (fun h2 => ?_)
    · rw [if_pos h2] at hm
      refine XW.bk B [(38, .aload_n 0), (39, .getfield 12), (42, .dup), (43, .getfield 43), (46, .iconst 1), (47, .iadd), (48, .putfield 43), (51, .aload_n 0), (52, .getfield 12), (55, .dup), (56, .getfield 46), (59, .iconst 1), (60, .iadd), (61, .putfield 46), (64, .aload_n 0), (65, .getfield 12), (68, .dup), (69, .getfield 59), (72, .iconst 1), (73, .iadd), (74, .putfield 59), (77, .aload_n 0), (78, .iload_n 1), (79, .iconst 0)] (by decide +kernel) (pc1 := 80) (ls1 := [some (aR 21 0), some (aI x1)]) (st1 := [aI (0 : Int32), aI x1, aR 21 0]) (σ1 := (sI (sI (sI σ 22 0 1 ((σ.1 22 0 1) + (1 : Int32))) 22 0 2 ((σ.1 22 0 2) + (1 : Int32))) 22 0 7 ((σ.1 22 0 7) + (1 : Int32)))) (P := []) rfl trivial ?_
      obtain ⟨q3, hq3, hm⟩ := obind_eq hm
      refine XW.callV B (M := M_X2_bear) (t := 21) (j := 0) (cn := 1) (as := [aI x1, aI (0 : Int32)]) (c_X2_bear x1 (0 : Int32) (sI (sI (sI σ 22 0 1 ((σ.1 22 0 1) + (1 : Int32))) 22 0 2 ((σ.1 22 0 2) + (1 : Int32))) 22 0 7 ((σ.1 22 0 7) + (1 : Int32))) hq3) (by decide) wV_X2_bear wN_X2_bear lk_X2_55 rfl rfl rfl (by decide) rfl (Nat.le_of_ble_eq_true rfl) (by decide +kernel) ?_
      cases hm
      exact XW.iret B q (by decide +kernel)
    · rw [if_neg h2] at hm
      refine XW.bk B [(35, .bipush (-2))] (by decide +kernel) (pc1 := 37) (ls1 := [some (aR 21 0), some (aI x1)]) (st1 := [aI (-2 : Int32)]) (σ1 := σ) (P := []) rfl trivial ?_
      cases hm
      exact XW.iret B q (by decide +kernel)

def m_X2_stay (x1 : Int32) (σ : SS) : Option (Int32 × SS) :=
  if (σ.1 22 0 0) = (0 : Int32) then
    some ((-5 : Int32), σ)
  else
  if x1 ≤ (m_X8_number (σ.1 22 0 1) (6 : Int32) σ) then
    Option.bind (m_X2_bear x1 (1 : Int32) (sI (sI σ 22 0 2 ((σ.1 22 0 2) + (1 : Int32))) 22 0 8 ((σ.1 22 0 8) + (1 : Int32)))) (fun q3 =>
    some (q3.1, q3.2))
  else
  some ((-2 : Int32), σ)
set_option maxRecDepth 100000 in
set_option maxHeartbeats 4000000 in
theorem c_X2_stay (x1 : Int32) (σ : SS) {r : Int32} {σ' : SS} (hm : m_X2_stay x1 σ = some (r, σ')) : XM LC 6 M_X2_stay [aR 21 0, aI x1] σ (some (aI r)) σ' := by
  refine XM.of (K := K2) (by decide) (by decide +kernel) K2_ok (Nat.le_of_ble_eq_true rfl) (fun Γ B q => ?_)
  unfold m_X2_stay at hm
  refine XW.bn B [(0, .aload_n 0), (1, .getfield 12), (4, .getfield 29)] (by decide +kernel) (pc1 := 7) (ls1 := [some (aR 21 0), some (aI x1)]) (st1 := [aI (σ.1 22 0 0)]) (σ1 := σ) (P := []) (i := .ifCond .ne 6) (tgt := 13) (q := (σ.1 22 0 0) = (0 : Int32)) rfl trivial (by decide +kernel) rfl (by decide) (fun h1 => ?_) (fun h1 => ?_)
  · rw [if_pos h1] at hm
    refine XW.bk B [(10, .bipush (-5))] (by decide +kernel) (pc1 := 12) (ls1 := [some (aR 21 0), some (aI x1)]) (st1 := [aI (-5 : Int32)]) (σ1 := σ) (P := []) rfl trivial ?_
    cases hm
    exact XW.iret B q (by decide +kernel)
  · rw [if_neg h1] at hm
    refine XW.bk B [(13, .iload_n 1), (14, .aload_n 0), (15, .getfield 21), (18, .aload_n 0), (19, .getfield 12), (22, .getfield 43), (25, .bipush 6)] (by decide +kernel) (pc1 := 27) (ls1 := [some (aR 21 0), some (aI x1)]) (st1 := [aI (6 : Int32), aI (σ.1 22 0 1), aR 1 0, aI x1]) (σ1 := σ) (P := []) rfl trivial ?_
    refine XW.callV B (M := M_X8_number) (t := 1) (j := 0) (cn := 1) (as := [aI (σ.1 22 0 1), aI (6 : Int32)]) (c_X8_number (σ.1 22 0 1) (6 : Int32) σ rfl) (by decide) wV_X8_number wN_X8_number lk_X2_39 rfl rfl rfl (by decide) rfl (Nat.le_of_ble_eq_true rfl) (by decide +kernel) ?_
    refine XW.bb B [] (by decide +kernel) (pc1 := 30) (ls1 := [some (aR 21 0), some (aI x1)]) (st1 := [aI (m_X8_number (σ.1 22 0 1) (6 : Int32) σ), aI x1]) (σ1 := σ) (P := []) (i := .if_icmp .le 6) (tgt := 36) (q := x1 ≤ (m_X8_number (σ.1 22 0 1) (6 : Int32) σ)) rfl trivial (by decide +kernel) rfl (by decide) (fun h2 => ?_) (fun h2 => ?_)
    · rw [if_pos h2] at hm
      refine XW.bk B [(36, .aload_n 0), (37, .getfield 12), (40, .dup), (41, .getfield 46), (44, .iconst 1), (45, .iadd), (46, .putfield 46), (49, .aload_n 0), (50, .getfield 12), (53, .dup), (54, .getfield 62), (57, .iconst 1), (58, .iadd), (59, .putfield 62), (62, .aload_n 0), (63, .iload_n 1), (64, .iconst 1)] (by decide +kernel) (pc1 := 65) (ls1 := [some (aR 21 0), some (aI x1)]) (st1 := [aI (1 : Int32), aI x1, aR 21 0]) (σ1 := (sI (sI σ 22 0 2 ((σ.1 22 0 2) + (1 : Int32))) 22 0 8 ((σ.1 22 0 8) + (1 : Int32)))) (P := []) rfl trivial ?_
      obtain ⟨q3, hq3, hm⟩ := obind_eq hm
      refine XW.callV B (M := M_X2_bear) (t := 21) (j := 0) (cn := 1) (as := [aI x1, aI (1 : Int32)]) (c_X2_bear x1 (1 : Int32) (sI (sI σ 22 0 2 ((σ.1 22 0 2) + (1 : Int32))) 22 0 8 ((σ.1 22 0 8) + (1 : Int32))) hq3) (by decide) wV_X2_bear wN_X2_bear lk_X2_55 rfl rfl rfl (by decide) rfl (Nat.le_of_ble_eq_true rfl) (by decide +kernel) ?_
      cases hm
      exact XW.iret B q (by decide +kernel)
    · rw [if_neg h2] at hm
      refine XW.bk B [(33, .bipush (-2))] (by decide +kernel) (pc1 := 35) (ls1 := [some (aR 21 0), some (aI x1)]) (st1 := [aI (-2 : Int32)]) (σ1 := σ) (P := []) rfl trivial ?_
      cases hm
      exact XW.iret B q (by decide +kernel)

def m_X4_becomeLike_22 (σ : SS) : Option (SS) :=
  if (σ.1 23 0 0) = 0 ∨ (σ.1 23 0 0) = 1 then
    some (sI (sI (sI (sI (sI (sI (sI (sI (sI (sI σ 22 0 0 (σ.1 23 0 0)) 22 0 1 (σ.1 23 0 1)) 22 0 2 (σ.1 23 0 2)) 22 0 3 (σ.1 23 0 3)) 22 0 4 (σ.1 23 0 4)) 22 0 5 (σ.1 23 0 5)) 22 0 6 (σ.1 23 0 6)) 22 0 7 (σ.1 23 0 7)) 22 0 8 (σ.1 23 0 8)) 22 0 9 (σ.1 23 0 9))
  else none
set_option maxRecDepth 100000 in
set_option maxHeartbeats 4000000 in
theorem c_X4_becomeLike_22 (σ : SS) {σ' : SS} (hm : m_X4_becomeLike_22 σ = some σ') : XM LC 1 M_X4_becomeLike [aR 22 0, aR 23 0] σ none σ' := by
  refine XM.of (K := K4) (by decide) (by decide +kernel) K4_ok (Nat.le_of_ble_eq_true rfl) (fun Γ B q => ?_)
  unfold m_X4_becomeLike_22 at hm
  refine XW.bk B [(0, .aload_n 0), (1, .aload_n 1), (2, .getfield 16)] (by decide +kernel) (pc1 := 5) (ls1 := [some (aR 22 0), some (aR 23 0)]) (st1 := [aI (σ.1 23 0 0), aR 22 0]) (σ1 := σ) (P := []) rfl trivial ?_
  by_cases g1 : ¬ ((σ.1 23 0 0) = 0 ∨ (σ.1 23 0 0) = 1)
  · rw [if_neg g1] at hm; cases hm
  have g1 := Classical.not_not.mp g1
  rw [if_pos g1] at hm
  refine XW.putz B (x := 16) (ci := 4) (k := 0) (cn := 1) ⟨_, _, _, rfl, by decide, GW_1 227 rfl rfl, rfl, rfl, by decide +kernel⟩ rfl rfl (by decide) g1 (by decide +kernel) ?_
  refine XW.bk B [(8, .aload_n 0), (9, .aload_n 1), (10, .getfield 20), (13, .putfield 20), (16, .aload_n 0), (17, .aload_n 1), (18, .getfield 23), (21, .putfield 23), (24, .aload_n 0), (25, .aload_n 1), (26, .getfield 26), (29, .putfield 26), (32, .aload_n 0), (33, .aload_n 1), (34, .getfield 29), (37, .putfield 29), (40, .aload_n 0), (41, .aload_n 1), (42, .getfield 32), (45, .putfield 32), (48, .aload_n 0), (49, .aload_n 1), (50, .getfield 35), (53, .putfield 35), (56, .aload_n 0), (57, .aload_n 1), (58, .getfield 38), (61, .putfield 38), (64, .aload_n 0), (65, .aload_n 1), (66, .getfield 41), (69, .putfield 41), (72, .aload_n 0), (73, .aload_n 1), (74, .getfield 10), (77, .putfield 10)] (by decide +kernel) (pc1 := 80) (ls1 := [some (aR 22 0), some (aR 23 0)]) (st1 := []) (σ1 := (sI (sI (sI (sI (sI (sI (sI (sI (sI (sI σ 22 0 0 (σ.1 23 0 0)) 22 0 1 (σ.1 23 0 1)) 22 0 2 (σ.1 23 0 2)) 22 0 3 (σ.1 23 0 3)) 22 0 4 (σ.1 23 0 4)) 22 0 5 (σ.1 23 0 5)) 22 0 6 (σ.1 23 0 6)) 22 0 7 (σ.1 23 0 7)) 22 0 8 (σ.1 23 0 8)) 22 0 9 (σ.1 23 0 9))) (P := []) rfl trivial ?_
  cases hm
  exact XW.vret B q (by decide +kernel)

def m_X4_becomeLike_23 (σ : SS) : Option (SS) :=
  if (σ.1 22 0 0) = 0 ∨ (σ.1 22 0 0) = 1 then
    some (sI (sI (sI (sI (sI (sI (sI (sI (sI (sI σ 23 0 0 (σ.1 22 0 0)) 23 0 1 (σ.1 22 0 1)) 23 0 2 (σ.1 22 0 2)) 23 0 3 (σ.1 22 0 3)) 23 0 4 (σ.1 22 0 4)) 23 0 5 (σ.1 22 0 5)) 23 0 6 (σ.1 22 0 6)) 23 0 7 (σ.1 22 0 7)) 23 0 8 (σ.1 22 0 8)) 23 0 9 (σ.1 22 0 9))
  else none
set_option maxRecDepth 100000 in
set_option maxHeartbeats 4000000 in
theorem c_X4_becomeLike_23 (σ : SS) {σ' : SS} (hm : m_X4_becomeLike_23 σ = some σ') : XM LC 1 M_X4_becomeLike [aR 23 0, aR 22 0] σ none σ' := by
  refine XM.of (K := K4) (by decide) (by decide +kernel) K4_ok (Nat.le_of_ble_eq_true rfl) (fun Γ B q => ?_)
  unfold m_X4_becomeLike_23 at hm
  refine XW.bk B [(0, .aload_n 0), (1, .aload_n 1), (2, .getfield 16)] (by decide +kernel) (pc1 := 5) (ls1 := [some (aR 23 0), some (aR 22 0)]) (st1 := [aI (σ.1 22 0 0), aR 23 0]) (σ1 := σ) (P := []) rfl trivial ?_
  by_cases g1 : ¬ ((σ.1 22 0 0) = 0 ∨ (σ.1 22 0 0) = 1)
  · rw [if_neg g1] at hm; cases hm
  have g1 := Classical.not_not.mp g1
  rw [if_pos g1] at hm
  refine XW.putz B (x := 16) (ci := 4) (k := 0) (cn := 1) ⟨_, _, _, rfl, by decide, GW_1 227 rfl rfl, rfl, rfl, by decide +kernel⟩ rfl rfl (by decide) g1 (by decide +kernel) ?_
  refine XW.bk B [(8, .aload_n 0), (9, .aload_n 1), (10, .getfield 20), (13, .putfield 20), (16, .aload_n 0), (17, .aload_n 1), (18, .getfield 23), (21, .putfield 23), (24, .aload_n 0), (25, .aload_n 1), (26, .getfield 26), (29, .putfield 26), (32, .aload_n 0), (33, .aload_n 1), (34, .getfield 29), (37, .putfield 29), (40, .aload_n 0), (41, .aload_n 1), (42, .getfield 32), (45, .putfield 32), (48, .aload_n 0), (49, .aload_n 1), (50, .getfield 35), (53, .putfield 35), (56, .aload_n 0), (57, .aload_n 1), (58, .getfield 38), (61, .putfield 38), (64, .aload_n 0), (65, .aload_n 1), (66, .getfield 41), (69, .putfield 41), (72, .aload_n 0), (73, .aload_n 1), (74, .getfield 10), (77, .putfield 10)] (by decide +kernel) (pc1 := 80) (ls1 := [some (aR 23 0), some (aR 22 0)]) (st1 := []) (σ1 := (sI (sI (sI (sI (sI (sI (sI (sI (sI (sI σ 23 0 0 (σ.1 22 0 0)) 23 0 1 (σ.1 22 0 1)) 23 0 2 (σ.1 22 0 2)) 23 0 3 (σ.1 22 0 3)) 23 0 4 (σ.1 22 0 4)) 23 0 5 (σ.1 22 0 5)) 23 0 6 (σ.1 22 0 6)) 23 0 7 (σ.1 22 0 7)) 23 0 8 (σ.1 22 0 8)) 23 0 9 (σ.1 22 0 9))) (P := []) rfl trivial ?_
  cases hm
  exact XW.vret B q (by decide +kernel)

def m_X4_told (x1 : Int32) (σ : SS) : Int32 :=
  if x1 = (0 : Int32) then
    (σ.1 22 0 5)
  else
  if x1 = (1 : Int32) then
    (σ.1 22 0 6)
  else
  if x1 = (2 : Int32) then
    (σ.1 22 0 7)
  else
  if x1 = (3 : Int32) then
    (σ.1 22 0 8)
  else
  if x1 = (4 : Int32) then
    (σ.1 22 0 9)
  else
  if x1 = (5 : Int32) then
    if (σ.1 22 0 0) = (0 : Int32) then
      (-2 : Int32)
    else
    (σ.1 22 0 1)
  else
  if x1 = (6 : Int32) then
    if (σ.1 22 0 0) = (0 : Int32) then
      (0 : Int32)
    else
    (σ.1 22 0 4)
  else
  (-1 : Int32)
set_option maxRecDepth 100000 in
set_option maxHeartbeats 4000000 in
theorem c_X4_told (x1 : Int32) (σ : SS) {r : Int32} (hm : m_X4_told x1 σ = r) : XM LC 1 M_X4_told [aR 22 0, aI x1] σ (some (aI r)) σ := by
  refine XM.of (K := K4) (by decide) (by decide +kernel) K4_ok (Nat.le_of_ble_eq_true rfl) (fun Γ B q => ?_)
  unfold m_X4_told at hm
  refine XW.bk B [(0, .iload_n 1)] (by decide +kernel) (pc1 := 1) (ls1 := [some (aR 22 0), some (aI x1)]) (st1 := [aI x1]) (σ1 := σ) (P := []) rfl trivial ?_
  by_cases h1 : x1 = (0 : Int32)
  · rw [if_pos h1] at hm
    refine XW.tsI B (0 : Int32) (dflt := 101) (n := 43) (lo := 0) (hi := 6) (offs := #[43, 48, 53, 58, 63, 68, 85]) (off := 43) (by decide +kernel) h1 (by decide +kernel) (tgt := 44) (by decide) ?_
    refine XW.bk B [(44, .aload_n 0), (45, .getfield 32)] (by decide +kernel) (pc1 := 48) (ls1 := [some (aR 22 0), some (aI x1)]) (st1 := [aI (σ.1 22 0 5)]) (σ1 := σ) (P := []) rfl trivial ?_
    cases hm
    exact XW.iret B q (by decide +kernel)
  rw [if_neg h1] at hm
  by_cases h2 : x1 = (1 : Int32)
  · rw [if_pos h2] at hm
    refine XW.tsI B (1 : Int32) (dflt := 101) (n := 43) (lo := 0) (hi := 6) (offs := #[43, 48, 53, 58, 63, 68, 85]) (off := 48) (by decide +kernel) h2 (by decide +kernel) (tgt := 49) (by decide) ?_
    refine XW.bk B [(49, .aload_n 0), (50, .getfield 35)] (by decide +kernel) (pc1 := 53) (ls1 := [some (aR 22 0), some (aI x1)]) (st1 := [aI (σ.1 22 0 6)]) (σ1 := σ) (P := []) rfl trivial ?_
    cases hm
    exact XW.iret B q (by decide +kernel)
  rw [if_neg h2] at hm
  by_cases h3 : x1 = (2 : Int32)
  · rw [if_pos h3] at hm
    refine XW.tsI B (2 : Int32) (dflt := 101) (n := 43) (lo := 0) (hi := 6) (offs := #[43, 48, 53, 58, 63, 68, 85]) (off := 53) (by decide +kernel) h3 (by decide +kernel) (tgt := 54) (by decide) ?_
    refine XW.bk B [(54, .aload_n 0), (55, .getfield 38)] (by decide +kernel) (pc1 := 58) (ls1 := [some (aR 22 0), some (aI x1)]) (st1 := [aI (σ.1 22 0 7)]) (σ1 := σ) (P := []) rfl trivial ?_
    cases hm
    exact XW.iret B q (by decide +kernel)
  rw [if_neg h3] at hm
  by_cases h4 : x1 = (3 : Int32)
  · rw [if_pos h4] at hm
    refine XW.tsI B (3 : Int32) (dflt := 101) (n := 43) (lo := 0) (hi := 6) (offs := #[43, 48, 53, 58, 63, 68, 85]) (off := 58) (by decide +kernel) h4 (by decide +kernel) (tgt := 59) (by decide) ?_
    refine XW.bk B [(59, .aload_n 0), (60, .getfield 41)] (by decide +kernel) (pc1 := 63) (ls1 := [some (aR 22 0), some (aI x1)]) (st1 := [aI (σ.1 22 0 8)]) (σ1 := σ) (P := []) rfl trivial ?_
    cases hm
    exact XW.iret B q (by decide +kernel)
  rw [if_neg h4] at hm
  by_cases h5 : x1 = (4 : Int32)
  · rw [if_pos h5] at hm
    refine XW.tsI B (4 : Int32) (dflt := 101) (n := 43) (lo := 0) (hi := 6) (offs := #[43, 48, 53, 58, 63, 68, 85]) (off := 63) (by decide +kernel) h5 (by decide +kernel) (tgt := 64) (by decide) ?_
    refine XW.bk B [(64, .aload_n 0), (65, .getfield 10)] (by decide +kernel) (pc1 := 68) (ls1 := [some (aR 22 0), some (aI x1)]) (st1 := [aI (σ.1 22 0 9)]) (σ1 := σ) (P := []) rfl trivial ?_
    cases hm
    exact XW.iret B q (by decide +kernel)
  rw [if_neg h5] at hm
  by_cases h6 : x1 = (5 : Int32)
  · rw [if_pos h6] at hm
    refine XW.tsI B (5 : Int32) (dflt := 101) (n := 43) (lo := 0) (hi := 6) (offs := #[43, 48, 53, 58, 63, 68, 85]) (off := 68) (by decide +kernel) h6 (by decide +kernel) (tgt := 69) (by decide) ?_
    refine XW.bb B [(69, .aload_n 0), (70, .getfield 16)] (by decide +kernel) (pc1 := 73) (ls1 := [some (aR 22 0), some (aI x1)]) (st1 := [aI (σ.1 22 0 0)]) (σ1 := σ) (P := []) (i := .ifCond .eq 10) (tgt := 83) (q := (σ.1 22 0 0) = (0 : Int32)) rfl trivial (by decide +kernel) rfl (by decide) (fun h7 => ?_) (fun h7 => ?_)
    · rw [if_pos h7] at hm
      refine XW.bk B [(83, .bipush (-2))] (by decide +kernel) (pc1 := 85) (ls1 := [some (aR 22 0), some (aI x1)]) (st1 := [aI (-2 : Int32)]) (σ1 := σ) (P := []) rfl trivial ?_
      cases hm
      exact XW.iret B q (by decide +kernel)
    · rw [if_neg h7] at hm
      refine XW.bk B [(76, .aload_n 0), (77, .getfield 20), (80, .goto 5)] (by decide +kernel) (pc1 := 85) (ls1 := [some (aR 22 0), some (aI x1)]) (st1 := [aI (σ.1 22 0 1)]) (σ1 := σ) (P := []) rfl trivial ?_
      cases hm
      exact XW.iret B q (by decide +kernel)
  rw [if_neg h6] at hm
  by_cases h8 : x1 = (6 : Int32)
  · rw [if_pos h8] at hm
    refine XW.tsI B (6 : Int32) (dflt := 101) (n := 43) (lo := 0) (hi := 6) (offs := #[43, 48, 53, 58, 63, 68, 85]) (off := 85) (by decide +kernel) h8 (by decide +kernel) (tgt := 86) (by decide) ?_
    refine XW.bb B [(86, .aload_n 0), (87, .getfield 16)] (by decide +kernel) (pc1 := 90) (ls1 := [some (aR 22 0), some (aI x1)]) (st1 := [aI (σ.1 22 0 0)]) (σ1 := σ) (P := []) (i := .ifCond .eq 10) (tgt := 100) (q := (σ.1 22 0 0) = (0 : Int32)) rfl trivial (by decide +kernel) rfl (by decide) (fun h9 => ?_) (fun h9 => ?_)
    · rw [if_pos h9] at hm
      refine XW.bk B [(100, .iconst 0)] (by decide +kernel) (pc1 := 101) (ls1 := [some (aR 22 0), some (aI x1)]) (st1 := [aI (0 : Int32)]) (σ1 := σ) (P := []) rfl trivial ?_
      cases hm
      exact XW.iret B q (by decide +kernel)
    · rw [if_neg h9] at hm
      refine XW.bk B [(93, .aload_n 0), (94, .getfield 29), (97, .goto 4)] (by decide +kernel) (pc1 := 101) (ls1 := [some (aR 22 0), some (aI x1)]) (st1 := [aI (σ.1 22 0 4)]) (σ1 := σ) (P := []) rfl trivial ?_
      cases hm
      exact XW.iret B q (by decide +kernel)
  rw [if_neg h8] at hm
  refine XW.tsD B [(0 : Int32), (1 : Int32), (2 : Int32), (3 : Int32), (4 : Int32), (5 : Int32), (6 : Int32)] (dflt := 101) (n := 43) (lo := 0) (hi := 6) (offs := #[43, 48, 53, 58, 63, 68, 85]) (by decide +kernel) (List.forall_mem_cons.mpr ⟨h1, (List.forall_mem_cons.mpr ⟨h2, (List.forall_mem_cons.mpr ⟨h3, (List.forall_mem_cons.mpr ⟨h4, (List.forall_mem_cons.mpr ⟨h5, (List.forall_mem_cons.mpr ⟨h6, (List.forall_mem_cons.mpr ⟨h8, (fun _ hz => absurd hz List.not_mem_nil)⟩)⟩)⟩)⟩)⟩)⟩)⟩) (by decide +kernel) (by decide) (tgt := 102) (by decide) ?_
  refine XW.bk B [(102, .iconst (-1))] (by decide +kernel) (pc1 := 103) (ls1 := [some (aR 22 0), some (aI x1)]) (st1 := [aI (-1 : Int32)]) (σ1 := σ) (P := []) rfl trivial ?_
  cases hm
  exact XW.iret B q (by decide +kernel)
