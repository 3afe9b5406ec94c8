def m_X7_suppose (x1 : Int32) (x2 : Int32) (x3 : Int32) (σ : SS) : SS :=
  (sAf (sI (sI (sI (sI σ 14 0 4 x1) 14 0 5 x2) 14 0 6 x3) 14 0 7 ((m_X8_number (0 : Int32) (8 : Int32) (sI (sI (sI σ 14 0 4 x1) 14 0 5 x2) 14 0 6 x3)) - ((5 : Int32) * x2))) 16 0 (fillF ((sI (sI (sI (sI σ 14 0 4 x1) 14 0 5 x2) 14 0 6 x3) 14 0 7 ((m_X8_number (0 : Int32) (8 : Int32) (sI (sI (sI σ 14 0 4 x1) 14 0 5 x2) 14 0 6 x3)) - ((5 : Int32) * x2))).2.1 16 0) (-1 : Int32) 96))
set_option maxRecDepth 100000 in
set_option maxHeartbeats 4000000 in
theorem c_X7_suppose (x1 : Int32) (x2 : Int32) (x3 : Int32) (σ : SS) {σ' : SS} (hm : m_X7_suppose x1 x2 x3 σ = σ') : XM LC 2 M_X7_suppose [aR 14 0, aI x1, aI x2, aI x3] σ none σ' := by
  refine XM.of (K := K7) (by decide) (by decide +kernel) K7_ok (Nat.le_of_ble_eq_true rfl) (fun Γ B q => ?_)
  unfold m_X7_suppose at hm
  refine XW.bk B [(0, .aload_n 0), (1, .iload_n 1), (2, .putfield 26), (5, .aload_n 0), (6, .iload_n 2), (7, .putfield 30), (10, .aload_n 0), (11, .iload_n 3), (12, .putfield 33), (15, .aload_n 0), (16, .aload_n 0), (17, .getfield 18), (20, .iconst 0), (21, .bipush 8)] (by decide +kernel) (pc1 := 23) (ls1 := [some (aR 14 0), some (aI x1), some (aI x2), some (aI x3)]) (st1 := [aI (8 : Int32), aI (0 : Int32), aR 1 0, aR 14 0]) (σ1 := (sI (sI (sI σ 14 0 4 x1) 14 0 5 x2) 14 0 6 x3)) (P := []) rfl trivial ?_
  refine XW.callV B (M := M_X8_number) (t := 1) (j := 0) (cn := 1) (as := [aI (0 : Int32), aI (8 : Int32)]) (c_X8_number (0 : Int32) (8 : Int32) (sI (sI (sI σ 14 0 4 x1) 14 0 5 x2) 14 0 6 x3) rfl) (by decide) wV_X8_number wN_X8_number lk_X7_36 rfl rfl rfl (by decide) rfl (Nat.le_of_ble_eq_true rfl) (by decide +kernel) ?_
  refine XW.bk B [(26, .iconst 5), (27, .iload_n 2), (28, .imul), (29, .isub), (30, .putfield 42), (33, .aload_n 0), (34, .getfield 15), (37, .iconst (-1))] (by decide +kernel) (pc1 := 38) (ls1 := [some (aR 14 0), some (aI x1), some (aI x2), some (aI x3)]) (st1 := [aI (-1 : Int32), aR 16 0]) (σ1 := (sI (sI (sI (sI σ 14 0 4 x1) 14 0 5 x2) 14 0 6 x3) 14 0 7 ((m_X8_number (0 : Int32) (8 : Int32) (sI (sI (sI σ 14 0 4 x1) 14 0 5 x2) 14 0 6 x3)) - ((5 : Int32) * x2)))) (P := []) rfl trivial ?_
  refine XW.callS B (M := M_fillI) (as := [aR 16 0, aI (-1 : Int32)]) (c_fillI (cn := 1) (n := 96) rfl (by decide) (by decide) (-1 : Int32) (sI (sI (sI (sI σ 14 0 4 x1) 14 0 5 x2) 14 0 6 x3) 14 0 7 ((m_X8_number (0 : Int32) (8 : Int32) (sI (sI (sI σ 14 0 4 x1) 14 0 5 x2) 14 0 6 x3)) - ((5 : Int32) * x2)))) (by decide) wS_fillI wN_fillI lk_X7_45 rfl (Nat.le_of_ble_eq_true rfl) (by decide +kernel) ?_
  cases hm
  exact XW.vret B q (by decide +kernel)

def m_X7_supposeNow (σ : SS) : SS :=
  bnT (m_X7_suppose (m_X8_number (0 : Int32) (7 : Int32) σ) (m_X8_number (0 : Int32) (9 : Int32) σ) (0 : Int32) σ) (fun q1 =>
  q1)
set_option maxRecDepth 100000 in
set_option maxHeartbeats 4000000 in
theorem c_X7_supposeNow (σ : SS) {σ' : SS} (hm : m_X7_supposeNow σ = σ') : XM LC 3 M_X7_supposeNow [aR 14 0] σ none σ' := by
  refine XM.of (K := K7) (by decide) (by decide +kernel) K7_ok (Nat.le_of_ble_eq_true rfl) (fun Γ B q => ?_)
  unfold m_X7_supposeNow at hm
  refine XW.bk B [(0, .aload_n 0), (1, .aload_n 0), (2, .getfield 18), (5, .iconst 0), (6, .bipush 7)] (by decide +kernel) (pc1 := 8) (ls1 := [some (aR 14 0)]) (st1 := [aI (7 : Int32), aI (0 : Int32), aR 1 0, aR 14 0]) (σ1 := σ) (P := []) rfl trivial ?_
  refine XW.callV B (M := M_X8_number) (t := 1) (j := 0) (cn := 1) (as := [aI (0 : Int32), aI (7 : Int32)]) (c_X8_number (0 : Int32) (7 : Int32) σ rfl) (by decide) wV_X8_number wN_X8_number lk_X7_36 rfl rfl rfl (by decide) rfl (Nat.le_of_ble_eq_true rfl) (by decide +kernel) ?_
  refine XW.bk B [(11, .aload_n 0), (12, .getfield 18), (15, .iconst 0), (16, .bipush 9)] (by decide +kernel) (pc1 := 18) (ls1 := [some (aR 14 0)]) (st1 := [aI (9 : Int32), aI (0 : Int32), aR 1 0, aI (m_X8_number (0 : Int32) (7 : Int32) σ), aR 14 0]) (σ1 := σ) (P := []) rfl trivial ?_
  refine XW.callV B (M := M_X8_number) (t := 1) (j := 0) (cn := 1) (as := [aI (0 : Int32), aI (9 : Int32)]) (c_X8_number (0 : Int32) (9 : Int32) σ rfl) (by decide) wV_X8_number wN_X8_number lk_X7_36 rfl rfl rfl (by decide) rfl (Nat.le_of_ble_eq_true rfl) (by decide +kernel) ?_
  refine XW.bk B [(21, .iconst 0)] (by decide +kernel) (pc1 := 22) (ls1 := [some (aR 14 0)]) (st1 := [aI (0 : Int32), aI (m_X8_number (0 : Int32) (9 : Int32) σ), aI (m_X8_number (0 : Int32) (7 : Int32) σ), aR 14 0]) (σ1 := σ) (P := []) rfl trivial ?_
  obtain ⟨q1, hq1, hm⟩ := bnT_eq hm
  refine XW.callV B (M := M_X7_suppose) (t := 14) (j := 0) (cn := 1) (as := [aI (m_X8_number (0 : Int32) (7 : Int32) σ), aI (m_X8_number (0 : Int32) (9 : Int32) σ), aI (0 : Int32)]) (c_X7_suppose (m_X8_number (0 : Int32) (7 : Int32) σ) (m_X8_number (0 : Int32) (9 : Int32) σ) (0 : Int32) σ hq1) (by decide) wV_X7_suppose wN_X7_suppose lk_X7_51 rfl rfl rfl (by decide) rfl (Nat.le_of_ble_eq_true rfl) (by decide +kernel) ?_
  cases hm
  exact XW.vret B q (by decide +kernel)

def m_X7_workedOut (x1 : Int32) (x2 : Int32) (x3 : Int32) (σ : SS) : Option (Int32 × SS) :=
  if (m_X3_isTold σ) = (0 : Int32) then
    if (σ.1 14 0 4) ≤ (0 : Int32) then
      if x2 = (0 : Int32) then
        some ((if (0 : Int32) < (if (((m_X8_number x1 (4 : Int32) σ) + (0 : Int32)) + (x3 / (4 : Int32))) < (99 : Int32) then (((m_X8_number x1 (4 : Int32) σ) + (0 : Int32)) + (x3 / (4 : Int32))) else (99 : Int32)) then (if (((m_X8_number x1 (4 : Int32) σ) + (0 : Int32)) + (x3 / (4 : Int32))) < (99 : Int32) then (((m_X8_number x1 (4 : Int32) σ) + (0 : Int32)) + (x3 / (4 : Int32))) else (99 : Int32)) else (0 : Int32)), σ)
      else
      some ((if (0 : Int32) < (if (((m_X8_number x1 (4 : Int32) σ) + (0 : Int32)) + (0 : Int32)) < (99 : Int32) then (((m_X8_number x1 (4 : Int32) σ) + (0 : Int32)) + (0 : Int32)) else (99 : Int32)) then (if (((m_X8_number x1 (4 : Int32) σ) + (0 : Int32)) + (0 : Int32)) < (99 : Int32) then (((m_X8_number x1 (4 : Int32) σ) + (0 : Int32)) + (0 : Int32)) else (99 : Int32)) else (0 : Int32)), σ)
    else
    if x2 = (0 : Int32) then
      some ((if (0 : Int32) < (if (((m_X8_number x1 (4 : Int32) σ) + ((x3 * x2) / (σ.1 14 0 4))) + (x3 / (4 : Int32))) < (99 : Int32) then (((m_X8_number x1 (4 : Int32) σ) + ((x3 * x2) / (σ.1 14 0 4))) + (x3 / (4 : Int32))) else (99 : Int32)) then (if (((m_X8_number x1 (4 : Int32) σ) + ((x3 * x2) / (σ.1 14 0 4))) + (x3 / (4 : Int32))) < (99 : Int32) then (((m_X8_number x1 (4 : Int32) σ) + ((x3 * x2) / (σ.1 14 0 4))) + (x3 / (4 : Int32))) else (99 : Int32)) else (0 : Int32)), σ)
    else
    some ((if (0 : Int32) < (if (((m_X8_number x1 (4 : Int32) σ) + ((x3 * x2) / (σ.1 14 0 4))) + (0 : Int32)) < (99 : Int32) then (((m_X8_number x1 (4 : Int32) σ) + ((x3 * x2) / (σ.1 14 0 4))) + (0 : Int32)) else (99 : Int32)) then (if (((m_X8_number x1 (4 : Int32) σ) + ((x3 * x2) / (σ.1 14 0 4))) + (0 : Int32)) < (99 : Int32) then (((m_X8_number x1 (4 : Int32) σ) + ((x3 * x2) / (σ.1 14 0 4))) + (0 : Int32)) else (99 : Int32)) else (0 : Int32)), σ)
  else
  Option.bind (m_X3_worth (sA (sA (sA (sA (sA (sA σ 15 0 (0 : Int32).toNatClampNeg x3) 15 0 (1 : Int32).toNatClampNeg x2) 15 0 (2 : Int32).toNatClampNeg (σ.1 14 0 4)) 15 0 (3 : Int32).toNatClampNeg (m_X8_number x1 (4 : Int32) σ)) 15 0 (4 : Int32).toNatClampNeg (σ.1 14 0 5)) 15 0 (5 : Int32).toNatClampNeg x1)) (fun q5 =>
  some ((if (0 : Int32) < (if q5.1 < (99 : Int32) then q5.1 else (99 : Int32)) then (if q5.1 < (99 : Int32) then q5.1 else (99 : Int32)) else (0 : Int32)), q5.2))
set_option maxRecDepth 100000 in
set_option maxHeartbeats 4000000 in
theorem c_X7_workedOut (x1 : Int32) (x2 : Int32) (x3 : Int32) (σ : SS) {r : Int32} {σ' : SS} (hm : m_X7_workedOut x1 x2 x3 σ = some (r, σ')) : XM LC 3 M_X7_workedOut [aR 14 0, aI x1, aI x2, aI x3] σ (some (aI r)) σ' := by
  refine XM.of (K := K7) (by decide) (by decide +kernel) K7_ok (Nat.le_of_ble_eq_true rfl) (fun Γ B q => ?_)
  unfold m_X7_workedOut at hm
  refine XW.bk B [(0, .aload_n 0), (1, .getfield 18), (4, .iload_n 1), (5, .iconst 4)] (by decide +kernel) (pc1 := 6) (ls1 := [some (aR 14 0), some (aI x1), some (aI x2), some (aI x3), none, none]) (st1 := [aI (4 : Int32), aI x1, aR 1 0]) (σ1 := σ) (P := []) rfl trivial ?_
  refine XW.callV B (M := M_X8_number) (t := 1) (j := 0) (cn := 1) (as := [aI x1, aI (4 : Int32)]) (c_X8_number x1 (4 : Int32) σ rfl) (by decide) wV_X8_number wN_X8_number lk_X7_36 rfl rfl rfl (by decide) rfl (Nat.le_of_ble_eq_true rfl) (by decide +kernel) ?_
  refine XW.bk B [(9, .istore 4), (11, .aload_n 0), (12, .getfield 22)] (by decide +kernel) (pc1 := 15) (ls1 := [some (aR 14 0), some (aI x1), some (aI x2), some (aI x3), some (aI (m_X8_number x1 (4 : Int32) σ)), none]) (st1 := [aR 7 0]) (σ1 := σ) (P := []) rfl trivial ?_
  refine XW.callV B (M := M_X3_isTold) (t := 7) (j := 0) (cn := 1) (as := []) (c_X3_isTold σ rfl) (by decide) wV_X3_isTold wN_X3_isTold lk_X7_63 rfl rfl rfl (by decide) rfl (Nat.le_of_ble_eq_true rfl) (by decide +kernel) ?_
  refine XW.bb B [] (by decide +kernel) (pc1 := 18) (ls1 := [some (aR 14 0), some (aI x1), some (aI x2), some (aI x3), some (aI (m_X8_number x1 (4 : Int32) σ)), none]) (st1 := [aI (m_X3_isTold σ)]) (σ1 := σ) (P := []) (i := .ifCond .eq 68) (tgt := 86) (q := (m_X3_isTold σ) = (0 : Int32)) rfl trivial (by decide +kernel) rfl (by decide) (fun h1 => ?_) (fun h1 => ?_)
  · rw [if_pos h1] at hm
    refine XW.bb B [(86, .iload 4), (88, .aload_n 0), (89, .getfield 26)] (by decide +kernel) (pc1 := 92) (ls1 := [some (aR 14 0), some (aI x1), some (aI x2), some (aI x3), some (aI (m_X8_number x1 (4 : Int32) σ)), none]) (st1 := [aI (σ.1 14 0 4), aI (m_X8_number x1 (4 : Int32) σ)]) (σ1 := σ) (P := []) (i := .ifCond .le 14) (tgt := 106) (q := (σ.1 14 0 4) ≤ (0 : Int32)) rfl trivial (by decide +kernel) rfl (by decide) (fun h2 => ?_) (fun h2 => ?_)
    · rw [if_pos h2] at hm
      refine XW.bn B [(106, .iconst 0), (107, .iadd), (108, .iload_n 2)] (by decide +kernel) (pc1 := 109) (ls1 := [some (aR 14 0), some (aI x1), some (aI x2), some (aI x3), some (aI (m_X8_number x1 (4 : Int32) σ)), none]) (st1 := [aI x2, aI ((m_X8_number x1 (4 : Int32) σ) + (0 : Int32))]) (σ1 := σ) (P := []) (i := .ifCond .ne 9) (tgt := 118) (q := x2 = (0 : Int32)) rfl trivial (by decide +kernel) rfl (by decide) (fun h3 => ?_) (fun h3 => ?_)
      · rw [if_pos h3] at hm
        refine XW.bk B [(112, .iload_n 3), (113, .iconst 4), (114, .idiv), (115, .goto 4), (119, .iadd), (120, .istore 5), (122, .iconst 0), (123, .bipush 99), (125, .iload 5), (127, .invokestatic 73), (130, .invokestatic 78)] (by decide +kernel) (pc1 := 133) (ls1 := [some (aR 14 0), some (aI x1), some (aI x2), some (aI x3), some (aI (m_X8_number x1 (4 : Int32) σ)), some (aI (((m_X8_number x1 (4 : Int32) σ) + (0 : Int32)) + (x3 / (4 : Int32))))]) (st1 := [aI (if (0 : Int32) < (if (((m_X8_number x1 (4 : Int32) σ) + (0 : Int32)) + (x3 / (4 : Int32))) < (99 : Int32) then (((m_X8_number x1 (4 : Int32) σ) + (0 : Int32)) + (x3 / (4 : Int32))) else (99 : Int32)) then (if (((m_X8_number x1 (4 : Int32) σ) + (0 : Int32)) + (x3 / (4 : Int32))) < (99 : Int32) then (((m_X8_number x1 (4 : Int32) σ) + (0 : Int32)) + (x3 / (4 : Int32))) else (99 : Int32)) else (0 : Int32))]) (σ1 := σ) (P := [¬ (4 : Int32) = 0, (([aI (0 : Int32)] : List AV).map (fun v => (rv (fun _ _ => 0) v).category)).sum ≤ 8, (([] : List AV).map (fun v => (rv (fun _ _ => 0) v).category)).sum ≤ 8]) rfl ⟨(by decide), (Nat.le_of_ble_eq_true rfl), (Nat.le_of_ble_eq_true rfl), trivial⟩ ?_
        cases hm
        exact XW.iret B q (by decide +kernel)
      · rw [if_neg h3] at hm
        refine XW.bk B [(118, .iconst 0), (119, .iadd), (120, .istore 5), (122, .iconst 0), (123, .bipush 99), (125, .iload 5), (127, .invokestatic 73), (130, .invokestatic 78)] (by decide +kernel) (pc1 := 133) (ls1 := [some (aR 14 0), some (aI x1), some (aI x2), some (aI x3), some (aI (m_X8_number x1 (4 : Int32) σ)), some (aI (((m_X8_number x1 (4 : Int32) σ) + (0 : Int32)) + (0 : Int32)))]) (st1 := [aI (if (0 : Int32) < (if (((m_X8_number x1 (4 : Int32) σ) + (0 : Int32)) + (0 : Int32)) < (99 : Int32) then (((m_X8_number x1 (4 : Int32) σ) + (0 : Int32)) + (0 : Int32)) else (99 : Int32)) then (if (((m_X8_number x1 (4 : Int32) σ) + (0 : Int32)) + (0 : Int32)) < (99 : Int32) then (((m_X8_number x1 (4 : Int32) σ) + (0 : Int32)) + (0 : Int32)) else (99 : Int32)) else (0 : Int32))]) (σ1 := σ) (P := [(([aI (0 : Int32)] : List AV).map (fun v => (rv (fun _ _ => 0) v).category)).sum ≤ 8, (([] : List AV).map (fun v => (rv (fun _ _ => 0) v).category)).sum ≤ 8]) rfl ⟨(Nat.le_of_ble_eq_true rfl), (Nat.le_of_ble_eq_true rfl), trivial⟩ ?_
        cases hm
        exact XW.iret B q (by decide +kernel)
    · rw [if_neg h2] at hm
      refine XW.bn B [(95, .iload_n 3), (96, .iload_n 2), (97, .imul), (98, .aload_n 0), (99, .getfield 26), (102, .idiv), (103, .goto 4), (107, .iadd), (108, .iload_n 2)] (by decide +kernel) (pc1 := 109) (ls1 := [some (aR 14 0), some (aI x1), some (aI x2), some (aI x3), some (aI (m_X8_number x1 (4 : Int32) σ)), none]) (st1 := [aI x2, aI ((m_X8_number x1 (4 : Int32) σ) + ((x3 * x2) / (σ.1 14 0 4)))]) (σ1 := σ) (P := [¬ (σ.1 14 0 4) = 0]) (i := .ifCond .ne 9) (tgt := 118) (q := x2 = (0 : Int32)) rfl ⟨(nz_a h2), trivial⟩ (by decide +kernel) rfl (by decide) (fun h4 => ?_) (fun h4 => ?_)
      · rw [if_pos h4] at hm
        refine XW.bk B [(112, .iload_n 3), (113, .iconst 4), (114, .idiv), (115, .goto 4), (119, .iadd), (120, .istore 5), (122, .iconst 0), (123, .bipush 99), (125, .iload 5), (127, .invokestatic 73), (130, .invokestatic 78)] (by decide +kernel) (pc1 := 133) (ls1 := [some (aR 14 0), some (aI x1), some (aI x2), some (aI x3), some (aI (m_X8_number x1 (4 : Int32) σ)), some (aI (((m_X8_number x1 (4 : Int32) σ) + ((x3 * x2) / (σ.1 14 0 4))) + (x3 / (4 : Int32))))]) (st1 := [aI (if (0 : Int32) < (if (((m_X8_number x1 (4 : Int32) σ) + ((x3 * x2) / (σ.1 14 0 4))) + (x3 / (4 : Int32))) < (99 : Int32) then (((m_X8_number x1 (4 : Int32) σ) + ((x3 * x2) / (σ.1 14 0 4))) + (x3 / (4 : Int32))) else (99 : Int32)) then (if (((m_X8_number x1 (4 : Int32) σ) + ((x3 * x2) / (σ.1 14 0 4))) + (x3 / (4 : Int32))) < (99 : Int32) then (((m_X8_number x1 (4 : Int32) σ) + ((x3 * x2) / (σ.1 14 0 4))) + (x3 / (4 : Int32))) else (99 : Int32)) else (0 : Int32))]) (σ1 := σ) (P := [¬ (4 : Int32) = 0, (([aI (0 : Int32)] : List AV).map (fun v => (rv (fun _ _ => 0) v).category)).sum ≤ 8, (([] : List AV).map (fun v => (rv (fun _ _ => 0) v).category)).sum ≤ 8]) rfl ⟨(by decide), (Nat.le_of_ble_eq_true rfl), (Nat.le_of_ble_eq_true rfl), trivial⟩ ?_
        cases hm
        exact XW.iret B q (by decide +kernel)
      · rw [if_neg h4] at hm
        refine XW.bk B [(118, .iconst 0), (119, .iadd), (120, .istore 5), (122, .iconst 0), (123, .bipush 99), (125, .iload 5), (127, .invokestatic 73), (130, .invokestatic 78)] (by decide +kernel) (pc1 := 133) (ls1 := [some (aR 14 0), some (aI x1), some (aI x2), some (aI x3), some (aI (m_X8_number x1 (4 : Int32) σ)), some (aI (((m_X8_number x1 (4 : Int32) σ) + ((x3 * x2) / (σ.1 14 0 4))) + (0 : Int32)))]) (st1 := [aI (if (0 : Int32) < (if (((m_X8_number x1 (4 : Int32) σ) + ((x3 * x2) / (σ.1 14 0 4))) + (0 : Int32)) < (99 : Int32) then (((m_X8_number x1 (4 : Int32) σ) + ((x3 * x2) / (σ.1 14 0 4))) + (0 : Int32)) else (99 : Int32)) then (if (((m_X8_number x1 (4 : Int32) σ) + ((x3 * x2) / (σ.1 14 0 4))) + (0 : Int32)) < (99 : Int32) then (((m_X8_number x1 (4 : Int32) σ) + ((x3 * x2) / (σ.1 14 0 4))) + (0 : Int32)) else (99 : Int32)) else (0 : Int32))]) (σ1 := σ) (P := [(([aI (0 : Int32)] : List AV).map (fun v => (rv (fun _ _ => 0) v).category)).sum ≤ 8, (([] : List AV).map (fun v => (rv (fun _ _ => 0) v).category)).sum ≤ 8]) rfl ⟨(Nat.le_of_ble_eq_true rfl), (Nat.le_of_ble_eq_true rfl), trivial⟩ ?_
        cases hm
        exact XW.iret B q (by decide +kernel)
  · rw [if_neg h1] at hm
    refine XW.bk B [(21, .aload_n 0), (22, .getfield 9), (25, .iconst 0), (26, .iload_n 3), (27, .iastore), (28, .aload_n 0), (29, .getfield 9), (32, .iconst 1), (33, .iload_n 2), (34, .iastore), (35, .aload_n 0), (36, .getfield 9), (39, .iconst 2), (40, .aload_n 0), (41, .getfield 26), (44, .iastore), (45, .aload_n 0), (46, .getfield 9), (49, .iconst 3), (50, .iload 4), (52, .iastore), (53, .aload_n 0), (54, .getfield 9), (57, .iconst 4), (58, .aload_n 0), (59, .getfield 30), (62, .iastore), (63, .aload_n 0), (64, .getfield 9), (67, .iconst 5), (68, .iload_n 1), (69, .iastore), (70, .aload_n 0), (71, .getfield 22), (74, .aload_n 0), (75, .getfield 9)] (by decide +kernel) (pc1 := 78) (ls1 := [some (aR 14 0), some (aI x1), some (aI x2), some (aI x3), some (aI (m_X8_number x1 (4 : Int32) σ)), none]) (st1 := [aR 15 0, aR 7 0]) (σ1 := (sA (sA (sA (sA (sA (sA σ 15 0 (0 : Int32).toNatClampNeg x3) 15 0 (1 : Int32).toNatClampNeg x2) 15 0 (2 : Int32).toNatClampNeg (σ.1 14 0 4)) 15 0 (3 : Int32).toNatClampNeg (m_X8_number x1 (4 : Int32) σ)) 15 0 (4 : Int32).toNatClampNeg (σ.1 14 0 5)) 15 0 (5 : Int32).toNatClampNeg x1)) (P := [vp_in (0 : Int32) 6, vp_in (1 : Int32) 6, vp_in (2 : Int32) 6, vp_in (3 : Int32) 6, vp_in (4 : Int32) 6, vp_in (5 : Int32) 6]) rfl ⟨(vin_lit (by decide +kernel)), (vin_lit (by decide +kernel)), (vin_lit (by decide +kernel)), (vin_lit (by decide +kernel)), (vin_lit (by decide +kernel)), (vin_lit (by decide +kernel)), trivial⟩ ?_
    obtain ⟨q5, hq5, hm⟩ := obind_eq hm
    refine XW.callV B (M := M_X3_worth) (t := 7) (j := 0) (cn := 1) (as := [aR 15 0]) (c_X3_worth (sA (sA (sA (sA (sA (sA σ 15 0 (0 : Int32).toNatClampNeg x3) 15 0 (1 : Int32).toNatClampNeg x2) 15 0 (2 : Int32).toNatClampNeg (σ.1 14 0 4)) 15 0 (3 : Int32).toNatClampNeg (m_X8_number x1 (4 : Int32) σ)) 15 0 (4 : Int32).toNatClampNeg (σ.1 14 0 5)) 15 0 (5 : Int32).toNatClampNeg x1) hq5) (by decide) wV_X3_worth wN_X3_worth lk_X7_69 rfl rfl rfl (by decide) rfl (Nat.le_of_ble_eq_true rfl) (by decide +kernel) ?_
    refine XW.bk B [(81, .istore 5), (83, .goto 39), (122, .iconst 0), (123, .bipush 99), (125, .iload 5), (127, .invokestatic 73), (130, .invokestatic 78)] (by decide +kernel) (pc1 := 133) (ls1 := [some (aR 14 0), some (aI x1), some (aI x2), some (aI x3), some (aI (m_X8_number x1 (4 : Int32) σ)), some (aI q5.1)]) (st1 := [aI (if (0 : Int32) < (if q5.1 < (99 : Int32) then q5.1 else (99 : Int32)) then (if q5.1 < (99 : Int32) then q5.1 else (99 : Int32)) else (0 : Int32))]) (σ1 := q5.2) (P := [(([aI (0 : Int32)] : List AV).map (fun v => (rv (fun _ _ => 0) v).category)).sum ≤ 8, (([] : List AV).map (fun v => (rv (fun _ _ => 0) v).category)).sum ≤ 8]) rfl ⟨(Nat.le_of_ble_eq_true rfl), (Nat.le_of_ble_eq_true rfl), trivial⟩ ?_
    cases hm
    exact XW.iret B q (by decide +kernel)

def m_X7_inMinute (x1 : Int32) (x2 : Int32) (x3 : Int32) (σ : SS) : Option (Int32 × SS) :=
  if (m_X8_isGusty x1 x3 σ) = (0 : Int32) then
    if x2 < (0 : Int32) then
      some ((0 : Int32), σ)
    else
    if (4 : Int32) ≤ x2 then
      some ((0 : Int32), σ)
    else
    if ((((x1 * (4 : Int32)) + x2) * (2 : Int32)) + (0 : Int32)) < (0 : Int32) then
      some ((0 : Int32), σ)
    else
    if ((((x1 * (4 : Int32)) + x2) * (2 : Int32)) + (0 : Int32)) < (96 : Int32) then
      if (σ.2.1 16 0 ((((x1 * (4 : Int32)) + x2) * (2 : Int32)) + (0 : Int32)).toNatClampNeg) = (-1 : Int32) then
        Option.bind (m_X7_workedOut x1 x2 (m_X8_number x1 (1 : Int32) σ) σ) (fun q7 =>
        some (((sA q7.2 16 0 ((((x1 * (4 : Int32)) + x2) * (2 : Int32)) + (0 : Int32)).toNatClampNeg q7.1).2.1 16 0 ((((x1 * (4 : Int32)) + x2) * (2 : Int32)) + (0 : Int32)).toNatClampNeg), (sA q7.2 16 0 ((((x1 * (4 : Int32)) + x2) * (2 : Int32)) + (0 : Int32)).toNatClampNeg q7.1)))
      else
      some ((σ.2.1 16 0 ((((x1 * (4 : Int32)) + x2) * (2 : Int32)) + (0 : Int32)).toNatClampNeg), σ)
    else
    some ((0 : Int32), σ)
  else
  if x2 < (0 : Int32) then
    some ((0 : Int32), σ)
  else
  if (4 : Int32) ≤ x2 then
    some ((0 : Int32), σ)
  else
  if ((((x1 * (4 : Int32)) + x2) * (2 : Int32)) + (1 : Int32)) < (0 : Int32) then
    some ((0 : Int32), σ)
  else
  if ((((x1 * (4 : Int32)) + x2) * (2 : Int32)) + (1 : Int32)) < (96 : Int32) then
    if (σ.2.1 16 0 ((((x1 * (4 : Int32)) + x2) * (2 : Int32)) + (1 : Int32)).toNatClampNeg) = (-1 : Int32) then
      Option.bind (m_X7_workedOut x1 x2 ((m_X8_number x1 (0 : Int32) σ) + (σ.1 14 0 6)) σ) (fun q13 =>
      some (((sA q13.2 16 0 ((((x1 * (4 : Int32)) + x2) * (2 : Int32)) + (1 : Int32)).toNatClampNeg q13.1).2.1 16 0 ((((x1 * (4 : Int32)) + x2) * (2 : Int32)) + (1 : Int32)).toNatClampNeg), (sA q13.2 16 0 ((((x1 * (4 : Int32)) + x2) * (2 : Int32)) + (1 : Int32)).toNatClampNeg q13.1)))
    else
    some ((σ.2.1 16 0 ((((x1 * (4 : Int32)) + x2) * (2 : Int32)) + (1 : Int32)).toNatClampNeg), σ)
  else
  some ((0 : Int32), σ)
set_option maxRecDepth 100000 in
set_option maxHeartbeats 4000000 in
theorem c_X7_inMinute (x1 : Int32) (x2 : Int32) (x3 : Int32) (σ : SS) {r : Int32} {σ' : SS} (hm : m_X7_inMinute x1 x2 x3 σ = some (r, σ')) : XM LC 4 M_X7_inMinute [aR 14 0, aI x1, aI x2, aI x3] σ (some (aI r)) σ' := by
  refine XM.of (K := K7) (by decide) (by decide +kernel) K7_ok (Nat.le_of_ble_eq_true rfl) (fun Γ B q => ?_)
  unfold m_X7_inMinute at hm
  refine XW.bk B [(0, .aload_n 0), (1, .getfield 18), (4, .iload_n 1), (5, .iload_n 3)] (by decide +kernel) (pc1 := 6) (ls1 := [some (aR 14 0), some (aI x1), some (aI x2), some (aI x3), none, none, none]) (st1 := [aI x3, aI x1, aR 1 0]) (σ1 := σ) (P := []) rfl trivial ?_
  refine XW.callV B (M := M_X8_isGusty) (t := 1) (j := 0) (cn := 1) (as := [aI x1, aI x3]) (c_X8_isGusty x1 x3 σ rfl) (by decide) wV_X8_isGusty wN_X8_isGusty lk_X7_55 rfl rfl rfl (by decide) rfl (Nat.le_of_ble_eq_true rfl) (by decide +kernel) ?_
  refine XW.bb B [(9, .istore 4), (11, .iload_n 1), (12, .iconst 4), (13, .imul), (14, .iload_n 2), (15, .iadd), (16, .iconst 2), (17, .imul), (18, .iload 4)] (by decide +kernel) (pc1 := 20) (ls1 := [some (aR 14 0), some (aI x1), some (aI x2), some (aI x3), some (aI (m_X8_isGusty x1 x3 σ)), none, none]) (st1 := [aI (m_X8_isGusty x1 x3 σ), aI (((x1 * (4 : Int32)) + x2) * (2 : Int32))]) (σ1 := σ) (P := []) (i := .ifCond .eq 7) (tgt := 27) (q := (m_X8_isGusty x1 x3 σ) = (0 : Int32)) rfl trivial (by decide +kernel) rfl (by decide) (fun h1 => ?_) (fun h1 => ?_)
  · rw [if_pos h1] at hm
    refine XW.bb B [(27, .iconst 0), (28, .iadd), (29, .istore 5), (31, .iload_n 2)] (by decide +kernel) (pc1 := 32) (ls1 := [some (aR 14 0), some (aI x1), some (aI x2), some (aI x3), some (aI (m_X8_isGusty x1 x3 σ)), some (aI ((((x1 * (4 : Int32)) + x2) * (2 : Int32)) + (0 : Int32))), none]) (st1 := [aI x2]) (σ1 := σ) (P := []) (i := .ifCond .lt 23) (tgt := 55) (q := x2 < (0 : Int32)) rfl trivial (by decide +kernel) rfl (by decide) (fun h2 => ?_) (fun h2 => ?_)
    · rw [if_pos h2] at hm
      refine XW.bk B [(55, .iconst 0)] (by decide +kernel) (pc1 := 56) (ls1 := [some (aR 14 0), some (aI x1), some (aI x2), some (aI x3), some (aI (m_X8_isGusty x1 x3 σ)), some (aI ((((x1 * (4 : Int32)) + x2) * (2 : Int32)) + (0 : Int32))), none]) (st1 := [aI (0 : Int32)]) (σ1 := σ) (P := []) rfl trivial ?_
      cases hm
      exact XW.iret B q (by decide +kernel)
    · rw [if_neg h2] at hm
      refine XW.bb B [(35, .iload_n 2), (36, .iconst 4)] (by decide +kernel) (pc1 := 37) (ls1 := [some (aR 14 0), some (aI x1), some (aI x2), some (aI x3), some (aI (m_X8_isGusty x1 x3 σ)), some (aI ((((x1 * (4 : Int32)) + x2) * (2 : Int32)) + (0 : Int32))), none]) (st1 := [aI (4 : Int32), aI x2]) (σ1 := σ) (P := []) (i := .if_icmp .ge 18) (tgt := 55) (q := (4 : Int32) ≤ x2) rfl trivial (by decide +kernel) rfl (by decide) (fun h3 => ?_) (fun h3 => ?_)
      · rw [if_pos h3] at hm
        refine XW.bk B [(55, .iconst 0)] (by decide +kernel) (pc1 := 56) (ls1 := [some (aR 14 0), some (aI x1), some (aI x2), some (aI x3), some (aI (m_X8_isGusty x1 x3 σ)), some (aI ((((x1 * (4 : Int32)) + x2) * (2 : Int32)) + (0 : Int32))), none]) (st1 := [aI (0 : Int32)]) (σ1 := σ) (P := []) rfl trivial ?_
        cases hm
        exact XW.iret B q (by decide +kernel)
      · rw [if_neg h3] at hm
        refine XW.bb B [(40, .iload 5)] (by decide +kernel) (pc1 := 42) (ls1 := [some (aR 14 0), some (aI x1), some (aI x2), some (aI x3), some (aI (m_X8_isGusty x1 x3 σ)), some (aI ((((x1 * (4 : Int32)) + x2) * (2 : Int32)) + (0 : Int32))), none]) (st1 := [aI ((((x1 * (4 : Int32)) + x2) * (2 : Int32)) + (0 : Int32))]) (σ1 := σ) (P := []) (i := .ifCond .lt 13) (tgt := 55) (q := ((((x1 * (4 : Int32)) + x2) * (2 : Int32)) + (0 : Int32)) < (0 : Int32)) rfl trivial (by decide +kernel) rfl (by decide) (fun h4 => ?_) (fun h4 => ?_)
        · rw [if_pos h4] at hm
          refine XW.bk B [(55, .iconst 0)] (by decide +kernel) (pc1 := 56) (ls1 := [some (aR 14 0), some (aI x1), some (aI x2), some (aI x3), some (aI (m_X8_isGusty x1 x3 σ)), some (aI ((((x1 * (4 : Int32)) + x2) * (2 : Int32)) + (0 : Int32))), none]) (st1 := [aI (0 : Int32)]) (σ1 := σ) (P := []) rfl trivial ?_
          cases hm
          exact XW.iret B q (by decide +kernel)
        · rw [if_neg h4] at hm
          refine XW.bb B [(45, .iload 5), (47, .aload_n 0), (48, .getfield 15), (51, .arraylength)] (by decide +kernel) (pc1 := 52) (ls1 := [some (aR 14 0), some (aI x1), some (aI x2), some (aI x3), some (aI (m_X8_isGusty x1 x3 σ)), some (aI ((((x1 * (4 : Int32)) + x2) * (2 : Int32)) + (0 : Int32))), none]) (st1 := [aI (96 : Int32), aI ((((x1 * (4 : Int32)) + x2) * (2 : Int32)) + (0 : Int32))]) (σ1 := σ) (P := []) (i := .if_icmp .lt 5) (tgt := 57) (q := ((((x1 * (4 : Int32)) + x2) * (2 : Int32)) + (0 : Int32)) < (96 : Int32)) rfl trivial (by decide +kernel) rfl (by decide) (fun h5 => ?_) (fun h5 => ?_)
          · rw [if_pos h5] at hm
            refine XW.bn B [(57, .aload_n 0), (58, .getfield 15), (61, .iload 5), (63, .iaload), (64, .iconst (-1))] (by decide +kernel) (pc1 := 65) (ls1 := [some (aR 14 0), some (aI x1), some (aI x2), some (aI x3), some (aI (m_X8_isGusty x1 x3 σ)), some (aI ((((x1 * (4 : Int32)) + x2) * (2 : Int32)) + (0 : Int32))), none]) (st1 := [aI (-1 : Int32), aI (σ.2.1 16 0 ((((x1 * (4 : Int32)) + x2) * (2 : Int32)) + (0 : Int32)).toNatClampNeg)]) (σ1 := σ) (P := [vp_in ((((x1 * (4 : Int32)) + x2) * (2 : Int32)) + (0 : Int32)) 96]) (i := .if_icmp .ne 51) (tgt := 116) (q := (σ.2.1 16 0 ((((x1 * (4 : Int32)) + x2) * (2 : Int32)) + (0 : Int32)).toNatClampNeg) = (-1 : Int32)) rfl ⟨(vin_b h4 h5 (by decide +kernel)), trivial⟩ (by decide +kernel) rfl (by decide) (fun h6 => ?_) (fun h6 => ?_)
            · rw [if_pos h6] at hm
              refine XW.bb B [(68, .iload 4)] (by decide +kernel) (pc1 := 70) (ls1 := [some (aR 14 0), some (aI x1), some (aI x2), some (aI x3), some (aI (m_X8_isGusty x1 x3 σ)), some (aI ((((x1 * (4 : Int32)) + x2) * (2 : Int32)) + (0 : Int32))), none]) (st1 := [aI (m_X8_isGusty x1 x3 σ)]) (σ1 := σ) (P := []) (i := .ifCond .eq 20) (tgt := 90) (q := (m_X8_isGusty x1 x3 σ) = (0 : Int32)) rfl trivial (by decide +kernel) rfl (by decide) (fun _ => ?_) (fun h => absurd h1 h)
              refine XW.bk B [(90, .aload_n 0), (91, .getfield 18), (94, .iload_n 1), (95, .iconst 1)] (by decide +kernel) (pc1 := 96) (ls1 := [some (aR 14 0), some (aI x1), some (aI x2), some (aI x3), some (aI (m_X8_isGusty x1 x3 σ)), some (aI ((((x1 * (4 : Int32)) + x2) * (2 : Int32)) + (0 : Int32))), none]) (st1 := [aI (1 : Int32), aI x1, aR 1 0]) (σ1 := σ) (P := []) rfl trivial ?_
              refine XW.callV B (M := M_X8_number) (t := 1) (j := 0) (cn := 1) (as := [aI x1, aI (1 : Int32)]) (c_X8_number x1 (1 : Int32) σ rfl) (by decide) wV_X8_number wN_X8_number lk_X7_36 rfl rfl rfl (by decide) rfl (Nat.le_of_ble_eq_true rfl) (by decide +kernel) ?_
              refine XW.bk B [(99, .istore 6), (101, .aload_n 0), (102, .getfield 15), (105, .iload 5), (107, .aload_n 0), (108, .iload_n 1), (109, .iload_n 2), (110, .iload 6)] (by decide +kernel) (pc1 := 112) (ls1 := [some (aR 14 0), some (aI x1), some (aI x2), some (aI x3), some (aI (m_X8_isGusty x1 x3 σ)), some (aI ((((x1 * (4 : Int32)) + x2) * (2 : Int32)) + (0 : Int32))), some (aI (m_X8_number x1 (1 : Int32) σ))]) (st1 := [aI (m_X8_number x1 (1 : Int32) σ), aI x2, aI x1, aR 14 0, aI ((((x1 * (4 : Int32)) + x2) * (2 : Int32)) + (0 : Int32)), aR 16 0]) (σ1 := σ) (P := []) rfl trivial ?_
              obtain ⟨q7, hq7, hm⟩ := obind_eq hm
              refine XW.callV B (M := M_X7_workedOut) (t := 14) (j := 0) (cn := 1) (as := [aI x1, aI x2, aI (m_X8_number x1 (1 : Int32) σ)]) (c_X7_workedOut x1 x2 (m_X8_number x1 (1 : Int32) σ) σ hq7) (by decide) wV_X7_workedOut wN_X7_workedOut lk_X7_59 rfl rfl rfl (by decide) rfl (Nat.le_of_ble_eq_true rfl) (by decide +kernel) ?_
              refine XW.bk B [(115, .iastore), (116, .aload_n 0), (117, .getfield 15), (120, .iload 5), (122, .iaload)] (by decide +kernel) (pc1 := 123) (ls1 := [some (aR 14 0), some (aI x1), some (aI x2), some (aI x3), some (aI (m_X8_isGusty x1 x3 σ)), some (aI ((((x1 * (4 : Int32)) + x2) * (2 : Int32)) + (0 : Int32))), some (aI (m_X8_number x1 (1 : Int32) σ))]) (st1 := [aI ((sA q7.2 16 0 ((((x1 * (4 : Int32)) + x2) * (2 : Int32)) + (0 : Int32)).toNatClampNeg q7.1).2.1 16 0 ((((x1 * (4 : Int32)) + x2) * (2 : Int32)) + (0 : Int32)).toNatClampNeg)]) (σ1 := (sA q7.2 16 0 ((((x1 * (4 : Int32)) + x2) * (2 : Int32)) + (0 : Int32)).toNatClampNeg q7.1)) (P := [vp_in ((((x1 * (4 : Int32)) + x2) * (2 : Int32)) + (0 : Int32)) 96, vp_in ((((x1 * (4 : Int32)) + x2) * (2 : Int32)) + (0 : Int32)) 96]) rfl ⟨(vin_b h4 h5 (by decide +kernel)), (vin_b h4 h5 (by decide +kernel)), trivial⟩ ?_
              cases hm
              exact XW.iret B q (by decide +kernel)
            · rw [if_neg h6] at hm
              refine XW.bk B [(116, .aload_n 0), (117, .getfield 15), (120, .iload 5), (122, .iaload)] (by decide +kernel) (pc1 := 123) (ls1 := [some (aR 14 0), some (aI x1), some (aI x2), some (aI x3), some (aI (m_X8_isGusty x1 x3 σ)), some (aI ((((x1 * (4 : Int32)) + x2) * (2 : Int32)) + (0 : Int32))), none]) (st1 := [aI (σ.2.1 16 0 ((((x1 * (4 : Int32)) + x2) * (2 : Int32)) + (0 : Int32)).toNatClampNeg)]) (σ1 := σ) (P := [vp_in ((((x1 * (4 : Int32)) + x2) * (2 : Int32)) + (0 : Int32)) 96]) rfl ⟨(vin_b h4 h5 (by decide +kernel)), trivial⟩ ?_
              cases hm
              exact XW.iret B q (by decide +kernel)
          · rw [if_neg h5] at hm
            refine XW.bk B [(55, .iconst 0)] (by decide +kernel) (pc1 := 56) (ls1 := [some (aR 14 0), some (aI x1), some (aI x2), some (aI x3), some (aI (m_X8_isGusty x1 x3 σ)), some (aI ((((x1 * (4 : Int32)) + x2) * (2 : Int32)) + (0 : Int32))), none]) (st1 := [aI (0 : Int32)]) (σ1 := σ) (P := []) rfl trivial ?_
            cases hm
            exact XW.iret B q (by decide +kernel)
  · rw [if_neg h1] at hm
    refine XW.bb B [(23, .iconst 1), (24, .goto 4), (28, .iadd), (29, .istore 5), (31, .iload_n 2)] (by decide +kernel) (pc1 := 32) (ls1 := [some (aR 14 0), some (aI x1), some (aI x2), some (aI x3), some (aI (m_X8_isGusty x1 x3 σ)), some (aI ((((x1 * (4 : Int32)) + x2) * (2 : Int32)) + (1 : Int32))), none]) (st1 := [aI x2]) (σ1 := σ) (P := []) (i := .ifCond .lt 23) (tgt := 55) (q := x2 < (0 : Int32)) rfl trivial (by decide +kernel) rfl (by decide) (fun h8 => ?_) (fun h8 => ?_)
    · rw [if_pos h8] at hm
      refine XW.bk B [(55, .iconst 0)] (by decide +kernel) (pc1 := 56) (ls1 := [some (aR 14 0), some (aI x1), some (aI x2), some (aI x3), some (aI (m_X8_isGusty x1 x3 σ)), some (aI ((((x1 * (4 : Int32)) + x2) * (2 : Int32)) + (1 : Int32))), none]) (st1 := [aI (0 : Int32)]) (σ1 := σ) (P := []) rfl trivial ?_
      cases hm
      exact XW.iret B q (by decide +kernel)
    · rw [if_neg h8] at hm
      refine XW.bb B [(35, .iload_n 2), (36, .iconst 4)] (by decide +kernel) (pc1 := 37) (ls1 := [some (aR 14 0), some (aI x1), some (aI x2), some (aI x3), some (aI (m_X8_isGusty x1 x3 σ)), some (aI ((((x1 * (4 : Int32)) + x2) * (2 : Int32)) + (1 : Int32))), none]) (st1 := [aI (4 : Int32), aI x2]) (σ1 := σ) (P := []) (i := .if_icmp .ge 18) (tgt := 55) (q := (4 : Int32) ≤ x2) rfl trivial (by decide +kernel) rfl (by decide) (fun h9 => ?_) (fun h9 => ?_)
      · rw [if_pos h9] at hm
        refine XW.bk B [(55, .iconst 0)] (by decide +kernel) (pc1 := 56) (ls1 := [some (aR 14 0), some (aI x1), some (aI x2), some (aI x3), some (aI (m_X8_isGusty x1 x3 σ)), some (aI ((((x1 * (4 : Int32)) + x2) * (2 : Int32)) + (1 : Int32))), none]) (st1 := [aI (0 : Int32)]) (σ1 := σ) (P := []) rfl trivial ?_
        cases hm
        exact XW.iret B q (by decide +kernel)
      · rw [if_neg h9] at hm
        refine XW.bb B [(40, .iload 5)] (by decide +kernel) (pc1 := 42) (ls1 := [some (aR 14 0), some (aI x1), some (aI x2), some (aI x3), some (aI (m_X8_isGusty x1 x3 σ)), some (aI ((((x1 * (4 : Int32)) + x2) * (2 : Int32)) + (1 : Int32))), none]) (st1 := [aI ((((x1 * (4 : Int32)) + x2) * (2 : Int32)) + (1 : Int32))]) (σ1 := σ) (P := []) (i := .ifCond .lt 13) (tgt := 55) (q := ((((x1 * (4 : Int32)) + x2) * (2 : Int32)) + (1 : Int32)) < (0 : Int32)) rfl trivial (by decide +kernel) rfl (by decide) (fun h10 => ?_) (fun h10 => ?_)
        · rw [if_pos h10] at hm
          refine XW.bk B [(55, .iconst 0)] (by decide +kernel) (pc1 := 56) (ls1 := [some (aR 14 0), some (aI x1), some (aI x2), some (aI x3), some (aI (m_X8_isGusty x1 x3 σ)), some (aI ((((x1 * (4 : Int32)) + x2) * (2 : Int32)) + (1 : Int32))), none]) (st1 := [aI (0 : Int32)]) (σ1 := σ) (P := []) rfl trivial ?_
          cases hm
          exact XW.iret B q (by decide +kernel)
        · rw [if_neg h10] at hm
          refine XW.bb B [(45, .iload 5), (47, .aload_n 0), (48, .getfield 15), (51, .arraylength)] (by decide +kernel) (pc1 := 52) (ls1 := [some (aR 14 0), some (aI x1), some (aI x2), some (aI x3), some (aI (m_X8_isGusty x1 x3 σ)), some (aI ((((x1 * (4 : Int32)) + x2) * (2 : Int32)) + (1 : Int32))), none]) (st1 := [aI (96 : Int32), aI ((((x1 * (4 : Int32)) + x2) * (2 : Int32)) + (1 : Int32))]) (σ1 := σ) (P := []) (i := .if_icmp .lt 5) (tgt := 57) (q := ((((x1 * (4 : Int32)) + x2) * (2 : Int32)) + (1 : Int32)) < (96 : Int32)) rfl trivial (by decide +kernel) rfl (by decide) (fun h11 => ?_) (fun h11 => ?_)
          · rw [if_pos h11] at hm
            refine XW.bn B [(57, .aload_n 0), (58, .getfield 15), (61, .iload 5), (63, .iaload), (64, .iconst (-1))] (by decide +kernel) (pc1 := 65) (ls1 := [some (aR 14 0), some (aI x1), some (aI x2), some (aI x3), some (aI (m_X8_isGusty x1 x3 σ)), some (aI ((((x1 * (4 : Int32)) + x2) * (2 : Int32)) + (1 : Int32))), none]) (st1 := [aI (-1 : Int32), aI (σ.2.1 16 0 ((((x1 * (4 : Int32)) + x2) * (2 : Int32)) + (1 : Int32)).toNatClampNeg)]) (σ1 := σ) (P := [vp_in ((((x1 * (4 : Int32)) + x2) * (2 : Int32)) + (1 : Int32)) 96]) (i := .if_icmp .ne 51) (tgt := 116) (q := (σ.2.1 16 0 ((((x1 * (4 : Int32)) + x2) * (2 : Int32)) + (1 : Int32)).toNatClampNeg) = (-1 : Int32)) rfl ⟨(vin_b h10 h11 (by decide +kernel)), trivial⟩ (by decide +kernel) rfl (by decide) (fun h12 => ?_) (fun h12 => ?_)
            · rw [if_pos h12] at hm
              refine XW.bb B [(68, .iload 4)] (by decide +kernel) (pc1 := 70) (ls1 := [some (aR 14 0), some (aI x1), some (aI x2), some (aI x3), some (aI (m_X8_isGusty x1 x3 σ)), some (aI ((((x1 * (4 : Int32)) + x2) * (2 : Int32)) + (1 : Int32))), none]) (st1 := [aI (m_X8_isGusty x1 x3 σ)]) (σ1 := σ) (P := []) (i := .ifCond .eq 20) (tgt := 90) (q := (m_X8_isGusty x1 x3 σ) = (0 : Int32)) rfl trivial (by decide +kernel) rfl (by decide) (fun h => absurd h h1) (fun _ => ?_)
              refine XW.bk B [(73, .aload_n 0), (74, .getfield 18), (77, .iload_n 1), (78, .iconst 0)] (by decide +kernel) (pc1 := 79) (ls1 := [some (aR 14 0), some (aI x1), some (aI x2), some (aI x3), some (aI (m_X8_isGusty x1 x3 σ)), some (aI ((((x1 * (4 : Int32)) + x2) * (2 : Int32)) + (1 : Int32))), none]) (st1 := [aI (0 : Int32), aI x1, aR 1 0]) (σ1 := σ) (P := []) rfl trivial ?_
              refine XW.callV B (M := M_X8_number) (t := 1) (j := 0) (cn := 1) (as := [aI x1, aI (0 : Int32)]) (c_X8_number x1 (0 : Int32) σ rfl) (by decide) wV_X8_number wN_X8_number lk_X7_36 rfl rfl rfl (by decide) rfl (Nat.le_of_ble_eq_true rfl) (by decide +kernel) ?_
              refine XW.bk B [(82, .aload_n 0), (83, .getfield 33), (86, .iadd), (87, .goto 12), (99, .istore 6), (101, .aload_n 0), (102, .getfield 15), (105, .iload 5), (107, .aload_n 0), (108, .iload_n 1), (109, .iload_n 2), (110, .iload 6)] (by decide +kernel) (pc1 := 112) (ls1 := [some (aR 14 0), some (aI x1), some (aI x2), some (aI x3), some (aI (m_X8_isGusty x1 x3 σ)), some (aI ((((x1 * (4 : Int32)) + x2) * (2 : Int32)) + (1 : Int32))), some (aI ((m_X8_number x1 (0 : Int32) σ) + (σ.1 14 0 6)))]) (st1 := [aI ((m_X8_number x1 (0 : Int32) σ) + (σ.1 14 0 6)), aI x2, aI x1, aR 14 0, aI ((((x1 * (4 : Int32)) + x2) * (2 : Int32)) + (1 : Int32)), aR 16 0]) (σ1 := σ) (P := []) rfl trivial ?_
              obtain ⟨q13, hq13, hm⟩ := obind_eq hm
              refine XW.callV B (M := M_X7_workedOut) (t := 14) (j := 0) (cn := 1) (as := [aI x1, aI x2, aI ((m_X8_number x1 (0 : Int32) σ) + (σ.1 14 0 6))]) (c_X7_workedOut x1 x2 ((m_X8_number x1 (0 : Int32) σ) + (σ.1 14 0 6)) σ hq13) (by decide) wV_X7_workedOut wN_X7_workedOut lk_X7_59 rfl rfl rfl (by decide) rfl (Nat.le_of_ble_eq_true rfl) (by decide +kernel) ?_
              refine XW.bk B [(115, .iastore), (116, .aload_n 0), (117, .getfield 15), (120, .iload 5), (122, .iaload)] (by decide +kernel) (pc1 := 123) (ls1 := [some (aR 14 0), some (aI x1), some (aI x2), some (aI x3), some (aI (m_X8_isGusty x1 x3 σ)), some (aI ((((x1 * (4 : Int32)) + x2) * (2 : Int32)) + (1 : Int32))), some (aI ((m_X8_number x1 (0 : Int32) σ) + (σ.1 14 0 6)))]) (st1 := [aI ((sA q13.2 16 0 ((((x1 * (4 : Int32)) + x2) * (2 : Int32)) + (1 : Int32)).toNatClampNeg q13.1).2.1 16 0 ((((x1 * (4 : Int32)) + x2) * (2 : Int32)) + (1 : Int32)).toNatClampNeg)]) (σ1 := (sA q13.2 16 0 ((((x1 * (4 : Int32)) + x2) * (2 : Int32)) + (1 : Int32)).toNatClampNeg q13.1)) (P := [vp_in ((((x1 * (4 : Int32)) + x2) * (2 : Int32)) + (1 : Int32)) 96, vp_in ((((x1 * (4 : Int32)) + x2) * (2 : Int32)) + (1 : Int32)) 96]) rfl ⟨(vin_b h10 h11 (by decide +kernel)), (vin_b h10 h11 (by decide +kernel)), trivial⟩ ?_
              cases hm
              exact XW.iret B q (by decide +kernel)
            · rw [if_neg h12] at hm
              refine XW.bk B [(116, .aload_n 0), (117, .getfield 15), (120, .iload 5), (122, .iaload)] (by decide +kernel) (pc1 := 123) (ls1 := [some (aR 14 0), some (aI x1), some (aI x2), some (aI x3), some (aI (m_X8_isGusty x1 x3 σ)), some (aI ((((x1 * (4 : Int32)) + x2) * (2 : Int32)) + (1 : Int32))), none]) (st1 := [aI (σ.2.1 16 0 ((((x1 * (4 : Int32)) + x2) * (2 : Int32)) + (1 : Int32)).toNatClampNeg)]) (σ1 := σ) (P := [vp_in ((((x1 * (4 : Int32)) + x2) * (2 : Int32)) + (1 : Int32)) 96]) rfl ⟨(vin_b h10 h11 (by decide +kernel)), trivial⟩ ?_
              cases hm
              exact XW.iret B q (by decide +kernel)
          · rw [if_neg h11] at hm
            refine XW.bk B [(55, .iconst 0)] (by decide +kernel) (pc1 := 56) (ls1 := [some (aR 14 0), some (aI x1), some (aI x2), some (aI x3), some (aI (m_X8_isGusty x1 x3 σ)), some (aI ((((x1 * (4 : Int32)) + x2) * (2 : Int32)) + (1 : Int32))), none]) (st1 := [aI (0 : Int32)]) (σ1 := σ) (P := []) rfl trivial ?_
            cases hm
            exact XW.iret B q (by decide +kernel)

def m_X7_isTooMuch (x1 : Int32) (σ : SS) : Int32 :=
  if x1 ≤ (σ.1 14 0 7) then
    (0 : Int32)
  else
  (1 : Int32)
set_option maxRecDepth 100000 in
set_option maxHeartbeats 4000000 in
theorem c_X7_isTooMuch (x1 : Int32) (σ : SS) {r : Int32} (hm : m_X7_isTooMuch x1 σ = r) : XM LC 1 M_X7_isTooMuch [aR 14 0, aI x1] σ (some (aI r)) σ := by
  refine XM.of (K := K7) (by decide) (by decide +kernel) K7_ok (Nat.le_of_ble_eq_true rfl) (fun Γ B q => ?_)
  unfold m_X7_isTooMuch at hm
  refine XW.bb B [(0, .iload_n 1), (1, .aload_n 0), (2, .getfield 42)] (by decide +kernel) (pc1 := 5) (ls1 := [some (aR 14 0), some (aI x1)]) (st1 := [aI (σ.1 14 0 7), aI x1]) (σ1 := σ) (P := []) (i := .if_icmp .le 7) (tgt := 12) (q := x1 ≤ (σ.1 14 0 7)) rfl trivial (by decide +kernel) rfl (by decide) (fun h1 => ?_) (fun h1 => ?_)
  · rw [if_pos h1] at hm
    refine XW.bk B [(12, .iconst 0)] (by decide +kernel) (pc1 := 13) (ls1 := [some (aR 14 0), some (aI x1)]) (st1 := [aI (0 : Int32)]) (σ1 := σ) (P := []) rfl trivial ?_
    cases hm
    exact XW.zret B q (Or.inl rfl) (by decide +kernel)
  · rw [if_neg h1] at hm
    refine XW.bk B [(8, .iconst 1), (9, .goto 4)] (by decide +kernel) (pc1 := 13) (ls1 := [some (aR 14 0), some (aI x1)]) (st1 := [aI (1 : Int32)]) (σ1 := σ) (P := []) rfl trivial ?_
    cases hm
    exact XW.zret B q (Or.inr rfl) (by decide +kernel)
theorem b_X7_isTooMuch (x1 : Int32) (σ : SS) : m_X7_isTooMuch x1 σ = 0 ∨ m_X7_isTooMuch x1 σ = 1 := by
  unfold m_X7_isTooMuch
  (repeat' split) <;> first | exact Or.inl rfl | exact Or.inr rfl

def m_X7_left (x1 : Int32) (σ : SS) : Int32 :=
  ((σ.1 14 0 7) - x1)
set_option maxRecDepth 100000 in
set_option maxHeartbeats 4000000 in
theorem c_X7_left (x1 : Int32) (σ : SS) {r : Int32} (hm : m_X7_left x1 σ = r) : XM LC 1 M_X7_left [aR 14 0, aI x1] σ (some (aI r)) σ := by
  refine XM.of (K := K7) (by decide) (by decide +kernel) K7_ok (Nat.le_of_ble_eq_true rfl) (fun Γ B q => ?_)
  unfold m_X7_left at hm
  refine XW.bk B [(0, .aload_n 0), (1, .getfield 42), (4, .iload_n 1), (5, .isub)] (by decide +kernel) (pc1 := 6) (ls1 := [some (aR 14 0), some (aI x1)]) (st1 := [aI ((σ.1 14 0 7) - x1)]) (σ1 := σ) (P := []) rfl trivial ?_
  cases hm
  exact XW.iret B q (by decide +kernel)
