def m_X10_isWithin (x1 : Int32) (x2 : Int32) (x3 : Int32) : Int32 :=
  if x1 < x2 then
    (0 : Int32)
  else
  if x3 < x1 then
    (0 : Int32)
  else
  (1 : Int32)
set_option maxRecDepth 100000 in
set_option maxHeartbeats 4000000 in
theorem c_X10_isWithin (x1 : Int32) (x2 : Int32) (x3 : Int32) (σ : SS) {r : Int32} (hm : m_X10_isWithin x1 x2 x3 = r) : XM LC 1 M_X10_isWithin [aI x1, aI x2, aI x3] σ (some (aI r)) σ := by
  refine XM.of (K := K10) (by decide) (by decide +kernel) K10_ok (Nat.le_of_ble_eq_true rfl) (fun Γ B q => ?_)
  unfold m_X10_isWithin at hm
  refine XW.bb B [(0, .iload_n 0), (1, .iload_n 1)] (by decide +kernel) (pc1 := 2) (ls1 := [some (aI x1), some (aI x2), some (aI x3)]) (st1 := [aI x2, aI x1]) (σ1 := σ) (P := []) (i := .if_icmp .lt 12) (tgt := 14) (q := x1 < x2) rfl trivial (by decide +kernel) rfl (by decide) (fun h1 => ?_) (fun h1 => ?_)
  · rw [if_pos h1] at hm
    refine XW.bk B [(14, .iconst 0)] (by decide +kernel) (pc1 := 15) (ls1 := [some (aI x1), some (aI x2), some (aI x3)]) (st1 := [aI (0 : Int32)]) (σ1 := σ) (P := []) rfl trivial ?_
    cases hm
    exact XW.zret B q (Or.inl rfl) (by decide +kernel)
  · rw [if_neg h1] at hm
    refine XW.bb B [(5, .iload_n 0), (6, .iload_n 2)] (by decide +kernel) (pc1 := 7) (ls1 := [some (aI x1), some (aI x2), some (aI x3)]) (st1 := [aI x3, aI x1]) (σ1 := σ) (P := []) (i := .if_icmp .gt 7) (tgt := 14) (q := x3 < x1) rfl trivial (by decide +kernel) rfl (by decide) (fun h2 => ?_) (fun h2 => ?_)
    · rw [if_pos h2] at hm
      refine XW.bk B [(14, .iconst 0)] (by decide +kernel) (pc1 := 15) (ls1 := [some (aI x1), some (aI x2), some (aI x3)]) (st1 := [aI (0 : Int32)]) (σ1 := σ) (P := []) rfl trivial ?_
      cases hm
      exact XW.zret B q (Or.inl rfl) (by decide +kernel)
    · rw [if_neg h2] at hm
      refine XW.bk B [(10, .iconst 1), (11, .goto 4)] (by decide +kernel) (pc1 := 15) (ls1 := [some (aI x1), some (aI x2), some (aI x3)]) (st1 := [aI (1 : Int32)]) (σ1 := σ) (P := []) rfl trivial ?_
      cases hm
      exact XW.zret B q (Or.inr rfl) (by decide +kernel)
theorem b_X10_isWithin (x1 : Int32) (x2 : Int32) (x3 : Int32) : m_X10_isWithin x1 x2 x3 = 0 ∨ m_X10_isWithin x1 x2 x3 = 1 := by
  unfold m_X10_isWithin
  (repeat' split) <;> first | exact Or.inl rfl | exact Or.inr rfl

def m_X10_isHold (x1 : Int32) : Int32 :=
  (m_X10_isWithin x1 (0 : Int32) (3 : Int32))
set_option maxRecDepth 100000 in
set_option maxHeartbeats 4000000 in
theorem c_X10_isHold (x1 : Int32) (σ : SS) {r : Int32} (hm : m_X10_isHold x1 = r) : XM LC 2 M_X10_isHold [aI x1] σ (some (aI r)) σ := by
  refine XM.of (K := K10) (by decide) (by decide +kernel) K10_ok (Nat.le_of_ble_eq_true rfl) (fun Γ B q => ?_)
  unfold m_X10_isHold at hm
  refine XW.bk B [(0, .iload_n 0), (1, .iconst 0), (2, .iconst 3)] (by decide +kernel) (pc1 := 3) (ls1 := [some (aI x1)]) (st1 := [aI (3 : Int32), aI (0 : Int32), aI x1]) (σ1 := σ) (P := []) rfl trivial ?_
  refine XW.callS B (M := M_X10_isWithin) (as := [aI x1, aI (0 : Int32), aI (3 : Int32)]) (c_X10_isWithin x1 (0 : Int32) (3 : Int32) σ rfl) (by decide) wS_X10_isWithin wN_X10_isWithin lk_X10_90 rfl (Nat.le_of_ble_eq_true rfl) (by decide +kernel) ?_
  cases hm
  exact XW.zret B q (b_X10_isWithin x1 (0 : Int32) (3 : Int32)) (by decide +kernel)
theorem b_X10_isHold (x1 : Int32) : m_X10_isHold x1 = 0 ∨ m_X10_isHold x1 = 1 := by
  unfold m_X10_isHold
  (repeat' split) <;> first | exact Or.inl rfl | exact Or.inr rfl | exact (b_X10_isWithin x1 (0 : Int32) (3 : Int32))
