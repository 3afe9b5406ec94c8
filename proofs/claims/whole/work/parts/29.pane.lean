def m_X10_isAsSaid (x1 : Int32) (x2 : Int32) : Int32 :=
  if x1 < (0 : Int32) then
    (0 : Int32)
  else
  if (11 : Int32) ≤ x1 then
    (0 : Int32)
  else
  if x1 < (11 : Int32) then
    (m_X10_isWithin x2 (aStF 0 x1.toNatClampNeg) (aStF 1 x1.toNatClampNeg))
  else
  (0 : Int32)
set_option maxRecDepth 100000 in
set_option maxHeartbeats 4000000 in
theorem c_X10_isAsSaid (x1 : Int32) (x2 : Int32) (σ : SS) {r : Int32} (hm : m_X10_isAsSaid x1 x2 = r) : XM LC 2 M_X10_isAsSaid [aI x1, aI x2] σ (some (aI r)) σ := by
  refine XM.of (K := K10) (by decide) (by decide +kernel) K10_ok (Nat.le_of_ble_eq_true rfl) (fun Γ B q => ?_)
  unfold m_X10_isAsSaid at hm
  refine XW.bb B [(0, .iload_n 0)] (by decide +kernel) (pc1 := 1) (ls1 := [some (aI x1), some (aI x2)]) (st1 := [aI x1]) (σ1 := σ) (P := []) (i := .ifCond .lt 19) (tgt := 20) (q := x1 < (0 : Int32)) rfl trivial (by decide +kernel) rfl (by decide) (fun h1 => ?_) (fun h1 => ?_)
  · rw [if_pos h1] at hm
    refine XW.bk B [(20, .iconst 0)] (by decide +kernel) (pc1 := 21) (ls1 := [some (aI x1), some (aI x2)]) (st1 := [aI (0 : Int32)]) (σ1 := σ) (P := []) rfl trivial ?_
    subst hm
    exact XW.zret B q (Or.inl rfl) (by decide +kernel)
  · rw [if_neg h1] at hm
    refine XW.bb B [(4, .iload_n 0), (5, .getstatic 354), (8, .arraylength)] (by decide +kernel) (pc1 := 9) (ls1 := [some (aI x1), some (aI x2)]) (st1 := [aI (11 : Int32), aI x1]) (σ1 := σ) (P := [(0 : Nat) = 0]) (i := .if_icmp .ge 11) (tgt := 20) (q := (11 : Int32) ≤ x1) rfl ⟨rfl, trivial⟩ (by decide +kernel) rfl (by decide) (fun h2 => ?_) (fun h2 => ?_)
    · rw [if_pos h2] at hm
      refine XW.bk B [(20, .iconst 0)] (by decide +kernel) (pc1 := 21) (ls1 := [some (aI x1), some (aI x2)]) (st1 := [aI (0 : Int32)]) (σ1 := σ) (P := []) rfl trivial ?_
      subst hm
      exact XW.zret B q (Or.inl rfl) (by decide +kernel)
    · rw [if_neg h2] at hm
      refine XW.bb B [(12, .iload_n 0), (13, .getstatic 358), (16, .arraylength)] (by decide +kernel) (pc1 := 17) (ls1 := [some (aI x1), some (aI x2)]) (st1 := [aI (11 : Int32), aI x1]) (σ1 := σ) (P := [(0 : Nat) = 0]) (i := .if_icmp .lt 5) (tgt := 22) (q := x1 < (11 : Int32)) rfl ⟨rfl, trivial⟩ (by decide +kernel) rfl (by decide) (fun h3 => ?_) (fun h3 => ?_)
      · rw [if_pos h3] at hm
        refine XW.bk B [(22, .iload_n 1), (23, .getstatic 354), (26, .iload_n 0), (27, .iaload), (28, .getstatic 358), (31, .iload_n 0), (32, .iaload)] (by decide +kernel) (pc1 := 33) (ls1 := [some (aI x1), some (aI x2)]) (st1 := [aI (aStF 1 x1.toNatClampNeg), aI (aStF 0 x1.toNatClampNeg), aI x2]) (σ1 := σ) (P := [(0 : Nat) = 0, vp_in x1 11, (0 : Nat) = 0, vp_in x1 11]) rfl ⟨rfl, (vin_b h1 h3 (by decide +kernel)), rfl, (vin_b h1 h3 (by decide +kernel)), trivial⟩ ?_
        refine XW.callS B (M := M_X10_isWithin) (as := [aI x2, aI (aStF 0 x1.toNatClampNeg), aI (aStF 1 x1.toNatClampNeg)]) (c_X10_isWithin x2 (aStF 0 x1.toNatClampNeg) (aStF 1 x1.toNatClampNeg) σ rfl) (by decide) wS_X10_isWithin wN_X10_isWithin lk_X10_90 rfl (Nat.le_of_ble_eq_true rfl) (by decide +kernel) ?_
        subst hm
        exact XW.zret B q (b_X10_isWithin x2 (aStF 0 x1.toNatClampNeg) (aStF 1 x1.toNatClampNeg)) (by decide +kernel)
      · rw [if_neg h3] at hm
        refine XW.bk B [(20, .iconst 0)] (by decide +kernel) (pc1 := 21) (ls1 := [some (aI x1), some (aI x2)]) (st1 := [aI (0 : Int32)]) (σ1 := σ) (P := []) rfl trivial ?_
        subst hm
        exact XW.zret B q (Or.inl rfl) (by decide +kernel)
theorem b_X10_isAsSaid (x1 : Int32) (x2 : Int32) : m_X10_isAsSaid x1 x2 = 0 ∨ m_X10_isAsSaid x1 x2 = 1 := by
  unfold m_X10_isAsSaid
  (repeat' split) <;> first | exact Or.inl rfl | exact Or.inr rfl | exact (b_X10_isWithin x2 (aStF 0 x1.toNatClampNeg) (aStF 1 x1.toNatClampNeg))

def m_X10_place (x1 : Int32) (x2 : Int32) (σ : SS) : Int32 × SS :=
  if (m_X10_isAsSaid (0 : Int32) x1) = (0 : Int32) then
    ((-1 : Int32), σ)
  else
  if (m_X10_isAsSaid (5 : Int32) x2) = (0 : Int32) then
    ((-1 : Int32), σ)
  else
  bnT (m_X8_add x1 (0 : Int32) x2 σ) (fun q3 =>
  (q3.1, q3.2))
set_option maxRecDepth 100000 in
set_option maxHeartbeats 4000000 in
theorem c_X10_place (x1 : Int32) (x2 : Int32) (σ : SS) {r : Int32} {σ' : SS} (hm : m_X10_place x1 x2 σ = (r, σ')) : XM LC 3 M_X10_place [aR 0 0, aI x1, aI x2] σ (some (aI r)) σ' := by
  refine XM.of (K := K10) (by decide) (by decide +kernel) K10_ok (Nat.le_of_ble_eq_true rfl) (fun Γ B q => ?_)
  unfold m_X10_place at hm
  refine XW.bk B [(0, .iconst 0), (1, .iload_n 1)] (by decide +kernel) (pc1 := 2) (ls1 := [some (aR 0 0), some (aI x1), some (aI x2)]) (st1 := [aI x1, aI (0 : Int32)]) (σ1 := σ) (P := []) rfl trivial ?_
  refine XW.callS B (M := M_X10_isAsSaid) (as := [aI (0 : Int32), aI x1]) (c_X10_isAsSaid (0 : Int32) x1 σ rfl) (by decide) wS_X10_isAsSaid wN_X10_isAsSaid lk_X10_78 rfl (Nat.le_of_ble_eq_true rfl) (by decide +kernel) ?_
  refine XW.bb B [] (by decide +kernel) (pc1 := 5) (ls1 := [some (aR 0 0), some (aI x1), some (aI x2)]) (st1 := [aI (m_X10_isAsSaid (0 : Int32) x1)]) (σ1 := σ) (P := []) (i := .ifCond .eq 11) (tgt := 16) (q := (m_X10_isAsSaid (0 : Int32) x1) = (0 : Int32)) rfl trivial (by decide +kernel) rfl (by decide) (fun h1 => ?_) (fun h1 => ?_)
  · rw [if_pos h1] at hm
    refine XW.bk B [(16, .iconst (-1))] (by decide +kernel) (pc1 := 17) (ls1 := [some (aR 0 0), some (aI x1), some (aI x2)]) (st1 := [aI (-1 : Int32)]) (σ1 := σ) (P := []) rfl trivial ?_
    obtain ⟨rfl, rfl⟩ := Prod.mk.inj (hm)
    exact XW.iret B q (by decide +kernel)
  · rw [if_neg h1] at hm
    refine XW.bk B [(8, .iconst 5), (9, .iload_n 2)] (by decide +kernel) (pc1 := 10) (ls1 := [some (aR 0 0), some (aI x1), some (aI x2)]) (st1 := [aI x2, aI (5 : Int32)]) (σ1 := σ) (P := []) rfl trivial ?_
    refine XW.callS B (M := M_X10_isAsSaid) (as := [aI (5 : Int32), aI x2]) (c_X10_isAsSaid (5 : Int32) x2 σ rfl) (by decide) wS_X10_isAsSaid wN_X10_isAsSaid lk_X10_78 rfl (Nat.le_of_ble_eq_true rfl) (by decide +kernel) ?_
    refine XW.bn B [] (by decide +kernel) (pc1 := 13) (ls1 := [some (aR 0 0), some (aI x1), some (aI x2)]) (st1 := [aI (m_X10_isAsSaid (5 : Int32) x2)]) (σ1 := σ) (P := []) (i := .ifCond .ne 5) (tgt := 18) (q := (m_X10_isAsSaid (5 : Int32) x2) = (0 : Int32)) rfl trivial (by decide +kernel) rfl (by decide) (fun h2 => ?_) (fun h2 => ?_)
    · rw [if_pos h2] at hm
      refine XW.bk B [(16, .iconst (-1))] (by decide +kernel) (pc1 := 17) (ls1 := [some (aR 0 0), some (aI x1), some (aI x2)]) (st1 := [aI (-1 : Int32)]) (σ1 := σ) (P := []) rfl trivial ?_
      obtain ⟨rfl, rfl⟩ := Prod.mk.inj (hm)
      exact XW.iret B q (by decide +kernel)
    · rw [if_neg h2] at hm
      refine XW.bk B [(18, .aload_n 0), (19, .getfield 23), (22, .iload_n 1), (23, .iconst 0), (24, .iload_n 2)] (by decide +kernel) (pc1 := 25) (ls1 := [some (aR 0 0), some (aI x1), some (aI x2)]) (st1 := [aI x2, aI (0 : Int32), aI x1, aR 1 0]) (σ1 := σ) (P := []) rfl trivial ?_
      obtain ⟨q3, hq3, hm⟩ := bnT_eq hm
      refine XW.callV B (M := M_X8_add) (t := 1) (j := 0) (cn := 1) (as := [aI x1, aI (0 : Int32), aI x2]) (c_X8_add x1 (0 : Int32) x2 σ hq3) (by decide) wV_X8_add wN_X8_add lk_X10_82 rfl rfl rfl (by decide) rfl (Nat.le_of_ble_eq_true rfl) (by decide +kernel) ?_
      obtain ⟨rfl, rfl⟩ := Prod.mk.inj (hm)
      exact XW.iret B q (by decide +kernel)

def m_X10_addFrom (j : Nat) (x2 : Int32) (σ : SS) : Int32 × SS :=
  if (m_X10_isAsSaid (0 : Int32) ((m_X6_cell j x2 σ).toInt32)) = (0 : Int32) then
    ((0 : Int32), σ)
  else
  if (m_X10_isAsSaid (4 : Int32) ((m_X6_cell j (x2 + (1 : Int32)) σ).toInt32)) = (0 : Int32) then
    ((0 : Int32), σ)
  else
  if (m_X10_isAsSaid (5 : Int32) ((m_X6_cell j (x2 + (2 : Int32)) σ).toInt32)) = (0 : Int32) then
    ((0 : Int32), σ)
  else
  bnT (m_X8_add ((m_X6_cell j x2 σ).toInt32) ((m_X6_cell j (x2 + (1 : Int32)) σ).toInt32) ((m_X6_cell j (x2 + (2 : Int32)) σ).toInt32) σ) (fun q4 =>
  if q4.1 < (0 : Int32) then
    ((0 : Int32), q4.2)
  else
  ((1 : Int32), q4.2))
set_option maxRecDepth 100000 in
set_option maxHeartbeats 4000000 in
theorem c_X10_addFrom (j : Nat) (x2 : Int32) (σ : SS) (hj : j < 6) {r : Int32} {σ' : SS} (hm : m_X10_addFrom j x2 σ = (r, σ')) : XM LC 3 M_X10_addFrom [aR 0 0, aR 28 j, aI x2] σ (some (aI r)) σ' := by
  refine XM.of (K := K10) (by decide) (by decide +kernel) K10_ok (Nat.le_of_ble_eq_true rfl) (fun Γ B q => ?_)
  unfold m_X10_addFrom at hm
  refine XW.bk B [(0, .aload_n 1), (1, .iload_n 2)] (by decide +kernel) (pc1 := 2) (ls1 := [some (aR 0 0), some (aR 28 j), some (aI x2), none, none, none]) (st1 := [aI x2, aR 28 j]) (σ1 := σ) (P := []) rfl trivial ?_
  refine XW.callV B (M := M_X6_cell) (t := 28) (j := j) (cn := 6) (as := [aI x2]) (c_X6_cell j x2 σ hj rfl) (by decide) wV_X6_cell wN_X6_cell lk_X10_109 rfl rfl rfl hj rfl (Nat.le_of_ble_eq_true rfl) (by decide +kernel) ?_
  refine XW.bk B [(5, .l2i), (6, .istore_n 3), (7, .aload_n 1), (8, .iload_n 2), (9, .iconst 1), (10, .iadd)] (by decide +kernel) (pc1 := 11) (ls1 := [some (aR 0 0), some (aR 28 j), some (aI x2), some (aI ((m_X6_cell j x2 σ).toInt32)), none, none]) (st1 := [aI (x2 + (1 : Int32)), aR 28 j]) (σ1 := σ) (P := []) rfl trivial ?_
  refine XW.callV B (M := M_X6_cell) (t := 28) (j := j) (cn := 6) (as := [aI (x2 + (1 : Int32))]) (c_X6_cell j (x2 + (1 : Int32)) σ hj rfl) (by decide) wV_X6_cell wN_X6_cell lk_X10_109 rfl rfl rfl hj rfl (Nat.le_of_ble_eq_true rfl) (by decide +kernel) ?_
  refine XW.bk B [(14, .l2i), (15, .istore 4), (17, .aload_n 1), (18, .iload_n 2), (19, .iconst 2), (20, .iadd)] (by decide +kernel) (pc1 := 21) (ls1 := [some (aR 0 0), some (aR 28 j), some (aI x2), some (aI ((m_X6_cell j x2 σ).toInt32)), some (aI ((m_X6_cell j (x2 + (1 : Int32)) σ).toInt32)), none]) (st1 := [aI (x2 + (2 : Int32)), aR 28 j]) (σ1 := σ) (P := []) rfl trivial ?_
  refine XW.callV B (M := M_X6_cell) (t := 28) (j := j) (cn := 6) (as := [aI (x2 + (2 : Int32))]) (c_X6_cell j (x2 + (2 : Int32)) σ hj rfl) (by decide) wV_X6_cell wN_X6_cell lk_X10_109 rfl rfl rfl hj rfl (Nat.le_of_ble_eq_true rfl) (by decide +kernel) ?_
  refine XW.bk B [(24, .l2i), (25, .istore 5), (27, .iconst 0), (28, .iload_n 3)] (by decide +kernel) (pc1 := 29) (ls1 := [some (aR 0 0), some (aR 28 j), some (aI x2), some (aI ((m_X6_cell j x2 σ).toInt32)), some (aI ((m_X6_cell j (x2 + (1 : Int32)) σ).toInt32)), some (aI ((m_X6_cell j (x2 + (2 : Int32)) σ).toInt32))]) (st1 := [aI ((m_X6_cell j x2 σ).toInt32), aI (0 : Int32)]) (σ1 := σ) (P := []) rfl trivial ?_
  refine XW.callS B (M := M_X10_isAsSaid) (as := [aI (0 : Int32), aI ((m_X6_cell j x2 σ).toInt32)]) (c_X10_isAsSaid (0 : Int32) ((m_X6_cell j x2 σ).toInt32) σ rfl) (by decide) wS_X10_isAsSaid wN_X10_isAsSaid lk_X10_78 rfl (Nat.le_of_ble_eq_true rfl) (by decide +kernel) ?_
  refine XW.bb B [] (by decide +kernel) (pc1 := 32) (ls1 := [some (aR 0 0), some (aR 28 j), some (aI x2), some (aI ((m_X6_cell j x2 σ).toInt32)), some (aI ((m_X6_cell j (x2 + (1 : Int32)) σ).toInt32)), some (aI ((m_X6_cell j (x2 + (2 : Int32)) σ).toInt32))]) (st1 := [aI (m_X10_isAsSaid (0 : Int32) ((m_X6_cell j x2 σ).toInt32))]) (σ1 := σ) (P := []) (i := .ifCond .eq 21) (tgt := 53) (q := (m_X10_isAsSaid (0 : Int32) ((m_X6_cell j x2 σ).toInt32)) = (0 : Int32)) rfl trivial (by decide +kernel) rfl (by decide) (fun h1 => ?_) (fun h1 => ?_)
  · rw [if_pos h1] at hm
    refine XW.bk B [(53, .iconst 0)] (by decide +kernel) (pc1 := 54) (ls1 := [some (aR 0 0), some (aR 28 j), some (aI x2), some (aI ((m_X6_cell j x2 σ).toInt32)), some (aI ((m_X6_cell j (x2 + (1 : Int32)) σ).toInt32)), some (aI ((m_X6_cell j (x2 + (2 : Int32)) σ).toInt32))]) (st1 := [aI (0 : Int32)]) (σ1 := σ) (P := []) rfl trivial ?_
    obtain ⟨rfl, rfl⟩ := Prod.mk.inj (hm)
    exact XW.zret B q (Or.inl rfl) (by decide +kernel)
  · rw [if_neg h1] at hm
    refine XW.bk B [(35, .iconst 4), (36, .iload 4)] (by decide +kernel) (pc1 := 38) (ls1 := [some (aR 0 0), some (aR 28 j), some (aI x2), some (aI ((m_X6_cell j x2 σ).toInt32)), some (aI ((m_X6_cell j (x2 + (1 : Int32)) σ).toInt32)), some (aI ((m_X6_cell j (x2 + (2 : Int32)) σ).toInt32))]) (st1 := [aI ((m_X6_cell j (x2 + (1 : Int32)) σ).toInt32), aI (4 : Int32)]) (σ1 := σ) (P := []) rfl trivial ?_
    refine XW.callS B (M := M_X10_isAsSaid) (as := [aI (4 : Int32), aI ((m_X6_cell j (x2 + (1 : Int32)) σ).toInt32)]) (c_X10_isAsSaid (4 : Int32) ((m_X6_cell j (x2 + (1 : Int32)) σ).toInt32) σ rfl) (by decide) wS_X10_isAsSaid wN_X10_isAsSaid lk_X10_78 rfl (Nat.le_of_ble_eq_true rfl) (by decide +kernel) ?_
    refine XW.bb B [] (by decide +kernel) (pc1 := 41) (ls1 := [some (aR 0 0), some (aR 28 j), some (aI x2), some (aI ((m_X6_cell j x2 σ).toInt32)), some (aI ((m_X6_cell j (x2 + (1 : Int32)) σ).toInt32)), some (aI ((m_X6_cell j (x2 + (2 : Int32)) σ).toInt32))]) (st1 := [aI (m_X10_isAsSaid (4 : Int32) ((m_X6_cell j (x2 + (1 : Int32)) σ).toInt32))]) (σ1 := σ) (P := []) (i := .ifCond .eq 12) (tgt := 53) (q := (m_X10_isAsSaid (4 : Int32) ((m_X6_cell j (x2 + (1 : Int32)) σ).toInt32)) = (0 : Int32)) rfl trivial (by decide +kernel) rfl (by decide) (fun h2 => ?_) (fun h2 => ?_)
    · rw [if_pos h2] at hm
      refine XW.bk B [(53, .iconst 0)] (by decide +kernel) (pc1 := 54) (ls1 := [some (aR 0 0), some (aR 28 j), some (aI x2), some (aI ((m_X6_cell j x2 σ).toInt32)), some (aI ((m_X6_cell j (x2 + (1 : Int32)) σ).toInt32)), some (aI ((m_X6_cell j (x2 + (2 : Int32)) σ).toInt32))]) (st1 := [aI (0 : Int32)]) (σ1 := σ) (P := []) rfl trivial ?_
      obtain ⟨rfl, rfl⟩ := Prod.mk.inj (hm)
      exact XW.zret B q (Or.inl rfl) (by decide +kernel)
    · rw [if_neg h2] at hm
      refine XW.bk B [(44, .iconst 5), (45, .iload 5)] (by decide +kernel) (pc1 := 47) (ls1 := [some (aR 0 0), some (aR 28 j), some (aI x2), some (aI ((m_X6_cell j x2 σ).toInt32)), some (aI ((m_X6_cell j (x2 + (1 : Int32)) σ).toInt32)), some (aI ((m_X6_cell j (x2 + (2 : Int32)) σ).toInt32))]) (st1 := [aI ((m_X6_cell j (x2 + (2 : Int32)) σ).toInt32), aI (5 : Int32)]) (σ1 := σ) (P := []) rfl trivial ?_
      refine XW.callS B (M := M_X10_isAsSaid) (as := [aI (5 : Int32), aI ((m_X6_cell j (x2 + (2 : Int32)) σ).toInt32)]) (c_X10_isAsSaid (5 : Int32) ((m_X6_cell j (x2 + (2 : Int32)) σ).toInt32) σ rfl) (by decide) wS_X10_isAsSaid wN_X10_isAsSaid lk_X10_78 rfl (Nat.le_of_ble_eq_true rfl) (by decide +kernel) ?_
      refine XW.bn B [] (by decide +kernel) (pc1 := 50) (ls1 := [some (aR 0 0), some (aR 28 j), some (aI x2), some (aI ((m_X6_cell j x2 σ).toInt32)), some (aI ((m_X6_cell j (x2 + (1 : Int32)) σ).toInt32)), some (aI ((m_X6_cell j (x2 + (2 : Int32)) σ).toInt32))]) (st1 := [aI (m_X10_isAsSaid (5 : Int32) ((m_X6_cell j (x2 + (2 : Int32)) σ).toInt32))]) (σ1 := σ) (P := []) (i := .ifCond .ne 5) (tgt := 55) (q := (m_X10_isAsSaid (5 : Int32) ((m_X6_cell j (x2 + (2 : Int32)) σ).toInt32)) = (0 : Int32)) rfl trivial (by decide +kernel) rfl (by decide) (fun h3 => ?_) (fun h3 => ?_)
      · rw [if_pos h3] at hm
        refine XW.bk B [(53, .iconst 0)] (by decide +kernel) (pc1 := 54) (ls1 := [some (aR 0 0), some (aR 28 j), some (aI x2), some (aI ((m_X6_cell j x2 σ).toInt32)), some (aI ((m_X6_cell j (x2 + (1 : Int32)) σ).toInt32)), some (aI ((m_X6_cell j (x2 + (2 : Int32)) σ).toInt32))]) (st1 := [aI (0 : Int32)]) (σ1 := σ) (P := []) rfl trivial ?_
        obtain ⟨rfl, rfl⟩ := Prod.mk.inj (hm)
        exact XW.zret B q (Or.inl rfl) (by decide +kernel)
      · rw [if_neg h3] at hm
        refine XW.bk B [(55, .aload_n 0), (56, .getfield 23), (59, .iload_n 3), (60, .iload 4), (62, .iload 5)] (by decide +kernel) (pc1 := 64) (ls1 := [some (aR 0 0), some (aR 28 j), some (aI x2), some (aI ((m_X6_cell j x2 σ).toInt32)), some (aI ((m_X6_cell j (x2 + (1 : Int32)) σ).toInt32)), some (aI ((m_X6_cell j (x2 + (2 : Int32)) σ).toInt32))]) (st1 := [aI ((m_X6_cell j (x2 + (2 : Int32)) σ).toInt32), aI ((m_X6_cell j (x2 + (1 : Int32)) σ).toInt32), aI ((m_X6_cell j x2 σ).toInt32), aR 1 0]) (σ1 := σ) (P := []) rfl trivial ?_
        obtain ⟨q4, hq4, hm⟩ := bnT_eq hm
        refine XW.callV B (M := M_X8_add) (t := 1) (j := 0) (cn := 1) (as := [aI ((m_X6_cell j x2 σ).toInt32), aI ((m_X6_cell j (x2 + (1 : Int32)) σ).toInt32), aI ((m_X6_cell j (x2 + (2 : Int32)) σ).toInt32)]) (c_X8_add ((m_X6_cell j x2 σ).toInt32) ((m_X6_cell j (x2 + (1 : Int32)) σ).toInt32) ((m_X6_cell j (x2 + (2 : Int32)) σ).toInt32) σ hq4) (by decide) wV_X8_add wN_X8_add lk_X10_82 rfl rfl rfl (by decide) rfl (Nat.le_of_ble_eq_true rfl) (by decide +kernel) ?_
        refine XW.bb B [] (by decide +kernel) (pc1 := 67) (ls1 := [some (aR 0 0), some (aR 28 j), some (aI x2), some (aI ((m_X6_cell j x2 σ).toInt32)), some (aI ((m_X6_cell j (x2 + (1 : Int32)) σ).toInt32)), some (aI ((m_X6_cell j (x2 + (2 : Int32)) σ).toInt32))]) (st1 := [aI q4.1]) (σ1 := q4.2) (P := []) (i := .ifCond .lt 7) (tgt := 74) (q := q4.1 < (0 : Int32)) rfl trivial (by decide +kernel) rfl (by decide) (fun h5 => ?_) (fun h5 => ?_)
        · rw [if_pos h5] at hm
          refine XW.bk B [(74, .iconst 0)] (by decide +kernel) (pc1 := 75) (ls1 := [some (aR 0 0), some (aR 28 j), some (aI x2), some (aI ((m_X6_cell j x2 σ).toInt32)), some (aI ((m_X6_cell j (x2 + (1 : Int32)) σ).toInt32)), some (aI ((m_X6_cell j (x2 + (2 : Int32)) σ).toInt32))]) (st1 := [aI (0 : Int32)]) (σ1 := q4.2) (P := []) rfl trivial ?_
          obtain ⟨rfl, rfl⟩ := Prod.mk.inj (hm)
          exact XW.zret B q (Or.inl rfl) (by decide +kernel)
        · rw [if_neg h5] at hm
          refine XW.bk B [(70, .iconst 1), (71, .goto 4)] (by decide +kernel) (pc1 := 75) (ls1 := [some (aR 0 0), some (aR 28 j), some (aI x2), some (aI ((m_X6_cell j x2 σ).toInt32)), some (aI ((m_X6_cell j (x2 + (1 : Int32)) σ).toInt32)), some (aI ((m_X6_cell j (x2 + (2 : Int32)) σ).toInt32))]) (st1 := [aI (1 : Int32)]) (σ1 := q4.2) (P := []) rfl trivial ?_
          obtain ⟨rfl, rfl⟩ := Prod.mk.inj (hm)
          exact XW.zret B q (Or.inr rfl) (by decide +kernel)

def L_X10_places_51 (j : Nat) : Nat → Int32 → Int32 → Int32 → SS → Option (Int32 × SS)
  | 0, _, _, _, _ => none
  | n + 1, v3, v5, v6, σ =>
    if v3 ≤ v5 then
      some (v5, σ)
    else
    if (m_X6_left j v6 σ) < (3 : Int32) then
      some (v5, σ)
    else
    bnT (m_X10_addFrom j v6 σ) (fun q7 =>
    if q7.1 = (0 : Int32) then
      some (v5, q7.2)
    else
    L_X10_places_51 j n v3 (v5 + (1 : Int32)) (v6 + (3 : Int32)) q7.2)
def m_X10_places (x1 : Int32) (x2 : Int32) (x3 : Int32) (σ : SS) : Option (Int32 × SS) :=
  if x1 < 0 ∨ ¬ x1 < 6 then
    some ((-1 : Int32), σ)
  else
  if (m_X10_isWithin x3 (1 : Int32) (12 : Int32)) = (0 : Int32) then
    some ((-1 : Int32), σ)
  else
  if (m_X6_isEmpty x1.toNatClampNeg σ) = (0 : Int32) then
    if (m_X6_holdsBytes x1.toNatClampNeg σ) = (0 : Int32) then
      some ((-12 : Int32), σ)
    else
    L_X10_places_51 x1.toNatClampNeg FU x3 (0 : Int32) x2 σ
  else
  some ((0 : Int32), σ)
set_option maxRecDepth 100000 in
set_option maxHeartbeats 4000000 in
theorem lp_X10_places_51 (j : Nat) (hj : j < 6) {Γ : XC} {r : Int32} {σ' : SS} (B : XB Γ cX10_places RX10 4 K10 LC 7) (q : XQ Γ (some .int) (some (aI r)) σ') : ∀ (n : Nat) (v3 : Int32) (v5 : Int32) (v6 : Int32) (σ : SS), L_X10_places_51 j n v3 v5 v6 σ = some (r, σ') → XW Γ 51 [some (aR 0 0), none, none, some (aI v3), some (aR 28 j), some (aI v5), some (aI v6)] [] σ := by
  intro n
  induction n with
  | zero => intro v3 v5 v6 σ hm; cases hm
  | succ n ih =>
    intro v3 v5 v6 σ hm
    rw [L_X10_places_51] at hm
    refine XW.bb B [(51, .iload 5), (53, .iload_n 3)] (by decide +kernel) (pc1 := 54) (ls1 := [some (aR 0 0), none, none, some (aI v3), some (aR 28 j), some (aI v5), some (aI v6)]) (st1 := [aI v3, aI v5]) (σ1 := σ) (P := []) (i := .if_icmp .ge 34) (tgt := 88) (q := v3 ≤ v5) rfl trivial (by decide +kernel) rfl (by decide) (fun h5 => ?_) (fun h5 => ?_)
    · rw [if_pos h5] at hm
      refine XW.bk B [(88, .iload 5)] (by decide +kernel) (pc1 := 90) (ls1 := [some (aR 0 0), none, none, some (aI v3), some (aR 28 j), some (aI v5), some (aI v6)]) (st1 := [aI v5]) (σ1 := σ) (P := []) rfl trivial ?_
      obtain ⟨rfl, rfl⟩ := Prod.mk.inj (Option.some.inj hm)
      exact XW.iret B q (by decide +kernel)
    · rw [if_neg h5] at hm
      refine XW.bk B [(57, .aload 4), (59, .iload 6)] (by decide +kernel) (pc1 := 61) (ls1 := [some (aR 0 0), none, none, some (aI v3), some (aR 28 j), some (aI v5), some (aI v6)]) (st1 := [aI v6, aR 28 j]) (σ1 := σ) (P := []) rfl trivial ?_
      refine XW.callV B (M := M_X6_left) (t := 28) (j := j) (cn := 6) (as := [aI v6]) (c_X6_left j v6 σ hj rfl) (by decide) wV_X6_left wN_X6_left lk_X10_101 rfl rfl rfl hj rfl (Nat.le_of_ble_eq_true rfl) (by decide +kernel) ?_
      refine XW.bb B [(64, .iconst 3)] (by decide +kernel) (pc1 := 65) (ls1 := [some (aR 0 0), none, none, some (aI v3), some (aR 28 j), some (aI v5), some (aI v6)]) (st1 := [aI (3 : Int32), aI (m_X6_left j v6 σ)]) (σ1 := σ) (P := []) (i := .if_icmp .lt 23) (tgt := 88) (q := (m_X6_left j v6 σ) < (3 : Int32)) rfl trivial (by decide +kernel) rfl (by decide) (fun h6 => ?_) (fun h6 => ?_)
      · rw [if_pos h6] at hm
        refine XW.bk B [(88, .iload 5)] (by decide +kernel) (pc1 := 90) (ls1 := [some (aR 0 0), none, none, some (aI v3), some (aR 28 j), some (aI v5), some (aI v6)]) (st1 := [aI v5]) (σ1 := σ) (P := []) rfl trivial ?_
        obtain ⟨rfl, rfl⟩ := Prod.mk.inj (Option.some.inj hm)
        exact XW.iret B q (by decide +kernel)
      · rw [if_neg h6] at hm
        refine XW.bk B [(68, .aload_n 0), (69, .aload 4), (71, .iload 6)] (by decide +kernel) (pc1 := 73) (ls1 := [some (aR 0 0), none, none, some (aI v3), some (aR 28 j), some (aI v5), some (aI v6)]) (st1 := [aI v6, aR 28 j, aR 0 0]) (σ1 := σ) (P := []) rfl trivial ?_
        obtain ⟨q7, hq7, hm⟩ := bnT_eq hm
        refine XW.callV B (M := M_X10_addFrom) (t := 0) (j := 0) (cn := 1) (as := [aR 28 j, aI v6]) (c_X10_addFrom j v6 σ hj hq7) (by decide) wV_X10_addFrom wN_X10_addFrom lk_X10_105 rfl rfl rfl (by decide) rfl (Nat.le_of_ble_eq_true rfl) (by decide +kernel) ?_
        refine XW.bb B [] (by decide +kernel) (pc1 := 76) (ls1 := [some (aR 0 0), none, none, some (aI v3), some (aR 28 j), some (aI v5), some (aI v6)]) (st1 := [aI q7.1]) (σ1 := q7.2) (P := []) (i := .ifCond .eq 12) (tgt := 88) (q := q7.1 = (0 : Int32)) rfl trivial (by decide +kernel) rfl (by decide) (fun h8 => ?_) (fun h8 => ?_)
        · rw [if_pos h8] at hm
          refine XW.bk B [(88, .iload 5)] (by decide +kernel) (pc1 := 90) (ls1 := [some (aR 0 0), none, none, some (aI v3), some (aR 28 j), some (aI v5), some (aI v6)]) (st1 := [aI v5]) (σ1 := q7.2) (P := []) rfl trivial ?_
          obtain ⟨rfl, rfl⟩ := Prod.mk.inj (Option.some.inj hm)
          exact XW.iret B q (by decide +kernel)
        · rw [if_neg h8] at hm
          refine XW.bk B [(79, .iinc 5 1), (82, .iinc 6 3), (85, .goto (-34))] (by decide +kernel) (pc1 := 51) (ls1 := [some (aR 0 0), none, none, some (aI v3), some (aR 28 j), some (aI (v5 + (1 : Int32))), some (aI (v6 + (3 : Int32)))]) (st1 := []) (σ1 := q7.2) (P := []) rfl trivial ?_
          exact ih v3 (v5 + (1 : Int32)) (v6 + (3 : Int32)) q7.2 hm
set_option maxRecDepth 100000 in
set_option maxHeartbeats 4000000 in
theorem c_X10_places (x1 : Int32) (x2 : Int32) (x3 : Int32) (σ : SS) {r : Int32} {σ' : SS} (hm : m_X10_places x1 x2 x3 σ = some (r, σ')) : XM LC 4 M_X10_places [aR 0 0, aI x1, aI x2, aI x3] σ (some (aI r)) σ' := by
  refine XM.of (K := K10) (by decide) (by decide +kernel) K10_ok (Nat.le_of_ble_eq_true rfl) (fun Γ B q => ?_)
  unfold m_X10_places at hm
  refine XW.bk B [(0, .aload_n 0), (1, .iload_n 1)] (by decide +kernel) (pc1 := 2) (ls1 := [some (aR 0 0), some (aI x1), some (aI x2), some (aI x3), none, none, none]) (st1 := [aI x1, aR 0 0]) (σ1 := σ) (P := []) rfl trivial ?_
  by_cases h1 : x1 < 0 ∨ ¬ x1 < 6
  · rw [if_pos h1] at hm
    refine XW.callV B (M := M_X10_shelfAt) (t := 0) (j := 0) (cn := 1) (as := [aI x1]) (c_shelfAt0 h1 σ) (by decide) wV_X10_shelfAt wN_X10_shelfAt lk_X10_86 rfl rfl rfl (by decide) rfl (Nat.le_of_ble_eq_true rfl) (by decide +kernel) ?_
    refine XW.bk B [(5, .astore 4), (7, .aload 4)] (by decide +kernel) (pc1 := 9) (ls1 := [some (aR 0 0), some (aI x1), some (aI x2), some (aI x3), some (aN), none, none]) (st1 := [aN]) (σ1 := σ) (P := []) rfl trivial ?_
    refine XW.nullN B (off := 13) (tgt := 22) (by decide +kernel) (by decide) ?_
    refine XW.bk B [(22, .iconst (-1))] (by decide +kernel) (pc1 := 23) (ls1 := [some (aR 0 0), some (aI x1), some (aI x2), some (aI x3), some (aN), none, none]) (st1 := [aI (-1 : Int32)]) (σ1 := σ) (P := []) rfl trivial ?_
    obtain ⟨rfl, rfl⟩ := Prod.mk.inj (Option.some.inj hm)
    exact XW.iret B q (by decide +kernel)
  · rw [if_neg h1] at hm
    refine XW.callV B (M := M_X10_shelfAt) (t := 0) (j := 0) (cn := 1) (as := [aI x1]) (c_shelfAt1 h1 σ) (by decide) wV_X10_shelfAt wN_X10_shelfAt lk_X10_86 rfl rfl rfl (by decide) rfl (Nat.le_of_ble_eq_true rfl) (by decide +kernel) ?_
    refine XW.bk B [(5, .astore 4), (7, .aload 4)] (by decide +kernel) (pc1 := 9) (ls1 := [some (aR 0 0), some (aI x1), some (aI x2), some (aI x3), some (aR 28 x1.toNatClampNeg), none, none]) (st1 := [aR 28 x1.toNatClampNeg]) (σ1 := σ) (P := []) rfl trivial ?_
    refine XW.nullR B (off := 13) (by decide +kernel) ?_
    refine XW.bk B [(12, .iload_n 3), (13, .iconst 1), (14, .bipush 12)] (by decide +kernel) (pc1 := 16) (ls1 := [some (aR 0 0), some (aI x1), some (aI x2), some (aI x3), some (aR 28 x1.toNatClampNeg), none, none]) (st1 := [aI (12 : Int32), aI (1 : Int32), aI x3]) (σ1 := σ) (P := []) rfl trivial ?_
    refine XW.callS B (M := M_X10_isWithin) (as := [aI x3, aI (1 : Int32), aI (12 : Int32)]) (c_X10_isWithin x3 (1 : Int32) (12 : Int32) σ rfl) (by decide) wS_X10_isWithin wN_X10_isWithin lk_X10_90 rfl (Nat.le_of_ble_eq_true rfl) (by decide +kernel) ?_
    refine XW.bn B [] (by decide +kernel) (pc1 := 19) (ls1 := [some (aR 0 0), some (aI x1), some (aI x2), some (aI x3), some (aR 28 x1.toNatClampNeg), none, none]) (st1 := [aI (m_X10_isWithin x3 (1 : Int32) (12 : Int32))]) (σ1 := σ) (P := []) (i := .ifCond .ne 5) (tgt := 24) (q := (m_X10_isWithin x3 (1 : Int32) (12 : Int32)) = (0 : Int32)) rfl trivial (by decide +kernel) rfl (by decide) (fun h2 => ?_) (fun h2 => ?_)
    · rw [if_pos h2] at hm
      refine XW.bk B [(22, .iconst (-1))] (by decide +kernel) (pc1 := 23) (ls1 := [some (aR 0 0), some (aI x1), some (aI x2), some (aI x3), some (aR 28 x1.toNatClampNeg), none, none]) (st1 := [aI (-1 : Int32)]) (σ1 := σ) (P := []) rfl trivial ?_
      obtain ⟨rfl, rfl⟩ := Prod.mk.inj (Option.some.inj hm)
      exact XW.iret B q (by decide +kernel)
    · rw [if_neg h2] at hm
      refine XW.bk B [(24, .aload 4)] (by decide +kernel) (pc1 := 26) (ls1 := [some (aR 0 0), some (aI x1), some (aI x2), some (aI x3), some (aR 28 x1.toNatClampNeg), none, none]) (st1 := [aR 28 x1.toNatClampNeg]) (σ1 := σ) (P := []) rfl trivial ?_
      refine XW.callV B (M := M_X6_isEmpty) (t := 28) (j := x1.toNatClampNeg) (cn := 6) (as := []) (c_X6_isEmpty x1.toNatClampNeg σ (sh_j h1) rfl) (by decide) wV_X6_isEmpty wN_X6_isEmpty lk_X10_94 rfl rfl rfl (sh_j h1) rfl (Nat.le_of_ble_eq_true rfl) (by decide +kernel) ?_
      refine XW.bb B [] (by decide +kernel) (pc1 := 29) (ls1 := [some (aR 0 0), some (aI x1), some (aI x2), some (aI x3), some (aR 28 x1.toNatClampNeg), none, none]) (st1 := [aI (m_X6_isEmpty x1.toNatClampNeg σ)]) (σ1 := σ) (P := []) (i := .ifCond .eq 5) (tgt := 34) (q := (m_X6_isEmpty x1.toNatClampNeg σ) = (0 : Int32)) rfl trivial (by decide +kernel) rfl (by decide) (fun h3 => ?_) (fun h3 => ?_)
      · rw [if_pos h3] at hm
        refine XW.bk B [(34, .aload 4)] (by decide +kernel) (pc1 := 36) (ls1 := [some (aR 0 0), some (aI x1), some (aI x2), some (aI x3), some (aR 28 x1.toNatClampNeg), none, none]) (st1 := [aR 28 x1.toNatClampNeg]) (σ1 := σ) (P := []) rfl trivial ?_
        refine XW.callV B (M := M_X6_holdsBytes) (t := 28) (j := x1.toNatClampNeg) (cn := 6) (as := []) (c_X6_holdsBytes x1.toNatClampNeg σ (sh_j h1) rfl) (by decide) wV_X6_holdsBytes wN_X6_holdsBytes lk_X10_98 rfl rfl rfl (sh_j h1) rfl (Nat.le_of_ble_eq_true rfl) (by decide +kernel) ?_
        refine XW.bn B [] (by decide +kernel) (pc1 := 39) (ls1 := [some (aR 0 0), some (aI x1), some (aI x2), some (aI x3), some (aR 28 x1.toNatClampNeg), none, none]) (st1 := [aI (m_X6_holdsBytes x1.toNatClampNeg σ)]) (σ1 := σ) (P := []) (i := .ifCond .ne 6) (tgt := 45) (q := (m_X6_holdsBytes x1.toNatClampNeg σ) = (0 : Int32)) rfl trivial (by decide +kernel) rfl (by decide) (fun h4 => ?_) (fun h4 => ?_)
        · rw [if_pos h4] at hm
          refine XW.bk B [(42, .bipush (-12))] (by decide +kernel) (pc1 := 44) (ls1 := [some (aR 0 0), some (aI x1), some (aI x2), some (aI x3), some (aR 28 x1.toNatClampNeg), none, none]) (st1 := [aI (-12 : Int32)]) (σ1 := σ) (P := []) rfl trivial ?_
          obtain ⟨rfl, rfl⟩ := Prod.mk.inj (Option.some.inj hm)
          exact XW.iret B q (by decide +kernel)
        · rw [if_neg h4] at hm
          refine XW.bk B [(45, .iconst 0), (46, .istore 5), (48, .iload_n 2), (49, .istore 6)] (by decide +kernel) (pc1 := 51) (ls1 := [some (aR 0 0), some (aI x1), some (aI x2), some (aI x3), some (aR 28 x1.toNatClampNeg), some (aI (0 : Int32)), some (aI x2)]) (st1 := []) (σ1 := σ) (P := []) rfl trivial ?_
          refine XW.loc [true, false, false, true, true, true, true] rfl ?_
          exact lp_X10_places_51 x1.toNatClampNeg (sh_j h1) B q FU x3 (0 : Int32) x2 σ hm
      · rw [if_neg h3] at hm
        refine XW.bk B [(32, .iconst 0)] (by decide +kernel) (pc1 := 33) (ls1 := [some (aR 0 0), some (aI x1), some (aI x2), some (aI x3), some (aR 28 x1.toNatClampNeg), none, none]) (st1 := [aI (0 : Int32)]) (σ1 := σ) (P := []) rfl trivial ?_
        obtain ⟨rfl, rfl⟩ := Prod.mk.inj (Option.some.inj hm)
        exact XW.iret B q (by decide +kernel)

def m_X10_mend (x1 : Int32) (x2 : Int32) (x3 : Int32) (σ : SS) : Int32 × SS :=
  if (m_X8_slotOf x1 x2 σ) < (0 : Int32) then
    ((-1 : Int32), σ)
  else
  if (m_X10_isAsSaid x2 x3) = (0 : Int32) then
    ((-1 : Int32), σ)
  else
  if (m_X8_read (m_X8_slotOf x1 x2 σ) σ) = x3 then
    ((m_X8_read (m_X8_slotOf x1 x2 σ) σ), σ)
  else
  bnT (m_X1_note (m_X8_slotOf x1 x2 σ) (m_X8_read (m_X8_slotOf x1 x2 σ) σ) x3 σ) (fun q4 =>
  bnT (m_X8_write (m_X8_slotOf x1 x2 σ) x3 q4) (fun q5 =>
  ((m_X8_read (m_X8_slotOf x1 x2 σ) σ), q5)))
set_option maxRecDepth 100000 in
set_option maxHeartbeats 4000000 in
theorem c_X10_mend (x1 : Int32) (x2 : Int32) (x3 : Int32) (σ : SS) {r : Int32} {σ' : SS} (hm : m_X10_mend x1 x2 x3 σ = (r, σ')) : XM LC 3 M_X10_mend [aR 0 0, aI x1, aI x2, aI x3] σ (some (aI r)) σ' := by
  refine XM.of (K := K10) (by decide) (by decide +kernel) K10_ok (Nat.le_of_ble_eq_true rfl) (fun Γ B q => ?_)
  unfold m_X10_mend at hm
  refine XW.bk B [(0, .aload_n 0), (1, .getfield 23), (4, .iload_n 1), (5, .iload_n 2)] (by decide +kernel) (pc1 := 6) (ls1 := [some (aR 0 0), some (aI x1), some (aI x2), some (aI x3), none, none]) (st1 := [aI x2, aI x1, aR 1 0]) (σ1 := σ) (P := []) rfl trivial ?_
  refine XW.callV B (M := M_X8_slotOf) (t := 1) (j := 0) (cn := 1) (as := [aI x1, aI x2]) (c_X8_slotOf x1 x2 σ rfl) (by decide) wV_X8_slotOf wN_X8_slotOf lk_X10_113 rfl rfl rfl (by decide) rfl (Nat.le_of_ble_eq_true rfl) (by decide +kernel) ?_
  refine XW.bb B [(9, .istore 4), (11, .iload 4)] (by decide +kernel) (pc1 := 13) (ls1 := [some (aR 0 0), some (aI x1), some (aI x2), some (aI x3), some (aI (m_X8_slotOf x1 x2 σ)), none]) (st1 := [aI (m_X8_slotOf x1 x2 σ)]) (σ1 := σ) (P := []) (i := .ifCond .lt 11) (tgt := 24) (q := (m_X8_slotOf x1 x2 σ) < (0 : Int32)) rfl trivial (by decide +kernel) rfl (by decide) (fun h1 => ?_) (fun h1 => ?_)
  · rw [if_pos h1] at hm
    refine XW.bk B [(24, .iconst (-1))] (by decide +kernel) (pc1 := 25) (ls1 := [some (aR 0 0), some (aI x1), some (aI x2), some (aI x3), some (aI (m_X8_slotOf x1 x2 σ)), none]) (st1 := [aI (-1 : Int32)]) (σ1 := σ) (P := []) rfl trivial ?_
    obtain ⟨rfl, rfl⟩ := Prod.mk.inj (hm)
    exact XW.iret B q (by decide +kernel)
  · rw [if_neg h1] at hm
    refine XW.bk B [(16, .iload_n 2), (17, .iload_n 3)] (by decide +kernel) (pc1 := 18) (ls1 := [some (aR 0 0), some (aI x1), some (aI x2), some (aI x3), some (aI (m_X8_slotOf x1 x2 σ)), none]) (st1 := [aI x3, aI x2]) (σ1 := σ) (P := []) rfl trivial ?_
    refine XW.callS B (M := M_X10_isAsSaid) (as := [aI x2, aI x3]) (c_X10_isAsSaid x2 x3 σ rfl) (by decide) wS_X10_isAsSaid wN_X10_isAsSaid lk_X10_78 rfl (Nat.le_of_ble_eq_true rfl) (by decide +kernel) ?_
    refine XW.bn B [] (by decide +kernel) (pc1 := 21) (ls1 := [some (aR 0 0), some (aI x1), some (aI x2), some (aI x3), some (aI (m_X8_slotOf x1 x2 σ)), none]) (st1 := [aI (m_X10_isAsSaid x2 x3)]) (σ1 := σ) (P := []) (i := .ifCond .ne 5) (tgt := 26) (q := (m_X10_isAsSaid x2 x3) = (0 : Int32)) rfl trivial (by decide +kernel) rfl (by decide) (fun h2 => ?_) (fun h2 => ?_)
    · rw [if_pos h2] at hm
      refine XW.bk B [(24, .iconst (-1))] (by decide +kernel) (pc1 := 25) (ls1 := [some (aR 0 0), some (aI x1), some (aI x2), some (aI x3), some (aI (m_X8_slotOf x1 x2 σ)), none]) (st1 := [aI (-1 : Int32)]) (σ1 := σ) (P := []) rfl trivial ?_
      obtain ⟨rfl, rfl⟩ := Prod.mk.inj (hm)
      exact XW.iret B q (by decide +kernel)
    · rw [if_neg h2] at hm
      refine XW.bk B [(26, .aload_n 0), (27, .getfield 23), (30, .iload 4)] (by decide +kernel) (pc1 := 32) (ls1 := [some (aR 0 0), some (aI x1), some (aI x2), some (aI x3), some (aI (m_X8_slotOf x1 x2 σ)), none]) (st1 := [aI (m_X8_slotOf x1 x2 σ), aR 1 0]) (σ1 := σ) (P := []) rfl trivial ?_
      refine XW.callV B (M := M_X8_read) (t := 1) (j := 0) (cn := 1) (as := [aI (m_X8_slotOf x1 x2 σ)]) (c_X8_read (m_X8_slotOf x1 x2 σ) σ rfl) (by decide) wV_X8_read wN_X8_read lk_X10_117 rfl rfl rfl (by decide) rfl (Nat.le_of_ble_eq_true rfl) (by decide +kernel) ?_
      refine XW.bb B [(35, .istore 5), (37, .iload 5), (39, .iload_n 3)] (by decide +kernel) (pc1 := 40) (ls1 := [some (aR 0 0), some (aI x1), some (aI x2), some (aI x3), some (aI (m_X8_slotOf x1 x2 σ)), some (aI (m_X8_read (m_X8_slotOf x1 x2 σ) σ))]) (st1 := [aI x3, aI (m_X8_read (m_X8_slotOf x1 x2 σ) σ)]) (σ1 := σ) (P := []) (i := .if_icmp .eq 25) (tgt := 65) (q := (m_X8_read (m_X8_slotOf x1 x2 σ) σ) = x3) rfl trivial (by decide +kernel) rfl (by decide) (fun h3 => ?_) (fun h3 => ?_)
      · rw [if_pos h3] at hm
        refine XW.bk B [(65, .iload 5)] (by decide +kernel) (pc1 := 67) (ls1 := [some (aR 0 0), some (aI x1), some (aI x2), some (aI x3), some (aI (m_X8_slotOf x1 x2 σ)), some (aI (m_X8_read (m_X8_slotOf x1 x2 σ) σ))]) (st1 := [aI (m_X8_read (m_X8_slotOf x1 x2 σ) σ)]) (σ1 := σ) (P := []) rfl trivial ?_
        obtain ⟨rfl, rfl⟩ := Prod.mk.inj (hm)
        exact XW.iret B q (by decide +kernel)
      · rw [if_neg h3] at hm
        refine XW.bk B [(43, .aload_n 0), (44, .getfield 30), (47, .iload 4), (49, .iload 5), (51, .iload_n 3)] (by decide +kernel) (pc1 := 52) (ls1 := [some (aR 0 0), some (aI x1), some (aI x2), some (aI x3), some (aI (m_X8_slotOf x1 x2 σ)), some (aI (m_X8_read (m_X8_slotOf x1 x2 σ) σ))]) (st1 := [aI x3, aI (m_X8_read (m_X8_slotOf x1 x2 σ) σ), aI (m_X8_slotOf x1 x2 σ), aR 3 0]) (σ1 := σ) (P := []) rfl trivial ?_
        obtain ⟨q4, hq4, hm⟩ := bnT_eq hm
        refine XW.callV B (M := M_X1_note) (t := 3) (j := 0) (cn := 1) (as := [aI (m_X8_slotOf x1 x2 σ), aI (m_X8_read (m_X8_slotOf x1 x2 σ) σ), aI x3]) (c_X1_note (m_X8_slotOf x1 x2 σ) (m_X8_read (m_X8_slotOf x1 x2 σ) σ) x3 σ hq4) (by decide) wV_X1_note wN_X1_note lk_X10_120 rfl rfl rfl (by decide) rfl (Nat.le_of_ble_eq_true rfl) (by decide +kernel) ?_
        refine XW.bk B [(55, .aload_n 0), (56, .getfield 23), (59, .iload 4), (61, .iload_n 3)] (by decide +kernel) (pc1 := 62) (ls1 := [some (aR 0 0), some (aI x1), some (aI x2), some (aI x3), some (aI (m_X8_slotOf x1 x2 σ)), some (aI (m_X8_read (m_X8_slotOf x1 x2 σ) σ))]) (st1 := [aI x3, aI (m_X8_slotOf x1 x2 σ), aR 1 0]) (σ1 := q4) (P := []) rfl trivial ?_
        obtain ⟨q5, hq5, hm⟩ := bnT_eq hm
        refine XW.callV B (M := M_X8_write) (t := 1) (j := 0) (cn := 1) (as := [aI (m_X8_slotOf x1 x2 σ), aI x3]) (c_X8_write (m_X8_slotOf x1 x2 σ) x3 q4 hq5) (by decide) wV_X8_write wN_X8_write lk_X10_124 rfl rfl rfl (by decide) rfl (Nat.le_of_ble_eq_true rfl) (by decide +kernel) ?_
        refine XW.bk B [(65, .iload 5)] (by decide +kernel) (pc1 := 67) (ls1 := [some (aR 0 0), some (aI x1), some (aI x2), some (aI x3), some (aI (m_X8_slotOf x1 x2 σ)), some (aI (m_X8_read (m_X8_slotOf x1 x2 σ) σ))]) (st1 := [aI (m_X8_read (m_X8_slotOf x1 x2 σ) σ)]) (σ1 := q5) (P := []) rfl trivial ?_
        obtain ⟨rfl, rfl⟩ := Prod.mk.inj (hm)
        exact XW.iret B q (by decide +kernel)

def m_X10_of (x1 : Int32) (x2 : Int32) (σ : SS) : Int32 :=
  if (0 : Int32) ≤ (m_X8_slotOf x1 x2 σ) then
    (m_X8_read (m_X8_slotOf x1 x2 σ) σ)
  else
  (-1 : Int32)
set_option maxRecDepth 100000 in
set_option maxHeartbeats 4000000 in
theorem c_X10_of (x1 : Int32) (x2 : Int32) (σ : SS) {r : Int32} (hm : m_X10_of x1 x2 σ = r) : XM LC 3 M_X10_of [aR 0 0, aI x1, aI x2] σ (some (aI r)) σ := by
  refine XM.of (K := K10) (by decide) (by decide +kernel) K10_ok (Nat.le_of_ble_eq_true rfl) (fun Γ B q => ?_)
  unfold m_X10_of at hm
  refine XW.bk B [(0, .aload_n 0), (1, .getfield 23), (4, .iload_n 1), (5, .iload_n 2)] (by decide +kernel) (pc1 := 6) (ls1 := [some (aR 0 0), some (aI x1), some (aI x2), none]) (st1 := [aI x2, aI x1, aR 1 0]) (σ1 := σ) (P := []) rfl trivial ?_
  refine XW.callV B (M := M_X8_slotOf) (t := 1) (j := 0) (cn := 1) (as := [aI x1, aI x2]) (c_X8_slotOf x1 x2 σ rfl) (by decide) wV_X8_slotOf wN_X8_slotOf lk_X10_113 rfl rfl rfl (by decide) rfl (Nat.le_of_ble_eq_true rfl) (by decide +kernel) ?_
  refine XW.bb B [(9, .istore_n 3), (10, .iload_n 3)] (by decide +kernel) (pc1 := 11) (ls1 := [some (aR 0 0), some (aI x1), some (aI x2), some (aI (m_X8_slotOf x1 x2 σ))]) (st1 := [aI (m_X8_slotOf x1 x2 σ)]) (σ1 := σ) (P := []) (i := .ifCond .ge 7) (tgt := 18) (q := (0 : Int32) ≤ (m_X8_slotOf x1 x2 σ)) rfl trivial (by decide +kernel) rfl (by decide) (fun h1 => ?_) (fun h1 => ?_)
  · rw [if_pos h1] at hm
    refine XW.bk B [(18, .aload_n 0), (19, .getfield 23), (22, .iload_n 3)] (by decide +kernel) (pc1 := 23) (ls1 := [some (aR 0 0), some (aI x1), some (aI x2), some (aI (m_X8_slotOf x1 x2 σ))]) (st1 := [aI (m_X8_slotOf x1 x2 σ), aR 1 0]) (σ1 := σ) (P := []) rfl trivial ?_
    refine XW.callV B (M := M_X8_read) (t := 1) (j := 0) (cn := 1) (as := [aI (m_X8_slotOf x1 x2 σ)]) (c_X8_read (m_X8_slotOf x1 x2 σ) σ rfl) (by decide) wV_X8_read wN_X8_read lk_X10_117 rfl rfl rfl (by decide) rfl (Nat.le_of_ble_eq_true rfl) (by decide +kernel) ?_
    subst hm
    exact XW.iret B q (by decide +kernel)
  · rw [if_neg h1] at hm
    refine XW.bk B [(14, .iconst (-1)), (15, .goto 11)] (by decide +kernel) (pc1 := 26) (ls1 := [some (aR 0 0), some (aI x1), some (aI x2), some (aI (m_X8_slotOf x1 x2 σ))]) (st1 := [aI (-1 : Int32)]) (σ1 := σ) (P := []) rfl trivial ?_
    subst hm
    exact XW.iret B q (by decide +kernel)

def m_X10_wind (x1 : Int32) (x2 : Int32) (σ : SS) : Int32 :=
  if (m_X8_has x1 σ) = (0 : Int32) then
    (-1 : Int32)
  else
  if (m_X10_isWithin x2 (0 : Int32) (9999 : Int32)) = (0 : Int32) then
    (-1 : Int32)
  else
  (m_X8_windIn x1 x2 σ)
set_option maxRecDepth 100000 in
set_option maxHeartbeats 4000000 in
theorem c_X10_wind (x1 : Int32) (x2 : Int32) (σ : SS) {r : Int32} (hm : m_X10_wind x1 x2 σ = r) : XM LC 4 M_X10_wind [aR 0 0, aI x1, aI x2] σ (some (aI r)) σ := by
  refine XM.of (K := K10) (by decide) (by decide +kernel) K10_ok (Nat.le_of_ble_eq_true rfl) (fun Γ B q => ?_)
  unfold m_X10_wind at hm
  refine XW.bk B [(0, .aload_n 0), (1, .getfield 23), (4, .iload_n 1)] (by decide +kernel) (pc1 := 5) (ls1 := [some (aR 0 0), some (aI x1), some (aI x2)]) (st1 := [aI x1, aR 1 0]) (σ1 := σ) (P := []) rfl trivial ?_
  refine XW.callV B (M := M_X8_has) (t := 1) (j := 0) (cn := 1) (as := [aI x1]) (c_X8_has x1 σ rfl) (by decide) wV_X8_has wN_X8_has lk_X10_128 rfl rfl rfl (by decide) rfl (Nat.le_of_ble_eq_true rfl) (by decide +kernel) ?_
  refine XW.bb B [] (by decide +kernel) (pc1 := 8) (ls1 := [some (aR 0 0), some (aI x1), some (aI x2)]) (st1 := [aI (m_X8_has x1 σ)]) (σ1 := σ) (P := []) (i := .ifCond .eq 14) (tgt := 22) (q := (m_X8_has x1 σ) = (0 : Int32)) rfl trivial (by decide +kernel) rfl (by decide) (fun h1 => ?_) (fun h1 => ?_)
  · rw [if_pos h1] at hm
    refine XW.bk B [(22, .iconst (-1))] (by decide +kernel) (pc1 := 23) (ls1 := [some (aR 0 0), some (aI x1), some (aI x2)]) (st1 := [aI (-1 : Int32)]) (σ1 := σ) (P := []) rfl trivial ?_
    subst hm
    exact XW.iret B q (by decide +kernel)
  · rw [if_neg h1] at hm
    refine XW.bk B [(11, .iload_n 2), (12, .iconst 0), (13, .sipush 9999)] (by decide +kernel) (pc1 := 16) (ls1 := [some (aR 0 0), some (aI x1), some (aI x2)]) (st1 := [aI (9999 : Int32), aI (0 : Int32), aI x2]) (σ1 := σ) (P := []) rfl trivial ?_
    refine XW.callS B (M := M_X10_isWithin) (as := [aI x2, aI (0 : Int32), aI (9999 : Int32)]) (c_X10_isWithin x2 (0 : Int32) (9999 : Int32) σ rfl) (by decide) wS_X10_isWithin wN_X10_isWithin lk_X10_90 rfl (Nat.le_of_ble_eq_true rfl) (by decide +kernel) ?_
    refine XW.bn B [] (by decide +kernel) (pc1 := 19) (ls1 := [some (aR 0 0), some (aI x1), some (aI x2)]) (st1 := [aI (m_X10_isWithin x2 (0 : Int32) (9999 : Int32))]) (σ1 := σ) (P := []) (i := .ifCond .ne 5) (tgt := 24) (q := (m_X10_isWithin x2 (0 : Int32) (9999 : Int32)) = (0 : Int32)) rfl trivial (by decide +kernel) rfl (by decide) (fun h2 => ?_) (fun h2 => ?_)
    · rw [if_pos h2] at hm
      refine XW.bk B [(22, .iconst (-1))] (by decide +kernel) (pc1 := 23) (ls1 := [some (aR 0 0), some (aI x1), some (aI x2)]) (st1 := [aI (-1 : Int32)]) (σ1 := σ) (P := []) rfl trivial ?_
      subst hm
      exact XW.iret B q (by decide +kernel)
    · rw [if_neg h2] at hm
      refine XW.bk B [(24, .aload_n 0), (25, .getfield 23), (28, .iload_n 1), (29, .iload_n 2)] (by decide +kernel) (pc1 := 30) (ls1 := [some (aR 0 0), some (aI x1), some (aI x2)]) (st1 := [aI x2, aI x1, aR 1 0]) (σ1 := σ) (P := []) rfl trivial ?_
      refine XW.callV B (M := M_X8_windIn) (t := 1) (j := 0) (cn := 1) (as := [aI x1, aI x2]) (c_X8_windIn x1 x2 σ rfl) (by decide) wV_X8_windIn wN_X8_windIn lk_X10_132 rfl rfl rfl (by decide) rfl (Nat.le_of_ble_eq_true rfl) (by decide +kernel) ?_
      subst hm
      exact XW.iret B q (by decide +kernel)

def m_X10_feed (x1 : Int32) (σ : SS) : Int32 × SS :=
  if (m_X10_isWithin x1 (0 : Int32) (255 : Int32)) = (0 : Int32) then
    ((-1 : Int32), σ)
  else
  bnT (m_X3_take x1 σ) (fun q2 =>
  (q2.1, q2.2))
set_option maxRecDepth 100000 in
set_option maxHeartbeats 4000000 in
theorem c_X10_feed (x1 : Int32) (σ : SS) {r : Int32} {σ' : SS} (hm : m_X10_feed x1 σ = (r, σ')) : XM LC 2 M_X10_feed [aR 0 0, aI x1] σ (some (aI r)) σ' := by
  refine XM.of (K := K10) (by decide) (by decide +kernel) K10_ok (Nat.le_of_ble_eq_true rfl) (fun Γ B q => ?_)
  unfold m_X10_feed at hm
  refine XW.bk B [(0, .iload_n 1), (1, .iconst 0), (2, .sipush 255)] (by decide +kernel) (pc1 := 5) (ls1 := [some (aR 0 0), some (aI x1)]) (st1 := [aI (255 : Int32), aI (0 : Int32), aI x1]) (σ1 := σ) (P := []) rfl trivial ?_
  refine XW.callS B (M := M_X10_isWithin) (as := [aI x1, aI (0 : Int32), aI (255 : Int32)]) (c_X10_isWithin x1 (0 : Int32) (255 : Int32) σ rfl) (by decide) wS_X10_isWithin wN_X10_isWithin lk_X10_90 rfl (Nat.le_of_ble_eq_true rfl) (by decide +kernel) ?_
  refine XW.bn B [] (by decide +kernel) (pc1 := 8) (ls1 := [some (aR 0 0), some (aI x1)]) (st1 := [aI (m_X10_isWithin x1 (0 : Int32) (255 : Int32))]) (σ1 := σ) (P := []) (i := .ifCond .ne 5) (tgt := 13) (q := (m_X10_isWithin x1 (0 : Int32) (255 : Int32)) = (0 : Int32)) rfl trivial (by decide +kernel) rfl (by decide) (fun h1 => ?_) (fun h1 => ?_)
  · rw [if_pos h1] at hm
    refine XW.bk B [(11, .iconst (-1))] (by decide +kernel) (pc1 := 12) (ls1 := [some (aR 0 0), some (aI x1)]) (st1 := [aI (-1 : Int32)]) (σ1 := σ) (P := []) rfl trivial ?_
    obtain ⟨rfl, rfl⟩ := Prod.mk.inj (hm)
    exact XW.iret B q (by decide +kernel)
  · rw [if_neg h1] at hm
    refine XW.bk B [(13, .aload_n 0), (14, .getfield 34), (17, .iload_n 1)] (by decide +kernel) (pc1 := 18) (ls1 := [some (aR 0 0), some (aI x1)]) (st1 := [aI x1, aR 7 0]) (σ1 := σ) (P := []) rfl trivial ?_
    obtain ⟨q2, hq2, hm⟩ := bnT_eq hm
    refine XW.callV B (M := M_X3_take) (t := 7) (j := 0) (cn := 1) (as := [aI x1]) (c_X3_take x1 σ hq2) (by decide) wV_X3_take wN_X3_take lk_X10_135 rfl rfl rfl (by decide) rfl (Nat.le_of_ble_eq_true rfl) (by decide +kernel) ?_
    obtain ⟨rfl, rfl⟩ := Prod.mk.inj (hm)
    exact XW.iret B q (by decide +kernel)

def m_X10_law (σ : SS) : Option (Int32 × SS) :=
  Option.bind (m_X3_readTape σ) (fun q1 =>
  if (0 : Int32) ≤ q1.1 then
    some (((-100 : Int32) - q1.1), q1.2)
  else
  some ((1 : Int32), q1.2))
set_option maxRecDepth 100000 in
set_option maxHeartbeats 4000000 in
theorem c_X10_law (σ : SS) {r : Int32} {σ' : SS} (hm : m_X10_law σ = some (r, σ')) : XM LC 65 M_X10_law [aR 0 0] σ (some (aI r)) σ' := by
  refine XM.of (K := K10) (by decide) (by decide +kernel) K10_ok (Nat.le_of_ble_eq_true rfl) (fun Γ B q => ?_)
  unfold m_X10_law at hm
  refine XW.bk B [(0, .aload_n 0), (1, .getfield 34)] (by decide +kernel) (pc1 := 4) (ls1 := [some (aR 0 0), none]) (st1 := [aR 7 0]) (σ1 := σ) (P := []) rfl trivial ?_
  obtain ⟨q1, hq1, hm⟩ := obind_eq hm
  refine XW.callV B (M := M_X3_readTape) (t := 7) (j := 0) (cn := 1) (as := []) (c_X3_readTape σ hq1) (by decide) wV_X3_readTape wN_X3_readTape lk_X10_138 rfl rfl rfl (by decide) rfl (Nat.le_of_ble_eq_true rfl) (by decide +kernel) ?_
  refine XW.bb B [(7, .istore_n 1), (8, .iload_n 1)] (by decide +kernel) (pc1 := 9) (ls1 := [some (aR 0 0), some (aI q1.1)]) (st1 := [aI q1.1]) (σ1 := q1.2) (P := []) (i := .ifCond .ge 7) (tgt := 16) (q := (0 : Int32) ≤ q1.1) rfl trivial (by decide +kernel) rfl (by decide) (fun h2 => ?_) (fun h2 => ?_)
  · rw [if_pos h2] at hm
    refine XW.bk B [(16, .bipush (-100)), (18, .iload_n 1), (19, .isub)] (by decide +kernel) (pc1 := 20) (ls1 := [some (aR 0 0), some (aI q1.1)]) (st1 := [aI ((-100 : Int32) - q1.1)]) (σ1 := q1.2) (P := []) rfl trivial ?_
    obtain ⟨rfl, rfl⟩ := Prod.mk.inj (Option.some.inj hm)
    exact XW.iret B q (by decide +kernel)
  · rw [if_neg h2] at hm
    refine XW.bk B [(12, .iconst 1), (13, .goto 7)] (by decide +kernel) (pc1 := 20) (ls1 := [some (aR 0 0), some (aI q1.1)]) (st1 := [aI (1 : Int32)]) (σ1 := q1.2) (P := []) rfl trivial ?_
    obtain ⟨rfl, rfl⟩ := Prod.mk.inj (Option.some.inj hm)
    exact XW.iret B q (by decide +kernel)

def m_X10_strain (x1 : Int32) (x2 : Int32) (σ : SS) : Option (Int32 × SS) :=
  if (m_X8_has (x1 / (10 : Int32)) σ) = (0 : Int32) then
    some ((-1 : Int32), σ)
  else
  if (m_X10_isHold (x1 - (x1 / (10 : Int32)) * (10 : Int32))) = (0 : Int32) then
    some ((-1 : Int32), σ)
  else
  if (m_X10_isWithin x2 (0 : Int32) (9999 : Int32)) = (0 : Int32) then
    some ((-1 : Int32), σ)
  else
  bnT (m_X7_supposeNow σ) (fun q4 =>
  Option.bind (m_X7_inMinute (x1 / (10 : Int32)) (x1 - (x1 / (10 : Int32)) * (10 : Int32)) x2 q4) (fun q5 =>
  some (q5.1, q5.2)))
set_option maxRecDepth 100000 in
set_option maxHeartbeats 4000000 in
theorem c_X10_strain (x1 : Int32) (x2 : Int32) (σ : SS) {r : Int32} {σ' : SS} (hm : m_X10_strain x1 x2 σ = some (r, σ')) : XM LC 5 M_X10_strain [aR 0 0, aI x1, aI x2] σ (some (aI r)) σ' := by
  refine XM.of (K := K10) (by decide) (by decide +kernel) K10_ok (Nat.le_of_ble_eq_true rfl) (fun Γ B q => ?_)
  unfold m_X10_strain at hm
  refine XW.bk B [(0, .iload_n 1), (1, .bipush 10), (3, .idiv), (4, .istore_n 3), (5, .iload_n 1), (6, .bipush 10), (8, .irem), (9, .istore 4), (11, .aload_n 0), (12, .getfield 23), (15, .iload_n 3)] (by decide +kernel) (pc1 := 16) (ls1 := [some (aR 0 0), some (aI x1), some (aI x2), some (aI (x1 / (10 : Int32))), some (aI (x1 - (x1 / (10 : Int32)) * (10 : Int32)))]) (st1 := [aI (x1 / (10 : Int32)), aR 1 0]) (σ1 := σ) (P := [¬ (10 : Int32) = 0, ¬ (10 : Int32) = 0]) rfl ⟨(by decide), (by decide), trivial⟩ ?_
  refine XW.callV B (M := M_X8_has) (t := 1) (j := 0) (cn := 1) (as := [aI (x1 / (10 : Int32))]) (c_X8_has (x1 / (10 : Int32)) σ rfl) (by decide) wV_X8_has wN_X8_has lk_X10_128 rfl rfl rfl (by decide) rfl (Nat.le_of_ble_eq_true rfl) (by decide +kernel) ?_
  refine XW.bb B [] (by decide +kernel) (pc1 := 19) (ls1 := [some (aR 0 0), some (aI x1), some (aI x2), some (aI (x1 / (10 : Int32))), some (aI (x1 - (x1 / (10 : Int32)) * (10 : Int32)))]) (st1 := [aI (m_X8_has (x1 / (10 : Int32)) σ)]) (σ1 := σ) (P := []) (i := .ifCond .eq 22) (tgt := 41) (q := (m_X8_has (x1 / (10 : Int32)) σ) = (0 : Int32)) rfl trivial (by decide +kernel) rfl (by decide) (fun h1 => ?_) (fun h1 => ?_)
  · rw [if_pos h1] at hm
    refine XW.bk B [(41, .iconst (-1))] (by decide +kernel) (pc1 := 42) (ls1 := [some (aR 0 0), some (aI x1), some (aI x2), some (aI (x1 / (10 : Int32))), some (aI (x1 - (x1 / (10 : Int32)) * (10 : Int32)))]) (st1 := [aI (-1 : Int32)]) (σ1 := σ) (P := []) rfl trivial ?_
    obtain ⟨rfl, rfl⟩ := Prod.mk.inj (Option.some.inj hm)
    exact XW.iret B q (by decide +kernel)
  · rw [if_neg h1] at hm
    refine XW.bk B [(22, .iload 4)] (by decide +kernel) (pc1 := 24) (ls1 := [some (aR 0 0), some (aI x1), some (aI x2), some (aI (x1 / (10 : Int32))), some (aI (x1 - (x1 / (10 : Int32)) * (10 : Int32)))]) (st1 := [aI (x1 - (x1 / (10 : Int32)) * (10 : Int32))]) (σ1 := σ) (P := []) rfl trivial ?_
    refine XW.callS B (M := M_X10_isHold) (as := [aI (x1 - (x1 / (10 : Int32)) * (10 : Int32))]) (c_X10_isHold (x1 - (x1 / (10 : Int32)) * (10 : Int32)) σ rfl) (by decide) wS_X10_isHold wN_X10_isHold lk_X10_142 rfl (Nat.le_of_ble_eq_true rfl) (by decide +kernel) ?_
    refine XW.bb B [] (by decide +kernel) (pc1 := 27) (ls1 := [some (aR 0 0), some (aI x1), some (aI x2), some (aI (x1 / (10 : Int32))), some (aI (x1 - (x1 / (10 : Int32)) * (10 : Int32)))]) (st1 := [aI (m_X10_isHold (x1 - (x1 / (10 : Int32)) * (10 : Int32)))]) (σ1 := σ) (P := []) (i := .ifCond .eq 14) (tgt := 41) (q := (m_X10_isHold (x1 - (x1 / (10 : Int32)) * (10 : Int32))) = (0 : Int32)) rfl trivial (by decide +kernel) rfl (by decide) (fun h2 => ?_) (fun h2 => ?_)
    · rw [if_pos h2] at hm
      refine XW.bk B [(41, .iconst (-1))] (by decide +kernel) (pc1 := 42) (ls1 := [some (aR 0 0), some (aI x1), some (aI x2), some (aI (x1 / (10 : Int32))), some (aI (x1 - (x1 / (10 : Int32)) * (10 : Int32)))]) (st1 := [aI (-1 : Int32)]) (σ1 := σ) (P := []) rfl trivial ?_
      obtain ⟨rfl, rfl⟩ := Prod.mk.inj (Option.some.inj hm)
      exact XW.iret B q (by decide +kernel)
    · rw [if_neg h2] at hm
      refine XW.bk B [(30, .iload_n 2), (31, .iconst 0), (32, .sipush 9999)] (by decide +kernel) (pc1 := 35) (ls1 := [some (aR 0 0), some (aI x1), some (aI x2), some (aI (x1 / (10 : Int32))), some (aI (x1 - (x1 / (10 : Int32)) * (10 : Int32)))]) (st1 := [aI (9999 : Int32), aI (0 : Int32), aI x2]) (σ1 := σ) (P := []) rfl trivial ?_
      refine XW.callS B (M := M_X10_isWithin) (as := [aI x2, aI (0 : Int32), aI (9999 : Int32)]) (c_X10_isWithin x2 (0 : Int32) (9999 : Int32) σ rfl) (by decide) wS_X10_isWithin wN_X10_isWithin lk_X10_90 rfl (Nat.le_of_ble_eq_true rfl) (by decide +kernel) ?_
      refine XW.bn B [] (by decide +kernel) (pc1 := 38) (ls1 := [some (aR 0 0), some (aI x1), some (aI x2), some (aI (x1 / (10 : Int32))), some (aI (x1 - (x1 / (10 : Int32)) * (10 : Int32)))]) (st1 := [aI (m_X10_isWithin x2 (0 : Int32) (9999 : Int32))]) (σ1 := σ) (P := []) (i := .ifCond .ne 5) (tgt := 43) (q := (m_X10_isWithin x2 (0 : Int32) (9999 : Int32)) = (0 : Int32)) rfl trivial (by decide +kernel) rfl (by decide) (fun h3 => ?_) (fun h3 => ?_)
      · rw [if_pos h3] at hm
        refine XW.bk B [(41, .iconst (-1))] (by decide +kernel) (pc1 := 42) (ls1 := [some (aR 0 0), some (aI x1), some (aI x2), some (aI (x1 / (10 : Int32))), some (aI (x1 - (x1 / (10 : Int32)) * (10 : Int32)))]) (st1 := [aI (-1 : Int32)]) (σ1 := σ) (P := []) rfl trivial ?_
        obtain ⟨rfl, rfl⟩ := Prod.mk.inj (Option.some.inj hm)
        exact XW.iret B q (by decide +kernel)
      · rw [if_neg h3] at hm
        refine XW.bk B [(43, .aload_n 0), (44, .getfield 38)] (by decide +kernel) (pc1 := 47) (ls1 := [some (aR 0 0), some (aI x1), some (aI x2), some (aI (x1 / (10 : Int32))), some (aI (x1 - (x1 / (10 : Int32)) * (10 : Int32)))]) (st1 := [aR 14 0]) (σ1 := σ) (P := []) rfl trivial ?_
        obtain ⟨q4, hq4, hm⟩ := bnT_eq hm
        refine XW.callV B (M := M_X7_supposeNow) (t := 14) (j := 0) (cn := 1) (as := []) (c_X7_supposeNow σ hq4) (by decide) wV_X7_supposeNow wN_X7_supposeNow lk_X10_145 rfl rfl rfl (by decide) rfl (Nat.le_of_ble_eq_true rfl) (by decide +kernel) ?_
        refine XW.bk B [(50, .aload_n 0), (51, .getfield 38), (54, .iload_n 3), (55, .iload 4), (57, .iload_n 2)] (by decide +kernel) (pc1 := 58) (ls1 := [some (aR 0 0), some (aI x1), some (aI x2), some (aI (x1 / (10 : Int32))), some (aI (x1 - (x1 / (10 : Int32)) * (10 : Int32)))]) (st1 := [aI x2, aI (x1 - (x1 / (10 : Int32)) * (10 : Int32)), aI (x1 / (10 : Int32)), aR 14 0]) (σ1 := q4) (P := []) rfl trivial ?_
        obtain ⟨q5, hq5, hm⟩ := obind_eq hm
        refine XW.callV B (M := M_X7_inMinute) (t := 14) (j := 0) (cn := 1) (as := [aI (x1 / (10 : Int32)), aI (x1 - (x1 / (10 : Int32)) * (10 : Int32)), aI x2]) (c_X7_inMinute (x1 / (10 : Int32)) (x1 - (x1 / (10 : Int32)) * (10 : Int32)) x2 q4 hq5) (by decide) wV_X7_inMinute wN_X7_inMinute lk_X10_148 rfl rfl rfl (by decide) rfl (Nat.le_of_ble_eq_true rfl) (by decide +kernel) ?_
        obtain ⟨rfl, rfl⟩ := Prod.mk.inj (Option.some.inj hm)
        exact XW.iret B q (by decide +kernel)

def m_X10_isMinute (x1 : Int32) : Int32 :=
  (m_X10_isWithin x1 (0 : Int32) (999 : Int32))
set_option maxRecDepth 100000 in
set_option maxHeartbeats 4000000 in
theorem c_X10_isMinute (x1 : Int32) (σ : SS) {r : Int32} (hm : m_X10_isMinute x1 = r) : XM LC 2 M_X10_isMinute [aI x1] σ (some (aI r)) σ := by
  refine XM.of (K := K10) (by decide) (by decide +kernel) K10_ok (Nat.le_of_ble_eq_true rfl) (fun Γ B q => ?_)
  unfold m_X10_isMinute at hm
  refine XW.bk B [(0, .iload_n 0), (1, .iconst 0), (2, .sipush 999)] (by decide +kernel) (pc1 := 5) (ls1 := [some (aI x1)]) (st1 := [aI (999 : Int32), aI (0 : Int32), aI x1]) (σ1 := σ) (P := []) rfl trivial ?_
  refine XW.callS B (M := M_X10_isWithin) (as := [aI x1, aI (0 : Int32), aI (999 : Int32)]) (c_X10_isWithin x1 (0 : Int32) (999 : Int32) σ rfl) (by decide) wS_X10_isWithin wN_X10_isWithin lk_X10_90 rfl (Nat.le_of_ble_eq_true rfl) (by decide +kernel) ?_
  subst hm
  exact XW.zret B q (b_X10_isWithin x1 (0 : Int32) (999 : Int32)) (by decide +kernel)
theorem b_X10_isMinute (x1 : Int32) : m_X10_isMinute x1 = 0 ∨ m_X10_isMinute x1 = 1 := by
  unfold m_X10_isMinute
  (repeat' split) <;> first | exact Or.inl rfl | exact Or.inr rfl | exact (b_X10_isWithin x1 (0 : Int32) (999 : Int32))

def m_X10_walkRefused (j : Nat) (σ : SS) : Int32 :=
  if (m_X6_isEmpty j σ) = (0 : Int32) then
    if (m_X6_holdsBytes j σ) = (0 : Int32) then
      (-12 : Int32)
    else
    if (σ.1 1 0 1) = (0 : Int32) then
      (-5 : Int32)
    else
    (0 : Int32)
  else
  (-11 : Int32)
set_option maxRecDepth 100000 in
set_option maxHeartbeats 4000000 in
theorem c_X10_walkRefused (j : Nat) (σ : SS) (hj : j < 6) {r : Int32} (hm : m_X10_walkRefused j σ = r) : XM LC 2 M_X10_walkRefused [aR 0 0, aR 28 j] σ (some (aI r)) σ := by
  refine XM.of (K := K10) (by decide) (by decide +kernel) K10_ok (Nat.le_of_ble_eq_true rfl) (fun Γ B q => ?_)
  unfold m_X10_walkRefused at hm
  refine XW.bk B [(0, .aload_n 1)] (by decide +kernel) (pc1 := 1) (ls1 := [some (aR 0 0), some (aR 28 j)]) (st1 := [aR 28 j]) (σ1 := σ) (P := []) rfl trivial ?_
  refine XW.callV B (M := M_X6_isEmpty) (t := 28) (j := j) (cn := 6) (as := []) (c_X6_isEmpty j σ hj rfl) (by decide) wV_X6_isEmpty wN_X6_isEmpty lk_X10_94 rfl rfl rfl hj rfl (Nat.le_of_ble_eq_true rfl) (by decide +kernel) ?_
  refine XW.bb B [] (by decide +kernel) (pc1 := 4) (ls1 := [some (aR 0 0), some (aR 28 j)]) (st1 := [aI (m_X6_isEmpty j σ)]) (σ1 := σ) (P := []) (i := .ifCond .eq 6) (tgt := 10) (q := (m_X6_isEmpty j σ) = (0 : Int32)) rfl trivial (by decide +kernel) rfl (by decide) (fun h1 => ?_) (fun h1 => ?_)
  · rw [if_pos h1] at hm
    refine XW.bk B [(10, .aload_n 1)] (by decide +kernel) (pc1 := 11) (ls1 := [some (aR 0 0), some (aR 28 j)]) (st1 := [aR 28 j]) (σ1 := σ) (P := []) rfl trivial ?_
    refine XW.callV B (M := M_X6_holdsBytes) (t := 28) (j := j) (cn := 6) (as := []) (c_X6_holdsBytes j σ hj rfl) (by decide) wV_X6_holdsBytes wN_X6_holdsBytes lk_X10_98 rfl rfl rfl hj rfl (Nat.le_of_ble_eq_true rfl) (by decide +kernel) ?_
    refine XW.bn B [] (by decide +kernel) (pc1 := 14) (ls1 := [some (aR 0 0), some (aR 28 j)]) (st1 := [aI (m_X6_holdsBytes j σ)]) (σ1 := σ) (P := []) (i := .ifCond .ne 6) (tgt := 20) (q := (m_X6_holdsBytes j σ) = (0 : Int32)) rfl trivial (by decide +kernel) rfl (by decide) (fun h2 => ?_) (fun h2 => ?_)
    · rw [if_pos h2] at hm
      refine XW.bk B [(17, .bipush (-12))] (by decide +kernel) (pc1 := 19) (ls1 := [some (aR 0 0), some (aR 28 j)]) (st1 := [aI (-12 : Int32)]) (σ1 := σ) (P := []) rfl trivial ?_
      subst hm
      exact XW.iret B q (by decide +kernel)
    · rw [if_neg h2] at hm
      refine XW.bn B [(20, .aload_n 0), (21, .getfield 23), (24, .getfield 180)] (by decide +kernel) (pc1 := 27) (ls1 := [some (aR 0 0), some (aR 28 j)]) (st1 := [aI (σ.1 1 0 1)]) (σ1 := σ) (P := []) (i := .ifCond .ne 8) (tgt := 35) (q := (σ.1 1 0 1) = (0 : Int32)) rfl trivial (by decide +kernel) rfl (by decide) (fun h3 => ?_) (fun h3 => ?_)
      · rw [if_pos h3] at hm
        refine XW.bk B [(30, .bipush (-5)), (32, .goto 4)] (by decide +kernel) (pc1 := 36) (ls1 := [some (aR 0 0), some (aR 28 j)]) (st1 := [aI (-5 : Int32)]) (σ1 := σ) (P := []) rfl trivial ?_
        subst hm
        exact XW.iret B q (by decide +kernel)
      · rw [if_neg h3] at hm
        refine XW.bk B [(35, .iconst 0)] (by decide +kernel) (pc1 := 36) (ls1 := [some (aR 0 0), some (aR 28 j)]) (st1 := [aI (0 : Int32)]) (σ1 := σ) (P := []) rfl trivial ?_
        subst hm
        exact XW.iret B q (by decide +kernel)
  · rw [if_neg h1] at hm
    refine XW.bk B [(7, .bipush (-11))] (by decide +kernel) (pc1 := 9) (ls1 := [some (aR 0 0), some (aR 28 j)]) (st1 := [aI (-11 : Int32)]) (σ1 := σ) (P := []) rfl trivial ?_
    subst hm
    exact XW.iret B q (by decide +kernel)

def m_X10_walk (x1 : Int32) (x2 : Int32) (x3 : Int32) (σ : SS) : Option (Int32 × SS) :=
  if x1 < 0 ∨ ¬ x1 < 6 then
    some ((-1 : Int32), σ)
  else
  if (m_X10_isMinute x2) = (0 : Int32) then
    some ((-1 : Int32), σ)
  else
  if (m_X10_isWithin x3 (0 : Int32) (2 : Int32)) = (0 : Int32) then
    some ((-1 : Int32), σ)
  else
  if (m_X10_walkRefused x1.toNatClampNeg σ) = (0 : Int32) then
    if x3 = (2 : Int32) then
      Option.bind (m_X9_passes x1.toNatClampNeg σ) (fun q6 =>
      if q6 = (0 : Int32) then
        some ((0 : Int32), σ)
      else
      some ((1 : Int32), σ))
    else
    bnT (m_X7_supposeNow σ) (fun q8 =>
    Option.bind (m_X9_follow x1.toNatClampNeg (0 : Int32) x2 q8) (fun q9 =>
    if x3 = (0 : Int32) then
      some ((q9.1 17 0 4), q9)
    else
    some ((q9.1 17 0 5), q9)))
  else
  some ((m_X10_walkRefused x1.toNatClampNeg σ), σ)
set_option maxRecDepth 100000 in
set_option maxHeartbeats 4000000 in
theorem c_X10_walk (x1 : Int32) (x2 : Int32) (x3 : Int32) (σ : SS) {r : Int32} {σ' : SS} (hm : m_X10_walk x1 x2 x3 σ = some (r, σ')) : XM LC 6 M_X10_walk [aR 0 0, aI x1, aI x2, aI x3] σ (some (aI r)) σ' := by
  refine XM.of (K := K10) (by decide) (by decide +kernel) K10_ok (Nat.le_of_ble_eq_true rfl) (fun Γ B q => ?_)
  unfold m_X10_walk at hm
  refine XW.bk B [(0, .aload_n 0), (1, .iload_n 1)] (by decide +kernel) (pc1 := 2) (ls1 := [some (aR 0 0), some (aI x1), some (aI x2), some (aI x3), none, none]) (st1 := [aI x1, aR 0 0]) (σ1 := σ) (P := []) rfl trivial ?_
  by_cases h1 : x1 < 0 ∨ ¬ x1 < 6
  · rw [if_pos h1] at hm
    refine XW.callV B (M := M_X10_shelfAt) (t := 0) (j := 0) (cn := 1) (as := [aI x1]) (c_shelfAt0 h1 σ) (by decide) wV_X10_shelfAt wN_X10_shelfAt lk_X10_86 rfl rfl rfl (by decide) rfl (Nat.le_of_ble_eq_true rfl) (by decide +kernel) ?_
    refine XW.bk B [(5, .astore 4), (7, .aload 4)] (by decide +kernel) (pc1 := 9) (ls1 := [some (aR 0 0), some (aI x1), some (aI x2), some (aI x3), some (aN), none]) (st1 := [aN]) (σ1 := σ) (P := []) rfl trivial ?_
    refine XW.nullN B (off := 19) (tgt := 28) (by decide +kernel) (by decide) ?_
    refine XW.bk B [(28, .iconst (-1))] (by decide +kernel) (pc1 := 29) (ls1 := [some (aR 0 0), some (aI x1), some (aI x2), some (aI x3), some (aN), none]) (st1 := [aI (-1 : Int32)]) (σ1 := σ) (P := []) rfl trivial ?_
    obtain ⟨rfl, rfl⟩ := Prod.mk.inj (Option.some.inj hm)
    exact XW.iret B q (by decide +kernel)
  · rw [if_neg h1] at hm
    refine XW.callV B (M := M_X10_shelfAt) (t := 0) (j := 0) (cn := 1) (as := [aI x1]) (c_shelfAt1 h1 σ) (by decide) wV_X10_shelfAt wN_X10_shelfAt lk_X10_86 rfl rfl rfl (by decide) rfl (Nat.le_of_ble_eq_true rfl) (by decide +kernel) ?_
    refine XW.bk B [(5, .astore 4), (7, .aload 4)] (by decide +kernel) (pc1 := 9) (ls1 := [some (aR 0 0), some (aI x1), some (aI x2), some (aI x3), some (aR 28 x1.toNatClampNeg), none]) (st1 := [aR 28 x1.toNatClampNeg]) (σ1 := σ) (P := []) rfl trivial ?_
    refine XW.nullR B (off := 19) (by decide +kernel) ?_
    refine XW.bk B [(12, .iload_n 2)] (by decide +kernel) (pc1 := 13) (ls1 := [some (aR 0 0), some (aI x1), some (aI x2), some (aI x3), some (aR 28 x1.toNatClampNeg), none]) (st1 := [aI x2]) (σ1 := σ) (P := []) rfl trivial ?_
    refine XW.callS B (M := M_X10_isMinute) (as := [aI x2]) (c_X10_isMinute x2 σ rfl) (by decide) wS_X10_isMinute wN_X10_isMinute lk_X10_151 rfl (Nat.le_of_ble_eq_true rfl) (by decide +kernel) ?_
    refine XW.bb B [] (by decide +kernel) (pc1 := 16) (ls1 := [some (aR 0 0), some (aI x1), some (aI x2), some (aI x3), some (aR 28 x1.toNatClampNeg), none]) (st1 := [aI (m_X10_isMinute x2)]) (σ1 := σ) (P := []) (i := .ifCond .eq 12) (tgt := 28) (q := (m_X10_isMinute x2) = (0 : Int32)) rfl trivial (by decide +kernel) rfl (by decide) (fun h2 => ?_) (fun h2 => ?_)
    · rw [if_pos h2] at hm
      refine XW.bk B [(28, .iconst (-1))] (by decide +kernel) (pc1 := 29) (ls1 := [some (aR 0 0), some (aI x1), some (aI x2), some (aI x3), some (aR 28 x1.toNatClampNeg), none]) (st1 := [aI (-1 : Int32)]) (σ1 := σ) (P := []) rfl trivial ?_
      obtain ⟨rfl, rfl⟩ := Prod.mk.inj (Option.some.inj hm)
      exact XW.iret B q (by decide +kernel)
    · rw [if_neg h2] at hm
      refine XW.bk B [(19, .iload_n 3), (20, .iconst 0), (21, .iconst 2)] (by decide +kernel) (pc1 := 22) (ls1 := [some (aR 0 0), some (aI x1), some (aI x2), some (aI x3), some (aR 28 x1.toNatClampNeg), none]) (st1 := [aI (2 : Int32), aI (0 : Int32), aI x3]) (σ1 := σ) (P := []) rfl trivial ?_
      refine XW.callS B (M := M_X10_isWithin) (as := [aI x3, aI (0 : Int32), aI (2 : Int32)]) (c_X10_isWithin x3 (0 : Int32) (2 : Int32) σ rfl) (by decide) wS_X10_isWithin wN_X10_isWithin lk_X10_90 rfl (Nat.le_of_ble_eq_true rfl) (by decide +kernel) ?_
      refine XW.bn B [] (by decide +kernel) (pc1 := 25) (ls1 := [some (aR 0 0), some (aI x1), some (aI x2), some (aI x3), some (aR 28 x1.toNatClampNeg), none]) (st1 := [aI (m_X10_isWithin x3 (0 : Int32) (2 : Int32))]) (σ1 := σ) (P := []) (i := .ifCond .ne 5) (tgt := 30) (q := (m_X10_isWithin x3 (0 : Int32) (2 : Int32)) = (0 : Int32)) rfl trivial (by decide +kernel) rfl (by decide) (fun h3 => ?_) (fun h3 => ?_)
      · rw [if_pos h3] at hm
        refine XW.bk B [(28, .iconst (-1))] (by decide +kernel) (pc1 := 29) (ls1 := [some (aR 0 0), some (aI x1), some (aI x2), some (aI x3), some (aR 28 x1.toNatClampNeg), none]) (st1 := [aI (-1 : Int32)]) (σ1 := σ) (P := []) rfl trivial ?_
        obtain ⟨rfl, rfl⟩ := Prod.mk.inj (Option.some.inj hm)
        exact XW.iret B q (by decide +kernel)
      · rw [if_neg h3] at hm
        refine XW.bk B [(30, .aload_n 0), (31, .aload 4)] (by decide +kernel) (pc1 := 33) (ls1 := [some (aR 0 0), some (aI x1), some (aI x2), some (aI x3), some (aR 28 x1.toNatClampNeg), none]) (st1 := [aR 28 x1.toNatClampNeg, aR 0 0]) (σ1 := σ) (P := []) rfl trivial ?_
        refine XW.callV B (M := M_X10_walkRefused) (t := 0) (j := 0) (cn := 1) (as := [aR 28 x1.toNatClampNeg]) (c_X10_walkRefused x1.toNatClampNeg σ (sh_j h1) rfl) (by decide) wV_X10_walkRefused wN_X10_walkRefused lk_X10_154 rfl rfl rfl (by decide) rfl (Nat.le_of_ble_eq_true rfl) (by decide +kernel) ?_
        refine XW.bb B [(36, .istore 5), (38, .iload 5)] (by decide +kernel) (pc1 := 40) (ls1 := [some (aR 0 0), some (aI x1), some (aI x2), some (aI x3), some (aR 28 x1.toNatClampNeg), some (aI (m_X10_walkRefused x1.toNatClampNeg σ))]) (st1 := [aI (m_X10_walkRefused x1.toNatClampNeg σ)]) (σ1 := σ) (P := []) (i := .ifCond .eq 6) (tgt := 46) (q := (m_X10_walkRefused x1.toNatClampNeg σ) = (0 : Int32)) rfl trivial (by decide +kernel) rfl (by decide) (fun h4 => ?_) (fun h4 => ?_)
        · rw [if_pos h4] at hm
          refine XW.bn B [(46, .iload_n 3), (47, .iconst 2)] (by decide +kernel) (pc1 := 48) (ls1 := [some (aR 0 0), some (aI x1), some (aI x2), some (aI x3), some (aR 28 x1.toNatClampNeg), some (aI (m_X10_walkRefused x1.toNatClampNeg σ))]) (st1 := [aI (2 : Int32), aI x3]) (σ1 := σ) (P := []) (i := .if_icmp .ne 21) (tgt := 69) (q := x3 = (2 : Int32)) rfl trivial (by decide +kernel) rfl (by decide) (fun h5 => ?_) (fun h5 => ?_)
          · rw [if_pos h5] at hm
            refine XW.bk B [(51, .aload_n 0), (52, .getfield 47), (55, .aload 4)] (by decide +kernel) (pc1 := 57) (ls1 := [some (aR 0 0), some (aI x1), some (aI x2), some (aI x3), some (aR 28 x1.toNatClampNeg), some (aI (m_X10_walkRefused x1.toNatClampNeg σ))]) (st1 := [aR 28 x1.toNatClampNeg, aR 17 0]) (σ1 := σ) (P := []) rfl trivial ?_
            obtain ⟨q6, hq6, hm⟩ := obind_eq hm
            refine XW.callV B (M := M_X9_passes) (t := 17) (j := 0) (cn := 1) (as := [aR 28 x1.toNatClampNeg]) (c_X9_passes x1.toNatClampNeg σ (sh_j h1) hq6) (by decide) wV_X9_passes wN_X9_passes lk_X10_158 rfl rfl rfl (by decide) rfl (Nat.le_of_ble_eq_true rfl) (by decide +kernel) ?_
            refine XW.bb B [] (by decide +kernel) (pc1 := 60) (ls1 := [some (aR 0 0), some (aI x1), some (aI x2), some (aI x3), some (aR 28 x1.toNatClampNeg), some (aI (m_X10_walkRefused x1.toNatClampNeg σ))]) (st1 := [aI q6]) (σ1 := σ) (P := []) (i := .ifCond .eq 7) (tgt := 67) (q := q6 = (0 : Int32)) rfl trivial (by decide +kernel) rfl (by decide) (fun h7 => ?_) (fun h7 => ?_)
            · rw [if_pos h7] at hm
              refine XW.bk B [(67, .iconst 0)] (by decide +kernel) (pc1 := 68) (ls1 := [some (aR 0 0), some (aI x1), some (aI x2), some (aI x3), some (aR 28 x1.toNatClampNeg), some (aI (m_X10_walkRefused x1.toNatClampNeg σ))]) (st1 := [aI (0 : Int32)]) (σ1 := σ) (P := []) rfl trivial ?_
              obtain ⟨rfl, rfl⟩ := Prod.mk.inj (Option.some.inj hm)
              exact XW.iret B q (by decide +kernel)
            · rw [if_neg h7] at hm
              refine XW.bk B [(63, .iconst 1), (64, .goto 4)] (by decide +kernel) (pc1 := 68) (ls1 := [some (aR 0 0), some (aI x1), some (aI x2), some (aI x3), some (aR 28 x1.toNatClampNeg), some (aI (m_X10_walkRefused x1.toNatClampNeg σ))]) (st1 := [aI (1 : Int32)]) (σ1 := σ) (P := []) rfl trivial ?_
              obtain ⟨rfl, rfl⟩ := Prod.mk.inj (Option.some.inj hm)
              exact XW.iret B q (by decide +kernel)
          · rw [if_neg h5] at hm
            refine XW.bk B [(69, .aload_n 0), (70, .getfield 38)] (by decide +kernel) (pc1 := 73) (ls1 := [some (aR 0 0), some (aI x1), some (aI x2), some (aI x3), some (aR 28 x1.toNatClampNeg), some (aI (m_X10_walkRefused x1.toNatClampNeg σ))]) (st1 := [aR 14 0]) (σ1 := σ) (P := []) rfl trivial ?_
            obtain ⟨q8, hq8, hm⟩ := bnT_eq hm
            refine XW.callV B (M := M_X7_supposeNow) (t := 14) (j := 0) (cn := 1) (as := []) (c_X7_supposeNow σ hq8) (by decide) wV_X7_supposeNow wN_X7_supposeNow lk_X10_145 rfl rfl rfl (by decide) rfl (Nat.le_of_ble_eq_true rfl) (by decide +kernel) ?_
            refine XW.bk B [(76, .aload_n 0), (77, .getfield 47), (80, .aload 4), (82, .iconst 0), (83, .iload_n 2)] (by decide +kernel) (pc1 := 84) (ls1 := [some (aR 0 0), some (aI x1), some (aI x2), some (aI x3), some (aR 28 x1.toNatClampNeg), some (aI (m_X10_walkRefused x1.toNatClampNeg σ))]) (st1 := [aI x2, aI (0 : Int32), aR 28 x1.toNatClampNeg, aR 17 0]) (σ1 := q8) (P := []) rfl trivial ?_
            obtain ⟨q9, hq9, hm⟩ := obind_eq hm
            refine XW.callV B (M := M_X9_follow) (t := 17) (j := 0) (cn := 1) (as := [aR 28 x1.toNatClampNeg, aI (0 : Int32), aI x2]) (c_X9_follow x1.toNatClampNeg (0 : Int32) x2 q8 (sh_j h1) hq9) (by decide) wV_X9_follow wN_X9_follow lk_X10_162 rfl rfl rfl (by decide) rfl (Nat.le_of_ble_eq_true rfl) (by decide +kernel) ?_
            refine XW.bn B [(87, .iload_n 3)] (by decide +kernel) (pc1 := 88) (ls1 := [some (aR 0 0), some (aI x1), some (aI x2), some (aI x3), some (aR 28 x1.toNatClampNeg), some (aI (m_X10_walkRefused x1.toNatClampNeg σ))]) (st1 := [aI x3]) (σ1 := q9) (P := []) (i := .ifCond .ne 13) (tgt := 101) (q := x3 = (0 : Int32)) rfl trivial (by decide +kernel) rfl (by decide) (fun h10 => ?_) (fun h10 => ?_)
            · rw [if_pos h10] at hm
              refine XW.bk B [(91, .aload_n 0), (92, .getfield 47), (95, .getfield 166), (98, .goto 10)] (by decide +kernel) (pc1 := 108) (ls1 := [some (aR 0 0), some (aI x1), some (aI x2), some (aI x3), some (aR 28 x1.toNatClampNeg), some (aI (m_X10_walkRefused x1.toNatClampNeg σ))]) (st1 := [aI (q9.1 17 0 4)]) (σ1 := q9) (P := []) rfl trivial ?_
              obtain ⟨rfl, rfl⟩ := Prod.mk.inj (Option.some.inj hm)
              exact XW.iret B q (by decide +kernel)
            · rw [if_neg h10] at hm
              refine XW.bk B [(101, .aload_n 0), (102, .getfield 47), (105, .getfield 170)] (by decide +kernel) (pc1 := 108) (ls1 := [some (aR 0 0), some (aI x1), some (aI x2), some (aI x3), some (aR 28 x1.toNatClampNeg), some (aI (m_X10_walkRefused x1.toNatClampNeg σ))]) (st1 := [aI (q9.1 17 0 5)]) (σ1 := q9) (P := []) rfl trivial ?_
              obtain ⟨rfl, rfl⟩ := Prod.mk.inj (Option.some.inj hm)
              exact XW.iret B q (by decide +kernel)
        · rw [if_neg h4] at hm
          refine XW.bk B [(43, .iload 5)] (by decide +kernel) (pc1 := 45) (ls1 := [some (aR 0 0), some (aI x1), some (aI x2), some (aI x3), some (aR 28 x1.toNatClampNeg), some (aI (m_X10_walkRefused x1.toNatClampNeg σ))]) (st1 := [aI (m_X10_walkRefused x1.toNatClampNeg σ)]) (σ1 := σ) (P := []) rfl trivial ?_
          obtain ⟨rfl, rfl⟩ := Prod.mk.inj (Option.some.inj hm)
          exact XW.iret B q (by decide +kernel)

def m_X10_start (x1 : Int32) (x2 : Int32) (σ : SS) : Option (Int32 × SS) :=
  if x1 < 0 ∨ ¬ x1 < 6 then
    some ((-1 : Int32), σ)
  else
  if (m_X10_isWithin x2 (0 : Int32) (1 : Int32)) = (0 : Int32) then
    some ((-1 : Int32), σ)
  else
  if (m_X10_walkRefused x1.toNatClampNeg σ) = (0 : Int32) then
    Option.bind (m_X9_bestStart x1.toNatClampNeg σ) (fun q4 =>
    if x2 = (0 : Int32) then
      some (q4.1, q4.2)
    else
    some ((q4.2.1 17 0 5), q4.2))
  else
  some ((m_X10_walkRefused x1.toNatClampNeg σ), σ)
set_option maxRecDepth 100000 in
set_option maxHeartbeats 4000000 in
theorem c_X10_start (x1 : Int32) (x2 : Int32) (σ : SS) {r : Int32} {σ' : SS} (hm : m_X10_start x1 x2 σ = some (r, σ')) : XM LC 7 M_X10_start [aR 0 0, aI x1, aI x2] σ (some (aI r)) σ' := by
  refine XM.of (K := K10) (by decide) (by decide +kernel) K10_ok (Nat.le_of_ble_eq_true rfl) (fun Γ B q => ?_)
  unfold m_X10_start at hm
  refine XW.bk B [(0, .aload_n 0), (1, .iload_n 1)] (by decide +kernel) (pc1 := 2) (ls1 := [some (aR 0 0), some (aI x1), some (aI x2), none, none, none]) (st1 := [aI x1, aR 0 0]) (σ1 := σ) (P := []) rfl trivial ?_
  by_cases h1 : x1 < 0 ∨ ¬ x1 < 6
  · rw [if_pos h1] at hm
    refine XW.callV B (M := M_X10_shelfAt) (t := 0) (j := 0) (cn := 1) (as := [aI x1]) (c_shelfAt0 h1 σ) (by decide) wV_X10_shelfAt wN_X10_shelfAt lk_X10_86 rfl rfl rfl (by decide) rfl (Nat.le_of_ble_eq_true rfl) (by decide +kernel) ?_
    refine XW.bk B [(5, .astore_n 3), (6, .aload_n 3)] (by decide +kernel) (pc1 := 7) (ls1 := [some (aR 0 0), some (aI x1), some (aI x2), some (aN), none, none]) (st1 := [aN]) (σ1 := σ) (P := []) rfl trivial ?_
    refine XW.nullN B (off := 12) (tgt := 19) (by decide +kernel) (by decide) ?_
    refine XW.bk B [(19, .iconst (-1))] (by decide +kernel) (pc1 := 20) (ls1 := [some (aR 0 0), some (aI x1), some (aI x2), some (aN), none, none]) (st1 := [aI (-1 : Int32)]) (σ1 := σ) (P := []) rfl trivial ?_
    obtain ⟨rfl, rfl⟩ := Prod.mk.inj (Option.some.inj hm)
    exact XW.iret B q (by decide +kernel)
  · rw [if_neg h1] at hm
    refine XW.callV B (M := M_X10_shelfAt) (t := 0) (j := 0) (cn := 1) (as := [aI x1]) (c_shelfAt1 h1 σ) (by decide) wV_X10_shelfAt wN_X10_shelfAt lk_X10_86 rfl rfl rfl (by decide) rfl (Nat.le_of_ble_eq_true rfl) (by decide +kernel) ?_
    refine XW.bk B [(5, .astore_n 3), (6, .aload_n 3)] (by decide +kernel) (pc1 := 7) (ls1 := [some (aR 0 0), some (aI x1), some (aI x2), some (aR 28 x1.toNatClampNeg), none, none]) (st1 := [aR 28 x1.toNatClampNeg]) (σ1 := σ) (P := []) rfl trivial ?_
    refine XW.nullR B (off := 12) (by decide +kernel) ?_
    refine XW.bk B [(10, .iload_n 2), (11, .iconst 0), (12, .iconst 1)] (by decide +kernel) (pc1 := 13) (ls1 := [some (aR 0 0), some (aI x1), some (aI x2), some (aR 28 x1.toNatClampNeg), none, none]) (st1 := [aI (1 : Int32), aI (0 : Int32), aI x2]) (σ1 := σ) (P := []) rfl trivial ?_
    refine XW.callS B (M := M_X10_isWithin) (as := [aI x2, aI (0 : Int32), aI (1 : Int32)]) (c_X10_isWithin x2 (0 : Int32) (1 : Int32) σ rfl) (by decide) wS_X10_isWithin wN_X10_isWithin lk_X10_90 rfl (Nat.le_of_ble_eq_true rfl) (by decide +kernel) ?_
    refine XW.bn B [] (by decide +kernel) (pc1 := 16) (ls1 := [some (aR 0 0), some (aI x1), some (aI x2), some (aR 28 x1.toNatClampNeg), none, none]) (st1 := [aI (m_X10_isWithin x2 (0 : Int32) (1 : Int32))]) (σ1 := σ) (P := []) (i := .ifCond .ne 5) (tgt := 21) (q := (m_X10_isWithin x2 (0 : Int32) (1 : Int32)) = (0 : Int32)) rfl trivial (by decide +kernel) rfl (by decide) (fun h2 => ?_) (fun h2 => ?_)
    · rw [if_pos h2] at hm
      refine XW.bk B [(19, .iconst (-1))] (by decide +kernel) (pc1 := 20) (ls1 := [some (aR 0 0), some (aI x1), some (aI x2), some (aR 28 x1.toNatClampNeg), none, none]) (st1 := [aI (-1 : Int32)]) (σ1 := σ) (P := []) rfl trivial ?_
      obtain ⟨rfl, rfl⟩ := Prod.mk.inj (Option.some.inj hm)
      exact XW.iret B q (by decide +kernel)
    · rw [if_neg h2] at hm
      refine XW.bk B [(21, .aload_n 0), (22, .aload_n 3)] (by decide +kernel) (pc1 := 23) (ls1 := [some (aR 0 0), some (aI x1), some (aI x2), some (aR 28 x1.toNatClampNeg), none, none]) (st1 := [aR 28 x1.toNatClampNeg, aR 0 0]) (σ1 := σ) (P := []) rfl trivial ?_
      refine XW.callV B (M := M_X10_walkRefused) (t := 0) (j := 0) (cn := 1) (as := [aR 28 x1.toNatClampNeg]) (c_X10_walkRefused x1.toNatClampNeg σ (sh_j h1) rfl) (by decide) wV_X10_walkRefused wN_X10_walkRefused lk_X10_154 rfl rfl rfl (by decide) rfl (Nat.le_of_ble_eq_true rfl) (by decide +kernel) ?_
      refine XW.bb B [(26, .istore 4), (28, .iload 4)] (by decide +kernel) (pc1 := 30) (ls1 := [some (aR 0 0), some (aI x1), some (aI x2), some (aR 28 x1.toNatClampNeg), some (aI (m_X10_walkRefused x1.toNatClampNeg σ)), none]) (st1 := [aI (m_X10_walkRefused x1.toNatClampNeg σ)]) (σ1 := σ) (P := []) (i := .ifCond .eq 6) (tgt := 36) (q := (m_X10_walkRefused x1.toNatClampNeg σ) = (0 : Int32)) rfl trivial (by decide +kernel) rfl (by decide) (fun h3 => ?_) (fun h3 => ?_)
      · rw [if_pos h3] at hm
        refine XW.bk B [(36, .aload_n 0), (37, .getfield 47), (40, .aload_n 3)] (by decide +kernel) (pc1 := 41) (ls1 := [some (aR 0 0), some (aI x1), some (aI x2), some (aR 28 x1.toNatClampNeg), some (aI (m_X10_walkRefused x1.toNatClampNeg σ)), none]) (st1 := [aR 28 x1.toNatClampNeg, aR 17 0]) (σ1 := σ) (P := []) rfl trivial ?_
        obtain ⟨q4, hq4, hm⟩ := obind_eq hm
        refine XW.callV B (M := M_X9_bestStart) (t := 17) (j := 0) (cn := 1) (as := [aR 28 x1.toNatClampNeg]) (c_X9_bestStart x1.toNatClampNeg σ (sh_j h1) hq4) (by decide) wV_X9_bestStart wN_X9_bestStart lk_X10_173 rfl rfl rfl (by decide) rfl (Nat.le_of_ble_eq_true rfl) (by decide +kernel) ?_
        refine XW.bn B [(44, .istore 5), (46, .iload_n 2)] (by decide +kernel) (pc1 := 47) (ls1 := [some (aR 0 0), some (aI x1), some (aI x2), some (aR 28 x1.toNatClampNeg), some (aI (m_X10_walkRefused x1.toNatClampNeg σ)), some (aI q4.1)]) (st1 := [aI x2]) (σ1 := q4.2) (P := []) (i := .ifCond .ne 8) (tgt := 55) (q := x2 = (0 : Int32)) rfl trivial (by decide +kernel) rfl (by decide) (fun h5 => ?_) (fun h5 => ?_)
        · rw [if_pos h5] at hm
          refine XW.bk B [(50, .iload 5), (52, .goto 10)] (by decide +kernel) (pc1 := 62) (ls1 := [some (aR 0 0), some (aI x1), some (aI x2), some (aR 28 x1.toNatClampNeg), some (aI (m_X10_walkRefused x1.toNatClampNeg σ)), some (aI q4.1)]) (st1 := [aI q4.1]) (σ1 := q4.2) (P := []) rfl trivial ?_
          obtain ⟨rfl, rfl⟩ := Prod.mk.inj (Option.some.inj hm)
          exact XW.iret B q (by decide +kernel)
        · rw [if_neg h5] at hm
          refine XW.bk B [(55, .aload_n 0), (56, .getfield 47), (59, .getfield 170)] (by decide +kernel) (pc1 := 62) (ls1 := [some (aR 0 0), some (aI x1), some (aI x2), some (aR 28 x1.toNatClampNeg), some (aI (m_X10_walkRefused x1.toNatClampNeg σ)), some (aI q4.1)]) (st1 := [aI (q4.2.1 17 0 5)]) (σ1 := q4.2) (P := []) rfl trivial ?_
          obtain ⟨rfl, rfl⟩ := Prod.mk.inj (Option.some.inj hm)
          exact XW.iret B q (by decide +kernel)
      · rw [if_neg h3] at hm
        refine XW.bk B [(33, .iload 4)] (by decide +kernel) (pc1 := 35) (ls1 := [some (aR 0 0), some (aI x1), some (aI x2), some (aR 28 x1.toNatClampNeg), some (aI (m_X10_walkRefused x1.toNatClampNeg σ)), none]) (st1 := [aI (m_X10_walkRefused x1.toNatClampNeg σ)]) (σ1 := σ) (P := []) rfl trivial ?_
        obtain ⟨rfl, rfl⟩ := Prod.mk.inj (Option.some.inj hm)
        exact XW.iret B q (by decide +kernel)

def m_X10_hold (x1 : Int32) (x2 : Int32) (σ : SS) : Option (Int64 × SS) :=
  if (m_X10_isMinute x1) = (0 : Int32) then
    some ((-9223372036854775808 : Int64), σ)
  else
  if (m_X10_isWithin x2 (0 : Int32) (2 : Int32)) = (0 : Int32) then
    some ((-9223372036854775808 : Int64), σ)
  else
  if (σ.1 1 0 1) = (0 : Int32) then
    some ((-5 : Int64), σ)
  else
  Option.bind (m_X9_lookAhead x1 σ) (fun q4 =>
  if x2 = (0 : Int32) then
    Option.bind (m_X9_bestHold q4) (fun q6 =>
    some (q6, q4))
  else
  Option.bind (m_X9_leastAhead (0 : Int32) (-1 : Int32) q4) (fun q7 =>
  if x2 = (1 : Int32) then
    some (q7.toInt64, q4)
  else
  if (m_X7_isTooMuch q7 q4) = (0 : Int32) then
    some ((0 : Int64), q4)
  else
  some ((1 : Int64), q4)))
set_option maxRecDepth 100000 in
set_option maxHeartbeats 4000000 in
theorem c_X10_hold (x1 : Int32) (x2 : Int32) (σ : SS) {r : Int64} {σ' : SS} (hm : m_X10_hold x1 x2 σ = some (r, σ')) : XM LC 6 M_X10_hold [aR 0 0, aI x1, aI x2] σ (some (aJ r)) σ' := by
  refine XM.of (K := K10) (by decide) (by decide +kernel) K10_ok (Nat.le_of_ble_eq_true rfl) (fun Γ B q => ?_)
  unfold m_X10_hold at hm
  refine XW.bk B [(0, .iload_n 1)] (by decide +kernel) (pc1 := 1) (ls1 := [some (aR 0 0), some (aI x1), some (aI x2), none]) (st1 := [aI x1]) (σ1 := σ) (P := []) rfl trivial ?_
  refine XW.callS B (M := M_X10_isMinute) (as := [aI x1]) (c_X10_isMinute x1 σ rfl) (by decide) wS_X10_isMinute wN_X10_isMinute lk_X10_151 rfl (Nat.le_of_ble_eq_true rfl) (by decide +kernel) ?_
  refine XW.bb B [] (by decide +kernel) (pc1 := 4) (ls1 := [some (aR 0 0), some (aI x1), some (aI x2), none]) (st1 := [aI (m_X10_isMinute x1)]) (σ1 := σ) (P := []) (i := .ifCond .eq 12) (tgt := 16) (q := (m_X10_isMinute x1) = (0 : Int32)) rfl trivial (by decide +kernel) rfl (by decide) (fun h1 => ?_) (fun h1 => ?_)
  · rw [if_pos h1] at hm
    refine XW.bk B [(16, .ldc2_w 178)] (by decide +kernel) (pc1 := 19) (ls1 := [some (aR 0 0), some (aI x1), some (aI x2), none]) (st1 := [aJ (-9223372036854775808 : Int64)]) (σ1 := σ) (P := []) rfl trivial ?_
    obtain ⟨rfl, rfl⟩ := Prod.mk.inj (Option.some.inj hm)
    exact XW.lret B q (by decide +kernel)
  · rw [if_neg h1] at hm
    refine XW.bk B [(7, .iload_n 2), (8, .iconst 0), (9, .iconst 2)] (by decide +kernel) (pc1 := 10) (ls1 := [some (aR 0 0), some (aI x1), some (aI x2), none]) (st1 := [aI (2 : Int32), aI (0 : Int32), aI x2]) (σ1 := σ) (P := []) rfl trivial ?_
    refine XW.callS B (M := M_X10_isWithin) (as := [aI x2, aI (0 : Int32), aI (2 : Int32)]) (c_X10_isWithin x2 (0 : Int32) (2 : Int32) σ rfl) (by decide) wS_X10_isWithin wN_X10_isWithin lk_X10_90 rfl (Nat.le_of_ble_eq_true rfl) (by decide +kernel) ?_
    refine XW.bn B [] (by decide +kernel) (pc1 := 13) (ls1 := [some (aR 0 0), some (aI x1), some (aI x2), none]) (st1 := [aI (m_X10_isWithin x2 (0 : Int32) (2 : Int32))]) (σ1 := σ) (P := []) (i := .ifCond .ne 7) (tgt := 20) (q := (m_X10_isWithin x2 (0 : Int32) (2 : Int32)) = (0 : Int32)) rfl trivial (by decide +kernel) rfl (by decide) (fun h2 => ?_) (fun h2 => ?_)
    · rw [if_pos h2] at hm
      refine XW.bk B [(16, .ldc2_w 178)] (by decide +kernel) (pc1 := 19) (ls1 := [some (aR 0 0), some (aI x1), some (aI x2), none]) (st1 := [aJ (-9223372036854775808 : Int64)]) (σ1 := σ) (P := []) rfl trivial ?_
      obtain ⟨rfl, rfl⟩ := Prod.mk.inj (Option.some.inj hm)
      exact XW.lret B q (by decide +kernel)
    · rw [if_neg h2] at hm
      refine XW.bn B [(20, .aload_n 0), (21, .getfield 23), (24, .getfield 180)] (by decide +kernel) (pc1 := 27) (ls1 := [some (aR 0 0), some (aI x1), some (aI x2), none]) (st1 := [aI (σ.1 1 0 1)]) (σ1 := σ) (P := []) (i := .ifCond .ne 7) (tgt := 34) (q := (σ.1 1 0 1) = (0 : Int32)) rfl trivial (by decide +kernel) rfl (by decide) (fun h3 => ?_) (fun h3 => ?_)
      · rw [if_pos h3] at hm
        refine XW.bk B [(30, .ldc2_w 183)] (by decide +kernel) (pc1 := 33) (ls1 := [some (aR 0 0), some (aI x1), some (aI x2), none]) (st1 := [aJ (-5 : Int64)]) (σ1 := σ) (P := []) rfl trivial ?_
        obtain ⟨rfl, rfl⟩ := Prod.mk.inj (Option.some.inj hm)
        exact XW.lret B q (by decide +kernel)
      · rw [if_neg h3] at hm
        refine XW.bk B [(34, .aload_n 0), (35, .getfield 47), (38, .iload_n 1)] (by decide +kernel) (pc1 := 39) (ls1 := [some (aR 0 0), some (aI x1), some (aI x2), none]) (st1 := [aI x1, aR 17 0]) (σ1 := σ) (P := []) rfl trivial ?_
        obtain ⟨q4, hq4, hm⟩ := obind_eq hm
        refine XW.callV B (M := M_X9_lookAhead) (t := 17) (j := 0) (cn := 1) (as := [aI x1]) (c_X9_lookAhead x1 σ hq4) (by decide) wV_X9_lookAhead wN_X9_lookAhead lk_X10_185 rfl rfl rfl (by decide) rfl (Nat.le_of_ble_eq_true rfl) (by decide +kernel) ?_
        refine XW.bn B [(42, .iload_n 2)] (by decide +kernel) (pc1 := 43) (ls1 := [some (aR 0 0), some (aI x1), some (aI x2), none]) (st1 := [aI x2]) (σ1 := q4) (P := []) (i := .ifCond .ne 11) (tgt := 54) (q := x2 = (0 : Int32)) rfl trivial (by decide +kernel) rfl (by decide) (fun h5 => ?_) (fun h5 => ?_)
        · rw [if_pos h5] at hm
          refine XW.bk B [(46, .aload_n 0), (47, .getfield 47)] (by decide +kernel) (pc1 := 50) (ls1 := [some (aR 0 0), some (aI x1), some (aI x2), none]) (st1 := [aR 17 0]) (σ1 := q4) (P := []) rfl trivial ?_
          obtain ⟨q6, hq6, hm⟩ := obind_eq hm
          refine XW.callV B (M := M_X9_bestHold) (t := 17) (j := 0) (cn := 1) (as := []) (c_X9_bestHold q4 hq6) (by decide) wV_X9_bestHold wN_X9_bestHold lk_X10_189 rfl rfl rfl (by decide) rfl (Nat.le_of_ble_eq_true rfl) (by decide +kernel) ?_
          obtain ⟨rfl, rfl⟩ := Prod.mk.inj (Option.some.inj hm)
          exact XW.lret B q (by decide +kernel)
        · rw [if_neg h5] at hm
          refine XW.bk B [(54, .aload_n 0), (55, .getfield 47), (58, .iconst 0), (59, .iconst (-1))] (by decide +kernel) (pc1 := 60) (ls1 := [some (aR 0 0), some (aI x1), some (aI x2), none]) (st1 := [aI (-1 : Int32), aI (0 : Int32), aR 17 0]) (σ1 := q4) (P := []) rfl trivial ?_
          obtain ⟨q7, hq7, hm⟩ := obind_eq hm
          refine XW.callV B (M := M_X9_leastAhead) (t := 17) (j := 0) (cn := 1) (as := [aI (0 : Int32), aI (-1 : Int32)]) (c_X9_leastAhead (0 : Int32) (-1 : Int32) q4 hq7) (by decide) wV_X9_leastAhead wN_X9_leastAhead lk_X10_193 rfl rfl rfl (by decide) rfl (Nat.le_of_ble_eq_true rfl) (by decide +kernel) ?_
          refine XW.bn B [(63, .istore_n 3), (64, .iload_n 2), (65, .iconst 1)] (by decide +kernel) (pc1 := 66) (ls1 := [some (aR 0 0), some (aI x1), some (aI x2), some (aI q7)]) (st1 := [aI (1 : Int32), aI x2]) (σ1 := q4) (P := []) (i := .if_icmp .ne 6) (tgt := 72) (q := x2 = (1 : Int32)) rfl trivial (by decide +kernel) rfl (by decide) (fun h8 => ?_) (fun h8 => ?_)
          · rw [if_pos h8] at hm
            refine XW.bk B [(69, .iload_n 3), (70, .i2l)] (by decide +kernel) (pc1 := 71) (ls1 := [some (aR 0 0), some (aI x1), some (aI x2), some (aI q7)]) (st1 := [aJ q7.toInt64]) (σ1 := q4) (P := []) rfl trivial ?_
            obtain ⟨rfl, rfl⟩ := Prod.mk.inj (Option.some.inj hm)
            exact XW.lret B q (by decide +kernel)
          · rw [if_neg h8] at hm
            refine XW.bk B [(72, .aload_n 0), (73, .getfield 38), (76, .iload_n 3)] (by decide +kernel) (pc1 := 77) (ls1 := [some (aR 0 0), some (aI x1), some (aI x2), some (aI q7)]) (st1 := [aI q7, aR 14 0]) (σ1 := q4) (P := []) rfl trivial ?_
            refine XW.callV B (M := M_X7_isTooMuch) (t := 14) (j := 0) (cn := 1) (as := [aI q7]) (c_X7_isTooMuch q7 q4 rfl) (by decide) wV_X7_isTooMuch wN_X7_isTooMuch lk_X10_196 rfl rfl rfl (by decide) rfl (Nat.le_of_ble_eq_true rfl) (by decide +kernel) ?_
            refine XW.bb B [] (by decide +kernel) (pc1 := 80) (ls1 := [some (aR 0 0), some (aI x1), some (aI x2), some (aI q7)]) (st1 := [aI (m_X7_isTooMuch q7 q4)]) (σ1 := q4) (P := []) (i := .ifCond .eq 7) (tgt := 87) (q := (m_X7_isTooMuch q7 q4) = (0 : Int32)) rfl trivial (by decide +kernel) rfl (by decide) (fun h9 => ?_) (fun h9 => ?_)
            · rw [if_pos h9] at hm
              refine XW.bk B [(87, .lconst 0)] (by decide +kernel) (pc1 := 88) (ls1 := [some (aR 0 0), some (aI x1), some (aI x2), some (aI q7)]) (st1 := [aJ (0 : Int64)]) (σ1 := q4) (P := []) rfl trivial ?_
              obtain ⟨rfl, rfl⟩ := Prod.mk.inj (Option.some.inj hm)
              exact XW.lret B q (by decide +kernel)
            · rw [if_neg h9] at hm
              refine XW.bk B [(83, .lconst 1), (84, .goto 4)] (by decide +kernel) (pc1 := 88) (ls1 := [some (aR 0 0), some (aI x1), some (aI x2), some (aI q7)]) (st1 := [aJ (1 : Int64)]) (σ1 := q4) (P := []) rfl trivial ?_
              obtain ⟨rfl, rfl⟩ := Prod.mk.inj (Option.some.inj hm)
              exact XW.lret B q (by decide +kernel)

def m_X10_soonest (x1 : Int32) (σ : SS) : Option (Int32 × SS) :=
  if (m_X10_isMinute x1) = (0 : Int32) then
    some ((-1 : Int32), σ)
  else
  if (σ.1 1 0 1) = (0 : Int32) then
    some ((-5 : Int32), σ)
  else
  Option.bind (m_X9_fewestMinutes x1 σ) (fun q3 =>
  some (q3.1, q3.2))
set_option maxRecDepth 100000 in
set_option maxHeartbeats 4000000 in
theorem c_X10_soonest (x1 : Int32) (σ : SS) {r : Int32} {σ' : SS} (hm : m_X10_soonest x1 σ = some (r, σ')) : XM LC 7 M_X10_soonest [aR 0 0, aI x1] σ (some (aI r)) σ' := by
  refine XM.of (K := K10) (by decide) (by decide +kernel) K10_ok (Nat.le_of_ble_eq_true rfl) (fun Γ B q => ?_)
  unfold m_X10_soonest at hm
  refine XW.bk B [(0, .iload_n 1)] (by decide +kernel) (pc1 := 1) (ls1 := [some (aR 0 0), some (aI x1)]) (st1 := [aI x1]) (σ1 := σ) (P := []) rfl trivial ?_
  refine XW.callS B (M := M_X10_isMinute) (as := [aI x1]) (c_X10_isMinute x1 σ rfl) (by decide) wS_X10_isMinute wN_X10_isMinute lk_X10_151 rfl (Nat.le_of_ble_eq_true rfl) (by decide +kernel) ?_
  refine XW.bn B [] (by decide +kernel) (pc1 := 4) (ls1 := [some (aR 0 0), some (aI x1)]) (st1 := [aI (m_X10_isMinute x1)]) (σ1 := σ) (P := []) (i := .ifCond .ne 5) (tgt := 9) (q := (m_X10_isMinute x1) = (0 : Int32)) rfl trivial (by decide +kernel) rfl (by decide) (fun h1 => ?_) (fun h1 => ?_)
  · rw [if_pos h1] at hm
    refine XW.bk B [(7, .iconst (-1))] (by decide +kernel) (pc1 := 8) (ls1 := [some (aR 0 0), some (aI x1)]) (st1 := [aI (-1 : Int32)]) (σ1 := σ) (P := []) rfl trivial ?_
    obtain ⟨rfl, rfl⟩ := Prod.mk.inj (Option.some.inj hm)
    exact XW.iret B q (by decide +kernel)
  · rw [if_neg h1] at hm
    refine XW.bn B [(9, .aload_n 0), (10, .getfield 23), (13, .getfield 180)] (by decide +kernel) (pc1 := 16) (ls1 := [some (aR 0 0), some (aI x1)]) (st1 := [aI (σ.1 1 0 1)]) (σ1 := σ) (P := []) (i := .ifCond .ne 8) (tgt := 24) (q := (σ.1 1 0 1) = (0 : Int32)) rfl trivial (by decide +kernel) rfl (by decide) (fun h2 => ?_) (fun h2 => ?_)
    · rw [if_pos h2] at hm
      refine XW.bk B [(19, .bipush (-5)), (21, .goto 11)] (by decide +kernel) (pc1 := 32) (ls1 := [some (aR 0 0), some (aI x1)]) (st1 := [aI (-5 : Int32)]) (σ1 := σ) (P := []) rfl trivial ?_
      obtain ⟨rfl, rfl⟩ := Prod.mk.inj (Option.some.inj hm)
      exact XW.iret B q (by decide +kernel)
    · rw [if_neg h2] at hm
      refine XW.bk B [(24, .aload_n 0), (25, .getfield 47), (28, .iload_n 1)] (by decide +kernel) (pc1 := 29) (ls1 := [some (aR 0 0), some (aI x1)]) (st1 := [aI x1, aR 17 0]) (σ1 := σ) (P := []) rfl trivial ?_
      obtain ⟨q3, hq3, hm⟩ := obind_eq hm
      refine XW.callV B (M := M_X9_fewestMinutes) (t := 17) (j := 0) (cn := 1) (as := [aI x1]) (c_X9_fewestMinutes x1 σ hq3) (by decide) wV_X9_fewestMinutes wN_X9_fewestMinutes lk_X10_199 rfl rfl rfl (by decide) rfl (Nat.le_of_ble_eq_true rfl) (by decide +kernel) ?_
      obtain ⟨rfl, rfl⟩ := Prod.mk.inj (Option.some.inj hm)
      exact XW.iret B q (by decide +kernel)

def m_X10_safest (x1 : Int32) (x2 : Int32) (σ : SS) : Option (Int32 × SS) :=
  if (m_X10_isMinute x1) = (0 : Int32) then
    some ((-1 : Int32), σ)
  else
  if (m_X10_isWithin x2 (0 : Int32) (60 : Int32)) = (0 : Int32) then
    some ((-1 : Int32), σ)
  else
  if (σ.1 1 0 1) = (0 : Int32) then
    some ((-5 : Int32), σ)
  else
  Option.bind (m_X9_leastWithin x1 x2 σ) (fun q4 =>
  some (q4.1, q4.2))
set_option maxRecDepth 100000 in
set_option maxHeartbeats 4000000 in
theorem c_X10_safest (x1 : Int32) (x2 : Int32) (σ : SS) {r : Int32} {σ' : SS} (hm : m_X10_safest x1 x2 σ = some (r, σ')) : XM LC 7 M_X10_safest [aR 0 0, aI x1, aI x2] σ (some (aI r)) σ' := by
  refine XM.of (K := K10) (by decide) (by decide +kernel) K10_ok (Nat.le_of_ble_eq_true rfl) (fun Γ B q => ?_)
  unfold m_X10_safest at hm
  refine XW.bk B [(0, .iload_n 1)] (by decide +kernel) (pc1 := 1) (ls1 := [some (aR 0 0), some (aI x1), some (aI x2)]) (st1 := [aI x1]) (σ1 := σ) (P := []) rfl trivial ?_
  refine XW.callS B (M := M_X10_isMinute) (as := [aI x1]) (c_X10_isMinute x1 σ rfl) (by decide) wS_X10_isMinute wN_X10_isMinute lk_X10_151 rfl (Nat.le_of_ble_eq_true rfl) (by decide +kernel) ?_
  refine XW.bb B [] (by decide +kernel) (pc1 := 4) (ls1 := [some (aR 0 0), some (aI x1), some (aI x2)]) (st1 := [aI (m_X10_isMinute x1)]) (σ1 := σ) (P := []) (i := .ifCond .eq 13) (tgt := 17) (q := (m_X10_isMinute x1) = (0 : Int32)) rfl trivial (by decide +kernel) rfl (by decide) (fun h1 => ?_) (fun h1 => ?_)
  · rw [if_pos h1] at hm
    refine XW.bk B [(17, .iconst (-1))] (by decide +kernel) (pc1 := 18) (ls1 := [some (aR 0 0), some (aI x1), some (aI x2)]) (st1 := [aI (-1 : Int32)]) (σ1 := σ) (P := []) rfl trivial ?_
    obtain ⟨rfl, rfl⟩ := Prod.mk.inj (Option.some.inj hm)
    exact XW.iret B q (by decide +kernel)
  · rw [if_neg h1] at hm
    refine XW.bk B [(7, .iload_n 2), (8, .iconst 0), (9, .bipush 60)] (by decide +kernel) (pc1 := 11) (ls1 := [some (aR 0 0), some (aI x1), some (aI x2)]) (st1 := [aI (60 : Int32), aI (0 : Int32), aI x2]) (σ1 := σ) (P := []) rfl trivial ?_
    refine XW.callS B (M := M_X10_isWithin) (as := [aI x2, aI (0 : Int32), aI (60 : Int32)]) (c_X10_isWithin x2 (0 : Int32) (60 : Int32) σ rfl) (by decide) wS_X10_isWithin wN_X10_isWithin lk_X10_90 rfl (Nat.le_of_ble_eq_true rfl) (by decide +kernel) ?_
    refine XW.bn B [] (by decide +kernel) (pc1 := 14) (ls1 := [some (aR 0 0), some (aI x1), some (aI x2)]) (st1 := [aI (m_X10_isWithin x2 (0 : Int32) (60 : Int32))]) (σ1 := σ) (P := []) (i := .ifCond .ne 5) (tgt := 19) (q := (m_X10_isWithin x2 (0 : Int32) (60 : Int32)) = (0 : Int32)) rfl trivial (by decide +kernel) rfl (by decide) (fun h2 => ?_) (fun h2 => ?_)
    · rw [if_pos h2] at hm
      refine XW.bk B [(17, .iconst (-1))] (by decide +kernel) (pc1 := 18) (ls1 := [some (aR 0 0), some (aI x1), some (aI x2)]) (st1 := [aI (-1 : Int32)]) (σ1 := σ) (P := []) rfl trivial ?_
      obtain ⟨rfl, rfl⟩ := Prod.mk.inj (Option.some.inj hm)
      exact XW.iret B q (by decide +kernel)
    · rw [if_neg h2] at hm
      refine XW.bn B [(19, .aload_n 0), (20, .getfield 23), (23, .getfield 180)] (by decide +kernel) (pc1 := 26) (ls1 := [some (aR 0 0), some (aI x1), some (aI x2)]) (st1 := [aI (σ.1 1 0 1)]) (σ1 := σ) (P := []) (i := .ifCond .ne 8) (tgt := 34) (q := (σ.1 1 0 1) = (0 : Int32)) rfl trivial (by decide +kernel) rfl (by decide) (fun h3 => ?_) (fun h3 => ?_)
      · rw [if_pos h3] at hm
        refine XW.bk B [(29, .bipush (-5)), (31, .goto 12)] (by decide +kernel) (pc1 := 43) (ls1 := [some (aR 0 0), some (aI x1), some (aI x2)]) (st1 := [aI (-5 : Int32)]) (σ1 := σ) (P := []) rfl trivial ?_
        obtain ⟨rfl, rfl⟩ := Prod.mk.inj (Option.some.inj hm)
        exact XW.iret B q (by decide +kernel)
      · rw [if_neg h3] at hm
        refine XW.bk B [(34, .aload_n 0), (35, .getfield 47), (38, .iload_n 1), (39, .iload_n 2)] (by decide +kernel) (pc1 := 40) (ls1 := [some (aR 0 0), some (aI x1), some (aI x2)]) (st1 := [aI x2, aI x1, aR 17 0]) (σ1 := σ) (P := []) rfl trivial ?_
        obtain ⟨q4, hq4, hm⟩ := obind_eq hm
        refine XW.callV B (M := M_X9_leastWithin) (t := 17) (j := 0) (cn := 1) (as := [aI x1, aI x2]) (c_X9_leastWithin x1 x2 σ hq4) (by decide) wV_X9_leastWithin wN_X9_leastWithin lk_X10_202 rfl rfl rfl (by decide) rfl (Nat.le_of_ble_eq_true rfl) (by decide +kernel) ?_
        obtain ⟨rfl, rfl⟩ := Prod.mk.inj (Option.some.inj hm)
        exact XW.iret B q (by decide +kernel)

def m_X10_menFor (x1 : Int32) (x2 : Int32) (σ : SS) : Option (Int32 × SS) :=
  if x1 < 0 ∨ ¬ x1 < 6 then
    some ((-1 : Int32), σ)
  else
  if (m_X10_isMinute x2) = (0 : Int32) then
    some ((-1 : Int32), σ)
  else
  if (m_X10_walkRefused x1.toNatClampNeg σ) = (0 : Int32) then
    Option.bind (m_X9_fewestMen x1.toNatClampNeg x2 σ) (fun q4 =>
    some (q4.1, q4.2))
  else
  some ((m_X10_walkRefused x1.toNatClampNeg σ), σ)
set_option maxRecDepth 100000 in
set_option maxHeartbeats 4000000 in
theorem c_X10_menFor (x1 : Int32) (x2 : Int32) (σ : SS) {r : Int32} {σ' : SS} (hm : m_X10_menFor x1 x2 σ = some (r, σ')) : XM LC 7 M_X10_menFor [aR 0 0, aI x1, aI x2] σ (some (aI r)) σ' := by
  refine XM.of (K := K10) (by decide) (by decide +kernel) K10_ok (Nat.le_of_ble_eq_true rfl) (fun Γ B q => ?_)
  unfold m_X10_menFor at hm
  refine XW.bk B [(0, .aload_n 0), (1, .iload_n 1)] (by decide +kernel) (pc1 := 2) (ls1 := [some (aR 0 0), some (aI x1), some (aI x2), none, none]) (st1 := [aI x1, aR 0 0]) (σ1 := σ) (P := []) rfl trivial ?_
  by_cases h1 : x1 < 0 ∨ ¬ x1 < 6
  · rw [if_pos h1] at hm
    refine XW.callV B (M := M_X10_shelfAt) (t := 0) (j := 0) (cn := 1) (as := [aI x1]) (c_shelfAt0 h1 σ) (by decide) wV_X10_shelfAt wN_X10_shelfAt lk_X10_86 rfl rfl rfl (by decide) rfl (Nat.le_of_ble_eq_true rfl) (by decide +kernel) ?_
    refine XW.bk B [(5, .astore_n 3), (6, .aload_n 3)] (by decide +kernel) (pc1 := 7) (ls1 := [some (aR 0 0), some (aI x1), some (aI x2), some (aN), none]) (st1 := [aN]) (σ1 := σ) (P := []) rfl trivial ?_
    refine XW.nullN B (off := 10) (tgt := 17) (by decide +kernel) (by decide) ?_
    refine XW.bk B [(17, .iconst (-1))] (by decide +kernel) (pc1 := 18) (ls1 := [some (aR 0 0), some (aI x1), some (aI x2), some (aN), none]) (st1 := [aI (-1 : Int32)]) (σ1 := σ) (P := []) rfl trivial ?_
    obtain ⟨rfl, rfl⟩ := Prod.mk.inj (Option.some.inj hm)
    exact XW.iret B q (by decide +kernel)
  · rw [if_neg h1] at hm
    refine XW.callV B (M := M_X10_shelfAt) (t := 0) (j := 0) (cn := 1) (as := [aI x1]) (c_shelfAt1 h1 σ) (by decide) wV_X10_shelfAt wN_X10_shelfAt lk_X10_86 rfl rfl rfl (by decide) rfl (Nat.le_of_ble_eq_true rfl) (by decide +kernel) ?_
    refine XW.bk B [(5, .astore_n 3), (6, .aload_n 3)] (by decide +kernel) (pc1 := 7) (ls1 := [some (aR 0 0), some (aI x1), some (aI x2), some (aR 28 x1.toNatClampNeg), none]) (st1 := [aR 28 x1.toNatClampNeg]) (σ1 := σ) (P := []) rfl trivial ?_
    refine XW.nullR B (off := 10) (by decide +kernel) ?_
    refine XW.bk B [(10, .iload_n 2)] (by decide +kernel) (pc1 := 11) (ls1 := [some (aR 0 0), some (aI x1), some (aI x2), some (aR 28 x1.toNatClampNeg), none]) (st1 := [aI x2]) (σ1 := σ) (P := []) rfl trivial ?_
    refine XW.callS B (M := M_X10_isMinute) (as := [aI x2]) (c_X10_isMinute x2 σ rfl) (by decide) wS_X10_isMinute wN_X10_isMinute lk_X10_151 rfl (Nat.le_of_ble_eq_true rfl) (by decide +kernel) ?_
    refine XW.bn B [] (by decide +kernel) (pc1 := 14) (ls1 := [some (aR 0 0), some (aI x1), some (aI x2), some (aR 28 x1.toNatClampNeg), none]) (st1 := [aI (m_X10_isMinute x2)]) (σ1 := σ) (P := []) (i := .ifCond .ne 5) (tgt := 19) (q := (m_X10_isMinute x2) = (0 : Int32)) rfl trivial (by decide +kernel) rfl (by decide) (fun h2 => ?_) (fun h2 => ?_)
    · rw [if_pos h2] at hm
      refine XW.bk B [(17, .iconst (-1))] (by decide +kernel) (pc1 := 18) (ls1 := [some (aR 0 0), some (aI x1), some (aI x2), some (aR 28 x1.toNatClampNeg), none]) (st1 := [aI (-1 : Int32)]) (σ1 := σ) (P := []) rfl trivial ?_
      obtain ⟨rfl, rfl⟩ := Prod.mk.inj (Option.some.inj hm)
      exact XW.iret B q (by decide +kernel)
    · rw [if_neg h2] at hm
      refine XW.bk B [(19, .aload_n 0), (20, .aload_n 3)] (by decide +kernel) (pc1 := 21) (ls1 := [some (aR 0 0), some (aI x1), some (aI x2), some (aR 28 x1.toNatClampNeg), none]) (st1 := [aR 28 x1.toNatClampNeg, aR 0 0]) (σ1 := σ) (P := []) rfl trivial ?_
      refine XW.callV B (M := M_X10_walkRefused) (t := 0) (j := 0) (cn := 1) (as := [aR 28 x1.toNatClampNeg]) (c_X10_walkRefused x1.toNatClampNeg σ (sh_j h1) rfl) (by decide) wV_X10_walkRefused wN_X10_walkRefused lk_X10_154 rfl rfl rfl (by decide) rfl (Nat.le_of_ble_eq_true rfl) (by decide +kernel) ?_
      refine XW.bb B [(24, .istore 4), (26, .iload 4)] (by decide +kernel) (pc1 := 28) (ls1 := [some (aR 0 0), some (aI x1), some (aI x2), some (aR 28 x1.toNatClampNeg), some (aI (m_X10_walkRefused x1.toNatClampNeg σ))]) (st1 := [aI (m_X10_walkRefused x1.toNatClampNeg σ)]) (σ1 := σ) (P := []) (i := .ifCond .eq 8) (tgt := 36) (q := (m_X10_walkRefused x1.toNatClampNeg σ) = (0 : Int32)) rfl trivial (by decide +kernel) rfl (by decide) (fun h3 => ?_) (fun h3 => ?_)
      · rw [if_pos h3] at hm
        refine XW.bk B [(36, .aload_n 0), (37, .getfield 47), (40, .aload_n 3), (41, .iload_n 2)] (by decide +kernel) (pc1 := 42) (ls1 := [some (aR 0 0), some (aI x1), some (aI x2), some (aR 28 x1.toNatClampNeg), some (aI (m_X10_walkRefused x1.toNatClampNeg σ))]) (st1 := [aI x2, aR 28 x1.toNatClampNeg, aR 17 0]) (σ1 := σ) (P := []) rfl trivial ?_
        obtain ⟨q4, hq4, hm⟩ := obind_eq hm
        refine XW.callV B (M := M_X9_fewestMen) (t := 17) (j := 0) (cn := 1) (as := [aR 28 x1.toNatClampNeg, aI x2]) (c_X9_fewestMen x1.toNatClampNeg x2 σ (sh_j h1) hq4) (by decide) wV_X9_fewestMen wN_X9_fewestMen lk_X10_205 rfl rfl rfl (by decide) rfl (Nat.le_of_ble_eq_true rfl) (by decide +kernel) ?_
        obtain ⟨rfl, rfl⟩ := Prod.mk.inj (Option.some.inj hm)
        exact XW.iret B q (by decide +kernel)
      · rw [if_neg h3] at hm
        refine XW.bk B [(31, .iload 4), (33, .goto 12)] (by decide +kernel) (pc1 := 45) (ls1 := [some (aR 0 0), some (aI x1), some (aI x2), some (aR 28 x1.toNatClampNeg), some (aI (m_X10_walkRefused x1.toNatClampNeg σ))]) (st1 := [aI (m_X10_walkRefused x1.toNatClampNeg σ)]) (σ1 := σ) (P := []) rfl trivial ?_
        obtain ⟨rfl, rfl⟩ := Prod.mk.inj (Option.some.inj hm)
        exact XW.iret B q (by decide +kernel)

def m_X10_van (x1 : Int32) (x2 : Int32) (σ : SS) : Option (Int32 × SS) :=
  if x1 < 0 ∨ ¬ x1 < 6 then
    some ((-1 : Int32), σ)
  else
  if (m_X10_isMinute x2) = (0 : Int32) then
    some ((-1 : Int32), σ)
  else
  if (m_X10_walkRefused x1.toNatClampNeg σ) = (0 : Int32) then
    Option.bind (m_X9_nearestVan x1.toNatClampNeg x2 σ) (fun q4 =>
    some (q4.1, q4.2))
  else
  some ((m_X10_walkRefused x1.toNatClampNeg σ), σ)
set_option maxRecDepth 100000 in
set_option maxHeartbeats 4000000 in
theorem c_X10_van (x1 : Int32) (x2 : Int32) (σ : SS) {r : Int32} {σ' : SS} (hm : m_X10_van x1 x2 σ = some (r, σ')) : XM LC 7 M_X10_van [aR 0 0, aI x1, aI x2] σ (some (aI r)) σ' := by
  refine XM.of (K := K10) (by decide) (by decide +kernel) K10_ok (Nat.le_of_ble_eq_true rfl) (fun Γ B q => ?_)
  unfold m_X10_van at hm
  refine XW.bk B [(0, .aload_n 0), (1, .iload_n 1)] (by decide +kernel) (pc1 := 2) (ls1 := [some (aR 0 0), some (aI x1), some (aI x2), none, none]) (st1 := [aI x1, aR 0 0]) (σ1 := σ) (P := []) rfl trivial ?_
  by_cases h1 : x1 < 0 ∨ ¬ x1 < 6
  · rw [if_pos h1] at hm
    refine XW.callV B (M := M_X10_shelfAt) (t := 0) (j := 0) (cn := 1) (as := [aI x1]) (c_shelfAt0 h1 σ) (by decide) wV_X10_shelfAt wN_X10_shelfAt lk_X10_86 rfl rfl rfl (by decide) rfl (Nat.le_of_ble_eq_true rfl) (by decide +kernel) ?_
    refine XW.bk B [(5, .astore_n 3), (6, .aload_n 3)] (by decide +kernel) (pc1 := 7) (ls1 := [some (aR 0 0), some (aI x1), some (aI x2), some (aN), none]) (st1 := [aN]) (σ1 := σ) (P := []) rfl trivial ?_
    refine XW.nullN B (off := 10) (tgt := 17) (by decide +kernel) (by decide) ?_
    refine XW.bk B [(17, .iconst (-1))] (by decide +kernel) (pc1 := 18) (ls1 := [some (aR 0 0), some (aI x1), some (aI x2), some (aN), none]) (st1 := [aI (-1 : Int32)]) (σ1 := σ) (P := []) rfl trivial ?_
    obtain ⟨rfl, rfl⟩ := Prod.mk.inj (Option.some.inj hm)
    exact XW.iret B q (by decide +kernel)
  · rw [if_neg h1] at hm
    refine XW.callV B (M := M_X10_shelfAt) (t := 0) (j := 0) (cn := 1) (as := [aI x1]) (c_shelfAt1 h1 σ) (by decide) wV_X10_shelfAt wN_X10_shelfAt lk_X10_86 rfl rfl rfl (by decide) rfl (Nat.le_of_ble_eq_true rfl) (by decide +kernel) ?_
    refine XW.bk B [(5, .astore_n 3), (6, .aload_n 3)] (by decide +kernel) (pc1 := 7) (ls1 := [some (aR 0 0), some (aI x1), some (aI x2), some (aR 28 x1.toNatClampNeg), none]) (st1 := [aR 28 x1.toNatClampNeg]) (σ1 := σ) (P := []) rfl trivial ?_
    refine XW.nullR B (off := 10) (by decide +kernel) ?_
    refine XW.bk B [(10, .iload_n 2)] (by decide +kernel) (pc1 := 11) (ls1 := [some (aR 0 0), some (aI x1), some (aI x2), some (aR 28 x1.toNatClampNeg), none]) (st1 := [aI x2]) (σ1 := σ) (P := []) rfl trivial ?_
    refine XW.callS B (M := M_X10_isMinute) (as := [aI x2]) (c_X10_isMinute x2 σ rfl) (by decide) wS_X10_isMinute wN_X10_isMinute lk_X10_151 rfl (Nat.le_of_ble_eq_true rfl) (by decide +kernel) ?_
    refine XW.bn B [] (by decide +kernel) (pc1 := 14) (ls1 := [some (aR 0 0), some (aI x1), some (aI x2), some (aR 28 x1.toNatClampNeg), none]) (st1 := [aI (m_X10_isMinute x2)]) (σ1 := σ) (P := []) (i := .ifCond .ne 5) (tgt := 19) (q := (m_X10_isMinute x2) = (0 : Int32)) rfl trivial (by decide +kernel) rfl (by decide) (fun h2 => ?_) (fun h2 => ?_)
    · rw [if_pos h2] at hm
      refine XW.bk B [(17, .iconst (-1))] (by decide +kernel) (pc1 := 18) (ls1 := [some (aR 0 0), some (aI x1), some (aI x2), some (aR 28 x1.toNatClampNeg), none]) (st1 := [aI (-1 : Int32)]) (σ1 := σ) (P := []) rfl trivial ?_
      obtain ⟨rfl, rfl⟩ := Prod.mk.inj (Option.some.inj hm)
      exact XW.iret B q (by decide +kernel)
    · rw [if_neg h2] at hm
      refine XW.bk B [(19, .aload_n 0), (20, .aload_n 3)] (by decide +kernel) (pc1 := 21) (ls1 := [some (aR 0 0), some (aI x1), some (aI x2), some (aR 28 x1.toNatClampNeg), none]) (st1 := [aR 28 x1.toNatClampNeg, aR 0 0]) (σ1 := σ) (P := []) rfl trivial ?_
      refine XW.callV B (M := M_X10_walkRefused) (t := 0) (j := 0) (cn := 1) (as := [aR 28 x1.toNatClampNeg]) (c_X10_walkRefused x1.toNatClampNeg σ (sh_j h1) rfl) (by decide) wV_X10_walkRefused wN_X10_walkRefused lk_X10_154 rfl rfl rfl (by decide) rfl (Nat.le_of_ble_eq_true rfl) (by decide +kernel) ?_
      refine XW.bb B [(24, .istore 4), (26, .iload 4)] (by decide +kernel) (pc1 := 28) (ls1 := [some (aR 0 0), some (aI x1), some (aI x2), some (aR 28 x1.toNatClampNeg), some (aI (m_X10_walkRefused x1.toNatClampNeg σ))]) (st1 := [aI (m_X10_walkRefused x1.toNatClampNeg σ)]) (σ1 := σ) (P := []) (i := .ifCond .eq 8) (tgt := 36) (q := (m_X10_walkRefused x1.toNatClampNeg σ) = (0 : Int32)) rfl trivial (by decide +kernel) rfl (by decide) (fun h3 => ?_) (fun h3 => ?_)
      · rw [if_pos h3] at hm
        refine XW.bk B [(36, .aload_n 0), (37, .getfield 47), (40, .aload_n 3), (41, .iload_n 2)] (by decide +kernel) (pc1 := 42) (ls1 := [some (aR 0 0), some (aI x1), some (aI x2), some (aR 28 x1.toNatClampNeg), some (aI (m_X10_walkRefused x1.toNatClampNeg σ))]) (st1 := [aI x2, aR 28 x1.toNatClampNeg, aR 17 0]) (σ1 := σ) (P := []) rfl trivial ?_
        obtain ⟨q4, hq4, hm⟩ := obind_eq hm
        refine XW.callV B (M := M_X9_nearestVan) (t := 17) (j := 0) (cn := 1) (as := [aR 28 x1.toNatClampNeg, aI x2]) (c_X9_nearestVan x1.toNatClampNeg x2 σ (sh_j h1) hq4) (by decide) wV_X9_nearestVan wN_X9_nearestVan lk_X10_209 rfl rfl rfl (by decide) rfl (Nat.le_of_ble_eq_true rfl) (by decide +kernel) ?_
        obtain ⟨rfl, rfl⟩ := Prod.mk.inj (Option.some.inj hm)
        exact XW.iret B q (by decide +kernel)
      · rw [if_neg h3] at hm
        refine XW.bk B [(31, .iload 4), (33, .goto 12)] (by decide +kernel) (pc1 := 45) (ls1 := [some (aR 0 0), some (aI x1), some (aI x2), some (aR 28 x1.toNatClampNeg), some (aI (m_X10_walkRefused x1.toNatClampNeg σ))]) (st1 := [aI (m_X10_walkRefused x1.toNatClampNeg σ)]) (σ1 := σ) (P := []) rfl trivial ?_
        obtain ⟨rfl, rfl⟩ := Prod.mk.inj (Option.some.inj hm)
        exact XW.iret B q (by decide +kernel)

def m_X10_windFrom (x1 : Int32) (x2 : Int32) (σ : SS) : Option (Int32 × SS) :=
  if x1 < 0 ∨ ¬ x1 < 6 then
    some ((-1 : Int32), σ)
  else
  if (m_X10_isMinute x2) = (0 : Int32) then
    some ((-1 : Int32), σ)
  else
  if (m_X10_walkRefused x1.toNatClampNeg σ) = (0 : Int32) then
    Option.bind (m_X9_leastMoreGust x1.toNatClampNeg x2 σ) (fun q4 =>
    some (q4.1, q4.2))
  else
  some ((m_X10_walkRefused x1.toNatClampNeg σ), σ)
set_option maxRecDepth 100000 in
set_option maxHeartbeats 4000000 in
theorem c_X10_windFrom (x1 : Int32) (x2 : Int32) (σ : SS) {r : Int32} {σ' : SS} (hm : m_X10_windFrom x1 x2 σ = some (r, σ')) : XM LC 7 M_X10_windFrom [aR 0 0, aI x1, aI x2] σ (some (aI r)) σ' := by
  refine XM.of (K := K10) (by decide) (by decide +kernel) K10_ok (Nat.le_of_ble_eq_true rfl) (fun Γ B q => ?_)
  unfold m_X10_windFrom at hm
  refine XW.bk B [(0, .aload_n 0), (1, .iload_n 1)] (by decide +kernel) (pc1 := 2) (ls1 := [some (aR 0 0), some (aI x1), some (aI x2), none, none]) (st1 := [aI x1, aR 0 0]) (σ1 := σ) (P := []) rfl trivial ?_
  by_cases h1 : x1 < 0 ∨ ¬ x1 < 6
  · rw [if_pos h1] at hm
    refine XW.callV B (M := M_X10_shelfAt) (t := 0) (j := 0) (cn := 1) (as := [aI x1]) (c_shelfAt0 h1 σ) (by decide) wV_X10_shelfAt wN_X10_shelfAt lk_X10_86 rfl rfl rfl (by decide) rfl (Nat.le_of_ble_eq_true rfl) (by decide +kernel) ?_
    refine XW.bk B [(5, .astore_n 3), (6, .aload_n 3)] (by decide +kernel) (pc1 := 7) (ls1 := [some (aR 0 0), some (aI x1), some (aI x2), some (aN), none]) (st1 := [aN]) (σ1 := σ) (P := []) rfl trivial ?_
    refine XW.nullN B (off := 10) (tgt := 17) (by decide +kernel) (by decide) ?_
    refine XW.bk B [(17, .iconst (-1))] (by decide +kernel) (pc1 := 18) (ls1 := [some (aR 0 0), some (aI x1), some (aI x2), some (aN), none]) (st1 := [aI (-1 : Int32)]) (σ1 := σ) (P := []) rfl trivial ?_
    obtain ⟨rfl, rfl⟩ := Prod.mk.inj (Option.some.inj hm)
    exact XW.iret B q (by decide +kernel)
  · rw [if_neg h1] at hm
    refine XW.callV B (M := M_X10_shelfAt) (t := 0) (j := 0) (cn := 1) (as := [aI x1]) (c_shelfAt1 h1 σ) (by decide) wV_X10_shelfAt wN_X10_shelfAt lk_X10_86 rfl rfl rfl (by decide) rfl (Nat.le_of_ble_eq_true rfl) (by decide +kernel) ?_
    refine XW.bk B [(5, .astore_n 3), (6, .aload_n 3)] (by decide +kernel) (pc1 := 7) (ls1 := [some (aR 0 0), some (aI x1), some (aI x2), some (aR 28 x1.toNatClampNeg), none]) (st1 := [aR 28 x1.toNatClampNeg]) (σ1 := σ) (P := []) rfl trivial ?_
    refine XW.nullR B (off := 10) (by decide +kernel) ?_
    refine XW.bk B [(10, .iload_n 2)] (by decide +kernel) (pc1 := 11) (ls1 := [some (aR 0 0), some (aI x1), some (aI x2), some (aR 28 x1.toNatClampNeg), none]) (st1 := [aI x2]) (σ1 := σ) (P := []) rfl trivial ?_
    refine XW.callS B (M := M_X10_isMinute) (as := [aI x2]) (c_X10_isMinute x2 σ rfl) (by decide) wS_X10_isMinute wN_X10_isMinute lk_X10_151 rfl (Nat.le_of_ble_eq_true rfl) (by decide +kernel) ?_
    refine XW.bn B [] (by decide +kernel) (pc1 := 14) (ls1 := [some (aR 0 0), some (aI x1), some (aI x2), some (aR 28 x1.toNatClampNeg), none]) (st1 := [aI (m_X10_isMinute x2)]) (σ1 := σ) (P := []) (i := .ifCond .ne 5) (tgt := 19) (q := (m_X10_isMinute x2) = (0 : Int32)) rfl trivial (by decide +kernel) rfl (by decide) (fun h2 => ?_) (fun h2 => ?_)
    · rw [if_pos h2] at hm
      refine XW.bk B [(17, .iconst (-1))] (by decide +kernel) (pc1 := 18) (ls1 := [some (aR 0 0), some (aI x1), some (aI x2), some (aR 28 x1.toNatClampNeg), none]) (st1 := [aI (-1 : Int32)]) (σ1 := σ) (P := []) rfl trivial ?_
      obtain ⟨rfl, rfl⟩ := Prod.mk.inj (Option.some.inj hm)
      exact XW.iret B q (by decide +kernel)
    · rw [if_neg h2] at hm
      refine XW.bk B [(19, .aload_n 0), (20, .aload_n 3)] (by decide +kernel) (pc1 := 21) (ls1 := [some (aR 0 0), some (aI x1), some (aI x2), some (aR 28 x1.toNatClampNeg), none]) (st1 := [aR 28 x1.toNatClampNeg, aR 0 0]) (σ1 := σ) (P := []) rfl trivial ?_
      refine XW.callV B (M := M_X10_walkRefused) (t := 0) (j := 0) (cn := 1) (as := [aR 28 x1.toNatClampNeg]) (c_X10_walkRefused x1.toNatClampNeg σ (sh_j h1) rfl) (by decide) wV_X10_walkRefused wN_X10_walkRefused lk_X10_154 rfl rfl rfl (by decide) rfl (Nat.le_of_ble_eq_true rfl) (by decide +kernel) ?_
      refine XW.bb B [(24, .istore 4), (26, .iload 4)] (by decide +kernel) (pc1 := 28) (ls1 := [some (aR 0 0), some (aI x1), some (aI x2), some (aR 28 x1.toNatClampNeg), some (aI (m_X10_walkRefused x1.toNatClampNeg σ))]) (st1 := [aI (m_X10_walkRefused x1.toNatClampNeg σ)]) (σ1 := σ) (P := []) (i := .ifCond .eq 8) (tgt := 36) (q := (m_X10_walkRefused x1.toNatClampNeg σ) = (0 : Int32)) rfl trivial (by decide +kernel) rfl (by decide) (fun h3 => ?_) (fun h3 => ?_)
      · rw [if_pos h3] at hm
        refine XW.bk B [(36, .aload_n 0), (37, .getfield 47), (40, .aload_n 3), (41, .iload_n 2)] (by decide +kernel) (pc1 := 42) (ls1 := [some (aR 0 0), some (aI x1), some (aI x2), some (aR 28 x1.toNatClampNeg), some (aI (m_X10_walkRefused x1.toNatClampNeg σ))]) (st1 := [aI x2, aR 28 x1.toNatClampNeg, aR 17 0]) (σ1 := σ) (P := []) rfl trivial ?_
        obtain ⟨q4, hq4, hm⟩ := obind_eq hm
        refine XW.callV B (M := M_X9_leastMoreGust) (t := 17) (j := 0) (cn := 1) (as := [aR 28 x1.toNatClampNeg, aI x2]) (c_X9_leastMoreGust x1.toNatClampNeg x2 σ (sh_j h1) hq4) (by decide) wV_X9_leastMoreGust wN_X9_leastMoreGust lk_X10_212 rfl rfl rfl (by decide) rfl (Nat.le_of_ble_eq_true rfl) (by decide +kernel) ?_
        obtain ⟨rfl, rfl⟩ := Prod.mk.inj (Option.some.inj hm)
        exact XW.iret B q (by decide +kernel)
      · rw [if_neg h3] at hm
        refine XW.bk B [(31, .iload 4), (33, .goto 12)] (by decide +kernel) (pc1 := 45) (ls1 := [some (aR 0 0), some (aI x1), some (aI x2), some (aR 28 x1.toNatClampNeg), some (aI (m_X10_walkRefused x1.toNatClampNeg σ))]) (st1 := [aI (m_X10_walkRefused x1.toNatClampNeg σ)]) (σ1 := σ) (P := []) rfl trivial ?_
        obtain ⟨rfl, rfl⟩ := Prod.mk.inj (Option.some.inj hm)
        exact XW.iret B q (by decide +kernel)

def m_X10_scratchFor (x1 : Int32) (x2 : Int32) (σ : SS) : Option (Int32 × SS) :=
  if x1 < 0 ∨ ¬ x1 < 6 then
    some ((-1 : Int32), σ)
  else
  if (m_X10_isMinute x2) = (0 : Int32) then
    some ((-1 : Int32), σ)
  else
  if (m_X10_walkRefused x1.toNatClampNeg σ) = (0 : Int32) then
    Option.bind (m_X9_greatestScratch x1.toNatClampNeg x2 σ) (fun q4 =>
    some (q4.1, q4.2))
  else
  some ((m_X10_walkRefused x1.toNatClampNeg σ), σ)
set_option maxRecDepth 100000 in
set_option maxHeartbeats 4000000 in
theorem c_X10_scratchFor (x1 : Int32) (x2 : Int32) (σ : SS) {r : Int32} {σ' : SS} (hm : m_X10_scratchFor x1 x2 σ = some (r, σ')) : XM LC 7 M_X10_scratchFor [aR 0 0, aI x1, aI x2] σ (some (aI r)) σ' := by
  refine XM.of (K := K10) (by decide) (by decide +kernel) K10_ok (Nat.le_of_ble_eq_true rfl) (fun Γ B q => ?_)
  unfold m_X10_scratchFor at hm
  refine XW.bk B [(0, .aload_n 0), (1, .iload_n 1)] (by decide +kernel) (pc1 := 2) (ls1 := [some (aR 0 0), some (aI x1), some (aI x2), none, none]) (st1 := [aI x1, aR 0 0]) (σ1 := σ) (P := []) rfl trivial ?_
  by_cases h1 : x1 < 0 ∨ ¬ x1 < 6
  · rw [if_pos h1] at hm
    refine XW.callV B (M := M_X10_shelfAt) (t := 0) (j := 0) (cn := 1) (as := [aI x1]) (c_shelfAt0 h1 σ) (by decide) wV_X10_shelfAt wN_X10_shelfAt lk_X10_86 rfl rfl rfl (by decide) rfl (Nat.le_of_ble_eq_true rfl) (by decide +kernel) ?_
    refine XW.bk B [(5, .astore_n 3), (6, .aload_n 3)] (by decide +kernel) (pc1 := 7) (ls1 := [some (aR 0 0), some (aI x1), some (aI x2), some (aN), none]) (st1 := [aN]) (σ1 := σ) (P := []) rfl trivial ?_
    refine XW.nullN B (off := 10) (tgt := 17) (by decide +kernel) (by decide) ?_
    refine XW.bk B [(17, .iconst (-1))] (by decide +kernel) (pc1 := 18) (ls1 := [some (aR 0 0), some (aI x1), some (aI x2), some (aN), none]) (st1 := [aI (-1 : Int32)]) (σ1 := σ) (P := []) rfl trivial ?_
    obtain ⟨rfl, rfl⟩ := Prod.mk.inj (Option.some.inj hm)
    exact XW.iret B q (by decide +kernel)
  · rw [if_neg h1] at hm
    refine XW.callV B (M := M_X10_shelfAt) (t := 0) (j := 0) (cn := 1) (as := [aI x1]) (c_shelfAt1 h1 σ) (by decide) wV_X10_shelfAt wN_X10_shelfAt lk_X10_86 rfl rfl rfl (by decide) rfl (Nat.le_of_ble_eq_true rfl) (by decide +kernel) ?_
    refine XW.bk B [(5, .astore_n 3), (6, .aload_n 3)] (by decide +kernel) (pc1 := 7) (ls1 := [some (aR 0 0), some (aI x1), some (aI x2), some (aR 28 x1.toNatClampNeg), none]) (st1 := [aR 28 x1.toNatClampNeg]) (σ1 := σ) (P := []) rfl trivial ?_
    refine XW.nullR B (off := 10) (by decide +kernel) ?_
    refine XW.bk B [(10, .iload_n 2)] (by decide +kernel) (pc1 := 11) (ls1 := [some (aR 0 0), some (aI x1), some (aI x2), some (aR 28 x1.toNatClampNeg), none]) (st1 := [aI x2]) (σ1 := σ) (P := []) rfl trivial ?_
    refine XW.callS B (M := M_X10_isMinute) (as := [aI x2]) (c_X10_isMinute x2 σ rfl) (by decide) wS_X10_isMinute wN_X10_isMinute lk_X10_151 rfl (Nat.le_of_ble_eq_true rfl) (by decide +kernel) ?_
    refine XW.bn B [] (by decide +kernel) (pc1 := 14) (ls1 := [some (aR 0 0), some (aI x1), some (aI x2), some (aR 28 x1.toNatClampNeg), none]) (st1 := [aI (m_X10_isMinute x2)]) (σ1 := σ) (P := []) (i := .ifCond .ne 5) (tgt := 19) (q := (m_X10_isMinute x2) = (0 : Int32)) rfl trivial (by decide +kernel) rfl (by decide) (fun h2 => ?_) (fun h2 => ?_)
    · rw [if_pos h2] at hm
      refine XW.bk B [(17, .iconst (-1))] (by decide +kernel) (pc1 := 18) (ls1 := [some (aR 0 0), some (aI x1), some (aI x2), some (aR 28 x1.toNatClampNeg), none]) (st1 := [aI (-1 : Int32)]) (σ1 := σ) (P := []) rfl trivial ?_
      obtain ⟨rfl, rfl⟩ := Prod.mk.inj (Option.some.inj hm)
      exact XW.iret B q (by decide +kernel)
    · rw [if_neg h2] at hm
      refine XW.bk B [(19, .aload_n 0), (20, .aload_n 3)] (by decide +kernel) (pc1 := 21) (ls1 := [some (aR 0 0), some (aI x1), some (aI x2), some (aR 28 x1.toNatClampNeg), none]) (st1 := [aR 28 x1.toNatClampNeg, aR 0 0]) (σ1 := σ) (P := []) rfl trivial ?_
      refine XW.callV B (M := M_X10_walkRefused) (t := 0) (j := 0) (cn := 1) (as := [aR 28 x1.toNatClampNeg]) (c_X10_walkRefused x1.toNatClampNeg σ (sh_j h1) rfl) (by decide) wV_X10_walkRefused wN_X10_walkRefused lk_X10_154 rfl rfl rfl (by decide) rfl (Nat.le_of_ble_eq_true rfl) (by decide +kernel) ?_
      refine XW.bb B [(24, .istore 4), (26, .iload 4)] (by decide +kernel) (pc1 := 28) (ls1 := [some (aR 0 0), some (aI x1), some (aI x2), some (aR 28 x1.toNatClampNeg), some (aI (m_X10_walkRefused x1.toNatClampNeg σ))]) (st1 := [aI (m_X10_walkRefused x1.toNatClampNeg σ)]) (σ1 := σ) (P := []) (i := .ifCond .eq 8) (tgt := 36) (q := (m_X10_walkRefused x1.toNatClampNeg σ) = (0 : Int32)) rfl trivial (by decide +kernel) rfl (by decide) (fun h3 => ?_) (fun h3 => ?_)
      · rw [if_pos h3] at hm
        refine XW.bk B [(36, .aload_n 0), (37, .getfield 47), (40, .aload_n 3), (41, .iload_n 2)] (by decide +kernel) (pc1 := 42) (ls1 := [some (aR 0 0), some (aI x1), some (aI x2), some (aR 28 x1.toNatClampNeg), some (aI (m_X10_walkRefused x1.toNatClampNeg σ))]) (st1 := [aI x2, aR 28 x1.toNatClampNeg, aR 17 0]) (σ1 := σ) (P := []) rfl trivial ?_
        obtain ⟨q4, hq4, hm⟩ := obind_eq hm
        refine XW.callV B (M := M_X9_greatestScratch) (t := 17) (j := 0) (cn := 1) (as := [aR 28 x1.toNatClampNeg, aI x2]) (c_X9_greatestScratch x1.toNatClampNeg x2 σ (sh_j h1) hq4) (by decide) wV_X9_greatestScratch wN_X9_greatestScratch lk_X10_215 rfl rfl rfl (by decide) rfl (Nat.le_of_ble_eq_true rfl) (by decide +kernel) ?_
        obtain ⟨rfl, rfl⟩ := Prod.mk.inj (Option.some.inj hm)
        exact XW.iret B q (by decide +kernel)
      · rw [if_neg h3] at hm
        refine XW.bk B [(31, .iload 4), (33, .goto 12)] (by decide +kernel) (pc1 := 45) (ls1 := [some (aR 0 0), some (aI x1), some (aI x2), some (aR 28 x1.toNatClampNeg), some (aI (m_X10_walkRefused x1.toNatClampNeg σ))]) (st1 := [aI (m_X10_walkRefused x1.toNatClampNeg σ)]) (σ1 := σ) (P := []) rfl trivial ?_
        obtain ⟨rfl, rfl⟩ := Prod.mk.inj (Option.some.inj hm)
        exact XW.iret B q (by decide +kernel)

def m_X10_free (x1 : Int32) (σ : SS) : Option (Int64) :=
  if (m_X10_isWithin x1 (0 : Int32) (1 : Int32)) = (0 : Int32) then
    some (-9223372036854775808 : Int64)
  else
  if (σ.1 1 0 1) = (0 : Int32) then
    some (-5 : Int64)
  else
  Option.bind (m_X0_freeWays (-1 : Int32) (0 : Int32) σ) (fun q3 =>
  Option.bind (m_X0_allWays σ) (fun q4 =>
  Option.bind (m_X0_partOf q3 q4 x1 σ) (fun q5 =>
  some q5)))
set_option maxRecDepth 100000 in
set_option maxHeartbeats 4000000 in
theorem c_X10_free (x1 : Int32) (σ : SS) {r : Int64} (hm : m_X10_free x1 σ = some r) : XM LC 3 M_X10_free [aR 0 0, aI x1] σ (some (aJ r)) σ := by
  refine XM.of (K := K10) (by decide) (by decide +kernel) K10_ok (Nat.le_of_ble_eq_true rfl) (fun Γ B q => ?_)
  unfold m_X10_free at hm
  refine XW.bk B [(0, .iload_n 1), (1, .iconst 0), (2, .iconst 1)] (by decide +kernel) (pc1 := 3) (ls1 := [some (aR 0 0), some (aI x1)]) (st1 := [aI (1 : Int32), aI (0 : Int32), aI x1]) (σ1 := σ) (P := []) rfl trivial ?_
  refine XW.callS B (M := M_X10_isWithin) (as := [aI x1, aI (0 : Int32), aI (1 : Int32)]) (c_X10_isWithin x1 (0 : Int32) (1 : Int32) σ rfl) (by decide) wS_X10_isWithin wN_X10_isWithin lk_X10_90 rfl (Nat.le_of_ble_eq_true rfl) (by decide +kernel) ?_
  refine XW.bn B [] (by decide +kernel) (pc1 := 6) (ls1 := [some (aR 0 0), some (aI x1)]) (st1 := [aI (m_X10_isWithin x1 (0 : Int32) (1 : Int32))]) (σ1 := σ) (P := []) (i := .ifCond .ne 7) (tgt := 13) (q := (m_X10_isWithin x1 (0 : Int32) (1 : Int32)) = (0 : Int32)) rfl trivial (by decide +kernel) rfl (by decide) (fun h1 => ?_) (fun h1 => ?_)
  · rw [if_pos h1] at hm
    refine XW.bk B [(9, .ldc2_w 178)] (by decide +kernel) (pc1 := 12) (ls1 := [some (aR 0 0), some (aI x1)]) (st1 := [aJ (-9223372036854775808 : Int64)]) (σ1 := σ) (P := []) rfl trivial ?_
    obtain rfl := Option.some.inj hm
    exact XW.lret B q (by decide +kernel)
  · rw [if_neg h1] at hm
    refine XW.bn B [(13, .aload_n 0), (14, .getfield 23), (17, .getfield 180)] (by decide +kernel) (pc1 := 20) (ls1 := [some (aR 0 0), some (aI x1)]) (st1 := [aI (σ.1 1 0 1)]) (σ1 := σ) (P := []) (i := .ifCond .ne 7) (tgt := 27) (q := (σ.1 1 0 1) = (0 : Int32)) rfl trivial (by decide +kernel) rfl (by decide) (fun h2 => ?_) (fun h2 => ?_)
    · rw [if_pos h2] at hm
      refine XW.bk B [(23, .ldc2_w 183)] (by decide +kernel) (pc1 := 26) (ls1 := [some (aR 0 0), some (aI x1)]) (st1 := [aJ (-5 : Int64)]) (σ1 := σ) (P := []) rfl trivial ?_
      obtain rfl := Option.some.inj hm
      exact XW.lret B q (by decide +kernel)
    · rw [if_neg h2] at hm
      refine XW.bk B [(27, .aload_n 0), (28, .getfield 56), (31, .iconst (-1)), (32, .iconst 0)] (by decide +kernel) (pc1 := 33) (ls1 := [some (aR 0 0), some (aI x1)]) (st1 := [aI (0 : Int32), aI (-1 : Int32), aR 20 0]) (σ1 := σ) (P := []) rfl trivial ?_
      obtain ⟨q3, hq3, hm⟩ := obind_eq hm
      refine XW.callV B (M := M_X0_freeWays) (t := 20) (j := 0) (cn := 1) (as := [aI (-1 : Int32), aI (0 : Int32)]) (c_X0_freeWays (-1 : Int32) (0 : Int32) σ hq3) (by decide) wV_X0_freeWays wN_X0_freeWays lk_X10_218 rfl rfl rfl (by decide) rfl (Nat.le_of_ble_eq_true rfl) (by decide +kernel) ?_
      refine XW.bk B [(36, .aload_n 0), (37, .getfield 56)] (by decide +kernel) (pc1 := 40) (ls1 := [some (aR 0 0), some (aI x1)]) (st1 := [aR 20 0, aJ q3]) (σ1 := σ) (P := []) rfl trivial ?_
      obtain ⟨q4, hq4, hm⟩ := obind_eq hm
      refine XW.callV B (M := M_X0_allWays) (t := 20) (j := 0) (cn := 1) (as := []) (c_X0_allWays σ hq4) (by decide) wV_X0_allWays wN_X0_allWays lk_X10_222 rfl rfl rfl (by decide) rfl (Nat.le_of_ble_eq_true rfl) (by decide +kernel) ?_
      refine XW.bk B [(43, .iload_n 1)] (by decide +kernel) (pc1 := 44) (ls1 := [some (aR 0 0), some (aI x1)]) (st1 := [aI x1, aJ q4, aJ q3]) (σ1 := σ) (P := []) rfl trivial ?_
      obtain ⟨q5, hq5, hm⟩ := obind_eq hm
      refine XW.callS B (M := M_X0_partOf) (as := [aJ q3, aJ q4, aI x1]) (c_X0_partOf q3 q4 x1 σ hq5) (by decide) wS_X0_partOf wN_X0_partOf lk_X10_225 rfl (Nat.le_of_ble_eq_true rfl) (by decide +kernel) ?_
      obtain rfl := Option.some.inj hm
      exact XW.lret B q (by decide +kernel)

def m_X10_watch (x1 : Int32) (σ : SS) : Option (Int64) :=
  if (m_X10_isWithin x1 (0 : Int32) (2 : Int32)) = (0 : Int32) then
    some (-9223372036854775808 : Int64)
  else
  if (σ.1 1 0 1) = (0 : Int32) then
    some (-5 : Int64)
  else
  Option.bind (m_X0_bestWatched σ) (fun q3 =>
  if x1 = (2 : Int32) then
    some q3.toInt64
  else
  Option.bind (m_X0_freeWays q3 (0 : Int32) σ) (fun q5 =>
  Option.bind (m_X0_allWays σ) (fun q6 =>
  Option.bind (m_X0_partOf q5 q6 x1 σ) (fun q7 =>
  some q7))))
set_option maxRecDepth 100000 in
set_option maxHeartbeats 4000000 in
theorem c_X10_watch (x1 : Int32) (σ : SS) {r : Int64} (hm : m_X10_watch x1 σ = some r) : XM LC 4 M_X10_watch [aR 0 0, aI x1] σ (some (aJ r)) σ := by
  refine XM.of (K := K10) (by decide) (by decide +kernel) K10_ok (Nat.le_of_ble_eq_true rfl) (fun Γ B q => ?_)
  unfold m_X10_watch at hm
  refine XW.bk B [(0, .iload_n 1), (1, .iconst 0), (2, .iconst 2)] (by decide +kernel) (pc1 := 3) (ls1 := [some (aR 0 0), some (aI x1), none]) (st1 := [aI (2 : Int32), aI (0 : Int32), aI x1]) (σ1 := σ) (P := []) rfl trivial ?_
  refine XW.callS B (M := M_X10_isWithin) (as := [aI x1, aI (0 : Int32), aI (2 : Int32)]) (c_X10_isWithin x1 (0 : Int32) (2 : Int32) σ rfl) (by decide) wS_X10_isWithin wN_X10_isWithin lk_X10_90 rfl (Nat.le_of_ble_eq_true rfl) (by decide +kernel) ?_
  refine XW.bn B [] (by decide +kernel) (pc1 := 6) (ls1 := [some (aR 0 0), some (aI x1), none]) (st1 := [aI (m_X10_isWithin x1 (0 : Int32) (2 : Int32))]) (σ1 := σ) (P := []) (i := .ifCond .ne 7) (tgt := 13) (q := (m_X10_isWithin x1 (0 : Int32) (2 : Int32)) = (0 : Int32)) rfl trivial (by decide +kernel) rfl (by decide) (fun h1 => ?_) (fun h1 => ?_)
  · rw [if_pos h1] at hm
    refine XW.bk B [(9, .ldc2_w 178)] (by decide +kernel) (pc1 := 12) (ls1 := [some (aR 0 0), some (aI x1), none]) (st1 := [aJ (-9223372036854775808 : Int64)]) (σ1 := σ) (P := []) rfl trivial ?_
    obtain rfl := Option.some.inj hm
    exact XW.lret B q (by decide +kernel)
  · rw [if_neg h1] at hm
    refine XW.bn B [(13, .aload_n 0), (14, .getfield 23), (17, .getfield 180)] (by decide +kernel) (pc1 := 20) (ls1 := [some (aR 0 0), some (aI x1), none]) (st1 := [aI (σ.1 1 0 1)]) (σ1 := σ) (P := []) (i := .ifCond .ne 7) (tgt := 27) (q := (σ.1 1 0 1) = (0 : Int32)) rfl trivial (by decide +kernel) rfl (by decide) (fun h2 => ?_) (fun h2 => ?_)
    · rw [if_pos h2] at hm
      refine XW.bk B [(23, .ldc2_w 183)] (by decide +kernel) (pc1 := 26) (ls1 := [some (aR 0 0), some (aI x1), none]) (st1 := [aJ (-5 : Int64)]) (σ1 := σ) (P := []) rfl trivial ?_
      obtain rfl := Option.some.inj hm
      exact XW.lret B q (by decide +kernel)
    · rw [if_neg h2] at hm
      refine XW.bk B [(27, .aload_n 0), (28, .getfield 56)] (by decide +kernel) (pc1 := 31) (ls1 := [some (aR 0 0), some (aI x1), none]) (st1 := [aR 20 0]) (σ1 := σ) (P := []) rfl trivial ?_
      obtain ⟨q3, hq3, hm⟩ := obind_eq hm
      refine XW.callV B (M := M_X0_bestWatched) (t := 20) (j := 0) (cn := 1) (as := []) (c_X0_bestWatched σ hq3) (by decide) wV_X0_bestWatched wN_X0_bestWatched lk_X10_229 rfl rfl rfl (by decide) rfl (Nat.le_of_ble_eq_true rfl) (by decide +kernel) ?_
      refine XW.bn B [(34, .istore_n 2), (35, .iload_n 1), (36, .iconst 2)] (by decide +kernel) (pc1 := 37) (ls1 := [some (aR 0 0), some (aI x1), some (aI q3)]) (st1 := [aI (2 : Int32), aI x1]) (σ1 := σ) (P := []) (i := .if_icmp .ne 8) (tgt := 45) (q := x1 = (2 : Int32)) rfl trivial (by decide +kernel) rfl (by decide) (fun h4 => ?_) (fun h4 => ?_)
      · rw [if_pos h4] at hm
        refine XW.bk B [(40, .iload_n 2), (41, .i2l), (42, .goto 23)] (by decide +kernel) (pc1 := 65) (ls1 := [some (aR 0 0), some (aI x1), some (aI q3)]) (st1 := [aJ q3.toInt64]) (σ1 := σ) (P := []) rfl trivial ?_
        obtain rfl := Option.some.inj hm
        exact XW.lret B q (by decide +kernel)
      · rw [if_neg h4] at hm
        refine XW.bk B [(45, .aload_n 0), (46, .getfield 56), (49, .iload_n 2), (50, .iconst 0)] (by decide +kernel) (pc1 := 51) (ls1 := [some (aR 0 0), some (aI x1), some (aI q3)]) (st1 := [aI (0 : Int32), aI q3, aR 20 0]) (σ1 := σ) (P := []) rfl trivial ?_
        obtain ⟨q5, hq5, hm⟩ := obind_eq hm
        refine XW.callV B (M := M_X0_freeWays) (t := 20) (j := 0) (cn := 1) (as := [aI q3, aI (0 : Int32)]) (c_X0_freeWays q3 (0 : Int32) σ hq5) (by decide) wV_X0_freeWays wN_X0_freeWays lk_X10_218 rfl rfl rfl (by decide) rfl (Nat.le_of_ble_eq_true rfl) (by decide +kernel) ?_
        refine XW.bk B [(54, .aload_n 0), (55, .getfield 56)] (by decide +kernel) (pc1 := 58) (ls1 := [some (aR 0 0), some (aI x1), some (aI q3)]) (st1 := [aR 20 0, aJ q5]) (σ1 := σ) (P := []) rfl trivial ?_
        obtain ⟨q6, hq6, hm⟩ := obind_eq hm
        refine XW.callV B (M := M_X0_allWays) (t := 20) (j := 0) (cn := 1) (as := []) (c_X0_allWays σ hq6) (by decide) wV_X0_allWays wN_X0_allWays lk_X10_222 rfl rfl rfl (by decide) rfl (Nat.le_of_ble_eq_true rfl) (by decide +kernel) ?_
        refine XW.bk B [(61, .iload_n 1)] (by decide +kernel) (pc1 := 62) (ls1 := [some (aR 0 0), some (aI x1), some (aI q3)]) (st1 := [aI x1, aJ q6, aJ q5]) (σ1 := σ) (P := []) rfl trivial ?_
        obtain ⟨q7, hq7, hm⟩ := obind_eq hm
        refine XW.callS B (M := M_X0_partOf) (as := [aJ q5, aJ q6, aI x1]) (c_X0_partOf q5 q6 x1 σ hq7) (by decide) wS_X0_partOf wN_X0_partOf lk_X10_225 rfl (Nat.le_of_ble_eq_true rfl) (by decide +kernel) ?_
        obtain rfl := Option.some.inj hm
        exact XW.lret B q (by decide +kernel)

def m_X10_earlier (x1 : Int32) (x2 : Int32) (σ : SS) : Option (Int64) :=
  if (m_X10_isWithin x1 (0 : Int32) (12 : Int32)) = (0 : Int32) then
    some (-9223372036854775808 : Int64)
  else
  if (m_X10_isWithin x2 (0 : Int32) (1 : Int32)) = (0 : Int32) then
    some (-9223372036854775808 : Int64)
  else
  if (σ.1 1 0 1) = (0 : Int32) then
    some (-5 : Int64)
  else
  Option.bind (m_X0_freeWays (-1 : Int32) x1 σ) (fun q4 =>
  Option.bind (m_X0_freeWays (-1 : Int32) (0 : Int32) σ) (fun q5 =>
  Option.bind (m_X0_allWays σ) (fun q6 =>
  Option.bind (m_X0_partOf (q4 - q5) q6 x2 σ) (fun q7 =>
  some q7))))
set_option maxRecDepth 100000 in
set_option maxHeartbeats 4000000 in
theorem c_X10_earlier (x1 : Int32) (x2 : Int32) (σ : SS) {r : Int64} (hm : m_X10_earlier x1 x2 σ = some r) : XM LC 3 M_X10_earlier [aR 0 0, aI x1, aI x2] σ (some (aJ r)) σ := by
  refine XM.of (K := K10) (by decide) (by decide +kernel) K10_ok (Nat.le_of_ble_eq_true rfl) (fun Γ B q => ?_)
  unfold m_X10_earlier at hm
  refine XW.bk B [(0, .iload_n 1), (1, .iconst 0), (2, .bipush 12)] (by decide +kernel) (pc1 := 4) (ls1 := [some (aR 0 0), some (aI x1), some (aI x2), none, none]) (st1 := [aI (12 : Int32), aI (0 : Int32), aI x1]) (σ1 := σ) (P := []) rfl trivial ?_
  refine XW.callS B (M := M_X10_isWithin) (as := [aI x1, aI (0 : Int32), aI (12 : Int32)]) (c_X10_isWithin x1 (0 : Int32) (12 : Int32) σ rfl) (by decide) wS_X10_isWithin wN_X10_isWithin lk_X10_90 rfl (Nat.le_of_ble_eq_true rfl) (by decide +kernel) ?_
  refine XW.bb B [] (by decide +kernel) (pc1 := 7) (ls1 := [some (aR 0 0), some (aI x1), some (aI x2), none, none]) (st1 := [aI (m_X10_isWithin x1 (0 : Int32) (12 : Int32))]) (σ1 := σ) (P := []) (i := .ifCond .eq 12) (tgt := 19) (q := (m_X10_isWithin x1 (0 : Int32) (12 : Int32)) = (0 : Int32)) rfl trivial (by decide +kernel) rfl (by decide) (fun h1 => ?_) (fun h1 => ?_)
  · rw [if_pos h1] at hm
    refine XW.bk B [(19, .ldc2_w 178)] (by decide +kernel) (pc1 := 22) (ls1 := [some (aR 0 0), some (aI x1), some (aI x2), none, none]) (st1 := [aJ (-9223372036854775808 : Int64)]) (σ1 := σ) (P := []) rfl trivial ?_
    obtain rfl := Option.some.inj hm
    exact XW.lret B q (by decide +kernel)
  · rw [if_neg h1] at hm
    refine XW.bk B [(10, .iload_n 2), (11, .iconst 0), (12, .iconst 1)] (by decide +kernel) (pc1 := 13) (ls1 := [some (aR 0 0), some (aI x1), some (aI x2), none, none]) (st1 := [aI (1 : Int32), aI (0 : Int32), aI x2]) (σ1 := σ) (P := []) rfl trivial ?_
    refine XW.callS B (M := M_X10_isWithin) (as := [aI x2, aI (0 : Int32), aI (1 : Int32)]) (c_X10_isWithin x2 (0 : Int32) (1 : Int32) σ rfl) (by decide) wS_X10_isWithin wN_X10_isWithin lk_X10_90 rfl (Nat.le_of_ble_eq_true rfl) (by decide +kernel) ?_
    refine XW.bn B [] (by decide +kernel) (pc1 := 16) (ls1 := [some (aR 0 0), some (aI x1), some (aI x2), none, none]) (st1 := [aI (m_X10_isWithin x2 (0 : Int32) (1 : Int32))]) (σ1 := σ) (P := []) (i := .ifCond .ne 7) (tgt := 23) (q := (m_X10_isWithin x2 (0 : Int32) (1 : Int32)) = (0 : Int32)) rfl trivial (by decide +kernel) rfl (by decide) (fun h2 => ?_) (fun h2 => ?_)
    · rw [if_pos h2] at hm
      refine XW.bk B [(19, .ldc2_w 178)] (by decide +kernel) (pc1 := 22) (ls1 := [some (aR 0 0), some (aI x1), some (aI x2), none, none]) (st1 := [aJ (-9223372036854775808 : Int64)]) (σ1 := σ) (P := []) rfl trivial ?_
      obtain rfl := Option.some.inj hm
      exact XW.lret B q (by decide +kernel)
    · rw [if_neg h2] at hm
      refine XW.bn B [(23, .aload_n 0), (24, .getfield 23), (27, .getfield 180)] (by decide +kernel) (pc1 := 30) (ls1 := [some (aR 0 0), some (aI x1), some (aI x2), none, none]) (st1 := [aI (σ.1 1 0 1)]) (σ1 := σ) (P := []) (i := .ifCond .ne 7) (tgt := 37) (q := (σ.1 1 0 1) = (0 : Int32)) rfl trivial (by decide +kernel) rfl (by decide) (fun h3 => ?_) (fun h3 => ?_)
      · rw [if_pos h3] at hm
        refine XW.bk B [(33, .ldc2_w 183)] (by decide +kernel) (pc1 := 36) (ls1 := [some (aR 0 0), some (aI x1), some (aI x2), none, none]) (st1 := [aJ (-5 : Int64)]) (σ1 := σ) (P := []) rfl trivial ?_
        obtain rfl := Option.some.inj hm
        exact XW.lret B q (by decide +kernel)
      · rw [if_neg h3] at hm
        refine XW.bk B [(37, .aload_n 0), (38, .getfield 56), (41, .iconst (-1)), (42, .iload_n 1)] (by decide +kernel) (pc1 := 43) (ls1 := [some (aR 0 0), some (aI x1), some (aI x2), none, none]) (st1 := [aI x1, aI (-1 : Int32), aR 20 0]) (σ1 := σ) (P := []) rfl trivial ?_
        obtain ⟨q4, hq4, hm⟩ := obind_eq hm
        refine XW.callV B (M := M_X0_freeWays) (t := 20) (j := 0) (cn := 1) (as := [aI (-1 : Int32), aI x1]) (c_X0_freeWays (-1 : Int32) x1 σ hq4) (by decide) wV_X0_freeWays wN_X0_freeWays lk_X10_218 rfl rfl rfl (by decide) rfl (Nat.le_of_ble_eq_true rfl) (by decide +kernel) ?_
        refine XW.bk B [(46, .aload_n 0), (47, .getfield 56), (50, .iconst (-1)), (51, .iconst 0)] (by decide +kernel) (pc1 := 52) (ls1 := [some (aR 0 0), some (aI x1), some (aI x2), none, none]) (st1 := [aI (0 : Int32), aI (-1 : Int32), aR 20 0, aJ q4]) (σ1 := σ) (P := []) rfl trivial ?_
        obtain ⟨q5, hq5, hm⟩ := obind_eq hm
        refine XW.callV B (M := M_X0_freeWays) (t := 20) (j := 0) (cn := 1) (as := [aI (-1 : Int32), aI (0 : Int32)]) (c_X0_freeWays (-1 : Int32) (0 : Int32) σ hq5) (by decide) wV_X0_freeWays wN_X0_freeWays lk_X10_218 rfl rfl rfl (by decide) rfl (Nat.le_of_ble_eq_true rfl) (by decide +kernel) ?_
        refine XW.bk B [(55, .lsub), (56, .lstore_n 3), (57, .lload_n 3), (58, .aload_n 0), (59, .getfield 56)] (by decide +kernel) (pc1 := 62) (ls1 := [some (aR 0 0), some (aI x1), some (aI x2), some (aJ (q4 - q5)), none]) (st1 := [aR 20 0, aJ (q4 - q5)]) (σ1 := σ) (P := []) rfl trivial ?_
        obtain ⟨q6, hq6, hm⟩ := obind_eq hm
        refine XW.callV B (M := M_X0_allWays) (t := 20) (j := 0) (cn := 1) (as := []) (c_X0_allWays σ hq6) (by decide) wV_X0_allWays wN_X0_allWays lk_X10_222 rfl rfl rfl (by decide) rfl (Nat.le_of_ble_eq_true rfl) (by decide +kernel) ?_
        refine XW.bk B [(65, .iload_n 2)] (by decide +kernel) (pc1 := 66) (ls1 := [some (aR 0 0), some (aI x1), some (aI x2), some (aJ (q4 - q5)), none]) (st1 := [aI x2, aJ q6, aJ (q4 - q5)]) (σ1 := σ) (P := []) rfl trivial ?_
        obtain ⟨q7, hq7, hm⟩ := obind_eq hm
        refine XW.callS B (M := M_X0_partOf) (as := [aJ (q4 - q5), aJ q6, aI x2]) (c_X0_partOf (q4 - q5) q6 x2 σ hq7) (by decide) wS_X0_partOf wN_X0_partOf lk_X10_225 rfl (Nat.le_of_ble_eq_true rfl) (by decide +kernel) ?_
        obtain rfl := Option.some.inj hm
        exact XW.lret B q (by decide +kernel)

def m_X10_longRefusal (x1 : Int32) : Int64 :=
  if x1 = (-5 : Int32) then
    (-5 : Int64)
  else
  (-9223372036854775808 : Int64)
set_option maxRecDepth 100000 in
set_option maxHeartbeats 4000000 in
theorem c_X10_longRefusal (x1 : Int32) (σ : SS) {r : Int64} (hm : m_X10_longRefusal x1 = r) : XM LC 1 M_X10_longRefusal [aI x1] σ (some (aJ r)) σ := by
  refine XM.of (K := K10) (by decide) (by decide +kernel) K10_ok (Nat.le_of_ble_eq_true rfl) (fun Γ B q => ?_)
  unfold m_X10_longRefusal at hm
  refine XW.bn B [(0, .iload_n 0), (1, .bipush (-5))] (by decide +kernel) (pc1 := 3) (ls1 := [some (aI x1)]) (st1 := [aI (-5 : Int32), aI x1]) (σ1 := σ) (P := []) (i := .if_icmp .ne 9) (tgt := 12) (q := x1 = (-5 : Int32)) rfl trivial (by decide +kernel) rfl (by decide) (fun h1 => ?_) (fun h1 => ?_)
  · rw [if_pos h1] at hm
    refine XW.bk B [(6, .ldc2_w 183), (9, .goto 6)] (by decide +kernel) (pc1 := 15) (ls1 := [some (aI x1)]) (st1 := [aJ (-5 : Int64)]) (σ1 := σ) (P := []) rfl trivial ?_
    subst hm
    exact XW.lret B q (by decide +kernel)
  · rw [if_neg h1] at hm
    refine XW.bk B [(12, .ldc2_w 178)] (by decide +kernel) (pc1 := 15) (ls1 := [some (aI x1)]) (st1 := [aJ (-9223372036854775808 : Int64)]) (σ1 := σ) (P := []) rfl trivial ?_
    subst hm
    exact XW.lret B q (by decide +kernel)

def m_X10_cost (x1 : Int32) (x2 : Int32) (x3 : Int32) (σ : SS) : Option (Int64 × SS) :=
  if x1 < 0 ∨ ¬ x1 < 6 then
    some ((-9223372036854775808 : Int64), σ)
  else
  if (m_X10_isMinute x2) = (0 : Int32) then
    some ((-9223372036854775808 : Int64), σ)
  else
  if (m_X10_isWithin x3 (0 : Int32) (1 : Int32)) = (0 : Int32) then
    some ((-9223372036854775808 : Int64), σ)
  else
  if (m_X10_walkRefused x1.toNatClampNeg σ) = (0 : Int32) then
    bnT (m_X7_supposeNow σ) (fun q5 =>
    Option.bind (m_X9_follow x1.toNatClampNeg (0 : Int32) x2 q5) (fun q6 =>
    if (q6.1 17 0 4) = (-2 : Int32) then
      Option.bind (m_X0_allWays q6) (fun q8 =>
      Option.bind (m_X0_freeWays (-1 : Int32) (0 : Int32) q6) (fun q9 =>
      Option.bind (m_X0_partOf ((m_X8_number (0 : Int32) (10 : Int32) σ).toInt64 * (q8 - q9)) q8 x3 q6) (fun q10 =>
      some (q10, q6))))
    else
    if x3 = (0 : Int32) then
      some ((m_X8_number (0 : Int32) (10 : Int32) σ).toInt64, q6)
    else
    some ((1 : Int64), q6)))
  else
  some ((m_X10_longRefusal (m_X10_walkRefused x1.toNatClampNeg σ)), σ)
set_option maxRecDepth 100000 in
set_option maxHeartbeats 4000000 in
theorem c_X10_cost (x1 : Int32) (x2 : Int32) (x3 : Int32) (σ : SS) {r : Int64} {σ' : SS} (hm : m_X10_cost x1 x2 x3 σ = some (r, σ')) : XM LC 6 M_X10_cost [aR 0 0, aI x1, aI x2, aI x3] σ (some (aJ r)) σ' := by
  refine XM.of (K := K10) (by decide) (by decide +kernel) K10_ok (Nat.le_of_ble_eq_true rfl) (fun Γ B q => ?_)
  unfold m_X10_cost at hm
  refine XW.bk B [(0, .aload_n 0), (1, .iload_n 1)] (by decide +kernel) (pc1 := 2) (ls1 := [some (aR 0 0), some (aI x1), some (aI x2), some (aI x3), none, none, none, none, none, none]) (st1 := [aI x1, aR 0 0]) (σ1 := σ) (P := []) rfl trivial ?_
  by_cases h1 : x1 < 0 ∨ ¬ x1 < 6
  · rw [if_pos h1] at hm
    refine XW.callV B (M := M_X10_shelfAt) (t := 0) (j := 0) (cn := 1) (as := [aI x1]) (c_shelfAt0 h1 σ) (by decide) wV_X10_shelfAt wN_X10_shelfAt lk_X10_86 rfl rfl rfl (by decide) rfl (Nat.le_of_ble_eq_true rfl) (by decide +kernel) ?_
    refine XW.bk B [(5, .astore 4), (7, .aload 4)] (by decide +kernel) (pc1 := 9) (ls1 := [some (aR 0 0), some (aI x1), some (aI x2), some (aI x3), some (aN), none, none, none, none, none]) (st1 := [aN]) (σ1 := σ) (P := []) rfl trivial ?_
    refine XW.nullN B (off := 19) (tgt := 28) (by decide +kernel) (by decide) ?_
    refine XW.bk B [(28, .ldc2_w 178)] (by decide +kernel) (pc1 := 31) (ls1 := [some (aR 0 0), some (aI x1), some (aI x2), some (aI x3), some (aN), none, none, none, none, none]) (st1 := [aJ (-9223372036854775808 : Int64)]) (σ1 := σ) (P := []) rfl trivial ?_
    obtain ⟨rfl, rfl⟩ := Prod.mk.inj (Option.some.inj hm)
    exact XW.lret B q (by decide +kernel)
  · rw [if_neg h1] at hm
    refine XW.callV B (M := M_X10_shelfAt) (t := 0) (j := 0) (cn := 1) (as := [aI x1]) (c_shelfAt1 h1 σ) (by decide) wV_X10_shelfAt wN_X10_shelfAt lk_X10_86 rfl rfl rfl (by decide) rfl (Nat.le_of_ble_eq_true rfl) (by decide +kernel) ?_
    refine XW.bk B [(5, .astore 4), (7, .aload 4)] (by decide +kernel) (pc1 := 9) (ls1 := [some (aR 0 0), some (aI x1), some (aI x2), some (aI x3), some (aR 28 x1.toNatClampNeg), none, none, none, none, none]) (st1 := [aR 28 x1.toNatClampNeg]) (σ1 := σ) (P := []) rfl trivial ?_
    refine XW.nullR B (off := 19) (by decide +kernel) ?_
    refine XW.bk B [(12, .iload_n 2)] (by decide +kernel) (pc1 := 13) (ls1 := [some (aR 0 0), some (aI x1), some (aI x2), some (aI x3), some (aR 28 x1.toNatClampNeg), none, none, none, none, none]) (st1 := [aI x2]) (σ1 := σ) (P := []) rfl trivial ?_
    refine XW.callS B (M := M_X10_isMinute) (as := [aI x2]) (c_X10_isMinute x2 σ rfl) (by decide) wS_X10_isMinute wN_X10_isMinute lk_X10_151 rfl (Nat.le_of_ble_eq_true rfl) (by decide +kernel) ?_
    refine XW.bb B [] (by decide +kernel) (pc1 := 16) (ls1 := [some (aR 0 0), some (aI x1), some (aI x2), some (aI x3), some (aR 28 x1.toNatClampNeg), none, none, none, none, none]) (st1 := [aI (m_X10_isMinute x2)]) (σ1 := σ) (P := []) (i := .ifCond .eq 12) (tgt := 28) (q := (m_X10_isMinute x2) = (0 : Int32)) rfl trivial (by decide +kernel) rfl (by decide) (fun h2 => ?_) (fun h2 => ?_)
    · rw [if_pos h2] at hm
      refine XW.bk B [(28, .ldc2_w 178)] (by decide +kernel) (pc1 := 31) (ls1 := [some (aR 0 0), some (aI x1), some (aI x2), some (aI x3), some (aR 28 x1.toNatClampNeg), none, none, none, none, none]) (st1 := [aJ (-9223372036854775808 : Int64)]) (σ1 := σ) (P := []) rfl trivial ?_
      obtain ⟨rfl, rfl⟩ := Prod.mk.inj (Option.some.inj hm)
      exact XW.lret B q (by decide +kernel)
    · rw [if_neg h2] at hm
      refine XW.bk B [(19, .iload_n 3), (20, .iconst 0), (21, .iconst 1)] (by decide +kernel) (pc1 := 22) (ls1 := [some (aR 0 0), some (aI x1), some (aI x2), some (aI x3), some (aR 28 x1.toNatClampNeg), none, none, none, none, none]) (st1 := [aI (1 : Int32), aI (0 : Int32), aI x3]) (σ1 := σ) (P := []) rfl trivial ?_
      refine XW.callS B (M := M_X10_isWithin) (as := [aI x3, aI (0 : Int32), aI (1 : Int32)]) (c_X10_isWithin x3 (0 : Int32) (1 : Int32) σ rfl) (by decide) wS_X10_isWithin wN_X10_isWithin lk_X10_90 rfl (Nat.le_of_ble_eq_true rfl) (by decide +kernel) ?_
      refine XW.bn B [] (by decide +kernel) (pc1 := 25) (ls1 := [some (aR 0 0), some (aI x1), some (aI x2), some (aI x3), some (aR 28 x1.toNatClampNeg), none, none, none, none, none]) (st1 := [aI (m_X10_isWithin x3 (0 : Int32) (1 : Int32))]) (σ1 := σ) (P := []) (i := .ifCond .ne 7) (tgt := 32) (q := (m_X10_isWithin x3 (0 : Int32) (1 : Int32)) = (0 : Int32)) rfl trivial (by decide +kernel) rfl (by decide) (fun h3 => ?_) (fun h3 => ?_)
      · rw [if_pos h3] at hm
        refine XW.bk B [(28, .ldc2_w 178)] (by decide +kernel) (pc1 := 31) (ls1 := [some (aR 0 0), some (aI x1), some (aI x2), some (aI x3), some (aR 28 x1.toNatClampNeg), none, none, none, none, none]) (st1 := [aJ (-9223372036854775808 : Int64)]) (σ1 := σ) (P := []) rfl trivial ?_
        obtain ⟨rfl, rfl⟩ := Prod.mk.inj (Option.some.inj hm)
        exact XW.lret B q (by decide +kernel)
      · rw [if_neg h3] at hm
        refine XW.bk B [(32, .aload_n 0), (33, .aload 4)] (by decide +kernel) (pc1 := 35) (ls1 := [some (aR 0 0), some (aI x1), some (aI x2), some (aI x3), some (aR 28 x1.toNatClampNeg), none, none, none, none, none]) (st1 := [aR 28 x1.toNatClampNeg, aR 0 0]) (σ1 := σ) (P := []) rfl trivial ?_
        refine XW.callV B (M := M_X10_walkRefused) (t := 0) (j := 0) (cn := 1) (as := [aR 28 x1.toNatClampNeg]) (c_X10_walkRefused x1.toNatClampNeg σ (sh_j h1) rfl) (by decide) wV_X10_walkRefused wN_X10_walkRefused lk_X10_154 rfl rfl rfl (by decide) rfl (Nat.le_of_ble_eq_true rfl) (by decide +kernel) ?_
        refine XW.bb B [(38, .istore 5), (40, .iload 5)] (by decide +kernel) (pc1 := 42) (ls1 := [some (aR 0 0), some (aI x1), some (aI x2), some (aI x3), some (aR 28 x1.toNatClampNeg), some (aI (m_X10_walkRefused x1.toNatClampNeg σ)), none, none, none, none]) (st1 := [aI (m_X10_walkRefused x1.toNatClampNeg σ)]) (σ1 := σ) (P := []) (i := .ifCond .eq 9) (tgt := 51) (q := (m_X10_walkRefused x1.toNatClampNeg σ) = (0 : Int32)) rfl trivial (by decide +kernel) rfl (by decide) (fun h4 => ?_) (fun h4 => ?_)
        · rw [if_pos h4] at hm
          refine XW.bk B [(51, .aload_n 0), (52, .getfield 23), (55, .iconst 0), (56, .bipush 10)] (by decide +kernel) (pc1 := 58) (ls1 := [some (aR 0 0), some (aI x1), some (aI x2), some (aI x3), some (aR 28 x1.toNatClampNeg), some (aI (m_X10_walkRefused x1.toNatClampNeg σ)), none, none, none, none]) (st1 := [aI (10 : Int32), aI (0 : Int32), aR 1 0]) (σ1 := σ) (P := []) rfl trivial ?_
          refine XW.callV B (M := M_X8_number) (t := 1) (j := 0) (cn := 1) (as := [aI (0 : Int32), aI (10 : Int32)]) (c_X8_number (0 : Int32) (10 : Int32) σ rfl) (by decide) wV_X8_number wN_X8_number lk_X10_235 rfl rfl rfl (by decide) rfl (Nat.le_of_ble_eq_true rfl) (by decide +kernel) ?_
          refine XW.bk B [(61, .i2l), (62, .lstore 6), (64, .aload_n 0), (65, .getfield 38)] (by decide +kernel) (pc1 := 68) (ls1 := [some (aR 0 0), some (aI x1), some (aI x2), some (aI x3), some (aR 28 x1.toNatClampNeg), some (aI (m_X10_walkRefused x1.toNatClampNeg σ)), some (aJ ((m_X8_number (0 : Int32) (10 : Int32) σ).toInt64)), none, none, none]) (st1 := [aR 14 0]) (σ1 := σ) (P := []) rfl trivial ?_
          obtain ⟨q5, hq5, hm⟩ := bnT_eq hm
          refine XW.callV B (M := M_X7_supposeNow) (t := 14) (j := 0) (cn := 1) (as := []) (c_X7_supposeNow σ hq5) (by decide) wV_X7_supposeNow wN_X7_supposeNow lk_X10_145 rfl rfl rfl (by decide) rfl (Nat.le_of_ble_eq_true rfl) (by decide +kernel) ?_
          refine XW.bk B [(71, .aload_n 0), (72, .getfield 47), (75, .aload 4), (77, .iconst 0), (78, .iload_n 2)] (by decide +kernel) (pc1 := 79) (ls1 := [some (aR 0 0), some (aI x1), some (aI x2), some (aI x3), some (aR 28 x1.toNatClampNeg), some (aI (m_X10_walkRefused x1.toNatClampNeg σ)), some (aJ ((m_X8_number (0 : Int32) (10 : Int32) σ).toInt64)), none, none, none]) (st1 := [aI x2, aI (0 : Int32), aR 28 x1.toNatClampNeg, aR 17 0]) (σ1 := q5) (P := []) rfl trivial ?_
          obtain ⟨q6, hq6, hm⟩ := obind_eq hm
          refine XW.callV B (M := M_X9_follow) (t := 17) (j := 0) (cn := 1) (as := [aR 28 x1.toNatClampNeg, aI (0 : Int32), aI x2]) (c_X9_follow x1.toNatClampNeg (0 : Int32) x2 q5 (sh_j h1) hq6) (by decide) wV_X9_follow wN_X9_follow lk_X10_162 rfl rfl rfl (by decide) rfl (Nat.le_of_ble_eq_true rfl) (by decide +kernel) ?_
          refine XW.bb B [(82, .aload_n 0), (83, .getfield 47), (86, .getfield 166), (89, .bipush (-2))] (by decide +kernel) (pc1 := 91) (ls1 := [some (aR 0 0), some (aI x1), some (aI x2), some (aI x3), some (aR 28 x1.toNatClampNeg), some (aI (m_X10_walkRefused x1.toNatClampNeg σ)), some (aJ ((m_X8_number (0 : Int32) (10 : Int32) σ).toInt64)), none, none, none]) (st1 := [aI (-2 : Int32), aI (q6.1 17 0 4)]) (σ1 := q6) (P := []) (i := .if_icmp .eq 14) (tgt := 105) (q := (q6.1 17 0 4) = (-2 : Int32)) rfl trivial (by decide +kernel) rfl (by decide) (fun h7 => ?_) (fun h7 => ?_)
          · rw [if_pos h7] at hm
            refine XW.bk B [(105, .aload_n 0), (106, .getfield 56)] (by decide +kernel) (pc1 := 109) (ls1 := [some (aR 0 0), some (aI x1), some (aI x2), some (aI x3), some (aR 28 x1.toNatClampNeg), some (aI (m_X10_walkRefused x1.toNatClampNeg σ)), some (aJ ((m_X8_number (0 : Int32) (10 : Int32) σ).toInt64)), none, none, none]) (st1 := [aR 20 0]) (σ1 := q6) (P := []) rfl trivial ?_
            obtain ⟨q8, hq8, hm⟩ := obind_eq hm
            refine XW.callV B (M := M_X0_allWays) (t := 20) (j := 0) (cn := 1) (as := []) (c_X0_allWays q6 hq8) (by decide) wV_X0_allWays wN_X0_allWays lk_X10_222 rfl rfl rfl (by decide) rfl (Nat.le_of_ble_eq_true rfl) (by decide +kernel) ?_
            refine XW.bk B [(112, .lstore 8), (114, .lload 6), (116, .lload 8), (118, .aload_n 0), (119, .getfield 56), (122, .iconst (-1)), (123, .iconst 0)] (by decide +kernel) (pc1 := 124) (ls1 := [some (aR 0 0), some (aI x1), some (aI x2), some (aI x3), some (aR 28 x1.toNatClampNeg), some (aI (m_X10_walkRefused x1.toNatClampNeg σ)), some (aJ ((m_X8_number (0 : Int32) (10 : Int32) σ).toInt64)), none, some (aJ q8), none]) (st1 := [aI (0 : Int32), aI (-1 : Int32), aR 20 0, aJ q8, aJ ((m_X8_number (0 : Int32) (10 : Int32) σ).toInt64)]) (σ1 := q6) (P := []) rfl trivial ?_
            obtain ⟨q9, hq9, hm⟩ := obind_eq hm
            refine XW.callV B (M := M_X0_freeWays) (t := 20) (j := 0) (cn := 1) (as := [aI (-1 : Int32), aI (0 : Int32)]) (c_X0_freeWays (-1 : Int32) (0 : Int32) q6 hq9) (by decide) wV_X0_freeWays wN_X0_freeWays lk_X10_218 rfl rfl rfl (by decide) rfl (Nat.le_of_ble_eq_true rfl) (by decide +kernel) ?_
            refine XW.bk B [(127, .lsub), (128, .lmul), (129, .lload 8), (131, .iload_n 3)] (by decide +kernel) (pc1 := 132) (ls1 := [some (aR 0 0), some (aI x1), some (aI x2), some (aI x3), some (aR 28 x1.toNatClampNeg), some (aI (m_X10_walkRefused x1.toNatClampNeg σ)), some (aJ ((m_X8_number (0 : Int32) (10 : Int32) σ).toInt64)), none, some (aJ q8), none]) (st1 := [aI x3, aJ q8, aJ ((m_X8_number (0 : Int32) (10 : Int32) σ).toInt64 * (q8 - q9))]) (σ1 := q6) (P := []) rfl trivial ?_
            obtain ⟨q10, hq10, hm⟩ := obind_eq hm
            refine XW.callS B (M := M_X0_partOf) (as := [aJ ((m_X8_number (0 : Int32) (10 : Int32) σ).toInt64 * (q8 - q9)), aJ q8, aI x3]) (c_X0_partOf ((m_X8_number (0 : Int32) (10 : Int32) σ).toInt64 * (q8 - q9)) q8 x3 q6 hq10) (by decide) wS_X0_partOf wN_X0_partOf lk_X10_225 rfl (Nat.le_of_ble_eq_true rfl) (by decide +kernel) ?_
            obtain ⟨rfl, rfl⟩ := Prod.mk.inj (Option.some.inj hm)
            exact XW.lret B q (by decide +kernel)
          · rw [if_neg h7] at hm
            refine XW.bn B [(94, .iload_n 3)] (by decide +kernel) (pc1 := 95) (ls1 := [some (aR 0 0), some (aI x1), some (aI x2), some (aI x3), some (aR 28 x1.toNatClampNeg), some (aI (m_X10_walkRefused x1.toNatClampNeg σ)), some (aJ ((m_X8_number (0 : Int32) (10 : Int32) σ).toInt64)), none, none, none]) (st1 := [aI x3]) (σ1 := q6) (P := []) (i := .ifCond .ne 8) (tgt := 103) (q := x3 = (0 : Int32)) rfl trivial (by decide +kernel) rfl (by decide) (fun h11 => ?_) (fun h11 => ?_)
            · rw [if_pos h11] at hm
              refine XW.bk B [(98, .lload 6), (100, .goto 4)] (by decide +kernel) (pc1 := 104) (ls1 := [some (aR 0 0), some (aI x1), some (aI x2), some (aI x3), some (aR 28 x1.toNatClampNeg), some (aI (m_X10_walkRefused x1.toNatClampNeg σ)), some (aJ ((m_X8_number (0 : Int32) (10 : Int32) σ).toInt64)), none, none, none]) (st1 := [aJ ((m_X8_number (0 : Int32) (10 : Int32) σ).toInt64)]) (σ1 := q6) (P := []) rfl trivial ?_
              obtain ⟨rfl, rfl⟩ := Prod.mk.inj (Option.some.inj hm)
              exact XW.lret B q (by decide +kernel)
            · rw [if_neg h11] at hm
              refine XW.bk B [(103, .lconst 1)] (by decide +kernel) (pc1 := 104) (ls1 := [some (aR 0 0), some (aI x1), some (aI x2), some (aI x3), some (aR 28 x1.toNatClampNeg), some (aI (m_X10_walkRefused x1.toNatClampNeg σ)), some (aJ ((m_X8_number (0 : Int32) (10 : Int32) σ).toInt64)), none, none, none]) (st1 := [aJ (1 : Int64)]) (σ1 := q6) (P := []) rfl trivial ?_
              obtain ⟨rfl, rfl⟩ := Prod.mk.inj (Option.some.inj hm)
              exact XW.lret B q (by decide +kernel)
        · rw [if_neg h4] at hm
          refine XW.bk B [(45, .iload 5)] (by decide +kernel) (pc1 := 47) (ls1 := [some (aR 0 0), some (aI x1), some (aI x2), some (aI x3), some (aR 28 x1.toNatClampNeg), some (aI (m_X10_walkRefused x1.toNatClampNeg σ)), none, none, none, none]) (st1 := [aI (m_X10_walkRefused x1.toNatClampNeg σ)]) (σ1 := σ) (P := []) rfl trivial ?_
          refine XW.callS B (M := M_X10_longRefusal) (as := [aI (m_X10_walkRefused x1.toNatClampNeg σ)]) (c_X10_longRefusal (m_X10_walkRefused x1.toNatClampNeg σ) σ rfl) (by decide) wS_X10_longRefusal wN_X10_longRefusal lk_X10_232 rfl (Nat.le_of_ble_eq_true rfl) (by decide +kernel) ?_
          obtain ⟨rfl, rfl⟩ := Prod.mk.inj (Option.some.inj hm)
          exact XW.lret B q (by decide +kernel)

def m_X10_begun (x1 : Int32) (x2 : Int32) (σ : SS) : Option (Int64 × SS) :=
  if x1 < 0 ∨ ¬ x1 < 6 then
    some ((-9223372036854775808 : Int64), σ)
  else
  if (m_X10_isHold x2) = (0 : Int32) then
    some ((-9223372036854775808 : Int64), σ)
  else
  if (m_X10_walkRefused x1.toNatClampNeg σ) = (0 : Int32) then
    Option.bind (m_X9_minutesLike x1.toNatClampNeg x2 σ) (fun q4 =>
    some (q4.1, q4.2))
  else
  some ((m_X10_longRefusal (m_X10_walkRefused x1.toNatClampNeg σ)), σ)
set_option maxRecDepth 100000 in
set_option maxHeartbeats 4000000 in
theorem c_X10_begun (x1 : Int32) (x2 : Int32) (σ : SS) {r : Int64} {σ' : SS} (hm : m_X10_begun x1 x2 σ = some (r, σ')) : XM LC 7 M_X10_begun [aR 0 0, aI x1, aI x2] σ (some (aJ r)) σ' := by
  refine XM.of (K := K10) (by decide) (by decide +kernel) K10_ok (Nat.le_of_ble_eq_true rfl) (fun Γ B q => ?_)
  unfold m_X10_begun at hm
  refine XW.bk B [(0, .aload_n 0), (1, .iload_n 1)] (by decide +kernel) (pc1 := 2) (ls1 := [some (aR 0 0), some (aI x1), some (aI x2), none, none]) (st1 := [aI x1, aR 0 0]) (σ1 := σ) (P := []) rfl trivial ?_
  by_cases h1 : x1 < 0 ∨ ¬ x1 < 6
  · rw [if_pos h1] at hm
    refine XW.callV B (M := M_X10_shelfAt) (t := 0) (j := 0) (cn := 1) (as := [aI x1]) (c_shelfAt0 h1 σ) (by decide) wV_X10_shelfAt wN_X10_shelfAt lk_X10_86 rfl rfl rfl (by decide) rfl (Nat.le_of_ble_eq_true rfl) (by decide +kernel) ?_
    refine XW.bk B [(5, .astore_n 3), (6, .aload_n 3)] (by decide +kernel) (pc1 := 7) (ls1 := [some (aR 0 0), some (aI x1), some (aI x2), some (aN), none]) (st1 := [aN]) (σ1 := σ) (P := []) rfl trivial ?_
    refine XW.nullN B (off := 10) (tgt := 17) (by decide +kernel) (by decide) ?_
    refine XW.bk B [(17, .ldc2_w 178)] (by decide +kernel) (pc1 := 20) (ls1 := [some (aR 0 0), some (aI x1), some (aI x2), some (aN), none]) (st1 := [aJ (-9223372036854775808 : Int64)]) (σ1 := σ) (P := []) rfl trivial ?_
    obtain ⟨rfl, rfl⟩ := Prod.mk.inj (Option.some.inj hm)
    exact XW.lret B q (by decide +kernel)
  · rw [if_neg h1] at hm
    refine XW.callV B (M := M_X10_shelfAt) (t := 0) (j := 0) (cn := 1) (as := [aI x1]) (c_shelfAt1 h1 σ) (by decide) wV_X10_shelfAt wN_X10_shelfAt lk_X10_86 rfl rfl rfl (by decide) rfl (Nat.le_of_ble_eq_true rfl) (by decide +kernel) ?_
    refine XW.bk B [(5, .astore_n 3), (6, .aload_n 3)] (by decide +kernel) (pc1 := 7) (ls1 := [some (aR 0 0), some (aI x1), some (aI x2), some (aR 28 x1.toNatClampNeg), none]) (st1 := [aR 28 x1.toNatClampNeg]) (σ1 := σ) (P := []) rfl trivial ?_
    refine XW.nullR B (off := 10) (by decide +kernel) ?_
    refine XW.bk B [(10, .iload_n 2)] (by decide +kernel) (pc1 := 11) (ls1 := [some (aR 0 0), some (aI x1), some (aI x2), some (aR 28 x1.toNatClampNeg), none]) (st1 := [aI x2]) (σ1 := σ) (P := []) rfl trivial ?_
    refine XW.callS B (M := M_X10_isHold) (as := [aI x2]) (c_X10_isHold x2 σ rfl) (by decide) wS_X10_isHold wN_X10_isHold lk_X10_142 rfl (Nat.le_of_ble_eq_true rfl) (by decide +kernel) ?_
    refine XW.bn B [] (by decide +kernel) (pc1 := 14) (ls1 := [some (aR 0 0), some (aI x1), some (aI x2), some (aR 28 x1.toNatClampNeg), none]) (st1 := [aI (m_X10_isHold x2)]) (σ1 := σ) (P := []) (i := .ifCond .ne 7) (tgt := 21) (q := (m_X10_isHold x2) = (0 : Int32)) rfl trivial (by decide +kernel) rfl (by decide) (fun h2 => ?_) (fun h2 => ?_)
    · rw [if_pos h2] at hm
      refine XW.bk B [(17, .ldc2_w 178)] (by decide +kernel) (pc1 := 20) (ls1 := [some (aR 0 0), some (aI x1), some (aI x2), some (aR 28 x1.toNatClampNeg), none]) (st1 := [aJ (-9223372036854775808 : Int64)]) (σ1 := σ) (P := []) rfl trivial ?_
      obtain ⟨rfl, rfl⟩ := Prod.mk.inj (Option.some.inj hm)
      exact XW.lret B q (by decide +kernel)
    · rw [if_neg h2] at hm
      refine XW.bk B [(21, .aload_n 0), (22, .aload_n 3)] (by decide +kernel) (pc1 := 23) (ls1 := [some (aR 0 0), some (aI x1), some (aI x2), some (aR 28 x1.toNatClampNeg), none]) (st1 := [aR 28 x1.toNatClampNeg, aR 0 0]) (σ1 := σ) (P := []) rfl trivial ?_
      refine XW.callV B (M := M_X10_walkRefused) (t := 0) (j := 0) (cn := 1) (as := [aR 28 x1.toNatClampNeg]) (c_X10_walkRefused x1.toNatClampNeg σ (sh_j h1) rfl) (by decide) wV_X10_walkRefused wN_X10_walkRefused lk_X10_154 rfl rfl rfl (by decide) rfl (Nat.le_of_ble_eq_true rfl) (by decide +kernel) ?_
      refine XW.bb B [(26, .istore 4), (28, .iload 4)] (by decide +kernel) (pc1 := 30) (ls1 := [some (aR 0 0), some (aI x1), some (aI x2), some (aR 28 x1.toNatClampNeg), some (aI (m_X10_walkRefused x1.toNatClampNeg σ))]) (st1 := [aI (m_X10_walkRefused x1.toNatClampNeg σ)]) (σ1 := σ) (P := []) (i := .ifCond .eq 11) (tgt := 41) (q := (m_X10_walkRefused x1.toNatClampNeg σ) = (0 : Int32)) rfl trivial (by decide +kernel) rfl (by decide) (fun h3 => ?_) (fun h3 => ?_)
      · rw [if_pos h3] at hm
        refine XW.bk B [(41, .aload_n 0), (42, .getfield 47), (45, .aload_n 3), (46, .iload_n 2)] (by decide +kernel) (pc1 := 47) (ls1 := [some (aR 0 0), some (aI x1), some (aI x2), some (aR 28 x1.toNatClampNeg), some (aI (m_X10_walkRefused x1.toNatClampNeg σ))]) (st1 := [aI x2, aR 28 x1.toNatClampNeg, aR 17 0]) (σ1 := σ) (P := []) rfl trivial ?_
        obtain ⟨q4, hq4, hm⟩ := obind_eq hm
        refine XW.callV B (M := M_X9_minutesLike) (t := 17) (j := 0) (cn := 1) (as := [aR 28 x1.toNatClampNeg, aI x2]) (c_X9_minutesLike x1.toNatClampNeg x2 σ (sh_j h1) hq4) (by decide) wV_X9_minutesLike wN_X9_minutesLike lk_X10_238 rfl rfl rfl (by decide) rfl (Nat.le_of_ble_eq_true rfl) (by decide +kernel) ?_
        obtain ⟨rfl, rfl⟩ := Prod.mk.inj (Option.some.inj hm)
        exact XW.lret B q (by decide +kernel)
      · rw [if_neg h3] at hm
        refine XW.bk B [(33, .iload 4)] (by decide +kernel) (pc1 := 35) (ls1 := [some (aR 0 0), some (aI x1), some (aI x2), some (aR 28 x1.toNatClampNeg), some (aI (m_X10_walkRefused x1.toNatClampNeg σ))]) (st1 := [aI (m_X10_walkRefused x1.toNatClampNeg σ)]) (σ1 := σ) (P := []) rfl trivial ?_
        refine XW.callS B (M := M_X10_longRefusal) (as := [aI (m_X10_walkRefused x1.toNatClampNeg σ)]) (c_X10_longRefusal (m_X10_walkRefused x1.toNatClampNeg σ) σ rfl) (by decide) wS_X10_longRefusal wN_X10_longRefusal lk_X10_232 rfl (Nat.le_of_ble_eq_true rfl) (by decide +kernel) ?_
        refine XW.bk B [(38, .goto 12)] (by decide +kernel) (pc1 := 50) (ls1 := [some (aR 0 0), some (aI x1), some (aI x2), some (aR 28 x1.toNatClampNeg), some (aI (m_X10_walkRefused x1.toNatClampNeg σ))]) (st1 := [aJ (m_X10_longRefusal (m_X10_walkRefused x1.toNatClampNeg σ))]) (σ1 := σ) (P := []) rfl trivial ?_
        obtain ⟨rfl, rfl⟩ := Prod.mk.inj (Option.some.inj hm)
        exact XW.lret B q (by decide +kernel)

def m_X10_judge (x1 : Int32) (x2 : Int32) (σ : SS) : Option (Int32 × SS) :=
  if x1 < 0 ∨ ¬ x1 < 6 then
    some ((-1 : Int32), σ)
  else
  if (m_X10_isMinute (x2 / (10 : Int32))) = (0 : Int32) then
    some ((-1 : Int32), σ)
  else
  if (m_X10_isHold (x2 - (x2 / (10 : Int32)) * (10 : Int32))) = (0 : Int32) then
    some ((-1 : Int32), σ)
  else
  if (m_X10_walkRefused x1.toNatClampNeg σ) = (0 : Int32) then
    bnT (m_X7_supposeNow σ) (fun q5 =>
    Option.bind (m_X9_firstUnlike x1.toNatClampNeg (x2 / (10 : Int32)) (x2 - (x2 / (10 : Int32)) * (10 : Int32)) q5) (fun q6 =>
    some (q6.1, q6.2)))
  else
  some ((m_X10_walkRefused x1.toNatClampNeg σ), σ)
set_option maxRecDepth 100000 in
set_option maxHeartbeats 4000000 in
theorem c_X10_judge (x1 : Int32) (x2 : Int32) (σ : SS) {r : Int32} {σ' : SS} (hm : m_X10_judge x1 x2 σ = some (r, σ')) : XM LC 6 M_X10_judge [aR 0 0, aI x1, aI x2] σ (some (aI r)) σ' := by
  refine XM.of (K := K10) (by decide) (by decide +kernel) K10_ok (Nat.le_of_ble_eq_true rfl) (fun Γ B q => ?_)
  unfold m_X10_judge at hm
  refine XW.bk B [(0, .iload_n 2), (1, .bipush 10), (3, .idiv), (4, .istore_n 3), (5, .iload_n 2), (6, .bipush 10), (8, .irem), (9, .istore 4), (11, .aload_n 0), (12, .iload_n 1)] (by decide +kernel) (pc1 := 13) (ls1 := [some (aR 0 0), some (aI x1), some (aI x2), some (aI (x2 / (10 : Int32))), some (aI (x2 - (x2 / (10 : Int32)) * (10 : Int32))), none, none]) (st1 := [aI x1, aR 0 0]) (σ1 := σ) (P := [¬ (10 : Int32) = 0, ¬ (10 : Int32) = 0]) rfl ⟨(by decide), (by decide), trivial⟩ ?_
  by_cases h1 : x1 < 0 ∨ ¬ x1 < 6
  · rw [if_pos h1] at hm
    refine XW.callV B (M := M_X10_shelfAt) (t := 0) (j := 0) (cn := 1) (as := [aI x1]) (c_shelfAt0 h1 σ) (by decide) wV_X10_shelfAt wN_X10_shelfAt lk_X10_86 rfl rfl rfl (by decide) rfl (Nat.le_of_ble_eq_true rfl) (by decide +kernel) ?_
    refine XW.bk B [(16, .astore 5), (18, .aload 5)] (by decide +kernel) (pc1 := 20) (ls1 := [some (aR 0 0), some (aI x1), some (aI x2), some (aI (x2 / (10 : Int32))), some (aI (x2 - (x2 / (10 : Int32)) * (10 : Int32))), some (aN), none]) (st1 := [aN]) (σ1 := σ) (P := []) rfl trivial ?_
    refine XW.nullN B (off := 18) (tgt := 38) (by decide +kernel) (by decide) ?_
    refine XW.bk B [(38, .iconst (-1))] (by decide +kernel) (pc1 := 39) (ls1 := [some (aR 0 0), some (aI x1), some (aI x2), some (aI (x2 / (10 : Int32))), some (aI (x2 - (x2 / (10 : Int32)) * (10 : Int32))), some (aN), none]) (st1 := [aI (-1 : Int32)]) (σ1 := σ) (P := []) rfl trivial ?_
    obtain ⟨rfl, rfl⟩ := Prod.mk.inj (Option.some.inj hm)
    exact XW.iret B q (by decide +kernel)
  · rw [if_neg h1] at hm
    refine XW.callV B (M := M_X10_shelfAt) (t := 0) (j := 0) (cn := 1) (as := [aI x1]) (c_shelfAt1 h1 σ) (by decide) wV_X10_shelfAt wN_X10_shelfAt lk_X10_86 rfl rfl rfl (by decide) rfl (Nat.le_of_ble_eq_true rfl) (by decide +kernel) ?_
    refine XW.bk B [(16, .astore 5), (18, .aload 5)] (by decide +kernel) (pc1 := 20) (ls1 := [some (aR 0 0), some (aI x1), some (aI x2), some (aI (x2 / (10 : Int32))), some (aI (x2 - (x2 / (10 : Int32)) * (10 : Int32))), some (aR 28 x1.toNatClampNeg), none]) (st1 := [aR 28 x1.toNatClampNeg]) (σ1 := σ) (P := []) rfl trivial ?_
    refine XW.nullR B (off := 18) (by decide +kernel) ?_
    refine XW.bk B [(23, .iload_n 3)] (by decide +kernel) (pc1 := 24) (ls1 := [some (aR 0 0), some (aI x1), some (aI x2), some (aI (x2 / (10 : Int32))), some (aI (x2 - (x2 / (10 : Int32)) * (10 : Int32))), some (aR 28 x1.toNatClampNeg), none]) (st1 := [aI (x2 / (10 : Int32))]) (σ1 := σ) (P := []) rfl trivial ?_
    refine XW.callS B (M := M_X10_isMinute) (as := [aI (x2 / (10 : Int32))]) (c_X10_isMinute (x2 / (10 : Int32)) σ rfl) (by decide) wS_X10_isMinute wN_X10_isMinute lk_X10_151 rfl (Nat.le_of_ble_eq_true rfl) (by decide +kernel) ?_
    refine XW.bb B [] (by decide +kernel) (pc1 := 27) (ls1 := [some (aR 0 0), some (aI x1), some (aI x2), some (aI (x2 / (10 : Int32))), some (aI (x2 - (x2 / (10 : Int32)) * (10 : Int32))), some (aR 28 x1.toNatClampNeg), none]) (st1 := [aI (m_X10_isMinute (x2 / (10 : Int32)))]) (σ1 := σ) (P := []) (i := .ifCond .eq 11) (tgt := 38) (q := (m_X10_isMinute (x2 / (10 : Int32))) = (0 : Int32)) rfl trivial (by decide +kernel) rfl (by decide) (fun h2 => ?_) (fun h2 => ?_)
    · rw [if_pos h2] at hm
      refine XW.bk B [(38, .iconst (-1))] (by decide +kernel) (pc1 := 39) (ls1 := [some (aR 0 0), some (aI x1), some (aI x2), some (aI (x2 / (10 : Int32))), some (aI (x2 - (x2 / (10 : Int32)) * (10 : Int32))), some (aR 28 x1.toNatClampNeg), none]) (st1 := [aI (-1 : Int32)]) (σ1 := σ) (P := []) rfl trivial ?_
      obtain ⟨rfl, rfl⟩ := Prod.mk.inj (Option.some.inj hm)
      exact XW.iret B q (by decide +kernel)
    · rw [if_neg h2] at hm
      refine XW.bk B [(30, .iload 4)] (by decide +kernel) (pc1 := 32) (ls1 := [some (aR 0 0), some (aI x1), some (aI x2), some (aI (x2 / (10 : Int32))), some (aI (x2 - (x2 / (10 : Int32)) * (10 : Int32))), some (aR 28 x1.toNatClampNeg), none]) (st1 := [aI (x2 - (x2 / (10 : Int32)) * (10 : Int32))]) (σ1 := σ) (P := []) rfl trivial ?_
      refine XW.callS B (M := M_X10_isHold) (as := [aI (x2 - (x2 / (10 : Int32)) * (10 : Int32))]) (c_X10_isHold (x2 - (x2 / (10 : Int32)) * (10 : Int32)) σ rfl) (by decide) wS_X10_isHold wN_X10_isHold lk_X10_142 rfl (Nat.le_of_ble_eq_true rfl) (by decide +kernel) ?_
      refine XW.bn B [] (by decide +kernel) (pc1 := 35) (ls1 := [some (aR 0 0), some (aI x1), some (aI x2), some (aI (x2 / (10 : Int32))), some (aI (x2 - (x2 / (10 : Int32)) * (10 : Int32))), some (aR 28 x1.toNatClampNeg), none]) (st1 := [aI (m_X10_isHold (x2 - (x2 / (10 : Int32)) * (10 : Int32)))]) (σ1 := σ) (P := []) (i := .ifCond .ne 5) (tgt := 40) (q := (m_X10_isHold (x2 - (x2 / (10 : Int32)) * (10 : Int32))) = (0 : Int32)) rfl trivial (by decide +kernel) rfl (by decide) (fun h3 => ?_) (fun h3 => ?_)
      · rw [if_pos h3] at hm
        refine XW.bk B [(38, .iconst (-1))] (by decide +kernel) (pc1 := 39) (ls1 := [some (aR 0 0), some (aI x1), some (aI x2), some (aI (x2 / (10 : Int32))), some (aI (x2 - (x2 / (10 : Int32)) * (10 : Int32))), some (aR 28 x1.toNatClampNeg), none]) (st1 := [aI (-1 : Int32)]) (σ1 := σ) (P := []) rfl trivial ?_
        obtain ⟨rfl, rfl⟩ := Prod.mk.inj (Option.some.inj hm)
        exact XW.iret B q (by decide +kernel)
      · rw [if_neg h3] at hm
        refine XW.bk B [(40, .aload_n 0), (41, .aload 5)] (by decide +kernel) (pc1 := 43) (ls1 := [some (aR 0 0), some (aI x1), some (aI x2), some (aI (x2 / (10 : Int32))), some (aI (x2 - (x2 / (10 : Int32)) * (10 : Int32))), some (aR 28 x1.toNatClampNeg), none]) (st1 := [aR 28 x1.toNatClampNeg, aR 0 0]) (σ1 := σ) (P := []) rfl trivial ?_
        refine XW.callV B (M := M_X10_walkRefused) (t := 0) (j := 0) (cn := 1) (as := [aR 28 x1.toNatClampNeg]) (c_X10_walkRefused x1.toNatClampNeg σ (sh_j h1) rfl) (by decide) wV_X10_walkRefused wN_X10_walkRefused lk_X10_154 rfl rfl rfl (by decide) rfl (Nat.le_of_ble_eq_true rfl) (by decide +kernel) ?_
        refine XW.bb B [(46, .istore 6), (48, .iload 6)] (by decide +kernel) (pc1 := 50) (ls1 := [some (aR 0 0), some (aI x1), some (aI x2), some (aI (x2 / (10 : Int32))), some (aI (x2 - (x2 / (10 : Int32)) * (10 : Int32))), some (aR 28 x1.toNatClampNeg), some (aI (m_X10_walkRefused x1.toNatClampNeg σ))]) (st1 := [aI (m_X10_walkRefused x1.toNatClampNeg σ)]) (σ1 := σ) (P := []) (i := .ifCond .eq 6) (tgt := 56) (q := (m_X10_walkRefused x1.toNatClampNeg σ) = (0 : Int32)) rfl trivial (by decide +kernel) rfl (by decide) (fun h4 => ?_) (fun h4 => ?_)
        · rw [if_pos h4] at hm
          refine XW.bk B [(56, .aload_n 0), (57, .getfield 38)] (by decide +kernel) (pc1 := 60) (ls1 := [some (aR 0 0), some (aI x1), some (aI x2), some (aI (x2 / (10 : Int32))), some (aI (x2 - (x2 / (10 : Int32)) * (10 : Int32))), some (aR 28 x1.toNatClampNeg), some (aI (m_X10_walkRefused x1.toNatClampNeg σ))]) (st1 := [aR 14 0]) (σ1 := σ) (P := []) rfl trivial ?_
          obtain ⟨q5, hq5, hm⟩ := bnT_eq hm
          refine XW.callV B (M := M_X7_supposeNow) (t := 14) (j := 0) (cn := 1) (as := []) (c_X7_supposeNow σ hq5) (by decide) wV_X7_supposeNow wN_X7_supposeNow lk_X10_145 rfl rfl rfl (by decide) rfl (Nat.le_of_ble_eq_true rfl) (by decide +kernel) ?_
          refine XW.bk B [(63, .aload_n 0), (64, .getfield 47), (67, .aload 5), (69, .iload_n 3), (70, .iload 4)] (by decide +kernel) (pc1 := 72) (ls1 := [some (aR 0 0), some (aI x1), some (aI x2), some (aI (x2 / (10 : Int32))), some (aI (x2 - (x2 / (10 : Int32)) * (10 : Int32))), some (aR 28 x1.toNatClampNeg), some (aI (m_X10_walkRefused x1.toNatClampNeg σ))]) (st1 := [aI (x2 - (x2 / (10 : Int32)) * (10 : Int32)), aI (x2 / (10 : Int32)), aR 28 x1.toNatClampNeg, aR 17 0]) (σ1 := q5) (P := []) rfl trivial ?_
          obtain ⟨q6, hq6, hm⟩ := obind_eq hm
          refine XW.callV B (M := M_X9_firstUnlike) (t := 17) (j := 0) (cn := 1) (as := [aR 28 x1.toNatClampNeg, aI (x2 / (10 : Int32)), aI (x2 - (x2 / (10 : Int32)) * (10 : Int32))]) (c_X9_firstUnlike x1.toNatClampNeg (x2 / (10 : Int32)) (x2 - (x2 / (10 : Int32)) * (10 : Int32)) q5 (sh_j h1) hq6) (by decide) wV_X9_firstUnlike wN_X9_firstUnlike lk_X10_242 rfl rfl rfl (by decide) rfl (Nat.le_of_ble_eq_true rfl) (by decide +kernel) ?_
          obtain ⟨rfl, rfl⟩ := Prod.mk.inj (Option.some.inj hm)
          exact XW.iret B q (by decide +kernel)
        · rw [if_neg h4] at hm
          refine XW.bk B [(53, .iload 6)] (by decide +kernel) (pc1 := 55) (ls1 := [some (aR 0 0), some (aI x1), some (aI x2), some (aI (x2 / (10 : Int32))), some (aI (x2 - (x2 / (10 : Int32)) * (10 : Int32))), some (aR 28 x1.toNatClampNeg), some (aI (m_X10_walkRefused x1.toNatClampNeg σ))]) (st1 := [aI (m_X10_walkRefused x1.toNatClampNeg σ)]) (σ1 := σ) (P := []) rfl trivial ?_
          obtain ⟨rfl, rfl⟩ := Prod.mk.inj (Option.some.inj hm)
          exact XW.iret B q (by decide +kernel)

def m_X10_drawn (x1 : Int32) (x2 : Int32) (x3 : Int32) (σ : SS) : Option (Int32 × SS) :=
  if (m_X10_isWithin (x2 / (10 : Int32)) (1 : Int32) (30 : Int32)) = (0 : Int32) then
    some ((-1 : Int32), σ)
  else
  if (m_X10_isHold (x2 - (x2 / (10 : Int32)) * (10 : Int32))) = (0 : Int32) then
    some ((-1 : Int32), σ)
  else
  if (m_X10_isWithin x3 (0 : Int32) (1 : Int32)) = (0 : Int32) then
    some ((-1 : Int32), σ)
  else
  if (σ.1 1 0 1) = (0 : Int32) then
    some ((-5 : Int32), σ)
  else
  Option.bind (m_X9_draw x1 (x2 / (10 : Int32)) (x2 - (x2 / (10 : Int32)) * (10 : Int32)) σ) (fun q5 =>
  if x3 = (0 : Int32) then
    some ((q5.1 17 0 6), q5)
  else
  some ((q5.1 17 0 7), q5))
set_option maxRecDepth 100000 in
set_option maxHeartbeats 4000000 in
theorem c_X10_drawn (x1 : Int32) (x2 : Int32) (x3 : Int32) (σ : SS) {r : Int32} {σ' : SS} (hm : m_X10_drawn x1 x2 x3 σ = some (r, σ')) : XM LC 7 M_X10_drawn [aR 0 0, aI x1, aI x2, aI x3] σ (some (aI r)) σ' := by
  refine XM.of (K := K10) (by decide) (by decide +kernel) K10_ok (Nat.le_of_ble_eq_true rfl) (fun Γ B q => ?_)
  unfold m_X10_drawn at hm
  refine XW.bk B [(0, .iload_n 2), (1, .bipush 10), (3, .idiv), (4, .istore 4), (6, .iload_n 2), (7, .bipush 10), (9, .irem), (10, .istore 5), (12, .iload 4), (14, .iconst 1), (15, .bipush 30)] (by decide +kernel) (pc1 := 17) (ls1 := [some (aR 0 0), some (aI x1), some (aI x2), some (aI x3), some (aI (x2 / (10 : Int32))), some (aI (x2 - (x2 / (10 : Int32)) * (10 : Int32)))]) (st1 := [aI (30 : Int32), aI (1 : Int32), aI (x2 / (10 : Int32))]) (σ1 := σ) (P := [¬ (10 : Int32) = 0, ¬ (10 : Int32) = 0]) rfl ⟨(by decide), (by decide), trivial⟩ ?_
  refine XW.callS B (M := M_X10_isWithin) (as := [aI (x2 / (10 : Int32)), aI (1 : Int32), aI (30 : Int32)]) (c_X10_isWithin (x2 / (10 : Int32)) (1 : Int32) (30 : Int32) σ rfl) (by decide) wS_X10_isWithin wN_X10_isWithin lk_X10_90 rfl (Nat.le_of_ble_eq_true rfl) (by decide +kernel) ?_
  refine XW.bb B [] (by decide +kernel) (pc1 := 20) (ls1 := [some (aR 0 0), some (aI x1), some (aI x2), some (aI x3), some (aI (x2 / (10 : Int32))), some (aI (x2 - (x2 / (10 : Int32)) * (10 : Int32)))]) (st1 := [aI (m_X10_isWithin (x2 / (10 : Int32)) (1 : Int32) (30 : Int32))]) (σ1 := σ) (P := []) (i := .ifCond .eq 20) (tgt := 40) (q := (m_X10_isWithin (x2 / (10 : Int32)) (1 : Int32) (30 : Int32)) = (0 : Int32)) rfl trivial (by decide +kernel) rfl (by decide) (fun h1 => ?_) (fun h1 => ?_)
  · rw [if_pos h1] at hm
    refine XW.bk B [(40, .iconst (-1))] (by decide +kernel) (pc1 := 41) (ls1 := [some (aR 0 0), some (aI x1), some (aI x2), some (aI x3), some (aI (x2 / (10 : Int32))), some (aI (x2 - (x2 / (10 : Int32)) * (10 : Int32)))]) (st1 := [aI (-1 : Int32)]) (σ1 := σ) (P := []) rfl trivial ?_
    obtain ⟨rfl, rfl⟩ := Prod.mk.inj (Option.some.inj hm)
    exact XW.iret B q (by decide +kernel)
  · rw [if_neg h1] at hm
    refine XW.bk B [(23, .iload 5)] (by decide +kernel) (pc1 := 25) (ls1 := [some (aR 0 0), some (aI x1), some (aI x2), some (aI x3), some (aI (x2 / (10 : Int32))), some (aI (x2 - (x2 / (10 : Int32)) * (10 : Int32)))]) (st1 := [aI (x2 - (x2 / (10 : Int32)) * (10 : Int32))]) (σ1 := σ) (P := []) rfl trivial ?_
    refine XW.callS B (M := M_X10_isHold) (as := [aI (x2 - (x2 / (10 : Int32)) * (10 : Int32))]) (c_X10_isHold (x2 - (x2 / (10 : Int32)) * (10 : Int32)) σ rfl) (by decide) wS_X10_isHold wN_X10_isHold lk_X10_142 rfl (Nat.le_of_ble_eq_true rfl) (by decide +kernel) ?_
    refine XW.bb B [] (by decide +kernel) (pc1 := 28) (ls1 := [some (aR 0 0), some (aI x1), some (aI x2), some (aI x3), some (aI (x2 / (10 : Int32))), some (aI (x2 - (x2 / (10 : Int32)) * (10 : Int32)))]) (st1 := [aI (m_X10_isHold (x2 - (x2 / (10 : Int32)) * (10 : Int32)))]) (σ1 := σ) (P := []) (i := .ifCond .eq 12) (tgt := 40) (q := (m_X10_isHold (x2 - (x2 / (10 : Int32)) * (10 : Int32))) = (0 : Int32)) rfl trivial (by decide +kernel) rfl (by decide) (fun h2 => ?_) (fun h2 => ?_)
    · rw [if_pos h2] at hm
      refine XW.bk B [(40, .iconst (-1))] (by decide +kernel) (pc1 := 41) (ls1 := [some (aR 0 0), some (aI x1), some (aI x2), some (aI x3), some (aI (x2 / (10 : Int32))), some (aI (x2 - (x2 / (10 : Int32)) * (10 : Int32)))]) (st1 := [aI (-1 : Int32)]) (σ1 := σ) (P := []) rfl trivial ?_
      obtain ⟨rfl, rfl⟩ := Prod.mk.inj (Option.some.inj hm)
      exact XW.iret B q (by decide +kernel)
    · rw [if_neg h2] at hm
      refine XW.bk B [(31, .iload_n 3), (32, .iconst 0), (33, .iconst 1)] (by decide +kernel) (pc1 := 34) (ls1 := [some (aR 0 0), some (aI x1), some (aI x2), some (aI x3), some (aI (x2 / (10 : Int32))), some (aI (x2 - (x2 / (10 : Int32)) * (10 : Int32)))]) (st1 := [aI (1 : Int32), aI (0 : Int32), aI x3]) (σ1 := σ) (P := []) rfl trivial ?_
      refine XW.callS B (M := M_X10_isWithin) (as := [aI x3, aI (0 : Int32), aI (1 : Int32)]) (c_X10_isWithin x3 (0 : Int32) (1 : Int32) σ rfl) (by decide) wS_X10_isWithin wN_X10_isWithin lk_X10_90 rfl (Nat.le_of_ble_eq_true rfl) (by decide +kernel) ?_
      refine XW.bn B [] (by decide +kernel) (pc1 := 37) (ls1 := [some (aR 0 0), some (aI x1), some (aI x2), some (aI x3), some (aI (x2 / (10 : Int32))), some (aI (x2 - (x2 / (10 : Int32)) * (10 : Int32)))]) (st1 := [aI (m_X10_isWithin x3 (0 : Int32) (1 : Int32))]) (σ1 := σ) (P := []) (i := .ifCond .ne 5) (tgt := 42) (q := (m_X10_isWithin x3 (0 : Int32) (1 : Int32)) = (0 : Int32)) rfl trivial (by decide +kernel) rfl (by decide) (fun h3 => ?_) (fun h3 => ?_)
      · rw [if_pos h3] at hm
        refine XW.bk B [(40, .iconst (-1))] (by decide +kernel) (pc1 := 41) (ls1 := [some (aR 0 0), some (aI x1), some (aI x2), some (aI x3), some (aI (x2 / (10 : Int32))), some (aI (x2 - (x2 / (10 : Int32)) * (10 : Int32)))]) (st1 := [aI (-1 : Int32)]) (σ1 := σ) (P := []) rfl trivial ?_
        obtain ⟨rfl, rfl⟩ := Prod.mk.inj (Option.some.inj hm)
        exact XW.iret B q (by decide +kernel)
      · rw [if_neg h3] at hm
        refine XW.bn B [(42, .aload_n 0), (43, .getfield 23), (46, .getfield 180)] (by decide +kernel) (pc1 := 49) (ls1 := [some (aR 0 0), some (aI x1), some (aI x2), some (aI x3), some (aI (x2 / (10 : Int32))), some (aI (x2 - (x2 / (10 : Int32)) * (10 : Int32)))]) (st1 := [aI (σ.1 1 0 1)]) (σ1 := σ) (P := []) (i := .ifCond .ne 6) (tgt := 55) (q := (σ.1 1 0 1) = (0 : Int32)) rfl trivial (by decide +kernel) rfl (by decide) (fun h4 => ?_) (fun h4 => ?_)
        · rw [if_pos h4] at hm
          refine XW.bk B [(52, .bipush (-5))] (by decide +kernel) (pc1 := 54) (ls1 := [some (aR 0 0), some (aI x1), some (aI x2), some (aI x3), some (aI (x2 / (10 : Int32))), some (aI (x2 - (x2 / (10 : Int32)) * (10 : Int32)))]) (st1 := [aI (-5 : Int32)]) (σ1 := σ) (P := []) rfl trivial ?_
          obtain ⟨rfl, rfl⟩ := Prod.mk.inj (Option.some.inj hm)
          exact XW.iret B q (by decide +kernel)
        · rw [if_neg h4] at hm
          refine XW.bk B [(55, .aload_n 0), (56, .getfield 47), (59, .iload_n 1), (60, .iload 4), (62, .iload 5)] (by decide +kernel) (pc1 := 64) (ls1 := [some (aR 0 0), some (aI x1), some (aI x2), some (aI x3), some (aI (x2 / (10 : Int32))), some (aI (x2 - (x2 / (10 : Int32)) * (10 : Int32)))]) (st1 := [aI (x2 - (x2 / (10 : Int32)) * (10 : Int32)), aI (x2 / (10 : Int32)), aI x1, aR 17 0]) (σ1 := σ) (P := []) rfl trivial ?_
          obtain ⟨q5, hq5, hm⟩ := obind_eq hm
          refine XW.callV B (M := M_X9_draw) (t := 17) (j := 0) (cn := 1) (as := [aI x1, aI (x2 / (10 : Int32)), aI (x2 - (x2 / (10 : Int32)) * (10 : Int32))]) (c_X9_draw x1 (x2 / (10 : Int32)) (x2 - (x2 / (10 : Int32)) * (10 : Int32)) σ hq5) (by decide) wV_X9_draw wN_X9_draw lk_X10_246 rfl rfl rfl (by decide) rfl (Nat.le_of_ble_eq_true rfl) (by decide +kernel) ?_
          refine XW.bn B [(67, .iload_n 3)] (by decide +kernel) (pc1 := 68) (ls1 := [some (aR 0 0), some (aI x1), some (aI x2), some (aI x3), some (aI (x2 / (10 : Int32))), some (aI (x2 - (x2 / (10 : Int32)) * (10 : Int32)))]) (st1 := [aI x3]) (σ1 := q5) (P := []) (i := .ifCond .ne 13) (tgt := 81) (q := x3 = (0 : Int32)) rfl trivial (by decide +kernel) rfl (by decide) (fun h6 => ?_) (fun h6 => ?_)
          · rw [if_pos h6] at hm
            refine XW.bk B [(71, .aload_n 0), (72, .getfield 47), (75, .getfield 249), (78, .goto 10)] (by decide +kernel) (pc1 := 88) (ls1 := [some (aR 0 0), some (aI x1), some (aI x2), some (aI x3), some (aI (x2 / (10 : Int32))), some (aI (x2 - (x2 / (10 : Int32)) * (10 : Int32)))]) (st1 := [aI (q5.1 17 0 6)]) (σ1 := q5) (P := []) rfl trivial ?_
            obtain ⟨rfl, rfl⟩ := Prod.mk.inj (Option.some.inj hm)
            exact XW.iret B q (by decide +kernel)
          · rw [if_neg h6] at hm
            refine XW.bk B [(81, .aload_n 0), (82, .getfield 47), (85, .getfield 252)] (by decide +kernel) (pc1 := 88) (ls1 := [some (aR 0 0), some (aI x1), some (aI x2), some (aI x3), some (aI (x2 / (10 : Int32))), some (aI (x2 - (x2 / (10 : Int32)) * (10 : Int32)))]) (st1 := [aI (q5.1 17 0 7)]) (σ1 := q5) (P := []) rfl trivial ?_
            obtain ⟨rfl, rfl⟩ := Prod.mk.inj (Option.some.inj hm)
            exact XW.iret B q (by decide +kernel)

def m_X10_out (x1 : Int32) (x2 : Int32) (σ : SS) : Option (Int32 × SS) :=
  if (m_X10_isMinute x1) = (0 : Int32) then
    some ((-1 : Int32), σ)
  else
  if (m_X10_isHold x2) = (0 : Int32) then
    some ((-1 : Int32), σ)
  else
  Option.bind (m_X2_setOut x1 x2 σ) (fun q3 =>
  some (q3.1, q3.2))
set_option maxRecDepth 100000 in
set_option maxHeartbeats 4000000 in
theorem c_X10_out (x1 : Int32) (x2 : Int32) (σ : SS) {r : Int32} {σ' : SS} (hm : m_X10_out x1 x2 σ = some (r, σ')) : XM LC 7 M_X10_out [aR 0 0, aI x1, aI x2] σ (some (aI r)) σ' := by
  refine XM.of (K := K10) (by decide) (by decide +kernel) K10_ok (Nat.le_of_ble_eq_true rfl) (fun Γ B q => ?_)
  unfold m_X10_out at hm
  refine XW.bk B [(0, .iload_n 1)] (by decide +kernel) (pc1 := 1) (ls1 := [some (aR 0 0), some (aI x1), some (aI x2)]) (st1 := [aI x1]) (σ1 := σ) (P := []) rfl trivial ?_
  refine XW.callS B (M := M_X10_isMinute) (as := [aI x1]) (c_X10_isMinute x1 σ rfl) (by decide) wS_X10_isMinute wN_X10_isMinute lk_X10_151 rfl (Nat.le_of_ble_eq_true rfl) (by decide +kernel) ?_
  refine XW.bb B [] (by decide +kernel) (pc1 := 4) (ls1 := [some (aR 0 0), some (aI x1), some (aI x2)]) (st1 := [aI (m_X10_isMinute x1)]) (σ1 := σ) (P := []) (i := .ifCond .eq 22) (tgt := 26) (q := (m_X10_isMinute x1) = (0 : Int32)) rfl trivial (by decide +kernel) rfl (by decide) (fun h1 => ?_) (fun h1 => ?_)
  · rw [if_pos h1] at hm
    refine XW.bk B [(26, .iconst (-1))] (by decide +kernel) (pc1 := 27) (ls1 := [some (aR 0 0), some (aI x1), some (aI x2)]) (st1 := [aI (-1 : Int32)]) (σ1 := σ) (P := []) rfl trivial ?_
    obtain ⟨rfl, rfl⟩ := Prod.mk.inj (Option.some.inj hm)
    exact XW.iret B q (by decide +kernel)
  · rw [if_neg h1] at hm
    refine XW.bk B [(7, .iload_n 2)] (by decide +kernel) (pc1 := 8) (ls1 := [some (aR 0 0), some (aI x1), some (aI x2)]) (st1 := [aI x2]) (σ1 := σ) (P := []) rfl trivial ?_
    refine XW.callS B (M := M_X10_isHold) (as := [aI x2]) (c_X10_isHold x2 σ rfl) (by decide) wS_X10_isHold wN_X10_isHold lk_X10_142 rfl (Nat.le_of_ble_eq_true rfl) (by decide +kernel) ?_
    refine XW.bb B [] (by decide +kernel) (pc1 := 11) (ls1 := [some (aR 0 0), some (aI x1), some (aI x2)]) (st1 := [aI (m_X10_isHold x2)]) (σ1 := σ) (P := []) (i := .ifCond .eq 15) (tgt := 26) (q := (m_X10_isHold x2) = (0 : Int32)) rfl trivial (by decide +kernel) rfl (by decide) (fun h2 => ?_) (fun h2 => ?_)
    · rw [if_pos h2] at hm
      refine XW.bk B [(26, .iconst (-1))] (by decide +kernel) (pc1 := 27) (ls1 := [some (aR 0 0), some (aI x1), some (aI x2)]) (st1 := [aI (-1 : Int32)]) (σ1 := σ) (P := []) rfl trivial ?_
      obtain ⟨rfl, rfl⟩ := Prod.mk.inj (Option.some.inj hm)
      exact XW.iret B q (by decide +kernel)
    · rw [if_neg h2] at hm
      refine XW.bk B [(14, .aload_n 0), (15, .getfield 63), (18, .iload_n 1), (19, .iload_n 2)] (by decide +kernel) (pc1 := 20) (ls1 := [some (aR 0 0), some (aI x1), some (aI x2)]) (st1 := [aI x2, aI x1, aR 21 0]) (σ1 := σ) (P := []) rfl trivial ?_
      obtain ⟨q3, hq3, hm⟩ := obind_eq hm
      refine XW.callV B (M := M_X2_setOut) (t := 21) (j := 0) (cn := 1) (as := [aI x1, aI x2]) (c_X2_setOut x1 x2 σ hq3) (by decide) wV_X2_setOut wN_X2_setOut lk_X10_255 rfl rfl rfl (by decide) rfl (Nat.le_of_ble_eq_true rfl) (by decide +kernel) ?_
      refine XW.bk B [(23, .goto 4)] (by decide +kernel) (pc1 := 27) (ls1 := [some (aR 0 0), some (aI x1), some (aI x2)]) (st1 := [aI q3.1]) (σ1 := q3.2) (P := []) rfl trivial ?_
      obtain ⟨rfl, rfl⟩ := Prod.mk.inj (Option.some.inj hm)
      exact XW.iret B q (by decide +kernel)

def m_X10_pace (x1 : Int32) (σ : SS) : Option (Int32 × SS) :=
  if (m_X10_isHold x1) = (0 : Int32) then
    some ((-1 : Int32), σ)
  else
  Option.bind (m_X2_goOn x1 σ) (fun q2 =>
  some (q2.1, q2.2))
set_option maxRecDepth 100000 in
set_option maxHeartbeats 4000000 in
theorem c_X10_pace (x1 : Int32) (σ : SS) {r : Int32} {σ' : SS} (hm : m_X10_pace x1 σ = some (r, σ')) : XM LC 7 M_X10_pace [aR 0 0, aI x1] σ (some (aI r)) σ' := by
  refine XM.of (K := K10) (by decide) (by decide +kernel) K10_ok (Nat.le_of_ble_eq_true rfl) (fun Γ B q => ?_)
  unfold m_X10_pace at hm
  refine XW.bk B [(0, .iload_n 1)] (by decide +kernel) (pc1 := 1) (ls1 := [some (aR 0 0), some (aI x1)]) (st1 := [aI x1]) (σ1 := σ) (P := []) rfl trivial ?_
  refine XW.callS B (M := M_X10_isHold) (as := [aI x1]) (c_X10_isHold x1 σ rfl) (by decide) wS_X10_isHold wN_X10_isHold lk_X10_142 rfl (Nat.le_of_ble_eq_true rfl) (by decide +kernel) ?_
  refine XW.bb B [] (by decide +kernel) (pc1 := 4) (ls1 := [some (aR 0 0), some (aI x1)]) (st1 := [aI (m_X10_isHold x1)]) (σ1 := σ) (P := []) (i := .ifCond .eq 14) (tgt := 18) (q := (m_X10_isHold x1) = (0 : Int32)) rfl trivial (by decide +kernel) rfl (by decide) (fun h1 => ?_) (fun h1 => ?_)
  · rw [if_pos h1] at hm
    refine XW.bk B [(18, .iconst (-1))] (by decide +kernel) (pc1 := 19) (ls1 := [some (aR 0 0), some (aI x1)]) (st1 := [aI (-1 : Int32)]) (σ1 := σ) (P := []) rfl trivial ?_
    obtain ⟨rfl, rfl⟩ := Prod.mk.inj (Option.some.inj hm)
    exact XW.iret B q (by decide +kernel)
  · rw [if_neg h1] at hm
    refine XW.bk B [(7, .aload_n 0), (8, .getfield 63), (11, .iload_n 1)] (by decide +kernel) (pc1 := 12) (ls1 := [some (aR 0 0), some (aI x1)]) (st1 := [aI x1, aR 21 0]) (σ1 := σ) (P := []) rfl trivial ?_
    obtain ⟨q2, hq2, hm⟩ := obind_eq hm
    refine XW.callV B (M := M_X2_goOn) (t := 21) (j := 0) (cn := 1) (as := [aI x1]) (c_X2_goOn x1 σ hq2) (by decide) wV_X2_goOn wN_X2_goOn lk_X10_258 rfl rfl rfl (by decide) rfl (Nat.le_of_ble_eq_true rfl) (by decide +kernel) ?_
    refine XW.bk B [(15, .goto 4)] (by decide +kernel) (pc1 := 19) (ls1 := [some (aR 0 0), some (aI x1)]) (st1 := [aI q2.1]) (σ1 := q2.2) (P := []) rfl trivial ?_
    obtain ⟨rfl, rfl⟩ := Prod.mk.inj (Option.some.inj hm)
    exact XW.iret B q (by decide +kernel)

def m_X10_rest (x1 : Int32) (σ : SS) : Option (Int32 × SS) :=
  if (m_X10_isHold x1) = (0 : Int32) then
    some ((-1 : Int32), σ)
  else
  Option.bind (m_X2_stay x1 σ) (fun q2 =>
  some (q2.1, q2.2))
set_option maxRecDepth 100000 in
set_option maxHeartbeats 4000000 in
theorem c_X10_rest (x1 : Int32) (σ : SS) {r : Int32} {σ' : SS} (hm : m_X10_rest x1 σ = some (r, σ')) : XM LC 7 M_X10_rest [aR 0 0, aI x1] σ (some (aI r)) σ' := by
  refine XM.of (K := K10) (by decide) (by decide +kernel) K10_ok (Nat.le_of_ble_eq_true rfl) (fun Γ B q => ?_)
  unfold m_X10_rest at hm
  refine XW.bk B [(0, .iload_n 1)] (by decide +kernel) (pc1 := 1) (ls1 := [some (aR 0 0), some (aI x1)]) (st1 := [aI x1]) (σ1 := σ) (P := []) rfl trivial ?_
  refine XW.callS B (M := M_X10_isHold) (as := [aI x1]) (c_X10_isHold x1 σ rfl) (by decide) wS_X10_isHold wN_X10_isHold lk_X10_142 rfl (Nat.le_of_ble_eq_true rfl) (by decide +kernel) ?_
  refine XW.bb B [] (by decide +kernel) (pc1 := 4) (ls1 := [some (aR 0 0), some (aI x1)]) (st1 := [aI (m_X10_isHold x1)]) (σ1 := σ) (P := []) (i := .ifCond .eq 14) (tgt := 18) (q := (m_X10_isHold x1) = (0 : Int32)) rfl trivial (by decide +kernel) rfl (by decide) (fun h1 => ?_) (fun h1 => ?_)
  · rw [if_pos h1] at hm
    refine XW.bk B [(18, .iconst (-1))] (by decide +kernel) (pc1 := 19) (ls1 := [some (aR 0 0), some (aI x1)]) (st1 := [aI (-1 : Int32)]) (σ1 := σ) (P := []) rfl trivial ?_
    obtain ⟨rfl, rfl⟩ := Prod.mk.inj (Option.some.inj hm)
    exact XW.iret B q (by decide +kernel)
  · rw [if_neg h1] at hm
    refine XW.bk B [(7, .aload_n 0), (8, .getfield 63), (11, .iload_n 1)] (by decide +kernel) (pc1 := 12) (ls1 := [some (aR 0 0), some (aI x1)]) (st1 := [aI x1, aR 21 0]) (σ1 := σ) (P := []) rfl trivial ?_
    obtain ⟨q2, hq2, hm⟩ := obind_eq hm
    refine XW.callV B (M := M_X2_stay) (t := 21) (j := 0) (cn := 1) (as := [aI x1]) (c_X2_stay x1 σ hq2) (by decide) wV_X2_stay wN_X2_stay lk_X10_261 rfl rfl rfl (by decide) rfl (Nat.le_of_ble_eq_true rfl) (by decide +kernel) ?_
    refine XW.bk B [(15, .goto 4)] (by decide +kernel) (pc1 := 19) (ls1 := [some (aR 0 0), some (aI x1)]) (st1 := [aI q2.1]) (σ1 := q2.2) (P := []) rfl trivial ?_
    obtain ⟨rfl, rfl⟩ := Prod.mk.inj (Option.some.inj hm)
    exact XW.iret B q (by decide +kernel)

def m_X10_led (x1 : Int32) (σ : SS) : Int32 :=
  (m_X4_told x1 σ)
set_option maxRecDepth 100000 in
set_option maxHeartbeats 4000000 in
theorem c_X10_led (x1 : Int32) (σ : SS) {r : Int32} (hm : m_X10_led x1 σ = r) : XM LC 2 M_X10_led [aR 0 0, aI x1] σ (some (aI r)) σ := by
  refine XM.of (K := K10) (by decide) (by decide +kernel) K10_ok (Nat.le_of_ble_eq_true rfl) (fun Γ B q => ?_)
  unfold m_X10_led at hm
  refine XW.bk B [(0, .aload_n 0), (1, .getfield 63), (4, .getfield 264), (7, .iload_n 1)] (by decide +kernel) (pc1 := 8) (ls1 := [some (aR 0 0), some (aI x1)]) (st1 := [aI x1, aR 22 0]) (σ1 := σ) (P := []) rfl trivial ?_
  refine XW.callV B (M := M_X4_told) (t := 22) (j := 0) (cn := 1) (as := [aI x1]) (c_X4_told x1 σ rfl) (by decide) wV_X4_told wN_X4_told lk_X10_268 rfl rfl rfl (by decide) rfl (Nat.le_of_ble_eq_true rfl) (by decide +kernel) ?_
  subst hm
  exact XW.iret B q (by decide +kernel)

def m_X10_image (σ : SS) : Option (Int32 × SS) :=
  Option.bind (m_X4_becomeLike_23 σ) (fun q1 =>
  some ((q1.1 22 0 5), (sI q1 21 0 4 (1 : Int32))))
set_option maxRecDepth 100000 in
set_option maxHeartbeats 4000000 in
theorem c_X10_image (σ : SS) {r : Int32} {σ' : SS} (hm : m_X10_image σ = some (r, σ')) : XM LC 2 M_X10_image [aR 0 0] σ (some (aI r)) σ' := by
  refine XM.of (K := K10) (by decide) (by decide +kernel) K10_ok (Nat.le_of_ble_eq_true rfl) (fun Γ B q => ?_)
  unfold m_X10_image at hm
  refine XW.bk B [(0, .aload_n 0), (1, .getfield 63), (4, .getfield 273), (7, .aload_n 0), (8, .getfield 63), (11, .getfield 264)] (by decide +kernel) (pc1 := 14) (ls1 := [some (aR 0 0)]) (st1 := [aR 22 0, aR 23 0]) (σ1 := σ) (P := []) rfl trivial ?_
  obtain ⟨q1, hq1, hm⟩ := obind_eq hm
  refine XW.callV B (M := M_X4_becomeLike) (t := 23) (j := 0) (cn := 1) (as := [aR 22 0]) (c_X4_becomeLike_23 σ hq1) (by decide) wV_X4_becomeLike wN_X4_becomeLike lk_X10_276 rfl rfl rfl (by decide) rfl (Nat.le_of_ble_eq_true rfl) (by decide +kernel) ?_
  refine XW.bk B [(17, .aload_n 0), (18, .getfield 63), (21, .iconst 1)] (by decide +kernel) (pc1 := 22) (ls1 := [some (aR 0 0)]) (st1 := [aI (1 : Int32), aR 21 0]) (σ1 := q1) (P := []) rfl trivial ?_
  refine XW.putz B (x := 280) (ci := 2) (k := 4) (cn := 1) ⟨_, _, _, rfl, by decide, GW_2 35 rfl rfl, rfl, rfl, by decide +kernel⟩ rfl rfl (by decide) (by decide) (by decide +kernel) ?_
  refine XW.bk B [(25, .aload_n 0), (26, .getfield 63), (29, .getfield 264), (32, .getfield 284)] (by decide +kernel) (pc1 := 35) (ls1 := [some (aR 0 0)]) (st1 := [aI (q1.1 22 0 5)]) (σ1 := (sI q1 21 0 4 (1 : Int32))) (P := []) rfl trivial ?_
  obtain ⟨rfl, rfl⟩ := Prod.mk.inj (Option.some.inj hm)
  exact XW.iret B q (by decide +kernel)

def m_X10_back (σ : SS) : Option (Int32 × SS) :=
  if (σ.1 21 0 4) = (0 : Int32) then
    some ((-5 : Int32), σ)
  else
  Option.bind (m_X4_becomeLike_22 σ) (fun q2 =>
  some ((q2.1 22 0 5), q2))
set_option maxRecDepth 100000 in
set_option maxHeartbeats 4000000 in
theorem c_X10_back (σ : SS) {r : Int32} {σ' : SS} (hm : m_X10_back σ = some (r, σ')) : XM LC 2 M_X10_back [aR 0 0] σ (some (aI r)) σ' := by
  refine XM.of (K := K10) (by decide) (by decide +kernel) K10_ok (Nat.le_of_ble_eq_true rfl) (fun Γ B q => ?_)
  unfold m_X10_back at hm
  refine XW.bn B [(0, .aload_n 0), (1, .getfield 63), (4, .getfield 280)] (by decide +kernel) (pc1 := 7) (ls1 := [some (aR 0 0)]) (st1 := [aI (σ.1 21 0 4)]) (σ1 := σ) (P := []) (i := .ifCond .ne 6) (tgt := 13) (q := (σ.1 21 0 4) = (0 : Int32)) rfl trivial (by decide +kernel) rfl (by decide) (fun h1 => ?_) (fun h1 => ?_)
  · rw [if_pos h1] at hm
    refine XW.bk B [(10, .bipush (-5))] (by decide +kernel) (pc1 := 12) (ls1 := [some (aR 0 0)]) (st1 := [aI (-5 : Int32)]) (σ1 := σ) (P := []) rfl trivial ?_
    obtain ⟨rfl, rfl⟩ := Prod.mk.inj (Option.some.inj hm)
    exact XW.iret B q (by decide +kernel)
  · rw [if_neg h1] at hm
    refine XW.bk B [(13, .aload_n 0), (14, .getfield 63), (17, .getfield 264), (20, .aload_n 0), (21, .getfield 63), (24, .getfield 273)] (by decide +kernel) (pc1 := 27) (ls1 := [some (aR 0 0)]) (st1 := [aR 23 0, aR 22 0]) (σ1 := σ) (P := []) rfl trivial ?_
    obtain ⟨q2, hq2, hm⟩ := obind_eq hm
    refine XW.callV B (M := M_X4_becomeLike) (t := 22) (j := 0) (cn := 1) (as := [aR 23 0]) (c_X4_becomeLike_22 σ hq2) (by decide) wV_X4_becomeLike wN_X4_becomeLike lk_X10_276 rfl rfl rfl (by decide) rfl (Nat.le_of_ble_eq_true rfl) (by decide +kernel) ?_
    refine XW.bk B [(30, .aload_n 0), (31, .getfield 63), (34, .getfield 264), (37, .getfield 284)] (by decide +kernel) (pc1 := 40) (ls1 := [some (aR 0 0)]) (st1 := [aI (q2.1 22 0 5)]) (σ1 := q2) (P := []) rfl trivial ?_
    obtain ⟨rfl, rfl⟩ := Prod.mk.inj (Option.some.inj hm)
    exact XW.iret B q (by decide +kernel)

def m_X10_undo (σ : SS) : Option (Int32 × SS) :=
  if (σ.1 3 0 4) = (0 : Int32) then
    some ((-5 : Int32), σ)
  else
  Option.bind (m_X1_stepBack σ) (fun q2 =>
  some ((q2.1 3 0 4), q2))
set_option maxRecDepth 100000 in
set_option maxHeartbeats 4000000 in
theorem c_X10_undo (σ : SS) {r : Int32} {σ' : SS} (hm : m_X10_undo σ = some (r, σ')) : XM LC 3 M_X10_undo [aR 0 0] σ (some (aI r)) σ' := by
  refine XM.of (K := K10) (by decide) (by decide +kernel) K10_ok (Nat.le_of_ble_eq_true rfl) (fun Γ B q => ?_)
  unfold m_X10_undo at hm
  refine XW.bn B [(0, .aload_n 0), (1, .getfield 30), (4, .getfield 287)] (by decide +kernel) (pc1 := 7) (ls1 := [some (aR 0 0)]) (st1 := [aI (σ.1 3 0 4)]) (σ1 := σ) (P := []) (i := .ifCond .ne 6) (tgt := 13) (q := (σ.1 3 0 4) = (0 : Int32)) rfl trivial (by decide +kernel) rfl (by decide) (fun h1 => ?_) (fun h1 => ?_)
  · rw [if_pos h1] at hm
    refine XW.bk B [(10, .bipush (-5))] (by decide +kernel) (pc1 := 12) (ls1 := [some (aR 0 0)]) (st1 := [aI (-5 : Int32)]) (σ1 := σ) (P := []) rfl trivial ?_
    obtain ⟨rfl, rfl⟩ := Prod.mk.inj (Option.some.inj hm)
    exact XW.iret B q (by decide +kernel)
  · rw [if_neg h1] at hm
    refine XW.bk B [(13, .aload_n 0), (14, .getfield 30), (17, .aload_n 0), (18, .getfield 23)] (by decide +kernel) (pc1 := 21) (ls1 := [some (aR 0 0)]) (st1 := [aR 1 0, aR 3 0]) (σ1 := σ) (P := []) rfl trivial ?_
    obtain ⟨q2, hq2, hm⟩ := obind_eq hm
    refine XW.callV B (M := M_X1_stepBack) (t := 3) (j := 0) (cn := 1) (as := [aR 1 0]) (c_X1_stepBack σ hq2) (by decide) wV_X1_stepBack wN_X1_stepBack lk_X10_290 rfl rfl rfl (by decide) rfl (Nat.le_of_ble_eq_true rfl) (by decide +kernel) ?_
    refine XW.bk B [(24, .aload_n 0), (25, .getfield 30), (28, .getfield 287)] (by decide +kernel) (pc1 := 31) (ls1 := [some (aR 0 0)]) (st1 := [aI (q2.1 3 0 4)]) (σ1 := q2) (P := []) rfl trivial ?_
    obtain ⟨rfl, rfl⟩ := Prod.mk.inj (Option.some.inj hm)
    exact XW.iret B q (by decide +kernel)

def m_X10_redo (σ : SS) : Int32 × SS :=
  if (σ.1 3 0 4) < (σ.1 3 0 3) then
    bnT (m_X1_stepOn σ) (fun q2 =>
    (((q2.1 3 0 3) - (q2.1 3 0 4)), q2))
  else
  ((-5 : Int32), σ)
set_option maxRecDepth 100000 in
set_option maxHeartbeats 4000000 in
theorem c_X10_redo (σ : SS) {r : Int32} {σ' : SS} (hm : m_X10_redo σ = (r, σ')) : XM LC 3 M_X10_redo [aR 0 0] σ (some (aI r)) σ' := by
  refine XM.of (K := K10) (by decide) (by decide +kernel) K10_ok (Nat.le_of_ble_eq_true rfl) (fun Γ B q => ?_)
  unfold m_X10_redo at hm
  refine XW.bb B [(0, .aload_n 0), (1, .getfield 30), (4, .getfield 287), (7, .aload_n 0), (8, .getfield 30), (11, .getfield 293)] (by decide +kernel) (pc1 := 14) (ls1 := [some (aR 0 0)]) (st1 := [aI (σ.1 3 0 3), aI (σ.1 3 0 4)]) (σ1 := σ) (P := []) (i := .if_icmp .lt 6) (tgt := 20) (q := (σ.1 3 0 4) < (σ.1 3 0 3)) rfl trivial (by decide +kernel) rfl (by decide) (fun h1 => ?_) (fun h1 => ?_)
  · rw [if_pos h1] at hm
    refine XW.bk B [(20, .aload_n 0), (21, .getfield 30), (24, .aload_n 0), (25, .getfield 23)] (by decide +kernel) (pc1 := 28) (ls1 := [some (aR 0 0)]) (st1 := [aR 1 0, aR 3 0]) (σ1 := σ) (P := []) rfl trivial ?_
    obtain ⟨q2, hq2, hm⟩ := bnT_eq hm
    refine XW.callV B (M := M_X1_stepOn) (t := 3) (j := 0) (cn := 1) (as := [aR 1 0]) (c_X1_stepOn σ hq2) (by decide) wV_X1_stepOn wN_X1_stepOn lk_X10_296 rfl rfl rfl (by decide) rfl (Nat.le_of_ble_eq_true rfl) (by decide +kernel) ?_
    refine XW.bk B [(31, .aload_n 0), (32, .getfield 30), (35, .getfield 293), (38, .aload_n 0), (39, .getfield 30), (42, .getfield 287), (45, .isub)] (by decide +kernel) (pc1 := 46) (ls1 := [some (aR 0 0)]) (st1 := [aI ((q2.1 3 0 3) - (q2.1 3 0 4))]) (σ1 := q2) (P := []) rfl trivial ?_
    obtain ⟨rfl, rfl⟩ := Prod.mk.inj (hm)
    exact XW.iret B q (by decide +kernel)
  · rw [if_neg h1] at hm
    refine XW.bk B [(17, .bipush (-5))] (by decide +kernel) (pc1 := 19) (ls1 := [some (aR 0 0)]) (st1 := [aI (-5 : Int32)]) (σ1 := σ) (P := []) rfl trivial ?_
    obtain ⟨rfl, rfl⟩ := Prod.mk.inj (hm)
    exact XW.iret B q (by decide +kernel)

def m_X10_body (x1 : Int32) (σ : SS) : Int32 × SS :=
  if (m_X10_isWithin x1 (0 : Int32) (7 : Int32)) = (0 : Int32) then
    ((-1 : Int32), σ)
  else
  bnT (m_X5_add x1 σ) (fun q2 =>
  (q2.1, q2.2))
set_option maxRecDepth 100000 in
set_option maxHeartbeats 4000000 in
theorem c_X10_body (x1 : Int32) (σ : SS) {r : Int32} {σ' : SS} (hm : m_X10_body x1 σ = (r, σ')) : XM LC 2 M_X10_body [aR 0 0, aI x1] σ (some (aI r)) σ' := by
  refine XM.of (K := K10) (by decide) (by decide +kernel) K10_ok (Nat.le_of_ble_eq_true rfl) (fun Γ B q => ?_)
  unfold m_X10_body at hm
  refine XW.bk B [(0, .iload_n 1), (1, .iconst 0), (2, .bipush 7)] (by decide +kernel) (pc1 := 4) (ls1 := [some (aR 0 0), some (aI x1)]) (st1 := [aI (7 : Int32), aI (0 : Int32), aI x1]) (σ1 := σ) (P := []) rfl trivial ?_
  refine XW.callS B (M := M_X10_isWithin) (as := [aI x1, aI (0 : Int32), aI (7 : Int32)]) (c_X10_isWithin x1 (0 : Int32) (7 : Int32) σ rfl) (by decide) wS_X10_isWithin wN_X10_isWithin lk_X10_90 rfl (Nat.le_of_ble_eq_true rfl) (by decide +kernel) ?_
  refine XW.bb B [] (by decide +kernel) (pc1 := 7) (ls1 := [some (aR 0 0), some (aI x1)]) (st1 := [aI (m_X10_isWithin x1 (0 : Int32) (7 : Int32))]) (σ1 := σ) (P := []) (i := .ifCond .eq 14) (tgt := 21) (q := (m_X10_isWithin x1 (0 : Int32) (7 : Int32)) = (0 : Int32)) rfl trivial (by decide +kernel) rfl (by decide) (fun h1 => ?_) (fun h1 => ?_)
  · rw [if_pos h1] at hm
    refine XW.bk B [(21, .iconst (-1))] (by decide +kernel) (pc1 := 22) (ls1 := [some (aR 0 0), some (aI x1)]) (st1 := [aI (-1 : Int32)]) (σ1 := σ) (P := []) rfl trivial ?_
    obtain ⟨rfl, rfl⟩ := Prod.mk.inj (hm)
    exact XW.iret B q (by decide +kernel)
  · rw [if_neg h1] at hm
    refine XW.bk B [(10, .aload_n 0), (11, .getfield 70), (14, .iload_n 1)] (by decide +kernel) (pc1 := 15) (ls1 := [some (aR 0 0), some (aI x1)]) (st1 := [aI x1, aR 24 0]) (σ1 := σ) (P := []) rfl trivial ?_
    obtain ⟨q2, hq2, hm⟩ := bnT_eq hm
    refine XW.callV B (M := M_X5_add) (t := 24) (j := 0) (cn := 1) (as := [aI x1]) (c_X5_add x1 σ hq2) (by decide) wV_X5_add wN_X5_add lk_X10_299 rfl rfl rfl (by decide) rfl (Nat.le_of_ble_eq_true rfl) (by decide +kernel) ?_
    refine XW.bk B [(18, .goto 4)] (by decide +kernel) (pc1 := 22) (ls1 := [some (aR 0 0), some (aI x1)]) (st1 := [aI q2.1]) (σ1 := q2.2) (P := []) rfl trivial ?_
    obtain ⟨rfl, rfl⟩ := Prod.mk.inj (hm)
    exact XW.iret B q (by decide +kernel)

def m_X10_act (x1 : Int32) (x2 : Int32) (x3 : Int32) (σ : SS) : Option (Int32 × SS) :=
  Option.bind (m_X5_perform x1 x2 x3 σ) (fun q1 =>
  some (q1.1, q1.2))
set_option maxRecDepth 100000 in
set_option maxHeartbeats 4000000 in
theorem c_X10_act (x1 : Int32) (x2 : Int32) (x3 : Int32) (σ : SS) {r : Int32} {σ' : SS} (hm : m_X10_act x1 x2 x3 σ = some (r, σ')) : XM LC 104 M_X10_act [aR 0 0, aI x1, aI x2, aI x3] σ (some (aI r)) σ' := by
  refine XM.of (K := K10) (by decide) (by decide +kernel) K10_ok (Nat.le_of_ble_eq_true rfl) (fun Γ B q => ?_)
  unfold m_X10_act at hm
  refine XW.bk B [(0, .aload_n 0), (1, .getfield 70), (4, .iload_n 1), (5, .iload_n 2), (6, .iload_n 3)] (by decide +kernel) (pc1 := 7) (ls1 := [some (aR 0 0), some (aI x1), some (aI x2), some (aI x3)]) (st1 := [aI x3, aI x2, aI x1, aR 24 0]) (σ1 := σ) (P := []) rfl trivial ?_
  obtain ⟨q1, hq1, hm⟩ := obind_eq hm
  refine XW.callV B (M := M_X5_perform) (t := 24) (j := 0) (cn := 1) (as := [aI x1, aI x2, aI x3]) (c_X5_perform x1 x2 x3 σ hq1) (by decide) wV_X5_perform wN_X5_perform lk_X10_301 rfl rfl rfl (by decide) rfl (Nat.le_of_ble_eq_true rfl) (by decide +kernel) ?_
  obtain ⟨rfl, rfl⟩ := Prod.mk.inj (Option.some.inj hm)
  exact XW.iret B q (by decide +kernel)

def m_X10_trace (x1 : Int32) (σ : SS) : Int32 :=
  (m_X5_ranAs x1 σ)
set_option maxRecDepth 100000 in
set_option maxHeartbeats 4000000 in
theorem c_X10_trace (x1 : Int32) (σ : SS) {r : Int32} (hm : m_X10_trace x1 σ = r) : XM LC 2 M_X10_trace [aR 0 0, aI x1] σ (some (aI r)) σ := by
  refine XM.of (K := K10) (by decide) (by decide +kernel) K10_ok (Nat.le_of_ble_eq_true rfl) (fun Γ B q => ?_)
  unfold m_X10_trace at hm
  refine XW.bk B [(0, .aload_n 0), (1, .getfield 70), (4, .iload_n 1)] (by decide +kernel) (pc1 := 5) (ls1 := [some (aR 0 0), some (aI x1)]) (st1 := [aI x1, aR 24 0]) (σ1 := σ) (P := []) rfl trivial ?_
  refine XW.callV B (M := M_X5_ranAs) (t := 24) (j := 0) (cn := 1) (as := [aI x1]) (c_X5_ranAs x1 σ rfl) (by decide) wV_X5_ranAs wN_X5_ranAs lk_X10_304 rfl rfl rfl (by decide) rfl (Nat.le_of_ble_eq_true rfl) (by decide +kernel) ?_
  subst hm
  exact XW.iret B q (by decide +kernel)

def m_X10_keep (x1 : Int32) (x2 : Int32) (σ : SS) : Int32 × SS :=
  if x1 < 0 ∨ ¬ x1 < 6 then
    ((-1 : Int32), σ)
  else
  if x2 = (-1 : Int32) then
    bnT (m_X6_holdBody x1.toNatClampNeg x2 σ) (fun q3 =>
    ((1 : Int32), q3))
  else
  if (m_X5_has x2 σ) = (0 : Int32) then
    ((-1 : Int32), σ)
  else
  bnT (m_X6_holdBody x1.toNatClampNeg x2 σ) (fun q5 =>
  ((1 : Int32), q5))
set_option maxRecDepth 100000 in
set_option maxHeartbeats 4000000 in
theorem c_X10_keep (x1 : Int32) (x2 : Int32) (σ : SS) {r : Int32} {σ' : SS} (hm : m_X10_keep x1 x2 σ = (r, σ')) : XM LC 2 M_X10_keep [aR 0 0, aI x1, aI x2] σ (some (aI r)) σ' := by
  refine XM.of (K := K10) (by decide) (by decide +kernel) K10_ok (Nat.le_of_ble_eq_true rfl) (fun Γ B q => ?_)
  unfold m_X10_keep at hm
  refine XW.bk B [(0, .aload_n 0), (1, .iload_n 1)] (by decide +kernel) (pc1 := 2) (ls1 := [some (aR 0 0), some (aI x1), some (aI x2), none]) (st1 := [aI x1, aR 0 0]) (σ1 := σ) (P := []) rfl trivial ?_
  by_cases h1 : x1 < 0 ∨ ¬ x1 < 6
  · rw [if_pos h1] at hm
    refine XW.callV B (M := M_X10_shelfAt) (t := 0) (j := 0) (cn := 1) (as := [aI x1]) (c_shelfAt0 h1 σ) (by decide) wV_X10_shelfAt wN_X10_shelfAt lk_X10_86 rfl rfl rfl (by decide) rfl (Nat.le_of_ble_eq_true rfl) (by decide +kernel) ?_
    refine XW.bk B [(5, .astore_n 3), (6, .aload_n 3)] (by decide +kernel) (pc1 := 7) (ls1 := [some (aR 0 0), some (aI x1), some (aI x2), some (aN)]) (st1 := [aN]) (σ1 := σ) (P := []) rfl trivial ?_
    refine XW.nullN B (off := 19) (tgt := 26) (by decide +kernel) (by decide) ?_
    refine XW.bk B [(26, .iconst (-1))] (by decide +kernel) (pc1 := 27) (ls1 := [some (aR 0 0), some (aI x1), some (aI x2), some (aN)]) (st1 := [aI (-1 : Int32)]) (σ1 := σ) (P := []) rfl trivial ?_
    obtain ⟨rfl, rfl⟩ := Prod.mk.inj (hm)
    exact XW.iret B q (by decide +kernel)
  · rw [if_neg h1] at hm
    refine XW.callV B (M := M_X10_shelfAt) (t := 0) (j := 0) (cn := 1) (as := [aI x1]) (c_shelfAt1 h1 σ) (by decide) wV_X10_shelfAt wN_X10_shelfAt lk_X10_86 rfl rfl rfl (by decide) rfl (Nat.le_of_ble_eq_true rfl) (by decide +kernel) ?_
    refine XW.bk B [(5, .astore_n 3), (6, .aload_n 3)] (by decide +kernel) (pc1 := 7) (ls1 := [some (aR 0 0), some (aI x1), some (aI x2), some (aR 28 x1.toNatClampNeg)]) (st1 := [aR 28 x1.toNatClampNeg]) (σ1 := σ) (P := []) rfl trivial ?_
    refine XW.nullR B (off := 19) (by decide +kernel) ?_
    refine XW.bb B [(10, .iload_n 2), (11, .iconst (-1))] (by decide +kernel) (pc1 := 12) (ls1 := [some (aR 0 0), some (aI x1), some (aI x2), some (aR 28 x1.toNatClampNeg)]) (st1 := [aI (-1 : Int32), aI x2]) (σ1 := σ) (P := []) (i := .if_icmp .eq 16) (tgt := 28) (q := x2 = (-1 : Int32)) rfl trivial (by decide +kernel) rfl (by decide) (fun h2 => ?_) (fun h2 => ?_)
    · rw [if_pos h2] at hm
      refine XW.bk B [(28, .aload_n 3), (29, .iload_n 2)] (by decide +kernel) (pc1 := 30) (ls1 := [some (aR 0 0), some (aI x1), some (aI x2), some (aR 28 x1.toNatClampNeg)]) (st1 := [aI x2, aR 28 x1.toNatClampNeg]) (σ1 := σ) (P := []) rfl trivial ?_
      obtain ⟨q3, hq3, hm⟩ := bnT_eq hm
      refine XW.callV B (M := M_X6_holdBody) (t := 28) (j := x1.toNatClampNeg) (cn := 6) (as := [aI x2]) (c_X6_holdBody x1.toNatClampNeg x2 σ (sh_j h1) hq3) (by decide) wV_X6_holdBody wN_X6_holdBody lk_X10_308 rfl rfl rfl (sh_j h1) rfl (Nat.le_of_ble_eq_true rfl) (by decide +kernel) ?_
      refine XW.bk B [(33, .iconst 1)] (by decide +kernel) (pc1 := 34) (ls1 := [some (aR 0 0), some (aI x1), some (aI x2), some (aR 28 x1.toNatClampNeg)]) (st1 := [aI (1 : Int32)]) (σ1 := q3) (P := []) rfl trivial ?_
      obtain ⟨rfl, rfl⟩ := Prod.mk.inj (hm)
      exact XW.iret B q (by decide +kernel)
    · rw [if_neg h2] at hm
      refine XW.bk B [(15, .aload_n 0), (16, .getfield 70), (19, .iload_n 2)] (by decide +kernel) (pc1 := 20) (ls1 := [some (aR 0 0), some (aI x1), some (aI x2), some (aR 28 x1.toNatClampNeg)]) (st1 := [aI x2, aR 24 0]) (σ1 := σ) (P := []) rfl trivial ?_
      refine XW.callV B (M := M_X5_has) (t := 24) (j := 0) (cn := 1) (as := [aI x2]) (c_X5_has x2 σ rfl) (by decide) wV_X5_has wN_X5_has lk_X10_307 rfl rfl rfl (by decide) rfl (Nat.le_of_ble_eq_true rfl) (by decide +kernel) ?_
      refine XW.bn B [] (by decide +kernel) (pc1 := 23) (ls1 := [some (aR 0 0), some (aI x1), some (aI x2), some (aR 28 x1.toNatClampNeg)]) (st1 := [aI (m_X5_has x2 σ)]) (σ1 := σ) (P := []) (i := .ifCond .ne 5) (tgt := 28) (q := (m_X5_has x2 σ) = (0 : Int32)) rfl trivial (by decide +kernel) rfl (by decide) (fun h4 => ?_) (fun h4 => ?_)
      · rw [if_pos h4] at hm
        refine XW.bk B [(26, .iconst (-1))] (by decide +kernel) (pc1 := 27) (ls1 := [some (aR 0 0), some (aI x1), some (aI x2), some (aR 28 x1.toNatClampNeg)]) (st1 := [aI (-1 : Int32)]) (σ1 := σ) (P := []) rfl trivial ?_
        obtain ⟨rfl, rfl⟩ := Prod.mk.inj (hm)
        exact XW.iret B q (by decide +kernel)
      · rw [if_neg h4] at hm
        refine XW.bk B [(28, .aload_n 3), (29, .iload_n 2)] (by decide +kernel) (pc1 := 30) (ls1 := [some (aR 0 0), some (aI x1), some (aI x2), some (aR 28 x1.toNatClampNeg)]) (st1 := [aI x2, aR 28 x1.toNatClampNeg]) (σ1 := σ) (P := []) rfl trivial ?_
        obtain ⟨q5, hq5, hm⟩ := bnT_eq hm
        refine XW.callV B (M := M_X6_holdBody) (t := 28) (j := x1.toNatClampNeg) (cn := 6) (as := [aI x2]) (c_X6_holdBody x1.toNatClampNeg x2 σ (sh_j h1) hq5) (by decide) wV_X6_holdBody wN_X6_holdBody lk_X10_308 rfl rfl rfl (sh_j h1) rfl (Nat.le_of_ble_eq_true rfl) (by decide +kernel) ?_
        refine XW.bk B [(33, .iconst 1)] (by decide +kernel) (pc1 := 34) (ls1 := [some (aR 0 0), some (aI x1), some (aI x2), some (aR 28 x1.toNatClampNeg)]) (st1 := [aI (1 : Int32)]) (σ1 := q5) (P := []) rfl trivial ?_
        obtain ⟨rfl, rfl⟩ := Prod.mk.inj (hm)
        exact XW.iret B q (by decide +kernel)

def m_X10_row (x1 : Int32) (x2 : Int32) (x3 : Int32) (σ : SS) : Int32 × SS :=
  if x1 < 0 ∨ ¬ x1 < 6 then
    ((-1 : Int32), σ)
  else
  if (m_X10_isWithin x2 (0 : Int32) (4 : Int32)) = (0 : Int32) then
    ((-1 : Int32), σ)
  else
  if x3 ≤ (60 : Int32) then
    if (0 : Int32) ≤ x3 then
      bnT (m_X6_holdRow x1.toNatClampNeg x2 x3 σ) (fun q5 =>
      ((1 : Int32), q5))
    else
    ((-14 : Int32), σ)
  else
  ((-1 : Int32), σ)
set_option maxRecDepth 100000 in
set_option maxHeartbeats 4000000 in
theorem c_X10_row (x1 : Int32) (x2 : Int32) (x3 : Int32) (σ : SS) {r : Int32} {σ' : SS} (hm : m_X10_row x1 x2 x3 σ = (r, σ')) : XM LC 3 M_X10_row [aR 0 0, aI x1, aI x2, aI x3] σ (some (aI r)) σ' := by
  refine XM.of (K := K10) (by decide) (by decide +kernel) K10_ok (Nat.le_of_ble_eq_true rfl) (fun Γ B q => ?_)
  unfold m_X10_row at hm
  refine XW.bk B [(0, .aload_n 0), (1, .iload_n 1)] (by decide +kernel) (pc1 := 2) (ls1 := [some (aR 0 0), some (aI x1), some (aI x2), some (aI x3), none]) (st1 := [aI x1, aR 0 0]) (σ1 := σ) (P := []) rfl trivial ?_
  by_cases h1 : x1 < 0 ∨ ¬ x1 < 6
  · rw [if_pos h1] at hm
    refine XW.callV B (M := M_X10_shelfAt) (t := 0) (j := 0) (cn := 1) (as := [aI x1]) (c_shelfAt0 h1 σ) (by decide) wV_X10_shelfAt wN_X10_shelfAt lk_X10_86 rfl rfl rfl (by decide) rfl (Nat.le_of_ble_eq_true rfl) (by decide +kernel) ?_
    refine XW.bk B [(5, .astore 4), (7, .aload 4)] (by decide +kernel) (pc1 := 9) (ls1 := [some (aR 0 0), some (aI x1), some (aI x2), some (aI x3), some (aN)]) (st1 := [aN]) (σ1 := σ) (P := []) rfl trivial ?_
    refine XW.nullN B (off := 18) (tgt := 27) (by decide +kernel) (by decide) ?_
    refine XW.bk B [(27, .iconst (-1))] (by decide +kernel) (pc1 := 28) (ls1 := [some (aR 0 0), some (aI x1), some (aI x2), some (aI x3), some (aN)]) (st1 := [aI (-1 : Int32)]) (σ1 := σ) (P := []) rfl trivial ?_
    obtain ⟨rfl, rfl⟩ := Prod.mk.inj (hm)
    exact XW.iret B q (by decide +kernel)
  · rw [if_neg h1] at hm
    refine XW.callV B (M := M_X10_shelfAt) (t := 0) (j := 0) (cn := 1) (as := [aI x1]) (c_shelfAt1 h1 σ) (by decide) wV_X10_shelfAt wN_X10_shelfAt lk_X10_86 rfl rfl rfl (by decide) rfl (Nat.le_of_ble_eq_true rfl) (by decide +kernel) ?_
    refine XW.bk B [(5, .astore 4), (7, .aload 4)] (by decide +kernel) (pc1 := 9) (ls1 := [some (aR 0 0), some (aI x1), some (aI x2), some (aI x3), some (aR 28 x1.toNatClampNeg)]) (st1 := [aR 28 x1.toNatClampNeg]) (σ1 := σ) (P := []) rfl trivial ?_
    refine XW.nullR B (off := 18) (by decide +kernel) ?_
    refine XW.bk B [(12, .iload_n 2), (13, .iconst 0), (14, .iconst 4)] (by decide +kernel) (pc1 := 15) (ls1 := [some (aR 0 0), some (aI x1), some (aI x2), some (aI x3), some (aR 28 x1.toNatClampNeg)]) (st1 := [aI (4 : Int32), aI (0 : Int32), aI x2]) (σ1 := σ) (P := []) rfl trivial ?_
    refine XW.callS B (M := M_X10_isWithin) (as := [aI x2, aI (0 : Int32), aI (4 : Int32)]) (c_X10_isWithin x2 (0 : Int32) (4 : Int32) σ rfl) (by decide) wS_X10_isWithin wN_X10_isWithin lk_X10_90 rfl (Nat.le_of_ble_eq_true rfl) (by decide +kernel) ?_
    refine XW.bb B [] (by decide +kernel) (pc1 := 18) (ls1 := [some (aR 0 0), some (aI x1), some (aI x2), some (aI x3), some (aR 28 x1.toNatClampNeg)]) (st1 := [aI (m_X10_isWithin x2 (0 : Int32) (4 : Int32))]) (σ1 := σ) (P := []) (i := .ifCond .eq 9) (tgt := 27) (q := (m_X10_isWithin x2 (0 : Int32) (4 : Int32)) = (0 : Int32)) rfl trivial (by decide +kernel) rfl (by decide) (fun h2 => ?_) (fun h2 => ?_)
    · rw [if_pos h2] at hm
      refine XW.bk B [(27, .iconst (-1))] (by decide +kernel) (pc1 := 28) (ls1 := [some (aR 0 0), some (aI x1), some (aI x2), some (aI x3), some (aR 28 x1.toNatClampNeg)]) (st1 := [aI (-1 : Int32)]) (σ1 := σ) (P := []) rfl trivial ?_
      obtain ⟨rfl, rfl⟩ := Prod.mk.inj (hm)
      exact XW.iret B q (by decide +kernel)
    · rw [if_neg h2] at hm
      refine XW.bb B [(21, .iload_n 3), (22, .bipush 60)] (by decide +kernel) (pc1 := 24) (ls1 := [some (aR 0 0), some (aI x1), some (aI x2), some (aI x3), some (aR 28 x1.toNatClampNeg)]) (st1 := [aI (60 : Int32), aI x3]) (σ1 := σ) (P := []) (i := .if_icmp .le 5) (tgt := 29) (q := x3 ≤ (60 : Int32)) rfl trivial (by decide +kernel) rfl (by decide) (fun h3 => ?_) (fun h3 => ?_)
      · rw [if_pos h3] at hm
        refine XW.bb B [(29, .iload_n 3)] (by decide +kernel) (pc1 := 30) (ls1 := [some (aR 0 0), some (aI x1), some (aI x2), some (aI x3), some (aR 28 x1.toNatClampNeg)]) (st1 := [aI x3]) (σ1 := σ) (P := []) (i := .ifCond .ge 6) (tgt := 36) (q := (0 : Int32) ≤ x3) rfl trivial (by decide +kernel) rfl (by decide) (fun h4 => ?_) (fun h4 => ?_)
        · rw [if_pos h4] at hm
          refine XW.bk B [(36, .aload 4), (38, .iload_n 2), (39, .iload_n 3)] (by decide +kernel) (pc1 := 40) (ls1 := [some (aR 0 0), some (aI x1), some (aI x2), some (aI x3), some (aR 28 x1.toNatClampNeg)]) (st1 := [aI x3, aI x2, aR 28 x1.toNatClampNeg]) (σ1 := σ) (P := []) rfl trivial ?_
          obtain ⟨q5, hq5, hm⟩ := bnT_eq hm
          refine XW.callV B (M := M_X6_holdRow) (t := 28) (j := x1.toNatClampNeg) (cn := 6) (as := [aI x2, aI x3]) (c_X6_holdRow x1.toNatClampNeg x2 x3 σ (sh_j h1) hq5) (by decide) wV_X6_holdRow wN_X6_holdRow lk_X10_311 rfl rfl rfl (sh_j h1) rfl (Nat.le_of_ble_eq_true rfl) (by decide +kernel) ?_
          refine XW.bk B [(43, .iconst 1)] (by decide +kernel) (pc1 := 44) (ls1 := [some (aR 0 0), some (aI x1), some (aI x2), some (aI x3), some (aR 28 x1.toNatClampNeg)]) (st1 := [aI (1 : Int32)]) (σ1 := q5) (P := []) rfl trivial ?_
          obtain ⟨rfl, rfl⟩ := Prod.mk.inj (hm)
          exact XW.iret B q (by decide +kernel)
        · rw [if_neg h4] at hm
          refine XW.bk B [(33, .bipush (-14))] (by decide +kernel) (pc1 := 35) (ls1 := [some (aR 0 0), some (aI x1), some (aI x2), some (aI x3), some (aR 28 x1.toNatClampNeg)]) (st1 := [aI (-14 : Int32)]) (σ1 := σ) (P := []) rfl trivial ?_
          obtain ⟨rfl, rfl⟩ := Prod.mk.inj (hm)
          exact XW.iret B q (by decide +kernel)
      · rw [if_neg h3] at hm
        refine XW.bk B [(27, .iconst (-1))] (by decide +kernel) (pc1 := 28) (ls1 := [some (aR 0 0), some (aI x1), some (aI x2), some (aI x3), some (aR 28 x1.toNatClampNeg)]) (st1 := [aI (-1 : Int32)]) (σ1 := σ) (P := []) rfl trivial ?_
        obtain ⟨rfl, rfl⟩ := Prod.mk.inj (hm)
        exact XW.iret B q (by decide +kernel)

def m_X10_elementRefused (j : Nat) (x2 : Int32) (σ : SS) : Int32 :=
  if (m_X6_isEmpty j σ) = (0 : Int32) then
    if (m_X6_holdsRow j σ) = (0 : Int32) then
      (-12 : Int32)
    else
    if x2 < (0 : Int32) then
      (-13 : Int32)
    else
    if (1 : Int32) ≤ (m_X6_left j x2 σ) then
      (0 : Int32)
    else
    (-13 : Int32)
  else
  (-11 : Int32)
set_option maxRecDepth 100000 in
set_option maxHeartbeats 4000000 in
theorem c_X10_elementRefused (j : Nat) (x2 : Int32) (σ : SS) (hj : j < 6) {r : Int32} (hm : m_X10_elementRefused j x2 σ = r) : XM LC 2 M_X10_elementRefused [aR 28 j, aI x2] σ (some (aI r)) σ := by
  refine XM.of (K := K10) (by decide) (by decide +kernel) K10_ok (Nat.le_of_ble_eq_true rfl) (fun Γ B q => ?_)
  unfold m_X10_elementRefused at hm
  refine XW.bk B [(0, .aload_n 0)] (by decide +kernel) (pc1 := 1) (ls1 := [some (aR 28 j), some (aI x2)]) (st1 := [aR 28 j]) (σ1 := σ) (P := []) rfl trivial ?_
  refine XW.callV B (M := M_X6_isEmpty) (t := 28) (j := j) (cn := 6) (as := []) (c_X6_isEmpty j σ hj rfl) (by decide) wV_X6_isEmpty wN_X6_isEmpty lk_X10_94 rfl rfl rfl hj rfl (Nat.le_of_ble_eq_true rfl) (by decide +kernel) ?_
  refine XW.bb B [] (by decide +kernel) (pc1 := 4) (ls1 := [some (aR 28 j), some (aI x2)]) (st1 := [aI (m_X6_isEmpty j σ)]) (σ1 := σ) (P := []) (i := .ifCond .eq 6) (tgt := 10) (q := (m_X6_isEmpty j σ) = (0 : Int32)) rfl trivial (by decide +kernel) rfl (by decide) (fun h1 => ?_) (fun h1 => ?_)
  · rw [if_pos h1] at hm
    refine XW.bk B [(10, .aload_n 0)] (by decide +kernel) (pc1 := 11) (ls1 := [some (aR 28 j), some (aI x2)]) (st1 := [aR 28 j]) (σ1 := σ) (P := []) rfl trivial ?_
    refine XW.callV B (M := M_X6_holdsRow) (t := 28) (j := j) (cn := 6) (as := []) (c_X6_holdsRow j σ hj rfl) (by decide) wV_X6_holdsRow wN_X6_holdsRow lk_X10_320 rfl rfl rfl hj rfl (Nat.le_of_ble_eq_true rfl) (by decide +kernel) ?_
    refine XW.bn B [] (by decide +kernel) (pc1 := 14) (ls1 := [some (aR 28 j), some (aI x2)]) (st1 := [aI (m_X6_holdsRow j σ)]) (σ1 := σ) (P := []) (i := .ifCond .ne 6) (tgt := 20) (q := (m_X6_holdsRow j σ) = (0 : Int32)) rfl trivial (by decide +kernel) rfl (by decide) (fun h2 => ?_) (fun h2 => ?_)
    · rw [if_pos h2] at hm
      refine XW.bk B [(17, .bipush (-12))] (by decide +kernel) (pc1 := 19) (ls1 := [some (aR 28 j), some (aI x2)]) (st1 := [aI (-12 : Int32)]) (σ1 := σ) (P := []) rfl trivial ?_
      subst hm
      exact XW.iret B q (by decide +kernel)
    · rw [if_neg h2] at hm
      refine XW.bb B [(20, .iload_n 1)] (by decide +kernel) (pc1 := 21) (ls1 := [some (aR 28 j), some (aI x2)]) (st1 := [aI x2]) (σ1 := σ) (P := []) (i := .ifCond .lt 12) (tgt := 33) (q := x2 < (0 : Int32)) rfl trivial (by decide +kernel) rfl (by decide) (fun h3 => ?_) (fun h3 => ?_)
      · rw [if_pos h3] at hm
        refine XW.bk B [(33, .bipush (-13)), (35, .goto 4)] (by decide +kernel) (pc1 := 39) (ls1 := [some (aR 28 j), some (aI x2)]) (st1 := [aI (-13 : Int32)]) (σ1 := σ) (P := []) rfl trivial ?_
        subst hm
        exact XW.iret B q (by decide +kernel)
      · rw [if_neg h3] at hm
        refine XW.bk B [(24, .aload_n 0), (25, .iload_n 1)] (by decide +kernel) (pc1 := 26) (ls1 := [some (aR 28 j), some (aI x2)]) (st1 := [aI x2, aR 28 j]) (σ1 := σ) (P := []) rfl trivial ?_
        refine XW.callV B (M := M_X6_left) (t := 28) (j := j) (cn := 6) (as := [aI x2]) (c_X6_left j x2 σ hj rfl) (by decide) wV_X6_left wN_X6_left lk_X10_101 rfl rfl rfl hj rfl (Nat.le_of_ble_eq_true rfl) (by decide +kernel) ?_
        refine XW.bb B [(29, .iconst 1)] (by decide +kernel) (pc1 := 30) (ls1 := [some (aR 28 j), some (aI x2)]) (st1 := [aI (1 : Int32), aI (m_X6_left j x2 σ)]) (σ1 := σ) (P := []) (i := .if_icmp .ge 8) (tgt := 38) (q := (1 : Int32) ≤ (m_X6_left j x2 σ)) rfl trivial (by decide +kernel) rfl (by decide) (fun h4 => ?_) (fun h4 => ?_)
        · rw [if_pos h4] at hm
          refine XW.bk B [(38, .iconst 0)] (by decide +kernel) (pc1 := 39) (ls1 := [some (aR 28 j), some (aI x2)]) (st1 := [aI (0 : Int32)]) (σ1 := σ) (P := []) rfl trivial ?_
          subst hm
          exact XW.iret B q (by decide +kernel)
        · rw [if_neg h4] at hm
          refine XW.bk B [(33, .bipush (-13)), (35, .goto 4)] (by decide +kernel) (pc1 := 39) (ls1 := [some (aR 28 j), some (aI x2)]) (st1 := [aI (-13 : Int32)]) (σ1 := σ) (P := []) rfl trivial ?_
          subst hm
          exact XW.iret B q (by decide +kernel)
  · rw [if_neg h1] at hm
    refine XW.bk B [(7, .bipush (-11))] (by decide +kernel) (pc1 := 9) (ls1 := [some (aR 28 j), some (aI x2)]) (st1 := [aI (-11 : Int32)]) (σ1 := σ) (P := []) rfl trivial ?_
    subst hm
    exact XW.iret B q (by decide +kernel)

def m_X10_put (x1 : Int32) (x2 : Int32) (x3 : Int64) (σ : SS) : Int32 × SS :=
  if x1 < 0 ∨ ¬ x1 < 6 then
    ((-1 : Int32), σ)
  else
  if (m_X10_elementRefused x1.toNatClampNeg x2 σ) = (0 : Int32) then
    bnT (m_X6_write x1.toNatClampNeg x2 x3 σ) (fun q3 =>
    ((1 : Int32), q3))
  else
  ((m_X10_elementRefused x1.toNatClampNeg x2 σ), σ)
set_option maxRecDepth 100000 in
set_option maxHeartbeats 4000000 in
theorem c_X10_put (x1 : Int32) (x2 : Int32) (x3 : Int64) (σ : SS) {r : Int32} {σ' : SS} (hm : m_X10_put x1 x2 x3 σ = (r, σ')) : XM LC 3 M_X10_put [aR 0 0, aI x1, aI x2, aJ x3] σ (some (aI r)) σ' := by
  refine XM.of (K := K10) (by decide) (by decide +kernel) K10_ok (Nat.le_of_ble_eq_true rfl) (fun Γ B q => ?_)
  unfold m_X10_put at hm
  refine XW.bk B [(0, .aload_n 0), (1, .iload_n 1)] (by decide +kernel) (pc1 := 2) (ls1 := [some (aR 0 0), some (aI x1), some (aI x2), some (aJ x3), none, none, none]) (st1 := [aI x1, aR 0 0]) (σ1 := σ) (P := []) rfl trivial ?_
  by_cases h1 : x1 < 0 ∨ ¬ x1 < 6
  · rw [if_pos h1] at hm
    refine XW.callV B (M := M_X10_shelfAt) (t := 0) (j := 0) (cn := 1) (as := [aI x1]) (c_shelfAt0 h1 σ) (by decide) wV_X10_shelfAt wN_X10_shelfAt lk_X10_86 rfl rfl rfl (by decide) rfl (Nat.le_of_ble_eq_true rfl) (by decide +kernel) ?_
    refine XW.bk B [(5, .astore 5), (7, .aload 5)] (by decide +kernel) (pc1 := 9) (ls1 := [some (aR 0 0), some (aI x1), some (aI x2), some (aJ x3), none, some (aN), none]) (st1 := [aN]) (σ1 := σ) (P := []) rfl trivial ?_
    refine XW.nonN B (off := 5) (by decide +kernel) ?_
    refine XW.bk B [(12, .iconst (-1))] (by decide +kernel) (pc1 := 13) (ls1 := [some (aR 0 0), some (aI x1), some (aI x2), some (aJ x3), none, some (aN), none]) (st1 := [aI (-1 : Int32)]) (σ1 := σ) (P := []) rfl trivial ?_
    obtain ⟨rfl, rfl⟩ := Prod.mk.inj (hm)
    exact XW.iret B q (by decide +kernel)
  · rw [if_neg h1] at hm
    refine XW.callV B (M := M_X10_shelfAt) (t := 0) (j := 0) (cn := 1) (as := [aI x1]) (c_shelfAt1 h1 σ) (by decide) wV_X10_shelfAt wN_X10_shelfAt lk_X10_86 rfl rfl rfl (by decide) rfl (Nat.le_of_ble_eq_true rfl) (by decide +kernel) ?_
    refine XW.bk B [(5, .astore 5), (7, .aload 5)] (by decide +kernel) (pc1 := 9) (ls1 := [some (aR 0 0), some (aI x1), some (aI x2), some (aJ x3), none, some (aR 28 x1.toNatClampNeg), none]) (st1 := [aR 28 x1.toNatClampNeg]) (σ1 := σ) (P := []) rfl trivial ?_
    refine XW.nonR B (off := 5) (tgt := 14) (by decide +kernel) (by decide) ?_
    refine XW.bk B [(14, .aload 5), (16, .iload_n 2)] (by decide +kernel) (pc1 := 17) (ls1 := [some (aR 0 0), some (aI x1), some (aI x2), some (aJ x3), none, some (aR 28 x1.toNatClampNeg), none]) (st1 := [aI x2, aR 28 x1.toNatClampNeg]) (σ1 := σ) (P := []) rfl trivial ?_
    refine XW.callS B (M := M_X10_elementRefused) (as := [aR 28 x1.toNatClampNeg, aI x2]) (c_X10_elementRefused x1.toNatClampNeg x2 σ (sh_j h1) rfl) (by decide) wS_X10_elementRefused wN_X10_elementRefused lk_X10_314 rfl (Nat.le_of_ble_eq_true rfl) (by decide +kernel) ?_
    refine XW.bb B [(20, .istore 6), (22, .iload 6)] (by decide +kernel) (pc1 := 24) (ls1 := [some (aR 0 0), some (aI x1), some (aI x2), some (aJ x3), none, some (aR 28 x1.toNatClampNeg), some (aI (m_X10_elementRefused x1.toNatClampNeg x2 σ))]) (st1 := [aI (m_X10_elementRefused x1.toNatClampNeg x2 σ)]) (σ1 := σ) (P := []) (i := .ifCond .eq 6) (tgt := 30) (q := (m_X10_elementRefused x1.toNatClampNeg x2 σ) = (0 : Int32)) rfl trivial (by decide +kernel) rfl (by decide) (fun h2 => ?_) (fun h2 => ?_)
    · rw [if_pos h2] at hm
      refine XW.bk B [(30, .aload 5), (32, .iload_n 2), (33, .lload_n 3)] (by decide +kernel) (pc1 := 34) (ls1 := [some (aR 0 0), some (aI x1), some (aI x2), some (aJ x3), none, some (aR 28 x1.toNatClampNeg), some (aI (m_X10_elementRefused x1.toNatClampNeg x2 σ))]) (st1 := [aJ x3, aI x2, aR 28 x1.toNatClampNeg]) (σ1 := σ) (P := []) rfl trivial ?_
      obtain ⟨q3, hq3, hm⟩ := bnT_eq hm
      refine XW.callV B (M := M_X6_write) (t := 28) (j := x1.toNatClampNeg) (cn := 6) (as := [aI x2, aJ x3]) (c_X6_write x1.toNatClampNeg x2 x3 σ (sh_j h1) hq3) (by decide) wV_X6_write wN_X6_write lk_X10_317 rfl rfl rfl (sh_j h1) rfl (Nat.le_of_ble_eq_true rfl) (by decide +kernel) ?_
      refine XW.bk B [(37, .iconst 1)] (by decide +kernel) (pc1 := 38) (ls1 := [some (aR 0 0), some (aI x1), some (aI x2), some (aJ x3), none, some (aR 28 x1.toNatClampNeg), some (aI (m_X10_elementRefused x1.toNatClampNeg x2 σ))]) (st1 := [aI (1 : Int32)]) (σ1 := q3) (P := []) rfl trivial ?_
      obtain ⟨rfl, rfl⟩ := Prod.mk.inj (hm)
      exact XW.iret B q (by decide +kernel)
    · rw [if_neg h2] at hm
      refine XW.bk B [(27, .iload 6)] (by decide +kernel) (pc1 := 29) (ls1 := [some (aR 0 0), some (aI x1), some (aI x2), some (aJ x3), none, some (aR 28 x1.toNatClampNeg), some (aI (m_X10_elementRefused x1.toNatClampNeg x2 σ))]) (st1 := [aI (m_X10_elementRefused x1.toNatClampNeg x2 σ)]) (σ1 := σ) (P := []) rfl trivial ?_
      obtain ⟨rfl, rfl⟩ := Prod.mk.inj (hm)
      exact XW.iret B q (by decide +kernel)

def m_X10_element (x1 : Int32) (x2 : Int32) (σ : SS) : Int64 :=
  if x1 < 0 ∨ ¬ x1 < 6 then
    (-9223372036854775808 : Int64)
  else
  if (m_X10_elementRefused x1.toNatClampNeg x2 σ) = (0 : Int32) then
    (m_X6_cell x1.toNatClampNeg x2 σ)
  else
  (-9223372036854775808 : Int64)
set_option maxRecDepth 100000 in
set_option maxHeartbeats 4000000 in
theorem c_X10_element (x1 : Int32) (x2 : Int32) (σ : SS) {r : Int64} (hm : m_X10_element x1 x2 σ = r) : XM LC 3 M_X10_element [aR 0 0, aI x1, aI x2] σ (some (aJ r)) σ := by
  refine XM.of (K := K10) (by decide) (by decide +kernel) K10_ok (Nat.le_of_ble_eq_true rfl) (fun Γ B q => ?_)
  unfold m_X10_element at hm
  refine XW.bk B [(0, .aload_n 0), (1, .iload_n 1)] (by decide +kernel) (pc1 := 2) (ls1 := [some (aR 0 0), some (aI x1), some (aI x2), none]) (st1 := [aI x1, aR 0 0]) (σ1 := σ) (P := []) rfl trivial ?_
  by_cases h1 : x1 < 0 ∨ ¬ x1 < 6
  · rw [if_pos h1] at hm
    refine XW.callV B (M := M_X10_shelfAt) (t := 0) (j := 0) (cn := 1) (as := [aI x1]) (c_shelfAt0 h1 σ) (by decide) wV_X10_shelfAt wN_X10_shelfAt lk_X10_86 rfl rfl rfl (by decide) rfl (Nat.le_of_ble_eq_true rfl) (by decide +kernel) ?_
    refine XW.bk B [(5, .astore_n 3), (6, .aload_n 3)] (by decide +kernel) (pc1 := 7) (ls1 := [some (aR 0 0), some (aI x1), some (aI x2), some (aN)]) (st1 := [aN]) (σ1 := σ) (P := []) rfl trivial ?_
    refine XW.nullN B (off := 11) (tgt := 18) (by decide +kernel) (by decide) ?_
    refine XW.bk B [(18, .ldc2_w 178), (21, .goto 8)] (by decide +kernel) (pc1 := 29) (ls1 := [some (aR 0 0), some (aI x1), some (aI x2), some (aN)]) (st1 := [aJ (-9223372036854775808 : Int64)]) (σ1 := σ) (P := []) rfl trivial ?_
    subst hm
    exact XW.lret B q (by decide +kernel)
  · rw [if_neg h1] at hm
    refine XW.callV B (M := M_X10_shelfAt) (t := 0) (j := 0) (cn := 1) (as := [aI x1]) (c_shelfAt1 h1 σ) (by decide) wV_X10_shelfAt wN_X10_shelfAt lk_X10_86 rfl rfl rfl (by decide) rfl (Nat.le_of_ble_eq_true rfl) (by decide +kernel) ?_
    refine XW.bk B [(5, .astore_n 3), (6, .aload_n 3)] (by decide +kernel) (pc1 := 7) (ls1 := [some (aR 0 0), some (aI x1), some (aI x2), some (aR 28 x1.toNatClampNeg)]) (st1 := [aR 28 x1.toNatClampNeg]) (σ1 := σ) (P := []) rfl trivial ?_
    refine XW.nullR B (off := 11) (by decide +kernel) ?_
    refine XW.bk B [(10, .aload_n 3), (11, .iload_n 2)] (by decide +kernel) (pc1 := 12) (ls1 := [some (aR 0 0), some (aI x1), some (aI x2), some (aR 28 x1.toNatClampNeg)]) (st1 := [aI x2, aR 28 x1.toNatClampNeg]) (σ1 := σ) (P := []) rfl trivial ?_
    refine XW.callS B (M := M_X10_elementRefused) (as := [aR 28 x1.toNatClampNeg, aI x2]) (c_X10_elementRefused x1.toNatClampNeg x2 σ (sh_j h1) rfl) (by decide) wS_X10_elementRefused wN_X10_elementRefused lk_X10_314 rfl (Nat.le_of_ble_eq_true rfl) (by decide +kernel) ?_
    refine XW.bb B [] (by decide +kernel) (pc1 := 15) (ls1 := [some (aR 0 0), some (aI x1), some (aI x2), some (aR 28 x1.toNatClampNeg)]) (st1 := [aI (m_X10_elementRefused x1.toNatClampNeg x2 σ)]) (σ1 := σ) (P := []) (i := .ifCond .eq 9) (tgt := 24) (q := (m_X10_elementRefused x1.toNatClampNeg x2 σ) = (0 : Int32)) rfl trivial (by decide +kernel) rfl (by decide) (fun h2 => ?_) (fun h2 => ?_)
    · rw [if_pos h2] at hm
      refine XW.bk B [(24, .aload_n 3), (25, .iload_n 2)] (by decide +kernel) (pc1 := 26) (ls1 := [some (aR 0 0), some (aI x1), some (aI x2), some (aR 28 x1.toNatClampNeg)]) (st1 := [aI x2, aR 28 x1.toNatClampNeg]) (σ1 := σ) (P := []) rfl trivial ?_
      refine XW.callV B (M := M_X6_cell) (t := 28) (j := x1.toNatClampNeg) (cn := 6) (as := [aI x2]) (c_X6_cell x1.toNatClampNeg x2 σ (sh_j h1) rfl) (by decide) wV_X6_cell wN_X6_cell lk_X10_109 rfl rfl rfl (sh_j h1) rfl (Nat.le_of_ble_eq_true rfl) (by decide +kernel) ?_
      subst hm
      exact XW.lret B q (by decide +kernel)
    · rw [if_neg h2] at hm
      refine XW.bk B [(18, .ldc2_w 178), (21, .goto 8)] (by decide +kernel) (pc1 := 29) (ls1 := [some (aR 0 0), some (aI x1), some (aI x2), some (aR 28 x1.toNatClampNeg)]) (st1 := [aJ (-9223372036854775808 : Int64)]) (σ1 := σ) (P := []) rfl trivial ?_
      subst hm
      exact XW.lret B q (by decide +kernel)

def m_X10_shift (x1 : Int32) (x2 : Int32) (x3 : Int32) (x4 : Int32) (x5 : Int32) (σ : SS) : Option (Int32 × SS) :=
  if x1 < 0 ∨ ¬ x1 < 6 then
    if x3 < 0 ∨ ¬ x3 < 6 then
      some ((-1 : Int32), σ)
    else
    some ((-1 : Int32), σ)
  else
  if x3 < 0 ∨ ¬ x3 < 6 then
    some ((-1 : Int32), σ)
  else
  if (m_X6_isEmpty x1.toNatClampNeg σ) = (0 : Int32) then
    if (m_X6_isEmpty x3.toNatClampNeg σ) = (0 : Int32) then
      if (m_X6_holdsRow x1.toNatClampNeg σ) = (0 : Int32) then
        some ((-12 : Int32), σ)
      else
      if (σ.1 28 x1.toNatClampNeg 0) = (σ.1 28 x3.toNatClampNeg 0) then
        if x5 < (0 : Int32) then
          some ((-13 : Int32), σ)
        else
        if x2 < (0 : Int32) then
          some ((-13 : Int32), σ)
        else
        if x4 < (0 : Int32) then
          some ((-13 : Int32), σ)
        else
        if (m_X6_left x1.toNatClampNeg x2 σ) < x5 then
          some ((-13 : Int32), σ)
        else
        if x5 ≤ (m_X6_left x3.toNatClampNeg x4 σ) then
          if (¬ x2 < 0 ∧ ¬ x4 < 0 ∧ ¬ x5 < 0 ∧ x2.toNatClampNeg + x5.toNatClampNeg ≤ 60 ∧ x4.toNatClampNeg + x5.toNatClampNeg ≤ 60) then
            some (x5, (sLf σ 29 x3.toNatClampNeg (va_cpy (σ.2.2 29 x1.toNatClampNeg) (σ.2.2 29 x3.toNatClampNeg) x2.toNatClampNeg x4.toNatClampNeg x5.toNatClampNeg)))
          else none
        else
        some ((-13 : Int32), σ)
      else
      some ((-12 : Int32), σ)
    else
    some ((-11 : Int32), σ)
  else
  some ((-11 : Int32), σ)
set_option maxRecDepth 100000 in
set_option maxHeartbeats 4000000 in
theorem c_X10_shift (x1 : Int32) (x2 : Int32) (x3 : Int32) (x4 : Int32) (x5 : Int32) (σ : SS) {r : Int32} {σ' : SS} (hm : m_X10_shift x1 x2 x3 x4 x5 σ = some (r, σ')) : XM LC 2 M_X10_shift [aR 0 0, aI x1, aI x2, aI x3, aI x4, aI x5] σ (some (aI r)) σ' := by
  refine XM.of (K := K10) (by decide) (by decide +kernel) K10_ok (Nat.le_of_ble_eq_true rfl) (fun Γ B q => ?_)
  unfold m_X10_shift at hm
  refine XW.bk B [(0, .aload_n 0), (1, .iload_n 1)] (by decide +kernel) (pc1 := 2) (ls1 := [some (aR 0 0), some (aI x1), some (aI x2), some (aI x3), some (aI x4), some (aI x5), none, none]) (st1 := [aI x1, aR 0 0]) (σ1 := σ) (P := []) rfl trivial ?_
  by_cases h1 : x1 < 0 ∨ ¬ x1 < 6
  · rw [if_pos h1] at hm
    refine XW.callV B (M := M_X10_shelfAt) (t := 0) (j := 0) (cn := 1) (as := [aI x1]) (c_shelfAt0 h1 σ) (by decide) wV_X10_shelfAt wN_X10_shelfAt lk_X10_86 rfl rfl rfl (by decide) rfl (Nat.le_of_ble_eq_true rfl) (by decide +kernel) ?_
    refine XW.bk B [(5, .astore 6), (7, .aload_n 0), (8, .iload_n 3)] (by decide +kernel) (pc1 := 9) (ls1 := [some (aR 0 0), some (aI x1), some (aI x2), some (aI x3), some (aI x4), some (aI x5), some (aN), none]) (st1 := [aI x3, aR 0 0]) (σ1 := σ) (P := []) rfl trivial ?_
    by_cases h2 : x3 < 0 ∨ ¬ x3 < 6
    · rw [if_pos h2] at hm
      refine XW.callV B (M := M_X10_shelfAt) (t := 0) (j := 0) (cn := 1) (as := [aI x3]) (c_shelfAt0 h2 σ) (by decide) wV_X10_shelfAt wN_X10_shelfAt lk_X10_86 rfl rfl rfl (by decide) rfl (Nat.le_of_ble_eq_true rfl) (by decide +kernel) ?_
      refine XW.bk B [(12, .astore 7), (14, .aload 6)] (by decide +kernel) (pc1 := 16) (ls1 := [some (aR 0 0), some (aI x1), some (aI x2), some (aI x3), some (aI x4), some (aI x5), some (aN), some (aN)]) (st1 := [aN]) (σ1 := σ) (P := []) rfl trivial ?_
      refine XW.nullN B (off := 8) (tgt := 24) (by decide +kernel) (by decide) ?_
      refine XW.bk B [(24, .iconst (-1))] (by decide +kernel) (pc1 := 25) (ls1 := [some (aR 0 0), some (aI x1), some (aI x2), some (aI x3), some (aI x4), some (aI x5), some (aN), some (aN)]) (st1 := [aI (-1 : Int32)]) (σ1 := σ) (P := []) rfl trivial ?_
      obtain ⟨rfl, rfl⟩ := Prod.mk.inj (Option.some.inj hm)
      exact XW.iret B q (by decide +kernel)
    · rw [if_neg h2] at hm
      refine XW.callV B (M := M_X10_shelfAt) (t := 0) (j := 0) (cn := 1) (as := [aI x3]) (c_shelfAt1 h2 σ) (by decide) wV_X10_shelfAt wN_X10_shelfAt lk_X10_86 rfl rfl rfl (by decide) rfl (Nat.le_of_ble_eq_true rfl) (by decide +kernel) ?_
      refine XW.bk B [(12, .astore 7), (14, .aload 6)] (by decide +kernel) (pc1 := 16) (ls1 := [some (aR 0 0), some (aI x1), some (aI x2), some (aI x3), some (aI x4), some (aI x5), some (aN), some (aR 28 x3.toNatClampNeg)]) (st1 := [aN]) (σ1 := σ) (P := []) rfl trivial ?_
      refine XW.nullN B (off := 8) (tgt := 24) (by decide +kernel) (by decide) ?_
      refine XW.bk B [(24, .iconst (-1))] (by decide +kernel) (pc1 := 25) (ls1 := [some (aR 0 0), some (aI x1), some (aI x2), some (aI x3), some (aI x4), some (aI x5), some (aN), some (aR 28 x3.toNatClampNeg)]) (st1 := [aI (-1 : Int32)]) (σ1 := σ) (P := []) rfl trivial ?_
      obtain ⟨rfl, rfl⟩ := Prod.mk.inj (Option.some.inj hm)
      exact XW.iret B q (by decide +kernel)
  · rw [if_neg h1] at hm
    refine XW.callV B (M := M_X10_shelfAt) (t := 0) (j := 0) (cn := 1) (as := [aI x1]) (c_shelfAt1 h1 σ) (by decide) wV_X10_shelfAt wN_X10_shelfAt lk_X10_86 rfl rfl rfl (by decide) rfl (Nat.le_of_ble_eq_true rfl) (by decide +kernel) ?_
    refine XW.bk B [(5, .astore 6), (7, .aload_n 0), (8, .iload_n 3)] (by decide +kernel) (pc1 := 9) (ls1 := [some (aR 0 0), some (aI x1), some (aI x2), some (aI x3), some (aI x4), some (aI x5), some (aR 28 x1.toNatClampNeg), none]) (st1 := [aI x3, aR 0 0]) (σ1 := σ) (P := []) rfl trivial ?_
    by_cases h3 : x3 < 0 ∨ ¬ x3 < 6
    · rw [if_pos h3] at hm
      refine XW.callV B (M := M_X10_shelfAt) (t := 0) (j := 0) (cn := 1) (as := [aI x3]) (c_shelfAt0 h3 σ) (by decide) wV_X10_shelfAt wN_X10_shelfAt lk_X10_86 rfl rfl rfl (by decide) rfl (Nat.le_of_ble_eq_true rfl) (by decide +kernel) ?_
      refine XW.bk B [(12, .astore 7), (14, .aload 6)] (by decide +kernel) (pc1 := 16) (ls1 := [some (aR 0 0), some (aI x1), some (aI x2), some (aI x3), some (aI x4), some (aI x5), some (aR 28 x1.toNatClampNeg), some (aN)]) (st1 := [aR 28 x1.toNatClampNeg]) (σ1 := σ) (P := []) rfl trivial ?_
      refine XW.nullR B (off := 8) (by decide +kernel) ?_
      refine XW.bk B [(19, .aload 7)] (by decide +kernel) (pc1 := 21) (ls1 := [some (aR 0 0), some (aI x1), some (aI x2), some (aI x3), some (aI x4), some (aI x5), some (aR 28 x1.toNatClampNeg), some (aN)]) (st1 := [aN]) (σ1 := σ) (P := []) rfl trivial ?_
      refine XW.nonN B (off := 5) (by decide +kernel) ?_
      refine XW.bk B [(24, .iconst (-1))] (by decide +kernel) (pc1 := 25) (ls1 := [some (aR 0 0), some (aI x1), some (aI x2), some (aI x3), some (aI x4), some (aI x5), some (aR 28 x1.toNatClampNeg), some (aN)]) (st1 := [aI (-1 : Int32)]) (σ1 := σ) (P := []) rfl trivial ?_
      obtain ⟨rfl, rfl⟩ := Prod.mk.inj (Option.some.inj hm)
      exact XW.iret B q (by decide +kernel)
    · rw [if_neg h3] at hm
      refine XW.callV B (M := M_X10_shelfAt) (t := 0) (j := 0) (cn := 1) (as := [aI x3]) (c_shelfAt1 h3 σ) (by decide) wV_X10_shelfAt wN_X10_shelfAt lk_X10_86 rfl rfl rfl (by decide) rfl (Nat.le_of_ble_eq_true rfl) (by decide +kernel) ?_
      refine XW.bk B [(12, .astore 7), (14, .aload 6)] (by decide +kernel) (pc1 := 16) (ls1 := [some (aR 0 0), some (aI x1), some (aI x2), some (aI x3), some (aI x4), some (aI x5), some (aR 28 x1.toNatClampNeg), some (aR 28 x3.toNatClampNeg)]) (st1 := [aR 28 x1.toNatClampNeg]) (σ1 := σ) (P := []) rfl trivial ?_
      refine XW.nullR B (off := 8) (by decide +kernel) ?_
      refine XW.bk B [(19, .aload 7)] (by decide +kernel) (pc1 := 21) (ls1 := [some (aR 0 0), some (aI x1), some (aI x2), some (aI x3), some (aI x4), some (aI x5), some (aR 28 x1.toNatClampNeg), some (aR 28 x3.toNatClampNeg)]) (st1 := [aR 28 x3.toNatClampNeg]) (σ1 := σ) (P := []) rfl trivial ?_
      refine XW.nonR B (off := 5) (tgt := 26) (by decide +kernel) (by decide) ?_
      refine XW.bk B [(26, .aload 6)] (by decide +kernel) (pc1 := 28) (ls1 := [some (aR 0 0), some (aI x1), some (aI x2), some (aI x3), some (aI x4), some (aI x5), some (aR 28 x1.toNatClampNeg), some (aR 28 x3.toNatClampNeg)]) (st1 := [aR 28 x1.toNatClampNeg]) (σ1 := σ) (P := []) rfl trivial ?_
      refine XW.callV B (M := M_X6_isEmpty) (t := 28) (j := x1.toNatClampNeg) (cn := 6) (as := []) (c_X6_isEmpty x1.toNatClampNeg σ (sh_j h1) rfl) (by decide) wV_X6_isEmpty wN_X6_isEmpty lk_X10_94 rfl rfl rfl (sh_j h1) rfl (Nat.le_of_ble_eq_true rfl) (by decide +kernel) ?_
      refine XW.bn B [] (by decide +kernel) (pc1 := 31) (ls1 := [some (aR 0 0), some (aI x1), some (aI x2), some (aI x3), some (aI x4), some (aI x5), some (aR 28 x1.toNatClampNeg), some (aR 28 x3.toNatClampNeg)]) (st1 := [aI (m_X6_isEmpty x1.toNatClampNeg σ)]) (σ1 := σ) (P := []) (i := .ifCond .ne 11) (tgt := 42) (q := (m_X6_isEmpty x1.toNatClampNeg σ) = (0 : Int32)) rfl trivial (by decide +kernel) rfl (by decide) (fun h4 => ?_) (fun h4 => ?_)
      · rw [if_pos h4] at hm
        refine XW.bk B [(34, .aload 7)] (by decide +kernel) (pc1 := 36) (ls1 := [some (aR 0 0), some (aI x1), some (aI x2), some (aI x3), some (aI x4), some (aI x5), some (aR 28 x1.toNatClampNeg), some (aR 28 x3.toNatClampNeg)]) (st1 := [aR 28 x3.toNatClampNeg]) (σ1 := σ) (P := []) rfl trivial ?_
        refine XW.callV B (M := M_X6_isEmpty) (t := 28) (j := x3.toNatClampNeg) (cn := 6) (as := []) (c_X6_isEmpty x3.toNatClampNeg σ (sh_j h3) rfl) (by decide) wV_X6_isEmpty wN_X6_isEmpty lk_X10_94 rfl rfl rfl (sh_j h3) rfl (Nat.le_of_ble_eq_true rfl) (by decide +kernel) ?_
        refine XW.bb B [] (by decide +kernel) (pc1 := 39) (ls1 := [some (aR 0 0), some (aI x1), some (aI x2), some (aI x3), some (aI x4), some (aI x5), some (aR 28 x1.toNatClampNeg), some (aR 28 x3.toNatClampNeg)]) (st1 := [aI (m_X6_isEmpty x3.toNatClampNeg σ)]) (σ1 := σ) (P := []) (i := .ifCond .eq 6) (tgt := 45) (q := (m_X6_isEmpty x3.toNatClampNeg σ) = (0 : Int32)) rfl trivial (by decide +kernel) rfl (by decide) (fun h5 => ?_) (fun h5 => ?_)
        · rw [if_pos h5] at hm
          refine XW.bk B [(45, .aload 6)] (by decide +kernel) (pc1 := 47) (ls1 := [some (aR 0 0), some (aI x1), some (aI x2), some (aI x3), some (aI x4), some (aI x5), some (aR 28 x1.toNatClampNeg), some (aR 28 x3.toNatClampNeg)]) (st1 := [aR 28 x1.toNatClampNeg]) (σ1 := σ) (P := []) rfl trivial ?_
          refine XW.callV B (M := M_X6_holdsRow) (t := 28) (j := x1.toNatClampNeg) (cn := 6) (as := []) (c_X6_holdsRow x1.toNatClampNeg σ (sh_j h1) rfl) (by decide) wV_X6_holdsRow wN_X6_holdsRow lk_X10_320 rfl rfl rfl (sh_j h1) rfl (Nat.le_of_ble_eq_true rfl) (by decide +kernel) ?_
          refine XW.bb B [] (by decide +kernel) (pc1 := 50) (ls1 := [some (aR 0 0), some (aI x1), some (aI x2), some (aI x3), some (aI x4), some (aI x5), some (aR 28 x1.toNatClampNeg), some (aR 28 x3.toNatClampNeg)]) (st1 := [aI (m_X6_holdsRow x1.toNatClampNeg σ)]) (σ1 := σ) (P := []) (i := .ifCond .eq 16) (tgt := 66) (q := (m_X6_holdsRow x1.toNatClampNeg σ) = (0 : Int32)) rfl trivial (by decide +kernel) rfl (by decide) (fun h6 => ?_) (fun h6 => ?_)
          · rw [if_pos h6] at hm
            refine XW.bk B [(66, .bipush (-12))] (by decide +kernel) (pc1 := 68) (ls1 := [some (aR 0 0), some (aI x1), some (aI x2), some (aI x3), some (aI x4), some (aI x5), some (aR 28 x1.toNatClampNeg), some (aR 28 x3.toNatClampNeg)]) (st1 := [aI (-12 : Int32)]) (σ1 := σ) (P := []) rfl trivial ?_
            obtain ⟨rfl, rfl⟩ := Prod.mk.inj (Option.some.inj hm)
            exact XW.iret B q (by decide +kernel)
          · rw [if_neg h6] at hm
            refine XW.bb B [(53, .aload 6), (55, .getfield 323), (58, .aload 7), (60, .getfield 323)] (by decide +kernel) (pc1 := 63) (ls1 := [some (aR 0 0), some (aI x1), some (aI x2), some (aI x3), some (aI x4), some (aI x5), some (aR 28 x1.toNatClampNeg), some (aR 28 x3.toNatClampNeg)]) (st1 := [aI (σ.1 28 x3.toNatClampNeg 0), aI (σ.1 28 x1.toNatClampNeg 0)]) (σ1 := σ) (P := [x1.toNatClampNeg < 6, x3.toNatClampNeg < 6]) (i := .if_icmp .eq 6) (tgt := 69) (q := (σ.1 28 x1.toNatClampNeg 0) = (σ.1 28 x3.toNatClampNeg 0)) rfl ⟨(sh_j h1), (sh_j h3), trivial⟩ (by decide +kernel) rfl (by decide) (fun h7 => ?_) (fun h7 => ?_)
            · rw [if_pos h7] at hm
              refine XW.bb B [(69, .iload 5)] (by decide +kernel) (pc1 := 71) (ls1 := [some (aR 0 0), some (aI x1), some (aI x2), some (aI x3), some (aI x4), some (aI x5), some (aR 28 x1.toNatClampNeg), some (aR 28 x3.toNatClampNeg)]) (st1 := [aI x5]) (σ1 := σ) (P := []) (i := .ifCond .lt 35) (tgt := 106) (q := x5 < (0 : Int32)) rfl trivial (by decide +kernel) rfl (by decide) (fun h8 => ?_) (fun h8 => ?_)
              · rw [if_pos h8] at hm
                refine XW.bk B [(106, .bipush (-13))] (by decide +kernel) (pc1 := 108) (ls1 := [some (aR 0 0), some (aI x1), some (aI x2), some (aI x3), some (aI x4), some (aI x5), some (aR 28 x1.toNatClampNeg), some (aR 28 x3.toNatClampNeg)]) (st1 := [aI (-13 : Int32)]) (σ1 := σ) (P := []) rfl trivial ?_
                obtain ⟨rfl, rfl⟩ := Prod.mk.inj (Option.some.inj hm)
                exact XW.iret B q (by decide +kernel)
              · rw [if_neg h8] at hm
                refine XW.bb B [(74, .iload_n 2)] (by decide +kernel) (pc1 := 75) (ls1 := [some (aR 0 0), some (aI x1), some (aI x2), some (aI x3), some (aI x4), some (aI x5), some (aR 28 x1.toNatClampNeg), some (aR 28 x3.toNatClampNeg)]) (st1 := [aI x2]) (σ1 := σ) (P := []) (i := .ifCond .lt 31) (tgt := 106) (q := x2 < (0 : Int32)) rfl trivial (by decide +kernel) rfl (by decide) (fun h9 => ?_) (fun h9 => ?_)
                · rw [if_pos h9] at hm
                  refine XW.bk B [(106, .bipush (-13))] (by decide +kernel) (pc1 := 108) (ls1 := [some (aR 0 0), some (aI x1), some (aI x2), some (aI x3), some (aI x4), some (aI x5), some (aR 28 x1.toNatClampNeg), some (aR 28 x3.toNatClampNeg)]) (st1 := [aI (-13 : Int32)]) (σ1 := σ) (P := []) rfl trivial ?_
                  obtain ⟨rfl, rfl⟩ := Prod.mk.inj (Option.some.inj hm)
                  exact XW.iret B q (by decide +kernel)
                · rw [if_neg h9] at hm
                  refine XW.bb B [(78, .iload 4)] (by decide +kernel) (pc1 := 80) (ls1 := [some (aR 0 0), some (aI x1), some (aI x2), some (aI x3), some (aI x4), some (aI x5), some (aR 28 x1.toNatClampNeg), some (aR 28 x3.toNatClampNeg)]) (st1 := [aI x4]) (σ1 := σ) (P := []) (i := .ifCond .lt 26) (tgt := 106) (q := x4 < (0 : Int32)) rfl trivial (by decide +kernel) rfl (by decide) (fun h10 => ?_) (fun h10 => ?_)
                  · rw [if_pos h10] at hm
                    refine XW.bk B [(106, .bipush (-13))] (by decide +kernel) (pc1 := 108) (ls1 := [some (aR 0 0), some (aI x1), some (aI x2), some (aI x3), some (aI x4), some (aI x5), some (aR 28 x1.toNatClampNeg), some (aR 28 x3.toNatClampNeg)]) (st1 := [aI (-13 : Int32)]) (σ1 := σ) (P := []) rfl trivial ?_
                    obtain ⟨rfl, rfl⟩ := Prod.mk.inj (Option.some.inj hm)
                    exact XW.iret B q (by decide +kernel)
                  · rw [if_neg h10] at hm
                    refine XW.bk B [(83, .aload 6), (85, .iload_n 2)] (by decide +kernel) (pc1 := 86) (ls1 := [some (aR 0 0), some (aI x1), some (aI x2), some (aI x3), some (aI x4), some (aI x5), some (aR 28 x1.toNatClampNeg), some (aR 28 x3.toNatClampNeg)]) (st1 := [aI x2, aR 28 x1.toNatClampNeg]) (σ1 := σ) (P := []) rfl trivial ?_
                    refine XW.callV B (M := M_X6_left) (t := 28) (j := x1.toNatClampNeg) (cn := 6) (as := [aI x2]) (c_X6_left x1.toNatClampNeg x2 σ (sh_j h1) rfl) (by decide) wV_X6_left wN_X6_left lk_X10_101 rfl rfl rfl (sh_j h1) rfl (Nat.le_of_ble_eq_true rfl) (by decide +kernel) ?_
                    refine XW.bb B [(89, .iload 5)] (by decide +kernel) (pc1 := 91) (ls1 := [some (aR 0 0), some (aI x1), some (aI x2), some (aI x3), some (aI x4), some (aI x5), some (aR 28 x1.toNatClampNeg), some (aR 28 x3.toNatClampNeg)]) (st1 := [aI x5, aI (m_X6_left x1.toNatClampNeg x2 σ)]) (σ1 := σ) (P := []) (i := .if_icmp .lt 15) (tgt := 106) (q := (m_X6_left x1.toNatClampNeg x2 σ) < x5) rfl trivial (by decide +kernel) rfl (by decide) (fun h11 => ?_) (fun h11 => ?_)
                    · rw [if_pos h11] at hm
                      refine XW.bk B [(106, .bipush (-13))] (by decide +kernel) (pc1 := 108) (ls1 := [some (aR 0 0), some (aI x1), some (aI x2), some (aI x3), some (aI x4), some (aI x5), some (aR 28 x1.toNatClampNeg), some (aR 28 x3.toNatClampNeg)]) (st1 := [aI (-13 : Int32)]) (σ1 := σ) (P := []) rfl trivial ?_
                      obtain ⟨rfl, rfl⟩ := Prod.mk.inj (Option.some.inj hm)
                      exact XW.iret B q (by decide +kernel)
                    · rw [if_neg h11] at hm
                      refine XW.bk B [(94, .aload 7), (96, .iload 4)] (by decide +kernel) (pc1 := 98) (ls1 := [some (aR 0 0), some (aI x1), some (aI x2), some (aI x3), some (aI x4), some (aI x5), some (aR 28 x1.toNatClampNeg), some (aR 28 x3.toNatClampNeg)]) (st1 := [aI x4, aR 28 x3.toNatClampNeg]) (σ1 := σ) (P := []) rfl trivial ?_
                      refine XW.callV B (M := M_X6_left) (t := 28) (j := x3.toNatClampNeg) (cn := 6) (as := [aI x4]) (c_X6_left x3.toNatClampNeg x4 σ (sh_j h3) rfl) (by decide) wV_X6_left wN_X6_left lk_X10_101 rfl rfl rfl (sh_j h3) rfl (Nat.le_of_ble_eq_true rfl) (by decide +kernel) ?_
                      refine XW.bb B [(101, .iload 5)] (by decide +kernel) (pc1 := 103) (ls1 := [some (aR 0 0), some (aI x1), some (aI x2), some (aI x3), some (aI x4), some (aI x5), some (aR 28 x1.toNatClampNeg), some (aR 28 x3.toNatClampNeg)]) (st1 := [aI x5, aI (m_X6_left x3.toNatClampNeg x4 σ)]) (σ1 := σ) (P := []) (i := .if_icmp .ge 6) (tgt := 109) (q := x5 ≤ (m_X6_left x3.toNatClampNeg x4 σ)) rfl trivial (by decide +kernel) rfl (by decide) (fun h12 => ?_) (fun h12 => ?_)
                      · rw [if_pos h12] at hm
                        refine XW.bk B [(109, .aload 6), (111, .getfield 326), (114, .iload_n 2), (115, .aload 7), (117, .getfield 326), (120, .iload 4), (122, .iload 5)] (by decide +kernel) (pc1 := 124) (ls1 := [some (aR 0 0), some (aI x1), some (aI x2), some (aI x3), some (aI x4), some (aI x5), some (aR 28 x1.toNatClampNeg), some (aR 28 x3.toNatClampNeg)]) (st1 := [aI x5, aI x4, aR 29 x3.toNatClampNeg, aI x2, aR 29 x1.toNatClampNeg]) (σ1 := σ) (P := [x1.toNatClampNeg < 6, x3.toNatClampNeg < 6]) rfl ⟨(sh_j h1), (sh_j h3), trivial⟩ ?_
                        by_cases g13 : ¬ (¬ x2 < 0 ∧ ¬ x4 < 0 ∧ ¬ x5 < 0 ∧ x2.toNatClampNeg + x5.toNatClampNeg ≤ 60 ∧ x4.toNatClampNeg + x5.toNatClampNeg ≤ 60)
                        · rw [if_neg g13] at hm; cases hm
                        have g13 := Classical.not_not.mp g13
                        rw [if_pos g13] at hm
                        refine XW.copyl B (c1 := 6) (c2 := 6) (n1 := 60) (n2 := 60) lk_X10_330 rfl (sh_j h1) rfl (sh_j h3) g13.1 g13.2.1 g13.2.2.1 g13.2.2.2.1 g13.2.2.2.2 (Nat.le_of_ble_eq_true rfl) (by decide +kernel) ?_
                        refine XW.bk B [(127, .iload 5)] (by decide +kernel) (pc1 := 129) (ls1 := [some (aR 0 0), some (aI x1), some (aI x2), some (aI x3), some (aI x4), some (aI x5), some (aR 28 x1.toNatClampNeg), some (aR 28 x3.toNatClampNeg)]) (st1 := [aI x5]) (σ1 := (sLf σ 29 x3.toNatClampNeg (va_cpy (σ.2.2 29 x1.toNatClampNeg) (σ.2.2 29 x3.toNatClampNeg) x2.toNatClampNeg x4.toNatClampNeg x5.toNatClampNeg))) (P := []) rfl trivial ?_
                        obtain ⟨rfl, rfl⟩ := Prod.mk.inj (Option.some.inj hm)
                        exact XW.iret B q (by decide +kernel)
                      · rw [if_neg h12] at hm
                        refine XW.bk B [(106, .bipush (-13))] (by decide +kernel) (pc1 := 108) (ls1 := [some (aR 0 0), some (aI x1), some (aI x2), some (aI x3), some (aI x4), some (aI x5), some (aR 28 x1.toNatClampNeg), some (aR 28 x3.toNatClampNeg)]) (st1 := [aI (-13 : Int32)]) (σ1 := σ) (P := []) rfl trivial ?_
                        obtain ⟨rfl, rfl⟩ := Prod.mk.inj (Option.some.inj hm)
                        exact XW.iret B q (by decide +kernel)
            · rw [if_neg h7] at hm
              refine XW.bk B [(66, .bipush (-12))] (by decide +kernel) (pc1 := 68) (ls1 := [some (aR 0 0), some (aI x1), some (aI x2), some (aI x3), some (aI x4), some (aI x5), some (aR 28 x1.toNatClampNeg), some (aR 28 x3.toNatClampNeg)]) (st1 := [aI (-12 : Int32)]) (σ1 := σ) (P := []) rfl trivial ?_
              obtain ⟨rfl, rfl⟩ := Prod.mk.inj (Option.some.inj hm)
              exact XW.iret B q (by decide +kernel)
        · rw [if_neg h5] at hm
          refine XW.bk B [(42, .bipush (-11))] (by decide +kernel) (pc1 := 44) (ls1 := [some (aR 0 0), some (aI x1), some (aI x2), some (aI x3), some (aI x4), some (aI x5), some (aR 28 x1.toNatClampNeg), some (aR 28 x3.toNatClampNeg)]) (st1 := [aI (-11 : Int32)]) (σ1 := σ) (P := []) rfl trivial ?_
          obtain ⟨rfl, rfl⟩ := Prod.mk.inj (Option.some.inj hm)
          exact XW.iret B q (by decide +kernel)
      · rw [if_neg h4] at hm
        refine XW.bk B [(42, .bipush (-11))] (by decide +kernel) (pc1 := 44) (ls1 := [some (aR 0 0), some (aI x1), some (aI x2), some (aI x3), some (aI x4), some (aI x5), some (aR 28 x1.toNatClampNeg), some (aR 28 x3.toNatClampNeg)]) (st1 := [aI (-11 : Int32)]) (σ1 := σ) (P := []) rfl trivial ?_
        obtain ⟨rfl, rfl⟩ := Prod.mk.inj (Option.some.inj hm)
        exact XW.iret B q (by decide +kernel)

def m_X10_taken (x1 : Int32) (x2 : Int32) (σ : SS) : Option (Int32) :=
  if x1 < 0 ∨ ¬ x1 < 6 then
    some (-1 : Int32)
  else
  if (m_X10_isWithin x2 (0 : Int32) (7 : Int32)) = (0 : Int32) then
    some (-1 : Int32)
  else
  if (m_X6_isEmpty x1.toNatClampNeg σ) = (0 : Int32) then
    if (m_X6_holdsRow x1.toNatClampNeg σ) = (0 : Int32) then
      Option.bind (m_X5_kindOf (σ.1 28 x1.toNatClampNeg 1) σ) (fun q5 =>
      Option.bind (m_X5_isUnder q5 x2 σ) (fun q6 =>
      if q6 = (0 : Int32) then
        some (-12 : Int32)
      else
      some q5))
    else
    some (-12 : Int32)
  else
  some (-11 : Int32)
set_option maxRecDepth 100000 in
set_option maxHeartbeats 4000000 in
theorem c_X10_taken (x1 : Int32) (x2 : Int32) (σ : SS) {r : Int32} (hm : m_X10_taken x1 x2 σ = some r) : XM LC 3 M_X10_taken [aR 0 0, aI x1, aI x2] σ (some (aI r)) σ := by
  refine XM.of (K := K10) (by decide) (by decide +kernel) K10_ok (Nat.le_of_ble_eq_true rfl) (fun Γ B q => ?_)
  unfold m_X10_taken at hm
  refine XW.bk B [(0, .aload_n 0), (1, .iload_n 1)] (by decide +kernel) (pc1 := 2) (ls1 := [some (aR 0 0), some (aI x1), some (aI x2), none, none]) (st1 := [aI x1, aR 0 0]) (σ1 := σ) (P := []) rfl trivial ?_
  by_cases h1 : x1 < 0 ∨ ¬ x1 < 6
  · rw [if_pos h1] at hm
    refine XW.callV B (M := M_X10_shelfAt) (t := 0) (j := 0) (cn := 1) (as := [aI x1]) (c_shelfAt0 h1 σ) (by decide) wV_X10_shelfAt wN_X10_shelfAt lk_X10_86 rfl rfl rfl (by decide) rfl (Nat.le_of_ble_eq_true rfl) (by decide +kernel) ?_
    refine XW.bk B [(5, .astore_n 3), (6, .aload_n 3)] (by decide +kernel) (pc1 := 7) (ls1 := [some (aR 0 0), some (aI x1), some (aI x2), some (aN), none]) (st1 := [aN]) (σ1 := σ) (P := []) rfl trivial ?_
    refine XW.nullN B (off := 13) (tgt := 20) (by decide +kernel) (by decide) ?_
    refine XW.bk B [(20, .iconst (-1))] (by decide +kernel) (pc1 := 21) (ls1 := [some (aR 0 0), some (aI x1), some (aI x2), some (aN), none]) (st1 := [aI (-1 : Int32)]) (σ1 := σ) (P := []) rfl trivial ?_
    obtain rfl := Option.some.inj hm
    exact XW.iret B q (by decide +kernel)
  · rw [if_neg h1] at hm
    refine XW.callV B (M := M_X10_shelfAt) (t := 0) (j := 0) (cn := 1) (as := [aI x1]) (c_shelfAt1 h1 σ) (by decide) wV_X10_shelfAt wN_X10_shelfAt lk_X10_86 rfl rfl rfl (by decide) rfl (Nat.le_of_ble_eq_true rfl) (by decide +kernel) ?_
    refine XW.bk B [(5, .astore_n 3), (6, .aload_n 3)] (by decide +kernel) (pc1 := 7) (ls1 := [some (aR 0 0), some (aI x1), some (aI x2), some (aR 28 x1.toNatClampNeg), none]) (st1 := [aR 28 x1.toNatClampNeg]) (σ1 := σ) (P := []) rfl trivial ?_
    refine XW.nullR B (off := 13) (by decide +kernel) ?_
    refine XW.bk B [(10, .iload_n 2), (11, .iconst 0), (12, .bipush 7)] (by decide +kernel) (pc1 := 14) (ls1 := [some (aR 0 0), some (aI x1), some (aI x2), some (aR 28 x1.toNatClampNeg), none]) (st1 := [aI (7 : Int32), aI (0 : Int32), aI x2]) (σ1 := σ) (P := []) rfl trivial ?_
    refine XW.callS B (M := M_X10_isWithin) (as := [aI x2, aI (0 : Int32), aI (7 : Int32)]) (c_X10_isWithin x2 (0 : Int32) (7 : Int32) σ rfl) (by decide) wS_X10_isWithin wN_X10_isWithin lk_X10_90 rfl (Nat.le_of_ble_eq_true rfl) (by decide +kernel) ?_
    refine XW.bn B [] (by decide +kernel) (pc1 := 17) (ls1 := [some (aR 0 0), some (aI x1), some (aI x2), some (aR 28 x1.toNatClampNeg), none]) (st1 := [aI (m_X10_isWithin x2 (0 : Int32) (7 : Int32))]) (σ1 := σ) (P := []) (i := .ifCond .ne 5) (tgt := 22) (q := (m_X10_isWithin x2 (0 : Int32) (7 : Int32)) = (0 : Int32)) rfl trivial (by decide +kernel) rfl (by decide) (fun h2 => ?_) (fun h2 => ?_)
    · rw [if_pos h2] at hm
      refine XW.bk B [(20, .iconst (-1))] (by decide +kernel) (pc1 := 21) (ls1 := [some (aR 0 0), some (aI x1), some (aI x2), some (aR 28 x1.toNatClampNeg), none]) (st1 := [aI (-1 : Int32)]) (σ1 := σ) (P := []) rfl trivial ?_
      obtain rfl := Option.some.inj hm
      exact XW.iret B q (by decide +kernel)
    · rw [if_neg h2] at hm
      refine XW.bk B [(22, .aload_n 3)] (by decide +kernel) (pc1 := 23) (ls1 := [some (aR 0 0), some (aI x1), some (aI x2), some (aR 28 x1.toNatClampNeg), none]) (st1 := [aR 28 x1.toNatClampNeg]) (σ1 := σ) (P := []) rfl trivial ?_
      refine XW.callV B (M := M_X6_isEmpty) (t := 28) (j := x1.toNatClampNeg) (cn := 6) (as := []) (c_X6_isEmpty x1.toNatClampNeg σ (sh_j h1) rfl) (by decide) wV_X6_isEmpty wN_X6_isEmpty lk_X10_94 rfl rfl rfl (sh_j h1) rfl (Nat.le_of_ble_eq_true rfl) (by decide +kernel) ?_
      refine XW.bb B [] (by decide +kernel) (pc1 := 26) (ls1 := [some (aR 0 0), some (aI x1), some (aI x2), some (aR 28 x1.toNatClampNeg), none]) (st1 := [aI (m_X6_isEmpty x1.toNatClampNeg σ)]) (σ1 := σ) (P := []) (i := .ifCond .eq 6) (tgt := 32) (q := (m_X6_isEmpty x1.toNatClampNeg σ) = (0 : Int32)) rfl trivial (by decide +kernel) rfl (by decide) (fun h3 => ?_) (fun h3 => ?_)
      · rw [if_pos h3] at hm
        refine XW.bk B [(32, .aload_n 3)] (by decide +kernel) (pc1 := 33) (ls1 := [some (aR 0 0), some (aI x1), some (aI x2), some (aR 28 x1.toNatClampNeg), none]) (st1 := [aR 28 x1.toNatClampNeg]) (σ1 := σ) (P := []) rfl trivial ?_
        refine XW.callV B (M := M_X6_holdsRow) (t := 28) (j := x1.toNatClampNeg) (cn := 6) (as := []) (c_X6_holdsRow x1.toNatClampNeg σ (sh_j h1) rfl) (by decide) wV_X6_holdsRow wN_X6_holdsRow lk_X10_320 rfl rfl rfl (sh_j h1) rfl (Nat.le_of_ble_eq_true rfl) (by decide +kernel) ?_
        refine XW.bb B [] (by decide +kernel) (pc1 := 36) (ls1 := [some (aR 0 0), some (aI x1), some (aI x2), some (aR 28 x1.toNatClampNeg), none]) (st1 := [aI (m_X6_holdsRow x1.toNatClampNeg σ)]) (σ1 := σ) (P := []) (i := .ifCond .eq 6) (tgt := 42) (q := (m_X6_holdsRow x1.toNatClampNeg σ) = (0 : Int32)) rfl trivial (by decide +kernel) rfl (by decide) (fun h4 => ?_) (fun h4 => ?_)
        · rw [if_pos h4] at hm
          refine XW.bk B [(42, .aload_n 0), (43, .getfield 70), (46, .aload_n 3), (47, .getfield 336)] (by decide +kernel) (pc1 := 50) (ls1 := [some (aR 0 0), some (aI x1), some (aI x2), some (aR 28 x1.toNatClampNeg), none]) (st1 := [aI (σ.1 28 x1.toNatClampNeg 1), aR 24 0]) (σ1 := σ) (P := [x1.toNatClampNeg < 6]) rfl ⟨(sh_j h1), trivial⟩ ?_
          obtain ⟨q5, hq5, hm⟩ := obind_eq hm
          refine XW.callV B (M := M_X5_kindOf) (t := 24) (j := 0) (cn := 1) (as := [aI (σ.1 28 x1.toNatClampNeg 1)]) (c_X5_kindOf (σ.1 28 x1.toNatClampNeg 1) σ hq5) (by decide) wV_X5_kindOf wN_X5_kindOf lk_X10_339 rfl rfl rfl (by decide) rfl (Nat.le_of_ble_eq_true rfl) (by decide +kernel) ?_
          refine XW.bk B [(53, .istore 4), (55, .iload 4), (57, .iload_n 2)] (by decide +kernel) (pc1 := 58) (ls1 := [some (aR 0 0), some (aI x1), some (aI x2), some (aR 28 x1.toNatClampNeg), some (aI q5)]) (st1 := [aI x2, aI q5]) (σ1 := σ) (P := []) rfl trivial ?_
          obtain ⟨q6, hq6, hm⟩ := obind_eq hm
          refine XW.callS B (M := M_X5_isUnder) (as := [aI q5, aI x2]) (c_X5_isUnder q5 x2 σ hq6) (by decide) wS_X5_isUnder wN_X5_isUnder lk_X10_342 rfl (Nat.le_of_ble_eq_true rfl) (by decide +kernel) ?_
          refine XW.bb B [] (by decide +kernel) (pc1 := 61) (ls1 := [some (aR 0 0), some (aI x1), some (aI x2), some (aR 28 x1.toNatClampNeg), some (aI q5)]) (st1 := [aI q6]) (σ1 := σ) (P := []) (i := .ifCond .eq 8) (tgt := 69) (q := q6 = (0 : Int32)) rfl trivial (by decide +kernel) rfl (by decide) (fun h7 => ?_) (fun h7 => ?_)
          · rw [if_pos h7] at hm
            refine XW.bk B [(69, .bipush (-12))] (by decide +kernel) (pc1 := 71) (ls1 := [some (aR 0 0), some (aI x1), some (aI x2), some (aR 28 x1.toNatClampNeg), some (aI q5)]) (st1 := [aI (-12 : Int32)]) (σ1 := σ) (P := []) rfl trivial ?_
            obtain rfl := Option.some.inj hm
            exact XW.iret B q (by decide +kernel)
          · rw [if_neg h7] at hm
            refine XW.bk B [(64, .iload 4), (66, .goto 5)] (by decide +kernel) (pc1 := 71) (ls1 := [some (aR 0 0), some (aI x1), some (aI x2), some (aR 28 x1.toNatClampNeg), some (aI q5)]) (st1 := [aI q5]) (σ1 := σ) (P := []) rfl trivial ?_
            obtain rfl := Option.some.inj hm
            exact XW.iret B q (by decide +kernel)
        · rw [if_neg h4] at hm
          refine XW.bk B [(39, .bipush (-12))] (by decide +kernel) (pc1 := 41) (ls1 := [some (aR 0 0), some (aI x1), some (aI x2), some (aR 28 x1.toNatClampNeg), none]) (st1 := [aI (-12 : Int32)]) (σ1 := σ) (P := []) rfl trivial ?_
          obtain rfl := Option.some.inj hm
          exact XW.iret B q (by decide +kernel)
      · rw [if_neg h3] at hm
        refine XW.bk B [(29, .bipush (-11))] (by decide +kernel) (pc1 := 31) (ls1 := [some (aR 0 0), some (aI x1), some (aI x2), some (aR 28 x1.toNatClampNeg), none]) (st1 := [aI (-11 : Int32)]) (σ1 := σ) (P := []) rfl trivial ?_
        obtain rfl := Option.some.inj hm
        exact XW.iret B q (by decide +kernel)

def m_X10_count (x1 : Int32) (σ : SS) : Int32 :=
  if x1 = (0 : Int32) then
    (σ.1 1 0 1)
  else
  if x1 = (1 : Int32) then
    (σ.1 7 0 1)
  else
  if x1 = (2 : Int32) then
    (σ.1 3 0 4)
  else
  if x1 = (3 : Int32) then
    (σ.1 24 0 1)
  else
  if x1 = (4 : Int32) then
    (σ.1 24 0 3)
  else
  (-1 : Int32)
set_option maxRecDepth 100000 in
set_option maxHeartbeats 4000000 in
theorem c_X10_count (x1 : Int32) (σ : SS) {r : Int32} (hm : m_X10_count x1 σ = r) : XM LC 1 M_X10_count [aR 0 0, aI x1] σ (some (aI r)) σ := by
  refine XM.of (K := K10) (by decide) (by decide +kernel) K10_ok (Nat.le_of_ble_eq_true rfl) (fun Γ B q => ?_)
  unfold m_X10_count at hm
  refine XW.bk B [(0, .iload_n 1)] (by decide +kernel) (pc1 := 1) (ls1 := [some (aR 0 0), some (aI x1)]) (st1 := [aI x1]) (σ1 := σ) (P := []) rfl trivial ?_
  by_cases h1 : x1 = (0 : Int32)
  · rw [if_pos h1] at hm
    refine XW.tsI B (0 : Int32) (dflt := 75) (n := 35) (lo := 0) (hi := 4) (offs := #[35, 43, 51, 59, 67]) (off := 35) (by decide +kernel) h1 (by decide +kernel) (tgt := 36) (by decide) ?_
    refine XW.bk B [(36, .aload_n 0), (37, .getfield 23), (40, .getfield 180)] (by decide +kernel) (pc1 := 43) (ls1 := [some (aR 0 0), some (aI x1)]) (st1 := [aI (σ.1 1 0 1)]) (σ1 := σ) (P := []) rfl trivial ?_
    subst hm
    exact XW.iret B q (by decide +kernel)
  rw [if_neg h1] at hm
  by_cases h2 : x1 = (1 : Int32)
  · rw [if_pos h2] at hm
    refine XW.tsI B (1 : Int32) (dflt := 75) (n := 35) (lo := 0) (hi := 4) (offs := #[35, 43, 51, 59, 67]) (off := 43) (by decide +kernel) h2 (by decide +kernel) (tgt := 44) (by decide) ?_
    refine XW.bk B [(44, .aload_n 0), (45, .getfield 34), (48, .getfield 345)] (by decide +kernel) (pc1 := 51) (ls1 := [some (aR 0 0), some (aI x1)]) (st1 := [aI (σ.1 7 0 1)]) (σ1 := σ) (P := []) rfl trivial ?_
    subst hm
    exact XW.iret B q (by decide +kernel)
  rw [if_neg h2] at hm
  by_cases h3 : x1 = (2 : Int32)
  · rw [if_pos h3] at hm
    refine XW.tsI B (2 : Int32) (dflt := 75) (n := 35) (lo := 0) (hi := 4) (offs := #[35, 43, 51, 59, 67]) (off := 51) (by decide +kernel) h3 (by decide +kernel) (tgt := 52) (by decide) ?_
    refine XW.bk B [(52, .aload_n 0), (53, .getfield 30), (56, .getfield 287)] (by decide +kernel) (pc1 := 59) (ls1 := [some (aR 0 0), some (aI x1)]) (st1 := [aI (σ.1 3 0 4)]) (σ1 := σ) (P := []) rfl trivial ?_
    subst hm
    exact XW.iret B q (by decide +kernel)
  rw [if_neg h3] at hm
  by_cases h4 : x1 = (3 : Int32)
  · rw [if_pos h4] at hm
    refine XW.tsI B (3 : Int32) (dflt := 75) (n := 35) (lo := 0) (hi := 4) (offs := #[35, 43, 51, 59, 67]) (off := 59) (by decide +kernel) h4 (by decide +kernel) (tgt := 60) (by decide) ?_
    refine XW.bk B [(60, .aload_n 0), (61, .getfield 70), (64, .getfield 348)] (by decide +kernel) (pc1 := 67) (ls1 := [some (aR 0 0), some (aI x1)]) (st1 := [aI (σ.1 24 0 1)]) (σ1 := σ) (P := []) rfl trivial ?_
    subst hm
    exact XW.iret B q (by decide +kernel)
  rw [if_neg h4] at hm
  by_cases h5 : x1 = (4 : Int32)
  · rw [if_pos h5] at hm
    refine XW.tsI B (4 : Int32) (dflt := 75) (n := 35) (lo := 0) (hi := 4) (offs := #[35, 43, 51, 59, 67]) (off := 67) (by decide +kernel) h5 (by decide +kernel) (tgt := 68) (by decide) ?_
    refine XW.bk B [(68, .aload_n 0), (69, .getfield 70), (72, .getfield 351)] (by decide +kernel) (pc1 := 75) (ls1 := [some (aR 0 0), some (aI x1)]) (st1 := [aI (σ.1 24 0 3)]) (σ1 := σ) (P := []) rfl trivial ?_
    subst hm
    exact XW.iret B q (by decide +kernel)
  rw [if_neg h5] at hm
  refine XW.tsD B [(0 : Int32), (1 : Int32), (2 : Int32), (3 : Int32), (4 : Int32)] (dflt := 75) (n := 35) (lo := 0) (hi := 4) (offs := #[35, 43, 51, 59, 67]) (by decide +kernel) (List.forall_mem_cons.mpr ⟨h1, (List.forall_mem_cons.mpr ⟨h2, (List.forall_mem_cons.mpr ⟨h3, (List.forall_mem_cons.mpr ⟨h4, (List.forall_mem_cons.mpr ⟨h5, (fun _ hz => absurd hz List.not_mem_nil)⟩)⟩)⟩)⟩)⟩) (by decide +kernel) (by decide) (tgt := 76) (by decide) ?_
  refine XW.bk B [(76, .iconst (-1))] (by decide +kernel) (pc1 := 77) (ls1 := [some (aR 0 0), some (aI x1)]) (st1 := [aI (-1 : Int32)]) (σ1 := σ) (P := []) rfl trivial ?_
  subst hm
  exact XW.iret B q (by decide +kernel)
