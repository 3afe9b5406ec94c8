def m_X6_isEmpty (j : Nat) (σ : SS) : Int32 :=
  if (σ.1 28 j 0) = (-2 : Int32) then
    (1 : Int32)
  else
  (0 : Int32)
set_option maxRecDepth 100000 in
set_option maxHeartbeats 4000000 in
theorem c_X6_isEmpty (j : Nat) (σ : SS) (hj : j < 6) {r : Int32} (hm : m_X6_isEmpty j σ = r) : XM LC 1 M_X6_isEmpty [aR 28 j] σ (some (aI r)) σ := by
  refine XM.of (K := K6) (by decide) (by decide +kernel) K6_ok (Nat.le_of_ble_eq_true rfl) (fun Γ B q => ?_)
  unfold m_X6_isEmpty at hm
  refine XW.bn B [(0, .aload_n 0), (1, .getfield 9), (4, .bipush (-2))] (by decide +kernel) (pc1 := 6) (ls1 := [some (aR 28 j)]) (st1 := [aI (-2 : Int32), aI (σ.1 28 j 0)]) (σ1 := σ) (P := [j < 6]) (i := .if_icmp .ne 7) (tgt := 13) (q := (σ.1 28 j 0) = (-2 : Int32)) rfl ⟨hj, trivial⟩ (by decide +kernel) rfl (by decide) (fun h1 => ?_) (fun h1 => ?_)
  · rw [if_pos h1] at hm
    refine XW.bk B [(9, .iconst 1), (10, .goto 4)] (by decide +kernel) (pc1 := 14) (ls1 := [some (aR 28 j)]) (st1 := [aI (1 : Int32)]) (σ1 := σ) (P := []) rfl trivial ?_
    cases hm
    exact XW.zret B q (Or.inr rfl) (by decide +kernel)
  · rw [if_neg h1] at hm
    refine XW.bk B [(13, .iconst 0)] (by decide +kernel) (pc1 := 14) (ls1 := [some (aR 28 j)]) (st1 := [aI (0 : Int32)]) (σ1 := σ) (P := []) rfl trivial ?_
    cases hm
    exact XW.zret B q (Or.inl rfl) (by decide +kernel)
theorem b_X6_isEmpty (j : Nat) (σ : SS) : m_X6_isEmpty j σ = 0 ∨ m_X6_isEmpty j σ = 1 := by
  unfold m_X6_isEmpty
  (repeat' split) <;> first | exact Or.inl rfl | exact Or.inr rfl

def m_X6_holdsRow (j : Nat) (σ : SS) : Int32 :=
  if (σ.1 28 j 0) < (0 : Int32) then
    (0 : Int32)
  else
  (1 : Int32)
set_option maxRecDepth 100000 in
set_option maxHeartbeats 4000000 in
theorem c_X6_holdsRow (j : Nat) (σ : SS) (hj : j < 6) {r : Int32} (hm : m_X6_holdsRow j σ = r) : XM LC 1 M_X6_holdsRow [aR 28 j] σ (some (aI r)) σ := by
  refine XM.of (K := K6) (by decide) (by decide +kernel) K6_ok (Nat.le_of_ble_eq_true rfl) (fun Γ B q => ?_)
  unfold m_X6_holdsRow at hm
  refine XW.bb B [(0, .aload_n 0), (1, .getfield 9)] (by decide +kernel) (pc1 := 4) (ls1 := [some (aR 28 j)]) (st1 := [aI (σ.1 28 j 0)]) (σ1 := σ) (P := [j < 6]) (i := .ifCond .lt 7) (tgt := 11) (q := (σ.1 28 j 0) < (0 : Int32)) rfl ⟨hj, trivial⟩ (by decide +kernel) rfl (by decide) (fun h1 => ?_) (fun h1 => ?_)
  · rw [if_pos h1] at hm
    refine XW.bk B [(11, .iconst 0)] (by decide +kernel) (pc1 := 12) (ls1 := [some (aR 28 j)]) (st1 := [aI (0 : Int32)]) (σ1 := σ) (P := []) rfl trivial ?_
    cases hm
    exact XW.zret B q (Or.inl rfl) (by decide +kernel)
  · rw [if_neg h1] at hm
    refine XW.bk B [(7, .iconst 1), (8, .goto 4)] (by decide +kernel) (pc1 := 12) (ls1 := [some (aR 28 j)]) (st1 := [aI (1 : Int32)]) (σ1 := σ) (P := []) rfl trivial ?_
    cases hm
    exact XW.zret B q (Or.inr rfl) (by decide +kernel)
theorem b_X6_holdsRow (j : Nat) (σ : SS) : m_X6_holdsRow j σ = 0 ∨ m_X6_holdsRow j σ = 1 := by
  unfold m_X6_holdsRow
  (repeat' split) <;> first | exact Or.inl rfl | exact Or.inr rfl

def m_X6_holdsBytes (j : Nat) (σ : SS) : Int32 :=
  if (σ.1 28 j 0) = (0 : Int32) then
    (1 : Int32)
  else
  (0 : Int32)
set_option maxRecDepth 100000 in
set_option maxHeartbeats 4000000 in
theorem c_X6_holdsBytes (j : Nat) (σ : SS) (hj : j < 6) {r : Int32} (hm : m_X6_holdsBytes j σ = r) : XM LC 1 M_X6_holdsBytes [aR 28 j] σ (some (aI r)) σ := by
  refine XM.of (K := K6) (by decide) (by decide +kernel) K6_ok (Nat.le_of_ble_eq_true rfl) (fun Γ B q => ?_)
  unfold m_X6_holdsBytes at hm
  refine XW.bn B [(0, .aload_n 0), (1, .getfield 9)] (by decide +kernel) (pc1 := 4) (ls1 := [some (aR 28 j)]) (st1 := [aI (σ.1 28 j 0)]) (σ1 := σ) (P := [j < 6]) (i := .ifCond .ne 7) (tgt := 11) (q := (σ.1 28 j 0) = (0 : Int32)) rfl ⟨hj, trivial⟩ (by decide +kernel) rfl (by decide) (fun h1 => ?_) (fun h1 => ?_)
  · rw [if_pos h1] at hm
    refine XW.bk B [(7, .iconst 1), (8, .goto 4)] (by decide +kernel) (pc1 := 12) (ls1 := [some (aR 28 j)]) (st1 := [aI (1 : Int32)]) (σ1 := σ) (P := []) rfl trivial ?_
    cases hm
    exact XW.zret B q (Or.inr rfl) (by decide +kernel)
  · rw [if_neg h1] at hm
    refine XW.bk B [(11, .iconst 0)] (by decide +kernel) (pc1 := 12) (ls1 := [some (aR 28 j)]) (st1 := [aI (0 : Int32)]) (σ1 := σ) (P := []) rfl trivial ?_
    cases hm
    exact XW.zret B q (Or.inl rfl) (by decide +kernel)
theorem b_X6_holdsBytes (j : Nat) (σ : SS) : m_X6_holdsBytes j σ = 0 ∨ m_X6_holdsBytes j σ = 1 := by
  unfold m_X6_holdsBytes
  (repeat' split) <;> first | exact Or.inl rfl | exact Or.inr rfl

def m_X6_holdBody (j : Nat) (x1 : Int32) (σ : SS) : SS :=
  if (0 : Int32) ≤ x1 then
    (sI (sI (sI σ 28 j 0 (-1 : Int32)) 28 j 1 x1) 28 j 2 (0 : Int32))
  else
  (sI (sI (sI σ 28 j 0 (-2 : Int32)) 28 j 1 x1) 28 j 2 (0 : Int32))
set_option maxRecDepth 100000 in
set_option maxHeartbeats 4000000 in
theorem c_X6_holdBody (j : Nat) (x1 : Int32) (σ : SS) (hj : j < 6) {σ' : SS} (hm : m_X6_holdBody j x1 σ = σ') : XM LC 1 M_X6_holdBody [aR 28 j, aI x1] σ none σ' := by
  refine XM.of (K := K6) (by decide) (by decide +kernel) K6_ok (Nat.le_of_ble_eq_true rfl) (fun Γ B q => ?_)
  unfold m_X6_holdBody at hm
  refine XW.bb B [(0, .aload_n 0), (1, .iload_n 1)] (by decide +kernel) (pc1 := 2) (ls1 := [some (aR 28 j), some (aI x1)]) (st1 := [aI x1, aR 28 j]) (σ1 := σ) (P := []) (i := .ifCond .ge 8) (tgt := 10) (q := (0 : Int32) ≤ x1) rfl trivial (by decide +kernel) rfl (by decide) (fun h1 => ?_) (fun h1 => ?_)
  · rw [if_pos h1] at hm
    refine XW.bk B [(10, .iconst (-1)), (11, .putfield 9), (14, .aload_n 0), (15, .iload_n 1), (16, .putfield 19), (19, .aload_n 0), (20, .iconst 0), (21, .putfield 22)] (by decide +kernel) (pc1 := 24) (ls1 := [some (aR 28 j), some (aI x1)]) (st1 := []) (σ1 := (sI (sI (sI σ 28 j 0 (-1 : Int32)) 28 j 1 x1) 28 j 2 (0 : Int32))) (P := [j < 6, j < 6, j < 6]) rfl ⟨hj, hj, hj, trivial⟩ ?_
    cases hm
    exact XW.vret B q (by decide +kernel)
  · rw [if_neg h1] at hm
    refine XW.bk B [(5, .bipush (-2)), (7, .goto 4), (11, .putfield 9), (14, .aload_n 0), (15, .iload_n 1), (16, .putfield 19), (19, .aload_n 0), (20, .iconst 0), (21, .putfield 22)] (by decide +kernel) (pc1 := 24) (ls1 := [some (aR 28 j), some (aI x1)]) (st1 := []) (σ1 := (sI (sI (sI σ 28 j 0 (-2 : Int32)) 28 j 1 x1) 28 j 2 (0 : Int32))) (P := [j < 6, j < 6, j < 6]) rfl ⟨hj, hj, hj, trivial⟩ ?_
    cases hm
    exact XW.vret B q (by decide +kernel)

def m_X6_holdRow (j : Nat) (x1 : Int32) (x2 : Int32) (σ : SS) : SS :=
  (sLf (sI (sI σ 28 j 0 x1) 28 j 2 x2) 29 j (fillF ((sI (sI σ 28 j 0 x1) 28 j 2 x2).2.2 29 j) (0 : Int64) 60))
set_option maxRecDepth 100000 in
set_option maxHeartbeats 4000000 in
theorem c_X6_holdRow (j : Nat) (x1 : Int32) (x2 : Int32) (σ : SS) (hj : j < 6) {σ' : SS} (hm : m_X6_holdRow j x1 x2 σ = σ') : XM LC 2 M_X6_holdRow [aR 28 j, aI x1, aI x2] σ none σ' := by
  refine XM.of (K := K6) (by decide) (by decide +kernel) K6_ok (Nat.le_of_ble_eq_true rfl) (fun Γ B q => ?_)
  unfold m_X6_holdRow at hm
  refine XW.bk B [(0, .aload_n 0), (1, .iload_n 1), (2, .putfield 9), (5, .aload_n 0), (6, .iload_n 2), (7, .putfield 22), (10, .aload_n 0), (11, .getfield 15), (14, .lconst 0)] (by decide +kernel) (pc1 := 15) (ls1 := [some (aR 28 j), some (aI x1), some (aI x2)]) (st1 := [aJ (0 : Int64), aR 29 j]) (σ1 := (sI (sI σ 28 j 0 x1) 28 j 2 x2)) (P := [j < 6, j < 6, j < 6]) rfl ⟨hj, hj, hj, trivial⟩ ?_
  refine XW.callS B (M := M_fillL) (as := [aR 29 j, aJ (0 : Int64)]) (c_fillL (cn := 6) (n := 60) rfl hj (by decide) (0 : Int64) (sI (sI σ 28 j 0 x1) 28 j 2 x2)) (by decide) wS_fillL wN_fillL lk_X6_25 rfl (Nat.le_of_ble_eq_true rfl) (by decide +kernel) ?_
  cases hm
  exact XW.vret B q (by decide +kernel)

def m_X6_left (j : Nat) (x1 : Int32) (σ : SS) : Int32 :=
  if (0 : Int32) ≤ x1 then
    ((σ.1 28 j 2) - x1)
  else
  (0 : Int32)
set_option maxRecDepth 100000 in
set_option maxHeartbeats 4000000 in
theorem c_X6_left (j : Nat) (x1 : Int32) (σ : SS) (hj : j < 6) {r : Int32} (hm : m_X6_left j x1 σ = r) : XM LC 1 M_X6_left [aR 28 j, aI x1] σ (some (aI r)) σ := by
  refine XM.of (K := K6) (by decide) (by decide +kernel) K6_ok (Nat.le_of_ble_eq_true rfl) (fun Γ B q => ?_)
  unfold m_X6_left at hm
  refine XW.bb B [(0, .iload_n 1)] (by decide +kernel) (pc1 := 1) (ls1 := [some (aR 28 j), some (aI x1)]) (st1 := [aI x1]) (σ1 := σ) (P := []) (i := .ifCond .ge 7) (tgt := 8) (q := (0 : Int32) ≤ x1) rfl trivial (by decide +kernel) rfl (by decide) (fun h1 => ?_) (fun h1 => ?_)
  · rw [if_pos h1] at hm
    refine XW.bk B [(8, .aload_n 0), (9, .getfield 22), (12, .iload_n 1), (13, .isub)] (by decide +kernel) (pc1 := 14) (ls1 := [some (aR 28 j), some (aI x1)]) (st1 := [aI ((σ.1 28 j 2) - x1)]) (σ1 := σ) (P := [j < 6]) rfl ⟨hj, trivial⟩ ?_
    cases hm
    exact XW.iret B q (by decide +kernel)
  · rw [if_neg h1] at hm
    refine XW.bk B [(4, .iconst 0), (5, .goto 9)] (by decide +kernel) (pc1 := 14) (ls1 := [some (aR 28 j), some (aI x1)]) (st1 := [aI (0 : Int32)]) (σ1 := σ) (P := []) rfl trivial ?_
    cases hm
    exact XW.iret B q (by decide +kernel)

def m_X6_cell (j : Nat) (x1 : Int32) (σ : SS) : Int64 :=
  if x1 < (0 : Int32) then
    (0 : Int64)
  else
  if (σ.1 28 j 2) ≤ x1 then
    (0 : Int64)
  else
  if (60 : Int32) ≤ x1 then
    (0 : Int64)
  else
  (σ.2.2 29 j x1.toNatClampNeg)
set_option maxRecDepth 100000 in
set_option maxHeartbeats 4000000 in
theorem c_X6_cell (j : Nat) (x1 : Int32) (σ : SS) (hj : j < 6) {r : Int64} (hm : m_X6_cell j x1 σ = r) : XM LC 1 M_X6_cell [aR 28 j, aI x1] σ (some (aJ r)) σ := by
  refine XM.of (K := K6) (by decide) (by decide +kernel) K6_ok (Nat.le_of_ble_eq_true rfl) (fun Γ B q => ?_)
  unfold m_X6_cell at hm
  refine XW.bb B [(0, .iload_n 1)] (by decide +kernel) (pc1 := 1) (ls1 := [some (aR 28 j), some (aI x1)]) (st1 := [aI x1]) (σ1 := σ) (P := []) (i := .ifCond .lt 29) (tgt := 30) (q := x1 < (0 : Int32)) rfl trivial (by decide +kernel) rfl (by decide) (fun h1 => ?_) (fun h1 => ?_)
  · rw [if_pos h1] at hm
    refine XW.bk B [(30, .lconst 0)] (by decide +kernel) (pc1 := 31) (ls1 := [some (aR 28 j), some (aI x1)]) (st1 := [aJ (0 : Int64)]) (σ1 := σ) (P := []) rfl trivial ?_
    cases hm
    exact XW.lret B q (by decide +kernel)
  · rw [if_neg h1] at hm
    refine XW.bb B [(4, .iload_n 1), (5, .aload_n 0), (6, .getfield 22)] (by decide +kernel) (pc1 := 9) (ls1 := [some (aR 28 j), some (aI x1)]) (st1 := [aI (σ.1 28 j 2), aI x1]) (σ1 := σ) (P := [j < 6]) (i := .if_icmp .ge 21) (tgt := 30) (q := (σ.1 28 j 2) ≤ x1) rfl ⟨hj, trivial⟩ (by decide +kernel) rfl (by decide) (fun h2 => ?_) (fun h2 => ?_)
    · rw [if_pos h2] at hm
      refine XW.bk B [(30, .lconst 0)] (by decide +kernel) (pc1 := 31) (ls1 := [some (aR 28 j), some (aI x1)]) (st1 := [aJ (0 : Int64)]) (σ1 := σ) (P := []) rfl trivial ?_
      cases hm
      exact XW.lret B q (by decide +kernel)
    · rw [if_neg h2] at hm
      refine XW.bb B [(12, .iload_n 1), (13, .aload_n 0), (14, .getfield 15), (17, .arraylength)] (by decide +kernel) (pc1 := 18) (ls1 := [some (aR 28 j), some (aI x1)]) (st1 := [aI (60 : Int32), aI x1]) (σ1 := σ) (P := [j < 6, j < 6]) (i := .if_icmp .ge 12) (tgt := 30) (q := (60 : Int32) ≤ x1) rfl ⟨hj, hj, trivial⟩ (by decide +kernel) rfl (by decide) (fun h3 => ?_) (fun h3 => ?_)
      · rw [if_pos h3] at hm
        refine XW.bk B [(30, .lconst 0)] (by decide +kernel) (pc1 := 31) (ls1 := [some (aR 28 j), some (aI x1)]) (st1 := [aJ (0 : Int64)]) (σ1 := σ) (P := []) rfl trivial ?_
        cases hm
        exact XW.lret B q (by decide +kernel)
      · rw [if_neg h3] at hm
        refine XW.bk B [(21, .aload_n 0), (22, .getfield 15), (25, .iload_n 1), (26, .laload), (27, .goto 4)] (by decide +kernel) (pc1 := 31) (ls1 := [some (aR 28 j), some (aI x1)]) (st1 := [aJ (σ.2.2 29 j x1.toNatClampNeg)]) (σ1 := σ) (P := [j < 6, j < 6, vp_in x1 60]) rfl ⟨hj, hj, (vin_a h1 h3 (by decide +kernel)), trivial⟩ ?_
        cases hm
        exact XW.lret B q (by decide +kernel)

def m_X6_fitted (j : Nat) (x1 : Int64) (σ : SS) : Int64 :=
  if (σ.1 28 j 0) = (0 : Int32) then
    x1.toInt32.toInt8.toInt32.toInt64
  else
  if (σ.1 28 j 0) = (1 : Int32) then
    x1.toInt32.toInt16.toInt32.toInt64
  else
  if (σ.1 28 j 0) = (2 : Int32) then
    x1.toInt32.toInt64
  else
  if (σ.1 28 j 0) = (3 : Int32) then
    x1
  else
  if lg_cmp x1 (0 : Int64) = (0 : Int32) then
    (0 : Int64)
  else
  (1 : Int64)
set_option maxRecDepth 100000 in
set_option maxHeartbeats 4000000 in
theorem c_X6_fitted (j : Nat) (x1 : Int64) (σ : SS) (hj : j < 6) {r : Int64} (hm : m_X6_fitted j x1 σ = r) : XM LC 1 M_X6_fitted [aR 28 j, aJ x1] σ (some (aJ r)) σ := by
  refine XM.of (K := K6) (by decide) (by decide +kernel) K6_ok (Nat.le_of_ble_eq_true rfl) (fun Γ B q => ?_)
  unfold m_X6_fitted at hm
  refine XW.bk B [(0, .aload_n 0), (1, .getfield 9)] (by decide +kernel) (pc1 := 4) (ls1 := [some (aR 28 j), some (aJ x1), none]) (st1 := [aI (σ.1 28 j 0)]) (σ1 := σ) (P := [j < 6]) rfl ⟨hj, trivial⟩ ?_
  by_cases h1 : (σ.1 28 j 0) = (0 : Int32)
  · rw [if_pos h1] at hm
    refine XW.tsI B (0 : Int32) (dflt := 48) (n := 32) (lo := 0) (hi := 3) (offs := #[32, 37, 42, 46]) (off := 32) (by decide +kernel) h1 (by decide +kernel) (tgt := 36) (by decide) ?_
    refine XW.bk B [(36, .lload_n 1), (37, .l2i), (38, .i2b), (39, .i2l)] (by decide +kernel) (pc1 := 40) (ls1 := [some (aR 28 j), some (aJ x1), none]) (st1 := [aJ x1.toInt32.toInt8.toInt32.toInt64]) (σ1 := σ) (P := []) rfl trivial ?_
    cases hm
    exact XW.lret B q (by decide +kernel)
  rw [if_neg h1] at hm
  by_cases h2 : (σ.1 28 j 0) = (1 : Int32)
  · rw [if_pos h2] at hm
    refine XW.tsI B (1 : Int32) (dflt := 48) (n := 32) (lo := 0) (hi := 3) (offs := #[32, 37, 42, 46]) (off := 37) (by decide +kernel) h2 (by decide +kernel) (tgt := 41) (by decide) ?_
    refine XW.bk B [(41, .lload_n 1), (42, .l2i), (43, .i2s), (44, .i2l)] (by decide +kernel) (pc1 := 45) (ls1 := [some (aR 28 j), some (aJ x1), none]) (st1 := [aJ x1.toInt32.toInt16.toInt32.toInt64]) (σ1 := σ) (P := []) rfl trivial ?_
    cases hm
    exact XW.lret B q (by decide +kernel)
  rw [if_neg h2] at hm
  by_cases h3 : (σ.1 28 j 0) = (2 : Int32)
  · rw [if_pos h3] at hm
    refine XW.tsI B (2 : Int32) (dflt := 48) (n := 32) (lo := 0) (hi := 3) (offs := #[32, 37, 42, 46]) (off := 42) (by decide +kernel) h3 (by decide +kernel) (tgt := 46) (by decide) ?_
    refine XW.bk B [(46, .lload_n 1), (47, .l2i), (48, .i2l)] (by decide +kernel) (pc1 := 49) (ls1 := [some (aR 28 j), some (aJ x1), none]) (st1 := [aJ x1.toInt32.toInt64]) (σ1 := σ) (P := []) rfl trivial ?_
    cases hm
    exact XW.lret B q (by decide +kernel)
  rw [if_neg h3] at hm
  by_cases h4 : (σ.1 28 j 0) = (3 : Int32)
  · rw [if_pos h4] at hm
    refine XW.tsI B (3 : Int32) (dflt := 48) (n := 32) (lo := 0) (hi := 3) (offs := #[32, 37, 42, 46]) (off := 46) (by decide +kernel) h4 (by decide +kernel) (tgt := 50) (by decide) ?_
    refine XW.bk B [(50, .lload_n 1)] (by decide +kernel) (pc1 := 51) (ls1 := [some (aR 28 j), some (aJ x1), none]) (st1 := [aJ x1]) (σ1 := σ) (P := []) rfl trivial ?_
    cases hm
    exact XW.lret B q (by decide +kernel)
  rw [if_neg h4] at hm
  refine XW.tsD B [(0 : Int32), (1 : Int32), (2 : Int32), (3 : Int32)] (dflt := 48) (n := 32) (lo := 0) (hi := 3) (offs := #[32, 37, 42, 46]) (by decide +kernel) (List.forall_mem_cons.mpr ⟨h1, (List.forall_mem_cons.mpr ⟨h2, (List.forall_mem_cons.mpr ⟨h3, (List.forall_mem_cons.mpr ⟨h4, (fun _ hz => absurd hz List.not_mem_nil)⟩)⟩)⟩)⟩) (by decide +kernel) (by decide) (tgt := 52) (by decide) ?_
  refine XW.bb B [(52, .lload_n 1), (53, .lconst 0), (54, .lcmp)] (by decide +kernel) (pc1 := 55) (ls1 := [some (aR 28 j), some (aJ x1), none]) (st1 := [aI (lg_cmp x1 (0 : Int64))]) (σ1 := σ) (P := []) (i := .ifCond .eq 7) (tgt := 62) (q := lg_cmp x1 (0 : Int64) = (0 : Int32)) rfl trivial (by decide +kernel) rfl (by decide) (fun h5 => ?_) (fun h5 => ?_)
  · rw [if_pos h5] at hm
    refine XW.bk B [(62, .lconst 0)] (by decide +kernel) (pc1 := 63) (ls1 := [some (aR 28 j), some (aJ x1), none]) (st1 := [aJ (0 : Int64)]) (σ1 := σ) (P := []) rfl trivial ?_
    cases hm
    exact XW.lret B q (by decide +kernel)
  · rw [if_neg h5] at hm
    refine XW.bk B [(58, .lconst 1), (59, .goto 4)] (by decide +kernel) (pc1 := 63) (ls1 := [some (aR 28 j), some (aJ x1), none]) (st1 := [aJ (1 : Int64)]) (σ1 := σ) (P := []) rfl trivial ?_
    cases hm
    exact XW.lret B q (by decide +kernel)

def m_X6_write (j : Nat) (x1 : Int32) (x2 : Int64) (σ : SS) : SS :=
  if x1 < (0 : Int32) then
    σ
  else
  if (σ.1 28 j 2) ≤ x1 then
    σ
  else
  if (60 : Int32) ≤ x1 then
    σ
  else
  (sL σ 29 j x1.toNatClampNeg (m_X6_fitted j x2 σ))
set_option maxRecDepth 100000 in
set_option maxHeartbeats 4000000 in
theorem c_X6_write (j : Nat) (x1 : Int32) (x2 : Int64) (σ : SS) (hj : j < 6) {σ' : SS} (hm : m_X6_write j x1 x2 σ = σ') : XM LC 2 M_X6_write [aR 28 j, aI x1, aJ x2] σ none σ' := by
  refine XM.of (K := K6) (by decide) (by decide +kernel) K6_ok (Nat.le_of_ble_eq_true rfl) (fun Γ B q => ?_)
  unfold m_X6_write at hm
  refine XW.bb B [(0, .iload_n 1)] (by decide +kernel) (pc1 := 1) (ls1 := [some (aR 28 j), some (aI x1), some (aJ x2), none]) (st1 := [aI x1]) (σ1 := σ) (P := []) (i := .ifCond .lt 31) (tgt := 32) (q := x1 < (0 : Int32)) rfl trivial (by decide +kernel) rfl (by decide) (fun h1 => ?_) (fun h1 => ?_)
  · rw [if_pos h1] at hm
    cases hm
    exact XW.vret B q (by decide +kernel)
  · rw [if_neg h1] at hm
    refine XW.bb B [(4, .iload_n 1), (5, .aload_n 0), (6, .getfield 22)] (by decide +kernel) (pc1 := 9) (ls1 := [some (aR 28 j), some (aI x1), some (aJ x2), none]) (st1 := [aI (σ.1 28 j 2), aI x1]) (σ1 := σ) (P := [j < 6]) (i := .if_icmp .ge 23) (tgt := 32) (q := (σ.1 28 j 2) ≤ x1) rfl ⟨hj, trivial⟩ (by decide +kernel) rfl (by decide) (fun h2 => ?_) (fun h2 => ?_)
    · rw [if_pos h2] at hm
      cases hm
      exact XW.vret B q (by decide +kernel)
    · rw [if_neg h2] at hm
      refine XW.bb B [(12, .iload_n 1), (13, .aload_n 0), (14, .getfield 15), (17, .arraylength)] (by decide +kernel) (pc1 := 18) (ls1 := [some (aR 28 j), some (aI x1), some (aJ x2), none]) (st1 := [aI (60 : Int32), aI x1]) (σ1 := σ) (P := [j < 6, j < 6]) (i := .if_icmp .ge 14) (tgt := 32) (q := (60 : Int32) ≤ x1) rfl ⟨hj, hj, trivial⟩ (by decide +kernel) rfl (by decide) (fun h3 => ?_) (fun h3 => ?_)
      · rw [if_pos h3] at hm
        cases hm
        exact XW.vret B q (by decide +kernel)
      · rw [if_neg h3] at hm
        refine XW.bk B [(21, .aload_n 0), (22, .getfield 15), (25, .iload_n 1), (26, .aload_n 0), (27, .lload_n 2)] (by decide +kernel) (pc1 := 28) (ls1 := [some (aR 28 j), some (aI x1), some (aJ x2), none]) (st1 := [aJ x2, aR 28 j, aI x1, aR 29 j]) (σ1 := σ) (P := [j < 6]) rfl ⟨hj, trivial⟩ ?_
        refine XW.callV B (M := M_X6_fitted) (t := 28) (j := j) (cn := 6) (as := [aJ x2]) (c_X6_fitted j x2 σ hj rfl) (by decide) wV_X6_fitted wN_X6_fitted lk_X6_31 rfl rfl rfl hj rfl (Nat.le_of_ble_eq_true rfl) (by decide +kernel) ?_
        refine XW.bk B [(31, .lastore)] (by decide +kernel) (pc1 := 32) (ls1 := [some (aR 28 j), some (aI x1), some (aJ x2), none]) (st1 := []) (σ1 := (sL σ 29 j x1.toNatClampNeg (m_X6_fitted j x2 σ))) (P := [j < 6, vp_in x1 60]) rfl ⟨hj, (vin_a h1 h3 (by decide +kernel)), trivial⟩ ?_
        cases hm
        exact XW.vret B q (by decide +kernel)

def m_X6_heldAt (j : Nat) (x1 : Int32) (σ : SS) : Int32 :=
  if (m_X10_isHold ((m_X6_cell j x1 σ).toInt32)) = (0 : Int32) then
    (0 : Int32)
  else
  (m_X6_cell j x1 σ).toInt32
set_option maxRecDepth 100000 in
set_option maxHeartbeats 4000000 in
theorem c_X6_heldAt (j : Nat) (x1 : Int32) (σ : SS) (hj : j < 6) {r : Int32} (hm : m_X6_heldAt j x1 σ = r) : XM LC 3 M_X6_heldAt [aR 28 j, aI x1] σ (some (aI r)) σ := by
  refine XM.of (K := K6) (by decide) (by decide +kernel) K6_ok (Nat.le_of_ble_eq_true rfl) (fun Γ B q => ?_)
  unfold m_X6_heldAt at hm
  refine XW.bk B [(0, .aload_n 0), (1, .iload_n 1)] (by decide +kernel) (pc1 := 2) (ls1 := [some (aR 28 j), some (aI x1), none]) (st1 := [aI x1, aR 28 j]) (σ1 := σ) (P := []) rfl trivial ?_
  refine XW.callV B (M := M_X6_cell) (t := 28) (j := j) (cn := 6) (as := [aI x1]) (c_X6_cell j x1 σ hj rfl) (by decide) wV_X6_cell wN_X6_cell lk_X6_35 rfl rfl rfl hj rfl (Nat.le_of_ble_eq_true rfl) (by decide +kernel) ?_
  refine XW.bk B [(5, .l2i), (6, .istore_n 2), (7, .iload_n 2)] (by decide +kernel) (pc1 := 8) (ls1 := [some (aR 28 j), some (aI x1), some (aI ((m_X6_cell j x1 σ).toInt32))]) (st1 := [aI ((m_X6_cell j x1 σ).toInt32)]) (σ1 := σ) (P := []) rfl trivial ?_
  refine XW.callSN B (M := M_X10_isHold) (as := [aI ((m_X6_cell j x1 σ).toInt32)]) (c_X10_isHold ((m_X6_cell j x1 σ).toInt32) σ rfl) (by decide) wS_X10_isHold wN_X10_isHold lk_X6_39 rfl (Nat.le_of_ble_eq_true rfl) (by decide +kernel) ?_
  refine XW.bb B [] (by decide +kernel) (pc1 := 11) (ls1 := [some (aR 28 j), some (aI x1), some (aI ((m_X6_cell j x1 σ).toInt32))]) (st1 := [aI (m_X10_isHold ((m_X6_cell j x1 σ).toInt32))]) (σ1 := σ) (P := []) (i := .ifCond .eq 7) (tgt := 18) (q := (m_X10_isHold ((m_X6_cell j x1 σ).toInt32)) = (0 : Int32)) rfl trivial (by decide +kernel) rfl (by decide) (fun h1 => ?_) (fun h1 => ?_)
  · rw [if_pos h1] at hm
    refine XW.bk B [(18, .iconst 0)] (by decide +kernel) (pc1 := 19) (ls1 := [some (aR 28 j), some (aI x1), some (aI ((m_X6_cell j x1 σ).toInt32))]) (st1 := [aI (0 : Int32)]) (σ1 := σ) (P := []) rfl trivial ?_
    cases hm
    exact XW.iret B q (by decide +kernel)
  · rw [if_neg h1] at hm
    refine XW.bk B [(14, .iload_n 2), (15, .goto 4)] (by decide +kernel) (pc1 := 19) (ls1 := [some (aR 28 j), some (aI x1), some (aI ((m_X6_cell j x1 σ).toInt32))]) (st1 := [aI ((m_X6_cell j x1 σ).toInt32)]) (σ1 := σ) (P := []) rfl trivial ?_
    cases hm
    exact XW.iret B q (by decide +kernel)
