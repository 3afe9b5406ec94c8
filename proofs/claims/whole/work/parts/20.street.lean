def m_X8_number (x1 : Int32) (x2 : Int32) (σ : SS) : Int32 :=
  if (7 : Int32) ≤ x2 then
    if (((84 : Int32) + x2) - (7 : Int32)) < (0 : Int32) then
      (0 : Int32)
    else
    if (88 : Int32) ≤ (((84 : Int32) + x2) - (7 : Int32)) then
      (0 : Int32)
    else
    (σ.2.1 2 0 (((84 : Int32) + x2) - (7 : Int32)).toNatClampNeg)
  else
  if ((x1 * (7 : Int32)) + x2) < (0 : Int32) then
    (0 : Int32)
  else
  if (88 : Int32) ≤ ((x1 * (7 : Int32)) + x2) then
    (0 : Int32)
  else
  (σ.2.1 2 0 ((x1 * (7 : Int32)) + x2).toNatClampNeg)
set_option maxRecDepth 100000 in
set_option maxHeartbeats 4000000 in
theorem c_X8_number (x1 : Int32) (x2 : Int32) (σ : SS) {r : Int32} (hm : m_X8_number x1 x2 σ = r) : XM LC 1 M_X8_number [aR 1 0, aI x1, aI x2] σ (some (aI r)) σ := by
  refine XM.of (K := K8) (by decide) (by decide +kernel) K8_ok (Nat.le_of_ble_eq_true rfl) (fun Γ B q => ?_)
  unfold m_X8_number at hm
  refine XW.bb B [(0, .iload_n 2), (1, .bipush 7)] (by decide +kernel) (pc1 := 3) (ls1 := [some (aR 1 0), some (aI x1), some (aI x2), none]) (st1 := [aI (7 : Int32), aI x2]) (σ1 := σ) (P := []) (i := .if_icmp .ge 12) (tgt := 15) (q := (7 : Int32) ≤ x2) rfl trivial (by decide +kernel) rfl (by decide) (fun h1 => ?_) (fun h1 => ?_)
  · rw [if_pos h1] at hm
    refine XW.bb B [(15, .bipush 84), (17, .iload_n 2), (18, .iadd), (19, .bipush 7), (21, .isub), (22, .istore_n 3), (23, .iload_n 3)] (by decide +kernel) (pc1 := 24) (ls1 := [some (aR 1 0), some (aI x1), some (aI x2), some (aI (((84 : Int32) + x2) - (7 : Int32)))]) (st1 := [aI (((84 : Int32) + x2) - (7 : Int32))]) (σ1 := σ) (P := []) (i := .ifCond .lt 21) (tgt := 45) (q := (((84 : Int32) + x2) - (7 : Int32)) < (0 : Int32)) rfl trivial (by decide +kernel) rfl (by decide) (fun h2 => ?_) (fun h2 => ?_)
    · rw [if_pos h2] at hm
      refine XW.bk B [(45, .iconst 0)] (by decide +kernel) (pc1 := 46) (ls1 := [some (aR 1 0), some (aI x1), some (aI x2), some (aI (((84 : Int32) + x2) - (7 : Int32)))]) (st1 := [aI (0 : Int32)]) (σ1 := σ) (P := []) rfl trivial ?_
      cases hm
      exact XW.iret B q (by decide +kernel)
    · rw [if_neg h2] at hm
      refine XW.bb B [(27, .iload_n 3), (28, .aload_n 0), (29, .getfield 11), (32, .arraylength)] (by decide +kernel) (pc1 := 33) (ls1 := [some (aR 1 0), some (aI x1), some (aI x2), some (aI (((84 : Int32) + x2) - (7 : Int32)))]) (st1 := [aI (88 : Int32), aI (((84 : Int32) + x2) - (7 : Int32))]) (σ1 := σ) (P := []) (i := .if_icmp .ge 12) (tgt := 45) (q := (88 : Int32) ≤ (((84 : Int32) + x2) - (7 : Int32))) rfl trivial (by decide +kernel) rfl (by decide) (fun h3 => ?_) (fun h3 => ?_)
      · rw [if_pos h3] at hm
        refine XW.bk B [(45, .iconst 0)] (by decide +kernel) (pc1 := 46) (ls1 := [some (aR 1 0), some (aI x1), some (aI x2), some (aI (((84 : Int32) + x2) - (7 : Int32)))]) (st1 := [aI (0 : Int32)]) (σ1 := σ) (P := []) rfl trivial ?_
        cases hm
        exact XW.iret B q (by decide +kernel)
      · rw [if_neg h3] at hm
        refine XW.bk B [(36, .aload_n 0), (37, .getfield 11), (40, .iload_n 3), (41, .iaload), (42, .goto 4)] (by decide +kernel) (pc1 := 46) (ls1 := [some (aR 1 0), some (aI x1), some (aI x2), some (aI (((84 : Int32) + x2) - (7 : Int32)))]) (st1 := [aI (σ.2.1 2 0 (((84 : Int32) + x2) - (7 : Int32)).toNatClampNeg)]) (σ1 := σ) (P := [vp_in (((84 : Int32) + x2) - (7 : Int32)) 88]) rfl ⟨(vin_a h2 h3 (by decide +kernel)), trivial⟩ ?_
        cases hm
        exact XW.iret B q (by decide +kernel)
  · rw [if_neg h1] at hm
    refine XW.bb B [(6, .iload_n 1), (7, .bipush 7), (9, .imul), (10, .iload_n 2), (11, .iadd), (12, .goto 10), (22, .istore_n 3), (23, .iload_n 3)] (by decide +kernel) (pc1 := 24) (ls1 := [some (aR 1 0), some (aI x1), some (aI x2), some (aI ((x1 * (7 : Int32)) + x2))]) (st1 := [aI ((x1 * (7 : Int32)) + x2)]) (σ1 := σ) (P := []) (i := .ifCond .lt 21) (tgt := 45) (q := ((x1 * (7 : Int32)) + x2) < (0 : Int32)) rfl trivial (by decide +kernel) rfl (by decide) (fun h4 => ?_) (fun h4 => ?_)
    · rw [if_pos h4] at hm
      refine XW.bk B [(45, .iconst 0)] (by decide +kernel) (pc1 := 46) (ls1 := [some (aR 1 0), some (aI x1), some (aI x2), some (aI ((x1 * (7 : Int32)) + x2))]) (st1 := [aI (0 : Int32)]) (σ1 := σ) (P := []) rfl trivial ?_
      cases hm
      exact XW.iret B q (by decide +kernel)
    · rw [if_neg h4] at hm
      refine XW.bb B [(27, .iload_n 3), (28, .aload_n 0), (29, .getfield 11), (32, .arraylength)] (by decide +kernel) (pc1 := 33) (ls1 := [some (aR 1 0), some (aI x1), some (aI x2), some (aI ((x1 * (7 : Int32)) + x2))]) (st1 := [aI (88 : Int32), aI ((x1 * (7 : Int32)) + x2)]) (σ1 := σ) (P := []) (i := .if_icmp .ge 12) (tgt := 45) (q := (88 : Int32) ≤ ((x1 * (7 : Int32)) + x2)) rfl trivial (by decide +kernel) rfl (by decide) (fun h5 => ?_) (fun h5 => ?_)
      · rw [if_pos h5] at hm
        refine XW.bk B [(45, .iconst 0)] (by decide +kernel) (pc1 := 46) (ls1 := [some (aR 1 0), some (aI x1), some (aI x2), some (aI ((x1 * (7 : Int32)) + x2))]) (st1 := [aI (0 : Int32)]) (σ1 := σ) (P := []) rfl trivial ?_
        cases hm
        exact XW.iret B q (by decide +kernel)
      · rw [if_neg h5] at hm
        refine XW.bk B [(36, .aload_n 0), (37, .getfield 11), (40, .iload_n 3), (41, .iaload), (42, .goto 4)] (by decide +kernel) (pc1 := 46) (ls1 := [some (aR 1 0), some (aI x1), some (aI x2), some (aI ((x1 * (7 : Int32)) + x2))]) (st1 := [aI (σ.2.1 2 0 ((x1 * (7 : Int32)) + x2).toNatClampNeg)]) (σ1 := σ) (P := [vp_in ((x1 * (7 : Int32)) + x2) 88]) rfl ⟨(vin_a h4 h5 (by decide +kernel)), trivial⟩ ?_
        cases hm
        exact XW.iret B q (by decide +kernel)

def m_X8_write (x1 : Int32) (x2 : Int32) (σ : SS) : SS :=
  if x1 < (0 : Int32) then
    σ
  else
  if (88 : Int32) ≤ x1 then
    σ
  else
  (sA σ 2 0 x1.toNatClampNeg x2)
set_option maxRecDepth 100000 in
set_option maxHeartbeats 4000000 in
theorem c_X8_write (x1 : Int32) (x2 : Int32) (σ : SS) {σ' : SS} (hm : m_X8_write x1 x2 σ = σ') : XM LC 1 M_X8_write [aR 1 0, aI x1, aI x2] σ none σ' := by
  refine XM.of (K := K8) (by decide) (by decide +kernel) K8_ok (Nat.le_of_ble_eq_true rfl) (fun Γ B q => ?_)
  unfold m_X8_write at hm
  refine XW.bb B [(0, .iload_n 1)] (by decide +kernel) (pc1 := 1) (ls1 := [some (aR 1 0), some (aI x1), some (aI x2)]) (st1 := [aI x1]) (σ1 := σ) (P := []) (i := .ifCond .lt 19) (tgt := 20) (q := x1 < (0 : Int32)) rfl trivial (by decide +kernel) rfl (by decide) (fun h1 => ?_) (fun h1 => ?_)
  · rw [if_pos h1] at hm
    cases hm
    exact XW.vret B q (by decide +kernel)
  · rw [if_neg h1] at hm
    refine XW.bb B [(4, .iload_n 1), (5, .aload_n 0), (6, .getfield 11), (9, .arraylength)] (by decide +kernel) (pc1 := 10) (ls1 := [some (aR 1 0), some (aI x1), some (aI x2)]) (st1 := [aI (88 : Int32), aI x1]) (σ1 := σ) (P := []) (i := .if_icmp .ge 10) (tgt := 20) (q := (88 : Int32) ≤ x1) rfl trivial (by decide +kernel) rfl (by decide) (fun h2 => ?_) (fun h2 => ?_)
    · rw [if_pos h2] at hm
      cases hm
      exact XW.vret B q (by decide +kernel)
    · rw [if_neg h2] at hm
      refine XW.bk B [(13, .aload_n 0), (14, .getfield 11), (17, .iload_n 1), (18, .iload_n 2), (19, .iastore)] (by decide +kernel) (pc1 := 20) (ls1 := [some (aR 1 0), some (aI x1), some (aI x2)]) (st1 := []) (σ1 := (sA σ 2 0 x1.toNatClampNeg x2)) (P := [vp_in x1 88]) rfl ⟨(vin_a h1 h2 (by decide +kernel)), trivial⟩ ?_
      cases hm
      exact XW.vret B q (by decide +kernel)

def m_X8_isGusty (x1 : Int32) (x2 : Int32) (σ : SS) : Int32 :=
  if (m_X8_number x1 (2 : Int32) σ) ≤ (0 : Int32) then
    (0 : Int32)
  else
  if (m_X8_number x1 (3 : Int32) σ) ≤ (x2 - (x2 / (m_X8_number x1 (2 : Int32) σ)) * (m_X8_number x1 (2 : Int32) σ)) then
    (0 : Int32)
  else
  (1 : Int32)
set_option maxRecDepth 100000 in
set_option maxHeartbeats 4000000 in
theorem c_X8_isGusty (x1 : Int32) (x2 : Int32) (σ : SS) {r : Int32} (hm : m_X8_isGusty x1 x2 σ = r) : XM LC 2 M_X8_isGusty [aR 1 0, aI x1, aI x2] σ (some (aI r)) σ := by
  refine XM.of (K := K8) (by decide) (by decide +kernel) K8_ok (Nat.le_of_ble_eq_true rfl) (fun Γ B q => ?_)
  unfold m_X8_isGusty at hm
  refine XW.bk B [(0, .aload_n 0), (1, .iload_n 1), (2, .iconst 2)] (by decide +kernel) (pc1 := 3) (ls1 := [some (aR 1 0), some (aI x1), some (aI x2), none]) (st1 := [aI (2 : Int32), aI x1, aR 1 0]) (σ1 := σ) (P := []) rfl trivial ?_
  refine XW.callV B (M := M_X8_number) (t := 1) (j := 0) (cn := 1) (as := [aI x1, aI (2 : Int32)]) (c_X8_number x1 (2 : Int32) σ rfl) (by decide) wV_X8_number wN_X8_number lk_X8_31 rfl rfl rfl (by decide) rfl (Nat.le_of_ble_eq_true rfl) (by decide +kernel) ?_
  refine XW.bb B [(6, .istore_n 3), (7, .iload_n 3)] (by decide +kernel) (pc1 := 8) (ls1 := [some (aR 1 0), some (aI x1), some (aI x2), some (aI (m_X8_number x1 (2 : Int32) σ))]) (st1 := [aI (m_X8_number x1 (2 : Int32) σ)]) (σ1 := σ) (P := []) (i := .ifCond .le 19) (tgt := 27) (q := (m_X8_number x1 (2 : Int32) σ) ≤ (0 : Int32)) rfl trivial (by decide +kernel) rfl (by decide) (fun h1 => ?_) (fun h1 => ?_)
  · rw [if_pos h1] at hm
    refine XW.bk B [(27, .iconst 0)] (by decide +kernel) (pc1 := 28) (ls1 := [some (aR 1 0), some (aI x1), some (aI x2), some (aI (m_X8_number x1 (2 : Int32) σ))]) (st1 := [aI (0 : Int32)]) (σ1 := σ) (P := []) rfl trivial ?_
    cases hm
    exact XW.zret B q (Or.inl rfl) (by decide +kernel)
  · rw [if_neg h1] at hm
    refine XW.bk B [(11, .iload_n 2), (12, .iload_n 3), (13, .irem), (14, .aload_n 0), (15, .iload_n 1), (16, .iconst 3)] (by decide +kernel) (pc1 := 17) (ls1 := [some (aR 1 0), some (aI x1), some (aI x2), some (aI (m_X8_number x1 (2 : Int32) σ))]) (st1 := [aI (3 : Int32), aI x1, aR 1 0, aI (x2 - (x2 / (m_X8_number x1 (2 : Int32) σ)) * (m_X8_number x1 (2 : Int32) σ))]) (σ1 := σ) (P := [¬ (m_X8_number x1 (2 : Int32) σ) = 0]) rfl ⟨(nz_a h1), trivial⟩ ?_
    refine XW.callV B (M := M_X8_number) (t := 1) (j := 0) (cn := 1) (as := [aI x1, aI (3 : Int32)]) (c_X8_number x1 (3 : Int32) σ rfl) (by decide) wV_X8_number wN_X8_number lk_X8_31 rfl rfl rfl (by decide) rfl (Nat.le_of_ble_eq_true rfl) (by decide +kernel) ?_
    refine XW.bb B [] (by decide +kernel) (pc1 := 20) (ls1 := [some (aR 1 0), some (aI x1), some (aI x2), some (aI (m_X8_number x1 (2 : Int32) σ))]) (st1 := [aI (m_X8_number x1 (3 : Int32) σ), aI (x2 - (x2 / (m_X8_number x1 (2 : Int32) σ)) * (m_X8_number x1 (2 : Int32) σ))]) (σ1 := σ) (P := []) (i := .if_icmp .ge 7) (tgt := 27) (q := (m_X8_number x1 (3 : Int32) σ) ≤ (x2 - (x2 / (m_X8_number x1 (2 : Int32) σ)) * (m_X8_number x1 (2 : Int32) σ))) rfl trivial (by decide +kernel) rfl (by decide) (fun h2 => ?_) (fun h2 => ?_)
    · rw [if_pos h2] at hm
      refine XW.bk B [(27, .iconst 0)] (by decide +kernel) (pc1 := 28) (ls1 := [some (aR 1 0), some (aI x1), some (aI x2), some (aI (m_X8_number x1 (2 : Int32) σ))]) (st1 := [aI (0 : Int32)]) (σ1 := σ) (P := []) rfl trivial ?_
      cases hm
      exact XW.zret B q (Or.inl rfl) (by decide +kernel)
    · rw [if_neg h2] at hm
      refine XW.bk B [(23, .iconst 1), (24, .goto 4)] (by decide +kernel) (pc1 := 28) (ls1 := [some (aR 1 0), some (aI x1), some (aI x2), some (aI (m_X8_number x1 (2 : Int32) σ))]) (st1 := [aI (1 : Int32)]) (σ1 := σ) (P := []) rfl trivial ?_
      cases hm
      exact XW.zret B q (Or.inr rfl) (by decide +kernel)
theorem b_X8_isGusty (x1 : Int32) (x2 : Int32) (σ : SS) : m_X8_isGusty x1 x2 σ = 0 ∨ m_X8_isGusty x1 x2 σ = 1 := by
  unfold m_X8_isGusty
  (repeat' split) <;> first | exact Or.inl rfl | exact Or.inr rfl

def m_X8_windIn (x1 : Int32) (x2 : Int32) (σ : SS) : Int32 :=
  if (m_X8_isGusty x1 x2 σ) = (0 : Int32) then
    (m_X8_number x1 (1 : Int32) σ)
  else
  (m_X8_number x1 (0 : Int32) σ)
set_option maxRecDepth 100000 in
set_option maxHeartbeats 4000000 in
theorem c_X8_windIn (x1 : Int32) (x2 : Int32) (σ : SS) {r : Int32} (hm : m_X8_windIn x1 x2 σ = r) : XM LC 3 M_X8_windIn [aR 1 0, aI x1, aI x2] σ (some (aI r)) σ := by
  refine XM.of (K := K8) (by decide) (by decide +kernel) K8_ok (Nat.le_of_ble_eq_true rfl) (fun Γ B q => ?_)
  unfold m_X8_windIn at hm
  refine XW.bk B [(0, .aload_n 0), (1, .iload_n 1), (2, .iload_n 2)] (by decide +kernel) (pc1 := 3) (ls1 := [some (aR 1 0), some (aI x1), some (aI x2)]) (st1 := [aI x2, aI x1, aR 1 0]) (σ1 := σ) (P := []) rfl trivial ?_
  refine XW.callV B (M := M_X8_isGusty) (t := 1) (j := 0) (cn := 1) (as := [aI x1, aI x2]) (c_X8_isGusty x1 x2 σ rfl) (by decide) wV_X8_isGusty wN_X8_isGusty lk_X8_35 rfl rfl rfl (by decide) rfl (Nat.le_of_ble_eq_true rfl) (by decide +kernel) ?_
  refine XW.bb B [] (by decide +kernel) (pc1 := 6) (ls1 := [some (aR 1 0), some (aI x1), some (aI x2)]) (st1 := [aI (m_X8_isGusty x1 x2 σ)]) (σ1 := σ) (P := []) (i := .ifCond .eq 12) (tgt := 18) (q := (m_X8_isGusty x1 x2 σ) = (0 : Int32)) rfl trivial (by decide +kernel) rfl (by decide) (fun h1 => ?_) (fun h1 => ?_)
  · rw [if_pos h1] at hm
    refine XW.bk B [(18, .aload_n 0), (19, .iload_n 1), (20, .iconst 1)] (by decide +kernel) (pc1 := 21) (ls1 := [some (aR 1 0), some (aI x1), some (aI x2)]) (st1 := [aI (1 : Int32), aI x1, aR 1 0]) (σ1 := σ) (P := []) rfl trivial ?_
    refine XW.callV B (M := M_X8_number) (t := 1) (j := 0) (cn := 1) (as := [aI x1, aI (1 : Int32)]) (c_X8_number x1 (1 : Int32) σ rfl) (by decide) wV_X8_number wN_X8_number lk_X8_31 rfl rfl rfl (by decide) rfl (Nat.le_of_ble_eq_true rfl) (by decide +kernel) ?_
    cases hm
    exact XW.iret B q (by decide +kernel)
  · rw [if_neg h1] at hm
    refine XW.bk B [(9, .aload_n 0), (10, .iload_n 1), (11, .iconst 0)] (by decide +kernel) (pc1 := 12) (ls1 := [some (aR 1 0), some (aI x1), some (aI x2)]) (st1 := [aI (0 : Int32), aI x1, aR 1 0]) (σ1 := σ) (P := []) rfl trivial ?_
    refine XW.callV B (M := M_X8_number) (t := 1) (j := 0) (cn := 1) (as := [aI x1, aI (0 : Int32)]) (c_X8_number x1 (0 : Int32) σ rfl) (by decide) wV_X8_number wN_X8_number lk_X8_31 rfl rfl rfl (by decide) rfl (Nat.le_of_ble_eq_true rfl) (by decide +kernel) ?_
    refine XW.bk B [(15, .goto 9)] (by decide +kernel) (pc1 := 24) (ls1 := [some (aR 1 0), some (aI x1), some (aI x2)]) (st1 := [aI (m_X8_number x1 (0 : Int32) σ)]) (σ1 := σ) (P := []) rfl trivial ?_
    cases hm
    exact XW.iret B q (by decide +kernel)

def m_X8_has (x1 : Int32) (σ : SS) : Int32 :=
  if x1 < (0 : Int32) then
    (0 : Int32)
  else
  if (σ.1 1 0 1) ≤ x1 then
    (0 : Int32)
  else
  (1 : Int32)
set_option maxRecDepth 100000 in
set_option maxHeartbeats 4000000 in
theorem c_X8_has (x1 : Int32) (σ : SS) {r : Int32} (hm : m_X8_has x1 σ = r) : XM LC 1 M_X8_has [aR 1 0, aI x1] σ (some (aI r)) σ := by
  refine XM.of (K := K8) (by decide) (by decide +kernel) K8_ok (Nat.le_of_ble_eq_true rfl) (fun Γ B q => ?_)
  unfold m_X8_has at hm
  refine XW.bb B [(0, .iload_n 1)] (by decide +kernel) (pc1 := 1) (ls1 := [some (aR 1 0), some (aI x1)]) (st1 := [aI x1]) (σ1 := σ) (P := []) (i := .ifCond .lt 15) (tgt := 16) (q := x1 < (0 : Int32)) rfl trivial (by decide +kernel) rfl (by decide) (fun h1 => ?_) (fun h1 => ?_)
  · rw [if_pos h1] at hm
    refine XW.bk B [(16, .iconst 0)] (by decide +kernel) (pc1 := 17) (ls1 := [some (aR 1 0), some (aI x1)]) (st1 := [aI (0 : Int32)]) (σ1 := σ) (P := []) rfl trivial ?_
    cases hm
    exact XW.zret B q (Or.inl rfl) (by decide +kernel)
  · rw [if_neg h1] at hm
    refine XW.bb B [(4, .iload_n 1), (5, .aload_n 0), (6, .getfield 15)] (by decide +kernel) (pc1 := 9) (ls1 := [some (aR 1 0), some (aI x1)]) (st1 := [aI (σ.1 1 0 1), aI x1]) (σ1 := σ) (P := []) (i := .if_icmp .ge 7) (tgt := 16) (q := (σ.1 1 0 1) ≤ x1) rfl trivial (by decide +kernel) rfl (by decide) (fun h2 => ?_) (fun h2 => ?_)
    · rw [if_pos h2] at hm
      refine XW.bk B [(16, .iconst 0)] (by decide +kernel) (pc1 := 17) (ls1 := [some (aR 1 0), some (aI x1)]) (st1 := [aI (0 : Int32)]) (σ1 := σ) (P := []) rfl trivial ?_
      cases hm
      exact XW.zret B q (Or.inl rfl) (by decide +kernel)
    · rw [if_neg h2] at hm
      refine XW.bk B [(12, .iconst 1), (13, .goto 4)] (by decide +kernel) (pc1 := 17) (ls1 := [some (aR 1 0), some (aI x1)]) (st1 := [aI (1 : Int32)]) (σ1 := σ) (P := []) rfl trivial ?_
      cases hm
      exact XW.zret B q (Or.inr rfl) (by decide +kernel)
theorem b_X8_has (x1 : Int32) (σ : SS) : m_X8_has x1 σ = 0 ∨ m_X8_has x1 σ = 1 := by
  unfold m_X8_has
  (repeat' split) <;> first | exact Or.inl rfl | exact Or.inr rfl

def m_X8_add (x1 : Int32) (x2 : Int32) (x3 : Int32) (σ : SS) : Int32 × SS :=
  if (σ.1 1 0 1) < (12 : Int32) then
    bnT (m_X8_write (((σ.1 1 0 1) * (7 : Int32)) + (0 : Int32)) x1 σ) (fun q2 =>
    bnT (m_X8_write (((σ.1 1 0 1) * (7 : Int32)) + (1 : Int32)) (0 : Int32) q2) (fun q3 =>
    bnT (m_X8_write (((σ.1 1 0 1) * (7 : Int32)) + (2 : Int32)) (10 : Int32) q3) (fun q4 =>
    bnT (m_X8_write (((σ.1 1 0 1) * (7 : Int32)) + (3 : Int32)) (2 : Int32) q4) (fun q5 =>
    bnT (m_X8_write (((σ.1 1 0 1) * (7 : Int32)) + (4 : Int32)) x2 q5) (fun q6 =>
    bnT (m_X8_write (((σ.1 1 0 1) * (7 : Int32)) + (5 : Int32)) x3 q6) (fun q7 =>
    bnT (m_X8_write (((σ.1 1 0 1) * (7 : Int32)) + (6 : Int32)) (3 : Int32) q7) (fun q8 =>
    ((q8.1 1 0 1), (sI q8 1 0 1 ((q8.1 1 0 1) + (1 : Int32)))))))))))
  else
  ((-3 : Int32), σ)
set_option maxRecDepth 100000 in
set_option maxHeartbeats 4000000 in
theorem c_X8_add (x1 : Int32) (x2 : Int32) (x3 : Int32) (σ : SS) {r : Int32} {σ' : SS} (hm : m_X8_add x1 x2 x3 σ = (r, σ')) : XM LC 2 M_X8_add [aR 1 0, aI x1, aI x2, aI x3] σ (some (aI r)) σ' := by
  refine XM.of (K := K8) (by decide) (by decide +kernel) K8_ok (Nat.le_of_ble_eq_true rfl) (fun Γ B q => ?_)
  unfold m_X8_add at hm
  refine XW.bb B [(0, .aload_n 0), (1, .getfield 15), (4, .bipush 12)] (by decide +kernel) (pc1 := 6) (ls1 := [some (aR 1 0), some (aI x1), some (aI x2), some (aI x3), none]) (st1 := [aI (12 : Int32), aI (σ.1 1 0 1)]) (σ1 := σ) (P := []) (i := .if_icmp .lt 6) (tgt := 12) (q := (σ.1 1 0 1) < (12 : Int32)) rfl trivial (by decide +kernel) rfl (by decide) (fun h1 => ?_) (fun h1 => ?_)
  · rw [if_pos h1] at hm
    refine XW.bk B [(12, .aload_n 0), (13, .getfield 15), (16, .bipush 7), (18, .imul), (19, .istore 4), (21, .aload_n 0), (22, .iload 4), (24, .iconst 0), (25, .iadd), (26, .iload_n 1)] (by decide +kernel) (pc1 := 27) (ls1 := [some (aR 1 0), some (aI x1), some (aI x2), some (aI x3), some (aI ((σ.1 1 0 1) * (7 : Int32)))]) (st1 := [aI x1, aI (((σ.1 1 0 1) * (7 : Int32)) + (0 : Int32)), aR 1 0]) (σ1 := σ) (P := []) rfl trivial ?_
    obtain ⟨q2, hq2, hm⟩ := bnT_eq hm
    refine XW.callV B (M := M_X8_write) (t := 1) (j := 0) (cn := 1) (as := [aI (((σ.1 1 0 1) * (7 : Int32)) + (0 : Int32)), aI x1]) (c_X8_write (((σ.1 1 0 1) * (7 : Int32)) + (0 : Int32)) x1 σ hq2) (by decide) wV_X8_write wN_X8_write lk_X8_19 rfl rfl rfl (by decide) rfl (Nat.le_of_ble_eq_true rfl) (by decide +kernel) ?_
    refine XW.bk B [(30, .aload_n 0), (31, .iload 4), (33, .iconst 1), (34, .iadd), (35, .iconst 0)] (by decide +kernel) (pc1 := 36) (ls1 := [some (aR 1 0), some (aI x1), some (aI x2), some (aI x3), some (aI ((σ.1 1 0 1) * (7 : Int32)))]) (st1 := [aI (0 : Int32), aI (((σ.1 1 0 1) * (7 : Int32)) + (1 : Int32)), aR 1 0]) (σ1 := q2) (P := []) rfl trivial ?_
    obtain ⟨q3, hq3, hm⟩ := bnT_eq hm
    refine XW.callV B (M := M_X8_write) (t := 1) (j := 0) (cn := 1) (as := [aI (((σ.1 1 0 1) * (7 : Int32)) + (1 : Int32)), aI (0 : Int32)]) (c_X8_write (((σ.1 1 0 1) * (7 : Int32)) + (1 : Int32)) (0 : Int32) q2 hq3) (by decide) wV_X8_write wN_X8_write lk_X8_19 rfl rfl rfl (by decide) rfl (Nat.le_of_ble_eq_true rfl) (by decide +kernel) ?_
    refine XW.bk B [(39, .aload_n 0), (40, .iload 4), (42, .iconst 2), (43, .iadd), (44, .bipush 10)] (by decide +kernel) (pc1 := 46) (ls1 := [some (aR 1 0), some (aI x1), some (aI x2), some (aI x3), some (aI ((σ.1 1 0 1) * (7 : Int32)))]) (st1 := [aI (10 : Int32), aI (((σ.1 1 0 1) * (7 : Int32)) + (2 : Int32)), aR 1 0]) (σ1 := q3) (P := []) rfl trivial ?_
    obtain ⟨q4, hq4, hm⟩ := bnT_eq hm
    refine XW.callV B (M := M_X8_write) (t := 1) (j := 0) (cn := 1) (as := [aI (((σ.1 1 0 1) * (7 : Int32)) + (2 : Int32)), aI (10 : Int32)]) (c_X8_write (((σ.1 1 0 1) * (7 : Int32)) + (2 : Int32)) (10 : Int32) q3 hq4) (by decide) wV_X8_write wN_X8_write lk_X8_19 rfl rfl rfl (by decide) rfl (Nat.le_of_ble_eq_true rfl) (by decide +kernel) ?_
    refine XW.bk B [(49, .aload_n 0), (50, .iload 4), (52, .iconst 3), (53, .iadd), (54, .iconst 2)] (by decide +kernel) (pc1 := 55) (ls1 := [some (aR 1 0), some (aI x1), some (aI x2), some (aI x3), some (aI ((σ.1 1 0 1) * (7 : Int32)))]) (st1 := [aI (2 : Int32), aI (((σ.1 1 0 1) * (7 : Int32)) + (3 : Int32)), aR 1 0]) (σ1 := q4) (P := []) rfl trivial ?_
    obtain ⟨q5, hq5, hm⟩ := bnT_eq hm
    refine XW.callV B (M := M_X8_write) (t := 1) (j := 0) (cn := 1) (as := [aI (((σ.1 1 0 1) * (7 : Int32)) + (3 : Int32)), aI (2 : Int32)]) (c_X8_write (((σ.1 1 0 1) * (7 : Int32)) + (3 : Int32)) (2 : Int32) q4 hq5) (by decide) wV_X8_write wN_X8_write lk_X8_19 rfl rfl rfl (by decide) rfl (Nat.le_of_ble_eq_true rfl) (by decide +kernel) ?_
    refine XW.bk B [(58, .aload_n 0), (59, .iload 4), (61, .iconst 4), (62, .iadd), (63, .iload_n 2)] (by decide +kernel) (pc1 := 64) (ls1 := [some (aR 1 0), some (aI x1), some (aI x2), some (aI x3), some (aI ((σ.1 1 0 1) * (7 : Int32)))]) (st1 := [aI x2, aI (((σ.1 1 0 1) * (7 : Int32)) + (4 : Int32)), aR 1 0]) (σ1 := q5) (P := []) rfl trivial ?_
    obtain ⟨q6, hq6, hm⟩ := bnT_eq hm
    refine XW.callV B (M := M_X8_write) (t := 1) (j := 0) (cn := 1) (as := [aI (((σ.1 1 0 1) * (7 : Int32)) + (4 : Int32)), aI x2]) (c_X8_write (((σ.1 1 0 1) * (7 : Int32)) + (4 : Int32)) x2 q5 hq6) (by decide) wV_X8_write wN_X8_write lk_X8_19 rfl rfl rfl (by decide) rfl (Nat.le_of_ble_eq_true rfl) (by decide +kernel) ?_
    refine XW.bk B [(67, .aload_n 0), (68, .iload 4), (70, .iconst 5), (71, .iadd), (72, .iload_n 3)] (by decide +kernel) (pc1 := 73) (ls1 := [some (aR 1 0), some (aI x1), some (aI x2), some (aI x3), some (aI ((σ.1 1 0 1) * (7 : Int32)))]) (st1 := [aI x3, aI (((σ.1 1 0 1) * (7 : Int32)) + (5 : Int32)), aR 1 0]) (σ1 := q6) (P := []) rfl trivial ?_
    obtain ⟨q7, hq7, hm⟩ := bnT_eq hm
    refine XW.callV B (M := M_X8_write) (t := 1) (j := 0) (cn := 1) (as := [aI (((σ.1 1 0 1) * (7 : Int32)) + (5 : Int32)), aI x3]) (c_X8_write (((σ.1 1 0 1) * (7 : Int32)) + (5 : Int32)) x3 q6 hq7) (by decide) wV_X8_write wN_X8_write lk_X8_19 rfl rfl rfl (by decide) rfl (Nat.le_of_ble_eq_true rfl) (by decide +kernel) ?_
    refine XW.bk B [(76, .aload_n 0), (77, .iload 4), (79, .bipush 6), (81, .iadd), (82, .iconst 3)] (by decide +kernel) (pc1 := 83) (ls1 := [some (aR 1 0), some (aI x1), some (aI x2), some (aI x3), some (aI ((σ.1 1 0 1) * (7 : Int32)))]) (st1 := [aI (3 : Int32), aI (((σ.1 1 0 1) * (7 : Int32)) + (6 : Int32)), aR 1 0]) (σ1 := q7) (P := []) rfl trivial ?_
    obtain ⟨q8, hq8, hm⟩ := bnT_eq hm
    refine XW.callV B (M := M_X8_write) (t := 1) (j := 0) (cn := 1) (as := [aI (((σ.1 1 0 1) * (7 : Int32)) + (6 : Int32)), aI (3 : Int32)]) (c_X8_write (((σ.1 1 0 1) * (7 : Int32)) + (6 : Int32)) (3 : Int32) q7 hq8) (by decide) wV_X8_write wN_X8_write lk_X8_19 rfl rfl rfl (by decide) rfl (Nat.le_of_ble_eq_true rfl) (by decide +kernel) ?_
    refine XW.bk B [(86, .aload_n 0), (87, .dup), (88, .getfield 15), (91, .dup_x1), (92, .iconst 1), (93, .iadd), (94, .putfield 15)] (by decide +kernel) (pc1 := 97) (ls1 := [some (aR 1 0), some (aI x1), some (aI x2), some (aI x3), some (aI ((σ.1 1 0 1) * (7 : Int32)))]) (st1 := [aI (q8.1 1 0 1)]) (σ1 := (sI q8 1 0 1 ((q8.1 1 0 1) + (1 : Int32)))) (P := []) rfl trivial ?_
    cases hm
    exact XW.iret B q (by decide +kernel)
  · rw [if_neg h1] at hm
    refine XW.bk B [(9, .bipush (-3))] (by decide +kernel) (pc1 := 11) (ls1 := [some (aR 1 0), some (aI x1), some (aI x2), some (aI x3), none]) (st1 := [aI (-3 : Int32)]) (σ1 := σ) (P := []) rfl trivial ?_
    cases hm
    exact XW.iret B q (by decide +kernel)

def m_X8_slotOf (x1 : Int32) (x2 : Int32) (σ : SS) : Int32 :=
  if (m_X10_isWithin x2 (0 : Int32) (6 : Int32)) = (0 : Int32) then
    if (m_X10_isWithin x2 (7 : Int32) (10 : Int32)) = (0 : Int32) then
      (-1 : Int32)
    else
    if x1 = (0 : Int32) then
      (((84 : Int32) + x2) - (7 : Int32))
    else
    (-1 : Int32)
  else
  if (m_X8_has x1 σ) = (0 : Int32) then
    (-1 : Int32)
  else
  ((x1 * (7 : Int32)) + x2)
set_option maxRecDepth 100000 in
set_option maxHeartbeats 4000000 in
theorem c_X8_slotOf (x1 : Int32) (x2 : Int32) (σ : SS) {r : Int32} (hm : m_X8_slotOf x1 x2 σ = r) : XM LC 2 M_X8_slotOf [aR 1 0, aI x1, aI x2] σ (some (aI r)) σ := by
  refine XM.of (K := K8) (by decide) (by decide +kernel) K8_ok (Nat.le_of_ble_eq_true rfl) (fun Γ B q => ?_)
  unfold m_X8_slotOf at hm
  refine XW.bk B [(0, .iload_n 2), (1, .iconst 0), (2, .bipush 6)] (by decide +kernel) (pc1 := 4) (ls1 := [some (aR 1 0), some (aI x1), some (aI x2)]) (st1 := [aI (6 : Int32), aI (0 : Int32), aI x2]) (σ1 := σ) (P := []) rfl trivial ?_
  refine XW.callSN B (M := M_X10_isWithin) (as := [aI x2, aI (0 : Int32), aI (6 : Int32)]) (c_X10_isWithin x2 (0 : Int32) (6 : Int32) σ rfl) (by decide) wS_X10_isWithin wN_X10_isWithin lk_X8_23 rfl (Nat.le_of_ble_eq_true rfl) (by decide +kernel) ?_
  refine XW.bb B [] (by decide +kernel) (pc1 := 7) (ls1 := [some (aR 1 0), some (aI x1), some (aI x2)]) (st1 := [aI (m_X10_isWithin x2 (0 : Int32) (6 : Int32))]) (σ1 := σ) (P := []) (i := .ifCond .eq 22) (tgt := 29) (q := (m_X10_isWithin x2 (0 : Int32) (6 : Int32)) = (0 : Int32)) rfl trivial (by decide +kernel) rfl (by decide) (fun h1 => ?_) (fun h1 => ?_)
  · rw [if_pos h1] at hm
    refine XW.bk B [(29, .iload_n 2), (30, .bipush 7), (32, .bipush 10)] (by decide +kernel) (pc1 := 34) (ls1 := [some (aR 1 0), some (aI x1), some (aI x2)]) (st1 := [aI (10 : Int32), aI (7 : Int32), aI x2]) (σ1 := σ) (P := []) rfl trivial ?_
    refine XW.callSN B (M := M_X10_isWithin) (as := [aI x2, aI (7 : Int32), aI (10 : Int32)]) (c_X10_isWithin x2 (7 : Int32) (10 : Int32) σ rfl) (by decide) wS_X10_isWithin wN_X10_isWithin lk_X8_23 rfl (Nat.le_of_ble_eq_true rfl) (by decide +kernel) ?_
    refine XW.bb B [] (by decide +kernel) (pc1 := 37) (ls1 := [some (aR 1 0), some (aI x1), some (aI x2)]) (st1 := [aI (m_X10_isWithin x2 (7 : Int32) (10 : Int32))]) (σ1 := σ) (P := []) (i := .ifCond .eq 17) (tgt := 54) (q := (m_X10_isWithin x2 (7 : Int32) (10 : Int32)) = (0 : Int32)) rfl trivial (by decide +kernel) rfl (by decide) (fun h2 => ?_) (fun h2 => ?_)
    · rw [if_pos h2] at hm
      refine XW.bk B [(54, .iconst (-1))] (by decide +kernel) (pc1 := 55) (ls1 := [some (aR 1 0), some (aI x1), some (aI x2)]) (st1 := [aI (-1 : Int32)]) (σ1 := σ) (P := []) rfl trivial ?_
      cases hm
      exact XW.iret B q (by decide +kernel)
    · rw [if_neg h2] at hm
      refine XW.bn B [(40, .iload_n 1)] (by decide +kernel) (pc1 := 41) (ls1 := [some (aR 1 0), some (aI x1), some (aI x2)]) (st1 := [aI x1]) (σ1 := σ) (P := []) (i := .ifCond .ne 13) (tgt := 54) (q := x1 = (0 : Int32)) rfl trivial (by decide +kernel) rfl (by decide) (fun h3 => ?_) (fun h3 => ?_)
      · rw [if_pos h3] at hm
        refine XW.bk B [(44, .bipush 84), (46, .iload_n 2), (47, .iadd), (48, .bipush 7), (50, .isub), (51, .goto 4)] (by decide +kernel) (pc1 := 55) (ls1 := [some (aR 1 0), some (aI x1), some (aI x2)]) (st1 := [aI (((84 : Int32) + x2) - (7 : Int32))]) (σ1 := σ) (P := []) rfl trivial ?_
        cases hm
        exact XW.iret B q (by decide +kernel)
      · rw [if_neg h3] at hm
        refine XW.bk B [(54, .iconst (-1))] (by decide +kernel) (pc1 := 55) (ls1 := [some (aR 1 0), some (aI x1), some (aI x2)]) (st1 := [aI (-1 : Int32)]) (σ1 := σ) (P := []) rfl trivial ?_
        cases hm
        exact XW.iret B q (by decide +kernel)
  · rw [if_neg h1] at hm
    refine XW.bk B [(10, .aload_n 0), (11, .iload_n 1)] (by decide +kernel) (pc1 := 12) (ls1 := [some (aR 1 0), some (aI x1), some (aI x2)]) (st1 := [aI x1, aR 1 0]) (σ1 := σ) (P := []) rfl trivial ?_
    refine XW.callV B (M := M_X8_has) (t := 1) (j := 0) (cn := 1) (as := [aI x1]) (c_X8_has x1 σ rfl) (by decide) wV_X8_has wN_X8_has lk_X8_27 rfl rfl rfl (by decide) rfl (Nat.le_of_ble_eq_true rfl) (by decide +kernel) ?_
    refine XW.bb B [] (by decide +kernel) (pc1 := 15) (ls1 := [some (aR 1 0), some (aI x1), some (aI x2)]) (st1 := [aI (m_X8_has x1 σ)]) (σ1 := σ) (P := []) (i := .ifCond .eq 12) (tgt := 27) (q := (m_X8_has x1 σ) = (0 : Int32)) rfl trivial (by decide +kernel) rfl (by decide) (fun h4 => ?_) (fun h4 => ?_)
    · rw [if_pos h4] at hm
      refine XW.bk B [(27, .iconst (-1))] (by decide +kernel) (pc1 := 28) (ls1 := [some (aR 1 0), some (aI x1), some (aI x2)]) (st1 := [aI (-1 : Int32)]) (σ1 := σ) (P := []) rfl trivial ?_
      cases hm
      exact XW.iret B q (by decide +kernel)
    · rw [if_neg h4] at hm
      refine XW.bk B [(18, .iload_n 1), (19, .bipush 7), (21, .imul), (22, .iload_n 2), (23, .iadd), (24, .goto 4)] (by decide +kernel) (pc1 := 28) (ls1 := [some (aR 1 0), some (aI x1), some (aI x2)]) (st1 := [aI ((x1 * (7 : Int32)) + x2)]) (σ1 := σ) (P := []) rfl trivial ?_
      cases hm
      exact XW.iret B q (by decide +kernel)

def m_X8_read (x1 : Int32) (σ : SS) : Int32 :=
  if x1 < (0 : Int32) then
    (0 : Int32)
  else
  if (88 : Int32) ≤ x1 then
    (0 : Int32)
  else
  (σ.2.1 2 0 x1.toNatClampNeg)
set_option maxRecDepth 100000 in
set_option maxHeartbeats 4000000 in
theorem c_X8_read (x1 : Int32) (σ : SS) {r : Int32} (hm : m_X8_read x1 σ = r) : XM LC 1 M_X8_read [aR 1 0, aI x1] σ (some (aI r)) σ := by
  refine XM.of (K := K8) (by decide) (by decide +kernel) K8_ok (Nat.le_of_ble_eq_true rfl) (fun Γ B q => ?_)
  unfold m_X8_read at hm
  refine XW.bb B [(0, .iload_n 1)] (by decide +kernel) (pc1 := 1) (ls1 := [some (aR 1 0), some (aI x1)]) (st1 := [aI x1]) (σ1 := σ) (P := []) (i := .ifCond .lt 21) (tgt := 22) (q := x1 < (0 : Int32)) rfl trivial (by decide +kernel) rfl (by decide) (fun h1 => ?_) (fun h1 => ?_)
  · rw [if_pos h1] at hm
    refine XW.bk B [(22, .iconst 0)] (by decide +kernel) (pc1 := 23) (ls1 := [some (aR 1 0), some (aI x1)]) (st1 := [aI (0 : Int32)]) (σ1 := σ) (P := []) rfl trivial ?_
    cases hm
    exact XW.iret B q (by decide +kernel)
  · rw [if_neg h1] at hm
    refine XW.bb B [(4, .iload_n 1), (5, .aload_n 0), (6, .getfield 11), (9, .arraylength)] (by decide +kernel) (pc1 := 10) (ls1 := [some (aR 1 0), some (aI x1)]) (st1 := [aI (88 : Int32), aI x1]) (σ1 := σ) (P := []) (i := .if_icmp .ge 12) (tgt := 22) (q := (88 : Int32) ≤ x1) rfl trivial (by decide +kernel) rfl (by decide) (fun h2 => ?_) (fun h2 => ?_)
    · rw [if_pos h2] at hm
      refine XW.bk B [(22, .iconst 0)] (by decide +kernel) (pc1 := 23) (ls1 := [some (aR 1 0), some (aI x1)]) (st1 := [aI (0 : Int32)]) (σ1 := σ) (P := []) rfl trivial ?_
      cases hm
      exact XW.iret B q (by decide +kernel)
    · rw [if_neg h2] at hm
      refine XW.bk B [(13, .aload_n 0), (14, .getfield 11), (17, .iload_n 1), (18, .iaload), (19, .goto 4)] (by decide +kernel) (pc1 := 23) (ls1 := [some (aR 1 0), some (aI x1)]) (st1 := [aI (σ.2.1 2 0 x1.toNatClampNeg)]) (σ1 := σ) (P := [vp_in x1 88]) rfl ⟨(vin_a h1 h2 (by decide +kernel)), trivial⟩ ?_
      cases hm
      exact XW.iret B q (by decide +kernel)
