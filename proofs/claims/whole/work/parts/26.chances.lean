def L_X0_allWays_4 : Nat → Int64 → Int32 → SS → Option (Int64)
  | 0, _, _, _ => none
  | n + 1, v1, v3, σ =>
    if (σ.1 1 0 1) ≤ v3 then
      some v1
    else
    L_X0_allWays_4 n (v1 * (12 : Int64)) (v3 + (1 : Int32)) σ
def m_X0_allWays (σ : SS) : Option (Int64) :=
  L_X0_allWays_4 FU (1 : Int64) (0 : Int32) σ
set_option maxRecDepth 100000 in
set_option maxHeartbeats 4000000 in
theorem lp_X0_allWays_4 {Γ : XC} {r : Int64} {σ0 : SS} (B : XB Γ cX0_allWays RX0 1 K0 LC 4) (q : XQ Γ (some .long) (some (aJ r)) σ0) : ∀ (n : Nat) (v1 : Int64) (v3 : Int32) (σ : SS), σ = σ0 → L_X0_allWays_4 n v1 v3 σ = some r → XW Γ 4 [some (aR 20 0), some (aJ v1), none, some (aI v3)] [] σ := by
  intro n
  induction n with
  | zero => intro v1 v3 σ hσ hm; cases hm
  | succ n ih =>
    intro v1 v3 σ hσ hm
    subst hσ
    rw [L_X0_allWays_4] at hm
    refine XW.bb B [(4, .iload_n 3), (5, .aload_n 0), (6, .getfield 9), (9, .getfield 15)] (by decide +kernel) (pc1 := 12) (ls1 := [some (aR 20 0), some (aJ v1), none, some (aI v3)]) (st1 := [aI (σ.1 1 0 1), aI v3]) (σ1 := σ) (P := []) (i := .if_icmp .ge 15) (tgt := 27) (q := (σ.1 1 0 1) ≤ v3) rfl trivial (by decide +kernel) rfl (by decide) (fun h1 => ?_) (fun h1 => ?_)
    · rw [if_pos h1] at hm
      refine XW.bk B [(27, .lload_n 1)] (by decide +kernel) (pc1 := 28) (ls1 := [some (aR 20 0), some (aJ v1), none, some (aI v3)]) (st1 := [aJ v1]) (σ1 := σ) (P := []) rfl trivial ?_
      cases hm
      exact XW.lret B q (by decide +kernel)
    · rw [if_neg h1] at hm
      refine XW.bk B [(15, .lload_n 1), (16, .ldc2_w 21), (19, .lmul), (20, .lstore_n 1), (21, .iinc 3 1), (24, .goto (-20))] (by decide +kernel) (pc1 := 4) (ls1 := [some (aR 20 0), some (aJ (v1 * (12 : Int64))), none, some (aI (v3 + (1 : Int32)))]) (st1 := []) (σ1 := σ) (P := []) rfl trivial ?_
      exact ih (v1 * (12 : Int64)) (v3 + (1 : Int32)) σ rfl hm
set_option maxRecDepth 100000 in
set_option maxHeartbeats 4000000 in
theorem c_X0_allWays (σ : SS) {r : Int64} (hm : m_X0_allWays σ = some r) : XM LC 1 M_X0_allWays [aR 20 0] σ (some (aJ r)) σ := by
  refine XM.of (K := K0) (by decide) (by decide +kernel) K0_ok (Nat.le_of_ble_eq_true rfl) (fun Γ B q => ?_)
  unfold m_X0_allWays at hm
  refine XW.bk B [(0, .lconst 1), (1, .lstore_n 1), (2, .iconst 0), (3, .istore_n 3)] (by decide +kernel) (pc1 := 4) (ls1 := [some (aR 20 0), some (aJ (1 : Int64)), none, some (aI (0 : Int32))]) (st1 := []) (σ1 := σ) (P := []) rfl trivial ?_
  exact lp_X0_allWays_4 B q FU (1 : Int64) (0 : Int32) σ rfl hm

def L_X0_freeWays_5 : Nat → Int32 → Int32 → Int64 → Int32 → SS → Option (Int64)
  | 0, _, _, _, _, _ => none
  | n + 1, v1, v2, v3, v5, σ =>
    if (σ.1 1 0 1) ≤ v5 then
      some v3
    else
    if v5 = v1 then
      L_X0_freeWays_5 n v1 v2 (v3 * (12 : Int64)) (v5 + (1 : Int32)) σ
    else
    L_X0_freeWays_5 n v1 v2 (v3 * ((12 : Int32) - (if (0 : Int32) < ((m_X8_number v5 (5 : Int32) σ) - v2) then ((m_X8_number v5 (5 : Int32) σ) - v2) else (0 : Int32))).toInt64) (v5 + (1 : Int32)) σ
def m_X0_freeWays (x1 : Int32) (x2 : Int32) (σ : SS) : Option (Int64) :=
  L_X0_freeWays_5 FU x1 x2 (1 : Int64) (0 : Int32) σ
set_option maxRecDepth 100000 in
set_option maxHeartbeats 4000000 in
theorem lp_X0_freeWays_5 {Γ : XC} {r : Int64} {σ0 : SS} (B : XB Γ cX0_freeWays RX0 2 K0 LC 7) (q : XQ Γ (some .long) (some (aJ r)) σ0) : ∀ (n : Nat) (v1 : Int32) (v2 : Int32) (v3 : Int64) (v5 : Int32) (σ : SS), σ = σ0 → L_X0_freeWays_5 n v1 v2 v3 v5 σ = some r → XW Γ 5 [some (aR 20 0), some (aI v1), some (aI v2), some (aJ v3), none, some (aI v5), none] [] σ := by
  intro n
  induction n with
  | zero => intro v1 v2 v3 v5 σ hσ hm; cases hm
  | succ n ih =>
    intro v1 v2 v3 v5 σ hσ hm
    subst hσ
    rw [L_X0_freeWays_5] at hm
    refine XW.bb B [(5, .iload 5), (7, .aload_n 0), (8, .getfield 9), (11, .getfield 15)] (by decide +kernel) (pc1 := 14) (ls1 := [some (aR 20 0), some (aI v1), some (aI v2), some (aJ v3), none, some (aI v5), none]) (st1 := [aI (σ.1 1 0 1), aI v5]) (σ1 := σ) (P := []) (i := .if_icmp .ge 51) (tgt := 65) (q := (σ.1 1 0 1) ≤ v5) rfl trivial (by decide +kernel) rfl (by decide) (fun h1 => ?_) (fun h1 => ?_)
    · rw [if_pos h1] at hm
      refine XW.bk B [(65, .lload_n 3)] (by decide +kernel) (pc1 := 66) (ls1 := [some (aR 20 0), some (aI v1), some (aI v2), some (aJ v3), none, some (aI v5), none]) (st1 := [aJ v3]) (σ1 := σ) (P := []) rfl trivial ?_
      cases hm
      exact XW.lret B q (by decide +kernel)
    · rw [if_neg h1] at hm
      refine XW.bk B [(17, .iconst 0), (18, .aload_n 0), (19, .getfield 9), (22, .iload 5), (24, .iconst 5)] (by decide +kernel) (pc1 := 25) (ls1 := [some (aR 20 0), some (aI v1), some (aI v2), some (aJ v3), none, some (aI v5), none]) (st1 := [aI (5 : Int32), aI v5, aR 1 0, aI (0 : Int32)]) (σ1 := σ) (P := []) rfl trivial ?_
      refine XW.callV B (M := M_X8_number) (t := 1) (j := 0) (cn := 1) (as := [aI v5, aI (5 : Int32)]) (c_X8_number v5 (5 : Int32) σ rfl) (by decide) wV_X8_number wN_X8_number lk_X0_23 rfl rfl rfl (by decide) rfl (Nat.le_of_ble_eq_true rfl) (by decide +kernel) ?_
      refine XW.bb B [(28, .iload_n 2), (29, .isub), (30, .invokestatic 27), (33, .istore 6), (35, .iload 5), (37, .iload_n 1)] (by decide +kernel) (pc1 := 38) (ls1 := [some (aR 20 0), some (aI v1), some (aI v2), some (aJ v3), none, some (aI v5), some (aI (if (0 : Int32) < ((m_X8_number v5 (5 : Int32) σ) - v2) then ((m_X8_number v5 (5 : Int32) σ) - v2) else (0 : Int32)))]) (st1 := [aI v1, aI v5]) (σ1 := σ) (P := [(([] : List AV).map (fun v => (rv (fun _ _ => 0) v).category)).sum ≤ 8]) (i := .if_icmp .eq 15) (tgt := 53) (q := v5 = v1) rfl ⟨(Nat.le_of_ble_eq_true rfl), trivial⟩ (by decide +kernel) rfl (by decide) (fun h2 => ?_) (fun h2 => ?_)
      · rw [if_pos h2] at hm
        refine XW.bk B [(53, .lload_n 3), (54, .ldc2_w 21), (57, .lmul), (58, .lstore_n 3), (59, .iinc 5 1), (62, .goto (-57))] (by decide +kernel) (pc1 := 5) (ls1 := [some (aR 20 0), some (aI v1), some (aI v2), some (aJ (v3 * (12 : Int64))), none, some (aI (v5 + (1 : Int32))), some (aI (if (0 : Int32) < ((m_X8_number v5 (5 : Int32) σ) - v2) then ((m_X8_number v5 (5 : Int32) σ) - v2) else (0 : Int32)))]) (st1 := []) (σ1 := σ) (P := []) rfl trivial ?_
        refine XW.loc [true, true, true, true, false, true, false] rfl ?_
        exact ih v1 v2 (v3 * (12 : Int64)) (v5 + (1 : Int32)) σ rfl hm
      · rw [if_neg h2] at hm
        refine XW.bk B [(41, .lload_n 3), (42, .bipush 12), (44, .iload 6), (46, .isub), (47, .i2l), (48, .lmul), (49, .lstore_n 3), (50, .goto 9), (59, .iinc 5 1), (62, .goto (-57))] (by decide +kernel) (pc1 := 5) (ls1 := [some (aR 20 0), some (aI v1), some (aI v2), some (aJ (v3 * ((12 : Int32) - (if (0 : Int32) < ((m_X8_number v5 (5 : Int32) σ) - v2) then ((m_X8_number v5 (5 : Int32) σ) - v2) else (0 : Int32))).toInt64)), none, some (aI (v5 + (1 : Int32))), some (aI (if (0 : Int32) < ((m_X8_number v5 (5 : Int32) σ) - v2) then ((m_X8_number v5 (5 : Int32) σ) - v2) else (0 : Int32)))]) (st1 := []) (σ1 := σ) (P := []) rfl trivial ?_
        refine XW.loc [true, true, true, true, false, true, false] rfl ?_
        exact ih v1 v2 (v3 * ((12 : Int32) - (if (0 : Int32) < ((m_X8_number v5 (5 : Int32) σ) - v2) then ((m_X8_number v5 (5 : Int32) σ) - v2) else (0 : Int32))).toInt64) (v5 + (1 : Int32)) σ rfl hm
set_option maxRecDepth 100000 in
set_option maxHeartbeats 4000000 in
theorem c_X0_freeWays (x1 : Int32) (x2 : Int32) (σ : SS) {r : Int64} (hm : m_X0_freeWays x1 x2 σ = some r) : XM LC 2 M_X0_freeWays [aR 20 0, aI x1, aI x2] σ (some (aJ r)) σ := by
  refine XM.of (K := K0) (by decide) (by decide +kernel) K0_ok (Nat.le_of_ble_eq_true rfl) (fun Γ B q => ?_)
  unfold m_X0_freeWays at hm
  refine XW.bk B [(0, .lconst 1), (1, .lstore_n 3), (2, .iconst 0), (3, .istore 5)] (by decide +kernel) (pc1 := 5) (ls1 := [some (aR 20 0), some (aI x1), some (aI x2), some (aJ (1 : Int64)), none, some (aI (0 : Int32)), none]) (st1 := []) (σ1 := σ) (P := []) rfl trivial ?_
  exact lp_X0_freeWays_5 B q FU x1 x2 (1 : Int64) (0 : Int32) σ rfl hm

def L_X0_bestWatched_4 : Nat → Int32 → Int32 → SS → Option (Int32)
  | 0, _, _, _ => none
  | n + 1, v1, v2, σ =>
    if (σ.1 1 0 1) ≤ v2 then
      some v1
    else
    Option.bind (m_X0_freeWays v2 (0 : Int32) σ) (fun q2 =>
    Option.bind (m_X0_freeWays v1 (0 : Int32) σ) (fun q3 =>
    if lg_cmp q2 q3 ≤ (0 : Int32) then
      L_X0_bestWatched_4 n v1 (v2 + (1 : Int32)) σ
    else
    L_X0_bestWatched_4 n v2 (v2 + (1 : Int32)) σ))
def m_X0_bestWatched (σ : SS) : Option (Int32) :=
  L_X0_bestWatched_4 FU (0 : Int32) (1 : Int32) σ
set_option maxRecDepth 100000 in
set_option maxHeartbeats 4000000 in
theorem lp_X0_bestWatched_4 {Γ : XC} {r : Int32} {σ0 : SS} (B : XB Γ cX0_bestWatched RX0 3 K0 LC 3) (q : XQ Γ (some .int) (some (aI r)) σ0) : ∀ (n : Nat) (v1 : Int32) (v2 : Int32) (σ : SS), σ = σ0 → L_X0_bestWatched_4 n v1 v2 σ = some r → XW Γ 4 [some (aR 20 0), some (aI v1), some (aI v2)] [] σ := by
  intro n
  induction n with
  | zero => intro v1 v2 σ hσ hm; cases hm
  | succ n ih =>
    intro v1 v2 σ hσ hm
    subst hσ
    rw [L_X0_bestWatched_4] at hm
    refine XW.bb B [(4, .iload_n 2), (5, .aload_n 0), (6, .getfield 9), (9, .getfield 15)] (by decide +kernel) (pc1 := 12) (ls1 := [some (aR 20 0), some (aI v1), some (aI v2)]) (st1 := [aI (σ.1 1 0 1), aI v2]) (σ1 := σ) (P := []) (i := .if_icmp .ge 27) (tgt := 39) (q := (σ.1 1 0 1) ≤ v2) rfl trivial (by decide +kernel) rfl (by decide) (fun h1 => ?_) (fun h1 => ?_)
    · rw [if_pos h1] at hm
      refine XW.bk B [(39, .iload_n 1)] (by decide +kernel) (pc1 := 40) (ls1 := [some (aR 20 0), some (aI v1), some (aI v2)]) (st1 := [aI v1]) (σ1 := σ) (P := []) rfl trivial ?_
      cases hm
      exact XW.iret B q (by decide +kernel)
    · rw [if_neg h1] at hm
      refine XW.bk B [(15, .aload_n 0), (16, .iload_n 2), (17, .iconst 0)] (by decide +kernel) (pc1 := 18) (ls1 := [some (aR 20 0), some (aI v1), some (aI v2)]) (st1 := [aI (0 : Int32), aI v2, aR 20 0]) (σ1 := σ) (P := []) rfl trivial ?_
      obtain ⟨q2, hq2, hm⟩ := obind_eq hm
      refine XW.callV B (M := M_X0_freeWays) (t := 20) (j := 0) (cn := 1) (as := [aI v2, aI (0 : Int32)]) (c_X0_freeWays v2 (0 : Int32) σ hq2) (by decide) wV_X0_freeWays wN_X0_freeWays lk_X0_32 rfl rfl rfl (by decide) rfl (Nat.le_of_ble_eq_true rfl) (by decide +kernel) ?_
      refine XW.bk B [(21, .aload_n 0), (22, .iload_n 1), (23, .iconst 0)] (by decide +kernel) (pc1 := 24) (ls1 := [some (aR 20 0), some (aI v1), some (aI v2)]) (st1 := [aI (0 : Int32), aI v1, aR 20 0, aJ q2]) (σ1 := σ) (P := []) rfl trivial ?_
      obtain ⟨q3, hq3, hm⟩ := obind_eq hm
      refine XW.callV B (M := M_X0_freeWays) (t := 20) (j := 0) (cn := 1) (as := [aI v1, aI (0 : Int32)]) (c_X0_freeWays v1 (0 : Int32) σ hq3) (by decide) wV_X0_freeWays wN_X0_freeWays lk_X0_32 rfl rfl rfl (by decide) rfl (Nat.le_of_ble_eq_true rfl) (by decide +kernel) ?_
      refine XW.bb B [(27, .lcmp)] (by decide +kernel) (pc1 := 28) (ls1 := [some (aR 20 0), some (aI v1), some (aI v2)]) (st1 := [aI (lg_cmp q2 q3)]) (σ1 := σ) (P := []) (i := .ifCond .le 5) (tgt := 33) (q := lg_cmp q2 q3 ≤ (0 : Int32)) rfl trivial (by decide +kernel) rfl (by decide) (fun h4 => ?_) (fun h4 => ?_)
      · rw [if_pos h4] at hm
        refine XW.bk B [(33, .iinc 2 1), (36, .goto (-32))] (by decide +kernel) (pc1 := 4) (ls1 := [some (aR 20 0), some (aI v1), some (aI (v2 + (1 : Int32)))]) (st1 := []) (σ1 := σ) (P := []) rfl trivial ?_
        exact ih v1 (v2 + (1 : Int32)) σ rfl hm
      · rw [if_neg h4] at hm
        refine XW.bk B [(31, .iload_n 2), (32, .istore_n 1), (33, .iinc 2 1), (36, .goto (-32))] (by decide +kernel) (pc1 := 4) (ls1 := [some (aR 20 0), some (aI v2), some (aI (v2 + (1 : Int32)))]) (st1 := []) (σ1 := σ) (P := []) rfl trivial ?_
        exact ih v2 (v2 + (1 : Int32)) σ rfl hm
set_option maxRecDepth 100000 in
set_option maxHeartbeats 4000000 in
theorem c_X0_bestWatched (σ : SS) {r : Int32} (hm : m_X0_bestWatched σ = some r) : XM LC 3 M_X0_bestWatched [aR 20 0] σ (some (aI r)) σ := by
  refine XM.of (K := K0) (by decide) (by decide +kernel) K0_ok (Nat.le_of_ble_eq_true rfl) (fun Γ B q => ?_)
  unfold m_X0_bestWatched at hm
  refine XW.bk B [(0, .iconst 0), (1, .istore_n 1), (2, .iconst 1), (3, .istore_n 2)] (by decide +kernel) (pc1 := 4) (ls1 := [some (aR 20 0), some (aI (0 : Int32)), some (aI (1 : Int32))]) (st1 := []) (σ1 := σ) (P := []) rfl trivial ?_
  exact lp_X0_bestWatched_4 B q FU (0 : Int32) (1 : Int32) σ rfl hm

def L_X0_partOf_9 : Nat → Int64 → Int64 → Int32 → Int64 → Int64 → Int32 → SS → Option (Int64)
  | 0, _, _, _, _, _, _, _ => none
  | n + 1, v0, v2, v4, v5, v7, v9, σ =>
    if (200 : Int32) ≤ v9 then
      if lg_cmp v5 (0 : Int64) = (0 : Int32) then
        some (0 : Int64)
      else
      if v4 = (0 : Int32) then
        some (v0 / v5)
      else
      some (v2 / v5)
    else
    if lg_cmp v7 (0 : Int64) = (0 : Int32) then
      if lg_cmp v5 (0 : Int64) = (0 : Int32) then
        some (0 : Int64)
      else
      if v4 = (0 : Int32) then
        some (v0 / v5)
      else
      some (v2 / v5)
    else
    L_X0_partOf_9 n v0 v2 v4 v7 (v5 - (v5 / v7) * v7) (v9 + (1 : Int32)) σ
def m_X0_partOf (x1 : Int64) (x2 : Int64) (x3 : Int32) (σ : SS) : Option (Int64) :=
  L_X0_partOf_9 FU x1 x2 x3 x1 x2 (0 : Int32) σ
set_option maxRecDepth 100000 in
set_option maxHeartbeats 4000000 in
theorem lp_X0_partOf_9 {Γ : XC} {r : Int64} {σ0 : SS} (B : XB Γ cX0_partOf RX0 1 K0 LC 12) (q : XQ Γ (some .long) (some (aJ r)) σ0) : ∀ (n : Nat) (v0 : Int64) (v2 : Int64) (v4 : Int32) (v5 : Int64) (v7 : Int64) (v9 : Int32) (σ : SS), σ = σ0 → L_X0_partOf_9 n v0 v2 v4 v5 v7 v9 σ = some r → XW Γ 9 [some (aJ v0), none, some (aJ v2), none, some (aI v4), some (aJ v5), none, some (aJ v7), none, some (aI v9), none, none] [] σ := by
  intro n
  induction n with
  | zero => intro v0 v2 v4 v5 v7 v9 σ hσ hm; cases hm
  | succ n ih =>
    intro v0 v2 v4 v5 v7 v9 σ hσ hm
    subst hσ
    rw [L_X0_partOf_9] at hm
    refine XW.bb B [(9, .iload 9), (11, .sipush 200)] (by decide +kernel) (pc1 := 14) (ls1 := [some (aJ v0), none, some (aJ v2), none, some (aI v4), some (aJ v5), none, some (aJ v7), none, some (aI v9), none, none]) (st1 := [aI (200 : Int32), aI v9]) (σ1 := σ) (P := []) (i := .if_icmp .ge 31) (tgt := 45) (q := (200 : Int32) ≤ v9) rfl trivial (by decide +kernel) rfl (by decide) (fun h1 => ?_) (fun h1 => ?_)
    · rw [if_pos h1] at hm
      refine XW.bn B [(45, .lload 5), (47, .lconst 0), (48, .lcmp)] (by decide +kernel) (pc1 := 49) (ls1 := [some (aJ v0), none, some (aJ v2), none, some (aI v4), some (aJ v5), none, some (aJ v7), none, some (aI v9), none, none]) (st1 := [aI (lg_cmp v5 (0 : Int64))]) (σ1 := σ) (P := []) (i := .ifCond .ne 5) (tgt := 54) (q := lg_cmp v5 (0 : Int64) = (0 : Int32)) rfl trivial (by decide +kernel) rfl (by decide) (fun h2 => ?_) (fun h2 => ?_)
      · rw [if_pos h2] at hm
        refine XW.bk B [(52, .lconst 0)] (by decide +kernel) (pc1 := 53) (ls1 := [some (aJ v0), none, some (aJ v2), none, some (aI v4), some (aJ v5), none, some (aJ v7), none, some (aI v9), none, none]) (st1 := [aJ (0 : Int64)]) (σ1 := σ) (P := []) rfl trivial ?_
        cases hm
        exact XW.lret B q (by decide +kernel)
      · rw [if_neg h2] at hm
        refine XW.bn B [(54, .iload 4)] (by decide +kernel) (pc1 := 56) (ls1 := [some (aJ v0), none, some (aJ v2), none, some (aI v4), some (aJ v5), none, some (aJ v7), none, some (aI v9), none, none]) (st1 := [aI v4]) (σ1 := σ) (P := []) (i := .ifCond .ne 10) (tgt := 66) (q := v4 = (0 : Int32)) rfl trivial (by decide +kernel) rfl (by decide) (fun h3 => ?_) (fun h3 => ?_)
        · rw [if_pos h3] at hm
          refine XW.bk B [(59, .lload_n 0), (60, .lload 5), (62, .ldiv), (63, .goto 7)] (by decide +kernel) (pc1 := 70) (ls1 := [some (aJ v0), none, some (aJ v2), none, some (aI v4), some (aJ v5), none, some (aJ v7), none, some (aI v9), none, none]) (st1 := [aJ (v0 / v5)]) (σ1 := σ) (P := [¬ v5 = 0]) rfl ⟨(nz_c h2), trivial⟩ ?_
          cases hm
          exact XW.lret B q (by decide +kernel)
        · rw [if_neg h3] at hm
          refine XW.bk B [(66, .lload_n 2), (67, .lload 5), (69, .ldiv)] (by decide +kernel) (pc1 := 70) (ls1 := [some (aJ v0), none, some (aJ v2), none, some (aI v4), some (aJ v5), none, some (aJ v7), none, some (aI v9), none, none]) (st1 := [aJ (v2 / v5)]) (σ1 := σ) (P := [¬ v5 = 0]) rfl ⟨(nz_c h2), trivial⟩ ?_
          cases hm
          exact XW.lret B q (by decide +kernel)
    · rw [if_neg h1] at hm
      refine XW.bb B [(17, .lload 7), (19, .lconst 0), (20, .lcmp)] (by decide +kernel) (pc1 := 21) (ls1 := [some (aJ v0), none, some (aJ v2), none, some (aI v4), some (aJ v5), none, some (aJ v7), none, some (aI v9), none, none]) (st1 := [aI (lg_cmp v7 (0 : Int64))]) (σ1 := σ) (P := []) (i := .ifCond .eq 24) (tgt := 45) (q := lg_cmp v7 (0 : Int64) = (0 : Int32)) rfl trivial (by decide +kernel) rfl (by decide) (fun h4 => ?_) (fun h4 => ?_)
      · rw [if_pos h4] at hm
        refine XW.bn B [(45, .lload 5), (47, .lconst 0), (48, .lcmp)] (by decide +kernel) (pc1 := 49) (ls1 := [some (aJ v0), none, some (aJ v2), none, some (aI v4), some (aJ v5), none, some (aJ v7), none, some (aI v9), none, none]) (st1 := [aI (lg_cmp v5 (0 : Int64))]) (σ1 := σ) (P := []) (i := .ifCond .ne 5) (tgt := 54) (q := lg_cmp v5 (0 : Int64) = (0 : Int32)) rfl trivial (by decide +kernel) rfl (by decide) (fun h5 => ?_) (fun h5 => ?_)
        · rw [if_pos h5] at hm
          refine XW.bk B [(52, .lconst 0)] (by decide +kernel) (pc1 := 53) (ls1 := [some (aJ v0), none, some (aJ v2), none, some (aI v4), some (aJ v5), none, some (aJ v7), none, some (aI v9), none, none]) (st1 := [aJ (0 : Int64)]) (σ1 := σ) (P := []) rfl trivial ?_
          cases hm
          exact XW.lret B q (by decide +kernel)
        · rw [if_neg h5] at hm
          refine XW.bn B [(54, .iload 4)] (by decide +kernel) (pc1 := 56) (ls1 := [some (aJ v0), none, some (aJ v2), none, some (aI v4), some (aJ v5), none, some (aJ v7), none, some (aI v9), none, none]) (st1 := [aI v4]) (σ1 := σ) (P := []) (i := .ifCond .ne 10) (tgt := 66) (q := v4 = (0 : Int32)) rfl trivial (by decide +kernel) rfl (by decide) (fun h6 => ?_) (fun h6 => ?_)
          · rw [if_pos h6] at hm
            refine XW.bk B [(59, .lload_n 0), (60, .lload 5), (62, .ldiv), (63, .goto 7)] (by decide +kernel) (pc1 := 70) (ls1 := [some (aJ v0), none, some (aJ v2), none, some (aI v4), some (aJ v5), none, some (aJ v7), none, some (aI v9), none, none]) (st1 := [aJ (v0 / v5)]) (σ1 := σ) (P := [¬ v5 = 0]) rfl ⟨(nz_c h5), trivial⟩ ?_
            cases hm
            exact XW.lret B q (by decide +kernel)
          · rw [if_neg h6] at hm
            refine XW.bk B [(66, .lload_n 2), (67, .lload 5), (69, .ldiv)] (by decide +kernel) (pc1 := 70) (ls1 := [some (aJ v0), none, some (aJ v2), none, some (aI v4), some (aJ v5), none, some (aJ v7), none, some (aI v9), none, none]) (st1 := [aJ (v2 / v5)]) (σ1 := σ) (P := [¬ v5 = 0]) rfl ⟨(nz_c h5), trivial⟩ ?_
            cases hm
            exact XW.lret B q (by decide +kernel)
      · rw [if_neg h4] at hm
        refine XW.bk B [(24, .lload 5), (26, .lload 7), (28, .lrem), (29, .lstore 10), (31, .lload 7), (33, .lstore 5), (35, .lload 10), (37, .lstore 7), (39, .iinc 9 1), (42, .goto (-33))] (by decide +kernel) (pc1 := 9) (ls1 := [some (aJ v0), none, some (aJ v2), none, some (aI v4), some (aJ v7), none, some (aJ (v5 - (v5 / v7) * v7)), none, some (aI (v9 + (1 : Int32))), some (aJ (v5 - (v5 / v7) * v7)), none]) (st1 := []) (σ1 := σ) (P := [¬ v7 = 0]) rfl ⟨(nz_c h4), trivial⟩ ?_
        refine XW.loc [true, false, true, false, true, true, false, true, false, true, false, false] rfl ?_
        exact ih v0 v2 v4 v7 (v5 - (v5 / v7) * v7) (v9 + (1 : Int32)) σ rfl hm
set_option maxRecDepth 100000 in
set_option maxHeartbeats 4000000 in
theorem c_X0_partOf (x1 : Int64) (x2 : Int64) (x3 : Int32) (σ : SS) {r : Int64} (hm : m_X0_partOf x1 x2 x3 σ = some r) : XM LC 1 M_X0_partOf [aJ x1, aJ x2, aI x3] σ (some (aJ r)) σ := by
  refine XM.of (K := K0) (by decide) (by decide +kernel) K0_ok (Nat.le_of_ble_eq_true rfl) (fun Γ B q => ?_)
  unfold m_X0_partOf at hm
  refine XW.bk B [(0, .lload_n 0), (1, .lstore 5), (3, .lload_n 2), (4, .lstore 7), (6, .iconst 0), (7, .istore 9)] (by decide +kernel) (pc1 := 9) (ls1 := [some (aJ x1), none, some (aJ x2), none, some (aI x3), some (aJ x1), none, some (aJ x2), none, some (aI (0 : Int32)), none, none]) (st1 := []) (σ1 := σ) (P := []) rfl trivial ?_
  exact lp_X0_partOf_9 B q FU x1 x2 x3 x1 x2 (0 : Int32) σ rfl hm
