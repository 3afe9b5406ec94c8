def L_X9_passes_2 (j : Nat) : Nat → Int32 → SS → Option (Int32)
  | 0, _, _ => none
  | n + 1, v2, σ =>
    if (σ.1 1 0 1) ≤ v2 then
      some (1 : Int32)
    else
    if (m_X6_heldAt j v2 σ) ≤ (m_X8_number v2 (6 : Int32) σ) then
      L_X9_passes_2 j n (v2 + (1 : Int32)) σ
    else
    some (0 : Int32)
def m_X9_passes (j : Nat) (σ : SS) : Option (Int32) :=
  L_X9_passes_2 j FU (0 : Int32) σ
set_option maxRecDepth 100000 in
set_option maxHeartbeats 4000000 in
theorem lp_X9_passes_2 (j : Nat) (hj : j < 6) {Γ : XC} {r : Int32} {σ0 : SS} (B : XB Γ cX9_passes RX9 4 K9 LC 3) (q : XQ Γ (some .boolean) (some (aI r)) σ0) : ∀ (n : Nat) (v2 : Int32) (σ : SS), σ = σ0 → L_X9_passes_2 j n v2 σ = some r → XW Γ 2 [some (aR 17 0), some (aR 28 j), some (aI v2)] [] σ := by
  intro n
  induction n with
  | zero => intro v2 σ hσ hm; cases hm
  | succ n ih =>
    intro v2 σ hσ hm
    subst hσ
    rw [L_X9_passes_2] at hm
    refine XW.bb B [(2, .iload_n 2), (3, .aload_n 0), (4, .getfield 18), (7, .getfield 26)] (by decide +kernel) (pc1 := 10) (ls1 := [some (aR 17 0), some (aR 28 j), some (aI v2)]) (st1 := [aI (σ.1 1 0 1), aI v2]) (σ1 := σ) (P := []) (i := .if_icmp .ge 29) (tgt := 39) (q := (σ.1 1 0 1) ≤ v2) rfl trivial (by decide +kernel) rfl (by decide) (fun h1 => ?_) (fun h1 => ?_)
    · rw [if_pos h1] at hm
      refine XW.bk B [(39, .iconst 1)] (by decide +kernel) (pc1 := 40) (ls1 := [some (aR 17 0), some (aR 28 j), some (aI v2)]) (st1 := [aI (1 : Int32)]) (σ1 := σ) (P := []) rfl trivial ?_
      cases hm
      exact XW.zret B q (Or.inr rfl) (by decide +kernel)
    · rw [if_neg h1] at hm
      refine XW.bk B [(13, .aload_n 1), (14, .iload_n 2)] (by decide +kernel) (pc1 := 15) (ls1 := [some (aR 17 0), some (aR 28 j), some (aI v2)]) (st1 := [aI v2, aR 28 j]) (σ1 := σ) (P := []) rfl trivial ?_
      refine XW.callV B (M := M_X6_heldAt) (t := 28) (j := j) (cn := 6) (as := [aI v2]) (c_X6_heldAt j v2 σ hj rfl) (by decide) wV_X6_heldAt wN_X6_heldAt lk_X9_32 rfl rfl rfl hj rfl (Nat.le_of_ble_eq_true rfl) (by decide +kernel) ?_
      refine XW.bk B [(18, .aload_n 0), (19, .getfield 18), (22, .iload_n 2), (23, .bipush 6)] (by decide +kernel) (pc1 := 25) (ls1 := [some (aR 17 0), some (aR 28 j), some (aI v2)]) (st1 := [aI (6 : Int32), aI v2, aR 1 0, aI (m_X6_heldAt j v2 σ)]) (σ1 := σ) (P := []) rfl trivial ?_
      refine XW.callV B (M := M_X8_number) (t := 1) (j := 0) (cn := 1) (as := [aI v2, aI (6 : Int32)]) (c_X8_number v2 (6 : Int32) σ rfl) (by decide) wV_X8_number wN_X8_number lk_X9_38 rfl rfl rfl (by decide) rfl (Nat.le_of_ble_eq_true rfl) (by decide +kernel) ?_
      refine XW.bb B [] (by decide +kernel) (pc1 := 28) (ls1 := [some (aR 17 0), some (aR 28 j), some (aI v2)]) (st1 := [aI (m_X8_number v2 (6 : Int32) σ), aI (m_X6_heldAt j v2 σ)]) (σ1 := σ) (P := []) (i := .if_icmp .le 5) (tgt := 33) (q := (m_X6_heldAt j v2 σ) ≤ (m_X8_number v2 (6 : Int32) σ)) rfl trivial (by decide +kernel) rfl (by decide) (fun h2 => ?_) (fun h2 => ?_)
      · rw [if_pos h2] at hm
        refine XW.bk B [(33, .iinc 2 1), (36, .goto (-34))] (by decide +kernel) (pc1 := 2) (ls1 := [some (aR 17 0), some (aR 28 j), some (aI (v2 + (1 : Int32)))]) (st1 := []) (σ1 := σ) (P := []) rfl trivial ?_
        exact ih (v2 + (1 : Int32)) σ rfl hm
      · rw [if_neg h2] at hm
        refine XW.bk B [(31, .iconst 0)] (by decide +kernel) (pc1 := 32) (ls1 := [some (aR 17 0), some (aR 28 j), some (aI v2)]) (st1 := [aI (0 : Int32)]) (σ1 := σ) (P := []) rfl trivial ?_
        cases hm
        exact XW.zret B q (Or.inl rfl) (by decide +kernel)
set_option maxRecDepth 100000 in
set_option maxHeartbeats 4000000 in
theorem c_X9_passes (j : Nat) (σ : SS) (hj : j < 6) {r : Int32} (hm : m_X9_passes j σ = some r) : XM LC 4 M_X9_passes [aR 17 0, aR 28 j] σ (some (aI r)) σ := by
  refine XM.of (K := K9) (by decide) (by decide +kernel) K9_ok (Nat.le_of_ble_eq_true rfl) (fun Γ B q => ?_)
  unfold m_X9_passes at hm
  refine XW.bk B [(0, .iconst 0), (1, .istore_n 2)] (by decide +kernel) (pc1 := 2) (ls1 := [some (aR 17 0), some (aR 28 j), some (aI (0 : Int32))]) (st1 := []) (σ1 := σ) (P := []) rfl trivial ?_
  exact lp_X9_passes_2 j hj B q FU (0 : Int32) σ rfl hm

def L_X9_follow_19 (j : Nat) : Nat → Int32 → Int32 → Int32 → Int32 → Int32 → SS → Option (SS)
  | 0, _, _, _, _, _, _ => none
  | n + 1, v2, v3, v4, v5, v6, σ =>
    if (σ.1 1 0 1) ≤ v6 then
      some (sI σ 17 0 5 v4)
    else
    Option.bind (m_X7_inMinute v6 (m_X6_heldAt j v6 σ) ((v3 + v6) - v2) σ) (fun q2 =>
    if (m_X6_heldAt j v6 σ) = v5 then
      if (q2.2.1 17 0 4) = (-2 : Int32) then
        if (m_X7_isTooMuch (v4 + (q2.1 + (0 : Int32))) q2.2) = (0 : Int32) then
          L_X9_follow_19 j n v2 v3 (v4 + (q2.1 + (0 : Int32))) (m_X6_heldAt j v6 σ) (v6 + (1 : Int32)) q2.2
        else
        L_X9_follow_19 j n v2 v3 (v4 + (q2.1 + (0 : Int32))) (m_X6_heldAt j v6 σ) (v6 + (1 : Int32)) (sI q2.2 17 0 4 v6)
      else
      L_X9_follow_19 j n v2 v3 (v4 + (q2.1 + (0 : Int32))) (m_X6_heldAt j v6 σ) (v6 + (1 : Int32)) q2.2
    else
    if (q2.2.1 17 0 4) = (-2 : Int32) then
      if (m_X7_isTooMuch (v4 + (q2.1 + (1 : Int32))) q2.2) = (0 : Int32) then
        L_X9_follow_19 j n v2 v3 (v4 + (q2.1 + (1 : Int32))) (m_X6_heldAt j v6 σ) (v6 + (1 : Int32)) q2.2
      else
      L_X9_follow_19 j n v2 v3 (v4 + (q2.1 + (1 : Int32))) (m_X6_heldAt j v6 σ) (v6 + (1 : Int32)) (sI q2.2 17 0 4 v6)
    else
    L_X9_follow_19 j n v2 v3 (v4 + (q2.1 + (1 : Int32))) (m_X6_heldAt j v6 σ) (v6 + (1 : Int32)) q2.2)
def m_X9_follow (j : Nat) (x2 : Int32) (x3 : Int32) (σ : SS) : Option (SS) :=
  L_X9_follow_19 j FU x2 x3 (0 : Int32) (m_X6_heldAt j x2 σ) x2 (sI σ 17 0 4 (-2 : Int32))
set_option maxRecDepth 100000 in
set_option maxHeartbeats 4000000 in
theorem lp_X9_follow_19 (j : Nat) (hj : j < 6) {Γ : XC} {σ' : SS} (B : XB Γ cX9_follow RX9 5 K9 LC 8) (q : XQ Γ (none) none σ') : ∀ (n : Nat) (v2 : Int32) (v3 : Int32) (v4 : Int32) (v5 : Int32) (v6 : Int32) (σ : SS), L_X9_follow_19 j n v2 v3 v4 v5 v6 σ = some σ' → XW Γ 19 [some (aR 17 0), some (aR 28 j), some (aI v2), some (aI v3), some (aI v4), some (aI v5), some (aI v6), none] [] σ := by
  intro n
  induction n with
  | zero => intro v2 v3 v4 v5 v6 σ hm; cases hm
  | succ n ih =>
    intro v2 v3 v4 v5 v6 σ hm
    rw [L_X9_follow_19] at hm
    refine XW.bb B [(19, .iload 6), (21, .aload_n 0), (22, .getfield 18), (25, .getfield 26)] (by decide +kernel) (pc1 := 28) (ls1 := [some (aR 17 0), some (aR 28 j), some (aI v2), some (aI v3), some (aI v4), some (aI v5), some (aI v6), none]) (st1 := [aI (σ.1 1 0 1), aI v6]) (σ1 := σ) (P := []) (i := .if_icmp .ge 83) (tgt := 111) (q := (σ.1 1 0 1) ≤ v6) rfl trivial (by decide +kernel) rfl (by decide) (fun h1 => ?_) (fun h1 => ?_)
    · rw [if_pos h1] at hm
      refine XW.bk B [(111, .aload_n 0), (112, .iload 4), (114, .putfield 55)] (by decide +kernel) (pc1 := 117) (ls1 := [some (aR 17 0), some (aR 28 j), some (aI v2), some (aI v3), some (aI v4), some (aI v5), some (aI v6), none]) (st1 := []) (σ1 := (sI σ 17 0 5 v4)) (P := []) rfl trivial ?_
      cases hm
      exact XW.vret B q (by decide +kernel)
    · rw [if_neg h1] at hm
      refine XW.bk B [(31, .aload_n 1), (32, .iload 6)] (by decide +kernel) (pc1 := 34) (ls1 := [some (aR 17 0), some (aR 28 j), some (aI v2), some (aI v3), some (aI v4), some (aI v5), some (aI v6), none]) (st1 := [aI v6, aR 28 j]) (σ1 := σ) (P := []) rfl trivial ?_
      refine XW.callV B (M := M_X6_heldAt) (t := 28) (j := j) (cn := 6) (as := [aI v6]) (c_X6_heldAt j v6 σ hj rfl) (by decide) wV_X6_heldAt wN_X6_heldAt lk_X9_32 rfl rfl rfl hj rfl (Nat.le_of_ble_eq_true rfl) (by decide +kernel) ?_
      refine XW.bk B [(37, .istore 7), (39, .iload 4), (41, .aload_n 0), (42, .getfield 22), (45, .iload 6), (47, .iload 7), (49, .iload_n 3), (50, .iload 6), (52, .iadd), (53, .iload_n 2), (54, .isub)] (by decide +kernel) (pc1 := 55) (ls1 := [some (aR 17 0), some (aR 28 j), some (aI v2), some (aI v3), some (aI v4), some (aI v5), some (aI v6), some (aI (m_X6_heldAt j v6 σ))]) (st1 := [aI ((v3 + v6) - v2), aI (m_X6_heldAt j v6 σ), aI v6, aR 14 0, aI v4]) (σ1 := σ) (P := []) rfl trivial ?_
      obtain ⟨q2, hq2, hm⟩ := obind_eq hm
      refine XW.callV B (M := M_X7_inMinute) (t := 14) (j := 0) (cn := 1) (as := [aI v6, aI (m_X6_heldAt j v6 σ), aI ((v3 + v6) - v2)]) (c_X7_inMinute v6 (m_X6_heldAt j v6 σ) ((v3 + v6) - v2) σ hq2) (by decide) wV_X7_inMinute wN_X7_inMinute lk_X9_45 rfl rfl rfl (by decide) rfl (Nat.le_of_ble_eq_true rfl) (by decide +kernel) ?_
      refine XW.bn B [(58, .iload 7), (60, .iload 5)] (by decide +kernel) (pc1 := 62) (ls1 := [some (aR 17 0), some (aR 28 j), some (aI v2), some (aI v3), some (aI v4), some (aI v5), some (aI v6), some (aI (m_X6_heldAt j v6 σ))]) (st1 := [aI v5, aI (m_X6_heldAt j v6 σ), aI q2.1, aI v4]) (σ1 := q2.2) (P := []) (i := .if_icmp .ne 7) (tgt := 69) (q := (m_X6_heldAt j v6 σ) = v5) rfl trivial (by decide +kernel) rfl (by decide) (fun h3 => ?_) (fun h3 => ?_)
      · rw [if_pos h3] at hm
        refine XW.bn B [(65, .iconst 0), (66, .goto 4), (70, .iadd), (71, .iadd), (72, .istore 4), (74, .aload_n 0), (75, .getfield 42), (78, .bipush (-2))] (by decide +kernel) (pc1 := 80) (ls1 := [some (aR 17 0), some (aR 28 j), some (aI v2), some (aI v3), some (aI (v4 + (q2.1 + (0 : Int32)))), some (aI v5), some (aI v6), some (aI (m_X6_heldAt j v6 σ))]) (st1 := [aI (-2 : Int32), aI (q2.2.1 17 0 4)]) (σ1 := q2.2) (P := []) (i := .if_icmp .ne 21) (tgt := 101) (q := (q2.2.1 17 0 4) = (-2 : Int32)) rfl trivial (by decide +kernel) rfl (by decide) (fun h4 => ?_) (fun h4 => ?_)
        · rw [if_pos h4] at hm
          refine XW.bk B [(83, .aload_n 0), (84, .getfield 22), (87, .iload 4)] (by decide +kernel) (pc1 := 89) (ls1 := [some (aR 17 0), some (aR 28 j), some (aI v2), some (aI v3), some (aI (v4 + (q2.1 + (0 : Int32)))), some (aI v5), some (aI v6), some (aI (m_X6_heldAt j v6 σ))]) (st1 := [aI (v4 + (q2.1 + (0 : Int32))), aR 14 0]) (σ1 := q2.2) (P := []) rfl trivial ?_
          refine XW.callV B (M := M_X7_isTooMuch) (t := 14) (j := 0) (cn := 1) (as := [aI (v4 + (q2.1 + (0 : Int32)))]) (c_X7_isTooMuch (v4 + (q2.1 + (0 : Int32))) q2.2 rfl) (by decide) wV_X7_isTooMuch wN_X7_isTooMuch lk_X9_51 rfl rfl rfl (by decide) rfl (Nat.le_of_ble_eq_true rfl) (by decide +kernel) ?_
          refine XW.bb B [] (by decide +kernel) (pc1 := 92) (ls1 := [some (aR 17 0), some (aR 28 j), some (aI v2), some (aI v3), some (aI (v4 + (q2.1 + (0 : Int32)))), some (aI v5), some (aI v6), some (aI (m_X6_heldAt j v6 σ))]) (st1 := [aI (m_X7_isTooMuch (v4 + (q2.1 + (0 : Int32))) q2.2)]) (σ1 := q2.2) (P := []) (i := .ifCond .eq 9) (tgt := 101) (q := (m_X7_isTooMuch (v4 + (q2.1 + (0 : Int32))) q2.2) = (0 : Int32)) rfl trivial (by decide +kernel) rfl (by decide) (fun h5 => ?_) (fun h5 => ?_)
          · rw [if_pos h5] at hm
            refine XW.bk B [(101, .iload 7), (103, .istore 5), (105, .iinc 6 1), (108, .goto (-89))] (by decide +kernel) (pc1 := 19) (ls1 := [some (aR 17 0), some (aR 28 j), some (aI v2), some (aI v3), some (aI (v4 + (q2.1 + (0 : Int32)))), some (aI (m_X6_heldAt j v6 σ)), some (aI (v6 + (1 : Int32))), some (aI (m_X6_heldAt j v6 σ))]) (st1 := []) (σ1 := q2.2) (P := []) rfl trivial ?_
            refine XW.loc [true, true, true, true, true, true, true, false] rfl ?_
            exact ih v2 v3 (v4 + (q2.1 + (0 : Int32))) (m_X6_heldAt j v6 σ) (v6 + (1 : Int32)) q2.2 hm
          · rw [if_neg h5] at hm
            refine XW.bk B [(95, .aload_n 0), (96, .iload 6), (98, .putfield 42), (101, .iload 7), (103, .istore 5), (105, .iinc 6 1), (108, .goto (-89))] (by decide +kernel) (pc1 := 19) (ls1 := [some (aR 17 0), some (aR 28 j), some (aI v2), some (aI v3), some (aI (v4 + (q2.1 + (0 : Int32)))), some (aI (m_X6_heldAt j v6 σ)), some (aI (v6 + (1 : Int32))), some (aI (m_X6_heldAt j v6 σ))]) (st1 := []) (σ1 := (sI q2.2 17 0 4 v6)) (P := []) rfl trivial ?_
            refine XW.loc [true, true, true, true, true, true, true, false] rfl ?_
            exact ih v2 v3 (v4 + (q2.1 + (0 : Int32))) (m_X6_heldAt j v6 σ) (v6 + (1 : Int32)) (sI q2.2 17 0 4 v6) hm
        · rw [if_neg h4] at hm
          refine XW.bk B [(101, .iload 7), (103, .istore 5), (105, .iinc 6 1), (108, .goto (-89))] (by decide +kernel) (pc1 := 19) (ls1 := [some (aR 17 0), some (aR 28 j), some (aI v2), some (aI v3), some (aI (v4 + (q2.1 + (0 : Int32)))), some (aI (m_X6_heldAt j v6 σ)), some (aI (v6 + (1 : Int32))), some (aI (m_X6_heldAt j v6 σ))]) (st1 := []) (σ1 := q2.2) (P := []) rfl trivial ?_
          refine XW.loc [true, true, true, true, true, true, true, false] rfl ?_
          exact ih v2 v3 (v4 + (q2.1 + (0 : Int32))) (m_X6_heldAt j v6 σ) (v6 + (1 : Int32)) q2.2 hm
      · rw [if_neg h3] at hm
        refine XW.bn B [(69, .iconst 1), (70, .iadd), (71, .iadd), (72, .istore 4), (74, .aload_n 0), (75, .getfield 42), (78, .bipush (-2))] (by decide +kernel) (pc1 := 80) (ls1 := [some (aR 17 0), some (aR 28 j), some (aI v2), some (aI v3), some (aI (v4 + (q2.1 + (1 : Int32)))), some (aI v5), some (aI v6), some (aI (m_X6_heldAt j v6 σ))]) (st1 := [aI (-2 : Int32), aI (q2.2.1 17 0 4)]) (σ1 := q2.2) (P := []) (i := .if_icmp .ne 21) (tgt := 101) (q := (q2.2.1 17 0 4) = (-2 : Int32)) rfl trivial (by decide +kernel) rfl (by decide) (fun h6 => ?_) (fun h6 => ?_)
        · rw [if_pos h6] at hm
          refine XW.bk B [(83, .aload_n 0), (84, .getfield 22), (87, .iload 4)] (by decide +kernel) (pc1 := 89) (ls1 := [some (aR 17 0), some (aR 28 j), some (aI v2), some (aI v3), some (aI (v4 + (q2.1 + (1 : Int32)))), some (aI v5), some (aI v6), some (aI (m_X6_heldAt j v6 σ))]) (st1 := [aI (v4 + (q2.1 + (1 : Int32))), aR 14 0]) (σ1 := q2.2) (P := []) rfl trivial ?_
          refine XW.callV B (M := M_X7_isTooMuch) (t := 14) (j := 0) (cn := 1) (as := [aI (v4 + (q2.1 + (1 : Int32)))]) (c_X7_isTooMuch (v4 + (q2.1 + (1 : Int32))) q2.2 rfl) (by decide) wV_X7_isTooMuch wN_X7_isTooMuch lk_X9_51 rfl rfl rfl (by decide) rfl (Nat.le_of_ble_eq_true rfl) (by decide +kernel) ?_
          refine XW.bb B [] (by decide +kernel) (pc1 := 92) (ls1 := [some (aR 17 0), some (aR 28 j), some (aI v2), some (aI v3), some (aI (v4 + (q2.1 + (1 : Int32)))), some (aI v5), some (aI v6), some (aI (m_X6_heldAt j v6 σ))]) (st1 := [aI (m_X7_isTooMuch (v4 + (q2.1 + (1 : Int32))) q2.2)]) (σ1 := q2.2) (P := []) (i := .ifCond .eq 9) (tgt := 101) (q := (m_X7_isTooMuch (v4 + (q2.1 + (1 : Int32))) q2.2) = (0 : Int32)) rfl trivial (by decide +kernel) rfl (by decide) (fun h7 => ?_) (fun h7 => ?_)
          · rw [if_pos h7] at hm
            refine XW.bk B [(101, .iload 7), (103, .istore 5), (105, .iinc 6 1), (108, .goto (-89))] (by decide +kernel) (pc1 := 19) (ls1 := [some (aR 17 0), some (aR 28 j), some (aI v2), some (aI v3), some (aI (v4 + (q2.1 + (1 : Int32)))), some (aI (m_X6_heldAt j v6 σ)), some (aI (v6 + (1 : Int32))), some (aI (m_X6_heldAt j v6 σ))]) (st1 := []) (σ1 := q2.2) (P := []) rfl trivial ?_
            refine XW.loc [true, true, true, true, true, true, true, false] rfl ?_
            exact ih v2 v3 (v4 + (q2.1 + (1 : Int32))) (m_X6_heldAt j v6 σ) (v6 + (1 : Int32)) q2.2 hm
          · rw [if_neg h7] at hm
            refine XW.bk B [(95, .aload_n 0), (96, .iload 6), (98, .putfield 42), (101, .iload 7), (103, .istore 5), (105, .iinc 6 1), (108, .goto (-89))] (by decide +kernel) (pc1 := 19) (ls1 := [some (aR 17 0), some (aR 28 j), some (aI v2), some (aI v3), some (aI (v4 + (q2.1 + (1 : Int32)))), some (aI (m_X6_heldAt j v6 σ)), some (aI (v6 + (1 : Int32))), some (aI (m_X6_heldAt j v6 σ))]) (st1 := []) (σ1 := (sI q2.2 17 0 4 v6)) (P := []) rfl trivial ?_
            refine XW.loc [true, true, true, true, true, true, true, false] rfl ?_
            exact ih v2 v3 (v4 + (q2.1 + (1 : Int32))) (m_X6_heldAt j v6 σ) (v6 + (1 : Int32)) (sI q2.2 17 0 4 v6) hm
        · rw [if_neg h6] at hm
          refine XW.bk B [(101, .iload 7), (103, .istore 5), (105, .iinc 6 1), (108, .goto (-89))] (by decide +kernel) (pc1 := 19) (ls1 := [some (aR 17 0), some (aR 28 j), some (aI v2), some (aI v3), some (aI (v4 + (q2.1 + (1 : Int32)))), some (aI (m_X6_heldAt j v6 σ)), some (aI (v6 + (1 : Int32))), some (aI (m_X6_heldAt j v6 σ))]) (st1 := []) (σ1 := q2.2) (P := []) rfl trivial ?_
          refine XW.loc [true, true, true, true, true, true, true, false] rfl ?_
          exact ih v2 v3 (v4 + (q2.1 + (1 : Int32))) (m_X6_heldAt j v6 σ) (v6 + (1 : Int32)) q2.2 hm
set_option maxRecDepth 100000 in
set_option maxHeartbeats 4000000 in
theorem c_X9_follow (j : Nat) (x2 : Int32) (x3 : Int32) (σ : SS) (hj : j < 6) {σ' : SS} (hm : m_X9_follow j x2 x3 σ = some σ') : XM LC 5 M_X9_follow [aR 17 0, aR 28 j, aI x2, aI x3] σ none σ' := by
  refine XM.of (K := K9) (by decide) (by decide +kernel) K9_ok (Nat.le_of_ble_eq_true rfl) (fun Γ B q => ?_)
  unfold m_X9_follow at hm
  refine XW.bk B [(0, .iconst 0), (1, .istore 4), (3, .aload_n 1), (4, .iload_n 2)] (by decide +kernel) (pc1 := 5) (ls1 := [some (aR 17 0), some (aR 28 j), some (aI x2), some (aI x3), some (aI (0 : Int32)), none, none, none]) (st1 := [aI x2, aR 28 j]) (σ1 := σ) (P := []) rfl trivial ?_
  refine XW.callV B (M := M_X6_heldAt) (t := 28) (j := j) (cn := 6) (as := [aI x2]) (c_X6_heldAt j x2 σ hj rfl) (by decide) wV_X6_heldAt wN_X6_heldAt lk_X9_32 rfl rfl rfl hj rfl (Nat.le_of_ble_eq_true rfl) (by decide +kernel) ?_
  refine XW.bk B [(8, .istore 5), (10, .aload_n 0), (11, .bipush (-2)), (13, .putfield 42), (16, .iload_n 2), (17, .istore 6)] (by decide +kernel) (pc1 := 19) (ls1 := [some (aR 17 0), some (aR 28 j), some (aI x2), some (aI x3), some (aI (0 : Int32)), some (aI (m_X6_heldAt j x2 σ)), some (aI x2), none]) (st1 := []) (σ1 := (sI σ 17 0 4 (-2 : Int32))) (P := []) rfl trivial ?_
  exact lp_X9_follow_19 j hj B q FU x2 x3 (0 : Int32) (m_X6_heldAt j x2 σ) x2 (sI σ 17 0 4 (-2 : Int32)) hm

def L_X9_bestStart_14 (j : Nat) : Nat → Int32 → Int32 → Int32 → SS → Option (Int32 × SS)
  | 0, _, _, _, _ => none
  | n + 1, v2, v3, v4, σ =>
    if (60 : Int32) ≤ v4 then
      some (v2, (sI σ 17 0 5 v3))
    else
    Option.bind (m_X9_follow j (0 : Int32) v4 σ) (fun q3 =>
    if v4 = (0 : Int32) then
      L_X9_bestStart_14 j n v4 (q3.1 17 0 5) (v4 + (1 : Int32)) q3
    else
    if v3 ≤ (q3.1 17 0 5) then
      L_X9_bestStart_14 j n v2 v3 (v4 + (1 : Int32)) q3
    else
    L_X9_bestStart_14 j n v4 (q3.1 17 0 5) (v4 + (1 : Int32)) q3)
def m_X9_bestStart (j : Nat) (σ : SS) : Option (Int32 × SS) :=
  bnT (m_X7_supposeNow σ) (fun q1 =>
  L_X9_bestStart_14 j FU (0 : Int32) (0 : Int32) (0 : Int32) q1)
set_option maxRecDepth 100000 in
set_option maxHeartbeats 4000000 in
theorem lp_X9_bestStart_14 (j : Nat) (hj : j < 6) {Γ : XC} {r : Int32} {σ' : SS} (B : XB Γ cX9_bestStart RX9 6 K9 LC 5) (q : XQ Γ (some .int) (some (aI r)) σ') : ∀ (n : Nat) (v2 : Int32) (v3 : Int32) (v4 : Int32) (σ : SS), L_X9_bestStart_14 j n v2 v3 v4 σ = some (r, σ') → XW Γ 14 [some (aR 17 0), some (aR 28 j), some (aI v2), some (aI v3), some (aI v4)] [] σ := by
  intro n
  induction n with
  | zero => intro v2 v3 v4 σ hm; cases hm
  | succ n ih =>
    intro v2 v3 v4 σ hm
    rw [L_X9_bestStart_14] at hm
    refine XW.bb B [(14, .iload 4), (16, .bipush 60)] (by decide +kernel) (pc1 := 18) (ls1 := [some (aR 17 0), some (aR 28 j), some (aI v2), some (aI v3), some (aI v4)]) (st1 := [aI (60 : Int32), aI v4]) (σ1 := σ) (P := []) (i := .if_icmp .ge 38) (tgt := 56) (q := (60 : Int32) ≤ v4) rfl trivial (by decide +kernel) rfl (by decide) (fun h2 => ?_) (fun h2 => ?_)
    · rw [if_pos h2] at hm
      refine XW.bk B [(56, .aload_n 0), (57, .iload_n 3), (58, .putfield 55), (61, .iload_n 2)] (by decide +kernel) (pc1 := 62) (ls1 := [some (aR 17 0), some (aR 28 j), some (aI v2), some (aI v3), some (aI v4)]) (st1 := [aI v2]) (σ1 := (sI σ 17 0 5 v3)) (P := []) rfl trivial ?_
      cases hm
      exact XW.iret B q (by decide +kernel)
    · rw [if_neg h2] at hm
      refine XW.bk B [(21, .aload_n 0), (22, .aload_n 1), (23, .iconst 0), (24, .iload 4)] (by decide +kernel) (pc1 := 26) (ls1 := [some (aR 17 0), some (aR 28 j), some (aI v2), some (aI v3), some (aI v4)]) (st1 := [aI v4, aI (0 : Int32), aR 28 j, aR 17 0]) (σ1 := σ) (P := []) rfl trivial ?_
      obtain ⟨q3, hq3, hm⟩ := obind_eq hm
      refine XW.callV B (M := M_X9_follow) (t := 17) (j := 0) (cn := 1) (as := [aR 28 j, aI (0 : Int32), aI v4]) (c_X9_follow j (0 : Int32) v4 σ hj hq3) (by decide) wV_X9_follow wN_X9_follow lk_X9_61 rfl rfl rfl (by decide) rfl (Nat.le_of_ble_eq_true rfl) (by decide +kernel) ?_
      refine XW.bb B [(29, .iload 4)] (by decide +kernel) (pc1 := 31) (ls1 := [some (aR 17 0), some (aR 28 j), some (aI v2), some (aI v3), some (aI v4)]) (st1 := [aI v4]) (σ1 := q3) (P := []) (i := .ifCond .eq 11) (tgt := 42) (q := v4 = (0 : Int32)) rfl trivial (by decide +kernel) rfl (by decide) (fun h4 => ?_) (fun h4 => ?_)
      · rw [if_pos h4] at hm
        refine XW.bk B [(42, .iload 4), (44, .istore_n 2), (45, .aload_n 0), (46, .getfield 55), (49, .istore_n 3), (50, .iinc 4 1), (53, .goto (-39))] (by decide +kernel) (pc1 := 14) (ls1 := [some (aR 17 0), some (aR 28 j), some (aI v4), some (aI (q3.1 17 0 5)), some (aI (v4 + (1 : Int32)))]) (st1 := []) (σ1 := q3) (P := []) rfl trivial ?_
        exact ih v4 (q3.1 17 0 5) (v4 + (1 : Int32)) q3 hm
      · rw [if_neg h4] at hm
        refine XW.bb B [(34, .aload_n 0), (35, .getfield 55), (38, .iload_n 3)] (by decide +kernel) (pc1 := 39) (ls1 := [some (aR 17 0), some (aR 28 j), some (aI v2), some (aI v3), some (aI v4)]) (st1 := [aI v3, aI (q3.1 17 0 5)]) (σ1 := q3) (P := []) (i := .if_icmp .ge 11) (tgt := 50) (q := v3 ≤ (q3.1 17 0 5)) rfl trivial (by decide +kernel) rfl (by decide) (fun h5 => ?_) (fun h5 => ?_)
        · rw [if_pos h5] at hm
          refine XW.bk B [(50, .iinc 4 1), (53, .goto (-39))] (by decide +kernel) (pc1 := 14) (ls1 := [some (aR 17 0), some (aR 28 j), some (aI v2), some (aI v3), some (aI (v4 + (1 : Int32)))]) (st1 := []) (σ1 := q3) (P := []) rfl trivial ?_
          exact ih v2 v3 (v4 + (1 : Int32)) q3 hm
        · rw [if_neg h5] at hm
          refine XW.bk B [(42, .iload 4), (44, .istore_n 2), (45, .aload_n 0), (46, .getfield 55), (49, .istore_n 3), (50, .iinc 4 1), (53, .goto (-39))] (by decide +kernel) (pc1 := 14) (ls1 := [some (aR 17 0), some (aR 28 j), some (aI v4), some (aI (q3.1 17 0 5)), some (aI (v4 + (1 : Int32)))]) (st1 := []) (σ1 := q3) (P := []) rfl trivial ?_
          exact ih v4 (q3.1 17 0 5) (v4 + (1 : Int32)) q3 hm
set_option maxRecDepth 100000 in
set_option maxHeartbeats 4000000 in
theorem c_X9_bestStart (j : Nat) (σ : SS) (hj : j < 6) {r : Int32} {σ' : SS} (hm : m_X9_bestStart j σ = some (r, σ')) : XM LC 6 M_X9_bestStart [aR 17 0, aR 28 j] σ (some (aI r)) σ' := by
  refine XM.of (K := K9) (by decide) (by decide +kernel) K9_ok (Nat.le_of_ble_eq_true rfl) (fun Γ B q => ?_)
  unfold m_X9_bestStart at hm
  refine XW.bk B [(0, .iconst 0), (1, .istore_n 2), (2, .iconst 0), (3, .istore_n 3), (4, .aload_n 0), (5, .getfield 22)] (by decide +kernel) (pc1 := 8) (ls1 := [some (aR 17 0), some (aR 28 j), some (aI (0 : Int32)), some (aI (0 : Int32)), none]) (st1 := [aR 14 0]) (σ1 := σ) (P := []) rfl trivial ?_
  obtain ⟨q1, hq1, hm⟩ := bnT_eq hm
  refine XW.callV B (M := M_X7_supposeNow) (t := 14) (j := 0) (cn := 1) (as := []) (c_X7_supposeNow σ hq1) (by decide) wV_X7_supposeNow wN_X7_supposeNow lk_X9_58 rfl rfl rfl (by decide) rfl (Nat.le_of_ble_eq_true rfl) (by decide +kernel) ?_
  refine XW.bk B [(11, .iconst 0), (12, .istore 4)] (by decide +kernel) (pc1 := 14) (ls1 := [some (aR 17 0), some (aR 28 j), some (aI (0 : Int32)), some (aI (0 : Int32)), some (aI (0 : Int32))]) (st1 := []) (σ1 := q1) (P := []) rfl trivial ?_
  exact lp_X9_bestStart_14 j hj B q FU (0 : Int32) (0 : Int32) (0 : Int32) q1 hm

def L_X9_fewestMen_2 (j : Nat) : Nat → Int32 → Int32 → SS → Option (Int32 × SS)
  | 0, _, _, _ => none
  | n + 1, v2, v3, σ =>
    if (6 : Int32) < v3 then
      some ((-2 : Int32), σ)
    else
    bnT (m_X7_suppose v3 (m_X8_number (0 : Int32) (9 : Int32) σ) (0 : Int32) σ) (fun q2 =>
    Option.bind (m_X9_follow j (0 : Int32) v2 q2) (fun q3 =>
    if (q3.1 17 0 4) = (-2 : Int32) then
      some (v3, q3)
    else
    L_X9_fewestMen_2 j n v2 (v3 + (1 : Int32)) q3))
def m_X9_fewestMen (j : Nat) (x2 : Int32) (σ : SS) : Option (Int32 × SS) :=
  L_X9_fewestMen_2 j FU x2 (1 : Int32) σ
set_option maxRecDepth 100000 in
set_option maxHeartbeats 4000000 in
theorem lp_X9_fewestMen_2 (j : Nat) (hj : j < 6) {Γ : XC} {r : Int32} {σ' : SS} (B : XB Γ cX9_fewestMen RX9 6 K9 LC 4) (q : XQ Γ (some .int) (some (aI r)) σ') : ∀ (n : Nat) (v2 : Int32) (v3 : Int32) (σ : SS), L_X9_fewestMen_2 j n v2 v3 σ = some (r, σ') → XW Γ 2 [some (aR 17 0), some (aR 28 j), some (aI v2), some (aI v3)] [] σ := by
  intro n
  induction n with
  | zero => intro v2 v3 σ hm; cases hm
  | succ n ih =>
    intro v2 v3 σ hm
    rw [L_X9_fewestMen_2] at hm
    refine XW.bb B [(2, .iload_n 3), (3, .bipush 6)] (by decide +kernel) (pc1 := 5) (ls1 := [some (aR 17 0), some (aR 28 j), some (aI v2), some (aI v3)]) (st1 := [aI (6 : Int32), aI v3]) (σ1 := σ) (P := []) (i := .if_icmp .gt 46) (tgt := 51) (q := (6 : Int32) < v3) rfl trivial (by decide +kernel) rfl (by decide) (fun h1 => ?_) (fun h1 => ?_)
    · rw [if_pos h1] at hm
      refine XW.bk B [(51, .bipush (-2))] (by decide +kernel) (pc1 := 53) (ls1 := [some (aR 17 0), some (aR 28 j), some (aI v2), some (aI v3)]) (st1 := [aI (-2 : Int32)]) (σ1 := σ) (P := []) rfl trivial ?_
      cases hm
      exact XW.iret B q (by decide +kernel)
    · rw [if_neg h1] at hm
      refine XW.bk B [(8, .aload_n 0), (9, .getfield 22), (12, .iload_n 3), (13, .aload_n 0), (14, .getfield 18), (17, .iconst 0), (18, .bipush 9)] (by decide +kernel) (pc1 := 20) (ls1 := [some (aR 17 0), some (aR 28 j), some (aI v2), some (aI v3)]) (st1 := [aI (9 : Int32), aI (0 : Int32), aR 1 0, aI v3, aR 14 0]) (σ1 := σ) (P := []) rfl trivial ?_
      refine XW.callV B (M := M_X8_number) (t := 1) (j := 0) (cn := 1) (as := [aI (0 : Int32), aI (9 : Int32)]) (c_X8_number (0 : Int32) (9 : Int32) σ rfl) (by decide) wV_X8_number wN_X8_number lk_X9_38 rfl rfl rfl (by decide) rfl (Nat.le_of_ble_eq_true rfl) (by decide +kernel) ?_
      refine XW.bk B [(23, .iconst 0)] (by decide +kernel) (pc1 := 24) (ls1 := [some (aR 17 0), some (aR 28 j), some (aI v2), some (aI v3)]) (st1 := [aI (0 : Int32), aI (m_X8_number (0 : Int32) (9 : Int32) σ), aI v3, aR 14 0]) (σ1 := σ) (P := []) rfl trivial ?_
      obtain ⟨q2, hq2, hm⟩ := bnT_eq hm
      refine XW.callV B (M := M_X7_suppose) (t := 14) (j := 0) (cn := 1) (as := [aI v3, aI (m_X8_number (0 : Int32) (9 : Int32) σ), aI (0 : Int32)]) (c_X7_suppose v3 (m_X8_number (0 : Int32) (9 : Int32) σ) (0 : Int32) σ hq2) (by decide) wV_X7_suppose wN_X7_suppose lk_X9_65 rfl rfl rfl (by decide) rfl (Nat.le_of_ble_eq_true rfl) (by decide +kernel) ?_
      refine XW.bk B [(27, .aload_n 0), (28, .aload_n 1), (29, .iconst 0), (30, .iload_n 2)] (by decide +kernel) (pc1 := 31) (ls1 := [some (aR 17 0), some (aR 28 j), some (aI v2), some (aI v3)]) (st1 := [aI v2, aI (0 : Int32), aR 28 j, aR 17 0]) (σ1 := q2) (P := []) rfl trivial ?_
      obtain ⟨q3, hq3, hm⟩ := obind_eq hm
      refine XW.callV B (M := M_X9_follow) (t := 17) (j := 0) (cn := 1) (as := [aR 28 j, aI (0 : Int32), aI v2]) (c_X9_follow j (0 : Int32) v2 q2 hj hq3) (by decide) wV_X9_follow wN_X9_follow lk_X9_61 rfl rfl rfl (by decide) rfl (Nat.le_of_ble_eq_true rfl) (by decide +kernel) ?_
      refine XW.bn B [(34, .aload_n 0), (35, .getfield 42), (38, .bipush (-2))] (by decide +kernel) (pc1 := 40) (ls1 := [some (aR 17 0), some (aR 28 j), some (aI v2), some (aI v3)]) (st1 := [aI (-2 : Int32), aI (q3.1 17 0 4)]) (σ1 := q3) (P := []) (i := .if_icmp .ne 5) (tgt := 45) (q := (q3.1 17 0 4) = (-2 : Int32)) rfl trivial (by decide +kernel) rfl (by decide) (fun h4 => ?_) (fun h4 => ?_)
      · rw [if_pos h4] at hm
        refine XW.bk B [(43, .iload_n 3)] (by decide +kernel) (pc1 := 44) (ls1 := [some (aR 17 0), some (aR 28 j), some (aI v2), some (aI v3)]) (st1 := [aI v3]) (σ1 := q3) (P := []) rfl trivial ?_
        cases hm
        exact XW.iret B q (by decide +kernel)
      · rw [if_neg h4] at hm
        refine XW.bk B [(45, .iinc 3 1), (48, .goto (-46))] (by decide +kernel) (pc1 := 2) (ls1 := [some (aR 17 0), some (aR 28 j), some (aI v2), some (aI (v3 + (1 : Int32)))]) (st1 := []) (σ1 := q3) (P := []) rfl trivial ?_
        exact ih v2 (v3 + (1 : Int32)) q3 hm
set_option maxRecDepth 100000 in
set_option maxHeartbeats 4000000 in
theorem c_X9_fewestMen (j : Nat) (x2 : Int32) (σ : SS) (hj : j < 6) {r : Int32} {σ' : SS} (hm : m_X9_fewestMen j x2 σ = some (r, σ')) : XM LC 6 M_X9_fewestMen [aR 17 0, aR 28 j, aI x2] σ (some (aI r)) σ' := by
  refine XM.of (K := K9) (by decide) (by decide +kernel) K9_ok (Nat.le_of_ble_eq_true rfl) (fun Γ B q => ?_)
  unfold m_X9_fewestMen at hm
  refine XW.bk B [(0, .iconst 1), (1, .istore_n 3)] (by decide +kernel) (pc1 := 2) (ls1 := [some (aR 17 0), some (aR 28 j), some (aI x2), some (aI (1 : Int32))]) (st1 := []) (σ1 := σ) (P := []) rfl trivial ?_
  exact lp_X9_fewestMen_2 j hj B q FU x2 (1 : Int32) σ hm

def L_X9_nearestVan_9 (j : Nat) : Nat → Int32 → Int32 → SS → Option (Int32 × SS)
  | 0, _, _, _ => none
  | n + 1, v2, v3, σ =>
    if (σ.1 1 0 1) ≤ v3 then
      some ((-2 : Int32), σ)
    else
    Option.bind (m_X9_follow j v3 v2 σ) (fun q3 =>
    if (q3.1 17 0 4) = (-2 : Int32) then
      some (v3, q3)
    else
    L_X9_nearestVan_9 j n v2 (v3 + (1 : Int32)) q3)
def m_X9_nearestVan (j : Nat) (x2 : Int32) (σ : SS) : Option (Int32 × SS) :=
  bnT (m_X7_supposeNow σ) (fun q1 =>
  L_X9_nearestVan_9 j FU x2 (0 : Int32) q1)
set_option maxRecDepth 100000 in
set_option maxHeartbeats 4000000 in
theorem lp_X9_nearestVan_9 (j : Nat) (hj : j < 6) {Γ : XC} {r : Int32} {σ' : SS} (B : XB Γ cX9_nearestVan RX9 6 K9 LC 4) (q : XQ Γ (some .int) (some (aI r)) σ') : ∀ (n : Nat) (v2 : Int32) (v3 : Int32) (σ : SS), L_X9_nearestVan_9 j n v2 v3 σ = some (r, σ') → XW Γ 9 [some (aR 17 0), some (aR 28 j), some (aI v2), some (aI v3)] [] σ := by
  intro n
  induction n with
  | zero => intro v2 v3 σ hm; cases hm
  | succ n ih =>
    intro v2 v3 σ hm
    rw [L_X9_nearestVan_9] at hm
    refine XW.bb B [(9, .iload_n 3), (10, .aload_n 0), (11, .getfield 18), (14, .getfield 26)] (by decide +kernel) (pc1 := 17) (ls1 := [some (aR 17 0), some (aR 28 j), some (aI v2), some (aI v3)]) (st1 := [aI (σ.1 1 0 1), aI v3]) (σ1 := σ) (P := []) (i := .if_icmp .ge 27) (tgt := 44) (q := (σ.1 1 0 1) ≤ v3) rfl trivial (by decide +kernel) rfl (by decide) (fun h2 => ?_) (fun h2 => ?_)
    · rw [if_pos h2] at hm
      refine XW.bk B [(44, .bipush (-2))] (by decide +kernel) (pc1 := 46) (ls1 := [some (aR 17 0), some (aR 28 j), some (aI v2), some (aI v3)]) (st1 := [aI (-2 : Int32)]) (σ1 := σ) (P := []) rfl trivial ?_
      cases hm
      exact XW.iret B q (by decide +kernel)
    · rw [if_neg h2] at hm
      refine XW.bk B [(20, .aload_n 0), (21, .aload_n 1), (22, .iload_n 3), (23, .iload_n 2)] (by decide +kernel) (pc1 := 24) (ls1 := [some (aR 17 0), some (aR 28 j), some (aI v2), some (aI v3)]) (st1 := [aI v2, aI v3, aR 28 j, aR 17 0]) (σ1 := σ) (P := []) rfl trivial ?_
      obtain ⟨q3, hq3, hm⟩ := obind_eq hm
      refine XW.callV B (M := M_X9_follow) (t := 17) (j := 0) (cn := 1) (as := [aR 28 j, aI v3, aI v2]) (c_X9_follow j v3 v2 σ hj hq3) (by decide) wV_X9_follow wN_X9_follow lk_X9_61 rfl rfl rfl (by decide) rfl (Nat.le_of_ble_eq_true rfl) (by decide +kernel) ?_
      refine XW.bn B [(27, .aload_n 0), (28, .getfield 42), (31, .bipush (-2))] (by decide +kernel) (pc1 := 33) (ls1 := [some (aR 17 0), some (aR 28 j), some (aI v2), some (aI v3)]) (st1 := [aI (-2 : Int32), aI (q3.1 17 0 4)]) (σ1 := q3) (P := []) (i := .if_icmp .ne 5) (tgt := 38) (q := (q3.1 17 0 4) = (-2 : Int32)) rfl trivial (by decide +kernel) rfl (by decide) (fun h4 => ?_) (fun h4 => ?_)
      · rw [if_pos h4] at hm
        refine XW.bk B [(36, .iload_n 3)] (by decide +kernel) (pc1 := 37) (ls1 := [some (aR 17 0), some (aR 28 j), some (aI v2), some (aI v3)]) (st1 := [aI v3]) (σ1 := q3) (P := []) rfl trivial ?_
        cases hm
        exact XW.iret B q (by decide +kernel)
      · rw [if_neg h4] at hm
        refine XW.bk B [(38, .iinc 3 1), (41, .goto (-32))] (by decide +kernel) (pc1 := 9) (ls1 := [some (aR 17 0), some (aR 28 j), some (aI v2), some (aI (v3 + (1 : Int32)))]) (st1 := []) (σ1 := q3) (P := []) rfl trivial ?_
        exact ih v2 (v3 + (1 : Int32)) q3 hm
set_option maxRecDepth 100000 in
set_option maxHeartbeats 4000000 in
theorem c_X9_nearestVan (j : Nat) (x2 : Int32) (σ : SS) (hj : j < 6) {r : Int32} {σ' : SS} (hm : m_X9_nearestVan j x2 σ = some (r, σ')) : XM LC 6 M_X9_nearestVan [aR 17 0, aR 28 j, aI x2] σ (some (aI r)) σ' := by
  refine XM.of (K := K9) (by decide) (by decide +kernel) K9_ok (Nat.le_of_ble_eq_true rfl) (fun Γ B q => ?_)
  unfold m_X9_nearestVan at hm
  refine XW.bk B [(0, .aload_n 0), (1, .getfield 22)] (by decide +kernel) (pc1 := 4) (ls1 := [some (aR 17 0), some (aR 28 j), some (aI x2), none]) (st1 := [aR 14 0]) (σ1 := σ) (P := []) rfl trivial ?_
  obtain ⟨q1, hq1, hm⟩ := bnT_eq hm
  refine XW.callV B (M := M_X7_supposeNow) (t := 14) (j := 0) (cn := 1) (as := []) (c_X7_supposeNow σ hq1) (by decide) wV_X7_supposeNow wN_X7_supposeNow lk_X9_58 rfl rfl rfl (by decide) rfl (Nat.le_of_ble_eq_true rfl) (by decide +kernel) ?_
  refine XW.bk B [(7, .iconst 0), (8, .istore_n 3)] (by decide +kernel) (pc1 := 9) (ls1 := [some (aR 17 0), some (aR 28 j), some (aI x2), some (aI (0 : Int32))]) (st1 := []) (σ1 := q1) (P := []) rfl trivial ?_
  exact lp_X9_nearestVan_9 j hj B q FU x2 (0 : Int32) q1 hm

def L_X9_leastMoreGust_2 (j : Nat) : Nat → Int32 → Int32 → SS → Option (Int32 × SS)
  | 0, _, _, _ => none
  | n + 1, v2, v3, σ =>
    if (30 : Int32) < v3 then
      some ((-2 : Int32), σ)
    else
    bnT (m_X7_suppose (m_X8_number (0 : Int32) (7 : Int32) σ) (m_X8_number (0 : Int32) (9 : Int32) σ) v3 σ) (fun q2 =>
    Option.bind (m_X9_follow j (0 : Int32) v2 q2) (fun q3 =>
    if (q3.1 17 0 4) = (-2 : Int32) then
      L_X9_leastMoreGust_2 j n v2 (v3 + (1 : Int32)) q3
    else
    some (v3, q3)))
def m_X9_leastMoreGust (j : Nat) (x2 : Int32) (σ : SS) : Option (Int32 × SS) :=
  L_X9_leastMoreGust_2 j FU x2 (0 : Int32) σ
set_option maxRecDepth 100000 in
set_option maxHeartbeats 4000000 in
theorem lp_X9_leastMoreGust_2 (j : Nat) (hj : j < 6) {Γ : XC} {r : Int32} {σ' : SS} (B : XB Γ cX9_leastMoreGust RX9 6 K9 LC 4) (q : XQ Γ (some .int) (some (aI r)) σ') : ∀ (n : Nat) (v2 : Int32) (v3 : Int32) (σ : SS), L_X9_leastMoreGust_2 j n v2 v3 σ = some (r, σ') → XW Γ 2 [some (aR 17 0), some (aR 28 j), some (aI v2), some (aI v3)] [] σ := by
  intro n
  induction n with
  | zero => intro v2 v3 σ hm; cases hm
  | succ n ih =>
    intro v2 v3 σ hm
    rw [L_X9_leastMoreGust_2] at hm
    refine XW.bb B [(2, .iload_n 3), (3, .bipush 30)] (by decide +kernel) (pc1 := 5) (ls1 := [some (aR 17 0), some (aR 28 j), some (aI v2), some (aI v3)]) (st1 := [aI (30 : Int32), aI v3]) (σ1 := σ) (P := []) (i := .if_icmp .gt 55) (tgt := 60) (q := (30 : Int32) < v3) rfl trivial (by decide +kernel) rfl (by decide) (fun h1 => ?_) (fun h1 => ?_)
    · rw [if_pos h1] at hm
      refine XW.bk B [(60, .bipush (-2))] (by decide +kernel) (pc1 := 62) (ls1 := [some (aR 17 0), some (aR 28 j), some (aI v2), some (aI v3)]) (st1 := [aI (-2 : Int32)]) (σ1 := σ) (P := []) rfl trivial ?_
      cases hm
      exact XW.iret B q (by decide +kernel)
    · rw [if_neg h1] at hm
      refine XW.bk B [(8, .aload_n 0), (9, .getfield 22), (12, .aload_n 0), (13, .getfield 18), (16, .iconst 0), (17, .bipush 7)] (by decide +kernel) (pc1 := 19) (ls1 := [some (aR 17 0), some (aR 28 j), some (aI v2), some (aI v3)]) (st1 := [aI (7 : Int32), aI (0 : Int32), aR 1 0, aR 14 0]) (σ1 := σ) (P := []) rfl trivial ?_
      refine XW.callV B (M := M_X8_number) (t := 1) (j := 0) (cn := 1) (as := [aI (0 : Int32), aI (7 : Int32)]) (c_X8_number (0 : Int32) (7 : Int32) σ rfl) (by decide) wV_X8_number wN_X8_number lk_X9_38 rfl rfl rfl (by decide) rfl (Nat.le_of_ble_eq_true rfl) (by decide +kernel) ?_
      refine XW.bk B [(22, .aload_n 0), (23, .getfield 18), (26, .iconst 0), (27, .bipush 9)] (by decide +kernel) (pc1 := 29) (ls1 := [some (aR 17 0), some (aR 28 j), some (aI v2), some (aI v3)]) (st1 := [aI (9 : Int32), aI (0 : Int32), aR 1 0, aI (m_X8_number (0 : Int32) (7 : Int32) σ), aR 14 0]) (σ1 := σ) (P := []) rfl trivial ?_
      refine XW.callV B (M := M_X8_number) (t := 1) (j := 0) (cn := 1) (as := [aI (0 : Int32), aI (9 : Int32)]) (c_X8_number (0 : Int32) (9 : Int32) σ rfl) (by decide) wV_X8_number wN_X8_number lk_X9_38 rfl rfl rfl (by decide) rfl (Nat.le_of_ble_eq_true rfl) (by decide +kernel) ?_
      refine XW.bk B [(32, .iload_n 3)] (by decide +kernel) (pc1 := 33) (ls1 := [some (aR 17 0), some (aR 28 j), some (aI v2), some (aI v3)]) (st1 := [aI v3, aI (m_X8_number (0 : Int32) (9 : Int32) σ), aI (m_X8_number (0 : Int32) (7 : Int32) σ), aR 14 0]) (σ1 := σ) (P := []) rfl trivial ?_
      obtain ⟨q2, hq2, hm⟩ := bnT_eq hm
      refine XW.callV B (M := M_X7_suppose) (t := 14) (j := 0) (cn := 1) (as := [aI (m_X8_number (0 : Int32) (7 : Int32) σ), aI (m_X8_number (0 : Int32) (9 : Int32) σ), aI v3]) (c_X7_suppose (m_X8_number (0 : Int32) (7 : Int32) σ) (m_X8_number (0 : Int32) (9 : Int32) σ) v3 σ hq2) (by decide) wV_X7_suppose wN_X7_suppose lk_X9_65 rfl rfl rfl (by decide) rfl (Nat.le_of_ble_eq_true rfl) (by decide +kernel) ?_
      refine XW.bk B [(36, .aload_n 0), (37, .aload_n 1), (38, .iconst 0), (39, .iload_n 2)] (by decide +kernel) (pc1 := 40) (ls1 := [some (aR 17 0), some (aR 28 j), some (aI v2), some (aI v3)]) (st1 := [aI v2, aI (0 : Int32), aR 28 j, aR 17 0]) (σ1 := q2) (P := []) rfl trivial ?_
      obtain ⟨q3, hq3, hm⟩ := obind_eq hm
      refine XW.callV B (M := M_X9_follow) (t := 17) (j := 0) (cn := 1) (as := [aR 28 j, aI (0 : Int32), aI v2]) (c_X9_follow j (0 : Int32) v2 q2 hj hq3) (by decide) wV_X9_follow wN_X9_follow lk_X9_61 rfl rfl rfl (by decide) rfl (Nat.le_of_ble_eq_true rfl) (by decide +kernel) ?_
      refine XW.bb B [(43, .aload_n 0), (44, .getfield 42), (47, .bipush (-2))] (by decide +kernel) (pc1 := 49) (ls1 := [some (aR 17 0), some (aR 28 j), some (aI v2), some (aI v3)]) (st1 := [aI (-2 : Int32), aI (q3.1 17 0 4)]) (σ1 := q3) (P := []) (i := .if_icmp .eq 5) (tgt := 54) (q := (q3.1 17 0 4) = (-2 : Int32)) rfl trivial (by decide +kernel) rfl (by decide) (fun h4 => ?_) (fun h4 => ?_)
      · rw [if_pos h4] at hm
        refine XW.bk B [(54, .iinc 3 1), (57, .goto (-55))] (by decide +kernel) (pc1 := 2) (ls1 := [some (aR 17 0), some (aR 28 j), some (aI v2), some (aI (v3 + (1 : Int32)))]) (st1 := []) (σ1 := q3) (P := []) rfl trivial ?_
        exact ih v2 (v3 + (1 : Int32)) q3 hm
      · rw [if_neg h4] at hm
        refine XW.bk B [(52, .iload_n 3)] (by decide +kernel) (pc1 := 53) (ls1 := [some (aR 17 0), some (aR 28 j), some (aI v2), some (aI v3)]) (st1 := [aI v3]) (σ1 := q3) (P := []) rfl trivial ?_
        cases hm
        exact XW.iret B q (by decide +kernel)
set_option maxRecDepth 100000 in
set_option maxHeartbeats 4000000 in
theorem c_X9_leastMoreGust (j : Nat) (x2 : Int32) (σ : SS) (hj : j < 6) {r : Int32} {σ' : SS} (hm : m_X9_leastMoreGust j x2 σ = some (r, σ')) : XM LC 6 M_X9_leastMoreGust [aR 17 0, aR 28 j, aI x2] σ (some (aI r)) σ' := by
  refine XM.of (K := K9) (by decide) (by decide +kernel) K9_ok (Nat.le_of_ble_eq_true rfl) (fun Γ B q => ?_)
  unfold m_X9_leastMoreGust at hm
  refine XW.bk B [(0, .iconst 0), (1, .istore_n 3)] (by decide +kernel) (pc1 := 2) (ls1 := [some (aR 17 0), some (aR 28 j), some (aI x2), some (aI (0 : Int32))]) (st1 := []) (σ1 := σ) (P := []) rfl trivial ?_
  exact lp_X9_leastMoreGust_2 j hj B q FU x2 (0 : Int32) σ hm

def L_X9_greatestScratch_21 (j : Nat) : Nat → Int32 → Int32 → SS → Option (Int32 × SS)
  | 0, _, _, _ => none
  | n + 1, v2, v4, σ =>
    if v4 < (0 : Int32) then
      some ((-2 : Int32), σ)
    else
    bnT (m_X7_suppose (m_X8_number (0 : Int32) (7 : Int32) σ) v4 (0 : Int32) σ) (fun q2 =>
    Option.bind (m_X9_follow j (0 : Int32) v2 q2) (fun q3 =>
    if (q3.1 17 0 4) = (-2 : Int32) then
      some (v4, q3)
    else
    L_X9_greatestScratch_21 j n v2 (v4 + (-1 : Int32)) q3))
def m_X9_greatestScratch (j : Nat) (x2 : Int32) (σ : SS) : Option (Int32 × SS) :=
  L_X9_greatestScratch_21 j FU x2 (if ((m_X8_number (0 : Int32) (8 : Int32) σ) / (5 : Int32)) < (99 : Int32) then ((m_X8_number (0 : Int32) (8 : Int32) σ) / (5 : Int32)) else (99 : Int32)) σ
set_option maxRecDepth 100000 in
set_option maxHeartbeats 4000000 in
theorem lp_X9_greatestScratch_21 (j : Nat) (hj : j < 6) {Γ : XC} {r : Int32} {σ' : SS} (B : XB Γ cX9_greatestScratch RX9 6 K9 LC 5) (q : XQ Γ (some .int) (some (aI r)) σ') : ∀ (n : Nat) (v2 : Int32) (v4 : Int32) (σ : SS), L_X9_greatestScratch_21 j n v2 v4 σ = some (r, σ') → XW Γ 21 [some (aR 17 0), some (aR 28 j), some (aI v2), none, some (aI v4)] [] σ := by
  intro n
  induction n with
  | zero => intro v2 v4 σ hm; cases hm
  | succ n ih =>
    intro v2 v4 σ hm
    rw [L_X9_greatestScratch_21] at hm
    refine XW.bb B [(21, .iload 4)] (by decide +kernel) (pc1 := 23) (ls1 := [some (aR 17 0), some (aR 28 j), some (aI v2), none, some (aI v4)]) (st1 := [aI v4]) (σ1 := σ) (P := []) (i := .ifCond .lt 48) (tgt := 71) (q := v4 < (0 : Int32)) rfl trivial (by decide +kernel) rfl (by decide) (fun h1 => ?_) (fun h1 => ?_)
    · rw [if_pos h1] at hm
      refine XW.bk B [(71, .bipush (-2))] (by decide +kernel) (pc1 := 73) (ls1 := [some (aR 17 0), some (aR 28 j), some (aI v2), none, some (aI v4)]) (st1 := [aI (-2 : Int32)]) (σ1 := σ) (P := []) rfl trivial ?_
      cases hm
      exact XW.iret B q (by decide +kernel)
    · rw [if_neg h1] at hm
      refine XW.bk B [(26, .aload_n 0), (27, .getfield 22), (30, .aload_n 0), (31, .getfield 18), (34, .iconst 0), (35, .bipush 7)] (by decide +kernel) (pc1 := 37) (ls1 := [some (aR 17 0), some (aR 28 j), some (aI v2), none, some (aI v4)]) (st1 := [aI (7 : Int32), aI (0 : Int32), aR 1 0, aR 14 0]) (σ1 := σ) (P := []) rfl trivial ?_
      refine XW.callV B (M := M_X8_number) (t := 1) (j := 0) (cn := 1) (as := [aI (0 : Int32), aI (7 : Int32)]) (c_X8_number (0 : Int32) (7 : Int32) σ rfl) (by decide) wV_X8_number wN_X8_number lk_X9_38 rfl rfl rfl (by decide) rfl (Nat.le_of_ble_eq_true rfl) (by decide +kernel) ?_
      refine XW.bk B [(40, .iload 4), (42, .iconst 0)] (by decide +kernel) (pc1 := 43) (ls1 := [some (aR 17 0), some (aR 28 j), some (aI v2), none, some (aI v4)]) (st1 := [aI (0 : Int32), aI v4, aI (m_X8_number (0 : Int32) (7 : Int32) σ), aR 14 0]) (σ1 := σ) (P := []) rfl trivial ?_
      obtain ⟨q2, hq2, hm⟩ := bnT_eq hm
      refine XW.callV B (M := M_X7_suppose) (t := 14) (j := 0) (cn := 1) (as := [aI (m_X8_number (0 : Int32) (7 : Int32) σ), aI v4, aI (0 : Int32)]) (c_X7_suppose (m_X8_number (0 : Int32) (7 : Int32) σ) v4 (0 : Int32) σ hq2) (by decide) wV_X7_suppose wN_X7_suppose lk_X9_65 rfl rfl rfl (by decide) rfl (Nat.le_of_ble_eq_true rfl) (by decide +kernel) ?_
      refine XW.bk B [(46, .aload_n 0), (47, .aload_n 1), (48, .iconst 0), (49, .iload_n 2)] (by decide +kernel) (pc1 := 50) (ls1 := [some (aR 17 0), some (aR 28 j), some (aI v2), none, some (aI v4)]) (st1 := [aI v2, aI (0 : Int32), aR 28 j, aR 17 0]) (σ1 := q2) (P := []) rfl trivial ?_
      obtain ⟨q3, hq3, hm⟩ := obind_eq hm
      refine XW.callV B (M := M_X9_follow) (t := 17) (j := 0) (cn := 1) (as := [aR 28 j, aI (0 : Int32), aI v2]) (c_X9_follow j (0 : Int32) v2 q2 hj hq3) (by decide) wV_X9_follow wN_X9_follow lk_X9_61 rfl rfl rfl (by decide) rfl (Nat.le_of_ble_eq_true rfl) (by decide +kernel) ?_
      refine XW.bn B [(53, .aload_n 0), (54, .getfield 42), (57, .bipush (-2))] (by decide +kernel) (pc1 := 59) (ls1 := [some (aR 17 0), some (aR 28 j), some (aI v2), none, some (aI v4)]) (st1 := [aI (-2 : Int32), aI (q3.1 17 0 4)]) (σ1 := q3) (P := []) (i := .if_icmp .ne 6) (tgt := 65) (q := (q3.1 17 0 4) = (-2 : Int32)) rfl trivial (by decide +kernel) rfl (by decide) (fun h4 => ?_) (fun h4 => ?_)
      · rw [if_pos h4] at hm
        refine XW.bk B [(62, .iload 4)] (by decide +kernel) (pc1 := 64) (ls1 := [some (aR 17 0), some (aR 28 j), some (aI v2), none, some (aI v4)]) (st1 := [aI v4]) (σ1 := q3) (P := []) rfl trivial ?_
        cases hm
        exact XW.iret B q (by decide +kernel)
      · rw [if_neg h4] at hm
        refine XW.bk B [(65, .iinc 4 (-1)), (68, .goto (-47))] (by decide +kernel) (pc1 := 21) (ls1 := [some (aR 17 0), some (aR 28 j), some (aI v2), none, some (aI (v4 + (-1 : Int32)))]) (st1 := []) (σ1 := q3) (P := []) rfl trivial ?_
        exact ih v2 (v4 + (-1 : Int32)) q3 hm
set_option maxRecDepth 100000 in
set_option maxHeartbeats 4000000 in
theorem c_X9_greatestScratch (j : Nat) (x2 : Int32) (σ : SS) (hj : j < 6) {r : Int32} {σ' : SS} (hm : m_X9_greatestScratch j x2 σ = some (r, σ')) : XM LC 6 M_X9_greatestScratch [aR 17 0, aR 28 j, aI x2] σ (some (aI r)) σ' := by
  refine XM.of (K := K9) (by decide) (by decide +kernel) K9_ok (Nat.le_of_ble_eq_true rfl) (fun Γ B q => ?_)
  unfold m_X9_greatestScratch at hm
  refine XW.bk B [(0, .bipush 99), (2, .aload_n 0), (3, .getfield 18), (6, .iconst 0), (7, .bipush 8)] (by decide +kernel) (pc1 := 9) (ls1 := [some (aR 17 0), some (aR 28 j), some (aI x2), none, none]) (st1 := [aI (8 : Int32), aI (0 : Int32), aR 1 0, aI (99 : Int32)]) (σ1 := σ) (P := []) rfl trivial ?_
  refine XW.callV B (M := M_X8_number) (t := 1) (j := 0) (cn := 1) (as := [aI (0 : Int32), aI (8 : Int32)]) (c_X8_number (0 : Int32) (8 : Int32) σ rfl) (by decide) wV_X8_number wN_X8_number lk_X9_38 rfl rfl rfl (by decide) rfl (Nat.le_of_ble_eq_true rfl) (by decide +kernel) ?_
  refine XW.bk B [(12, .iconst 5), (13, .idiv), (14, .invokestatic 69), (17, .istore_n 3), (18, .iload_n 3), (19, .istore 4)] (by decide +kernel) (pc1 := 21) (ls1 := [some (aR 17 0), some (aR 28 j), some (aI x2), some (aI (if ((m_X8_number (0 : Int32) (8 : Int32) σ) / (5 : Int32)) < (99 : Int32) then ((m_X8_number (0 : Int32) (8 : Int32) σ) / (5 : Int32)) else (99 : Int32))), some (aI (if ((m_X8_number (0 : Int32) (8 : Int32) σ) / (5 : Int32)) < (99 : Int32) then ((m_X8_number (0 : Int32) (8 : Int32) σ) / (5 : Int32)) else (99 : Int32)))]) (st1 := []) (σ1 := σ) (P := [¬ (5 : Int32) = 0, (([] : List AV).map (fun v => (rv (fun _ _ => 0) v).category)).sum ≤ 8]) rfl ⟨(by decide), (Nat.le_of_ble_eq_true rfl), trivial⟩ ?_
  refine XW.loc [true, true, true, false, true] rfl ?_
  exact lp_X9_greatestScratch_21 j hj B q FU x2 (if ((m_X8_number (0 : Int32) (8 : Int32) σ) / (5 : Int32)) < (99 : Int32) then ((m_X8_number (0 : Int32) (8 : Int32) σ) / (5 : Int32)) else (99 : Int32)) σ hm

def m_X9_turnedAhead (x1 : Int32) (x2 : Int32) (x3 : Int32) (σ : SS) : Int32 :=
  if ((x1 * (4 : Int32)) + x2) < (0 : Int32) then
    (1000000 : Int32)
  else
  if ((x1 * (4 : Int32)) + x2) < (48 : Int32) then
    if x3 < (0 : Int32) then
      ((σ.2.1 18 0 ((x1 * (4 : Int32)) + x2).toNatClampNeg) + (0 : Int32))
    else
    if x3 = x2 then
      ((σ.2.1 18 0 ((x1 * (4 : Int32)) + x2).toNatClampNeg) + (0 : Int32))
    else
    ((σ.2.1 18 0 ((x1 * (4 : Int32)) + x2).toNatClampNeg) + (1 : Int32))
  else
  (1000000 : Int32)
set_option maxRecDepth 100000 in
set_option maxHeartbeats 4000000 in
theorem c_X9_turnedAhead (x1 : Int32) (x2 : Int32) (x3 : Int32) (σ : SS) {r : Int32} (hm : m_X9_turnedAhead x1 x2 x3 σ = r) : XM LC 1 M_X9_turnedAhead [aR 17 0, aI x1, aI x2, aI x3] σ (some (aI r)) σ := by
  refine XM.of (K := K9) (by decide) (by decide +kernel) K9_ok (Nat.le_of_ble_eq_true rfl) (fun Γ B q => ?_)
  unfold m_X9_turnedAhead at hm
  refine XW.bb B [(0, .iload_n 1), (1, .iconst 4), (2, .imul), (3, .iload_n 2), (4, .iadd), (5, .istore 4), (7, .iload 4)] (by decide +kernel) (pc1 := 9) (ls1 := [some (aR 17 0), some (aI x1), some (aI x2), some (aI x3), some (aI ((x1 * (4 : Int32)) + x2))]) (st1 := [aI ((x1 * (4 : Int32)) + x2)]) (σ1 := σ) (P := []) (i := .ifCond .lt 13) (tgt := 22) (q := ((x1 * (4 : Int32)) + x2) < (0 : Int32)) rfl trivial (by decide +kernel) rfl (by decide) (fun h1 => ?_) (fun h1 => ?_)
  · rw [if_pos h1] at hm
    refine XW.bk B [(22, .ldc 77)] (by decide +kernel) (pc1 := 24) (ls1 := [some (aR 17 0), some (aI x1), some (aI x2), some (aI x3), some (aI ((x1 * (4 : Int32)) + x2))]) (st1 := [aI (1000000 : Int32)]) (σ1 := σ) (P := []) rfl trivial ?_
    cases hm
    exact XW.iret B q (by decide +kernel)
  · rw [if_neg h1] at hm
    refine XW.bb B [(12, .iload 4), (14, .aload_n 0), (15, .getfield 9), (18, .arraylength)] (by decide +kernel) (pc1 := 19) (ls1 := [some (aR 17 0), some (aI x1), some (aI x2), some (aI x3), some (aI ((x1 * (4 : Int32)) + x2))]) (st1 := [aI (48 : Int32), aI ((x1 * (4 : Int32)) + x2)]) (σ1 := σ) (P := []) (i := .if_icmp .lt 6) (tgt := 25) (q := ((x1 * (4 : Int32)) + x2) < (48 : Int32)) rfl trivial (by decide +kernel) rfl (by decide) (fun h2 => ?_) (fun h2 => ?_)
    · rw [if_pos h2] at hm
      refine XW.bb B [(25, .aload_n 0), (26, .getfield 9), (29, .iload 4), (31, .iaload), (32, .iload_n 3)] (by decide +kernel) (pc1 := 33) (ls1 := [some (aR 17 0), some (aI x1), some (aI x2), some (aI x3), some (aI ((x1 * (4 : Int32)) + x2))]) (st1 := [aI x3, aI (σ.2.1 18 0 ((x1 * (4 : Int32)) + x2).toNatClampNeg)]) (σ1 := σ) (P := [vp_in ((x1 * (4 : Int32)) + x2) 48]) (i := .ifCond .lt 12) (tgt := 45) (q := x3 < (0 : Int32)) rfl ⟨(vin_b h1 h2 (by decide +kernel)), trivial⟩ (by decide +kernel) rfl (by decide) (fun h3 => ?_) (fun h3 => ?_)
      · rw [if_pos h3] at hm
        refine XW.bk B [(45, .iconst 0), (46, .iadd)] (by decide +kernel) (pc1 := 47) (ls1 := [some (aR 17 0), some (aI x1), some (aI x2), some (aI x3), some (aI ((x1 * (4 : Int32)) + x2))]) (st1 := [aI ((σ.2.1 18 0 ((x1 * (4 : Int32)) + x2).toNatClampNeg) + (0 : Int32))]) (σ1 := σ) (P := []) rfl trivial ?_
        cases hm
        exact XW.iret B q (by decide +kernel)
      · rw [if_neg h3] at hm
        refine XW.bb B [(36, .iload_n 3), (37, .iload_n 2)] (by decide +kernel) (pc1 := 38) (ls1 := [some (aR 17 0), some (aI x1), some (aI x2), some (aI x3), some (aI ((x1 * (4 : Int32)) + x2))]) (st1 := [aI x2, aI x3, aI (σ.2.1 18 0 ((x1 * (4 : Int32)) + x2).toNatClampNeg)]) (σ1 := σ) (P := []) (i := .if_icmp .eq 7) (tgt := 45) (q := x3 = x2) rfl trivial (by decide +kernel) rfl (by decide) (fun h4 => ?_) (fun h4 => ?_)
        · rw [if_pos h4] at hm
          refine XW.bk B [(45, .iconst 0), (46, .iadd)] (by decide +kernel) (pc1 := 47) (ls1 := [some (aR 17 0), some (aI x1), some (aI x2), some (aI x3), some (aI ((x1 * (4 : Int32)) + x2))]) (st1 := [aI ((σ.2.1 18 0 ((x1 * (4 : Int32)) + x2).toNatClampNeg) + (0 : Int32))]) (σ1 := σ) (P := []) rfl trivial ?_
          cases hm
          exact XW.iret B q (by decide +kernel)
        · rw [if_neg h4] at hm
          refine XW.bk B [(41, .iconst 1), (42, .goto 4), (46, .iadd)] (by decide +kernel) (pc1 := 47) (ls1 := [some (aR 17 0), some (aI x1), some (aI x2), some (aI x3), some (aI ((x1 * (4 : Int32)) + x2))]) (st1 := [aI ((σ.2.1 18 0 ((x1 * (4 : Int32)) + x2).toNatClampNeg) + (1 : Int32))]) (σ1 := σ) (P := []) rfl trivial ?_
          cases hm
          exact XW.iret B q (by decide +kernel)
    · rw [if_neg h2] at hm
      refine XW.bk B [(22, .ldc 77)] (by decide +kernel) (pc1 := 24) (ls1 := [some (aR 17 0), some (aI x1), some (aI x2), some (aI x3), some (aI ((x1 * (4 : Int32)) + x2))]) (st1 := [aI (1000000 : Int32)]) (σ1 := σ) (P := []) rfl trivial ?_
      cases hm
      exact XW.iret B q (by decide +kernel)

def L_X9_bestAhead_5 : Nat → Int32 → Int32 → Int32 → Int32 → SS → Option (Int32)
  | 0, _, _, _, _, _ => none
  | n + 1, v1, v2, v3, v4, σ =>
    if (4 : Int32) ≤ v4 then
      some v3
    else
    if (m_X9_turnedAhead v1 v3 v2 σ) ≤ (m_X9_turnedAhead v1 v4 v2 σ) then
      L_X9_bestAhead_5 n v1 v2 v3 (v4 + (1 : Int32)) σ
    else
    L_X9_bestAhead_5 n v1 v2 v4 (v4 + (1 : Int32)) σ
def m_X9_bestAhead (x1 : Int32) (x2 : Int32) (σ : SS) : Option (Int32) :=
  L_X9_bestAhead_5 FU x1 x2 (0 : Int32) (1 : Int32) σ
set_option maxRecDepth 100000 in
set_option maxHeartbeats 4000000 in
theorem lp_X9_bestAhead_5 {Γ : XC} {r : Int32} {σ0 : SS} (B : XB Γ cX9_bestAhead RX9 2 K9 LC 5) (q : XQ Γ (some .int) (some (aI r)) σ0) : ∀ (n : Nat) (v1 : Int32) (v2 : Int32) (v3 : Int32) (v4 : Int32) (σ : SS), σ = σ0 → L_X9_bestAhead_5 n v1 v2 v3 v4 σ = some r → XW Γ 5 [some (aR 17 0), some (aI v1), some (aI v2), some (aI v3), some (aI v4)] [] σ := by
  intro n
  induction n with
  | zero => intro v1 v2 v3 v4 σ hσ hm; cases hm
  | succ n ih =>
    intro v1 v2 v3 v4 σ hσ hm
    subst hσ
    rw [L_X9_bestAhead_5] at hm
    refine XW.bb B [(5, .iload 4), (7, .iconst 4)] (by decide +kernel) (pc1 := 8) (ls1 := [some (aR 17 0), some (aI v1), some (aI v2), some (aI v3), some (aI v4)]) (st1 := [aI (4 : Int32), aI v4]) (σ1 := σ) (P := []) (i := .if_icmp .ge 30) (tgt := 38) (q := (4 : Int32) ≤ v4) rfl trivial (by decide +kernel) rfl (by decide) (fun h1 => ?_) (fun h1 => ?_)
    · rw [if_pos h1] at hm
      refine XW.bk B [(38, .iload_n 3)] (by decide +kernel) (pc1 := 39) (ls1 := [some (aR 17 0), some (aI v1), some (aI v2), some (aI v3), some (aI v4)]) (st1 := [aI v3]) (σ1 := σ) (P := []) rfl trivial ?_
      cases hm
      exact XW.iret B q (by decide +kernel)
    · rw [if_neg h1] at hm
      refine XW.bk B [(11, .aload_n 0), (12, .iload_n 1), (13, .iload 4), (15, .iload_n 2)] (by decide +kernel) (pc1 := 16) (ls1 := [some (aR 17 0), some (aI v1), some (aI v2), some (aI v3), some (aI v4)]) (st1 := [aI v2, aI v4, aI v1, aR 17 0]) (σ1 := σ) (P := []) rfl trivial ?_
      refine XW.callV B (M := M_X9_turnedAhead) (t := 17) (j := 0) (cn := 1) (as := [aI v1, aI v4, aI v2]) (c_X9_turnedAhead v1 v4 v2 σ rfl) (by decide) wV_X9_turnedAhead wN_X9_turnedAhead lk_X9_84 rfl rfl rfl (by decide) rfl (Nat.le_of_ble_eq_true rfl) (by decide +kernel) ?_
      refine XW.bk B [(19, .aload_n 0), (20, .iload_n 1), (21, .iload_n 3), (22, .iload_n 2)] (by decide +kernel) (pc1 := 23) (ls1 := [some (aR 17 0), some (aI v1), some (aI v2), some (aI v3), some (aI v4)]) (st1 := [aI v2, aI v3, aI v1, aR 17 0, aI (m_X9_turnedAhead v1 v4 v2 σ)]) (σ1 := σ) (P := []) rfl trivial ?_
      refine XW.callV B (M := M_X9_turnedAhead) (t := 17) (j := 0) (cn := 1) (as := [aI v1, aI v3, aI v2]) (c_X9_turnedAhead v1 v3 v2 σ rfl) (by decide) wV_X9_turnedAhead wN_X9_turnedAhead lk_X9_84 rfl rfl rfl (by decide) rfl (Nat.le_of_ble_eq_true rfl) (by decide +kernel) ?_
      refine XW.bb B [] (by decide +kernel) (pc1 := 26) (ls1 := [some (aR 17 0), some (aI v1), some (aI v2), some (aI v3), some (aI v4)]) (st1 := [aI (m_X9_turnedAhead v1 v3 v2 σ), aI (m_X9_turnedAhead v1 v4 v2 σ)]) (σ1 := σ) (P := []) (i := .if_icmp .ge 6) (tgt := 32) (q := (m_X9_turnedAhead v1 v3 v2 σ) ≤ (m_X9_turnedAhead v1 v4 v2 σ)) rfl trivial (by decide +kernel) rfl (by decide) (fun h2 => ?_) (fun h2 => ?_)
      · rw [if_pos h2] at hm
        refine XW.bk B [(32, .iinc 4 1), (35, .goto (-30))] (by decide +kernel) (pc1 := 5) (ls1 := [some (aR 17 0), some (aI v1), some (aI v2), some (aI v3), some (aI (v4 + (1 : Int32)))]) (st1 := []) (σ1 := σ) (P := []) rfl trivial ?_
        exact ih v1 v2 v3 (v4 + (1 : Int32)) σ rfl hm
      · rw [if_neg h2] at hm
        refine XW.bk B [(29, .iload 4), (31, .istore_n 3), (32, .iinc 4 1), (35, .goto (-30))] (by decide +kernel) (pc1 := 5) (ls1 := [some (aR 17 0), some (aI v1), some (aI v2), some (aI v4), some (aI (v4 + (1 : Int32)))]) (st1 := []) (σ1 := σ) (P := []) rfl trivial ?_
        exact ih v1 v2 v4 (v4 + (1 : Int32)) σ rfl hm
set_option maxRecDepth 100000 in
set_option maxHeartbeats 4000000 in
theorem c_X9_bestAhead (x1 : Int32) (x2 : Int32) (σ : SS) {r : Int32} (hm : m_X9_bestAhead x1 x2 σ = some r) : XM LC 2 M_X9_bestAhead [aR 17 0, aI x1, aI x2] σ (some (aI r)) σ := by
  refine XM.of (K := K9) (by decide) (by decide +kernel) K9_ok (Nat.le_of_ble_eq_true rfl) (fun Γ B q => ?_)
  unfold m_X9_bestAhead at hm
  refine XW.bk B [(0, .iconst 0), (1, .istore_n 3), (2, .iconst 1), (3, .istore 4)] (by decide +kernel) (pc1 := 5) (ls1 := [some (aR 17 0), some (aI x1), some (aI x2), some (aI (0 : Int32)), some (aI (1 : Int32))]) (st1 := []) (σ1 := σ) (P := []) rfl trivial ?_
  exact lp_X9_bestAhead_5 B q FU x1 x2 (0 : Int32) (1 : Int32) σ rfl hm

def m_X9_leastAhead (x1 : Int32) (x2 : Int32) (σ : SS) : Option (Int32) :=
  Option.bind (m_X9_bestAhead x1 x2 σ) (fun q1 =>
  some (m_X9_turnedAhead x1 q1 x2 σ))
set_option maxRecDepth 100000 in
set_option maxHeartbeats 4000000 in
theorem c_X9_leastAhead (x1 : Int32) (x2 : Int32) (σ : SS) {r : Int32} (hm : m_X9_leastAhead x1 x2 σ = some r) : XM LC 3 M_X9_leastAhead [aR 17 0, aI x1, aI x2] σ (some (aI r)) σ := by
  refine XM.of (K := K9) (by decide) (by decide +kernel) K9_ok (Nat.le_of_ble_eq_true rfl) (fun Γ B q => ?_)
  unfold m_X9_leastAhead at hm
  refine XW.bk B [(0, .aload_n 0), (1, .iload_n 1), (2, .aload_n 0), (3, .iload_n 1), (4, .iload_n 2)] (by decide +kernel) (pc1 := 5) (ls1 := [some (aR 17 0), some (aI x1), some (aI x2)]) (st1 := [aI x2, aI x1, aR 17 0, aI x1, aR 17 0]) (σ1 := σ) (P := []) rfl trivial ?_
  obtain ⟨q1, hq1, hm⟩ := obind_eq hm
  refine XW.callV B (M := M_X9_bestAhead) (t := 17) (j := 0) (cn := 1) (as := [aI x1, aI x2]) (c_X9_bestAhead x1 x2 σ hq1) (by decide) wV_X9_bestAhead wN_X9_bestAhead lk_X9_81 rfl rfl rfl (by decide) rfl (Nat.le_of_ble_eq_true rfl) (by decide +kernel) ?_
  refine XW.bk B [(8, .iload_n 2)] (by decide +kernel) (pc1 := 9) (ls1 := [some (aR 17 0), some (aI x1), some (aI x2)]) (st1 := [aI x2, aI q1, aI x1, aR 17 0]) (σ1 := σ) (P := []) rfl trivial ?_
  refine XW.callV B (M := M_X9_turnedAhead) (t := 17) (j := 0) (cn := 1) (as := [aI x1, aI q1, aI x2]) (c_X9_turnedAhead x1 q1 x2 σ rfl) (by decide) wV_X9_turnedAhead wN_X9_turnedAhead lk_X9_84 rfl rfl rfl (by decide) rfl (Nat.le_of_ble_eq_true rfl) (by decide +kernel) ?_
  cases hm
  exact XW.iret B q (by decide +kernel)

def m_X9_setAhead (x1 : Int32) (x2 : Int32) (x3 : Int32) (σ : SS) : SS :=
  if ((x1 * (4 : Int32)) + x2) < (0 : Int32) then
    σ
  else
  if (48 : Int32) ≤ ((x1 * (4 : Int32)) + x2) then
    σ
  else
  (sA σ 18 0 ((x1 * (4 : Int32)) + x2).toNatClampNeg x3)
set_option maxRecDepth 100000 in
set_option maxHeartbeats 4000000 in
theorem c_X9_setAhead (x1 : Int32) (x2 : Int32) (x3 : Int32) (σ : SS) {σ' : SS} (hm : m_X9_setAhead x1 x2 x3 σ = σ') : XM LC 1 M_X9_setAhead [aR 17 0, aI x1, aI x2, aI x3] σ none σ' := by
  refine XM.of (K := K9) (by decide) (by decide +kernel) K9_ok (Nat.le_of_ble_eq_true rfl) (fun Γ B q => ?_)
  unfold m_X9_setAhead at hm
  refine XW.bb B [(0, .iload_n 1), (1, .iconst 4), (2, .imul), (3, .iload_n 2), (4, .iadd), (5, .istore 4), (7, .iload 4)] (by decide +kernel) (pc1 := 9) (ls1 := [some (aR 17 0), some (aI x1), some (aI x2), some (aI x3), some (aI ((x1 * (4 : Int32)) + x2))]) (st1 := [aI ((x1 * (4 : Int32)) + x2)]) (σ1 := σ) (P := []) (i := .ifCond .lt 21) (tgt := 30) (q := ((x1 * (4 : Int32)) + x2) < (0 : Int32)) rfl trivial (by decide +kernel) rfl (by decide) (fun h1 => ?_) (fun h1 => ?_)
  · rw [if_pos h1] at hm
    cases hm
    exact XW.vret B q (by decide +kernel)
  · rw [if_neg h1] at hm
    refine XW.bb B [(12, .iload 4), (14, .aload_n 0), (15, .getfield 9), (18, .arraylength)] (by decide +kernel) (pc1 := 19) (ls1 := [some (aR 17 0), some (aI x1), some (aI x2), some (aI x3), some (aI ((x1 * (4 : Int32)) + x2))]) (st1 := [aI (48 : Int32), aI ((x1 * (4 : Int32)) + x2)]) (σ1 := σ) (P := []) (i := .if_icmp .ge 11) (tgt := 30) (q := (48 : Int32) ≤ ((x1 * (4 : Int32)) + x2)) rfl trivial (by decide +kernel) rfl (by decide) (fun h2 => ?_) (fun h2 => ?_)
    · rw [if_pos h2] at hm
      cases hm
      exact XW.vret B q (by decide +kernel)
    · rw [if_neg h2] at hm
      refine XW.bk B [(22, .aload_n 0), (23, .getfield 9), (26, .iload 4), (28, .iload_n 3), (29, .iastore)] (by decide +kernel) (pc1 := 30) (ls1 := [some (aR 17 0), some (aI x1), some (aI x2), some (aI x3), some (aI ((x1 * (4 : Int32)) + x2))]) (st1 := []) (σ1 := (sA σ 18 0 ((x1 * (4 : Int32)) + x2).toNatClampNeg x3)) (P := [vp_in ((x1 * (4 : Int32)) + x2) 48]) rfl ⟨(vin_a h1 h2 (by decide +kernel)), trivial⟩ ?_
      cases hm
      exact XW.vret B q (by decide +kernel)

def L_X9_lookAhead_23 : Nat → Int32 → Int32 → Int32 → SS → Option (SS)
  | 0, _, _, _, _ => none
  | n + 1, v1, v2, v3, σ =>
    if (4 : Int32) ≤ v3 then
      some σ
    else
    Option.bind (m_X7_inMinute v2 v3 (v1 + v2) σ) (fun q4 =>
    if (q4.2.1 1 0 1) ≤ (v2 + (1 : Int32)) then
      if v3 ≤ (m_X8_number v2 (6 : Int32) q4.2) then
        bnT (m_X9_setAhead v2 v3 q4.1 q4.2) (fun q7 =>
        L_X9_lookAhead_23 n v1 v2 (v3 + (1 : Int32)) q7)
      else
      bnT (m_X9_setAhead v2 v3 (1000000 : Int32) q4.2) (fun q8 =>
      L_X9_lookAhead_23 n v1 v2 (v3 + (1 : Int32)) q8)
    else
    Option.bind (m_X9_leastAhead (v2 + (1 : Int32)) v3 q4.2) (fun q9 =>
    if v3 ≤ (m_X8_number v2 (6 : Int32) q4.2) then
      bnT (m_X9_setAhead v2 v3 (q4.1 + q9) q4.2) (fun q11 =>
      L_X9_lookAhead_23 n v1 v2 (v3 + (1 : Int32)) q11)
    else
    bnT (m_X9_setAhead v2 v3 (1000000 : Int32) q4.2) (fun q12 =>
    L_X9_lookAhead_23 n v1 v2 (v3 + (1 : Int32)) q12)))
def L_X9_lookAhead_17 : Nat → Int32 → Int32 → SS → Option (SS)
  | 0, _, _, _ => none
  | n + 1, v1, v2, σ =>
    if v2 < (0 : Int32) then
      some σ
    else
    Option.bind (L_X9_lookAhead_23 FU v1 v2 (0 : Int32) σ) (fun q13 =>
    L_X9_lookAhead_17 n v1 (v2 + (-1 : Int32)) q13)
def m_X9_lookAhead (x1 : Int32) (σ : SS) : Option (SS) :=
  bnT (m_X7_supposeNow σ) (fun q1 =>
  L_X9_lookAhead_17 FU x1 ((q1.1 1 0 1) - (1 : Int32)) q1)
set_option maxRecDepth 100000 in
set_option maxHeartbeats 4000000 in
theorem lp_X9_lookAhead_23 {Γ : XC} (B : XB Γ cX9_lookAhead RX9 5 K9 LC 5) : ∀ (n : Nat) (v1 : Int32) (v2 : Int32) (v3 : Int32) (σ : SS) (o : SS), L_X9_lookAhead_23 n v1 v2 v3 σ = some o → XW Γ 101 [some (aR 17 0), some (aI v1), some (aI v2), none, none] [] o → XW Γ 23 [some (aR 17 0), some (aI v1), some (aI v2), some (aI v3), none] [] σ := by
  intro n
  induction n with
  | zero => intro v1 v2 v3 σ o hm; cases hm
  | succ n ih =>
    intro v1 v2 v3 σ o hm hk
    rw [L_X9_lookAhead_23] at hm
    refine XW.bb B [(23, .iload_n 3), (24, .iconst 4)] (by decide +kernel) (pc1 := 25) (ls1 := [some (aR 17 0), some (aI v1), some (aI v2), some (aI v3), none]) (st1 := [aI (4 : Int32), aI v3]) (σ1 := σ) (P := []) (i := .if_icmp .ge 76) (tgt := 101) (q := (4 : Int32) ≤ v3) rfl trivial (by decide +kernel) rfl (by decide) (fun h3 => ?_) (fun h3 => ?_)
    · rw [if_pos h3] at hm
      refine XW.loc [true, true, true, false, false] rfl ?_
      cases hm
      exact hk
    · rw [if_neg h3] at hm
      refine XW.bk B [(28, .aload_n 0), (29, .getfield 22), (32, .iload_n 2), (33, .iload_n 3), (34, .iload_n 1), (35, .iload_n 2), (36, .iadd)] (by decide +kernel) (pc1 := 37) (ls1 := [some (aR 17 0), some (aI v1), some (aI v2), some (aI v3), none]) (st1 := [aI (v1 + v2), aI v3, aI v2, aR 14 0]) (σ1 := σ) (P := []) rfl trivial ?_
      obtain ⟨q4, hq4, hm⟩ := obind_eq hm
      refine XW.callV B (M := M_X7_inMinute) (t := 14) (j := 0) (cn := 1) (as := [aI v2, aI v3, aI (v1 + v2)]) (c_X7_inMinute v2 v3 (v1 + v2) σ hq4) (by decide) wV_X7_inMinute wN_X7_inMinute lk_X9_45 rfl rfl rfl (by decide) rfl (Nat.le_of_ble_eq_true rfl) (by decide +kernel) ?_
      refine XW.bb B [(40, .istore 4), (42, .iload_n 2), (43, .iconst 1), (44, .iadd), (45, .aload_n 0), (46, .getfield 18), (49, .getfield 26)] (by decide +kernel) (pc1 := 52) (ls1 := [some (aR 17 0), some (aI v1), some (aI v2), some (aI v3), some (aI q4.1)]) (st1 := [aI (q4.2.1 1 0 1), aI (v2 + (1 : Int32))]) (σ1 := q4.2) (P := []) (i := .if_icmp .ge 16) (tgt := 68) (q := (q4.2.1 1 0 1) ≤ (v2 + (1 : Int32))) rfl trivial (by decide +kernel) rfl (by decide) (fun h5 => ?_) (fun h5 => ?_)
      · rw [if_pos h5] at hm
        refine XW.bk B [(68, .aload_n 0), (69, .iload_n 2), (70, .iload_n 3), (71, .iload_n 3), (72, .aload_n 0), (73, .getfield 18), (76, .iload_n 2), (77, .bipush 6)] (by decide +kernel) (pc1 := 79) (ls1 := [some (aR 17 0), some (aI v1), some (aI v2), some (aI v3), some (aI q4.1)]) (st1 := [aI (6 : Int32), aI v2, aR 1 0, aI v3, aI v3, aI v2, aR 17 0]) (σ1 := q4.2) (P := []) rfl trivial ?_
        refine XW.callV B (M := M_X8_number) (t := 1) (j := 0) (cn := 1) (as := [aI v2, aI (6 : Int32)]) (c_X8_number v2 (6 : Int32) q4.2 rfl) (by decide) wV_X8_number wN_X8_number lk_X9_38 rfl rfl rfl (by decide) rfl (Nat.le_of_ble_eq_true rfl) (by decide +kernel) ?_
        refine XW.bb B [] (by decide +kernel) (pc1 := 82) (ls1 := [some (aR 17 0), some (aI v1), some (aI v2), some (aI v3), some (aI q4.1)]) (st1 := [aI (m_X8_number v2 (6 : Int32) q4.2), aI v3, aI v3, aI v2, aR 17 0]) (σ1 := q4.2) (P := []) (i := .if_icmp .le 8) (tgt := 90) (q := v3 ≤ (m_X8_number v2 (6 : Int32) q4.2)) rfl trivial (by decide +kernel) rfl (by decide) (fun h6 => ?_) (fun h6 => ?_)
        · rw [if_pos h6] at hm
          refine XW.bk B [(90, .iload 4)] (by decide +kernel) (pc1 := 92) (ls1 := [some (aR 17 0), some (aI v1), some (aI v2), some (aI v3), some (aI q4.1)]) (st1 := [aI q4.1, aI v3, aI v2, aR 17 0]) (σ1 := q4.2) (P := []) rfl trivial ?_
          obtain ⟨q7, hq7, hm⟩ := bnT_eq hm
          refine XW.callV B (M := M_X9_setAhead) (t := 17) (j := 0) (cn := 1) (as := [aI v2, aI v3, aI q4.1]) (c_X9_setAhead v2 v3 q4.1 q4.2 hq7) (by decide) wV_X9_setAhead wN_X9_setAhead lk_X9_78 rfl rfl rfl (by decide) rfl (Nat.le_of_ble_eq_true rfl) (by decide +kernel) ?_
          refine XW.bk B [(95, .iinc 3 1), (98, .goto (-75))] (by decide +kernel) (pc1 := 23) (ls1 := [some (aR 17 0), some (aI v1), some (aI v2), some (aI (v3 + (1 : Int32))), some (aI q4.1)]) (st1 := []) (σ1 := q7) (P := []) rfl trivial ?_
          refine XW.loc [true, true, true, true, false] rfl ?_
          exact ih v1 v2 (v3 + (1 : Int32)) q7 _ hm hk
        · rw [if_neg h6] at hm
          refine XW.bk B [(85, .ldc 77), (87, .goto 5)] (by decide +kernel) (pc1 := 92) (ls1 := [some (aR 17 0), some (aI v1), some (aI v2), some (aI v3), some (aI q4.1)]) (st1 := [aI (1000000 : Int32), aI v3, aI v2, aR 17 0]) (σ1 := q4.2) (P := []) rfl trivial ?_
          obtain ⟨q8, hq8, hm⟩ := bnT_eq hm
          refine XW.callV B (M := M_X9_setAhead) (t := 17) (j := 0) (cn := 1) (as := [aI v2, aI v3, aI (1000000 : Int32)]) (c_X9_setAhead v2 v3 (1000000 : Int32) q4.2 hq8) (by decide) wV_X9_setAhead wN_X9_setAhead lk_X9_78 rfl rfl rfl (by decide) rfl (Nat.le_of_ble_eq_true rfl) (by decide +kernel) ?_
          refine XW.bk B [(95, .iinc 3 1), (98, .goto (-75))] (by decide +kernel) (pc1 := 23) (ls1 := [some (aR 17 0), some (aI v1), some (aI v2), some (aI (v3 + (1 : Int32))), some (aI q4.1)]) (st1 := []) (σ1 := q8) (P := []) rfl trivial ?_
          refine XW.loc [true, true, true, true, false] rfl ?_
          exact ih v1 v2 (v3 + (1 : Int32)) q8 _ hm hk
      · rw [if_neg h5] at hm
        refine XW.bk B [(55, .iload 4), (57, .aload_n 0), (58, .iload_n 2), (59, .iconst 1), (60, .iadd), (61, .iload_n 3)] (by decide +kernel) (pc1 := 62) (ls1 := [some (aR 17 0), some (aI v1), some (aI v2), some (aI v3), some (aI q4.1)]) (st1 := [aI v3, aI (v2 + (1 : Int32)), aR 17 0, aI q4.1]) (σ1 := q4.2) (P := []) rfl trivial ?_
        obtain ⟨q9, hq9, hm⟩ := obind_eq hm
        refine XW.callV B (M := M_X9_leastAhead) (t := 17) (j := 0) (cn := 1) (as := [aI (v2 + (1 : Int32)), aI v3]) (c_X9_leastAhead (v2 + (1 : Int32)) v3 q4.2 hq9) (by decide) wV_X9_leastAhead wN_X9_leastAhead lk_X9_74 rfl rfl rfl (by decide) rfl (Nat.le_of_ble_eq_true rfl) (by decide +kernel) ?_
        refine XW.bk B [(65, .iadd), (66, .istore 4), (68, .aload_n 0), (69, .iload_n 2), (70, .iload_n 3), (71, .iload_n 3), (72, .aload_n 0), (73, .getfield 18), (76, .iload_n 2), (77, .bipush 6)] (by decide +kernel) (pc1 := 79) (ls1 := [some (aR 17 0), some (aI v1), some (aI v2), some (aI v3), some (aI (q4.1 + q9))]) (st1 := [aI (6 : Int32), aI v2, aR 1 0, aI v3, aI v3, aI v2, aR 17 0]) (σ1 := q4.2) (P := []) rfl trivial ?_
        refine XW.callV B (M := M_X8_number) (t := 1) (j := 0) (cn := 1) (as := [aI v2, aI (6 : Int32)]) (c_X8_number v2 (6 : Int32) q4.2 rfl) (by decide) wV_X8_number wN_X8_number lk_X9_38 rfl rfl rfl (by decide) rfl (Nat.le_of_ble_eq_true rfl) (by decide +kernel) ?_
        refine XW.bb B [] (by decide +kernel) (pc1 := 82) (ls1 := [some (aR 17 0), some (aI v1), some (aI v2), some (aI v3), some (aI (q4.1 + q9))]) (st1 := [aI (m_X8_number v2 (6 : Int32) q4.2), aI v3, aI v3, aI v2, aR 17 0]) (σ1 := q4.2) (P := []) (i := .if_icmp .le 8) (tgt := 90) (q := v3 ≤ (m_X8_number v2 (6 : Int32) q4.2)) rfl trivial (by decide +kernel) rfl (by decide) (fun h10 => ?_) (fun h10 => ?_)
        · rw [if_pos h10] at hm
          refine XW.bk B [(90, .iload 4)] (by decide +kernel) (pc1 := 92) (ls1 := [some (aR 17 0), some (aI v1), some (aI v2), some (aI v3), some (aI (q4.1 + q9))]) (st1 := [aI (q4.1 + q9), aI v3, aI v2, aR 17 0]) (σ1 := q4.2) (P := []) rfl trivial ?_
          obtain ⟨q11, hq11, hm⟩ := bnT_eq hm
          refine XW.callV B (M := M_X9_setAhead) (t := 17) (j := 0) (cn := 1) (as := [aI v2, aI v3, aI (q4.1 + q9)]) (c_X9_setAhead v2 v3 (q4.1 + q9) q4.2 hq11) (by decide) wV_X9_setAhead wN_X9_setAhead lk_X9_78 rfl rfl rfl (by decide) rfl (Nat.le_of_ble_eq_true rfl) (by decide +kernel) ?_
          refine XW.bk B [(95, .iinc 3 1), (98, .goto (-75))] (by decide +kernel) (pc1 := 23) (ls1 := [some (aR 17 0), some (aI v1), some (aI v2), some (aI (v3 + (1 : Int32))), some (aI (q4.1 + q9))]) (st1 := []) (σ1 := q11) (P := []) rfl trivial ?_
          refine XW.loc [true, true, true, true, false] rfl ?_
          exact ih v1 v2 (v3 + (1 : Int32)) q11 _ hm hk
        · rw [if_neg h10] at hm
          refine XW.bk B [(85, .ldc 77), (87, .goto 5)] (by decide +kernel) (pc1 := 92) (ls1 := [some (aR 17 0), some (aI v1), some (aI v2), some (aI v3), some (aI (q4.1 + q9))]) (st1 := [aI (1000000 : Int32), aI v3, aI v2, aR 17 0]) (σ1 := q4.2) (P := []) rfl trivial ?_
          obtain ⟨q12, hq12, hm⟩ := bnT_eq hm
          refine XW.callV B (M := M_X9_setAhead) (t := 17) (j := 0) (cn := 1) (as := [aI v2, aI v3, aI (1000000 : Int32)]) (c_X9_setAhead v2 v3 (1000000 : Int32) q4.2 hq12) (by decide) wV_X9_setAhead wN_X9_setAhead lk_X9_78 rfl rfl rfl (by decide) rfl (Nat.le_of_ble_eq_true rfl) (by decide +kernel) ?_
          refine XW.bk B [(95, .iinc 3 1), (98, .goto (-75))] (by decide +kernel) (pc1 := 23) (ls1 := [some (aR 17 0), some (aI v1), some (aI v2), some (aI (v3 + (1 : Int32))), some (aI (q4.1 + q9))]) (st1 := []) (σ1 := q12) (P := []) rfl trivial ?_
          refine XW.loc [true, true, true, true, false] rfl ?_
          exact ih v1 v2 (v3 + (1 : Int32)) q12 _ hm hk
set_option maxRecDepth 100000 in
set_option maxHeartbeats 4000000 in
theorem lp_X9_lookAhead_17 {Γ : XC} {σ' : SS} (B : XB Γ cX9_lookAhead RX9 5 K9 LC 5) (q : XQ Γ (none) none σ') : ∀ (n : Nat) (v1 : Int32) (v2 : Int32) (σ : SS), L_X9_lookAhead_17 n v1 v2 σ = some σ' → XW Γ 17 [some (aR 17 0), some (aI v1), some (aI v2), none, none] [] σ := by
  intro n
  induction n with
  | zero => intro v1 v2 σ hm; cases hm
  | succ n ih =>
    intro v1 v2 σ hm
    rw [L_X9_lookAhead_17] at hm
    refine XW.bb B [(17, .iload_n 2)] (by decide +kernel) (pc1 := 18) (ls1 := [some (aR 17 0), some (aI v1), some (aI v2), none, none]) (st1 := [aI v2]) (σ1 := σ) (P := []) (i := .ifCond .lt 89) (tgt := 107) (q := v2 < (0 : Int32)) rfl trivial (by decide +kernel) rfl (by decide) (fun h2 => ?_) (fun h2 => ?_)
    · rw [if_pos h2] at hm
      cases hm
      exact XW.vret B q (by decide +kernel)
    · rw [if_neg h2] at hm
      refine XW.bk B [(21, .iconst 0), (22, .istore_n 3)] (by decide +kernel) (pc1 := 23) (ls1 := [some (aR 17 0), some (aI v1), some (aI v2), some (aI (0 : Int32)), none]) (st1 := []) (σ1 := σ) (P := []) rfl trivial ?_
      obtain ⟨q13, hq13, hm⟩ := obind_eq hm
      refine lp_X9_lookAhead_23 B FU v1 v2 (0 : Int32) σ _ hq13 ?_
      refine XW.bk B [(101, .iinc 2 (-1)), (104, .goto (-87))] (by decide +kernel) (pc1 := 17) (ls1 := [some (aR 17 0), some (aI v1), some (aI (v2 + (-1 : Int32))), none, none]) (st1 := []) (σ1 := q13) (P := []) rfl trivial ?_
      exact ih v1 (v2 + (-1 : Int32)) q13 hm
set_option maxRecDepth 100000 in
set_option maxHeartbeats 4000000 in
theorem c_X9_lookAhead (x1 : Int32) (σ : SS) {σ' : SS} (hm : m_X9_lookAhead x1 σ = some σ') : XM LC 5 M_X9_lookAhead [aR 17 0, aI x1] σ none σ' := by
  refine XM.of (K := K9) (by decide) (by decide +kernel) K9_ok (Nat.le_of_ble_eq_true rfl) (fun Γ B q => ?_)
  unfold m_X9_lookAhead at hm
  refine XW.bk B [(0, .aload_n 0), (1, .getfield 22)] (by decide +kernel) (pc1 := 4) (ls1 := [some (aR 17 0), some (aI x1), none, none, none]) (st1 := [aR 14 0]) (σ1 := σ) (P := []) rfl trivial ?_
  obtain ⟨q1, hq1, hm⟩ := bnT_eq hm
  refine XW.callV B (M := M_X7_supposeNow) (t := 14) (j := 0) (cn := 1) (as := []) (c_X7_supposeNow σ hq1) (by decide) wV_X7_supposeNow wN_X7_supposeNow lk_X9_58 rfl rfl rfl (by decide) rfl (Nat.le_of_ble_eq_true rfl) (by decide +kernel) ?_
  refine XW.bk B [(7, .aload_n 0), (8, .getfield 18), (11, .getfield 26), (14, .iconst 1), (15, .isub), (16, .istore_n 2)] (by decide +kernel) (pc1 := 17) (ls1 := [some (aR 17 0), some (aI x1), some (aI ((q1.1 1 0 1) - (1 : Int32))), none, none]) (st1 := []) (σ1 := q1) (P := []) rfl trivial ?_
  exact lp_X9_lookAhead_17 B q FU x1 ((q1.1 1 0 1) - (1 : Int32)) q1 hm

def L_X9_bestHold_7 : Nat → Int64 → Int32 → Int32 → SS → Option (Int64)
  | 0, _, _, _, _ => none
  | n + 1, v1, v3, v4, σ =>
    if (σ.1 1 0 1) ≤ v4 then
      some v1
    else
    Option.bind (m_X9_bestAhead v4 v3 σ) (fun q2 =>
    L_X9_bestHold_7 n ((v1 * (10 : Int64)) + q2.toInt64) q2 (v4 + (1 : Int32)) σ)
def m_X9_bestHold (σ : SS) : Option (Int64) :=
  L_X9_bestHold_7 FU (0 : Int64) (-1 : Int32) (0 : Int32) σ
set_option maxRecDepth 100000 in
set_option maxHeartbeats 4000000 in
theorem lp_X9_bestHold_7 {Γ : XC} {r : Int64} {σ0 : SS} (B : XB Γ cX9_bestHold RX9 3 K9 LC 5) (q : XQ Γ (some .long) (some (aJ r)) σ0) : ∀ (n : Nat) (v1 : Int64) (v3 : Int32) (v4 : Int32) (σ : SS), σ = σ0 → L_X9_bestHold_7 n v1 v3 v4 σ = some r → XW Γ 7 [some (aR 17 0), some (aJ v1), none, some (aI v3), some (aI v4)] [] σ := by
  intro n
  induction n with
  | zero => intro v1 v3 v4 σ hσ hm; cases hm
  | succ n ih =>
    intro v1 v3 v4 σ hσ hm
    subst hσ
    rw [L_X9_bestHold_7] at hm
    refine XW.bb B [(7, .iload 4), (9, .aload_n 0), (10, .getfield 18), (13, .getfield 26)] (by decide +kernel) (pc1 := 16) (ls1 := [some (aR 17 0), some (aJ v1), none, some (aI v3), some (aI v4)]) (st1 := [aI (σ.1 1 0 1), aI v4]) (σ1 := σ) (P := []) (i := .if_icmp .ge 26) (tgt := 42) (q := (σ.1 1 0 1) ≤ v4) rfl trivial (by decide +kernel) rfl (by decide) (fun h1 => ?_) (fun h1 => ?_)
    · rw [if_pos h1] at hm
      refine XW.bk B [(42, .lload_n 1)] (by decide +kernel) (pc1 := 43) (ls1 := [some (aR 17 0), some (aJ v1), none, some (aI v3), some (aI v4)]) (st1 := [aJ v1]) (σ1 := σ) (P := []) rfl trivial ?_
      cases hm
      exact XW.lret B q (by decide +kernel)
    · rw [if_neg h1] at hm
      refine XW.bk B [(19, .aload_n 0), (20, .iload 4), (22, .iload_n 3)] (by decide +kernel) (pc1 := 23) (ls1 := [some (aR 17 0), some (aJ v1), none, some (aI v3), some (aI v4)]) (st1 := [aI v3, aI v4, aR 17 0]) (σ1 := σ) (P := []) rfl trivial ?_
      obtain ⟨q2, hq2, hm⟩ := obind_eq hm
      refine XW.callV B (M := M_X9_bestAhead) (t := 17) (j := 0) (cn := 1) (as := [aI v4, aI v3]) (c_X9_bestAhead v4 v3 σ hq2) (by decide) wV_X9_bestAhead wN_X9_bestAhead lk_X9_81 rfl rfl rfl (by decide) rfl (Nat.le_of_ble_eq_true rfl) (by decide +kernel) ?_
      refine XW.bk B [(26, .istore_n 3), (27, .lload_n 1), (28, .ldc2_w 87), (31, .lmul), (32, .iload_n 3), (33, .i2l), (34, .ladd), (35, .lstore_n 1), (36, .iinc 4 1), (39, .goto (-32))] (by decide +kernel) (pc1 := 7) (ls1 := [some (aR 17 0), some (aJ ((v1 * (10 : Int64)) + q2.toInt64)), none, some (aI q2), some (aI (v4 + (1 : Int32)))]) (st1 := []) (σ1 := σ) (P := []) rfl trivial ?_
      exact ih ((v1 * (10 : Int64)) + q2.toInt64) q2 (v4 + (1 : Int32)) σ rfl hm
set_option maxRecDepth 100000 in
set_option maxHeartbeats 4000000 in
theorem c_X9_bestHold (σ : SS) {r : Int64} (hm : m_X9_bestHold σ = some r) : XM LC 3 M_X9_bestHold [aR 17 0] σ (some (aJ r)) σ := by
  refine XM.of (K := K9) (by decide) (by decide +kernel) K9_ok (Nat.le_of_ble_eq_true rfl) (fun Γ B q => ?_)
  unfold m_X9_bestHold at hm
  refine XW.bk B [(0, .lconst 0), (1, .lstore_n 1), (2, .iconst (-1)), (3, .istore_n 3), (4, .iconst 0), (5, .istore 4)] (by decide +kernel) (pc1 := 7) (ls1 := [some (aR 17 0), some (aJ (0 : Int64)), none, some (aI (-1 : Int32)), some (aI (0 : Int32))]) (st1 := []) (σ1 := σ) (P := []) rfl trivial ?_
  exact lp_X9_bestHold_7 B q FU (0 : Int64) (-1 : Int32) (0 : Int32) σ rfl hm

def m_X9_borne (x1 : Int32) (x2 : Int32) (x3 : Int32) (σ : SS) : Int32 :=
  if x1 = (-1 : Int32) then
    (-1 : Int32)
  else
  if (m_X7_isTooMuch (if (0 : Int32) < ((x1 + x2) - x3) then ((x1 + x2) - x3) else (0 : Int32)) σ) = (0 : Int32) then
    (if (0 : Int32) < ((x1 + x2) - x3) then ((x1 + x2) - x3) else (0 : Int32))
  else
  (-1 : Int32)
set_option maxRecDepth 100000 in
set_option maxHeartbeats 4000000 in
theorem c_X9_borne (x1 : Int32) (x2 : Int32) (x3 : Int32) (σ : SS) {r : Int32} (hm : m_X9_borne x1 x2 x3 σ = r) : XM LC 2 M_X9_borne [aR 17 0, aI x1, aI x2, aI x3] σ (some (aI r)) σ := by
  refine XM.of (K := K9) (by decide) (by decide +kernel) K9_ok (Nat.le_of_ble_eq_true rfl) (fun Γ B q => ?_)
  unfold m_X9_borne at hm
  refine XW.bn B [(0, .iload_n 1), (1, .iconst (-1))] (by decide +kernel) (pc1 := 2) (ls1 := [some (aR 17 0), some (aI x1), some (aI x2), some (aI x3), none]) (st1 := [aI (-1 : Int32), aI x1]) (σ1 := σ) (P := []) (i := .if_icmp .ne 5) (tgt := 7) (q := x1 = (-1 : Int32)) rfl trivial (by decide +kernel) rfl (by decide) (fun h1 => ?_) (fun h1 => ?_)
  · rw [if_pos h1] at hm
    refine XW.bk B [(5, .iconst (-1))] (by decide +kernel) (pc1 := 6) (ls1 := [some (aR 17 0), some (aI x1), some (aI x2), some (aI x3), none]) (st1 := [aI (-1 : Int32)]) (σ1 := σ) (P := []) rfl trivial ?_
    cases hm
    exact XW.iret B q (by decide +kernel)
  · rw [if_neg h1] at hm
    refine XW.bk B [(7, .iconst 0), (8, .iload_n 1), (9, .iload_n 2), (10, .iadd), (11, .iload_n 3), (12, .isub), (13, .invokestatic 109), (16, .istore 4), (18, .aload_n 0), (19, .getfield 22), (22, .iload 4)] (by decide +kernel) (pc1 := 24) (ls1 := [some (aR 17 0), some (aI x1), some (aI x2), some (aI x3), some (aI (if (0 : Int32) < ((x1 + x2) - x3) then ((x1 + x2) - x3) else (0 : Int32)))]) (st1 := [aI (if (0 : Int32) < ((x1 + x2) - x3) then ((x1 + x2) - x3) else (0 : Int32)), aR 14 0]) (σ1 := σ) (P := [(([] : List AV).map (fun v => (rv (fun _ _ => 0) v).category)).sum ≤ 8]) rfl ⟨(Nat.le_of_ble_eq_true rfl), trivial⟩ ?_
    refine XW.callV B (M := M_X7_isTooMuch) (t := 14) (j := 0) (cn := 1) (as := [aI (if (0 : Int32) < ((x1 + x2) - x3) then ((x1 + x2) - x3) else (0 : Int32))]) (c_X7_isTooMuch (if (0 : Int32) < ((x1 + x2) - x3) then ((x1 + x2) - x3) else (0 : Int32)) σ rfl) (by decide) wV_X7_isTooMuch wN_X7_isTooMuch lk_X9_51 rfl rfl rfl (by decide) rfl (Nat.le_of_ble_eq_true rfl) (by decide +kernel) ?_
    refine XW.bb B [] (by decide +kernel) (pc1 := 27) (ls1 := [some (aR 17 0), some (aI x1), some (aI x2), some (aI x3), some (aI (if (0 : Int32) < ((x1 + x2) - x3) then ((x1 + x2) - x3) else (0 : Int32)))]) (st1 := [aI (m_X7_isTooMuch (if (0 : Int32) < ((x1 + x2) - x3) then ((x1 + x2) - x3) else (0 : Int32)) σ)]) (σ1 := σ) (P := []) (i := .ifCond .eq 7) (tgt := 34) (q := (m_X7_isTooMuch (if (0 : Int32) < ((x1 + x2) - x3) then ((x1 + x2) - x3) else (0 : Int32)) σ) = (0 : Int32)) rfl trivial (by decide +kernel) rfl (by decide) (fun h2 => ?_) (fun h2 => ?_)
    · rw [if_pos h2] at hm
      refine XW.bk B [(34, .iload 4)] (by decide +kernel) (pc1 := 36) (ls1 := [some (aR 17 0), some (aI x1), some (aI x2), some (aI x3), some (aI (if (0 : Int32) < ((x1 + x2) - x3) then ((x1 + x2) - x3) else (0 : Int32)))]) (st1 := [aI (if (0 : Int32) < ((x1 + x2) - x3) then ((x1 + x2) - x3) else (0 : Int32))]) (σ1 := σ) (P := []) rfl trivial ?_
      cases hm
      exact XW.iret B q (by decide +kernel)
    · rw [if_neg h2] at hm
      refine XW.bk B [(30, .iconst (-1)), (31, .goto 5)] (by decide +kernel) (pc1 := 36) (ls1 := [some (aR 17 0), some (aI x1), some (aI x2), some (aI x3), some (aI (if (0 : Int32) < ((x1 + x2) - x3) then ((x1 + x2) - x3) else (0 : Int32)))]) (st1 := [aI (-1 : Int32)]) (σ1 := σ) (P := []) rfl trivial ?_
      cases hm
      exact XW.iret B q (by decide +kernel)

def L_X9_reachBy_63 : Nat → Int32 → Int32 → Int32 → Int32 → SS → Option (SS)
  | 0, _, _, _, _, _ => none
  | n + 1, v1, v2, v3, v4, σ =>
    if v4 < (0 : Int32) then
      some σ
    else
    Option.bind (m_X7_inMinute v4 (0 : Int32) (v1 + v2) σ) (fun q5 =>
    if (m_X8_windIn v4 (v1 + v2) q5.2) = (0 : Int32) then
      if v4 = v3 then
        if v4 = (0 : Int32) then
          if v4 < 0 ∨ 12 ≤ v4.toNatClampNeg then none else
          L_X9_reachBy_63 n v1 v2 v3 (v4 + (-1 : Int32)) (sA q5.2 19 0 v4.toNatClampNeg (-1 : Int32))
        else
        if (v4 - (1 : Int32)) < 0 ∨ 12 ≤ (v4 - (1 : Int32)).toNatClampNeg then none else
        if v4 < 0 ∨ 12 ≤ v4.toNatClampNeg then none else
        L_X9_reachBy_63 n v1 v2 v3 (v4 + (-1 : Int32)) (sA q5.2 19 0 v4.toNatClampNeg (m_X9_borne (q5.2.2.1 19 0 (v4 - (1 : Int32)).toNatClampNeg) q5.1 (0 : Int32) q5.2))
      else
      if v4 < 0 ∨ 12 ≤ v4.toNatClampNeg then none else
      if v4 = (0 : Int32) then
        if (m_X9_borne (q5.2.2.1 19 0 v4.toNatClampNeg) q5.1 (3 : Int32) q5.2) = (-1 : Int32) then
          L_X9_reachBy_63 n v1 v2 v3 (v4 + (-1 : Int32)) (sA q5.2 19 0 v4.toNatClampNeg (-1 : Int32))
        else
        L_X9_reachBy_63 n v1 v2 v3 (v4 + (-1 : Int32)) (sA q5.2 19 0 v4.toNatClampNeg (m_X9_borne (q5.2.2.1 19 0 v4.toNatClampNeg) q5.1 (3 : Int32) q5.2))
      else
      if (v4 - (1 : Int32)) < 0 ∨ 12 ≤ (v4 - (1 : Int32)).toNatClampNeg then none else
      if (m_X9_borne (q5.2.2.1 19 0 v4.toNatClampNeg) q5.1 (3 : Int32) q5.2) = (-1 : Int32) then
        L_X9_reachBy_63 n v1 v2 v3 (v4 + (-1 : Int32)) (sA q5.2 19 0 v4.toNatClampNeg (m_X9_borne (q5.2.2.1 19 0 (v4 - (1 : Int32)).toNatClampNeg) q5.1 (0 : Int32) q5.2))
      else
      if (m_X9_borne (q5.2.2.1 19 0 (v4 - (1 : Int32)).toNatClampNeg) q5.1 (0 : Int32) q5.2) = (-1 : Int32) then
        L_X9_reachBy_63 n v1 v2 v3 (v4 + (-1 : Int32)) (sA q5.2 19 0 v4.toNatClampNeg (m_X9_borne (q5.2.2.1 19 0 v4.toNatClampNeg) q5.1 (3 : Int32) q5.2))
      else
      if (m_X9_borne (q5.2.2.1 19 0 v4.toNatClampNeg) q5.1 (3 : Int32) q5.2) ≤ (m_X9_borne (q5.2.2.1 19 0 (v4 - (1 : Int32)).toNatClampNeg) q5.1 (0 : Int32) q5.2) then
        L_X9_reachBy_63 n v1 v2 v3 (v4 + (-1 : Int32)) (sA q5.2 19 0 v4.toNatClampNeg (m_X9_borne (q5.2.2.1 19 0 v4.toNatClampNeg) q5.1 (3 : Int32) q5.2))
      else
      L_X9_reachBy_63 n v1 v2 v3 (v4 + (-1 : Int32)) (sA q5.2 19 0 v4.toNatClampNeg (m_X9_borne (q5.2.2.1 19 0 (v4 - (1 : Int32)).toNatClampNeg) q5.1 (0 : Int32) q5.2))
    else
    if v4 = v3 then
      if v4 = (0 : Int32) then
        if v4 < 0 ∨ 12 ≤ v4.toNatClampNeg then none else
        L_X9_reachBy_63 n v1 v2 v3 (v4 + (-1 : Int32)) (sA q5.2 19 0 v4.toNatClampNeg (-1 : Int32))
      else
      if (v4 - (1 : Int32)) < 0 ∨ 12 ≤ (v4 - (1 : Int32)).toNatClampNeg then none else
      if v4 < 0 ∨ 12 ≤ v4.toNatClampNeg then none else
      L_X9_reachBy_63 n v1 v2 v3 (v4 + (-1 : Int32)) (sA q5.2 19 0 v4.toNatClampNeg (m_X9_borne (q5.2.2.1 19 0 (v4 - (1 : Int32)).toNatClampNeg) q5.1 (0 : Int32) q5.2))
    else
    if v4 < 0 ∨ 12 ≤ v4.toNatClampNeg then none else
    if v4 = (0 : Int32) then
      if (m_X9_borne (q5.2.2.1 19 0 v4.toNatClampNeg) q5.1 (0 : Int32) q5.2) = (-1 : Int32) then
        L_X9_reachBy_63 n v1 v2 v3 (v4 + (-1 : Int32)) (sA q5.2 19 0 v4.toNatClampNeg (-1 : Int32))
      else
      L_X9_reachBy_63 n v1 v2 v3 (v4 + (-1 : Int32)) (sA q5.2 19 0 v4.toNatClampNeg (m_X9_borne (q5.2.2.1 19 0 v4.toNatClampNeg) q5.1 (0 : Int32) q5.2))
    else
    if (v4 - (1 : Int32)) < 0 ∨ 12 ≤ (v4 - (1 : Int32)).toNatClampNeg then none else
    if (m_X9_borne (q5.2.2.1 19 0 v4.toNatClampNeg) q5.1 (0 : Int32) q5.2) = (-1 : Int32) then
      L_X9_reachBy_63 n v1 v2 v3 (v4 + (-1 : Int32)) (sA q5.2 19 0 v4.toNatClampNeg (m_X9_borne (q5.2.2.1 19 0 (v4 - (1 : Int32)).toNatClampNeg) q5.1 (0 : Int32) q5.2))
    else
    if (m_X9_borne (q5.2.2.1 19 0 (v4 - (1 : Int32)).toNatClampNeg) q5.1 (0 : Int32) q5.2) = (-1 : Int32) then
      L_X9_reachBy_63 n v1 v2 v3 (v4 + (-1 : Int32)) (sA q5.2 19 0 v4.toNatClampNeg (m_X9_borne (q5.2.2.1 19 0 v4.toNatClampNeg) q5.1 (0 : Int32) q5.2))
    else
    if (m_X9_borne (q5.2.2.1 19 0 v4.toNatClampNeg) q5.1 (0 : Int32) q5.2) ≤ (m_X9_borne (q5.2.2.1 19 0 (v4 - (1 : Int32)).toNatClampNeg) q5.1 (0 : Int32) q5.2) then
      L_X9_reachBy_63 n v1 v2 v3 (v4 + (-1 : Int32)) (sA q5.2 19 0 v4.toNatClampNeg (m_X9_borne (q5.2.2.1 19 0 v4.toNatClampNeg) q5.1 (0 : Int32) q5.2))
    else
    L_X9_reachBy_63 n v1 v2 v3 (v4 + (-1 : Int32)) (sA q5.2 19 0 v4.toNatClampNeg (m_X9_borne (q5.2.2.1 19 0 (v4 - (1 : Int32)).toNatClampNeg) q5.1 (0 : Int32) q5.2)))
def m_X9_reachBy (x1 : Int32) (x2 : Int32) (σ : SS) : Option (SS) :=
  if x2 = (0 : Int32) then
    bnT (m_X7_supposeNow σ) (fun q2 =>
    Option.bind (m_X7_inMinute (0 : Int32) (0 : Int32) x1 (sAf q2 19 0 (fillF (q2.2.1 19 0) (-1 : Int32) 12))) (fun q3 =>
    some (sA q3.2 19 0 (0 : Int32).toNatClampNeg (m_X9_borne (0 : Int32) q3.1 (0 : Int32) q3.2))))
  else
  L_X9_reachBy_63 FU x1 x2 ((if (12 : Int32) < (σ.1 1 0 1) then (12 : Int32) else (σ.1 1 0 1)) - (1 : Int32)) ((if (12 : Int32) < (σ.1 1 0 1) then (12 : Int32) else (σ.1 1 0 1)) - (1 : Int32)) σ
set_option maxRecDepth 100000 in
set_option maxHeartbeats 4000000 in
theorem lp_X9_reachBy_63 {Γ : XC} {σ' : SS} (B : XB Γ cX9_reachBy RX9 5 K9 LC 9) (q : XQ Γ (none) none σ') : ∀ (n : Nat) (v1 : Int32) (v2 : Int32) (v3 : Int32) (v4 : Int32) (σ : SS), L_X9_reachBy_63 n v1 v2 v3 v4 σ = some σ' → XW Γ 63 [some (aR 17 0), some (aI v1), some (aI v2), some (aI v3), some (aI v4), none, none, none, none] [] σ := by
  intro n
  induction n with
  | zero => intro v1 v2 v3 v4 σ hm; cases hm
  | succ n ih =>
    intro v1 v2 v3 v4 σ hm
    rw [L_X9_reachBy_63] at hm
    refine XW.bb B [(63, .iload 4)] (by decide +kernel) (pc1 := 65) (ls1 := [some (aR 17 0), some (aI v1), some (aI v2), some (aI v3), some (aI v4), none, none, none, none]) (st1 := [aI v4]) (σ1 := σ) (P := []) (i := .ifCond .lt 133) (tgt := 198) (q := v4 < (0 : Int32)) rfl trivial (by decide +kernel) rfl (by decide) (fun h4 => ?_) (fun h4 => ?_)
    · rw [if_pos h4] at hm
      cases hm
      exact XW.vret B q (by decide +kernel)
    · rw [if_neg h4] at hm
      refine XW.bk B [(68, .aload_n 0), (69, .getfield 22), (72, .iload 4), (74, .iconst 0), (75, .iload_n 1), (76, .iload_n 2), (77, .iadd)] (by decide +kernel) (pc1 := 78) (ls1 := [some (aR 17 0), some (aI v1), some (aI v2), some (aI v3), some (aI v4), none, none, none, none]) (st1 := [aI (v1 + v2), aI (0 : Int32), aI v4, aR 14 0]) (σ1 := σ) (P := []) rfl trivial ?_
      obtain ⟨q5, hq5, hm⟩ := obind_eq hm
      refine XW.callV B (M := M_X7_inMinute) (t := 14) (j := 0) (cn := 1) (as := [aI v4, aI (0 : Int32), aI (v1 + v2)]) (c_X7_inMinute v4 (0 : Int32) (v1 + v2) σ hq5) (by decide) wV_X7_inMinute wN_X7_inMinute lk_X9_45 rfl rfl rfl (by decide) rfl (Nat.le_of_ble_eq_true rfl) (by decide +kernel) ?_
      refine XW.bk B [(81, .istore 5), (83, .aload_n 0), (84, .getfield 18), (87, .iload 4), (89, .iload_n 1), (90, .iload_n 2), (91, .iadd)] (by decide +kernel) (pc1 := 92) (ls1 := [some (aR 17 0), some (aI v1), some (aI v2), some (aI v3), some (aI v4), some (aI q5.1), none, none, none]) (st1 := [aI (v1 + v2), aI v4, aR 1 0]) (σ1 := q5.2) (P := []) rfl trivial ?_
      refine XW.callV B (M := M_X8_windIn) (t := 1) (j := 0) (cn := 1) (as := [aI v4, aI (v1 + v2)]) (c_X8_windIn v4 (v1 + v2) q5.2 rfl) (by decide) wV_X8_windIn wN_X8_windIn lk_X9_106 rfl rfl rfl (by decide) rfl (Nat.le_of_ble_eq_true rfl) (by decide +kernel) ?_
      refine XW.bn B [] (by decide +kernel) (pc1 := 95) (ls1 := [some (aR 17 0), some (aI v1), some (aI v2), some (aI v3), some (aI v4), some (aI q5.1), none, none, none]) (st1 := [aI (m_X8_windIn v4 (v1 + v2) q5.2)]) (σ1 := q5.2) (P := []) (i := .ifCond .ne 7) (tgt := 102) (q := (m_X8_windIn v4 (v1 + v2) q5.2) = (0 : Int32)) rfl trivial (by decide +kernel) rfl (by decide) (fun h6 => ?_) (fun h6 => ?_)
      · rw [if_pos h6] at hm
        refine XW.bn B [(98, .iconst 3), (99, .goto 4), (103, .istore 6), (105, .iload 4), (107, .iload_n 3)] (by decide +kernel) (pc1 := 108) (ls1 := [some (aR 17 0), some (aI v1), some (aI v2), some (aI v3), some (aI v4), some (aI q5.1), some (aI (3 : Int32)), none, none]) (st1 := [aI v3, aI v4]) (σ1 := q5.2) (P := []) (i := .if_icmp .ne 7) (tgt := 115) (q := v4 = v3) rfl trivial (by decide +kernel) rfl (by decide) (fun h7 => ?_) (fun h7 => ?_)
        · rw [if_pos h7] at hm
          refine XW.bn B [(111, .iconst (-1)), (112, .goto 18), (130, .istore 7), (132, .iload 4)] (by decide +kernel) (pc1 := 134) (ls1 := [some (aR 17 0), some (aI v1), some (aI v2), some (aI v3), some (aI v4), some (aI q5.1), some (aI (3 : Int32)), some (aI (-1 : Int32)), none]) (st1 := [aI v4]) (σ1 := q5.2) (P := []) (i := .ifCond .ne 7) (tgt := 141) (q := v4 = (0 : Int32)) rfl trivial (by decide +kernel) rfl (by decide) (fun h8 => ?_) (fun h8 => ?_)
          · rw [if_pos h8] at hm
            refine XW.bb B [(137, .iconst (-1)), (138, .goto 19), (157, .istore 8), (159, .aload_n 0), (160, .getfield 15), (163, .iload 4), (165, .iload 7), (167, .iconst (-1))] (by decide +kernel) (pc1 := 168) (ls1 := [some (aR 17 0), some (aI v1), some (aI v2), some (aI v3), some (aI v4), some (aI q5.1), some (aI (3 : Int32)), some (aI (-1 : Int32)), some (aI (-1 : Int32))]) (st1 := [aI (-1 : Int32), aI (-1 : Int32), aI v4, aR 19 0]) (σ1 := q5.2) (P := []) (i := .if_icmp .eq 16) (tgt := 184) (q := (-1 : Int32) = (-1 : Int32)) rfl trivial (by decide +kernel) rfl (by decide) (fun _ => ?_) (fun h => absurd (by decide) h)
            refine XW.bk B [(184, .iload 8), (186, .goto 5)] (by decide +kernel) (pc1 := 191) (ls1 := [some (aR 17 0), some (aI v1), some (aI v2), some (aI v3), some (aI v4), some (aI q5.1), some (aI (3 : Int32)), some (aI (-1 : Int32)), some (aI (-1 : Int32))]) (st1 := [aI (-1 : Int32), aI v4, aR 19 0]) (σ1 := q5.2) (P := []) rfl trivial ?_
            by_cases g9 : v4 < 0 ∨ 12 ≤ v4.toNatClampNeg
            · rw [if_pos g9] at hm; cases hm
            rw [if_neg g9] at hm
            refine XW.bk B [(191, .iastore), (192, .iinc 4 (-1)), (195, .goto (-132))] (by decide +kernel) (pc1 := 63) (ls1 := [some (aR 17 0), some (aI v1), some (aI v2), some (aI v3), some (aI (v4 + (-1 : Int32))), some (aI q5.1), some (aI (3 : Int32)), some (aI (-1 : Int32)), some (aI (-1 : Int32))]) (st1 := []) (σ1 := (sA q5.2 19 0 v4.toNatClampNeg (-1 : Int32))) (P := [vp_in v4 12]) rfl ⟨g9, trivial⟩ ?_
            refine XW.loc [true, true, true, true, true, false, false, false, false] rfl ?_
            exact ih v1 v2 v3 (v4 + (-1 : Int32)) (sA q5.2 19 0 v4.toNatClampNeg (-1 : Int32)) hm
          · rw [if_neg h8] at hm
            refine XW.bk B [(141, .aload_n 0), (142, .aload_n 0), (143, .getfield 15), (146, .iload 4), (148, .iconst 1), (149, .isub)] (by decide +kernel) (pc1 := 150) (ls1 := [some (aR 17 0), some (aI v1), some (aI v2), some (aI v3), some (aI v4), some (aI q5.1), some (aI (3 : Int32)), some (aI (-1 : Int32)), none]) (st1 := [aI (v4 - (1 : Int32)), aR 19 0, aR 17 0]) (σ1 := q5.2) (P := []) rfl trivial ?_
            by_cases g10 : (v4 - (1 : Int32)) < 0 ∨ 12 ≤ (v4 - (1 : Int32)).toNatClampNeg
            · rw [if_pos g10] at hm; cases hm
            rw [if_neg g10] at hm
            refine XW.bk B [(150, .iaload), (151, .iload 5), (153, .iconst 0)] (by decide +kernel) (pc1 := 154) (ls1 := [some (aR 17 0), some (aI v1), some (aI v2), some (aI v3), some (aI v4), some (aI q5.1), some (aI (3 : Int32)), some (aI (-1 : Int32)), none]) (st1 := [aI (0 : Int32), aI q5.1, aI (q5.2.2.1 19 0 (v4 - (1 : Int32)).toNatClampNeg), aR 17 0]) (σ1 := q5.2) (P := [vp_in (v4 - (1 : Int32)) 12]) rfl ⟨g10, trivial⟩ ?_
            refine XW.callV B (M := M_X9_borne) (t := 17) (j := 0) (cn := 1) (as := [aI (q5.2.2.1 19 0 (v4 - (1 : Int32)).toNatClampNeg), aI q5.1, aI (0 : Int32)]) (c_X9_borne (q5.2.2.1 19 0 (v4 - (1 : Int32)).toNatClampNeg) q5.1 (0 : Int32) q5.2 rfl) (by decide) wV_X9_borne wN_X9_borne lk_X9_103 rfl rfl rfl (by decide) rfl (Nat.le_of_ble_eq_true rfl) (by decide +kernel) ?_
            refine XW.bb B [(157, .istore 8), (159, .aload_n 0), (160, .getfield 15), (163, .iload 4), (165, .iload 7), (167, .iconst (-1))] (by decide +kernel) (pc1 := 168) (ls1 := [some (aR 17 0), some (aI v1), some (aI v2), some (aI v3), some (aI v4), some (aI q5.1), some (aI (3 : Int32)), some (aI (-1 : Int32)), some (aI (m_X9_borne (q5.2.2.1 19 0 (v4 - (1 : Int32)).toNatClampNeg) q5.1 (0 : Int32) q5.2))]) (st1 := [aI (-1 : Int32), aI (-1 : Int32), aI v4, aR 19 0]) (σ1 := q5.2) (P := []) (i := .if_icmp .eq 16) (tgt := 184) (q := (-1 : Int32) = (-1 : Int32)) rfl trivial (by decide +kernel) rfl (by decide) (fun _ => ?_) (fun h => absurd (by decide) h)
            refine XW.bk B [(184, .iload 8), (186, .goto 5)] (by decide +kernel) (pc1 := 191) (ls1 := [some (aR 17 0), some (aI v1), some (aI v2), some (aI v3), some (aI v4), some (aI q5.1), some (aI (3 : Int32)), some (aI (-1 : Int32)), some (aI (m_X9_borne (q5.2.2.1 19 0 (v4 - (1 : Int32)).toNatClampNeg) q5.1 (0 : Int32) q5.2))]) (st1 := [aI (m_X9_borne (q5.2.2.1 19 0 (v4 - (1 : Int32)).toNatClampNeg) q5.1 (0 : Int32) q5.2), aI v4, aR 19 0]) (σ1 := q5.2) (P := []) rfl trivial ?_
            by_cases g11 : v4 < 0 ∨ 12 ≤ v4.toNatClampNeg
            · rw [if_pos g11] at hm; cases hm
            rw [if_neg g11] at hm
            refine XW.bk B [(191, .iastore), (192, .iinc 4 (-1)), (195, .goto (-132))] (by decide +kernel) (pc1 := 63) (ls1 := [some (aR 17 0), some (aI v1), some (aI v2), some (aI v3), some (aI (v4 + (-1 : Int32))), some (aI q5.1), some (aI (3 : Int32)), some (aI (-1 : Int32)), some (aI (m_X9_borne (q5.2.2.1 19 0 (v4 - (1 : Int32)).toNatClampNeg) q5.1 (0 : Int32) q5.2))]) (st1 := []) (σ1 := (sA q5.2 19 0 v4.toNatClampNeg (m_X9_borne (q5.2.2.1 19 0 (v4 - (1 : Int32)).toNatClampNeg) q5.1 (0 : Int32) q5.2))) (P := [vp_in v4 12]) rfl ⟨g11, trivial⟩ ?_
            refine XW.loc [true, true, true, true, true, false, false, false, false] rfl ?_
            exact ih v1 v2 v3 (v4 + (-1 : Int32)) (sA q5.2 19 0 v4.toNatClampNeg (m_X9_borne (q5.2.2.1 19 0 (v4 - (1 : Int32)).toNatClampNeg) q5.1 (0 : Int32) q5.2)) hm
        · rw [if_neg h7] at hm
          refine XW.bk B [(115, .aload_n 0), (116, .aload_n 0), (117, .getfield 15), (120, .iload 4)] (by decide +kernel) (pc1 := 122) (ls1 := [some (aR 17 0), some (aI v1), some (aI v2), some (aI v3), some (aI v4), some (aI q5.1), some (aI (3 : Int32)), none, none]) (st1 := [aI v4, aR 19 0, aR 17 0]) (σ1 := q5.2) (P := []) rfl trivial ?_
          by_cases g12 : v4 < 0 ∨ 12 ≤ v4.toNatClampNeg
          · rw [if_pos g12] at hm; cases hm
          rw [if_neg g12] at hm
          refine XW.bk B [(122, .iaload), (123, .iload 5), (125, .iload 6)] (by decide +kernel) (pc1 := 127) (ls1 := [some (aR 17 0), some (aI v1), some (aI v2), some (aI v3), some (aI v4), some (aI q5.1), some (aI (3 : Int32)), none, none]) (st1 := [aI (3 : Int32), aI q5.1, aI (q5.2.2.1 19 0 v4.toNatClampNeg), aR 17 0]) (σ1 := q5.2) (P := [vp_in v4 12]) rfl ⟨g12, trivial⟩ ?_
          refine XW.callV B (M := M_X9_borne) (t := 17) (j := 0) (cn := 1) (as := [aI (q5.2.2.1 19 0 v4.toNatClampNeg), aI q5.1, aI (3 : Int32)]) (c_X9_borne (q5.2.2.1 19 0 v4.toNatClampNeg) q5.1 (3 : Int32) q5.2 rfl) (by decide) wV_X9_borne wN_X9_borne lk_X9_103 rfl rfl rfl (by decide) rfl (Nat.le_of_ble_eq_true rfl) (by decide +kernel) ?_
          refine XW.bn B [(130, .istore 7), (132, .iload 4)] (by decide +kernel) (pc1 := 134) (ls1 := [some (aR 17 0), some (aI v1), some (aI v2), some (aI v3), some (aI v4), some (aI q5.1), some (aI (3 : Int32)), some (aI (m_X9_borne (q5.2.2.1 19 0 v4.toNatClampNeg) q5.1 (3 : Int32) q5.2)), none]) (st1 := [aI v4]) (σ1 := q5.2) (P := []) (i := .ifCond .ne 7) (tgt := 141) (q := v4 = (0 : Int32)) rfl trivial (by decide +kernel) rfl (by decide) (fun h13 => ?_) (fun h13 => ?_)
          · rw [if_pos h13] at hm
            refine XW.bb B [(137, .iconst (-1)), (138, .goto 19), (157, .istore 8), (159, .aload_n 0), (160, .getfield 15), (163, .iload 4), (165, .iload 7), (167, .iconst (-1))] (by decide +kernel) (pc1 := 168) (ls1 := [some (aR 17 0), some (aI v1), some (aI v2), some (aI v3), some (aI v4), some (aI q5.1), some (aI (3 : Int32)), some (aI (m_X9_borne (q5.2.2.1 19 0 v4.toNatClampNeg) q5.1 (3 : Int32) q5.2)), some (aI (-1 : Int32))]) (st1 := [aI (-1 : Int32), aI (m_X9_borne (q5.2.2.1 19 0 v4.toNatClampNeg) q5.1 (3 : Int32) q5.2), aI v4, aR 19 0]) (σ1 := q5.2) (P := []) (i := .if_icmp .eq 16) (tgt := 184) (q := (m_X9_borne (q5.2.2.1 19 0 v4.toNatClampNeg) q5.1 (3 : Int32) q5.2) = (-1 : Int32)) rfl trivial (by decide +kernel) rfl (by decide) (fun h14 => ?_) (fun h14 => ?_)
            · rw [if_pos h14] at hm
              refine XW.bk B [(184, .iload 8), (186, .goto 5), (191, .iastore), (192, .iinc 4 (-1)), (195, .goto (-132))] (by decide +kernel) (pc1 := 63) (ls1 := [some (aR 17 0), some (aI v1), some (aI v2), some (aI v3), some (aI (v4 + (-1 : Int32))), some (aI q5.1), some (aI (3 : Int32)), some (aI (m_X9_borne (q5.2.2.1 19 0 v4.toNatClampNeg) q5.1 (3 : Int32) q5.2)), some (aI (-1 : Int32))]) (st1 := []) (σ1 := (sA q5.2 19 0 v4.toNatClampNeg (-1 : Int32))) (P := [vp_in v4 12]) rfl ⟨g12, trivial⟩ ?_
              refine XW.loc [true, true, true, true, true, false, false, false, false] rfl ?_
              exact ih v1 v2 v3 (v4 + (-1 : Int32)) (sA q5.2 19 0 v4.toNatClampNeg (-1 : Int32)) hm
            · rw [if_neg h14] at hm
              refine XW.bb B [(171, .iload 8), (173, .iconst (-1))] (by decide +kernel) (pc1 := 174) (ls1 := [some (aR 17 0), some (aI v1), some (aI v2), some (aI v3), some (aI v4), some (aI q5.1), some (aI (3 : Int32)), some (aI (m_X9_borne (q5.2.2.1 19 0 v4.toNatClampNeg) q5.1 (3 : Int32) q5.2)), some (aI (-1 : Int32))]) (st1 := [aI (-1 : Int32), aI (-1 : Int32), aI v4, aR 19 0]) (σ1 := q5.2) (P := []) (i := .if_icmp .eq 15) (tgt := 189) (q := (-1 : Int32) = (-1 : Int32)) rfl trivial (by decide +kernel) rfl (by decide) (fun _ => ?_) (fun h => absurd (by decide) h)
              refine XW.bk B [(189, .iload 7), (191, .iastore), (192, .iinc 4 (-1)), (195, .goto (-132))] (by decide +kernel) (pc1 := 63) (ls1 := [some (aR 17 0), some (aI v1), some (aI v2), some (aI v3), some (aI (v4 + (-1 : Int32))), some (aI q5.1), some (aI (3 : Int32)), some (aI (m_X9_borne (q5.2.2.1 19 0 v4.toNatClampNeg) q5.1 (3 : Int32) q5.2)), some (aI (-1 : Int32))]) (st1 := []) (σ1 := (sA q5.2 19 0 v4.toNatClampNeg (m_X9_borne (q5.2.2.1 19 0 v4.toNatClampNeg) q5.1 (3 : Int32) q5.2))) (P := [vp_in v4 12]) rfl ⟨g12, trivial⟩ ?_
              refine XW.loc [true, true, true, true, true, false, false, false, false] rfl ?_
              exact ih v1 v2 v3 (v4 + (-1 : Int32)) (sA q5.2 19 0 v4.toNatClampNeg (m_X9_borne (q5.2.2.1 19 0 v4.toNatClampNeg) q5.1 (3 : Int32) q5.2)) hm
          · rw [if_neg h13] at hm
            refine XW.bk B [(141, .aload_n 0), (142, .aload_n 0), (143, .getfield 15), (146, .iload 4), (148, .iconst 1), (149, .isub)] (by decide +kernel) (pc1 := 150) (ls1 := [some (aR 17 0), some (aI v1), some (aI v2), some (aI v3), some (aI v4), some (aI q5.1), some (aI (3 : Int32)), some (aI (m_X9_borne (q5.2.2.1 19 0 v4.toNatClampNeg) q5.1 (3 : Int32) q5.2)), none]) (st1 := [aI (v4 - (1 : Int32)), aR 19 0, aR 17 0]) (σ1 := q5.2) (P := []) rfl trivial ?_
            by_cases g15 : (v4 - (1 : Int32)) < 0 ∨ 12 ≤ (v4 - (1 : Int32)).toNatClampNeg
            · rw [if_pos g15] at hm; cases hm
            rw [if_neg g15] at hm
            refine XW.bk B [(150, .iaload), (151, .iload 5), (153, .iconst 0)] (by decide +kernel) (pc1 := 154) (ls1 := [some (aR 17 0), some (aI v1), some (aI v2), some (aI v3), some (aI v4), some (aI q5.1), some (aI (3 : Int32)), some (aI (m_X9_borne (q5.2.2.1 19 0 v4.toNatClampNeg) q5.1 (3 : Int32) q5.2)), none]) (st1 := [aI (0 : Int32), aI q5.1, aI (q5.2.2.1 19 0 (v4 - (1 : Int32)).toNatClampNeg), aR 17 0]) (σ1 := q5.2) (P := [vp_in (v4 - (1 : Int32)) 12]) rfl ⟨g15, trivial⟩ ?_
            refine XW.callV B (M := M_X9_borne) (t := 17) (j := 0) (cn := 1) (as := [aI (q5.2.2.1 19 0 (v4 - (1 : Int32)).toNatClampNeg), aI q5.1, aI (0 : Int32)]) (c_X9_borne (q5.2.2.1 19 0 (v4 - (1 : Int32)).toNatClampNeg) q5.1 (0 : Int32) q5.2 rfl) (by decide) wV_X9_borne wN_X9_borne lk_X9_103 rfl rfl rfl (by decide) rfl (Nat.le_of_ble_eq_true rfl) (by decide +kernel) ?_
            refine XW.bb B [(157, .istore 8), (159, .aload_n 0), (160, .getfield 15), (163, .iload 4), (165, .iload 7), (167, .iconst (-1))] (by decide +kernel) (pc1 := 168) (ls1 := [some (aR 17 0), some (aI v1), some (aI v2), some (aI v3), some (aI v4), some (aI q5.1), some (aI (3 : Int32)), some (aI (m_X9_borne (q5.2.2.1 19 0 v4.toNatClampNeg) q5.1 (3 : Int32) q5.2)), some (aI (m_X9_borne (q5.2.2.1 19 0 (v4 - (1 : Int32)).toNatClampNeg) q5.1 (0 : Int32) q5.2))]) (st1 := [aI (-1 : Int32), aI (m_X9_borne (q5.2.2.1 19 0 v4.toNatClampNeg) q5.1 (3 : Int32) q5.2), aI v4, aR 19 0]) (σ1 := q5.2) (P := []) (i := .if_icmp .eq 16) (tgt := 184) (q := (m_X9_borne (q5.2.2.1 19 0 v4.toNatClampNeg) q5.1 (3 : Int32) q5.2) = (-1 : Int32)) rfl trivial (by decide +kernel) rfl (by decide) (fun h16 => ?_) (fun h16 => ?_)
            · rw [if_pos h16] at hm
              refine XW.bk B [(184, .iload 8), (186, .goto 5), (191, .iastore), (192, .iinc 4 (-1)), (195, .goto (-132))] (by decide +kernel) (pc1 := 63) (ls1 := [some (aR 17 0), some (aI v1), some (aI v2), some (aI v3), some (aI (v4 + (-1 : Int32))), some (aI q5.1), some (aI (3 : Int32)), some (aI (m_X9_borne (q5.2.2.1 19 0 v4.toNatClampNeg) q5.1 (3 : Int32) q5.2)), some (aI (m_X9_borne (q5.2.2.1 19 0 (v4 - (1 : Int32)).toNatClampNeg) q5.1 (0 : Int32) q5.2))]) (st1 := []) (σ1 := (sA q5.2 19 0 v4.toNatClampNeg (m_X9_borne (q5.2.2.1 19 0 (v4 - (1 : Int32)).toNatClampNeg) q5.1 (0 : Int32) q5.2))) (P := [vp_in v4 12]) rfl ⟨g12, trivial⟩ ?_
              refine XW.loc [true, true, true, true, true, false, false, false, false] rfl ?_
              exact ih v1 v2 v3 (v4 + (-1 : Int32)) (sA q5.2 19 0 v4.toNatClampNeg (m_X9_borne (q5.2.2.1 19 0 (v4 - (1 : Int32)).toNatClampNeg) q5.1 (0 : Int32) q5.2)) hm
            · rw [if_neg h16] at hm
              refine XW.bb B [(171, .iload 8), (173, .iconst (-1))] (by decide +kernel) (pc1 := 174) (ls1 := [some (aR 17 0), some (aI v1), some (aI v2), some (aI v3), some (aI v4), some (aI q5.1), some (aI (3 : Int32)), some (aI (m_X9_borne (q5.2.2.1 19 0 v4.toNatClampNeg) q5.1 (3 : Int32) q5.2)), some (aI (m_X9_borne (q5.2.2.1 19 0 (v4 - (1 : Int32)).toNatClampNeg) q5.1 (0 : Int32) q5.2))]) (st1 := [aI (-1 : Int32), aI (m_X9_borne (q5.2.2.1 19 0 (v4 - (1 : Int32)).toNatClampNeg) q5.1 (0 : Int32) q5.2), aI v4, aR 19 0]) (σ1 := q5.2) (P := []) (i := .if_icmp .eq 15) (tgt := 189) (q := (m_X9_borne (q5.2.2.1 19 0 (v4 - (1 : Int32)).toNatClampNeg) q5.1 (0 : Int32) q5.2) = (-1 : Int32)) rfl trivial (by decide +kernel) rfl (by decide) (fun h17 => ?_) (fun h17 => ?_)
              · rw [if_pos h17] at hm
                refine XW.bk B [(189, .iload 7), (191, .iastore), (192, .iinc 4 (-1)), (195, .goto (-132))] (by decide +kernel) (pc1 := 63) (ls1 := [some (aR 17 0), some (aI v1), some (aI v2), some (aI v3), some (aI (v4 + (-1 : Int32))), some (aI q5.1), some (aI (3 : Int32)), some (aI (m_X9_borne (q5.2.2.1 19 0 v4.toNatClampNeg) q5.1 (3 : Int32) q5.2)), some (aI (m_X9_borne (q5.2.2.1 19 0 (v4 - (1 : Int32)).toNatClampNeg) q5.1 (0 : Int32) q5.2))]) (st1 := []) (σ1 := (sA q5.2 19 0 v4.toNatClampNeg (m_X9_borne (q5.2.2.1 19 0 v4.toNatClampNeg) q5.1 (3 : Int32) q5.2))) (P := [vp_in v4 12]) rfl ⟨g12, trivial⟩ ?_
                refine XW.loc [true, true, true, true, true, false, false, false, false] rfl ?_
                exact ih v1 v2 v3 (v4 + (-1 : Int32)) (sA q5.2 19 0 v4.toNatClampNeg (m_X9_borne (q5.2.2.1 19 0 v4.toNatClampNeg) q5.1 (3 : Int32) q5.2)) hm
              · rw [if_neg h17] at hm
                refine XW.bb B [(177, .iload 8), (179, .iload 7)] (by decide +kernel) (pc1 := 181) (ls1 := [some (aR 17 0), some (aI v1), some (aI v2), some (aI v3), some (aI v4), some (aI q5.1), some (aI (3 : Int32)), some (aI (m_X9_borne (q5.2.2.1 19 0 v4.toNatClampNeg) q5.1 (3 : Int32) q5.2)), some (aI (m_X9_borne (q5.2.2.1 19 0 (v4 - (1 : Int32)).toNatClampNeg) q5.1 (0 : Int32) q5.2))]) (st1 := [aI (m_X9_borne (q5.2.2.1 19 0 v4.toNatClampNeg) q5.1 (3 : Int32) q5.2), aI (m_X9_borne (q5.2.2.1 19 0 (v4 - (1 : Int32)).toNatClampNeg) q5.1 (0 : Int32) q5.2), aI v4, aR 19 0]) (σ1 := q5.2) (P := []) (i := .if_icmp .ge 8) (tgt := 189) (q := (m_X9_borne (q5.2.2.1 19 0 v4.toNatClampNeg) q5.1 (3 : Int32) q5.2) ≤ (m_X9_borne (q5.2.2.1 19 0 (v4 - (1 : Int32)).toNatClampNeg) q5.1 (0 : Int32) q5.2)) rfl trivial (by decide +kernel) rfl (by decide) (fun h18 => ?_) (fun h18 => ?_)
                · rw [if_pos h18] at hm
                  refine XW.bk B [(189, .iload 7), (191, .iastore), (192, .iinc 4 (-1)), (195, .goto (-132))] (by decide +kernel) (pc1 := 63) (ls1 := [some (aR 17 0), some (aI v1), some (aI v2), some (aI v3), some (aI (v4 + (-1 : Int32))), some (aI q5.1), some (aI (3 : Int32)), some (aI (m_X9_borne (q5.2.2.1 19 0 v4.toNatClampNeg) q5.1 (3 : Int32) q5.2)), some (aI (m_X9_borne (q5.2.2.1 19 0 (v4 - (1 : Int32)).toNatClampNeg) q5.1 (0 : Int32) q5.2))]) (st1 := []) (σ1 := (sA q5.2 19 0 v4.toNatClampNeg (m_X9_borne (q5.2.2.1 19 0 v4.toNatClampNeg) q5.1 (3 : Int32) q5.2))) (P := [vp_in v4 12]) rfl ⟨g12, trivial⟩ ?_
                  refine XW.loc [true, true, true, true, true, false, false, false, false] rfl ?_
                  exact ih v1 v2 v3 (v4 + (-1 : Int32)) (sA q5.2 19 0 v4.toNatClampNeg (m_X9_borne (q5.2.2.1 19 0 v4.toNatClampNeg) q5.1 (3 : Int32) q5.2)) hm
                · rw [if_neg h18] at hm
                  refine XW.bk B [(184, .iload 8), (186, .goto 5), (191, .iastore), (192, .iinc 4 (-1)), (195, .goto (-132))] (by decide +kernel) (pc1 := 63) (ls1 := [some (aR 17 0), some (aI v1), some (aI v2), some (aI v3), some (aI (v4 + (-1 : Int32))), some (aI q5.1), some (aI (3 : Int32)), some (aI (m_X9_borne (q5.2.2.1 19 0 v4.toNatClampNeg) q5.1 (3 : Int32) q5.2)), some (aI (m_X9_borne (q5.2.2.1 19 0 (v4 - (1 : Int32)).toNatClampNeg) q5.1 (0 : Int32) q5.2))]) (st1 := []) (σ1 := (sA q5.2 19 0 v4.toNatClampNeg (m_X9_borne (q5.2.2.1 19 0 (v4 - (1 : Int32)).toNatClampNeg) q5.1 (0 : Int32) q5.2))) (P := [vp_in v4 12]) rfl ⟨g12, trivial⟩ ?_
                  refine XW.loc [true, true, true, true, true, false, false, false, false] rfl ?_
                  exact ih v1 v2 v3 (v4 + (-1 : Int32)) (sA q5.2 19 0 v4.toNatClampNeg (m_X9_borne (q5.2.2.1 19 0 (v4 - (1 : Int32)).toNatClampNeg) q5.1 (0 : Int32) q5.2)) hm
      · rw [if_neg h6] at hm
        refine XW.bn B [(102, .iconst 0), (103, .istore 6), (105, .iload 4), (107, .iload_n 3)] (by decide +kernel) (pc1 := 108) (ls1 := [some (aR 17 0), some (aI v1), some (aI v2), some (aI v3), some (aI v4), some (aI q5.1), some (aI (0 : Int32)), none, none]) (st1 := [aI v3, aI v4]) (σ1 := q5.2) (P := []) (i := .if_icmp .ne 7) (tgt := 115) (q := v4 = v3) rfl trivial (by decide +kernel) rfl (by decide) (fun h19 => ?_) (fun h19 => ?_)
        · rw [if_pos h19] at hm
          refine XW.bn B [(111, .iconst (-1)), (112, .goto 18), (130, .istore 7), (132, .iload 4)] (by decide +kernel) (pc1 := 134) (ls1 := [some (aR 17 0), some (aI v1), some (aI v2), some (aI v3), some (aI v4), some (aI q5.1), some (aI (0 : Int32)), some (aI (-1 : Int32)), none]) (st1 := [aI v4]) (σ1 := q5.2) (P := []) (i := .ifCond .ne 7) (tgt := 141) (q := v4 = (0 : Int32)) rfl trivial (by decide +kernel) rfl (by decide) (fun h20 => ?_) (fun h20 => ?_)
          · rw [if_pos h20] at hm
            refine XW.bb B [(137, .iconst (-1)), (138, .goto 19), (157, .istore 8), (159, .aload_n 0), (160, .getfield 15), (163, .iload 4), (165, .iload 7), (167, .iconst (-1))] (by decide +kernel) (pc1 := 168) (ls1 := [some (aR 17 0), some (aI v1), some (aI v2), some (aI v3), some (aI v4), some (aI q5.1), some (aI (0 : Int32)), some (aI (-1 : Int32)), some (aI (-1 : Int32))]) (st1 := [aI (-1 : Int32), aI (-1 : Int32), aI v4, aR 19 0]) (σ1 := q5.2) (P := []) (i := .if_icmp .eq 16) (tgt := 184) (q := (-1 : Int32) = (-1 : Int32)) rfl trivial (by decide +kernel) rfl (by decide) (fun _ => ?_) (fun h => absurd (by decide) h)
            refine XW.bk B [(184, .iload 8), (186, .goto 5)] (by decide +kernel) (pc1 := 191) (ls1 := [some (aR 17 0), some (aI v1), some (aI v2), some (aI v3), some (aI v4), some (aI q5.1), some (aI (0 : Int32)), some (aI (-1 : Int32)), some (aI (-1 : Int32))]) (st1 := [aI (-1 : Int32), aI v4, aR 19 0]) (σ1 := q5.2) (P := []) rfl trivial ?_
            by_cases g21 : v4 < 0 ∨ 12 ≤ v4.toNatClampNeg
            · rw [if_pos g21] at hm; cases hm
            rw [if_neg g21] at hm
            refine XW.bk B [(191, .iastore), (192, .iinc 4 (-1)), (195, .goto (-132))] (by decide +kernel) (pc1 := 63) (ls1 := [some (aR 17 0), some (aI v1), some (aI v2), some (aI v3), some (aI (v4 + (-1 : Int32))), some (aI q5.1), some (aI (0 : Int32)), some (aI (-1 : Int32)), some (aI (-1 : Int32))]) (st1 := []) (σ1 := (sA q5.2 19 0 v4.toNatClampNeg (-1 : Int32))) (P := [vp_in v4 12]) rfl ⟨g21, trivial⟩ ?_
            refine XW.loc [true, true, true, true, true, false, false, false, false] rfl ?_
            exact ih v1 v2 v3 (v4 + (-1 : Int32)) (sA q5.2 19 0 v4.toNatClampNeg (-1 : Int32)) hm
          · rw [if_neg h20] at hm
            refine XW.bk B [(141, .aload_n 0), (142, .aload_n 0), (143, .getfield 15), (146, .iload 4), (148, .iconst 1), (149, .isub)] (by decide +kernel) (pc1 := 150) (ls1 := [some (aR 17 0), some (aI v1), some (aI v2), some (aI v3), some (aI v4), some (aI q5.1), some (aI (0 : Int32)), some (aI (-1 : Int32)), none]) (st1 := [aI (v4 - (1 : Int32)), aR 19 0, aR 17 0]) (σ1 := q5.2) (P := []) rfl trivial ?_
            by_cases g22 : (v4 - (1 : Int32)) < 0 ∨ 12 ≤ (v4 - (1 : Int32)).toNatClampNeg
            · rw [if_pos g22] at hm; cases hm
            rw [if_neg g22] at hm
            refine XW.bk B [(150, .iaload), (151, .iload 5), (153, .iconst 0)] (by decide +kernel) (pc1 := 154) (ls1 := [some (aR 17 0), some (aI v1), some (aI v2), some (aI v3), some (aI v4), some (aI q5.1), some (aI (0 : Int32)), some (aI (-1 : Int32)), none]) (st1 := [aI (0 : Int32), aI q5.1, aI (q5.2.2.1 19 0 (v4 - (1 : Int32)).toNatClampNeg), aR 17 0]) (σ1 := q5.2) (P := [vp_in (v4 - (1 : Int32)) 12]) rfl ⟨g22, trivial⟩ ?_
            refine XW.callV B (M := M_X9_borne) (t := 17) (j := 0) (cn := 1) (as := [aI (q5.2.2.1 19 0 (v4 - (1 : Int32)).toNatClampNeg), aI q5.1, aI (0 : Int32)]) (c_X9_borne (q5.2.2.1 19 0 (v4 - (1 : Int32)).toNatClampNeg) q5.1 (0 : Int32) q5.2 rfl) (by decide) wV_X9_borne wN_X9_borne lk_X9_103 rfl rfl rfl (by decide) rfl (Nat.le_of_ble_eq_true rfl) (by decide +kernel) ?_
            refine XW.bb B [(157, .istore 8), (159, .aload_n 0), (160, .getfield 15), (163, .iload 4), (165, .iload 7), (167, .iconst (-1))] (by decide +kernel) (pc1 := 168) (ls1 := [some (aR 17 0), some (aI v1), some (aI v2), some (aI v3), some (aI v4), some (aI q5.1), some (aI (0 : Int32)), some (aI (-1 : Int32)), some (aI (m_X9_borne (q5.2.2.1 19 0 (v4 - (1 : Int32)).toNatClampNeg) q5.1 (0 : Int32) q5.2))]) (st1 := [aI (-1 : Int32), aI (-1 : Int32), aI v4, aR 19 0]) (σ1 := q5.2) (P := []) (i := .if_icmp .eq 16) (tgt := 184) (q := (-1 : Int32) = (-1 : Int32)) rfl trivial (by decide +kernel) rfl (by decide) (fun _ => ?_) (fun h => absurd (by decide) h)
            refine XW.bk B [(184, .iload 8), (186, .goto 5)] (by decide +kernel) (pc1 := 191) (ls1 := [some (aR 17 0), some (aI v1), some (aI v2), some (aI v3), some (aI v4), some (aI q5.1), some (aI (0 : Int32)), some (aI (-1 : Int32)), some (aI (m_X9_borne (q5.2.2.1 19 0 (v4 - (1 : Int32)).toNatClampNeg) q5.1 (0 : Int32) q5.2))]) (st1 := [aI (m_X9_borne (q5.2.2.1 19 0 (v4 - (1 : Int32)).toNatClampNeg) q5.1 (0 : Int32) q5.2), aI v4, aR 19 0]) (σ1 := q5.2) (P := []) rfl trivial ?_
            by_cases g23 : v4 < 0 ∨ 12 ≤ v4.toNatClampNeg
            · rw [if_pos g23] at hm; cases hm
            rw [if_neg g23] at hm
            refine XW.bk B [(191, .iastore), (192, .iinc 4 (-1)), (195, .goto (-132))] (by decide +kernel) (pc1 := 63) (ls1 := [some (aR 17 0), some (aI v1), some (aI v2), some (aI v3), some (aI (v4 + (-1 : Int32))), some (aI q5.1), some (aI (0 : Int32)), some (aI (-1 : Int32)), some (aI (m_X9_borne (q5.2.2.1 19 0 (v4 - (1 : Int32)).toNatClampNeg) q5.1 (0 : Int32) q5.2))]) (st1 := []) (σ1 := (sA q5.2 19 0 v4.toNatClampNeg (m_X9_borne (q5.2.2.1 19 0 (v4 - (1 : Int32)).toNatClampNeg) q5.1 (0 : Int32) q5.2))) (P := [vp_in v4 12]) rfl ⟨g23, trivial⟩ ?_
            refine XW.loc [true, true, true, true, true, false, false, false, false] rfl ?_
            exact ih v1 v2 v3 (v4 + (-1 : Int32)) (sA q5.2 19 0 v4.toNatClampNeg (m_X9_borne (q5.2.2.1 19 0 (v4 - (1 : Int32)).toNatClampNeg) q5.1 (0 : Int32) q5.2)) hm
        · rw [if_neg h19] at hm
          refine XW.bk B [(115, .aload_n 0), (116, .aload_n 0), (117, .getfield 15), (120, .iload 4)] (by decide +kernel) (pc1 := 122) (ls1 := [some (aR 17 0), some (aI v1), some (aI v2), some (aI v3), some (aI v4), some (aI q5.1), some (aI (0 : Int32)), none, none]) (st1 := [aI v4, aR 19 0, aR 17 0]) (σ1 := q5.2) (P := []) rfl trivial ?_
          by_cases g24 : v4 < 0 ∨ 12 ≤ v4.toNatClampNeg
          · rw [if_pos g24] at hm; cases hm
          rw [if_neg g24] at hm
          refine XW.bk B [(122, .iaload), (123, .iload 5), (125, .iload 6)] (by decide +kernel) (pc1 := 127) (ls1 := [some (aR 17 0), some (aI v1), some (aI v2), some (aI v3), some (aI v4), some (aI q5.1), some (aI (0 : Int32)), none, none]) (st1 := [aI (0 : Int32), aI q5.1, aI (q5.2.2.1 19 0 v4.toNatClampNeg), aR 17 0]) (σ1 := q5.2) (P := [vp_in v4 12]) rfl ⟨g24, trivial⟩ ?_
          refine XW.callV B (M := M_X9_borne) (t := 17) (j := 0) (cn := 1) (as := [aI (q5.2.2.1 19 0 v4.toNatClampNeg), aI q5.1, aI (0 : Int32)]) (c_X9_borne (q5.2.2.1 19 0 v4.toNatClampNeg) q5.1 (0 : Int32) q5.2 rfl) (by decide) wV_X9_borne wN_X9_borne lk_X9_103 rfl rfl rfl (by decide) rfl (Nat.le_of_ble_eq_true rfl) (by decide +kernel) ?_
          refine XW.bn B [(130, .istore 7), (132, .iload 4)] (by decide +kernel) (pc1 := 134) (ls1 := [some (aR 17 0), some (aI v1), some (aI v2), some (aI v3), some (aI v4), some (aI q5.1), some (aI (0 : Int32)), some (aI (m_X9_borne (q5.2.2.1 19 0 v4.toNatClampNeg) q5.1 (0 : Int32) q5.2)), none]) (st1 := [aI v4]) (σ1 := q5.2) (P := []) (i := .ifCond .ne 7) (tgt := 141) (q := v4 = (0 : Int32)) rfl trivial (by decide +kernel) rfl (by decide) (fun h25 => ?_) (fun h25 => ?_)
          · rw [if_pos h25] at hm
            refine XW.bb B [(137, .iconst (-1)), (138, .goto 19), (157, .istore 8), (159, .aload_n 0), (160, .getfield 15), (163, .iload 4), (165, .iload 7), (167, .iconst (-1))] (by decide +kernel) (pc1 := 168) (ls1 := [some (aR 17 0), some (aI v1), some (aI v2), some (aI v3), some (aI v4), some (aI q5.1), some (aI (0 : Int32)), some (aI (m_X9_borne (q5.2.2.1 19 0 v4.toNatClampNeg) q5.1 (0 : Int32) q5.2)), some (aI (-1 : Int32))]) (st1 := [aI (-1 : Int32), aI (m_X9_borne (q5.2.2.1 19 0 v4.toNatClampNeg) q5.1 (0 : Int32) q5.2), aI v4, aR 19 0]) (σ1 := q5.2) (P := []) (i := .if_icmp .eq 16) (tgt := 184) (q := (m_X9_borne (q5.2.2.1 19 0 v4.toNatClampNeg) q5.1 (0 : Int32) q5.2) = (-1 : Int32)) rfl trivial (by decide +kernel) rfl (by decide) (fun h26 => ?_) (fun h26 => ?_)
            · rw [if_pos h26] at hm
              refine XW.bk B [(184, .iload 8), (186, .goto 5), (191, .iastore), (192, .iinc 4 (-1)), (195, .goto (-132))] (by decide +kernel) (pc1 := 63) (ls1 := [some (aR 17 0), some (aI v1), some (aI v2), some (aI v3), some (aI (v4 + (-1 : Int32))), some (aI q5.1), some (aI (0 : Int32)), some (aI (m_X9_borne (q5.2.2.1 19 0 v4.toNatClampNeg) q5.1 (0 : Int32) q5.2)), some (aI (-1 : Int32))]) (st1 := []) (σ1 := (sA q5.2 19 0 v4.toNatClampNeg (-1 : Int32))) (P := [vp_in v4 12]) rfl ⟨g24, trivial⟩ ?_
              refine XW.loc [true, true, true, true, true, false, false, false, false] rfl ?_
              exact ih v1 v2 v3 (v4 + (-1 : Int32)) (sA q5.2 19 0 v4.toNatClampNeg (-1 : Int32)) hm
            · rw [if_neg h26] at hm
              refine XW.bb B [(171, .iload 8), (173, .iconst (-1))] (by decide +kernel) (pc1 := 174) (ls1 := [some (aR 17 0), some (aI v1), some (aI v2), some (aI v3), some (aI v4), some (aI q5.1), some (aI (0 : Int32)), some (aI (m_X9_borne (q5.2.2.1 19 0 v4.toNatClampNeg) q5.1 (0 : Int32) q5.2)), some (aI (-1 : Int32))]) (st1 := [aI (-1 : Int32), aI (-1 : Int32), aI v4, aR 19 0]) (σ1 := q5.2) (P := []) (i := .if_icmp .eq 15) (tgt := 189) (q := (-1 : Int32) = (-1 : Int32)) rfl trivial (by decide +kernel) rfl (by decide) (fun _ => ?_) (fun h => absurd (by decide) h)
              refine XW.bk B [(189, .iload 7), (191, .iastore), (192, .iinc 4 (-1)), (195, .goto (-132))] (by decide +kernel) (pc1 := 63) (ls1 := [some (aR 17 0), some (aI v1), some (aI v2), some (aI v3), some (aI (v4 + (-1 : Int32))), some (aI q5.1), some (aI (0 : Int32)), some (aI (m_X9_borne (q5.2.2.1 19 0 v4.toNatClampNeg) q5.1 (0 : Int32) q5.2)), some (aI (-1 : Int32))]) (st1 := []) (σ1 := (sA q5.2 19 0 v4.toNatClampNeg (m_X9_borne (q5.2.2.1 19 0 v4.toNatClampNeg) q5.1 (0 : Int32) q5.2))) (P := [vp_in v4 12]) rfl ⟨g24, trivial⟩ ?_
              refine XW.loc [true, true, true, true, true, false, false, false, false] rfl ?_
              exact ih v1 v2 v3 (v4 + (-1 : Int32)) (sA q5.2 19 0 v4.toNatClampNeg (m_X9_borne (q5.2.2.1 19 0 v4.toNatClampNeg) q5.1 (0 : Int32) q5.2)) hm
          · rw [if_neg h25] at hm
            refine XW.bk B [(141, .aload_n 0), (142, .aload_n 0), (143, .getfield 15), (146, .iload 4), (148, .iconst 1), (149, .isub)] (by decide +kernel) (pc1 := 150) (ls1 := [some (aR 17 0), some (aI v1), some (aI v2), some (aI v3), some (aI v4), some (aI q5.1), some (aI (0 : Int32)), some (aI (m_X9_borne (q5.2.2.1 19 0 v4.toNatClampNeg) q5.1 (0 : Int32) q5.2)), none]) (st1 := [aI (v4 - (1 : Int32)), aR 19 0, aR 17 0]) (σ1 := q5.2) (P := []) rfl trivial ?_
            by_cases g27 : (v4 - (1 : Int32)) < 0 ∨ 12 ≤ (v4 - (1 : Int32)).toNatClampNeg
            · rw [if_pos g27] at hm; cases hm
            rw [if_neg g27] at hm
            refine XW.bk B [(150, .iaload), (151, .iload 5), (153, .iconst 0)] (by decide +kernel) (pc1 := 154) (ls1 := [some (aR 17 0), some (aI v1), some (aI v2), some (aI v3), some (aI v4), some (aI q5.1), some (aI (0 : Int32)), some (aI (m_X9_borne (q5.2.2.1 19 0 v4.toNatClampNeg) q5.1 (0 : Int32) q5.2)), none]) (st1 := [aI (0 : Int32), aI q5.1, aI (q5.2.2.1 19 0 (v4 - (1 : Int32)).toNatClampNeg), aR 17 0]) (σ1 := q5.2) (P := [vp_in (v4 - (1 : Int32)) 12]) rfl ⟨g27, trivial⟩ ?_
            refine XW.callV B (M := M_X9_borne) (t := 17) (j := 0) (cn := 1) (as := [aI (q5.2.2.1 19 0 (v4 - (1 : Int32)).toNatClampNeg), aI q5.1, aI (0 : Int32)]) (c_X9_borne (q5.2.2.1 19 0 (v4 - (1 : Int32)).toNatClampNeg) q5.1 (0 : Int32) q5.2 rfl) (by decide) wV_X9_borne wN_X9_borne lk_X9_103 rfl rfl rfl (by decide) rfl (Nat.le_of_ble_eq_true rfl) (by decide +kernel) ?_
            refine XW.bb B [(157, .istore 8), (159, .aload_n 0), (160, .getfield 15), (163, .iload 4), (165, .iload 7), (167, .iconst (-1))] (by decide +kernel) (pc1 := 168) (ls1 := [some (aR 17 0), some (aI v1), some (aI v2), some (aI v3), some (aI v4), some (aI q5.1), some (aI (0 : Int32)), some (aI (m_X9_borne (q5.2.2.1 19 0 v4.toNatClampNeg) q5.1 (0 : Int32) q5.2)), some (aI (m_X9_borne (q5.2.2.1 19 0 (v4 - (1 : Int32)).toNatClampNeg) q5.1 (0 : Int32) q5.2))]) (st1 := [aI (-1 : Int32), aI (m_X9_borne (q5.2.2.1 19 0 v4.toNatClampNeg) q5.1 (0 : Int32) q5.2), aI v4, aR 19 0]) (σ1 := q5.2) (P := []) (i := .if_icmp .eq 16) (tgt := 184) (q := (m_X9_borne (q5.2.2.1 19 0 v4.toNatClampNeg) q5.1 (0 : Int32) q5.2) = (-1 : Int32)) rfl trivial (by decide +kernel) rfl (by decide) (fun h28 => ?_) (fun h28 => ?_)
            · rw [if_pos h28] at hm
              refine XW.bk B [(184, .iload 8), (186, .goto 5), (191, .iastore), (192, .iinc 4 (-1)), (195, .goto (-132))] (by decide +kernel) (pc1 := 63) (ls1 := [some (aR 17 0), some (aI v1), some (aI v2), some (aI v3), some (aI (v4 + (-1 : Int32))), some (aI q5.1), some (aI (0 : Int32)), some (aI (m_X9_borne (q5.2.2.1 19 0 v4.toNatClampNeg) q5.1 (0 : Int32) q5.2)), some (aI (m_X9_borne (q5.2.2.1 19 0 (v4 - (1 : Int32)).toNatClampNeg) q5.1 (0 : Int32) q5.2))]) (st1 := []) (σ1 := (sA q5.2 19 0 v4.toNatClampNeg (m_X9_borne (q5.2.2.1 19 0 (v4 - (1 : Int32)).toNatClampNeg) q5.1 (0 : Int32) q5.2))) (P := [vp_in v4 12]) rfl ⟨g24, trivial⟩ ?_
              refine XW.loc [true, true, true, true, true, false, false, false, false] rfl ?_
              exact ih v1 v2 v3 (v4 + (-1 : Int32)) (sA q5.2 19 0 v4.toNatClampNeg (m_X9_borne (q5.2.2.1 19 0 (v4 - (1 : Int32)).toNatClampNeg) q5.1 (0 : Int32) q5.2)) hm
            · rw [if_neg h28] at hm
              refine XW.bb B [(171, .iload 8), (173, .iconst (-1))] (by decide +kernel) (pc1 := 174) (ls1 := [some (aR 17 0), some (aI v1), some (aI v2), some (aI v3), some (aI v4), some (aI q5.1), some (aI (0 : Int32)), some (aI (m_X9_borne (q5.2.2.1 19 0 v4.toNatClampNeg) q5.1 (0 : Int32) q5.2)), some (aI (m_X9_borne (q5.2.2.1 19 0 (v4 - (1 : Int32)).toNatClampNeg) q5.1 (0 : Int32) q5.2))]) (st1 := [aI (-1 : Int32), aI (m_X9_borne (q5.2.2.1 19 0 (v4 - (1 : Int32)).toNatClampNeg) q5.1 (0 : Int32) q5.2), aI v4, aR 19 0]) (σ1 := q5.2) (P := []) (i := .if_icmp .eq 15) (tgt := 189) (q := (m_X9_borne (q5.2.2.1 19 0 (v4 - (1 : Int32)).toNatClampNeg) q5.1 (0 : Int32) q5.2) = (-1 : Int32)) rfl trivial (by decide +kernel) rfl (by decide) (fun h29 => ?_) (fun h29 => ?_)
              · rw [if_pos h29] at hm
                refine XW.bk B [(189, .iload 7), (191, .iastore), (192, .iinc 4 (-1)), (195, .goto (-132))] (by decide +kernel) (pc1 := 63) (ls1 := [some (aR 17 0), some (aI v1), some (aI v2), some (aI v3), some (aI (v4 + (-1 : Int32))), some (aI q5.1), some (aI (0 : Int32)), some (aI (m_X9_borne (q5.2.2.1 19 0 v4.toNatClampNeg) q5.1 (0 : Int32) q5.2)), some (aI (m_X9_borne (q5.2.2.1 19 0 (v4 - (1 : Int32)).toNatClampNeg) q5.1 (0 : Int32) q5.2))]) (st1 := []) (σ1 := (sA q5.2 19 0 v4.toNatClampNeg (m_X9_borne (q5.2.2.1 19 0 v4.toNatClampNeg) q5.1 (0 : Int32) q5.2))) (P := [vp_in v4 12]) rfl ⟨g24, trivial⟩ ?_
                refine XW.loc [true, true, true, true, true, false, false, false, false] rfl ?_
                exact ih v1 v2 v3 (v4 + (-1 : Int32)) (sA q5.2 19 0 v4.toNatClampNeg (m_X9_borne (q5.2.2.1 19 0 v4.toNatClampNeg) q5.1 (0 : Int32) q5.2)) hm
              · rw [if_neg h29] at hm
                refine XW.bb B [(177, .iload 8), (179, .iload 7)] (by decide +kernel) (pc1 := 181) (ls1 := [some (aR 17 0), some (aI v1), some (aI v2), some (aI v3), some (aI v4), some (aI q5.1), some (aI (0 : Int32)), some (aI (m_X9_borne (q5.2.2.1 19 0 v4.toNatClampNeg) q5.1 (0 : Int32) q5.2)), some (aI (m_X9_borne (q5.2.2.1 19 0 (v4 - (1 : Int32)).toNatClampNeg) q5.1 (0 : Int32) q5.2))]) (st1 := [aI (m_X9_borne (q5.2.2.1 19 0 v4.toNatClampNeg) q5.1 (0 : Int32) q5.2), aI (m_X9_borne (q5.2.2.1 19 0 (v4 - (1 : Int32)).toNatClampNeg) q5.1 (0 : Int32) q5.2), aI v4, aR 19 0]) (σ1 := q5.2) (P := []) (i := .if_icmp .ge 8) (tgt := 189) (q := (m_X9_borne (q5.2.2.1 19 0 v4.toNatClampNeg) q5.1 (0 : Int32) q5.2) ≤ (m_X9_borne (q5.2.2.1 19 0 (v4 - (1 : Int32)).toNatClampNeg) q5.1 (0 : Int32) q5.2)) rfl trivial (by decide +kernel) rfl (by decide) (fun h30 => ?_) (fun h30 => ?_)
                · rw [if_pos h30] at hm
                  refine XW.bk B [(189, .iload 7), (191, .iastore), (192, .iinc 4 (-1)), (195, .goto (-132))] (by decide +kernel) (pc1 := 63) (ls1 := [some (aR 17 0), some (aI v1), some (aI v2), some (aI v3), some (aI (v4 + (-1 : Int32))), some (aI q5.1), some (aI (0 : Int32)), some (aI (m_X9_borne (q5.2.2.1 19 0 v4.toNatClampNeg) q5.1 (0 : Int32) q5.2)), some (aI (m_X9_borne (q5.2.2.1 19 0 (v4 - (1 : Int32)).toNatClampNeg) q5.1 (0 : Int32) q5.2))]) (st1 := []) (σ1 := (sA q5.2 19 0 v4.toNatClampNeg (m_X9_borne (q5.2.2.1 19 0 v4.toNatClampNeg) q5.1 (0 : Int32) q5.2))) (P := [vp_in v4 12]) rfl ⟨g24, trivial⟩ ?_
                  refine XW.loc [true, true, true, true, true, false, false, false, false] rfl ?_
                  exact ih v1 v2 v3 (v4 + (-1 : Int32)) (sA q5.2 19 0 v4.toNatClampNeg (m_X9_borne (q5.2.2.1 19 0 v4.toNatClampNeg) q5.1 (0 : Int32) q5.2)) hm
                · rw [if_neg h30] at hm
                  refine XW.bk B [(184, .iload 8), (186, .goto 5), (191, .iastore), (192, .iinc 4 (-1)), (195, .goto (-132))] (by decide +kernel) (pc1 := 63) (ls1 := [some (aR 17 0), some (aI v1), some (aI v2), some (aI v3), some (aI (v4 + (-1 : Int32))), some (aI q5.1), some (aI (0 : Int32)), some (aI (m_X9_borne (q5.2.2.1 19 0 v4.toNatClampNeg) q5.1 (0 : Int32) q5.2)), some (aI (m_X9_borne (q5.2.2.1 19 0 (v4 - (1 : Int32)).toNatClampNeg) q5.1 (0 : Int32) q5.2))]) (st1 := []) (σ1 := (sA q5.2 19 0 v4.toNatClampNeg (m_X9_borne (q5.2.2.1 19 0 (v4 - (1 : Int32)).toNatClampNeg) q5.1 (0 : Int32) q5.2))) (P := [vp_in v4 12]) rfl ⟨g24, trivial⟩ ?_
                  refine XW.loc [true, true, true, true, true, false, false, false, false] rfl ?_
                  exact ih v1 v2 v3 (v4 + (-1 : Int32)) (sA q5.2 19 0 v4.toNatClampNeg (m_X9_borne (q5.2.2.1 19 0 (v4 - (1 : Int32)).toNatClampNeg) q5.1 (0 : Int32) q5.2)) hm
set_option maxRecDepth 100000 in
set_option maxHeartbeats 4000000 in
theorem c_X9_reachBy (x1 : Int32) (x2 : Int32) (σ : SS) {σ' : SS} (hm : m_X9_reachBy x1 x2 σ = some σ') : XM LC 5 M_X9_reachBy [aR 17 0, aI x1, aI x2] σ none σ' := by
  refine XM.of (K := K9) (by decide) (by decide +kernel) K9_ok (Nat.le_of_ble_eq_true rfl) (fun Γ B q => ?_)
  unfold m_X9_reachBy at hm
  refine XW.bn B [(0, .iload_n 2)] (by decide +kernel) (pc1 := 1) (ls1 := [some (aR 17 0), some (aI x1), some (aI x2), none, none, none, none, none, none]) (st1 := [aI x2]) (σ1 := σ) (P := []) (i := .ifCond .ne 41) (tgt := 42) (q := x2 = (0 : Int32)) rfl trivial (by decide +kernel) rfl (by decide) (fun h1 => ?_) (fun h1 => ?_)
  · rw [if_pos h1] at hm
    refine XW.bk B [(4, .aload_n 0), (5, .getfield 22)] (by decide +kernel) (pc1 := 8) (ls1 := [some (aR 17 0), some (aI x1), some (aI x2), none, none, none, none, none, none]) (st1 := [aR 14 0]) (σ1 := σ) (P := []) rfl trivial ?_
    obtain ⟨q2, hq2, hm⟩ := bnT_eq hm
    refine XW.callV B (M := M_X7_supposeNow) (t := 14) (j := 0) (cn := 1) (as := []) (c_X7_supposeNow σ hq2) (by decide) wV_X7_supposeNow wN_X7_supposeNow lk_X9_58 rfl rfl rfl (by decide) rfl (Nat.le_of_ble_eq_true rfl) (by decide +kernel) ?_
    refine XW.bk B [(11, .aload_n 0), (12, .getfield 15), (15, .iconst (-1))] (by decide +kernel) (pc1 := 16) (ls1 := [some (aR 17 0), some (aI x1), some (aI x2), none, none, none, none, none, none]) (st1 := [aI (-1 : Int32), aR 19 0]) (σ1 := q2) (P := []) rfl trivial ?_
    refine XW.callS B (M := M_fillI) (as := [aR 19 0, aI (-1 : Int32)]) (c_fillI (cn := 1) (n := 12) rfl (by decide) (by decide) (-1 : Int32) q2) (by decide) wS_fillI wN_fillI lk_X9_97 rfl (Nat.le_of_ble_eq_true rfl) (by decide +kernel) ?_
    refine XW.bk B [(19, .aload_n 0), (20, .getfield 15), (23, .iconst 0), (24, .aload_n 0), (25, .iconst 0), (26, .aload_n 0), (27, .getfield 22), (30, .iconst 0), (31, .iconst 0), (32, .iload_n 1)] (by decide +kernel) (pc1 := 33) (ls1 := [some (aR 17 0), some (aI x1), some (aI x2), none, none, none, none, none, none]) (st1 := [aI x1, aI (0 : Int32), aI (0 : Int32), aR 14 0, aI (0 : Int32), aR 17 0, aI (0 : Int32), aR 19 0]) (σ1 := (sAf q2 19 0 (fillF (q2.2.1 19 0) (-1 : Int32) 12))) (P := []) rfl trivial ?_
    obtain ⟨q3, hq3, hm⟩ := obind_eq hm
    refine XW.callV B (M := M_X7_inMinute) (t := 14) (j := 0) (cn := 1) (as := [aI (0 : Int32), aI (0 : Int32), aI x1]) (c_X7_inMinute (0 : Int32) (0 : Int32) x1 (sAf q2 19 0 (fillF (q2.2.1 19 0) (-1 : Int32) 12)) hq3) (by decide) wV_X7_inMinute wN_X7_inMinute lk_X9_45 rfl rfl rfl (by decide) rfl (Nat.le_of_ble_eq_true rfl) (by decide +kernel) ?_
    refine XW.bk B [(36, .iconst 0)] (by decide +kernel) (pc1 := 37) (ls1 := [some (aR 17 0), some (aI x1), some (aI x2), none, none, none, none, none, none]) (st1 := [aI (0 : Int32), aI q3.1, aI (0 : Int32), aR 17 0, aI (0 : Int32), aR 19 0]) (σ1 := q3.2) (P := []) rfl trivial ?_
    refine XW.callV B (M := M_X9_borne) (t := 17) (j := 0) (cn := 1) (as := [aI (0 : Int32), aI q3.1, aI (0 : Int32)]) (c_X9_borne (0 : Int32) q3.1 (0 : Int32) q3.2 rfl) (by decide) wV_X9_borne wN_X9_borne lk_X9_103 rfl rfl rfl (by decide) rfl (Nat.le_of_ble_eq_true rfl) (by decide +kernel) ?_
    refine XW.bk B [(40, .iastore)] (by decide +kernel) (pc1 := 41) (ls1 := [some (aR 17 0), some (aI x1), some (aI x2), none, none, none, none, none, none]) (st1 := []) (σ1 := (sA q3.2 19 0 (0 : Int32).toNatClampNeg (m_X9_borne (0 : Int32) q3.1 (0 : Int32) q3.2))) (P := [vp_in (0 : Int32) 12]) rfl ⟨(vin_lit (by decide +kernel)), trivial⟩ ?_
    cases hm
    exact XW.vret B q (by decide +kernel)
  · rw [if_neg h1] at hm
    refine XW.bk B [(42, .aload_n 0), (43, .getfield 18), (46, .getfield 26), (49, .aload_n 0), (50, .getfield 15), (53, .arraylength), (54, .invokestatic 69), (57, .iconst 1), (58, .isub), (59, .istore_n 3), (60, .iload_n 3), (61, .istore 4)] (by decide +kernel) (pc1 := 63) (ls1 := [some (aR 17 0), some (aI x1), some (aI x2), some (aI ((if (12 : Int32) < (σ.1 1 0 1) then (12 : Int32) else (σ.1 1 0 1)) - (1 : Int32))), some (aI ((if (12 : Int32) < (σ.1 1 0 1) then (12 : Int32) else (σ.1 1 0 1)) - (1 : Int32))), none, none, none, none]) (st1 := []) (σ1 := σ) (P := [(([] : List AV).map (fun v => (rv (fun _ _ => 0) v).category)).sum ≤ 8]) rfl ⟨(Nat.le_of_ble_eq_true rfl), trivial⟩ ?_
    exact lp_X9_reachBy_63 B q FU x1 x2 ((if (12 : Int32) < (σ.1 1 0 1) then (12 : Int32) else (σ.1 1 0 1)) - (1 : Int32)) ((if (12 : Int32) < (σ.1 1 0 1) then (12 : Int32) else (σ.1 1 0 1)) - (1 : Int32)) σ hm

def m_X9_reachedShop (σ : SS) : Int32 :=
  if ((σ.1 1 0 1) - (1 : Int32)) < (0 : Int32) then
    (-1 : Int32)
  else
  if (12 : Int32) ≤ ((σ.1 1 0 1) - (1 : Int32)) then
    (-1 : Int32)
  else
  (σ.2.1 19 0 ((σ.1 1 0 1) - (1 : Int32)).toNatClampNeg)
set_option maxRecDepth 100000 in
set_option maxHeartbeats 4000000 in
theorem c_X9_reachedShop (σ : SS) {r : Int32} (hm : m_X9_reachedShop σ = r) : XM LC 1 M_X9_reachedShop [aR 17 0] σ (some (aI r)) σ := by
  refine XM.of (K := K9) (by decide) (by decide +kernel) K9_ok (Nat.le_of_ble_eq_true rfl) (fun Γ B q => ?_)
  unfold m_X9_reachedShop at hm
  refine XW.bb B [(0, .aload_n 0), (1, .getfield 18), (4, .getfield 26), (7, .iconst 1), (8, .isub), (9, .istore_n 1), (10, .iload_n 1)] (by decide +kernel) (pc1 := 11) (ls1 := [some (aR 17 0), some (aI ((σ.1 1 0 1) - (1 : Int32)))]) (st1 := [aI ((σ.1 1 0 1) - (1 : Int32))]) (σ1 := σ) (P := []) (i := .ifCond .lt 21) (tgt := 32) (q := ((σ.1 1 0 1) - (1 : Int32)) < (0 : Int32)) rfl trivial (by decide +kernel) rfl (by decide) (fun h1 => ?_) (fun h1 => ?_)
  · rw [if_pos h1] at hm
    refine XW.bk B [(32, .iconst (-1))] (by decide +kernel) (pc1 := 33) (ls1 := [some (aR 17 0), some (aI ((σ.1 1 0 1) - (1 : Int32)))]) (st1 := [aI (-1 : Int32)]) (σ1 := σ) (P := []) rfl trivial ?_
    cases hm
    exact XW.iret B q (by decide +kernel)
  · rw [if_neg h1] at hm
    refine XW.bb B [(14, .iload_n 1), (15, .aload_n 0), (16, .getfield 15), (19, .arraylength)] (by decide +kernel) (pc1 := 20) (ls1 := [some (aR 17 0), some (aI ((σ.1 1 0 1) - (1 : Int32)))]) (st1 := [aI (12 : Int32), aI ((σ.1 1 0 1) - (1 : Int32))]) (σ1 := σ) (P := []) (i := .if_icmp .ge 12) (tgt := 32) (q := (12 : Int32) ≤ ((σ.1 1 0 1) - (1 : Int32))) rfl trivial (by decide +kernel) rfl (by decide) (fun h2 => ?_) (fun h2 => ?_)
    · rw [if_pos h2] at hm
      refine XW.bk B [(32, .iconst (-1))] (by decide +kernel) (pc1 := 33) (ls1 := [some (aR 17 0), some (aI ((σ.1 1 0 1) - (1 : Int32)))]) (st1 := [aI (-1 : Int32)]) (σ1 := σ) (P := []) rfl trivial ?_
      cases hm
      exact XW.iret B q (by decide +kernel)
    · rw [if_neg h2] at hm
      refine XW.bk B [(23, .aload_n 0), (24, .getfield 15), (27, .iload_n 1), (28, .iaload), (29, .goto 4)] (by decide +kernel) (pc1 := 33) (ls1 := [some (aR 17 0), some (aI ((σ.1 1 0 1) - (1 : Int32)))]) (st1 := [aI (σ.2.1 19 0 ((σ.1 1 0 1) - (1 : Int32)).toNatClampNeg)]) (σ1 := σ) (P := [vp_in ((σ.1 1 0 1) - (1 : Int32)) 12]) rfl ⟨(vin_a h1 h2 (by decide +kernel)), trivial⟩ ?_
      cases hm
      exact XW.iret B q (by decide +kernel)

def L_X9_fewestMinutes_2 : Nat → Int32 → Int32 → SS → Option (Int32 × SS)
  | 0, _, _, _ => none
  | n + 1, v1, v2, σ =>
    if (99 : Int32) < v2 then
      some ((-2 : Int32), σ)
    else
    Option.bind (m_X9_reachBy v1 v2 σ) (fun q2 =>
    if (m_X9_reachedShop q2) = (-1 : Int32) then
      L_X9_fewestMinutes_2 n v1 (v2 + (1 : Int32)) q2
    else
    some (v2, q2))
def m_X9_fewestMinutes (x1 : Int32) (σ : SS) : Option (Int32 × SS) :=
  L_X9_fewestMinutes_2 FU x1 (0 : Int32) σ
set_option maxRecDepth 100000 in
set_option maxHeartbeats 4000000 in
theorem lp_X9_fewestMinutes_2 {Γ : XC} {r : Int32} {σ' : SS} (B : XB Γ cX9_fewestMinutes RX9 6 K9 LC 3) (q : XQ Γ (some .int) (some (aI r)) σ') : ∀ (n : Nat) (v1 : Int32) (v2 : Int32) (σ : SS), L_X9_fewestMinutes_2 n v1 v2 σ = some (r, σ') → XW Γ 2 [some (aR 17 0), some (aI v1), some (aI v2)] [] σ := by
  intro n
  induction n with
  | zero => intro v1 v2 σ hm; cases hm
  | succ n ih =>
    intro v1 v2 σ hm
    rw [L_X9_fewestMinutes_2] at hm
    refine XW.bb B [(2, .iload_n 2), (3, .bipush 99)] (by decide +kernel) (pc1 := 5) (ls1 := [some (aR 17 0), some (aI v1), some (aI v2)]) (st1 := [aI (99 : Int32), aI v2]) (σ1 := σ) (P := []) (i := .if_icmp .gt 25) (tgt := 30) (q := (99 : Int32) < v2) rfl trivial (by decide +kernel) rfl (by decide) (fun h1 => ?_) (fun h1 => ?_)
    · rw [if_pos h1] at hm
      refine XW.bk B [(30, .bipush (-2))] (by decide +kernel) (pc1 := 32) (ls1 := [some (aR 17 0), some (aI v1), some (aI v2)]) (st1 := [aI (-2 : Int32)]) (σ1 := σ) (P := []) rfl trivial ?_
      cases hm
      exact XW.iret B q (by decide +kernel)
    · rw [if_neg h1] at hm
      refine XW.bk B [(8, .aload_n 0), (9, .iload_n 1), (10, .iload_n 2)] (by decide +kernel) (pc1 := 11) (ls1 := [some (aR 17 0), some (aI v1), some (aI v2)]) (st1 := [aI v2, aI v1, aR 17 0]) (σ1 := σ) (P := []) rfl trivial ?_
      obtain ⟨q2, hq2, hm⟩ := obind_eq hm
      refine XW.callV B (M := M_X9_reachBy) (t := 17) (j := 0) (cn := 1) (as := [aI v1, aI v2]) (c_X9_reachBy v1 v2 σ hq2) (by decide) wV_X9_reachBy wN_X9_reachBy lk_X9_89 rfl rfl rfl (by decide) rfl (Nat.le_of_ble_eq_true rfl) (by decide +kernel) ?_
      refine XW.bk B [(14, .aload_n 0)] (by decide +kernel) (pc1 := 15) (ls1 := [some (aR 17 0), some (aI v1), some (aI v2)]) (st1 := [aR 17 0]) (σ1 := q2) (P := []) rfl trivial ?_
      refine XW.callV B (M := M_X9_reachedShop) (t := 17) (j := 0) (cn := 1) (as := []) (c_X9_reachedShop q2 rfl) (by decide) wV_X9_reachedShop wN_X9_reachedShop lk_X9_93 rfl rfl rfl (by decide) rfl (Nat.le_of_ble_eq_true rfl) (by decide +kernel) ?_
      refine XW.bb B [(18, .iconst (-1))] (by decide +kernel) (pc1 := 19) (ls1 := [some (aR 17 0), some (aI v1), some (aI v2)]) (st1 := [aI (-1 : Int32), aI (m_X9_reachedShop q2)]) (σ1 := q2) (P := []) (i := .if_icmp .eq 5) (tgt := 24) (q := (m_X9_reachedShop q2) = (-1 : Int32)) rfl trivial (by decide +kernel) rfl (by decide) (fun h3 => ?_) (fun h3 => ?_)
      · rw [if_pos h3] at hm
        refine XW.bk B [(24, .iinc 2 1), (27, .goto (-25))] (by decide +kernel) (pc1 := 2) (ls1 := [some (aR 17 0), some (aI v1), some (aI (v2 + (1 : Int32)))]) (st1 := []) (σ1 := q2) (P := []) rfl trivial ?_
        exact ih v1 (v2 + (1 : Int32)) q2 hm
      · rw [if_neg h3] at hm
        refine XW.bk B [(22, .iload_n 2)] (by decide +kernel) (pc1 := 23) (ls1 := [some (aR 17 0), some (aI v1), some (aI v2)]) (st1 := [aI v2]) (σ1 := q2) (P := []) rfl trivial ?_
        cases hm
        exact XW.iret B q (by decide +kernel)
set_option maxRecDepth 100000 in
set_option maxHeartbeats 4000000 in
theorem c_X9_fewestMinutes (x1 : Int32) (σ : SS) {r : Int32} {σ' : SS} (hm : m_X9_fewestMinutes x1 σ = some (r, σ')) : XM LC 6 M_X9_fewestMinutes [aR 17 0, aI x1] σ (some (aI r)) σ' := by
  refine XM.of (K := K9) (by decide) (by decide +kernel) K9_ok (Nat.le_of_ble_eq_true rfl) (fun Γ B q => ?_)
  unfold m_X9_fewestMinutes at hm
  refine XW.bk B [(0, .iconst 0), (1, .istore_n 2)] (by decide +kernel) (pc1 := 2) (ls1 := [some (aR 17 0), some (aI x1), some (aI (0 : Int32))]) (st1 := []) (σ1 := σ) (P := []) rfl trivial ?_
  exact lp_X9_fewestMinutes_2 B q FU x1 (0 : Int32) σ hm

def L_X9_leastWithin_5 : Nat → Int32 → Int32 → Int32 → Int32 → SS → Option (Int32 × SS)
  | 0, _, _, _, _, _ => none
  | n + 1, v1, v2, v3, v4, σ =>
    if v2 < v4 then
      if v3 = (-1 : Int32) then
        some ((-2 : Int32), σ)
      else
      some (v3, σ)
    else
    if (99 : Int32) < v4 then
      if v3 = (-1 : Int32) then
        some ((-2 : Int32), σ)
      else
      some (v3, σ)
    else
    Option.bind (m_X9_reachBy v1 v4 σ) (fun q5 =>
    if (m_X9_reachedShop q5) = (-1 : Int32) then
      L_X9_leastWithin_5 n v1 v2 v3 (v4 + (1 : Int32)) q5
    else
    if v3 = (-1 : Int32) then
      L_X9_leastWithin_5 n v1 v2 (m_X9_reachedShop q5) (v4 + (1 : Int32)) q5
    else
    if v3 ≤ (m_X9_reachedShop q5) then
      L_X9_leastWithin_5 n v1 v2 v3 (v4 + (1 : Int32)) q5
    else
    L_X9_leastWithin_5 n v1 v2 (m_X9_reachedShop q5) (v4 + (1 : Int32)) q5)
def m_X9_leastWithin (x1 : Int32) (x2 : Int32) (σ : SS) : Option (Int32 × SS) :=
  L_X9_leastWithin_5 FU x1 x2 (-1 : Int32) (0 : Int32) σ
set_option maxRecDepth 100000 in
set_option maxHeartbeats 4000000 in
theorem lp_X9_leastWithin_5 {Γ : XC} {r : Int32} {σ' : SS} (B : XB Γ cX9_leastWithin RX9 6 K9 LC 6) (q : XQ Γ (some .int) (some (aI r)) σ') : ∀ (n : Nat) (v1 : Int32) (v2 : Int32) (v3 : Int32) (v4 : Int32) (σ : SS), L_X9_leastWithin_5 n v1 v2 v3 v4 σ = some (r, σ') → XW Γ 5 [some (aR 17 0), some (aI v1), some (aI v2), some (aI v3), some (aI v4), none] [] σ := by
  intro n
  induction n with
  | zero => intro v1 v2 v3 v4 σ hm; cases hm
  | succ n ih =>
    intro v1 v2 v3 v4 σ hm
    rw [L_X9_leastWithin_5] at hm
    refine XW.bb B [(5, .iload 4), (7, .iload_n 2)] (by decide +kernel) (pc1 := 8) (ls1 := [some (aR 17 0), some (aI v1), some (aI v2), some (aI v3), some (aI v4), none]) (st1 := [aI v2, aI v4]) (σ1 := σ) (P := []) (i := .if_icmp .gt 49) (tgt := 57) (q := v2 < v4) rfl trivial (by decide +kernel) rfl (by decide) (fun h1 => ?_) (fun h1 => ?_)
    · rw [if_pos h1] at hm
      refine XW.bn B [(57, .iload_n 3), (58, .iconst (-1))] (by decide +kernel) (pc1 := 59) (ls1 := [some (aR 17 0), some (aI v1), some (aI v2), some (aI v3), some (aI v4), none]) (st1 := [aI (-1 : Int32), aI v3]) (σ1 := σ) (P := []) (i := .if_icmp .ne 8) (tgt := 67) (q := v3 = (-1 : Int32)) rfl trivial (by decide +kernel) rfl (by decide) (fun h2 => ?_) (fun h2 => ?_)
      · rw [if_pos h2] at hm
        refine XW.bk B [(62, .bipush (-2)), (64, .goto 4)] (by decide +kernel) (pc1 := 68) (ls1 := [some (aR 17 0), some (aI v1), some (aI v2), some (aI v3), some (aI v4), none]) (st1 := [aI (-2 : Int32)]) (σ1 := σ) (P := []) rfl trivial ?_
        cases hm
        exact XW.iret B q (by decide +kernel)
      · rw [if_neg h2] at hm
        refine XW.bk B [(67, .iload_n 3)] (by decide +kernel) (pc1 := 68) (ls1 := [some (aR 17 0), some (aI v1), some (aI v2), some (aI v3), some (aI v4), none]) (st1 := [aI v3]) (σ1 := σ) (P := []) rfl trivial ?_
        cases hm
        exact XW.iret B q (by decide +kernel)
    · rw [if_neg h1] at hm
      refine XW.bb B [(11, .iload 4), (13, .bipush 99)] (by decide +kernel) (pc1 := 15) (ls1 := [some (aR 17 0), some (aI v1), some (aI v2), some (aI v3), some (aI v4), none]) (st1 := [aI (99 : Int32), aI v4]) (σ1 := σ) (P := []) (i := .if_icmp .gt 42) (tgt := 57) (q := (99 : Int32) < v4) rfl trivial (by decide +kernel) rfl (by decide) (fun h3 => ?_) (fun h3 => ?_)
      · rw [if_pos h3] at hm
        refine XW.bn B [(57, .iload_n 3), (58, .iconst (-1))] (by decide +kernel) (pc1 := 59) (ls1 := [some (aR 17 0), some (aI v1), some (aI v2), some (aI v3), some (aI v4), none]) (st1 := [aI (-1 : Int32), aI v3]) (σ1 := σ) (P := []) (i := .if_icmp .ne 8) (tgt := 67) (q := v3 = (-1 : Int32)) rfl trivial (by decide +kernel) rfl (by decide) (fun h4 => ?_) (fun h4 => ?_)
        · rw [if_pos h4] at hm
          refine XW.bk B [(62, .bipush (-2)), (64, .goto 4)] (by decide +kernel) (pc1 := 68) (ls1 := [some (aR 17 0), some (aI v1), some (aI v2), some (aI v3), some (aI v4), none]) (st1 := [aI (-2 : Int32)]) (σ1 := σ) (P := []) rfl trivial ?_
          cases hm
          exact XW.iret B q (by decide +kernel)
        · rw [if_neg h4] at hm
          refine XW.bk B [(67, .iload_n 3)] (by decide +kernel) (pc1 := 68) (ls1 := [some (aR 17 0), some (aI v1), some (aI v2), some (aI v3), some (aI v4), none]) (st1 := [aI v3]) (σ1 := σ) (P := []) rfl trivial ?_
          cases hm
          exact XW.iret B q (by decide +kernel)
      · rw [if_neg h3] at hm
        refine XW.bk B [(18, .aload_n 0), (19, .iload_n 1), (20, .iload 4)] (by decide +kernel) (pc1 := 22) (ls1 := [some (aR 17 0), some (aI v1), some (aI v2), some (aI v3), some (aI v4), none]) (st1 := [aI v4, aI v1, aR 17 0]) (σ1 := σ) (P := []) rfl trivial ?_
        obtain ⟨q5, hq5, hm⟩ := obind_eq hm
        refine XW.callV B (M := M_X9_reachBy) (t := 17) (j := 0) (cn := 1) (as := [aI v1, aI v4]) (c_X9_reachBy v1 v4 σ hq5) (by decide) wV_X9_reachBy wN_X9_reachBy lk_X9_89 rfl rfl rfl (by decide) rfl (Nat.le_of_ble_eq_true rfl) (by decide +kernel) ?_
        refine XW.bk B [(25, .aload_n 0)] (by decide +kernel) (pc1 := 26) (ls1 := [some (aR 17 0), some (aI v1), some (aI v2), some (aI v3), some (aI v4), none]) (st1 := [aR 17 0]) (σ1 := q5) (P := []) rfl trivial ?_
        refine XW.callV B (M := M_X9_reachedShop) (t := 17) (j := 0) (cn := 1) (as := []) (c_X9_reachedShop q5 rfl) (by decide) wV_X9_reachedShop wN_X9_reachedShop lk_X9_93 rfl rfl rfl (by decide) rfl (Nat.le_of_ble_eq_true rfl) (by decide +kernel) ?_
        refine XW.bb B [(29, .istore 5), (31, .iload 5), (33, .iconst (-1))] (by decide +kernel) (pc1 := 34) (ls1 := [some (aR 17 0), some (aI v1), some (aI v2), some (aI v3), some (aI v4), some (aI (m_X9_reachedShop q5))]) (st1 := [aI (-1 : Int32), aI (m_X9_reachedShop q5)]) (σ1 := q5) (P := []) (i := .if_icmp .eq 17) (tgt := 51) (q := (m_X9_reachedShop q5) = (-1 : Int32)) rfl trivial (by decide +kernel) rfl (by decide) (fun h6 => ?_) (fun h6 => ?_)
        · rw [if_pos h6] at hm
          refine XW.bk B [(51, .iinc 4 1), (54, .goto (-49))] (by decide +kernel) (pc1 := 5) (ls1 := [some (aR 17 0), some (aI v1), some (aI v2), some (aI v3), some (aI (v4 + (1 : Int32))), some (aI (m_X9_reachedShop q5))]) (st1 := []) (σ1 := q5) (P := []) rfl trivial ?_
          refine XW.loc [true, true, true, true, true, false] rfl ?_
          exact ih v1 v2 v3 (v4 + (1 : Int32)) q5 hm
        · rw [if_neg h6] at hm
          refine XW.bb B [(37, .iload_n 3), (38, .iconst (-1))] (by decide +kernel) (pc1 := 39) (ls1 := [some (aR 17 0), some (aI v1), some (aI v2), some (aI v3), some (aI v4), some (aI (m_X9_reachedShop q5))]) (st1 := [aI (-1 : Int32), aI v3]) (σ1 := q5) (P := []) (i := .if_icmp .eq 9) (tgt := 48) (q := v3 = (-1 : Int32)) rfl trivial (by decide +kernel) rfl (by decide) (fun h7 => ?_) (fun h7 => ?_)
          · rw [if_pos h7] at hm
            refine XW.bk B [(48, .iload 5), (50, .istore_n 3), (51, .iinc 4 1), (54, .goto (-49))] (by decide +kernel) (pc1 := 5) (ls1 := [some (aR 17 0), some (aI v1), some (aI v2), some (aI (m_X9_reachedShop q5)), some (aI (v4 + (1 : Int32))), some (aI (m_X9_reachedShop q5))]) (st1 := []) (σ1 := q5) (P := []) rfl trivial ?_
            refine XW.loc [true, true, true, true, true, false] rfl ?_
            exact ih v1 v2 (m_X9_reachedShop q5) (v4 + (1 : Int32)) q5 hm
          · rw [if_neg h7] at hm
            refine XW.bb B [(42, .iload 5), (44, .iload_n 3)] (by decide +kernel) (pc1 := 45) (ls1 := [some (aR 17 0), some (aI v1), some (aI v2), some (aI v3), some (aI v4), some (aI (m_X9_reachedShop q5))]) (st1 := [aI v3, aI (m_X9_reachedShop q5)]) (σ1 := q5) (P := []) (i := .if_icmp .ge 6) (tgt := 51) (q := v3 ≤ (m_X9_reachedShop q5)) rfl trivial (by decide +kernel) rfl (by decide) (fun h8 => ?_) (fun h8 => ?_)
            · rw [if_pos h8] at hm
              refine XW.bk B [(51, .iinc 4 1), (54, .goto (-49))] (by decide +kernel) (pc1 := 5) (ls1 := [some (aR 17 0), some (aI v1), some (aI v2), some (aI v3), some (aI (v4 + (1 : Int32))), some (aI (m_X9_reachedShop q5))]) (st1 := []) (σ1 := q5) (P := []) rfl trivial ?_
              refine XW.loc [true, true, true, true, true, false] rfl ?_
              exact ih v1 v2 v3 (v4 + (1 : Int32)) q5 hm
            · rw [if_neg h8] at hm
              refine XW.bk B [(48, .iload 5), (50, .istore_n 3), (51, .iinc 4 1), (54, .goto (-49))] (by decide +kernel) (pc1 := 5) (ls1 := [some (aR 17 0), some (aI v1), some (aI v2), some (aI (m_X9_reachedShop q5)), some (aI (v4 + (1 : Int32))), some (aI (m_X9_reachedShop q5))]) (st1 := []) (σ1 := q5) (P := []) rfl trivial ?_
              refine XW.loc [true, true, true, true, true, false] rfl ?_
              exact ih v1 v2 (m_X9_reachedShop q5) (v4 + (1 : Int32)) q5 hm
set_option maxRecDepth 100000 in
set_option maxHeartbeats 4000000 in
theorem c_X9_leastWithin (x1 : Int32) (x2 : Int32) (σ : SS) {r : Int32} {σ' : SS} (hm : m_X9_leastWithin x1 x2 σ = some (r, σ')) : XM LC 6 M_X9_leastWithin [aR 17 0, aI x1, aI x2] σ (some (aI r)) σ' := by
  refine XM.of (K := K9) (by decide) (by decide +kernel) K9_ok (Nat.le_of_ble_eq_true rfl) (fun Γ B q => ?_)
  unfold m_X9_leastWithin at hm
  refine XW.bk B [(0, .iconst (-1)), (1, .istore_n 3), (2, .iconst 0), (3, .istore 4)] (by decide +kernel) (pc1 := 5) (ls1 := [some (aR 17 0), some (aI x1), some (aI x2), some (aI (-1 : Int32)), some (aI (0 : Int32)), none]) (st1 := []) (σ1 := σ) (P := []) rfl trivial ?_
  exact lp_X9_leastWithin_5 B q FU x1 x2 (-1 : Int32) (0 : Int32) σ hm

def L_X9_firstUnlike_6 (j : Nat) : Nat → Int32 → Int32 → Int32 → Int32 → SS → Option (Int32 × SS)
  | 0, _, _, _, _, _ => none
  | n + 1, v2, v3, v4, v5, σ =>
    if (σ.1 28 j 2) ≤ v5 then
      some ((-2 : Int32), σ)
    else
    if v5 < (σ.1 1 0 1) then
      Option.bind (m_X7_inMinute v5 v3 (v2 + v5) σ) (fun q3 =>
      if lg_cmp (m_X6_cell j v5 q3.2) ((if (v4 + q3.1) < (120 : Int32) then (v4 + q3.1) else (120 : Int32)).toInt64) = (0 : Int32) then
        L_X9_firstUnlike_6 j n v2 v3 (v4 + q3.1) (v5 + (1 : Int32)) q3.2
      else
      some (v5, q3.2))
    else
    some (v5, σ)
def m_X9_firstUnlike (j : Nat) (x2 : Int32) (x3 : Int32) (σ : SS) : Option (Int32 × SS) :=
  L_X9_firstUnlike_6 j FU x2 x3 (0 : Int32) (0 : Int32) σ
set_option maxRecDepth 100000 in
set_option maxHeartbeats 4000000 in
theorem lp_X9_firstUnlike_6 (j : Nat) (hj : j < 6) {Γ : XC} {r : Int32} {σ' : SS} (B : XB Γ cX9_firstUnlike RX9 5 K9 LC 6) (q : XQ Γ (some .int) (some (aI r)) σ') : ∀ (n : Nat) (v2 : Int32) (v3 : Int32) (v4 : Int32) (v5 : Int32) (σ : SS), L_X9_firstUnlike_6 j n v2 v3 v4 v5 σ = some (r, σ') → XW Γ 6 [some (aR 17 0), some (aR 28 j), some (aI v2), some (aI v3), some (aI v4), some (aI v5)] [] σ := by
  intro n
  induction n with
  | zero => intro v2 v3 v4 v5 σ hm; cases hm
  | succ n ih =>
    intro v2 v3 v4 v5 σ hm
    rw [L_X9_firstUnlike_6] at hm
    refine XW.bb B [(6, .iload 5), (8, .aload_n 1), (9, .getfield 116)] (by decide +kernel) (pc1 := 12) (ls1 := [some (aR 17 0), some (aR 28 j), some (aI v2), some (aI v3), some (aI v4), some (aI v5)]) (st1 := [aI (σ.1 28 j 2), aI v5]) (σ1 := σ) (P := [j < 6]) (i := .if_icmp .ge 64) (tgt := 76) (q := (σ.1 28 j 2) ≤ v5) rfl ⟨hj, trivial⟩ (by decide +kernel) rfl (by decide) (fun h1 => ?_) (fun h1 => ?_)
    · rw [if_pos h1] at hm
      refine XW.bk B [(76, .bipush (-2))] (by decide +kernel) (pc1 := 78) (ls1 := [some (aR 17 0), some (aR 28 j), some (aI v2), some (aI v3), some (aI v4), some (aI v5)]) (st1 := [aI (-2 : Int32)]) (σ1 := σ) (P := []) rfl trivial ?_
      cases hm
      exact XW.iret B q (by decide +kernel)
    · rw [if_neg h1] at hm
      refine XW.bb B [(15, .iload 5), (17, .aload_n 0), (18, .getfield 18), (21, .getfield 26)] (by decide +kernel) (pc1 := 24) (ls1 := [some (aR 17 0), some (aR 28 j), some (aI v2), some (aI v3), some (aI v4), some (aI v5)]) (st1 := [aI (σ.1 1 0 1), aI v5]) (σ1 := σ) (P := []) (i := .if_icmp .lt 6) (tgt := 30) (q := v5 < (σ.1 1 0 1)) rfl trivial (by decide +kernel) rfl (by decide) (fun h2 => ?_) (fun h2 => ?_)
      · rw [if_pos h2] at hm
        refine XW.bk B [(30, .iload 4), (32, .aload_n 0), (33, .getfield 22), (36, .iload 5), (38, .iload_n 3), (39, .iload_n 2), (40, .iload 5), (42, .iadd)] (by decide +kernel) (pc1 := 43) (ls1 := [some (aR 17 0), some (aR 28 j), some (aI v2), some (aI v3), some (aI v4), some (aI v5)]) (st1 := [aI (v2 + v5), aI v3, aI v5, aR 14 0, aI v4]) (σ1 := σ) (P := []) rfl trivial ?_
        obtain ⟨q3, hq3, hm⟩ := obind_eq hm
        refine XW.callV B (M := M_X7_inMinute) (t := 14) (j := 0) (cn := 1) (as := [aI v5, aI v3, aI (v2 + v5)]) (c_X7_inMinute v5 v3 (v2 + v5) σ hq3) (by decide) wV_X7_inMinute wN_X7_inMinute lk_X9_45 rfl rfl rfl (by decide) rfl (Nat.le_of_ble_eq_true rfl) (by decide +kernel) ?_
        refine XW.bk B [(46, .iadd), (47, .istore 4), (49, .aload_n 1), (50, .iload 5)] (by decide +kernel) (pc1 := 52) (ls1 := [some (aR 17 0), some (aR 28 j), some (aI v2), some (aI v3), some (aI (v4 + q3.1)), some (aI v5)]) (st1 := [aI v5, aR 28 j]) (σ1 := q3.2) (P := []) rfl trivial ?_
        refine XW.callV B (M := M_X6_cell) (t := 28) (j := j) (cn := 6) (as := [aI v5]) (c_X6_cell j v5 q3.2 hj rfl) (by decide) wV_X6_cell wN_X6_cell lk_X9_119 rfl rfl rfl hj rfl (Nat.le_of_ble_eq_true rfl) (by decide +kernel) ?_
        refine XW.bb B [(55, .bipush 120), (57, .iload 4), (59, .invokestatic 69), (62, .i2l), (63, .lcmp)] (by decide +kernel) (pc1 := 64) (ls1 := [some (aR 17 0), some (aR 28 j), some (aI v2), some (aI v3), some (aI (v4 + q3.1)), some (aI v5)]) (st1 := [aI (lg_cmp (m_X6_cell j v5 q3.2) ((if (v4 + q3.1) < (120 : Int32) then (v4 + q3.1) else (120 : Int32)).toInt64))]) (σ1 := q3.2) (P := [(([aJ (m_X6_cell j v5 q3.2)] : List AV).map (fun v => (rv (fun _ _ => 0) v).category)).sum ≤ 8]) (i := .ifCond .eq 6) (tgt := 70) (q := lg_cmp (m_X6_cell j v5 q3.2) ((if (v4 + q3.1) < (120 : Int32) then (v4 + q3.1) else (120 : Int32)).toInt64) = (0 : Int32)) rfl ⟨(Nat.le_of_ble_eq_true rfl), trivial⟩ (by decide +kernel) rfl (by decide) (fun h4 => ?_) (fun h4 => ?_)
        · rw [if_pos h4] at hm
          refine XW.bk B [(70, .iinc 5 1), (73, .goto (-67))] (by decide +kernel) (pc1 := 6) (ls1 := [some (aR 17 0), some (aR 28 j), some (aI v2), some (aI v3), some (aI (v4 + q3.1)), some (aI (v5 + (1 : Int32)))]) (st1 := []) (σ1 := q3.2) (P := []) rfl trivial ?_
          exact ih v2 v3 (v4 + q3.1) (v5 + (1 : Int32)) q3.2 hm
        · rw [if_neg h4] at hm
          refine XW.bk B [(67, .iload 5)] (by decide +kernel) (pc1 := 69) (ls1 := [some (aR 17 0), some (aR 28 j), some (aI v2), some (aI v3), some (aI (v4 + q3.1)), some (aI v5)]) (st1 := [aI v5]) (σ1 := q3.2) (P := []) rfl trivial ?_
          cases hm
          exact XW.iret B q (by decide +kernel)
      · rw [if_neg h2] at hm
        refine XW.bk B [(27, .iload 5)] (by decide +kernel) (pc1 := 29) (ls1 := [some (aR 17 0), some (aR 28 j), some (aI v2), some (aI v3), some (aI v4), some (aI v5)]) (st1 := [aI v5]) (σ1 := σ) (P := []) rfl trivial ?_
        cases hm
        exact XW.iret B q (by decide +kernel)
set_option maxRecDepth 100000 in
set_option maxHeartbeats 4000000 in
theorem c_X9_firstUnlike (j : Nat) (x2 : Int32) (x3 : Int32) (σ : SS) (hj : j < 6) {r : Int32} {σ' : SS} (hm : m_X9_firstUnlike j x2 x3 σ = some (r, σ')) : XM LC 5 M_X9_firstUnlike [aR 17 0, aR 28 j, aI x2, aI x3] σ (some (aI r)) σ' := by
  refine XM.of (K := K9) (by decide) (by decide +kernel) K9_ok (Nat.le_of_ble_eq_true rfl) (fun Γ B q => ?_)
  unfold m_X9_firstUnlike at hm
  refine XW.bk B [(0, .iconst 0), (1, .istore 4), (3, .iconst 0), (4, .istore 5)] (by decide +kernel) (pc1 := 6) (ls1 := [some (aR 17 0), some (aR 28 j), some (aI x2), some (aI x3), some (aI (0 : Int32)), some (aI (0 : Int32))]) (st1 := []) (σ1 := σ) (P := []) rfl trivial ?_
  exact lp_X9_firstUnlike_6 j hj B q FU x2 x3 (0 : Int32) (0 : Int32) σ hm

def L_X9_minutesLike_12 (j : Nat) : Nat → Int32 → Int64 → Int32 → SS → Option (Int64 × SS)
  | 0, _, _, _, _ => none
  | n + 1, v2, v3, v5, σ =>
    if (60 : Int32) ≤ v5 then
      some (v3, σ)
    else
    Option.bind (m_X9_firstUnlike j v5 v2 σ) (fun q3 =>
    if q3.1 = (-2 : Int32) then
      L_X9_minutesLike_12 j n v2 (v3 ||| ((1 : Int64) <<< (v5.toInt64 &&& 63))) (v5 + (1 : Int32)) q3.2
    else
    L_X9_minutesLike_12 j n v2 v3 (v5 + (1 : Int32)) q3.2)
def m_X9_minutesLike (j : Nat) (x2 : Int32) (σ : SS) : Option (Int64 × SS) :=
  bnT (m_X7_supposeNow σ) (fun q1 =>
  L_X9_minutesLike_12 j FU x2 (0 : Int64) (0 : Int32) q1)
set_option maxRecDepth 100000 in
set_option maxHeartbeats 4000000 in
theorem lp_X9_minutesLike_12 (j : Nat) (hj : j < 6) {Γ : XC} {r : Int64} {σ' : SS} (B : XB Γ cX9_minutesLike RX9 6 K9 LC 6) (q : XQ Γ (some .long) (some (aJ r)) σ') : ∀ (n : Nat) (v2 : Int32) (v3 : Int64) (v5 : Int32) (σ : SS), L_X9_minutesLike_12 j n v2 v3 v5 σ = some (r, σ') → XW Γ 12 [some (aR 17 0), some (aR 28 j), some (aI v2), some (aJ v3), none, some (aI v5)] [] σ := by
  intro n
  induction n with
  | zero => intro v2 v3 v5 σ hm; cases hm
  | succ n ih =>
    intro v2 v3 v5 σ hm
    rw [L_X9_minutesLike_12] at hm
    refine XW.bb B [(12, .iload 5), (14, .bipush 60)] (by decide +kernel) (pc1 := 16) (ls1 := [some (aR 17 0), some (aR 28 j), some (aI v2), some (aJ v3), none, some (aI v5)]) (st1 := [aI (60 : Int32), aI v5]) (σ1 := σ) (P := []) (i := .if_icmp .ge 29) (tgt := 45) (q := (60 : Int32) ≤ v5) rfl trivial (by decide +kernel) rfl (by decide) (fun h2 => ?_) (fun h2 => ?_)
    · rw [if_pos h2] at hm
      refine XW.bk B [(45, .lload_n 3)] (by decide +kernel) (pc1 := 46) (ls1 := [some (aR 17 0), some (aR 28 j), some (aI v2), some (aJ v3), none, some (aI v5)]) (st1 := [aJ v3]) (σ1 := σ) (P := []) rfl trivial ?_
      cases hm
      exact XW.lret B q (by decide +kernel)
    · rw [if_neg h2] at hm
      refine XW.bk B [(19, .aload_n 0), (20, .aload_n 1), (21, .iload 5), (23, .iload_n 2)] (by decide +kernel) (pc1 := 24) (ls1 := [some (aR 17 0), some (aR 28 j), some (aI v2), some (aJ v3), none, some (aI v5)]) (st1 := [aI v2, aI v5, aR 28 j, aR 17 0]) (σ1 := σ) (P := []) rfl trivial ?_
      obtain ⟨q3, hq3, hm⟩ := obind_eq hm
      refine XW.callV B (M := M_X9_firstUnlike) (t := 17) (j := 0) (cn := 1) (as := [aR 28 j, aI v5, aI v2]) (c_X9_firstUnlike j v5 v2 σ hj hq3) (by decide) wV_X9_firstUnlike wN_X9_firstUnlike lk_X9_112 rfl rfl rfl (by decide) rfl (Nat.le_of_ble_eq_true rfl) (by decide +kernel) ?_
      refine XW.bn B [(27, .bipush (-2))] (by decide +kernel) (pc1 := 29) (ls1 := [some (aR 17 0), some (aR 28 j), some (aI v2), some (aJ v3), none, some (aI v5)]) (st1 := [aI (-2 : Int32), aI q3.1]) (σ1 := q3.2) (P := []) (i := .if_icmp .ne 10) (tgt := 39) (q := q3.1 = (-2 : Int32)) rfl trivial (by decide +kernel) rfl (by decide) (fun h4 => ?_) (fun h4 => ?_)
      · rw [if_pos h4] at hm
        refine XW.bk B [(32, .lload_n 3), (33, .lconst 1), (34, .iload 5), (36, .lshl), (37, .lor), (38, .lstore_n 3), (39, .iinc 5 1), (42, .goto (-30))] (by decide +kernel) (pc1 := 12) (ls1 := [some (aR 17 0), some (aR 28 j), some (aI v2), some (aJ (v3 ||| ((1 : Int64) <<< (v5.toInt64 &&& 63)))), none, some (aI (v5 + (1 : Int32)))]) (st1 := []) (σ1 := q3.2) (P := []) rfl trivial ?_
        exact ih v2 (v3 ||| ((1 : Int64) <<< (v5.toInt64 &&& 63))) (v5 + (1 : Int32)) q3.2 hm
      · rw [if_neg h4] at hm
        refine XW.bk B [(39, .iinc 5 1), (42, .goto (-30))] (by decide +kernel) (pc1 := 12) (ls1 := [some (aR 17 0), some (aR 28 j), some (aI v2), some (aJ v3), none, some (aI (v5 + (1 : Int32)))]) (st1 := []) (σ1 := q3.2) (P := []) rfl trivial ?_
        exact ih v2 v3 (v5 + (1 : Int32)) q3.2 hm
set_option maxRecDepth 100000 in
set_option maxHeartbeats 4000000 in
theorem c_X9_minutesLike (j : Nat) (x2 : Int32) (σ : SS) (hj : j < 6) {r : Int64} {σ' : SS} (hm : m_X9_minutesLike j x2 σ = some (r, σ')) : XM LC 6 M_X9_minutesLike [aR 17 0, aR 28 j, aI x2] σ (some (aJ r)) σ' := by
  refine XM.of (K := K9) (by decide) (by decide +kernel) K9_ok (Nat.le_of_ble_eq_true rfl) (fun Γ B q => ?_)
  unfold m_X9_minutesLike at hm
  refine XW.bk B [(0, .lconst 0), (1, .lstore_n 3), (2, .aload_n 0), (3, .getfield 22)] (by decide +kernel) (pc1 := 6) (ls1 := [some (aR 17 0), some (aR 28 j), some (aI x2), some (aJ (0 : Int64)), none, none]) (st1 := [aR 14 0]) (σ1 := σ) (P := []) rfl trivial ?_
  obtain ⟨q1, hq1, hm⟩ := bnT_eq hm
  refine XW.callV B (M := M_X7_supposeNow) (t := 14) (j := 0) (cn := 1) (as := []) (c_X7_supposeNow σ hq1) (by decide) wV_X7_supposeNow wN_X7_supposeNow lk_X9_58 rfl rfl rfl (by decide) rfl (Nat.le_of_ble_eq_true rfl) (by decide +kernel) ?_
  refine XW.bk B [(9, .iconst 0), (10, .istore 5)] (by decide +kernel) (pc1 := 12) (ls1 := [some (aR 17 0), some (aR 28 j), some (aI x2), some (aJ (0 : Int64)), none, some (aI (0 : Int32))]) (st1 := []) (σ1 := q1) (P := []) rfl trivial ?_
  exact lp_X9_minutesLike_12 j hj B q FU x2 (0 : Int64) (0 : Int32) q1 hm

def L_X9_drawOne_5 : Nat → Int32 → Int32 → Int32 → Int32 → SS → Option (SS)
  | 0, _, _, _, _, _ => none
  | n + 1, v1, v2, v3, v4, σ =>
    if (σ.1 1 0 1) ≤ v4 then
      some (sI σ 17 0 6 ((σ.1 17 0 6) + (1 : Int32)))
    else
    if (m_X8_number v4 (5 : Int32) (sI σ 17 0 8 (((σ.1 17 0 8) * (1103515245 : Int32)) + (12345 : Int32)))) ≤ (((((σ.1 17 0 8) * (1103515245 : Int32)) + (12345 : Int32)).toUInt32 >>> ((8 : Int32).toUInt32 &&& Int32.toUInt32 31)).toInt32 - (((((σ.1 17 0 8) * (1103515245 : Int32)) + (12345 : Int32)).toUInt32 >>> ((8 : Int32).toUInt32 &&& Int32.toUInt32 31)).toInt32 / (12 : Int32)) * (12 : Int32)) then
      Option.bind (m_X7_inMinute v4 v2 (v1 + v4) (sI σ 17 0 8 (((σ.1 17 0 8) * (1103515245 : Int32)) + (12345 : Int32)))) (fun q3 =>
      if (m_X7_isTooMuch (v3 + q3.1) q3.2) = (0 : Int32) then
        L_X9_drawOne_5 n v1 v2 (v3 + q3.1) (v4 + (1 : Int32)) (sI q3.2 17 0 7 ((q3.2.1 17 0 7) + (1 : Int32)))
      else
      some q3.2)
    else
    some (sI σ 17 0 8 (((σ.1 17 0 8) * (1103515245 : Int32)) + (12345 : Int32)))
def m_X9_drawOne (x1 : Int32) (x2 : Int32) (σ : SS) : Option (SS) :=
  L_X9_drawOne_5 FU x1 x2 (0 : Int32) (0 : Int32) σ
set_option maxRecDepth 100000 in
set_option maxHeartbeats 4000000 in
theorem lp_X9_drawOne_5 {Γ : XC} {σ' : SS} (B : XB Γ cX9_drawOne RX9 5 K9 LC 5) (q : XQ Γ (none) none σ') : ∀ (n : Nat) (v1 : Int32) (v2 : Int32) (v3 : Int32) (v4 : Int32) (σ : SS), L_X9_drawOne_5 n v1 v2 v3 v4 σ = some σ' → XW Γ 5 [some (aR 17 0), some (aI v1), some (aI v2), some (aI v3), some (aI v4)] [] σ := by
  intro n
  induction n with
  | zero => intro v1 v2 v3 v4 σ hm; cases hm
  | succ n ih =>
    intro v1 v2 v3 v4 σ hm
    rw [L_X9_drawOne_5] at hm
    refine XW.bb B [(5, .iload 4), (7, .aload_n 0), (8, .getfield 18), (11, .getfield 26)] (by decide +kernel) (pc1 := 14) (ls1 := [some (aR 17 0), some (aI v1), some (aI v2), some (aI v3), some (aI v4)]) (st1 := [aI (σ.1 1 0 1), aI v4]) (σ1 := σ) (P := []) (i := .if_icmp .ge 87) (tgt := 101) (q := (σ.1 1 0 1) ≤ v4) rfl trivial (by decide +kernel) rfl (by decide) (fun h1 => ?_) (fun h1 => ?_)
    · rw [if_pos h1] at hm
      refine XW.bk B [(101, .aload_n 0), (102, .dup), (103, .getfield 126), (106, .iconst 1), (107, .iadd), (108, .putfield 126)] (by decide +kernel) (pc1 := 111) (ls1 := [some (aR 17 0), some (aI v1), some (aI v2), some (aI v3), some (aI v4)]) (st1 := []) (σ1 := (sI σ 17 0 6 ((σ.1 17 0 6) + (1 : Int32)))) (P := []) rfl trivial ?_
      cases hm
      exact XW.vret B q (by decide +kernel)
    · rw [if_neg h1] at hm
      refine XW.bk B [(17, .aload_n 0), (18, .aload_n 0), (19, .getfield 123), (22, .ldc 135), (24, .imul), (25, .sipush 12345), (28, .iadd), (29, .putfield 123), (32, .aload_n 0), (33, .getfield 123), (36, .bipush 8), (38, .iushr), (39, .bipush 12), (41, .irem), (42, .aload_n 0), (43, .getfield 18), (46, .iload 4), (48, .iconst 5)] (by decide +kernel) (pc1 := 49) (ls1 := [some (aR 17 0), some (aI v1), some (aI v2), some (aI v3), some (aI v4)]) (st1 := [aI (5 : Int32), aI v4, aR 1 0, aI (((((σ.1 17 0 8) * (1103515245 : Int32)) + (12345 : Int32)).toUInt32 >>> ((8 : Int32).toUInt32 &&& Int32.toUInt32 31)).toInt32 - (((((σ.1 17 0 8) * (1103515245 : Int32)) + (12345 : Int32)).toUInt32 >>> ((8 : Int32).toUInt32 &&& Int32.toUInt32 31)).toInt32 / (12 : Int32)) * (12 : Int32))]) (σ1 := (sI σ 17 0 8 (((σ.1 17 0 8) * (1103515245 : Int32)) + (12345 : Int32)))) (P := [¬ (12 : Int32) = 0]) rfl ⟨(by decide), trivial⟩ ?_
      refine XW.callV B (M := M_X8_number) (t := 1) (j := 0) (cn := 1) (as := [aI v4, aI (5 : Int32)]) (c_X8_number v4 (5 : Int32) (sI σ 17 0 8 (((σ.1 17 0 8) * (1103515245 : Int32)) + (12345 : Int32))) rfl) (by decide) wV_X8_number wN_X8_number lk_X9_38 rfl rfl rfl (by decide) rfl (Nat.le_of_ble_eq_true rfl) (by decide +kernel) ?_
      refine XW.bb B [] (by decide +kernel) (pc1 := 52) (ls1 := [some (aR 17 0), some (aI v1), some (aI v2), some (aI v3), some (aI v4)]) (st1 := [aI (m_X8_number v4 (5 : Int32) (sI σ 17 0 8 (((σ.1 17 0 8) * (1103515245 : Int32)) + (12345 : Int32)))), aI (((((σ.1 17 0 8) * (1103515245 : Int32)) + (12345 : Int32)).toUInt32 >>> ((8 : Int32).toUInt32 &&& Int32.toUInt32 31)).toInt32 - (((((σ.1 17 0 8) * (1103515245 : Int32)) + (12345 : Int32)).toUInt32 >>> ((8 : Int32).toUInt32 &&& Int32.toUInt32 31)).toInt32 / (12 : Int32)) * (12 : Int32))]) (σ1 := (sI σ 17 0 8 (((σ.1 17 0 8) * (1103515245 : Int32)) + (12345 : Int32)))) (P := []) (i := .if_icmp .ge 4) (tgt := 56) (q := (m_X8_number v4 (5 : Int32) (sI σ 17 0 8 (((σ.1 17 0 8) * (1103515245 : Int32)) + (12345 : Int32)))) ≤ (((((σ.1 17 0 8) * (1103515245 : Int32)) + (12345 : Int32)).toUInt32 >>> ((8 : Int32).toUInt32 &&& Int32.toUInt32 31)).toInt32 - (((((σ.1 17 0 8) * (1103515245 : Int32)) + (12345 : Int32)).toUInt32 >>> ((8 : Int32).toUInt32 &&& Int32.toUInt32 31)).toInt32 / (12 : Int32)) * (12 : Int32))) rfl trivial (by decide +kernel) rfl (by decide) (fun h2 => ?_) (fun h2 => ?_)
      · rw [if_pos h2] at hm
        refine XW.bk B [(56, .iload_n 3), (57, .aload_n 0), (58, .getfield 22), (61, .iload 4), (63, .iload_n 2), (64, .iload_n 1), (65, .iload 4), (67, .iadd)] (by decide +kernel) (pc1 := 68) (ls1 := [some (aR 17 0), some (aI v1), some (aI v2), some (aI v3), some (aI v4)]) (st1 := [aI (v1 + v4), aI v2, aI v4, aR 14 0, aI v3]) (σ1 := (sI σ 17 0 8 (((σ.1 17 0 8) * (1103515245 : Int32)) + (12345 : Int32)))) (P := []) rfl trivial ?_
        obtain ⟨q3, hq3, hm⟩ := obind_eq hm
        refine XW.callV B (M := M_X7_inMinute) (t := 14) (j := 0) (cn := 1) (as := [aI v4, aI v2, aI (v1 + v4)]) (c_X7_inMinute v4 v2 (v1 + v4) (sI σ 17 0 8 (((σ.1 17 0 8) * (1103515245 : Int32)) + (12345 : Int32))) hq3) (by decide) wV_X7_inMinute wN_X7_inMinute lk_X9_45 rfl rfl rfl (by decide) rfl (Nat.le_of_ble_eq_true rfl) (by decide +kernel) ?_
        refine XW.bk B [(71, .iadd), (72, .istore_n 3), (73, .aload_n 0), (74, .getfield 22), (77, .iload_n 3)] (by decide +kernel) (pc1 := 78) (ls1 := [some (aR 17 0), some (aI v1), some (aI v2), some (aI (v3 + q3.1)), some (aI v4)]) (st1 := [aI (v3 + q3.1), aR 14 0]) (σ1 := q3.2) (P := []) rfl trivial ?_
        refine XW.callV B (M := M_X7_isTooMuch) (t := 14) (j := 0) (cn := 1) (as := [aI (v3 + q3.1)]) (c_X7_isTooMuch (v3 + q3.1) q3.2 rfl) (by decide) wV_X7_isTooMuch wN_X7_isTooMuch lk_X9_51 rfl rfl rfl (by decide) rfl (Nat.le_of_ble_eq_true rfl) (by decide +kernel) ?_
        refine XW.bb B [] (by decide +kernel) (pc1 := 81) (ls1 := [some (aR 17 0), some (aI v1), some (aI v2), some (aI (v3 + q3.1)), some (aI v4)]) (st1 := [aI (m_X7_isTooMuch (v3 + q3.1) q3.2)]) (σ1 := q3.2) (P := []) (i := .ifCond .eq 4) (tgt := 85) (q := (m_X7_isTooMuch (v3 + q3.1) q3.2) = (0 : Int32)) rfl trivial (by decide +kernel) rfl (by decide) (fun h4 => ?_) (fun h4 => ?_)
        · rw [if_pos h4] at hm
          refine XW.bk B [(85, .aload_n 0), (86, .dup), (87, .getfield 129), (90, .iconst 1), (91, .iadd), (92, .putfield 129), (95, .iinc 4 1), (98, .goto (-93))] (by decide +kernel) (pc1 := 5) (ls1 := [some (aR 17 0), some (aI v1), some (aI v2), some (aI (v3 + q3.1)), some (aI (v4 + (1 : Int32)))]) (st1 := []) (σ1 := (sI q3.2 17 0 7 ((q3.2.1 17 0 7) + (1 : Int32)))) (P := []) rfl trivial ?_
          exact ih v1 v2 (v3 + q3.1) (v4 + (1 : Int32)) (sI q3.2 17 0 7 ((q3.2.1 17 0 7) + (1 : Int32))) hm
        · rw [if_neg h4] at hm
          cases hm
          exact XW.vret B q (by decide +kernel)
      · rw [if_neg h2] at hm
        cases hm
        exact XW.vret B q (by decide +kernel)
set_option maxRecDepth 100000 in
set_option maxHeartbeats 4000000 in
theorem c_X9_drawOne (x1 : Int32) (x2 : Int32) (σ : SS) {σ' : SS} (hm : m_X9_drawOne x1 x2 σ = some σ') : XM LC 5 M_X9_drawOne [aR 17 0, aI x1, aI x2] σ none σ' := by
  refine XM.of (K := K9) (by decide) (by decide +kernel) K9_ok (Nat.le_of_ble_eq_true rfl) (fun Γ B q => ?_)
  unfold m_X9_drawOne at hm
  refine XW.bk B [(0, .iconst 0), (1, .istore_n 3), (2, .iconst 0), (3, .istore 4)] (by decide +kernel) (pc1 := 5) (ls1 := [some (aR 17 0), some (aI x1), some (aI x2), some (aI (0 : Int32)), some (aI (0 : Int32))]) (st1 := []) (σ1 := σ) (P := []) rfl trivial ?_
  exact lp_X9_drawOne_5 B q FU x1 x2 (0 : Int32) (0 : Int32) σ hm

def L_X9_draw_25 : Nat → Int32 → Int32 → Int32 → SS → Option (SS)
  | 0, _, _, _, _ => none
  | n + 1, v2, v3, v4, σ =>
    if v2 ≤ v4 then
      some σ
    else
    Option.bind (m_X9_drawOne ((7 : Int32) * v4) v3 σ) (fun q3 =>
    L_X9_draw_25 n v2 v3 (v4 + (1 : Int32)) q3)
def m_X9_draw (x1 : Int32) (x2 : Int32) (x3 : Int32) (σ : SS) : Option (SS) :=
  bnT (m_X7_supposeNow σ) (fun q1 =>
  L_X9_draw_25 FU x2 x3 (0 : Int32) (sI (sI (sI q1 17 0 8 x1) 17 0 6 (0 : Int32)) 17 0 7 (0 : Int32)))
set_option maxRecDepth 100000 in
set_option maxHeartbeats 4000000 in
theorem lp_X9_draw_25 {Γ : XC} {σ' : SS} (B : XB Γ cX9_draw RX9 6 K9 LC 5) (q : XQ Γ (none) none σ') : ∀ (n : Nat) (v2 : Int32) (v3 : Int32) (v4 : Int32) (σ : SS), L_X9_draw_25 n v2 v3 v4 σ = some σ' → XW Γ 25 [some (aR 17 0), none, some (aI v2), some (aI v3), some (aI v4)] [] σ := by
  intro n
  induction n with
  | zero => intro v2 v3 v4 σ hm; cases hm
  | succ n ih =>
    intro v2 v3 v4 σ hm
    rw [L_X9_draw_25] at hm
    refine XW.bb B [(25, .iload 4), (27, .iload_n 2)] (by decide +kernel) (pc1 := 28) (ls1 := [some (aR 17 0), none, some (aI v2), some (aI v3), some (aI v4)]) (st1 := [aI v2, aI v4]) (σ1 := σ) (P := []) (i := .if_icmp .ge 19) (tgt := 47) (q := v2 ≤ v4) rfl trivial (by decide +kernel) rfl (by decide) (fun h2 => ?_) (fun h2 => ?_)
    · rw [if_pos h2] at hm
      cases hm
      exact XW.vret B q (by decide +kernel)
    · rw [if_neg h2] at hm
      refine XW.bk B [(31, .aload_n 0), (32, .bipush 7), (34, .iload 4), (36, .imul), (37, .iload_n 3)] (by decide +kernel) (pc1 := 38) (ls1 := [some (aR 17 0), none, some (aI v2), some (aI v3), some (aI v4)]) (st1 := [aI v3, aI ((7 : Int32) * v4), aR 17 0]) (σ1 := σ) (P := []) rfl trivial ?_
      obtain ⟨q3, hq3, hm⟩ := obind_eq hm
      refine XW.callV B (M := M_X9_drawOne) (t := 17) (j := 0) (cn := 1) (as := [aI ((7 : Int32) * v4), aI v3]) (c_X9_drawOne ((7 : Int32) * v4) v3 σ hq3) (by decide) wV_X9_drawOne wN_X9_drawOne lk_X9_132 rfl rfl rfl (by decide) rfl (Nat.le_of_ble_eq_true rfl) (by decide +kernel) ?_
      refine XW.bk B [(41, .iinc 4 1), (44, .goto (-19))] (by decide +kernel) (pc1 := 25) (ls1 := [some (aR 17 0), none, some (aI v2), some (aI v3), some (aI (v4 + (1 : Int32)))]) (st1 := []) (σ1 := q3) (P := []) rfl trivial ?_
      exact ih v2 v3 (v4 + (1 : Int32)) q3 hm
set_option maxRecDepth 100000 in
set_option maxHeartbeats 4000000 in
theorem c_X9_draw (x1 : Int32) (x2 : Int32) (x3 : Int32) (σ : SS) {σ' : SS} (hm : m_X9_draw x1 x2 x3 σ = some σ') : XM LC 6 M_X9_draw [aR 17 0, aI x1, aI x2, aI x3] σ none σ' := by
  refine XM.of (K := K9) (by decide) (by decide +kernel) K9_ok (Nat.le_of_ble_eq_true rfl) (fun Γ B q => ?_)
  unfold m_X9_draw at hm
  refine XW.bk B [(0, .aload_n 0), (1, .getfield 22)] (by decide +kernel) (pc1 := 4) (ls1 := [some (aR 17 0), some (aI x1), some (aI x2), some (aI x3), none]) (st1 := [aR 14 0]) (σ1 := σ) (P := []) rfl trivial ?_
  obtain ⟨q1, hq1, hm⟩ := bnT_eq hm
  refine XW.callV B (M := M_X7_supposeNow) (t := 14) (j := 0) (cn := 1) (as := []) (c_X7_supposeNow σ hq1) (by decide) wV_X7_supposeNow wN_X7_supposeNow lk_X9_58 rfl rfl rfl (by decide) rfl (Nat.le_of_ble_eq_true rfl) (by decide +kernel) ?_
  refine XW.bk B [(7, .aload_n 0), (8, .iload_n 1), (9, .putfield 123), (12, .aload_n 0), (13, .iconst 0), (14, .putfield 126), (17, .aload_n 0), (18, .iconst 0), (19, .putfield 129), (22, .iconst 0), (23, .istore 4)] (by decide +kernel) (pc1 := 25) (ls1 := [some (aR 17 0), some (aI x1), some (aI x2), some (aI x3), some (aI (0 : Int32))]) (st1 := []) (σ1 := (sI (sI (sI q1 17 0 8 x1) 17 0 6 (0 : Int32)) 17 0 7 (0 : Int32))) (P := []) rfl trivial ?_
  refine XW.loc [true, false, true, true, true] rfl ?_
  exact lp_X9_draw_25 B q FU x2 x3 (0 : Int32) (sI (sI (sI q1 17 0 8 x1) 17 0 6 (0 : Int32)) 17 0 7 (0 : Int32)) hm
