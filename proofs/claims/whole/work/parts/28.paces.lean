def m_X5_has (x1 : Int32) (σ : SS) : Int32 :=
  if x1 < (0 : Int32) then
    (0 : Int32)
  else
  if (σ.1 24 0 1) ≤ x1 then
    (0 : Int32)
  else
  if (50 : Int32) ≤ x1 then
    (0 : Int32)
  else
  (1 : Int32)
set_option maxRecDepth 100000 in
set_option maxHeartbeats 4000000 in
theorem c_X5_has (x1 : Int32) (σ : SS) {r : Int32} (hm : m_X5_has x1 σ = r) : XM LC 1 M_X5_has [aR 24 0, aI x1] σ (some (aI r)) σ := by
  refine XM.of (K := K5) (by decide) (by decide +kernel) K5_ok (Nat.le_of_ble_eq_true rfl) (fun Γ B q => ?_)
  unfold m_X5_has at hm
  refine XW.bb B [(0, .iload_n 1)] (by decide +kernel) (pc1 := 1) (ls1 := [some (aR 24 0), some (aI x1)]) (st1 := [aI x1]) (σ1 := σ) (P := []) (i := .ifCond .lt 21) (tgt := 22) (q := x1 < (0 : Int32)) rfl trivial (by decide +kernel) rfl (by decide) (fun h1 => ?_) (fun h1 => ?_)
  · rw [if_pos h1] at hm
    refine XW.bk B [(22, .iconst 0)] (by decide +kernel) (pc1 := 23) (ls1 := [some (aR 24 0), some (aI x1)]) (st1 := [aI (0 : Int32)]) (σ1 := σ) (P := []) rfl trivial ?_
    cases hm
    exact XW.zret B q (Or.inl rfl) (by decide +kernel)
  · rw [if_neg h1] at hm
    refine XW.bb B [(4, .iload_n 1), (5, .aload_n 0), (6, .getfield 18)] (by decide +kernel) (pc1 := 9) (ls1 := [some (aR 24 0), some (aI x1)]) (st1 := [aI (σ.1 24 0 1), aI x1]) (σ1 := σ) (P := []) (i := .if_icmp .ge 13) (tgt := 22) (q := (σ.1 24 0 1) ≤ x1) rfl trivial (by decide +kernel) rfl (by decide) (fun h2 => ?_) (fun h2 => ?_)
    · rw [if_pos h2] at hm
      refine XW.bk B [(22, .iconst 0)] (by decide +kernel) (pc1 := 23) (ls1 := [some (aR 24 0), some (aI x1)]) (st1 := [aI (0 : Int32)]) (σ1 := σ) (P := []) rfl trivial ?_
      cases hm
      exact XW.zret B q (Or.inl rfl) (by decide +kernel)
    · rw [if_neg h2] at hm
      refine XW.bb B [(12, .iload_n 1), (13, .bipush 50)] (by decide +kernel) (pc1 := 15) (ls1 := [some (aR 24 0), some (aI x1)]) (st1 := [aI (50 : Int32), aI x1]) (σ1 := σ) (P := []) (i := .if_icmp .ge 7) (tgt := 22) (q := (50 : Int32) ≤ x1) rfl trivial (by decide +kernel) rfl (by decide) (fun h3 => ?_) (fun h3 => ?_)
      · rw [if_pos h3] at hm
        refine XW.bk B [(22, .iconst 0)] (by decide +kernel) (pc1 := 23) (ls1 := [some (aR 24 0), some (aI x1)]) (st1 := [aI (0 : Int32)]) (σ1 := σ) (P := []) rfl trivial ?_
        cases hm
        exact XW.zret B q (Or.inl rfl) (by decide +kernel)
      · rw [if_neg h3] at hm
        refine XW.bk B [(18, .iconst 1), (19, .goto 4)] (by decide +kernel) (pc1 := 23) (ls1 := [some (aR 24 0), some (aI x1)]) (st1 := [aI (1 : Int32)]) (σ1 := σ) (P := []) rfl trivial ?_
        cases hm
        exact XW.zret B q (Or.inr rfl) (by decide +kernel)
theorem b_X5_has (x1 : Int32) (σ : SS) : m_X5_has x1 σ = 0 ∨ m_X5_has x1 σ = 1 := by
  unfold m_X5_has
  (repeat' split) <;> first | exact Or.inl rfl | exact Or.inr rfl

def m_X5_add (x1 : Int32) (σ : SS) : Int32 × SS :=
  if (σ.1 24 0 1) < (0 : Int32) then
    ((-3 : Int32), σ)
  else
  if (σ.1 24 0 1) < (50 : Int32) then
    ((σ.1 24 0 1), (sI (sA σ 25 0 (σ.1 24 0 1).toNatClampNeg x1) 24 0 1 ((σ.1 24 0 1) + (1 : Int32))))
  else
  ((-3 : Int32), σ)
set_option maxRecDepth 100000 in
set_option maxHeartbeats 4000000 in
theorem c_X5_add (x1 : Int32) (σ : SS) {r : Int32} {σ' : SS} (hm : m_X5_add x1 σ = (r, σ')) : XM LC 1 M_X5_add [aR 24 0, aI x1] σ (some (aI r)) σ' := by
  refine XM.of (K := K5) (by decide) (by decide +kernel) K5_ok (Nat.le_of_ble_eq_true rfl) (fun Γ B q => ?_)
  unfold m_X5_add at hm
  refine XW.bb B [(0, .aload_n 0), (1, .getfield 18)] (by decide +kernel) (pc1 := 4) (ls1 := [some (aR 24 0), some (aI x1)]) (st1 := [aI (σ.1 24 0 1)]) (σ1 := σ) (P := []) (i := .ifCond .lt 12) (tgt := 16) (q := (σ.1 24 0 1) < (0 : Int32)) rfl trivial (by decide +kernel) rfl (by decide) (fun h1 => ?_) (fun h1 => ?_)
  · rw [if_pos h1] at hm
    refine XW.bk B [(16, .bipush (-3))] (by decide +kernel) (pc1 := 18) (ls1 := [some (aR 24 0), some (aI x1)]) (st1 := [aI (-3 : Int32)]) (σ1 := σ) (P := []) rfl trivial ?_
    cases hm
    exact XW.iret B q (by decide +kernel)
  · rw [if_neg h1] at hm
    refine XW.bb B [(7, .aload_n 0), (8, .getfield 18), (11, .bipush 50)] (by decide +kernel) (pc1 := 13) (ls1 := [some (aR 24 0), some (aI x1)]) (st1 := [aI (50 : Int32), aI (σ.1 24 0 1)]) (σ1 := σ) (P := []) (i := .if_icmp .lt 6) (tgt := 19) (q := (σ.1 24 0 1) < (50 : Int32)) rfl trivial (by decide +kernel) rfl (by decide) (fun h2 => ?_) (fun h2 => ?_)
    · rw [if_pos h2] at hm
      refine XW.bk B [(19, .aload_n 0), (20, .getfield 11), (23, .aload_n 0), (24, .getfield 18), (27, .iload_n 1), (28, .iastore), (29, .aload_n 0), (30, .dup), (31, .getfield 18), (34, .dup_x1), (35, .iconst 1), (36, .iadd), (37, .putfield 18)] (by decide +kernel) (pc1 := 40) (ls1 := [some (aR 24 0), some (aI x1)]) (st1 := [aI (σ.1 24 0 1)]) (σ1 := (sI (sA σ 25 0 (σ.1 24 0 1).toNatClampNeg x1) 24 0 1 ((σ.1 24 0 1) + (1 : Int32)))) (P := [vp_in (σ.1 24 0 1) 50]) rfl ⟨(vin_b h1 h2 (by decide +kernel)), trivial⟩ ?_
      cases hm
      exact XW.iret B q (by decide +kernel)
    · rw [if_neg h2] at hm
      refine XW.bk B [(16, .bipush (-3))] (by decide +kernel) (pc1 := 18) (ls1 := [some (aR 24 0), some (aI x1)]) (st1 := [aI (-3 : Int32)]) (σ1 := σ) (P := []) rfl trivial ?_
      cases hm
      exact XW.iret B q (by decide +kernel)

def m_X5_kindOf (x1 : Int32) (σ : SS) : Option (Int32) :=
  if (m_X5_has x1 σ) = (0 : Int32) then
    some (-1 : Int32)
  else
  if x1 < 0 ∨ 50 ≤ x1.toNatClampNeg then none else
  some (σ.2.1 25 0 x1.toNatClampNeg)
set_option maxRecDepth 100000 in
set_option maxHeartbeats 4000000 in
theorem c_X5_kindOf (x1 : Int32) (σ : SS) {r : Int32} (hm : m_X5_kindOf x1 σ = some r) : XM LC 2 M_X5_kindOf [aR 24 0, aI x1] σ (some (aI r)) σ := by
  refine XM.of (K := K5) (by decide) (by decide +kernel) K5_ok (Nat.le_of_ble_eq_true rfl) (fun Γ B q => ?_)
  unfold m_X5_kindOf at hm
  refine XW.bk B [(0, .aload_n 0), (1, .iload_n 1)] (by decide +kernel) (pc1 := 2) (ls1 := [some (aR 24 0), some (aI x1)]) (st1 := [aI x1, aR 24 0]) (σ1 := σ) (P := []) rfl trivial ?_
  refine XW.callV B (M := M_X5_has) (t := 24) (j := 0) (cn := 1) (as := [aI x1]) (c_X5_has x1 σ rfl) (by decide) wV_X5_has wN_X5_has lk_X5_22 rfl rfl rfl (by decide) rfl (Nat.le_of_ble_eq_true rfl) (by decide +kernel) ?_
  refine XW.bb B [] (by decide +kernel) (pc1 := 5) (ls1 := [some (aR 24 0), some (aI x1)]) (st1 := [aI (m_X5_has x1 σ)]) (σ1 := σ) (P := []) (i := .ifCond .eq 12) (tgt := 17) (q := (m_X5_has x1 σ) = (0 : Int32)) rfl trivial (by decide +kernel) rfl (by decide) (fun h1 => ?_) (fun h1 => ?_)
  · rw [if_pos h1] at hm
    refine XW.bk B [(17, .iconst (-1))] (by decide +kernel) (pc1 := 18) (ls1 := [some (aR 24 0), some (aI x1)]) (st1 := [aI (-1 : Int32)]) (σ1 := σ) (P := []) rfl trivial ?_
    cases hm
    exact XW.iret B q (by decide +kernel)
  · rw [if_neg h1] at hm
    refine XW.bk B [(8, .aload_n 0), (9, .getfield 11), (12, .iload_n 1)] (by decide +kernel) (pc1 := 13) (ls1 := [some (aR 24 0), some (aI x1)]) (st1 := [aI x1, aR 25 0]) (σ1 := σ) (P := []) rfl trivial ?_
    by_cases g2 : x1 < 0 ∨ 50 ≤ x1.toNatClampNeg
    · rw [if_pos g2] at hm; cases hm
    rw [if_neg g2] at hm
    refine XW.bk B [(13, .iaload), (14, .goto 4)] (by decide +kernel) (pc1 := 18) (ls1 := [some (aR 24 0), some (aI x1)]) (st1 := [aI (σ.2.1 25 0 x1.toNatClampNeg)]) (σ1 := σ) (P := [vp_in x1 50]) rfl ⟨g2, trivial⟩ ?_
    cases hm
    exact XW.iret B q (by decide +kernel)

def m_X5_above (x1 : Int32) : Int32 :=
  if x1 < (0 : Int32) then
    (-1 : Int32)
  else
  if (8 : Int32) ≤ x1 then
    (-1 : Int32)
  else
  (aStF 2 x1.toNatClampNeg)
set_option maxRecDepth 100000 in
set_option maxHeartbeats 4000000 in
theorem c_X5_above (x1 : Int32) (σ : SS) {r : Int32} (hm : m_X5_above x1 = r) : XM LC 1 M_X5_above [aI x1] σ (some (aI r)) σ := by
  refine XM.of (K := K5) (by decide) (by decide +kernel) K5_ok (Nat.le_of_ble_eq_true rfl) (fun Γ B q => ?_)
  unfold m_X5_above at hm
  refine XW.bb B [(0, .iload_n 0)] (by decide +kernel) (pc1 := 1) (ls1 := [some (aI x1)]) (st1 := [aI x1]) (σ1 := σ) (P := []) (i := .ifCond .lt 19) (tgt := 20) (q := x1 < (0 : Int32)) rfl trivial (by decide +kernel) rfl (by decide) (fun h1 => ?_) (fun h1 => ?_)
  · rw [if_pos h1] at hm
    refine XW.bk B [(20, .iconst (-1))] (by decide +kernel) (pc1 := 21) (ls1 := [some (aI x1)]) (st1 := [aI (-1 : Int32)]) (σ1 := σ) (P := []) rfl trivial ?_
    cases hm
    exact XW.iret B q (by decide +kernel)
  · rw [if_neg h1] at hm
    refine XW.bb B [(4, .iload_n 0), (5, .getstatic 30), (8, .arraylength)] (by decide +kernel) (pc1 := 9) (ls1 := [some (aI x1)]) (st1 := [aI (8 : Int32), aI x1]) (σ1 := σ) (P := [(0 : Nat) = 0]) (i := .if_icmp .ge 11) (tgt := 20) (q := (8 : Int32) ≤ x1) rfl ⟨rfl, trivial⟩ (by decide +kernel) rfl (by decide) (fun h2 => ?_) (fun h2 => ?_)
    · rw [if_pos h2] at hm
      refine XW.bk B [(20, .iconst (-1))] (by decide +kernel) (pc1 := 21) (ls1 := [some (aI x1)]) (st1 := [aI (-1 : Int32)]) (σ1 := σ) (P := []) rfl trivial ?_
      cases hm
      exact XW.iret B q (by decide +kernel)
    · rw [if_neg h2] at hm
      refine XW.bk B [(12, .getstatic 30), (15, .iload_n 0), (16, .iaload), (17, .goto 4)] (by decide +kernel) (pc1 := 21) (ls1 := [some (aI x1)]) (st1 := [aI (aStF 2 x1.toNatClampNeg)]) (σ1 := σ) (P := [(0 : Nat) = 0, vp_in x1 8]) rfl ⟨rfl, (vin_a h1 h2 (by decide +kernel)), trivial⟩ ?_
      cases hm
      exact XW.iret B q (by decide +kernel)

def L_X5_isUnder_4 : Nat → Int32 → Int32 → Int32 → SS → Option (Int32)
  | 0, _, _, _, _ => none
  | n + 1, v1, v2, v3, σ =>
    if (8 : Int32) ≤ v3 then
      some (0 : Int32)
    else
    if v2 < (0 : Int32) then
      some (0 : Int32)
    else
    if v2 = v1 then
      some (1 : Int32)
    else
    L_X5_isUnder_4 n v1 (m_X5_above v2) (v3 + (1 : Int32)) σ
def m_X5_isUnder (x1 : Int32) (x2 : Int32) (σ : SS) : Option (Int32) :=
  L_X5_isUnder_4 FU x2 x1 (0 : Int32) σ
set_option maxRecDepth 100000 in
set_option maxHeartbeats 4000000 in
theorem lp_X5_isUnder_4 {Γ : XC} {r : Int32} {σ0 : SS} (B : XB Γ cX5_isUnder RX5 2 K5 LC 4) (q : XQ Γ (some .boolean) (some (aI r)) σ0) : ∀ (n : Nat) (v1 : Int32) (v2 : Int32) (v3 : Int32) (σ : SS), σ = σ0 → L_X5_isUnder_4 n v1 v2 v3 σ = some r → XW Γ 4 [none, some (aI v1), some (aI v2), some (aI v3)] [] σ := by
  intro n
  induction n with
  | zero => intro v1 v2 v3 σ hσ hm; cases hm
  | succ n ih =>
    intro v1 v2 v3 σ hσ hm
    subst hσ
    rw [L_X5_isUnder_4] at hm
    refine XW.bb B [(4, .iload_n 3), (5, .bipush 8)] (by decide +kernel) (pc1 := 7) (ls1 := [none, some (aI v1), some (aI v2), some (aI v3)]) (st1 := [aI (8 : Int32), aI v3]) (σ1 := σ) (P := []) (i := .if_icmp .ge 25) (tgt := 32) (q := (8 : Int32) ≤ v3) rfl trivial (by decide +kernel) rfl (by decide) (fun h1 => ?_) (fun h1 => ?_)
    · rw [if_pos h1] at hm
      refine XW.bk B [(32, .iconst 0)] (by decide +kernel) (pc1 := 33) (ls1 := [none, some (aI v1), some (aI v2), some (aI v3)]) (st1 := [aI (0 : Int32)]) (σ1 := σ) (P := []) rfl trivial ?_
      cases hm
      exact XW.zret B q (Or.inl rfl) (by decide +kernel)
    · rw [if_neg h1] at hm
      refine XW.bb B [(10, .iload_n 2)] (by decide +kernel) (pc1 := 11) (ls1 := [none, some (aI v1), some (aI v2), some (aI v3)]) (st1 := [aI v2]) (σ1 := σ) (P := []) (i := .ifCond .lt 21) (tgt := 32) (q := v2 < (0 : Int32)) rfl trivial (by decide +kernel) rfl (by decide) (fun h2 => ?_) (fun h2 => ?_)
      · rw [if_pos h2] at hm
        refine XW.bk B [(32, .iconst 0)] (by decide +kernel) (pc1 := 33) (ls1 := [none, some (aI v1), some (aI v2), some (aI v3)]) (st1 := [aI (0 : Int32)]) (σ1 := σ) (P := []) rfl trivial ?_
        cases hm
        exact XW.zret B q (Or.inl rfl) (by decide +kernel)
      · rw [if_neg h2] at hm
        refine XW.bn B [(14, .iload_n 2), (15, .iload_n 1)] (by decide +kernel) (pc1 := 16) (ls1 := [none, some (aI v1), some (aI v2), some (aI v3)]) (st1 := [aI v1, aI v2]) (σ1 := σ) (P := []) (i := .if_icmp .ne 5) (tgt := 21) (q := v2 = v1) rfl trivial (by decide +kernel) rfl (by decide) (fun h3 => ?_) (fun h3 => ?_)
        · rw [if_pos h3] at hm
          refine XW.bk B [(19, .iconst 1)] (by decide +kernel) (pc1 := 20) (ls1 := [none, some (aI v1), some (aI v2), some (aI v3)]) (st1 := [aI (1 : Int32)]) (σ1 := σ) (P := []) rfl trivial ?_
          cases hm
          exact XW.zret B q (Or.inr rfl) (by decide +kernel)
        · rw [if_neg h3] at hm
          refine XW.bk B [(21, .iload_n 2)] (by decide +kernel) (pc1 := 22) (ls1 := [none, some (aI v1), some (aI v2), some (aI v3)]) (st1 := [aI v2]) (σ1 := σ) (P := []) rfl trivial ?_
          refine XW.callS B (M := M_X5_above) (as := [aI v2]) (c_X5_above v2 σ rfl) (by decide) wS_X5_above wN_X5_above lk_X5_26 rfl (Nat.le_of_ble_eq_true rfl) (by decide +kernel) ?_
          refine XW.bk B [(25, .istore_n 2), (26, .iinc 3 1), (29, .goto (-25))] (by decide +kernel) (pc1 := 4) (ls1 := [none, some (aI v1), some (aI (m_X5_above v2)), some (aI (v3 + (1 : Int32)))]) (st1 := []) (σ1 := σ) (P := []) rfl trivial ?_
          exact ih v1 (m_X5_above v2) (v3 + (1 : Int32)) σ rfl hm
set_option maxRecDepth 100000 in
set_option maxHeartbeats 4000000 in
theorem c_X5_isUnder (x1 : Int32) (x2 : Int32) (σ : SS) {r : Int32} (hm : m_X5_isUnder x1 x2 σ = some r) : XM LC 2 M_X5_isUnder [aI x1, aI x2] σ (some (aI r)) σ := by
  refine XM.of (K := K5) (by decide) (by decide +kernel) K5_ok (Nat.le_of_ble_eq_true rfl) (fun Γ B q => ?_)
  unfold m_X5_isUnder at hm
  refine XW.bk B [(0, .iload_n 0), (1, .istore_n 2), (2, .iconst 0), (3, .istore_n 3)] (by decide +kernel) (pc1 := 4) (ls1 := [some (aI x1), some (aI x2), some (aI x1), some (aI (0 : Int32))]) (st1 := []) (σ1 := σ) (P := []) rfl trivial ?_
  refine XW.loc [false, true, true, true] rfl ?_
  exact lp_X5_isUnder_4 B q FU x2 x1 (0 : Int32) σ rfl hm

def m_X5_own (x1 : Int32) (x2 : Int32) : Option (Int32) :=
  if x1 < (0 : Int32) then
    some (0 : Int32)
  else
  if x2 < (0 : Int32) then
    some (0 : Int32)
  else
  if (4 : Int32) ≤ x2 then
    some (0 : Int32)
  else
  if (32 : Int32) ≤ ((x1 * (4 : Int32)) + x2) then
    some (0 : Int32)
  else
  if ((x1 * (4 : Int32)) + x2) < 0 ∨ 32 ≤ ((x1 * (4 : Int32)) + x2).toNatClampNeg then none else
  some (aStF 3 ((x1 * (4 : Int32)) + x2).toNatClampNeg)
set_option maxRecDepth 100000 in
set_option maxHeartbeats 4000000 in
theorem c_X5_own (x1 : Int32) (x2 : Int32) (σ : SS) {r : Int32} (hm : m_X5_own x1 x2 = some r) : XM LC 1 M_X5_own [aI x1, aI x2] σ (some (aI r)) σ := by
  refine XM.of (K := K5) (by decide) (by decide +kernel) K5_ok (Nat.le_of_ble_eq_true rfl) (fun Γ B q => ?_)
  unfold m_X5_own at hm
  refine XW.bb B [(0, .iload_n 0), (1, .iconst 4), (2, .imul), (3, .iload_n 1), (4, .iadd), (5, .istore_n 2), (6, .iload_n 0)] (by decide +kernel) (pc1 := 7) (ls1 := [some (aI x1), some (aI x2), some (aI ((x1 * (4 : Int32)) + x2))]) (st1 := [aI x1]) (σ1 := σ) (P := []) (i := .ifCond .lt 28) (tgt := 35) (q := x1 < (0 : Int32)) rfl trivial (by decide +kernel) rfl (by decide) (fun h1 => ?_) (fun h1 => ?_)
  · rw [if_pos h1] at hm
    refine XW.bk B [(35, .iconst 0)] (by decide +kernel) (pc1 := 36) (ls1 := [some (aI x1), some (aI x2), some (aI ((x1 * (4 : Int32)) + x2))]) (st1 := [aI (0 : Int32)]) (σ1 := σ) (P := []) rfl trivial ?_
    cases hm
    exact XW.iret B q (by decide +kernel)
  · rw [if_neg h1] at hm
    refine XW.bb B [(10, .iload_n 1)] (by decide +kernel) (pc1 := 11) (ls1 := [some (aI x1), some (aI x2), some (aI ((x1 * (4 : Int32)) + x2))]) (st1 := [aI x2]) (σ1 := σ) (P := []) (i := .ifCond .lt 24) (tgt := 35) (q := x2 < (0 : Int32)) rfl trivial (by decide +kernel) rfl (by decide) (fun h2 => ?_) (fun h2 => ?_)
    · rw [if_pos h2] at hm
      refine XW.bk B [(35, .iconst 0)] (by decide +kernel) (pc1 := 36) (ls1 := [some (aI x1), some (aI x2), some (aI ((x1 * (4 : Int32)) + x2))]) (st1 := [aI (0 : Int32)]) (σ1 := σ) (P := []) rfl trivial ?_
      cases hm
      exact XW.iret B q (by decide +kernel)
    · rw [if_neg h2] at hm
      refine XW.bb B [(14, .iload_n 1), (15, .iconst 4)] (by decide +kernel) (pc1 := 16) (ls1 := [some (aI x1), some (aI x2), some (aI ((x1 * (4 : Int32)) + x2))]) (st1 := [aI (4 : Int32), aI x2]) (σ1 := σ) (P := []) (i := .if_icmp .ge 19) (tgt := 35) (q := (4 : Int32) ≤ x2) rfl trivial (by decide +kernel) rfl (by decide) (fun h3 => ?_) (fun h3 => ?_)
      · rw [if_pos h3] at hm
        refine XW.bk B [(35, .iconst 0)] (by decide +kernel) (pc1 := 36) (ls1 := [some (aI x1), some (aI x2), some (aI ((x1 * (4 : Int32)) + x2))]) (st1 := [aI (0 : Int32)]) (σ1 := σ) (P := []) rfl trivial ?_
        cases hm
        exact XW.iret B q (by decide +kernel)
      · rw [if_neg h3] at hm
        refine XW.bb B [(19, .iload_n 2), (20, .getstatic 33), (23, .arraylength)] (by decide +kernel) (pc1 := 24) (ls1 := [some (aI x1), some (aI x2), some (aI ((x1 * (4 : Int32)) + x2))]) (st1 := [aI (32 : Int32), aI ((x1 * (4 : Int32)) + x2)]) (σ1 := σ) (P := [(0 : Nat) = 0]) (i := .if_icmp .ge 11) (tgt := 35) (q := (32 : Int32) ≤ ((x1 * (4 : Int32)) + x2)) rfl ⟨rfl, trivial⟩ (by decide +kernel) rfl (by decide) (fun h4 => ?_) (fun h4 => ?_)
        · rw [if_pos h4] at hm
          refine XW.bk B [(35, .iconst 0)] (by decide +kernel) (pc1 := 36) (ls1 := [some (aI x1), some (aI x2), some (aI ((x1 * (4 : Int32)) + x2))]) (st1 := [aI (0 : Int32)]) (σ1 := σ) (P := []) rfl trivial ?_
          cases hm
          exact XW.iret B q (by decide +kernel)
        · rw [if_neg h4] at hm
          refine XW.bk B [(27, .getstatic 33), (30, .iload_n 2)] (by decide +kernel) (pc1 := 31) (ls1 := [some (aI x1), some (aI x2), some (aI ((x1 * (4 : Int32)) + x2))]) (st1 := [aI ((x1 * (4 : Int32)) + x2), aR 103 0]) (σ1 := σ) (P := []) rfl trivial ?_
          by_cases g5 : ((x1 * (4 : Int32)) + x2) < 0 ∨ 32 ≤ ((x1 * (4 : Int32)) + x2).toNatClampNeg
          · rw [if_pos g5] at hm; cases hm
          rw [if_neg g5] at hm
          refine XW.bk B [(31, .iaload), (32, .goto 4)] (by decide +kernel) (pc1 := 36) (ls1 := [some (aI x1), some (aI x2), some (aI ((x1 * (4 : Int32)) + x2))]) (st1 := [aI (aStF 3 ((x1 * (4 : Int32)) + x2).toNatClampNeg)]) (σ1 := σ) (P := [(0 : Nat) = 0, vp_in ((x1 * (4 : Int32)) + x2) 32]) rfl ⟨rfl, g5, trivial⟩ ?_
          cases hm
          exact XW.iret B q (by decide +kernel)

def m_X5_ranAs (x1 : Int32) (σ : SS) : Int32 :=
  if x1 < (0 : Int32) then
    (-1 : Int32)
  else
  if (σ.1 24 0 3) ≤ x1 then
    (-1 : Int32)
  else
  if (24 : Int32) ≤ x1 then
    (-1 : Int32)
  else
  (σ.2.1 26 0 x1.toNatClampNeg)
set_option maxRecDepth 100000 in
set_option maxHeartbeats 4000000 in
theorem c_X5_ranAs (x1 : Int32) (σ : SS) {r : Int32} (hm : m_X5_ranAs x1 σ = r) : XM LC 1 M_X5_ranAs [aR 24 0, aI x1] σ (some (aI r)) σ := by
  refine XM.of (K := K5) (by decide) (by decide +kernel) K5_ok (Nat.le_of_ble_eq_true rfl) (fun Γ B q => ?_)
  unfold m_X5_ranAs at hm
  refine XW.bb B [(0, .iload_n 1)] (by decide +kernel) (pc1 := 1) (ls1 := [some (aR 24 0), some (aI x1)]) (st1 := [aI x1]) (σ1 := σ) (P := []) (i := .ifCond .lt 26) (tgt := 27) (q := x1 < (0 : Int32)) rfl trivial (by decide +kernel) rfl (by decide) (fun h1 => ?_) (fun h1 => ?_)
  · rw [if_pos h1] at hm
    refine XW.bk B [(27, .iconst (-1))] (by decide +kernel) (pc1 := 28) (ls1 := [some (aR 24 0), some (aI x1)]) (st1 := [aI (-1 : Int32)]) (σ1 := σ) (P := []) rfl trivial ?_
    cases hm
    exact XW.iret B q (by decide +kernel)
  · rw [if_neg h1] at hm
    refine XW.bb B [(4, .iload_n 1), (5, .aload_n 0), (6, .getfield 36)] (by decide +kernel) (pc1 := 9) (ls1 := [some (aR 24 0), some (aI x1)]) (st1 := [aI (σ.1 24 0 3), aI x1]) (σ1 := σ) (P := []) (i := .if_icmp .ge 18) (tgt := 27) (q := (σ.1 24 0 3) ≤ x1) rfl trivial (by decide +kernel) rfl (by decide) (fun h2 => ?_) (fun h2 => ?_)
    · rw [if_pos h2] at hm
      refine XW.bk B [(27, .iconst (-1))] (by decide +kernel) (pc1 := 28) (ls1 := [some (aR 24 0), some (aI x1)]) (st1 := [aI (-1 : Int32)]) (σ1 := σ) (P := []) rfl trivial ?_
      cases hm
      exact XW.iret B q (by decide +kernel)
    · rw [if_neg h2] at hm
      refine XW.bb B [(12, .iload_n 1), (13, .bipush 24)] (by decide +kernel) (pc1 := 15) (ls1 := [some (aR 24 0), some (aI x1)]) (st1 := [aI (24 : Int32), aI x1]) (σ1 := σ) (P := []) (i := .if_icmp .ge 12) (tgt := 27) (q := (24 : Int32) ≤ x1) rfl trivial (by decide +kernel) rfl (by decide) (fun h3 => ?_) (fun h3 => ?_)
      · rw [if_pos h3] at hm
        refine XW.bk B [(27, .iconst (-1))] (by decide +kernel) (pc1 := 28) (ls1 := [some (aR 24 0), some (aI x1)]) (st1 := [aI (-1 : Int32)]) (σ1 := σ) (P := []) rfl trivial ?_
        cases hm
        exact XW.iret B q (by decide +kernel)
      · rw [if_neg h3] at hm
        refine XW.bk B [(18, .aload_n 0), (19, .getfield 15), (22, .iload_n 1), (23, .iaload), (24, .goto 4)] (by decide +kernel) (pc1 := 28) (ls1 := [some (aR 24 0), some (aI x1)]) (st1 := [aI (σ.2.1 26 0 x1.toNatClampNeg)]) (σ1 := σ) (P := [vp_in x1 24]) rfl ⟨(vin_a h1 h3 (by decide +kernel)), trivial⟩ ?_
        cases hm
        exact XW.iret B q (by decide +kernel)

def L_X5_run_6 (rec : Nat → Int32 → Int32 → Int32 → Int32 → SS → Option (Int32 × SS)) : Nat → Int32 → Int32 → Int32 → Int32 → Int32 → SS → Option (Int32 × SS)
  | 0, _, _, _, _, _, _ => none
  | n + 1, v2, v3, v4, v5, v6, σ =>
    if (8 : Int32) ≤ v6 then
      Option.bind (m_X5_own v5 v2) (fun q2 =>
      if q2 = (0 : Int32) then
        some ((0 : Int32), σ)
      else
      if v4 < (40 : Int32) then
        if (24 : Int32) ≤ (σ.1 24 0 3) then
          Option.bind (rec 1 q2 (m_X5_above v5) v3 (v4 + (1 : Int32)) (sI σ 24 0 3 ((σ.1 24 0 3) + (1 : Int32)))) (fun q6 =>
          some (q6.1, q6.2))
        else
        if (σ.1 24 0 3) < 0 ∨ 24 ≤ (σ.1 24 0 3).toNatClampNeg then none else
        Option.bind (rec 1 q2 (m_X5_above v5) v3 (v4 + (1 : Int32)) (sI (sA σ 26 0 (σ.1 24 0 3).toNatClampNeg q2) 24 0 3 ((σ.1 24 0 3) + (1 : Int32)))) (fun q8 =>
        some (q8.1, q8.2))
      else
      some ((0 : Int32), σ))
    else
    Option.bind (m_X5_own v5 v2) (fun q9 =>
    if q9 = (0 : Int32) then
      L_X5_run_6 rec n v2 v3 v4 (m_X5_above v5) (v6 + (1 : Int32)) σ
    else
    Option.bind (m_X5_own v5 v2) (fun q11 =>
    if q11 = (0 : Int32) then
      some ((0 : Int32), σ)
    else
    if v4 < (40 : Int32) then
      if (24 : Int32) ≤ (σ.1 24 0 3) then
        Option.bind (rec 1 q11 (m_X5_above v5) v3 (v4 + (1 : Int32)) (sI σ 24 0 3 ((σ.1 24 0 3) + (1 : Int32)))) (fun q15 =>
        some (q15.1, q15.2))
      else
      if (σ.1 24 0 3) < 0 ∨ 24 ≤ (σ.1 24 0 3).toNatClampNeg then none else
      Option.bind (rec 1 q11 (m_X5_above v5) v3 (v4 + (1 : Int32)) (sI (sA σ 26 0 (σ.1 24 0 3).toNatClampNeg q11) 24 0 3 ((σ.1 24 0 3) + (1 : Int32)))) (fun q17 =>
      some (q17.1, q17.2))
    else
    some ((0 : Int32), σ)))
def m_X5_run (rec : Nat → Int32 → Int32 → Int32 → Int32 → SS → Option (Int32 × SS)) (x1 : Int32) (x2 : Int32) (x3 : Int32) (x4 : Int32) (σ : SS) : Option (Int32 × SS) :=
  L_X5_run_6 rec FU x2 x3 x4 x1 (0 : Int32) σ
set_option maxRecDepth 100000 in
set_option maxHeartbeats 4000000 in
theorem lp_X5_run_6 (rec : Nat → Int32 → Int32 → Int32 → Int32 → SS → Option (Int32 × SS)) (dr : Nat) (hdr : 2 ≤ dr) (hrec_0 : ∀ (x1 : Int32) (x2 : Int32) (x3 : Int32) (x4 : Int32) (σ : SS) {r : Int32} {σ' : SS}, rec 0 x1 x2 x3 x4 σ = some (r, σ') → XM LC dr M_X5_run [aR 24 0, aI x1, aI x2, aI x3, aI x4] σ (some (aI r)) σ') (hrec_1 : ∀ (x1 : Int32) (x2 : Int32) (x3 : Int32) (x4 : Int32) (σ : SS) {r : Int32} {σ' : SS}, rec 1 x1 x2 x3 x4 σ = some (r, σ') → XM LC dr M_X5_runBody [aR 24 0, aI x1, aI x2, aI x3, aI x4] σ (some (aI r)) σ') {Γ : XC} {r : Int32} {σ' : SS} (B : XB Γ cX5_run RX5 (dr + 1) K5 LC 7) (q : XQ Γ (some .int) (some (aI r)) σ') : ∀ (n : Nat) (v2 : Int32) (v3 : Int32) (v4 : Int32) (v5 : Int32) (v6 : Int32) (σ : SS), L_X5_run_6 rec n v2 v3 v4 v5 v6 σ = some (r, σ') → XW Γ 6 [some (aR 24 0), none, some (aI v2), some (aI v3), some (aI v4), some (aI v5), some (aI v6)] [] σ := by
  intro n
  induction n with
  | zero => intro v2 v3 v4 v5 v6 σ hm; cases hm
  | succ n ih =>
    intro v2 v3 v4 v5 v6 σ hm
    rw [L_X5_run_6] at hm
    refine XW.bb B [(6, .iload 6), (8, .bipush 8)] (by decide +kernel) (pc1 := 10) (ls1 := [some (aR 24 0), none, some (aI v2), some (aI v3), some (aI v4), some (aI v5), some (aI v6)]) (st1 := [aI (8 : Int32), aI v6]) (σ1 := σ) (P := []) (i := .if_icmp .ge 25) (tgt := 35) (q := (8 : Int32) ≤ v6) rfl trivial (by decide +kernel) rfl (by decide) (fun h1 => ?_) (fun h1 => ?_)
    · rw [if_pos h1] at hm
      refine XW.bk B [(35, .iload 5), (37, .iload_n 2)] (by decide +kernel) (pc1 := 38) (ls1 := [some (aR 24 0), none, some (aI v2), some (aI v3), some (aI v4), some (aI v5), some (aI v6)]) (st1 := [aI v2, aI v5]) (σ1 := σ) (P := []) rfl trivial ?_
      obtain ⟨q2, hq2, hm⟩ := obind_eq hm
      refine XW.callS B (M := M_X5_own) (as := [aI v5, aI v2]) (c_X5_own v5 v2 σ hq2) (by omega) wS_X5_own wN_X5_own lk_X5_52 rfl (Nat.le_of_ble_eq_true rfl) (by decide +kernel) ?_
      refine XW.bb B [(41, .istore 6), (43, .iload 6)] (by decide +kernel) (pc1 := 45) (ls1 := [some (aR 24 0), none, some (aI v2), some (aI v3), some (aI v4), some (aI v5), some (aI q2)]) (st1 := [aI q2]) (σ1 := σ) (P := []) (i := .ifCond .eq 10) (tgt := 55) (q := q2 = (0 : Int32)) rfl trivial (by decide +kernel) rfl (by decide) (fun h3 => ?_) (fun h3 => ?_)
      · rw [if_pos h3] at hm
        refine XW.bk B [(55, .iconst 0)] (by decide +kernel) (pc1 := 56) (ls1 := [some (aR 24 0), none, some (aI v2), some (aI v3), some (aI v4), some (aI v5), some (aI q2)]) (st1 := [aI (0 : Int32)]) (σ1 := σ) (P := []) rfl trivial ?_
        cases hm
        exact XW.iret B q (by decide +kernel)
      · rw [if_neg h3] at hm
        refine XW.bb B [(48, .iload 4), (50, .bipush 40)] (by decide +kernel) (pc1 := 52) (ls1 := [some (aR 24 0), none, some (aI v2), some (aI v3), some (aI v4), some (aI v5), some (aI q2)]) (st1 := [aI (40 : Int32), aI v4]) (σ1 := σ) (P := []) (i := .if_icmp .lt 5) (tgt := 57) (q := v4 < (40 : Int32)) rfl trivial (by decide +kernel) rfl (by decide) (fun h4 => ?_) (fun h4 => ?_)
        · rw [if_pos h4] at hm
          refine XW.bb B [(57, .aload_n 0), (58, .getfield 36), (61, .bipush 24)] (by decide +kernel) (pc1 := 63) (ls1 := [some (aR 24 0), none, some (aI v2), some (aI v3), some (aI v4), some (aI v5), some (aI q2)]) (st1 := [aI (24 : Int32), aI (σ.1 24 0 3)]) (σ1 := σ) (P := []) (i := .if_icmp .ge 14) (tgt := 77) (q := (24 : Int32) ≤ (σ.1 24 0 3)) rfl trivial (by decide +kernel) rfl (by decide) (fun h5 => ?_) (fun h5 => ?_)
          · rw [if_pos h5] at hm
            refine XW.bk B [(77, .aload_n 0), (78, .dup), (79, .getfield 36), (82, .iconst 1), (83, .iadd), (84, .putfield 36), (87, .aload_n 0), (88, .iload 6), (90, .iload 5)] (by decide +kernel) (pc1 := 92) (ls1 := [some (aR 24 0), none, some (aI v2), some (aI v3), some (aI v4), some (aI v5), some (aI q2)]) (st1 := [aI v5, aI q2, aR 24 0]) (σ1 := (sI σ 24 0 3 ((σ.1 24 0 3) + (1 : Int32)))) (P := []) rfl trivial ?_
            refine XW.callS B (M := M_X5_above) (as := [aI v5]) (c_X5_above v5 (sI σ 24 0 3 ((σ.1 24 0 3) + (1 : Int32))) rfl) (by omega) wS_X5_above wN_X5_above lk_X5_26 rfl (Nat.le_of_ble_eq_true rfl) (by decide +kernel) ?_
            refine XW.bk B [(95, .iload_n 3), (96, .iload 4), (98, .iconst 1), (99, .iadd)] (by decide +kernel) (pc1 := 100) (ls1 := [some (aR 24 0), none, some (aI v2), some (aI v3), some (aI v4), some (aI v5), some (aI q2)]) (st1 := [aI (v4 + (1 : Int32)), aI v3, aI (m_X5_above v5), aI q2, aR 24 0]) (σ1 := (sI σ 24 0 3 ((σ.1 24 0 3) + (1 : Int32)))) (P := []) rfl trivial ?_
            obtain ⟨q6, hq6, hm⟩ := obind_eq hm
            refine XW.callV B (M := M_X5_runBody) (t := 24) (j := 0) (cn := 1) (as := [aI q2, aI (m_X5_above v5), aI v3, aI (v4 + (1 : Int32))]) (hrec_1 q2 (m_X5_above v5) v3 (v4 + (1 : Int32)) (sI σ 24 0 3 ((σ.1 24 0 3) + (1 : Int32))) hq6) (Nat.lt_succ_self _) wV_X5_runBody wN_X5_runBody lk_X5_56 rfl rfl rfl (by decide) rfl (Nat.le_of_ble_eq_true rfl) (by decide +kernel) ?_
            cases hm
            exact XW.iret B q (by decide +kernel)
          · rw [if_neg h5] at hm
            refine XW.bk B [(66, .aload_n 0), (67, .getfield 15), (70, .aload_n 0), (71, .getfield 36), (74, .iload 6)] (by decide +kernel) (pc1 := 76) (ls1 := [some (aR 24 0), none, some (aI v2), some (aI v3), some (aI v4), some (aI v5), some (aI q2)]) (st1 := [aI q2, aI (σ.1 24 0 3), aR 26 0]) (σ1 := σ) (P := []) rfl trivial ?_
            by_cases g7 : (σ.1 24 0 3) < 0 ∨ 24 ≤ (σ.1 24 0 3).toNatClampNeg
            · rw [if_pos g7] at hm; cases hm
            rw [if_neg g7] at hm
            refine XW.bk B [(76, .iastore), (77, .aload_n 0), (78, .dup), (79, .getfield 36), (82, .iconst 1), (83, .iadd), (84, .putfield 36), (87, .aload_n 0), (88, .iload 6), (90, .iload 5)] (by decide +kernel) (pc1 := 92) (ls1 := [some (aR 24 0), none, some (aI v2), some (aI v3), some (aI v4), some (aI v5), some (aI q2)]) (st1 := [aI v5, aI q2, aR 24 0]) (σ1 := (sI (sA σ 26 0 (σ.1 24 0 3).toNatClampNeg q2) 24 0 3 ((σ.1 24 0 3) + (1 : Int32)))) (P := [vp_in (σ.1 24 0 3) 24]) rfl ⟨g7, trivial⟩ ?_
            refine XW.callS B (M := M_X5_above) (as := [aI v5]) (c_X5_above v5 (sI (sA σ 26 0 (σ.1 24 0 3).toNatClampNeg q2) 24 0 3 ((σ.1 24 0 3) + (1 : Int32))) rfl) (by omega) wS_X5_above wN_X5_above lk_X5_26 rfl (Nat.le_of_ble_eq_true rfl) (by decide +kernel) ?_
            refine XW.bk B [(95, .iload_n 3), (96, .iload 4), (98, .iconst 1), (99, .iadd)] (by decide +kernel) (pc1 := 100) (ls1 := [some (aR 24 0), none, some (aI v2), some (aI v3), some (aI v4), some (aI v5), some (aI q2)]) (st1 := [aI (v4 + (1 : Int32)), aI v3, aI (m_X5_above v5), aI q2, aR 24 0]) (σ1 := (sI (sA σ 26 0 (σ.1 24 0 3).toNatClampNeg q2) 24 0 3 ((σ.1 24 0 3) + (1 : Int32)))) (P := []) rfl trivial ?_
            obtain ⟨q8, hq8, hm⟩ := obind_eq hm
            refine XW.callV B (M := M_X5_runBody) (t := 24) (j := 0) (cn := 1) (as := [aI q2, aI (m_X5_above v5), aI v3, aI (v4 + (1 : Int32))]) (hrec_1 q2 (m_X5_above v5) v3 (v4 + (1 : Int32)) (sI (sA σ 26 0 (σ.1 24 0 3).toNatClampNeg q2) 24 0 3 ((σ.1 24 0 3) + (1 : Int32))) hq8) (Nat.lt_succ_self _) wV_X5_runBody wN_X5_runBody lk_X5_56 rfl rfl rfl (by decide) rfl (Nat.le_of_ble_eq_true rfl) (by decide +kernel) ?_
            cases hm
            exact XW.iret B q (by decide +kernel)
        · rw [if_neg h4] at hm
          refine XW.bk B [(55, .iconst 0)] (by decide +kernel) (pc1 := 56) (ls1 := [some (aR 24 0), none, some (aI v2), some (aI v3), some (aI v4), some (aI v5), some (aI q2)]) (st1 := [aI (0 : Int32)]) (σ1 := σ) (P := []) rfl trivial ?_
          cases hm
          exact XW.iret B q (by decide +kernel)
    · rw [if_neg h1] at hm
      refine XW.bk B [(13, .iload 5), (15, .iload_n 2)] (by decide +kernel) (pc1 := 16) (ls1 := [some (aR 24 0), none, some (aI v2), some (aI v3), some (aI v4), some (aI v5), some (aI v6)]) (st1 := [aI v2, aI v5]) (σ1 := σ) (P := []) rfl trivial ?_
      obtain ⟨q9, hq9, hm⟩ := obind_eq hm
      refine XW.callS B (M := M_X5_own) (as := [aI v5, aI v2]) (c_X5_own v5 v2 σ hq9) (by omega) wS_X5_own wN_X5_own lk_X5_52 rfl (Nat.le_of_ble_eq_true rfl) (by decide +kernel) ?_
      refine XW.bn B [] (by decide +kernel) (pc1 := 19) (ls1 := [some (aR 24 0), none, some (aI v2), some (aI v3), some (aI v4), some (aI v5), some (aI v6)]) (st1 := [aI q9]) (σ1 := σ) (P := []) (i := .ifCond .ne 16) (tgt := 35) (q := q9 = (0 : Int32)) rfl trivial (by decide +kernel) rfl (by decide) (fun h10 => ?_) (fun h10 => ?_)
      · rw [if_pos h10] at hm
        refine XW.bk B [(22, .iload 5)] (by decide +kernel) (pc1 := 24) (ls1 := [some (aR 24 0), none, some (aI v2), some (aI v3), some (aI v4), some (aI v5), some (aI v6)]) (st1 := [aI v5]) (σ1 := σ) (P := []) rfl trivial ?_
        refine XW.callS B (M := M_X5_above) (as := [aI v5]) (c_X5_above v5 σ rfl) (by omega) wS_X5_above wN_X5_above lk_X5_26 rfl (Nat.le_of_ble_eq_true rfl) (by decide +kernel) ?_
        refine XW.bk B [(27, .istore 5), (29, .iinc 6 1), (32, .goto (-26))] (by decide +kernel) (pc1 := 6) (ls1 := [some (aR 24 0), none, some (aI v2), some (aI v3), some (aI v4), some (aI (m_X5_above v5)), some (aI (v6 + (1 : Int32)))]) (st1 := []) (σ1 := σ) (P := []) rfl trivial ?_
        exact ih v2 v3 v4 (m_X5_above v5) (v6 + (1 : Int32)) σ hm
      · rw [if_neg h10] at hm
        refine XW.bk B [(35, .iload 5), (37, .iload_n 2)] (by decide +kernel) (pc1 := 38) (ls1 := [some (aR 24 0), none, some (aI v2), some (aI v3), some (aI v4), some (aI v5), some (aI v6)]) (st1 := [aI v2, aI v5]) (σ1 := σ) (P := []) rfl trivial ?_
        obtain ⟨q11, hq11, hm⟩ := obind_eq hm
        refine XW.callS B (M := M_X5_own) (as := [aI v5, aI v2]) (c_X5_own v5 v2 σ hq11) (by omega) wS_X5_own wN_X5_own lk_X5_52 rfl (Nat.le_of_ble_eq_true rfl) (by decide +kernel) ?_
        refine XW.bb B [(41, .istore 6), (43, .iload 6)] (by decide +kernel) (pc1 := 45) (ls1 := [some (aR 24 0), none, some (aI v2), some (aI v3), some (aI v4), some (aI v5), some (aI q11)]) (st1 := [aI q11]) (σ1 := σ) (P := []) (i := .ifCond .eq 10) (tgt := 55) (q := q11 = (0 : Int32)) rfl trivial (by decide +kernel) rfl (by decide) (fun h12 => ?_) (fun h12 => ?_)
        · rw [if_pos h12] at hm
          refine XW.bk B [(55, .iconst 0)] (by decide +kernel) (pc1 := 56) (ls1 := [some (aR 24 0), none, some (aI v2), some (aI v3), some (aI v4), some (aI v5), some (aI q11)]) (st1 := [aI (0 : Int32)]) (σ1 := σ) (P := []) rfl trivial ?_
          cases hm
          exact XW.iret B q (by decide +kernel)
        · rw [if_neg h12] at hm
          refine XW.bb B [(48, .iload 4), (50, .bipush 40)] (by decide +kernel) (pc1 := 52) (ls1 := [some (aR 24 0), none, some (aI v2), some (aI v3), some (aI v4), some (aI v5), some (aI q11)]) (st1 := [aI (40 : Int32), aI v4]) (σ1 := σ) (P := []) (i := .if_icmp .lt 5) (tgt := 57) (q := v4 < (40 : Int32)) rfl trivial (by decide +kernel) rfl (by decide) (fun h13 => ?_) (fun h13 => ?_)
          · rw [if_pos h13] at hm
            refine XW.bb B [(57, .aload_n 0), (58, .getfield 36), (61, .bipush 24)] (by decide +kernel) (pc1 := 63) (ls1 := [some (aR 24 0), none, some (aI v2), some (aI v3), some (aI v4), some (aI v5), some (aI q11)]) (st1 := [aI (24 : Int32), aI (σ.1 24 0 3)]) (σ1 := σ) (P := []) (i := .if_icmp .ge 14) (tgt := 77) (q := (24 : Int32) ≤ (σ.1 24 0 3)) rfl trivial (by decide +kernel) rfl (by decide) (fun h14 => ?_) (fun h14 => ?_)
            · rw [if_pos h14] at hm
              refine XW.bk B [(77, .aload_n 0), (78, .dup), (79, .getfield 36), (82, .iconst 1), (83, .iadd), (84, .putfield 36), (87, .aload_n 0), (88, .iload 6), (90, .iload 5)] (by decide +kernel) (pc1 := 92) (ls1 := [some (aR 24 0), none, some (aI v2), some (aI v3), some (aI v4), some (aI v5), some (aI q11)]) (st1 := [aI v5, aI q11, aR 24 0]) (σ1 := (sI σ 24 0 3 ((σ.1 24 0 3) + (1 : Int32)))) (P := []) rfl trivial ?_
              refine XW.callS B (M := M_X5_above) (as := [aI v5]) (c_X5_above v5 (sI σ 24 0 3 ((σ.1 24 0 3) + (1 : Int32))) rfl) (by omega) wS_X5_above wN_X5_above lk_X5_26 rfl (Nat.le_of_ble_eq_true rfl) (by decide +kernel) ?_
              refine XW.bk B [(95, .iload_n 3), (96, .iload 4), (98, .iconst 1), (99, .iadd)] (by decide +kernel) (pc1 := 100) (ls1 := [some (aR 24 0), none, some (aI v2), some (aI v3), some (aI v4), some (aI v5), some (aI q11)]) (st1 := [aI (v4 + (1 : Int32)), aI v3, aI (m_X5_above v5), aI q11, aR 24 0]) (σ1 := (sI σ 24 0 3 ((σ.1 24 0 3) + (1 : Int32)))) (P := []) rfl trivial ?_
              obtain ⟨q15, hq15, hm⟩ := obind_eq hm
              refine XW.callV B (M := M_X5_runBody) (t := 24) (j := 0) (cn := 1) (as := [aI q11, aI (m_X5_above v5), aI v3, aI (v4 + (1 : Int32))]) (hrec_1 q11 (m_X5_above v5) v3 (v4 + (1 : Int32)) (sI σ 24 0 3 ((σ.1 24 0 3) + (1 : Int32))) hq15) (Nat.lt_succ_self _) wV_X5_runBody wN_X5_runBody lk_X5_56 rfl rfl rfl (by decide) rfl (Nat.le_of_ble_eq_true rfl) (by decide +kernel) ?_
              cases hm
              exact XW.iret B q (by decide +kernel)
            · rw [if_neg h14] at hm
              refine XW.bk B [(66, .aload_n 0), (67, .getfield 15), (70, .aload_n 0), (71, .getfield 36), (74, .iload 6)] (by decide +kernel) (pc1 := 76) (ls1 := [some (aR 24 0), none, some (aI v2), some (aI v3), some (aI v4), some (aI v5), some (aI q11)]) (st1 := [aI q11, aI (σ.1 24 0 3), aR 26 0]) (σ1 := σ) (P := []) rfl trivial ?_
              by_cases g16 : (σ.1 24 0 3) < 0 ∨ 24 ≤ (σ.1 24 0 3).toNatClampNeg
              · rw [if_pos g16] at hm; cases hm
              rw [if_neg g16] at hm
              refine XW.bk B [(76, .iastore), (77, .aload_n 0), (78, .dup), (79, .getfield 36), (82, .iconst 1), (83, .iadd), (84, .putfield 36), (87, .aload_n 0), (88, .iload 6), (90, .iload 5)] (by decide +kernel) (pc1 := 92) (ls1 := [some (aR 24 0), none, some (aI v2), some (aI v3), some (aI v4), some (aI v5), some (aI q11)]) (st1 := [aI v5, aI q11, aR 24 0]) (σ1 := (sI (sA σ 26 0 (σ.1 24 0 3).toNatClampNeg q11) 24 0 3 ((σ.1 24 0 3) + (1 : Int32)))) (P := [vp_in (σ.1 24 0 3) 24]) rfl ⟨g16, trivial⟩ ?_
              refine XW.callS B (M := M_X5_above) (as := [aI v5]) (c_X5_above v5 (sI (sA σ 26 0 (σ.1 24 0 3).toNatClampNeg q11) 24 0 3 ((σ.1 24 0 3) + (1 : Int32))) rfl) (by omega) wS_X5_above wN_X5_above lk_X5_26 rfl (Nat.le_of_ble_eq_true rfl) (by decide +kernel) ?_
              refine XW.bk B [(95, .iload_n 3), (96, .iload 4), (98, .iconst 1), (99, .iadd)] (by decide +kernel) (pc1 := 100) (ls1 := [some (aR 24 0), none, some (aI v2), some (aI v3), some (aI v4), some (aI v5), some (aI q11)]) (st1 := [aI (v4 + (1 : Int32)), aI v3, aI (m_X5_above v5), aI q11, aR 24 0]) (σ1 := (sI (sA σ 26 0 (σ.1 24 0 3).toNatClampNeg q11) 24 0 3 ((σ.1 24 0 3) + (1 : Int32)))) (P := []) rfl trivial ?_
              obtain ⟨q17, hq17, hm⟩ := obind_eq hm
              refine XW.callV B (M := M_X5_runBody) (t := 24) (j := 0) (cn := 1) (as := [aI q11, aI (m_X5_above v5), aI v3, aI (v4 + (1 : Int32))]) (hrec_1 q11 (m_X5_above v5) v3 (v4 + (1 : Int32)) (sI (sA σ 26 0 (σ.1 24 0 3).toNatClampNeg q11) 24 0 3 ((σ.1 24 0 3) + (1 : Int32))) hq17) (Nat.lt_succ_self _) wV_X5_runBody wN_X5_runBody lk_X5_56 rfl rfl rfl (by decide) rfl (Nat.le_of_ble_eq_true rfl) (by decide +kernel) ?_
              cases hm
              exact XW.iret B q (by decide +kernel)
          · rw [if_neg h13] at hm
            refine XW.bk B [(55, .iconst 0)] (by decide +kernel) (pc1 := 56) (ls1 := [some (aR 24 0), none, some (aI v2), some (aI v3), some (aI v4), some (aI v5), some (aI q11)]) (st1 := [aI (0 : Int32)]) (σ1 := σ) (P := []) rfl trivial ?_
            cases hm
            exact XW.iret B q (by decide +kernel)
set_option maxRecDepth 100000 in
set_option maxHeartbeats 4000000 in
theorem c_X5_run (rec : Nat → Int32 → Int32 → Int32 → Int32 → SS → Option (Int32 × SS)) (dr : Nat) (hdr : 2 ≤ dr) (hrec_0 : ∀ (x1 : Int32) (x2 : Int32) (x3 : Int32) (x4 : Int32) (σ : SS) {r : Int32} {σ' : SS}, rec 0 x1 x2 x3 x4 σ = some (r, σ') → XM LC dr M_X5_run [aR 24 0, aI x1, aI x2, aI x3, aI x4] σ (some (aI r)) σ') (hrec_1 : ∀ (x1 : Int32) (x2 : Int32) (x3 : Int32) (x4 : Int32) (σ : SS) {r : Int32} {σ' : SS}, rec 1 x1 x2 x3 x4 σ = some (r, σ') → XM LC dr M_X5_runBody [aR 24 0, aI x1, aI x2, aI x3, aI x4] σ (some (aI r)) σ') (x1 : Int32) (x2 : Int32) (x3 : Int32) (x4 : Int32) (σ : SS) {r : Int32} {σ' : SS} (hm : m_X5_run rec x1 x2 x3 x4 σ = some (r, σ')) : XM LC (dr + 1) M_X5_run [aR 24 0, aI x1, aI x2, aI x3, aI x4] σ (some (aI r)) σ' := by
  refine XM.of (K := K5) (Nat.succ_le_succ (Nat.zero_le _)) (by decide +kernel) K5_ok (Nat.le_of_ble_eq_true rfl) (fun Γ B q => ?_)
  unfold m_X5_run at hm
  refine XW.bk B [(0, .iload_n 1), (1, .istore 5), (3, .iconst 0), (4, .istore 6)] (by decide +kernel) (pc1 := 6) (ls1 := [some (aR 24 0), some (aI x1), some (aI x2), some (aI x3), some (aI x4), some (aI x1), some (aI (0 : Int32))]) (st1 := []) (σ1 := σ) (P := []) rfl trivial ?_
  refine XW.loc [true, false, true, true, true, true, true] rfl ?_
  exact lp_X5_run_6 rec dr hdr hrec_0 hrec_1 B q FU x2 x3 x4 x1 (0 : Int32) σ hm
def m_X5_runBody (rec : Nat → Int32 → Int32 → Int32 → Int32 → SS → Option (Int32 × SS)) (x1 : Int32) (x2 : Int32) (x3 : Int32) (x4 : Int32) (σ : SS) : Option (Int32 × SS) :=
  if x1 = (1 : Int32) then
    some ((x3 + (σ.1 24 0 4)), σ)
  else
  if x1 = (2 : Int32) then
    Option.bind (rec 0 (σ.1 24 0 5) (1 : Int32) x3 x4 σ) (fun q3 =>
    Option.bind (rec 0 (q3.2.1 24 0 5) (2 : Int32) (1 : Int32) x4 q3.2) (fun q4 =>
    some ((q3.1 - q4.1), q4.2)))
  else
  if x1 = (10 : Int32) then
    Option.bind (rec 0 (σ.1 24 0 5) (0 : Int32) x3 x4 σ) (fun q6 =>
    some ((q6.1 * (2 : Int32)), q6.2))
  else
  if x1 = (11 : Int32) then
    some ((x3 ^^^ (σ.1 24 0 4)), σ)
  else
  if x1 = (20 : Int32) then
    Option.bind (rec 0 x2 (0 : Int32) x3 x4 σ) (fun q9 =>
    some ((q9.1 + (3 : Int32)), q9.2))
  else
  if x1 = (30 : Int32) then
    Option.bind (rec 0 x2 (1 : Int32) x3 x4 σ) (fun q11 =>
    some ((-q11.1), q11.2))
  else
  if x1 = (40 : Int32) then
    Option.bind (rec 0 x2 (2 : Int32) x3 x4 σ) (fun q13 =>
    some ((q13.1 * (3 : Int32)), q13.2))
  else
  if x1 = (41 : Int32) then
    Option.bind (rec 0 x2 (1 : Int32) (x3 + (1 : Int32)) x4 σ) (fun q15 =>
    some (q15.1, q15.2))
  else
  if x1 = (50 : Int32) then
    Option.bind (rec 0 x2 (2 : Int32) x3 x4 σ) (fun q17 =>
    Option.bind (rec 0 (q17.2.1 24 0 5) (0 : Int32) (2 : Int32) x4 q17.2) (fun q18 =>
    some ((q17.1 - q18.1), q18.2)))
  else
  if x1 = (60 : Int32) then
    Option.bind (rec 0 x2 (3 : Int32) x3 x4 σ) (fun q20 =>
    some ((q20.1 ^^^ (5 : Int32)), q20.2))
  else
  if x1 = (70 : Int32) then
    Option.bind (rec 0 x2 (0 : Int32) x3 x4 σ) (fun q22 =>
    some ((q22.1 * (2 : Int32)), q22.2))
  else
  if x1 = (80 : Int32) then
    Option.bind (rec 0 x2 (1 : Int32) x3 x4 σ) (fun q24 =>
    Option.bind (rec 0 (q24.2.1 24 0 5) (2 : Int32) (2 : Int32) x4 q24.2) (fun q25 =>
    some ((q24.1 + q25.1), q25.2)))
  else
  if x1 = (81 : Int32) then
    Option.bind (rec 0 x2 (3 : Int32) x3 x4 σ) (fun q27 =>
    some ((q27.1 - (1 : Int32)), q27.2))
  else
  some ((0 : Int32), σ)
set_option maxRecDepth 100000 in
set_option maxHeartbeats 4000000 in
theorem c_X5_runBody (rec : Nat → Int32 → Int32 → Int32 → Int32 → SS → Option (Int32 × SS)) (dr : Nat) (hdr : 2 ≤ dr) (hrec_0 : ∀ (x1 : Int32) (x2 : Int32) (x3 : Int32) (x4 : Int32) (σ : SS) {r : Int32} {σ' : SS}, rec 0 x1 x2 x3 x4 σ = some (r, σ') → XM LC dr M_X5_run [aR 24 0, aI x1, aI x2, aI x3, aI x4] σ (some (aI r)) σ') (hrec_1 : ∀ (x1 : Int32) (x2 : Int32) (x3 : Int32) (x4 : Int32) (σ : SS) {r : Int32} {σ' : SS}, rec 1 x1 x2 x3 x4 σ = some (r, σ') → XM LC dr M_X5_runBody [aR 24 0, aI x1, aI x2, aI x3, aI x4] σ (some (aI r)) σ') (x1 : Int32) (x2 : Int32) (x3 : Int32) (x4 : Int32) (σ : SS) {r : Int32} {σ' : SS} (hm : m_X5_runBody rec x1 x2 x3 x4 σ = some (r, σ')) : XM LC (dr + 1) M_X5_runBody [aR 24 0, aI x1, aI x2, aI x3, aI x4] σ (some (aI r)) σ' := by
  refine XM.of (K := K5) (Nat.succ_le_succ (Nat.zero_le _)) (by decide +kernel) K5_ok (Nat.le_of_ble_eq_true rfl) (fun Γ B q => ?_)
  unfold m_X5_runBody at hm
  refine XW.bk B [(0, .iload_n 1)] (by decide +kernel) (pc1 := 1) (ls1 := [some (aR 24 0), some (aI x1), some (aI x2), some (aI x3), some (aI x4)]) (st1 := [aI x1]) (σ1 := σ) (P := []) rfl trivial ?_
  by_cases h1 : x1 = (1 : Int32)
  · rw [if_pos h1] at hm
    refine XW.lsI B (1 : Int32) (dflt := 299) (n := 115) (ps := #[(1, 115), (2, 122), (10, 148), (11, 163), (20, 170), (30, 182), (40, 193), (41, 205), (50, 217), (60, 240), (70, 252), (80, 264), (81, 287)]) (off := 115) (by decide +kernel) h1 (by decide +kernel) (tgt := 116) (by decide) ?_
    refine XW.bk B [(116, .iload_n 3), (117, .aload_n 0), (118, .getfield 39), (121, .iadd)] (by decide +kernel) (pc1 := 122) (ls1 := [some (aR 24 0), some (aI x1), some (aI x2), some (aI x3), some (aI x4)]) (st1 := [aI (x3 + (σ.1 24 0 4))]) (σ1 := σ) (P := []) rfl trivial ?_
    cases hm
    exact XW.iret B q (by decide +kernel)
  rw [if_neg h1] at hm
  by_cases h2 : x1 = (2 : Int32)
  · rw [if_pos h2] at hm
    refine XW.lsI B (2 : Int32) (dflt := 299) (n := 115) (ps := #[(1, 115), (2, 122), (10, 148), (11, 163), (20, 170), (30, 182), (40, 193), (41, 205), (50, 217), (60, 240), (70, 252), (80, 264), (81, 287)]) (off := 122) (by decide +kernel) h2 (by decide +kernel) (tgt := 123) (by decide) ?_
    refine XW.bk B [(123, .aload_n 0), (124, .aload_n 0), (125, .getfield 45), (128, .iconst 1), (129, .iload_n 3), (130, .iload 4)] (by decide +kernel) (pc1 := 132) (ls1 := [some (aR 24 0), some (aI x1), some (aI x2), some (aI x3), some (aI x4)]) (st1 := [aI x4, aI x3, aI (1 : Int32), aI (σ.1 24 0 5), aR 24 0]) (σ1 := σ) (P := []) rfl trivial ?_
    obtain ⟨q3, hq3, hm⟩ := obind_eq hm
    refine XW.callV B (M := M_X5_run) (t := 24) (j := 0) (cn := 1) (as := [aI (σ.1 24 0 5), aI (1 : Int32), aI x3, aI x4]) (hrec_0 (σ.1 24 0 5) (1 : Int32) x3 x4 σ hq3) (Nat.lt_succ_self _) wV_X5_run wN_X5_run lk_X5_48 rfl rfl rfl (by decide) rfl (Nat.le_of_ble_eq_true rfl) (by decide +kernel) ?_
    refine XW.bk B [(135, .aload_n 0), (136, .aload_n 0), (137, .getfield 45), (140, .iconst 2), (141, .iconst 1), (142, .iload 4)] (by decide +kernel) (pc1 := 144) (ls1 := [some (aR 24 0), some (aI x1), some (aI x2), some (aI x3), some (aI x4)]) (st1 := [aI x4, aI (1 : Int32), aI (2 : Int32), aI (q3.2.1 24 0 5), aR 24 0, aI q3.1]) (σ1 := q3.2) (P := []) rfl trivial ?_
    obtain ⟨q4, hq4, hm⟩ := obind_eq hm
    refine XW.callV B (M := M_X5_run) (t := 24) (j := 0) (cn := 1) (as := [aI (q3.2.1 24 0 5), aI (2 : Int32), aI (1 : Int32), aI x4]) (hrec_0 (q3.2.1 24 0 5) (2 : Int32) (1 : Int32) x4 q3.2 hq4) (Nat.lt_succ_self _) wV_X5_run wN_X5_run lk_X5_48 rfl rfl rfl (by decide) rfl (Nat.le_of_ble_eq_true rfl) (by decide +kernel) ?_
    refine XW.bk B [(147, .isub)] (by decide +kernel) (pc1 := 148) (ls1 := [some (aR 24 0), some (aI x1), some (aI x2), some (aI x3), some (aI x4)]) (st1 := [aI (q3.1 - q4.1)]) (σ1 := q4.2) (P := []) rfl trivial ?_
    cases hm
    exact XW.iret B q (by decide +kernel)
  rw [if_neg h2] at hm
  by_cases h5 : x1 = (10 : Int32)
  · rw [if_pos h5] at hm
    refine XW.lsI B (10 : Int32) (dflt := 299) (n := 115) (ps := #[(1, 115), (2, 122), (10, 148), (11, 163), (20, 170), (30, 182), (40, 193), (41, 205), (50, 217), (60, 240), (70, 252), (80, 264), (81, 287)]) (off := 148) (by decide +kernel) h5 (by decide +kernel) (tgt := 149) (by decide) ?_
    refine XW.bk B [(149, .aload_n 0), (150, .aload_n 0), (151, .getfield 45), (154, .iconst 0), (155, .iload_n 3), (156, .iload 4)] (by decide +kernel) (pc1 := 158) (ls1 := [some (aR 24 0), some (aI x1), some (aI x2), some (aI x3), some (aI x4)]) (st1 := [aI x4, aI x3, aI (0 : Int32), aI (σ.1 24 0 5), aR 24 0]) (σ1 := σ) (P := []) rfl trivial ?_
    obtain ⟨q6, hq6, hm⟩ := obind_eq hm
    refine XW.callV B (M := M_X5_run) (t := 24) (j := 0) (cn := 1) (as := [aI (σ.1 24 0 5), aI (0 : Int32), aI x3, aI x4]) (hrec_0 (σ.1 24 0 5) (0 : Int32) x3 x4 σ hq6) (Nat.lt_succ_self _) wV_X5_run wN_X5_run lk_X5_48 rfl rfl rfl (by decide) rfl (Nat.le_of_ble_eq_true rfl) (by decide +kernel) ?_
    refine XW.bk B [(161, .iconst 2), (162, .imul)] (by decide +kernel) (pc1 := 163) (ls1 := [some (aR 24 0), some (aI x1), some (aI x2), some (aI x3), some (aI x4)]) (st1 := [aI (q6.1 * (2 : Int32))]) (σ1 := q6.2) (P := []) rfl trivial ?_
    cases hm
    exact XW.iret B q (by decide +kernel)
  rw [if_neg h5] at hm
  by_cases h7 : x1 = (11 : Int32)
  · rw [if_pos h7] at hm
    refine XW.lsI B (11 : Int32) (dflt := 299) (n := 115) (ps := #[(1, 115), (2, 122), (10, 148), (11, 163), (20, 170), (30, 182), (40, 193), (41, 205), (50, 217), (60, 240), (70, 252), (80, 264), (81, 287)]) (off := 163) (by decide +kernel) h7 (by decide +kernel) (tgt := 164) (by decide) ?_
    refine XW.bk B [(164, .iload_n 3), (165, .aload_n 0), (166, .getfield 39), (169, .ixor)] (by decide +kernel) (pc1 := 170) (ls1 := [some (aR 24 0), some (aI x1), some (aI x2), some (aI x3), some (aI x4)]) (st1 := [aI (x3 ^^^ (σ.1 24 0 4))]) (σ1 := σ) (P := []) rfl trivial ?_
    cases hm
    exact XW.iret B q (by decide +kernel)
  rw [if_neg h7] at hm
  by_cases h8 : x1 = (20 : Int32)
  · rw [if_pos h8] at hm
    refine XW.lsI B (20 : Int32) (dflt := 299) (n := 115) (ps := #[(1, 115), (2, 122), (10, 148), (11, 163), (20, 170), (30, 182), (40, 193), (41, 205), (50, 217), (60, 240), (70, 252), (80, 264), (81, 287)]) (off := 170) (by decide +kernel) h8 (by decide +kernel) (tgt := 171) (by decide) ?_
    refine XW.bk B [(171, .aload_n 0), (172, .iload_n 2), (173, .iconst 0), (174, .iload_n 3), (175, .iload 4)] (by decide +kernel) (pc1 := 177) (ls1 := [some (aR 24 0), some (aI x1), some (aI x2), some (aI x3), some (aI x4)]) (st1 := [aI x4, aI x3, aI (0 : Int32), aI x2, aR 24 0]) (σ1 := σ) (P := []) rfl trivial ?_
    obtain ⟨q9, hq9, hm⟩ := obind_eq hm
    refine XW.callV B (M := M_X5_run) (t := 24) (j := 0) (cn := 1) (as := [aI x2, aI (0 : Int32), aI x3, aI x4]) (hrec_0 x2 (0 : Int32) x3 x4 σ hq9) (Nat.lt_succ_self _) wV_X5_run wN_X5_run lk_X5_48 rfl rfl rfl (by decide) rfl (Nat.le_of_ble_eq_true rfl) (by decide +kernel) ?_
    refine XW.bk B [(180, .iconst 3), (181, .iadd)] (by decide +kernel) (pc1 := 182) (ls1 := [some (aR 24 0), some (aI x1), some (aI x2), some (aI x3), some (aI x4)]) (st1 := [aI (q9.1 + (3 : Int32))]) (σ1 := q9.2) (P := []) rfl trivial ?_
    cases hm
    exact XW.iret B q (by decide +kernel)
  rw [if_neg h8] at hm
  by_cases h10 : x1 = (30 : Int32)
  · rw [if_pos h10] at hm
    refine XW.lsI B (30 : Int32) (dflt := 299) (n := 115) (ps := #[(1, 115), (2, 122), (10, 148), (11, 163), (20, 170), (30, 182), (40, 193), (41, 205), (50, 217), (60, 240), (70, 252), (80, 264), (81, 287)]) (off := 182) (by decide +kernel) h10 (by decide +kernel) (tgt := 183) (by decide) ?_
    refine XW.bk B [(183, .aload_n 0), (184, .iload_n 2), (185, .iconst 1), (186, .iload_n 3), (187, .iload 4)] (by decide +kernel) (pc1 := 189) (ls1 := [some (aR 24 0), some (aI x1), some (aI x2), some (aI x3), some (aI x4)]) (st1 := [aI x4, aI x3, aI (1 : Int32), aI x2, aR 24 0]) (σ1 := σ) (P := []) rfl trivial ?_
    obtain ⟨q11, hq11, hm⟩ := obind_eq hm
    refine XW.callV B (M := M_X5_run) (t := 24) (j := 0) (cn := 1) (as := [aI x2, aI (1 : Int32), aI x3, aI x4]) (hrec_0 x2 (1 : Int32) x3 x4 σ hq11) (Nat.lt_succ_self _) wV_X5_run wN_X5_run lk_X5_48 rfl rfl rfl (by decide) rfl (Nat.le_of_ble_eq_true rfl) (by decide +kernel) ?_
    refine XW.bk B [(192, .ineg)] (by decide +kernel) (pc1 := 193) (ls1 := [some (aR 24 0), some (aI x1), some (aI x2), some (aI x3), some (aI x4)]) (st1 := [aI (-q11.1)]) (σ1 := q11.2) (P := []) rfl trivial ?_
    cases hm
    exact XW.iret B q (by decide +kernel)
  rw [if_neg h10] at hm
  by_cases h12 : x1 = (40 : Int32)
  · rw [if_pos h12] at hm
    refine XW.lsI B (40 : Int32) (dflt := 299) (n := 115) (ps := #[(1, 115), (2, 122), (10, 148), (11, 163), (20, 170), (30, 182), (40, 193), (41, 205), (50, 217), (60, 240), (70, 252), (80, 264), (81, 287)]) (off := 193) (by decide +kernel) h12 (by decide +kernel) (tgt := 194) (by decide) ?_
    refine XW.bk B [(194, .aload_n 0), (195, .iload_n 2), (196, .iconst 2), (197, .iload_n 3), (198, .iload 4)] (by decide +kernel) (pc1 := 200) (ls1 := [some (aR 24 0), some (aI x1), some (aI x2), some (aI x3), some (aI x4)]) (st1 := [aI x4, aI x3, aI (2 : Int32), aI x2, aR 24 0]) (σ1 := σ) (P := []) rfl trivial ?_
    obtain ⟨q13, hq13, hm⟩ := obind_eq hm
    refine XW.callV B (M := M_X5_run) (t := 24) (j := 0) (cn := 1) (as := [aI x2, aI (2 : Int32), aI x3, aI x4]) (hrec_0 x2 (2 : Int32) x3 x4 σ hq13) (Nat.lt_succ_self _) wV_X5_run wN_X5_run lk_X5_48 rfl rfl rfl (by decide) rfl (Nat.le_of_ble_eq_true rfl) (by decide +kernel) ?_
    refine XW.bk B [(203, .iconst 3), (204, .imul)] (by decide +kernel) (pc1 := 205) (ls1 := [some (aR 24 0), some (aI x1), some (aI x2), some (aI x3), some (aI x4)]) (st1 := [aI (q13.1 * (3 : Int32))]) (σ1 := q13.2) (P := []) rfl trivial ?_
    cases hm
    exact XW.iret B q (by decide +kernel)
  rw [if_neg h12] at hm
  by_cases h14 : x1 = (41 : Int32)
  · rw [if_pos h14] at hm
    refine XW.lsI B (41 : Int32) (dflt := 299) (n := 115) (ps := #[(1, 115), (2, 122), (10, 148), (11, 163), (20, 170), (30, 182), (40, 193), (41, 205), (50, 217), (60, 240), (70, 252), (80, 264), (81, 287)]) (off := 205) (by decide +kernel) h14 (by decide +kernel) (tgt := 206) (by decide) ?_
    refine XW.bk B [(206, .aload_n 0), (207, .iload_n 2), (208, .iconst 1), (209, .iload_n 3), (210, .iconst 1), (211, .iadd), (212, .iload 4)] (by decide +kernel) (pc1 := 214) (ls1 := [some (aR 24 0), some (aI x1), some (aI x2), some (aI x3), some (aI x4)]) (st1 := [aI x4, aI (x3 + (1 : Int32)), aI (1 : Int32), aI x2, aR 24 0]) (σ1 := σ) (P := []) rfl trivial ?_
    obtain ⟨q15, hq15, hm⟩ := obind_eq hm
    refine XW.callV B (M := M_X5_run) (t := 24) (j := 0) (cn := 1) (as := [aI x2, aI (1 : Int32), aI (x3 + (1 : Int32)), aI x4]) (hrec_0 x2 (1 : Int32) (x3 + (1 : Int32)) x4 σ hq15) (Nat.lt_succ_self _) wV_X5_run wN_X5_run lk_X5_48 rfl rfl rfl (by decide) rfl (Nat.le_of_ble_eq_true rfl) (by decide +kernel) ?_
    cases hm
    exact XW.iret B q (by decide +kernel)
  rw [if_neg h14] at hm
  by_cases h16 : x1 = (50 : Int32)
  · rw [if_pos h16] at hm
    refine XW.lsI B (50 : Int32) (dflt := 299) (n := 115) (ps := #[(1, 115), (2, 122), (10, 148), (11, 163), (20, 170), (30, 182), (40, 193), (41, 205), (50, 217), (60, 240), (70, 252), (80, 264), (81, 287)]) (off := 217) (by decide +kernel) h16 (by decide +kernel) (tgt := 218) (by decide) ?_
    refine XW.bk B [(218, .aload_n 0), (219, .iload_n 2), (220, .iconst 2), (221, .iload_n 3), (222, .iload 4)] (by decide +kernel) (pc1 := 224) (ls1 := [some (aR 24 0), some (aI x1), some (aI x2), some (aI x3), some (aI x4)]) (st1 := [aI x4, aI x3, aI (2 : Int32), aI x2, aR 24 0]) (σ1 := σ) (P := []) rfl trivial ?_
    obtain ⟨q17, hq17, hm⟩ := obind_eq hm
    refine XW.callV B (M := M_X5_run) (t := 24) (j := 0) (cn := 1) (as := [aI x2, aI (2 : Int32), aI x3, aI x4]) (hrec_0 x2 (2 : Int32) x3 x4 σ hq17) (Nat.lt_succ_self _) wV_X5_run wN_X5_run lk_X5_48 rfl rfl rfl (by decide) rfl (Nat.le_of_ble_eq_true rfl) (by decide +kernel) ?_
    refine XW.bk B [(227, .aload_n 0), (228, .aload_n 0), (229, .getfield 45), (232, .iconst 0), (233, .iconst 2), (234, .iload 4)] (by decide +kernel) (pc1 := 236) (ls1 := [some (aR 24 0), some (aI x1), some (aI x2), some (aI x3), some (aI x4)]) (st1 := [aI x4, aI (2 : Int32), aI (0 : Int32), aI (q17.2.1 24 0 5), aR 24 0, aI q17.1]) (σ1 := q17.2) (P := []) rfl trivial ?_
    obtain ⟨q18, hq18, hm⟩ := obind_eq hm
    refine XW.callV B (M := M_X5_run) (t := 24) (j := 0) (cn := 1) (as := [aI (q17.2.1 24 0 5), aI (0 : Int32), aI (2 : Int32), aI x4]) (hrec_0 (q17.2.1 24 0 5) (0 : Int32) (2 : Int32) x4 q17.2 hq18) (Nat.lt_succ_self _) wV_X5_run wN_X5_run lk_X5_48 rfl rfl rfl (by decide) rfl (Nat.le_of_ble_eq_true rfl) (by decide +kernel) ?_
    refine XW.bk B [(239, .isub)] (by decide +kernel) (pc1 := 240) (ls1 := [some (aR 24 0), some (aI x1), some (aI x2), some (aI x3), some (aI x4)]) (st1 := [aI (q17.1 - q18.1)]) (σ1 := q18.2) (P := []) rfl trivial ?_
    cases hm
    exact XW.iret B q (by decide +kernel)
  rw [if_neg h16] at hm
  by_cases h19 : x1 = (60 : Int32)
  · rw [if_pos h19] at hm
    refine XW.lsI B (60 : Int32) (dflt := 299) (n := 115) (ps := #[(1, 115), (2, 122), (10, 148), (11, 163), (20, 170), (30, 182), (40, 193), (41, 205), (50, 217), (60, 240), (70, 252), (80, 264), (81, 287)]) (off := 240) (by decide +kernel) h19 (by decide +kernel) (tgt := 241) (by decide) ?_
    refine XW.bk B [(241, .aload_n 0), (242, .iload_n 2), (243, .iconst 3), (244, .iload_n 3), (245, .iload 4)] (by decide +kernel) (pc1 := 247) (ls1 := [some (aR 24 0), some (aI x1), some (aI x2), some (aI x3), some (aI x4)]) (st1 := [aI x4, aI x3, aI (3 : Int32), aI x2, aR 24 0]) (σ1 := σ) (P := []) rfl trivial ?_
    obtain ⟨q20, hq20, hm⟩ := obind_eq hm
    refine XW.callV B (M := M_X5_run) (t := 24) (j := 0) (cn := 1) (as := [aI x2, aI (3 : Int32), aI x3, aI x4]) (hrec_0 x2 (3 : Int32) x3 x4 σ hq20) (Nat.lt_succ_self _) wV_X5_run wN_X5_run lk_X5_48 rfl rfl rfl (by decide) rfl (Nat.le_of_ble_eq_true rfl) (by decide +kernel) ?_
    refine XW.bk B [(250, .iconst 5), (251, .ixor)] (by decide +kernel) (pc1 := 252) (ls1 := [some (aR 24 0), some (aI x1), some (aI x2), some (aI x3), some (aI x4)]) (st1 := [aI (q20.1 ^^^ (5 : Int32))]) (σ1 := q20.2) (P := []) rfl trivial ?_
    cases hm
    exact XW.iret B q (by decide +kernel)
  rw [if_neg h19] at hm
  by_cases h21 : x1 = (70 : Int32)
  · rw [if_pos h21] at hm
    refine XW.lsI B (70 : Int32) (dflt := 299) (n := 115) (ps := #[(1, 115), (2, 122), (10, 148), (11, 163), (20, 170), (30, 182), (40, 193), (41, 205), (50, 217), (60, 240), (70, 252), (80, 264), (81, 287)]) (off := 252) (by decide +kernel) h21 (by decide +kernel) (tgt := 253) (by decide) ?_
    refine XW.bk B [(253, .aload_n 0), (254, .iload_n 2), (255, .iconst 0), (256, .iload_n 3), (257, .iload 4)] (by decide +kernel) (pc1 := 259) (ls1 := [some (aR 24 0), some (aI x1), some (aI x2), some (aI x3), some (aI x4)]) (st1 := [aI x4, aI x3, aI (0 : Int32), aI x2, aR 24 0]) (σ1 := σ) (P := []) rfl trivial ?_
    obtain ⟨q22, hq22, hm⟩ := obind_eq hm
    refine XW.callV B (M := M_X5_run) (t := 24) (j := 0) (cn := 1) (as := [aI x2, aI (0 : Int32), aI x3, aI x4]) (hrec_0 x2 (0 : Int32) x3 x4 σ hq22) (Nat.lt_succ_self _) wV_X5_run wN_X5_run lk_X5_48 rfl rfl rfl (by decide) rfl (Nat.le_of_ble_eq_true rfl) (by decide +kernel) ?_
    refine XW.bk B [(262, .iconst 2), (263, .imul)] (by decide +kernel) (pc1 := 264) (ls1 := [some (aR 24 0), some (aI x1), some (aI x2), some (aI x3), some (aI x4)]) (st1 := [aI (q22.1 * (2 : Int32))]) (σ1 := q22.2) (P := []) rfl trivial ?_
    cases hm
    exact XW.iret B q (by decide +kernel)
  rw [if_neg h21] at hm
  by_cases h23 : x1 = (80 : Int32)
  · rw [if_pos h23] at hm
    refine XW.lsI B (80 : Int32) (dflt := 299) (n := 115) (ps := #[(1, 115), (2, 122), (10, 148), (11, 163), (20, 170), (30, 182), (40, 193), (41, 205), (50, 217), (60, 240), (70, 252), (80, 264), (81, 287)]) (off := 264) (by decide +kernel) h23 (by decide +kernel) (tgt := 265) (by decide) ?_
    refine XW.bk B [(265, .aload_n 0), (266, .iload_n 2), (267, .iconst 1), (268, .iload_n 3), (269, .iload 4)] (by decide +kernel) (pc1 := 271) (ls1 := [some (aR 24 0), some (aI x1), some (aI x2), some (aI x3), some (aI x4)]) (st1 := [aI x4, aI x3, aI (1 : Int32), aI x2, aR 24 0]) (σ1 := σ) (P := []) rfl trivial ?_
    obtain ⟨q24, hq24, hm⟩ := obind_eq hm
    refine XW.callV B (M := M_X5_run) (t := 24) (j := 0) (cn := 1) (as := [aI x2, aI (1 : Int32), aI x3, aI x4]) (hrec_0 x2 (1 : Int32) x3 x4 σ hq24) (Nat.lt_succ_self _) wV_X5_run wN_X5_run lk_X5_48 rfl rfl rfl (by decide) rfl (Nat.le_of_ble_eq_true rfl) (by decide +kernel) ?_
    refine XW.bk B [(274, .aload_n 0), (275, .aload_n 0), (276, .getfield 45), (279, .iconst 2), (280, .iconst 2), (281, .iload 4)] (by decide +kernel) (pc1 := 283) (ls1 := [some (aR 24 0), some (aI x1), some (aI x2), some (aI x3), some (aI x4)]) (st1 := [aI x4, aI (2 : Int32), aI (2 : Int32), aI (q24.2.1 24 0 5), aR 24 0, aI q24.1]) (σ1 := q24.2) (P := []) rfl trivial ?_
    obtain ⟨q25, hq25, hm⟩ := obind_eq hm
    refine XW.callV B (M := M_X5_run) (t := 24) (j := 0) (cn := 1) (as := [aI (q24.2.1 24 0 5), aI (2 : Int32), aI (2 : Int32), aI x4]) (hrec_0 (q24.2.1 24 0 5) (2 : Int32) (2 : Int32) x4 q24.2 hq25) (Nat.lt_succ_self _) wV_X5_run wN_X5_run lk_X5_48 rfl rfl rfl (by decide) rfl (Nat.le_of_ble_eq_true rfl) (by decide +kernel) ?_
    refine XW.bk B [(286, .iadd)] (by decide +kernel) (pc1 := 287) (ls1 := [some (aR 24 0), some (aI x1), some (aI x2), some (aI x3), some (aI x4)]) (st1 := [aI (q24.1 + q25.1)]) (σ1 := q25.2) (P := []) rfl trivial ?_
    cases hm
    exact XW.iret B q (by decide +kernel)
  rw [if_neg h23] at hm
  by_cases h26 : x1 = (81 : Int32)
  · rw [if_pos h26] at hm
    refine XW.lsI B (81 : Int32) (dflt := 299) (n := 115) (ps := #[(1, 115), (2, 122), (10, 148), (11, 163), (20, 170), (30, 182), (40, 193), (41, 205), (50, 217), (60, 240), (70, 252), (80, 264), (81, 287)]) (off := 287) (by decide +kernel) h26 (by decide +kernel) (tgt := 288) (by decide) ?_
    refine XW.bk B [(288, .aload_n 0), (289, .iload_n 2), (290, .iconst 3), (291, .iload_n 3), (292, .iload 4)] (by decide +kernel) (pc1 := 294) (ls1 := [some (aR 24 0), some (aI x1), some (aI x2), some (aI x3), some (aI x4)]) (st1 := [aI x4, aI x3, aI (3 : Int32), aI x2, aR 24 0]) (σ1 := σ) (P := []) rfl trivial ?_
    obtain ⟨q27, hq27, hm⟩ := obind_eq hm
    refine XW.callV B (M := M_X5_run) (t := 24) (j := 0) (cn := 1) (as := [aI x2, aI (3 : Int32), aI x3, aI x4]) (hrec_0 x2 (3 : Int32) x3 x4 σ hq27) (Nat.lt_succ_self _) wV_X5_run wN_X5_run lk_X5_48 rfl rfl rfl (by decide) rfl (Nat.le_of_ble_eq_true rfl) (by decide +kernel) ?_
    refine XW.bk B [(297, .iconst 1), (298, .isub)] (by decide +kernel) (pc1 := 299) (ls1 := [some (aR 24 0), some (aI x1), some (aI x2), some (aI x3), some (aI x4)]) (st1 := [aI (q27.1 - (1 : Int32))]) (σ1 := q27.2) (P := []) rfl trivial ?_
    cases hm
    exact XW.iret B q (by decide +kernel)
  rw [if_neg h26] at hm
  refine XW.lsD B [(1 : Int32), (2 : Int32), (10 : Int32), (11 : Int32), (20 : Int32), (30 : Int32), (40 : Int32), (41 : Int32), (50 : Int32), (60 : Int32), (70 : Int32), (80 : Int32), (81 : Int32)] (dflt := 299) (n := 115) (ps := #[(1, 115), (2, 122), (10, 148), (11, 163), (20, 170), (30, 182), (40, 193), (41, 205), (50, 217), (60, 240), (70, 252), (80, 264), (81, 287)]) (by decide +kernel) (List.forall_mem_cons.mpr ⟨h1, (List.forall_mem_cons.mpr ⟨h2, (List.forall_mem_cons.mpr ⟨h5, (List.forall_mem_cons.mpr ⟨h7, (List.forall_mem_cons.mpr ⟨h8, (List.forall_mem_cons.mpr ⟨h10, (List.forall_mem_cons.mpr ⟨h12, (List.forall_mem_cons.mpr ⟨h14, (List.forall_mem_cons.mpr ⟨h16, (List.forall_mem_cons.mpr ⟨h19, (List.forall_mem_cons.mpr ⟨h21, (List.forall_mem_cons.mpr ⟨h23, (List.forall_mem_cons.mpr ⟨h26, (fun _ hz => absurd hz List.not_mem_nil)⟩)⟩)⟩)⟩)⟩)⟩)⟩)⟩)⟩)⟩)⟩)⟩)⟩) (by decide +kernel) (tgt := 300) (by decide) ?_
  refine XW.bk B [(300, .iconst 0)] (by decide +kernel) (pc1 := 301) (ls1 := [some (aR 24 0), some (aI x1), some (aI x2), some (aI x3), some (aI x4)]) (st1 := [aI (0 : Int32)]) (σ1 := σ) (P := []) rfl trivial ?_
  cases hm
  exact XW.iret B q (by decide +kernel)
def m_GRun : Nat → Nat → Int32 → Int32 → Int32 → Int32 → SS → Option (Int32 × SS)
  | 0, _, _, _, _, _, _ => none
  | n + 1, k, x1, x2, x3, x4, σ =>
    if k = 0 then m_X5_run (m_GRun n) x1 x2 x3 x4 σ else
    m_X5_runBody (m_GRun n) x1 x2 x3 x4 σ
set_option maxRecDepth 100000 in
set_option maxHeartbeats 4000000 in
theorem c_GRun : ∀ n : Nat, (∀ (x1 : Int32) (x2 : Int32) (x3 : Int32) (x4 : Int32) (σ : SS) {r : Int32} {σ' : SS}, m_GRun n 0 x1 x2 x3 x4 σ = some (r, σ') → XM LC (2 + n) M_X5_run [aR 24 0, aI x1, aI x2, aI x3, aI x4] σ (some (aI r)) σ') ∧ (∀ (x1 : Int32) (x2 : Int32) (x3 : Int32) (x4 : Int32) (σ : SS) {r : Int32} {σ' : SS}, m_GRun n 1 x1 x2 x3 x4 σ = some (r, σ') → XM LC (2 + n) M_X5_runBody [aR 24 0, aI x1, aI x2, aI x3, aI x4] σ (some (aI r)) σ') := by
  intro n
  induction n with
  | zero => exact ⟨fun _ _ _ _ _ _ _ hm => (by cases hm), fun _ _ _ _ _ _ _ hm => (by cases hm)⟩
  | succ n ih =>
    obtain ⟨i0, i1⟩ := ih
    refine ⟨?_, ?_⟩
    · intro x1 x2 x3 x4 σ r σ' hm
      rw [m_GRun] at hm
      rw [if_pos rfl] at hm
      exact c_X5_run (m_GRun n) (2 + n) (by omega) i0 i1 x1 x2 x3 x4 σ hm
    · intro x1 x2 x3 x4 σ r σ' hm
      rw [m_GRun] at hm
      rw [if_neg (by decide)] at hm
      exact c_X5_runBody (m_GRun n) (2 + n) (by omega) i0 i1 x1 x2 x3 x4 σ hm

def m_X5_perform (x1 : Int32) (x2 : Int32) (x3 : Int32) (σ : SS) : Option (Int32 × SS) :=
  if (m_X5_has x1 (sI σ 24 0 3 (0 : Int32))) = (0 : Int32) then
    some ((0 : Int32), (sI σ 24 0 3 (0 : Int32)))
  else
  if x2 < (0 : Int32) then
    some ((0 : Int32), (sI σ 24 0 3 (0 : Int32)))
  else
  if x2 ≤ (3 : Int32) then
    Option.bind (m_X5_kindOf x1 (sI (sI σ 24 0 3 (0 : Int32)) 24 0 4 x1)) (fun q4 =>
    Option.bind (m_GRun 100 0 q4 x2 x3 (0 : Int32) (sI (sI (sI σ 24 0 3 (0 : Int32)) 24 0 4 x1) 24 0 5 q4)) (fun q5 =>
    some (q5.1, q5.2)))
  else
  some ((0 : Int32), (sI σ 24 0 3 (0 : Int32)))
set_option maxRecDepth 100000 in
set_option maxHeartbeats 4000000 in
theorem c_X5_perform (x1 : Int32) (x2 : Int32) (x3 : Int32) (σ : SS) {r : Int32} {σ' : SS} (hm : m_X5_perform x1 x2 x3 σ = some (r, σ')) : XM LC 103 M_X5_perform [aR 24 0, aI x1, aI x2, aI x3] σ (some (aI r)) σ' := by
  refine XM.of (K := K5) (by decide) (by decide +kernel) K5_ok (Nat.le_of_ble_eq_true rfl) (fun Γ B q => ?_)
  unfold m_X5_perform at hm
  refine XW.bk B [(0, .aload_n 0), (1, .iconst 0), (2, .putfield 36), (5, .aload_n 0), (6, .iload_n 1)] (by decide +kernel) (pc1 := 7) (ls1 := [some (aR 24 0), some (aI x1), some (aI x2), some (aI x3)]) (st1 := [aI x1, aR 24 0]) (σ1 := (sI σ 24 0 3 (0 : Int32))) (P := []) rfl trivial ?_
  refine XW.callV B (M := M_X5_has) (t := 24) (j := 0) (cn := 1) (as := [aI x1]) (c_X5_has x1 (sI σ 24 0 3 (0 : Int32)) rfl) (by decide) wV_X5_has wN_X5_has lk_X5_22 rfl rfl rfl (by decide) rfl (Nat.le_of_ble_eq_true rfl) (by decide +kernel) ?_
  refine XW.bb B [] (by decide +kernel) (pc1 := 10) (ls1 := [some (aR 24 0), some (aI x1), some (aI x2), some (aI x3)]) (st1 := [aI (m_X5_has x1 (sI σ 24 0 3 (0 : Int32)))]) (σ1 := (sI σ 24 0 3 (0 : Int32))) (P := []) (i := .ifCond .eq 12) (tgt := 22) (q := (m_X5_has x1 (sI σ 24 0 3 (0 : Int32))) = (0 : Int32)) rfl trivial (by decide +kernel) rfl (by decide) (fun h1 => ?_) (fun h1 => ?_)
  · rw [if_pos h1] at hm
    refine XW.bk B [(22, .iconst 0)] (by decide +kernel) (pc1 := 23) (ls1 := [some (aR 24 0), some (aI x1), some (aI x2), some (aI x3)]) (st1 := [aI (0 : Int32)]) (σ1 := (sI σ 24 0 3 (0 : Int32))) (P := []) rfl trivial ?_
    cases hm
    exact XW.iret B q (by decide +kernel)
  · rw [if_neg h1] at hm
    refine XW.bb B [(13, .iload_n 2)] (by decide +kernel) (pc1 := 14) (ls1 := [some (aR 24 0), some (aI x1), some (aI x2), some (aI x3)]) (st1 := [aI x2]) (σ1 := (sI σ 24 0 3 (0 : Int32))) (P := []) (i := .ifCond .lt 8) (tgt := 22) (q := x2 < (0 : Int32)) rfl trivial (by decide +kernel) rfl (by decide) (fun h2 => ?_) (fun h2 => ?_)
    · rw [if_pos h2] at hm
      refine XW.bk B [(22, .iconst 0)] (by decide +kernel) (pc1 := 23) (ls1 := [some (aR 24 0), some (aI x1), some (aI x2), some (aI x3)]) (st1 := [aI (0 : Int32)]) (σ1 := (sI σ 24 0 3 (0 : Int32))) (P := []) rfl trivial ?_
      cases hm
      exact XW.iret B q (by decide +kernel)
    · rw [if_neg h2] at hm
      refine XW.bb B [(17, .iload_n 2), (18, .iconst 3)] (by decide +kernel) (pc1 := 19) (ls1 := [some (aR 24 0), some (aI x1), some (aI x2), some (aI x3)]) (st1 := [aI (3 : Int32), aI x2]) (σ1 := (sI σ 24 0 3 (0 : Int32))) (P := []) (i := .if_icmp .le 5) (tgt := 24) (q := x2 ≤ (3 : Int32)) rfl trivial (by decide +kernel) rfl (by decide) (fun h3 => ?_) (fun h3 => ?_)
      · rw [if_pos h3] at hm
        refine XW.bk B [(24, .aload_n 0), (25, .iload_n 1), (26, .putfield 39), (29, .aload_n 0), (30, .aload_n 0), (31, .iload_n 1)] (by decide +kernel) (pc1 := 32) (ls1 := [some (aR 24 0), some (aI x1), some (aI x2), some (aI x3)]) (st1 := [aI x1, aR 24 0, aR 24 0]) (σ1 := (sI (sI σ 24 0 3 (0 : Int32)) 24 0 4 x1)) (P := []) rfl trivial ?_
        obtain ⟨q4, hq4, hm⟩ := obind_eq hm
        refine XW.callV B (M := M_X5_kindOf) (t := 24) (j := 0) (cn := 1) (as := [aI x1]) (c_X5_kindOf x1 (sI (sI σ 24 0 3 (0 : Int32)) 24 0 4 x1) hq4) (by decide) wV_X5_kindOf wN_X5_kindOf lk_X5_42 rfl rfl rfl (by decide) rfl (Nat.le_of_ble_eq_true rfl) (by decide +kernel) ?_
        refine XW.bk B [(35, .putfield 45), (38, .aload_n 0), (39, .aload_n 0), (40, .getfield 45), (43, .iload_n 2), (44, .iload_n 3), (45, .iconst 0)] (by decide +kernel) (pc1 := 46) (ls1 := [some (aR 24 0), some (aI x1), some (aI x2), some (aI x3)]) (st1 := [aI (0 : Int32), aI x3, aI x2, aI q4, aR 24 0]) (σ1 := (sI (sI (sI σ 24 0 3 (0 : Int32)) 24 0 4 x1) 24 0 5 q4)) (P := []) rfl trivial ?_
        obtain ⟨q5, hq5, hm⟩ := obind_eq hm
        refine XW.callV B (M := M_X5_run) (t := 24) (j := 0) (cn := 1) (as := [aI q4, aI x2, aI x3, aI (0 : Int32)]) ((c_GRun 100).1 q4 x2 x3 (0 : Int32) (sI (sI (sI σ 24 0 3 (0 : Int32)) 24 0 4 x1) 24 0 5 q4) hq5) (by decide) wV_X5_run wN_X5_run lk_X5_48 rfl rfl rfl (by decide) rfl (Nat.le_of_ble_eq_true rfl) (by decide +kernel) ?_
        cases hm
        exact XW.iret B q (by decide +kernel)
      · rw [if_neg h3] at hm
        refine XW.bk B [(22, .iconst 0)] (by decide +kernel) (pc1 := 23) (ls1 := [some (aR 24 0), some (aI x1), some (aI x2), some (aI x3)]) (st1 := [aI (0 : Int32)]) (σ1 := (sI σ 24 0 3 (0 : Int32))) (P := []) rfl trivial ?_
        cases hm
        exact XW.iret B q (by decide +kernel)
