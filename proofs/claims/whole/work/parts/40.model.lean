def m_X11_within (x1 : Int64) (x2 : Int64) (x3 : Int64) : Int32 :=
  if lg_cmp x1 x2 < (0 : Int32) then
    (0 : Int32)
  else
  if (0 : Int32) < lg_cmp x1 x3 then
    (0 : Int32)
  else
  (1 : Int32)
set_option maxRecDepth 100000 in
set_option maxHeartbeats 4000000 in
theorem c_X11_within (x1 : Int64) (x2 : Int64) (x3 : Int64) (σ : SS) {r : Int32} (hm : m_X11_within x1 x2 x3 = r) : XM LM 1 M_X11_within [aJ x1, aJ x2, aJ x3] σ (some (aI r)) σ := by
  refine XM.of (K := K11) (by decide) (by decide +kernel) K11_ok (Nat.le_of_ble_eq_true rfl) (fun Γ B q => ?_)
  unfold m_X11_within at hm
  refine XW.bb B [(0, .lload_n 0), (1, .lload_n 2), (2, .lcmp)] (by decide +kernel) (pc1 := 3) (ls1 := [some (aJ x1), none, some (aJ x2), none, some (aJ x3), none]) (st1 := [aI (lg_cmp x1 x2)]) (σ1 := σ) (P := []) (i := .ifCond .lt 14) (tgt := 17) (q := lg_cmp x1 x2 < (0 : Int32)) rfl trivial (by decide +kernel) rfl (by decide) (fun h1 => ?_) (fun h1 => ?_)
  · rw [if_pos h1] at hm
    refine XW.bk B [(17, .iconst 0)] (by decide +kernel) (pc1 := 18) (ls1 := [some (aJ x1), none, some (aJ x2), none, some (aJ x3), none]) (st1 := [aI (0 : Int32)]) (σ1 := σ) (P := []) rfl trivial ?_
    subst hm
    exact XW.zret B q (Or.inl rfl) (by decide +kernel)
  · rw [if_neg h1] at hm
    refine XW.bb B [(6, .lload_n 0), (7, .lload 4), (9, .lcmp)] (by decide +kernel) (pc1 := 10) (ls1 := [some (aJ x1), none, some (aJ x2), none, some (aJ x3), none]) (st1 := [aI (lg_cmp x1 x3)]) (σ1 := σ) (P := []) (i := .ifCond .gt 7) (tgt := 17) (q := (0 : Int32) < lg_cmp x1 x3) rfl trivial (by decide +kernel) rfl (by decide) (fun h2 => ?_) (fun h2 => ?_)
    · rw [if_pos h2] at hm
      refine XW.bk B [(17, .iconst 0)] (by decide +kernel) (pc1 := 18) (ls1 := [some (aJ x1), none, some (aJ x2), none, some (aJ x3), none]) (st1 := [aI (0 : Int32)]) (σ1 := σ) (P := []) rfl trivial ?_
      subst hm
      exact XW.zret B q (Or.inl rfl) (by decide +kernel)
    · rw [if_neg h2] at hm
      refine XW.bk B [(13, .iconst 1), (14, .goto 4)] (by decide +kernel) (pc1 := 18) (ls1 := [some (aJ x1), none, some (aJ x2), none, some (aJ x3), none]) (st1 := [aI (1 : Int32)]) (σ1 := σ) (P := []) rfl trivial ?_
      subst hm
      exact XW.zret B q (Or.inr rfl) (by decide +kernel)
theorem b_X11_within (x1 : Int64) (x2 : Int64) (x3 : Int64) : m_X11_within x1 x2 x3 = 0 ∨ m_X11_within x1 x2 x3 = 1 := by
  unfold m_X11_within
  (repeat' split) <;> first | (with_reducible exact Or.inl rfl) | (with_reducible exact Or.inr rfl)

def L_X11_becomes_26 : Nat → Int32 → Int32 → Int32 → Int32 → SS → Option (Int32 × SS)
  | 0, _, _, _, _, _ => none
  | n + 1, v1, v2, v3, v4, σ =>
    if (40 : Int32) ≤ v4 then
      if ((σ.1 0 0 5) - (1 : Int32)) < 0 ∨ 40 ≤ ((σ.1 0 0 5) - (1 : Int32)).toNatClampNeg then none else
      if v1 < 0 ∨ 88 ≤ v1.toNatClampNeg then none else
      some (v3, (sA (sI (sI (sA (sA (sA (sI σ 0 0 5 ((σ.1 0 0 5) - (1 : Int32))) 2 0 ((σ.1 0 0 5) - (1 : Int32)).toNatClampNeg v1) 3 0 ((σ.1 0 0 5) - (1 : Int32)).toNatClampNeg v3) 4 0 ((σ.1 0 0 5) - (1 : Int32)).toNatClampNeg v2) 0 0 5 (((σ.1 0 0 5) - (1 : Int32)) + (1 : Int32))) 0 0 4 (((σ.1 0 0 5) - (1 : Int32)) + (1 : Int32))) 1 0 v1.toNatClampNeg v2))
    else
    if v4 < 0 ∨ 40 ≤ v4.toNatClampNeg then none else
    if (v4 - (1 : Int32)) < 0 ∨ 40 ≤ (v4 - (1 : Int32)).toNatClampNeg then none else
    L_X11_becomes_26 n v1 v2 v3 (v4 + (1 : Int32)) (sA (sA (sA σ 2 0 (v4 - (1 : Int32)).toNatClampNeg (σ.2.1 2 0 v4.toNatClampNeg)) 3 0 (v4 - (1 : Int32)).toNatClampNeg (σ.2.1 3 0 v4.toNatClampNeg)) 4 0 (v4 - (1 : Int32)).toNatClampNeg (σ.2.1 4 0 v4.toNatClampNeg))
def m_X11_becomes (x1 : Int32) (x2 : Int32) (σ : SS) : Option (Int32 × SS) :=
  if x1 < 0 ∨ 88 ≤ x1.toNatClampNeg then none else
  if (σ.2.1 1 0 x1.toNatClampNeg) = x2 then
    some ((σ.2.1 1 0 x1.toNatClampNeg), σ)
  else
  if (σ.1 0 0 5) = (40 : Int32) then
    L_X11_becomes_26 FU x1 x2 (σ.2.1 1 0 x1.toNatClampNeg) (1 : Int32) σ
  else
  if (σ.1 0 0 5) < 0 ∨ 40 ≤ (σ.1 0 0 5).toNatClampNeg then none else
  some ((σ.2.1 1 0 x1.toNatClampNeg), (sA (sI (sI (sA (sA (sA σ 2 0 (σ.1 0 0 5).toNatClampNeg x1) 3 0 (σ.1 0 0 5).toNatClampNeg (σ.2.1 1 0 x1.toNatClampNeg)) 4 0 (σ.1 0 0 5).toNatClampNeg x2) 0 0 5 ((σ.1 0 0 5) + (1 : Int32))) 0 0 4 ((σ.1 0 0 5) + (1 : Int32))) 1 0 x1.toNatClampNeg x2))
set_option maxRecDepth 100000 in
set_option maxHeartbeats 4000000 in
theorem lp_X11_becomes_26 {Γ : XC} {r : Int32} {σ' : SS} (B : XB Γ cX11_becomes RX11 1 K11 LM 5) (q : XQ Γ (some .int) (some (aI r)) σ') : ∀ (n : Nat) (v1 : Int32) (v2 : Int32) (v3 : Int32) (v4 : Int32) (σ : SS), L_X11_becomes_26 n v1 v2 v3 v4 σ = some (r, σ') → XW Γ 26 [some (aR 0 0), some (aI v1), some (aI v2), some (aI v3), some (aI v4)] [] σ := by
  intro n
  induction n with
  | zero => intro v1 v2 v3 v4 σ hm; cases hm
  | succ n ih =>
    intro v1 v2 v3 v4 σ hm
    rw [L_X11_becomes_26] at hm
    refine XW.bb B [(26, .iload 4), (28, .bipush 40)] (by decide +kernel) (pc1 := 30) (ls1 := [some (aR 0 0), some (aI v1), some (aI v2), some (aI v3), some (aI v4)]) (st1 := [aI (40 : Int32), aI v4]) (σ1 := σ) (P := []) (i := .if_icmp .ge 57) (tgt := 87) (q := (40 : Int32) ≤ v4) rfl trivial (by decide +kernel) rfl (by decide) (fun h4 => ?_) (fun h4 => ?_)
    · rw [if_pos h4] at hm
      refine XW.bk B [(87, .aload_n 0), (88, .dup), (89, .getfield 75), (92, .iconst 1), (93, .isub), (94, .putfield 75), (97, .aload_n 0), (98, .getfield 15), (101, .aload_n 0), (102, .getfield 75), (105, .iload_n 1)] (by decide +kernel) (pc1 := 106) (ls1 := [some (aR 0 0), some (aI v1), some (aI v2), some (aI v3), some (aI v4)]) (st1 := [aI v1, aI ((σ.1 0 0 5) - (1 : Int32)), aR 2 0]) (σ1 := (sI σ 0 0 5 ((σ.1 0 0 5) - (1 : Int32)))) (P := []) rfl trivial ?_
      by_cases g5 : ((σ.1 0 0 5) - (1 : Int32)) < 0 ∨ 40 ≤ ((σ.1 0 0 5) - (1 : Int32)).toNatClampNeg
      · rw [if_pos g5] at hm; cases hm
      rw [if_neg g5] at hm
      refine XW.bk B [(106, .iastore), (107, .aload_n 0), (108, .getfield 18), (111, .aload_n 0), (112, .getfield 75), (115, .iload_n 3), (116, .iastore), (117, .aload_n 0), (118, .getfield 21), (121, .aload_n 0), (122, .getfield 75), (125, .iload_n 2), (126, .iastore), (127, .aload_n 0), (128, .dup), (129, .getfield 75), (132, .iconst 1), (133, .iadd), (134, .putfield 75), (137, .aload_n 0), (138, .aload_n 0), (139, .getfield 75), (142, .putfield 78), (145, .aload_n 0), (146, .getfield 11), (149, .iload_n 1), (150, .iload_n 2)] (by decide +kernel) (pc1 := 151) (ls1 := [some (aR 0 0), some (aI v1), some (aI v2), some (aI v3), some (aI v4)]) (st1 := [aI v2, aI v1, aR 1 0]) (σ1 := (sI (sI (sA (sA (sA (sI σ 0 0 5 ((σ.1 0 0 5) - (1 : Int32))) 2 0 ((σ.1 0 0 5) - (1 : Int32)).toNatClampNeg v1) 3 0 ((σ.1 0 0 5) - (1 : Int32)).toNatClampNeg v3) 4 0 ((σ.1 0 0 5) - (1 : Int32)).toNatClampNeg v2) 0 0 5 (((σ.1 0 0 5) - (1 : Int32)) + (1 : Int32))) 0 0 4 (((σ.1 0 0 5) - (1 : Int32)) + (1 : Int32)))) (P := [vp_in ((σ.1 0 0 5) - (1 : Int32)) 40, vp_in ((σ.1 0 0 5) - (1 : Int32)) 40, vp_in ((σ.1 0 0 5) - (1 : Int32)) 40]) rfl ⟨g5, g5, g5, trivial⟩ ?_
      by_cases g6 : v1 < 0 ∨ 88 ≤ v1.toNatClampNeg
      · rw [if_pos g6] at hm; cases hm
      rw [if_neg g6] at hm
      refine XW.bk B [(151, .iastore), (152, .iload_n 3)] (by decide +kernel) (pc1 := 153) (ls1 := [some (aR 0 0), some (aI v1), some (aI v2), some (aI v3), some (aI v4)]) (st1 := [aI v3]) (σ1 := (sA (sI (sI (sA (sA (sA (sI σ 0 0 5 ((σ.1 0 0 5) - (1 : Int32))) 2 0 ((σ.1 0 0 5) - (1 : Int32)).toNatClampNeg v1) 3 0 ((σ.1 0 0 5) - (1 : Int32)).toNatClampNeg v3) 4 0 ((σ.1 0 0 5) - (1 : Int32)).toNatClampNeg v2) 0 0 5 (((σ.1 0 0 5) - (1 : Int32)) + (1 : Int32))) 0 0 4 (((σ.1 0 0 5) - (1 : Int32)) + (1 : Int32))) 1 0 v1.toNatClampNeg v2)) (P := [vp_in v1 88]) rfl ⟨g6, trivial⟩ ?_
      obtain ⟨rfl, rfl⟩ := Prod.mk.inj (Option.some.inj hm)
      exact XW.iret B q (by decide +kernel)
    · rw [if_neg h4] at hm
      refine XW.bk B [(33, .aload_n 0), (34, .getfield 15), (37, .iload 4), (39, .iconst 1), (40, .isub), (41, .aload_n 0), (42, .getfield 15), (45, .iload 4)] (by decide +kernel) (pc1 := 47) (ls1 := [some (aR 0 0), some (aI v1), some (aI v2), some (aI v3), some (aI v4)]) (st1 := [aI v4, aR 2 0, aI (v4 - (1 : Int32)), aR 2 0]) (σ1 := σ) (P := []) rfl trivial ?_
      by_cases g7 : v4 < 0 ∨ 40 ≤ v4.toNatClampNeg
      · rw [if_pos g7] at hm; cases hm
      rw [if_neg g7] at hm
      refine XW.bk B [(47, .iaload)] (by decide +kernel) (pc1 := 48) (ls1 := [some (aR 0 0), some (aI v1), some (aI v2), some (aI v3), some (aI v4)]) (st1 := [aI (σ.2.1 2 0 v4.toNatClampNeg), aI (v4 - (1 : Int32)), aR 2 0]) (σ1 := σ) (P := [vp_in v4 40]) rfl ⟨g7, trivial⟩ ?_
      by_cases g8 : (v4 - (1 : Int32)) < 0 ∨ 40 ≤ (v4 - (1 : Int32)).toNatClampNeg
      · rw [if_pos g8] at hm; cases hm
      rw [if_neg g8] at hm
      refine XW.bk B [(48, .iastore), (49, .aload_n 0), (50, .getfield 18), (53, .iload 4), (55, .iconst 1), (56, .isub), (57, .aload_n 0), (58, .getfield 18), (61, .iload 4), (63, .iaload), (64, .iastore), (65, .aload_n 0), (66, .getfield 21), (69, .iload 4), (71, .iconst 1), (72, .isub), (73, .aload_n 0), (74, .getfield 21), (77, .iload 4), (79, .iaload), (80, .iastore), (81, .iinc 4 1), (84, .goto (-58))] (by decide +kernel) (pc1 := 26) (ls1 := [some (aR 0 0), some (aI v1), some (aI v2), some (aI v3), some (aI (v4 + (1 : Int32)))]) (st1 := []) (σ1 := (sA (sA (sA σ 2 0 (v4 - (1 : Int32)).toNatClampNeg (σ.2.1 2 0 v4.toNatClampNeg)) 3 0 (v4 - (1 : Int32)).toNatClampNeg (σ.2.1 3 0 v4.toNatClampNeg)) 4 0 (v4 - (1 : Int32)).toNatClampNeg (σ.2.1 4 0 v4.toNatClampNeg))) (P := [vp_in (v4 - (1 : Int32)) 40, vp_in v4 40, vp_in (v4 - (1 : Int32)) 40, vp_in v4 40, vp_in (v4 - (1 : Int32)) 40]) rfl ⟨g8, g7, g8, g7, g8, trivial⟩ ?_
      exact ih v1 v2 v3 (v4 + (1 : Int32)) (sA (sA (sA σ 2 0 (v4 - (1 : Int32)).toNatClampNeg (σ.2.1 2 0 v4.toNatClampNeg)) 3 0 (v4 - (1 : Int32)).toNatClampNeg (σ.2.1 3 0 v4.toNatClampNeg)) 4 0 (v4 - (1 : Int32)).toNatClampNeg (σ.2.1 4 0 v4.toNatClampNeg)) hm
set_option maxRecDepth 100000 in
set_option maxHeartbeats 4000000 in
theorem c_X11_becomes (x1 : Int32) (x2 : Int32) (σ : SS) {r : Int32} {σ' : SS} (hm : m_X11_becomes x1 x2 σ = some (r, σ')) : XM LM 1 M_X11_becomes [aR 0 0, aI x1, aI x2] σ (some (aI r)) σ' := by
  refine XM.of (K := K11) (by decide) (by decide +kernel) K11_ok (Nat.le_of_ble_eq_true rfl) (fun Γ B q => ?_)
  unfold m_X11_becomes at hm
  refine XW.bk B [(0, .aload_n 0), (1, .getfield 11), (4, .iload_n 1)] (by decide +kernel) (pc1 := 5) (ls1 := [some (aR 0 0), some (aI x1), some (aI x2), none, none]) (st1 := [aI x1, aR 1 0]) (σ1 := σ) (P := []) rfl trivial ?_
  by_cases g1 : x1 < 0 ∨ 88 ≤ x1.toNatClampNeg
  · rw [if_pos g1] at hm; cases hm
  rw [if_neg g1] at hm
  refine XW.bn B [(5, .iaload), (6, .istore_n 3), (7, .iload_n 3), (8, .iload_n 2)] (by decide +kernel) (pc1 := 9) (ls1 := [some (aR 0 0), some (aI x1), some (aI x2), some (aI (σ.2.1 1 0 x1.toNatClampNeg)), none]) (st1 := [aI x2, aI (σ.2.1 1 0 x1.toNatClampNeg)]) (σ1 := σ) (P := [vp_in x1 88]) (i := .if_icmp .ne 5) (tgt := 14) (q := (σ.2.1 1 0 x1.toNatClampNeg) = x2) rfl ⟨g1, trivial⟩ (by decide +kernel) rfl (by decide) (fun h2 => ?_) (fun h2 => ?_)
  · rw [if_pos h2] at hm
    refine XW.bk B [(12, .iload_n 3)] (by decide +kernel) (pc1 := 13) (ls1 := [some (aR 0 0), some (aI x1), some (aI x2), some (aI (σ.2.1 1 0 x1.toNatClampNeg)), none]) (st1 := [aI (σ.2.1 1 0 x1.toNatClampNeg)]) (σ1 := σ) (P := []) rfl trivial ?_
    obtain ⟨rfl, rfl⟩ := Prod.mk.inj (Option.some.inj hm)
    exact XW.iret B q (by decide +kernel)
  · rw [if_neg h2] at hm
    refine XW.bn B [(14, .aload_n 0), (15, .getfield 75), (18, .bipush 40)] (by decide +kernel) (pc1 := 20) (ls1 := [some (aR 0 0), some (aI x1), some (aI x2), some (aI (σ.2.1 1 0 x1.toNatClampNeg)), none]) (st1 := [aI (40 : Int32), aI (σ.1 0 0 5)]) (σ1 := σ) (P := []) (i := .if_icmp .ne 77) (tgt := 97) (q := (σ.1 0 0 5) = (40 : Int32)) rfl trivial (by decide +kernel) rfl (by decide) (fun h3 => ?_) (fun h3 => ?_)
    · rw [if_pos h3] at hm
      refine XW.bk B [(23, .iconst 1), (24, .istore 4)] (by decide +kernel) (pc1 := 26) (ls1 := [some (aR 0 0), some (aI x1), some (aI x2), some (aI (σ.2.1 1 0 x1.toNatClampNeg)), some (aI (1 : Int32))]) (st1 := []) (σ1 := σ) (P := []) rfl trivial ?_
      exact lp_X11_becomes_26 B q FU x1 x2 (σ.2.1 1 0 x1.toNatClampNeg) (1 : Int32) σ hm
    · rw [if_neg h3] at hm
      refine XW.bk B [(97, .aload_n 0), (98, .getfield 15), (101, .aload_n 0), (102, .getfield 75), (105, .iload_n 1)] (by decide +kernel) (pc1 := 106) (ls1 := [some (aR 0 0), some (aI x1), some (aI x2), some (aI (σ.2.1 1 0 x1.toNatClampNeg)), none]) (st1 := [aI x1, aI (σ.1 0 0 5), aR 2 0]) (σ1 := σ) (P := []) rfl trivial ?_
      by_cases g9 : (σ.1 0 0 5) < 0 ∨ 40 ≤ (σ.1 0 0 5).toNatClampNeg
      · rw [if_pos g9] at hm; cases hm
      rw [if_neg g9] at hm
      refine XW.bk B [(106, .iastore), (107, .aload_n 0), (108, .getfield 18), (111, .aload_n 0), (112, .getfield 75), (115, .iload_n 3), (116, .iastore), (117, .aload_n 0), (118, .getfield 21), (121, .aload_n 0), (122, .getfield 75), (125, .iload_n 2), (126, .iastore), (127, .aload_n 0), (128, .dup), (129, .getfield 75), (132, .iconst 1), (133, .iadd), (134, .putfield 75), (137, .aload_n 0), (138, .aload_n 0), (139, .getfield 75), (142, .putfield 78), (145, .aload_n 0), (146, .getfield 11), (149, .iload_n 1), (150, .iload_n 2), (151, .iastore), (152, .iload_n 3)] (by decide +kernel) (pc1 := 153) (ls1 := [some (aR 0 0), some (aI x1), some (aI x2), some (aI (σ.2.1 1 0 x1.toNatClampNeg)), none]) (st1 := [aI (σ.2.1 1 0 x1.toNatClampNeg)]) (σ1 := (sA (sI (sI (sA (sA (sA σ 2 0 (σ.1 0 0 5).toNatClampNeg x1) 3 0 (σ.1 0 0 5).toNatClampNeg (σ.2.1 1 0 x1.toNatClampNeg)) 4 0 (σ.1 0 0 5).toNatClampNeg x2) 0 0 5 ((σ.1 0 0 5) + (1 : Int32))) 0 0 4 ((σ.1 0 0 5) + (1 : Int32))) 1 0 x1.toNatClampNeg x2)) (P := [vp_in (σ.1 0 0 5) 40, vp_in (σ.1 0 0 5) 40, vp_in (σ.1 0 0 5) 40, vp_in x1 88]) rfl ⟨g9, g9, g9, g1, trivial⟩ ?_
      obtain ⟨rfl, rfl⟩ := Prod.mk.inj (Option.some.inj hm)
      exact XW.iret B q (by decide +kernel)

def m_X11_undo (σ : SS) : Option (Int32 × SS) :=
  if (σ.1 0 0 5) = (0 : Int32) then
    some ((-5 : Int32), σ)
  else
  if ((σ.1 0 0 5) - (1 : Int32)) < 0 ∨ 40 ≤ ((σ.1 0 0 5) - (1 : Int32)).toNatClampNeg then none else
  if (σ.2.1 2 0 ((σ.1 0 0 5) - (1 : Int32)).toNatClampNeg) < 0 ∨ 88 ≤ (σ.2.1 2 0 ((σ.1 0 0 5) - (1 : Int32)).toNatClampNeg).toNatClampNeg then none else
  some (((σ.1 0 0 5) - (1 : Int32)), (sA (sI σ 0 0 5 ((σ.1 0 0 5) - (1 : Int32))) 1 0 (σ.2.1 2 0 ((σ.1 0 0 5) - (1 : Int32)).toNatClampNeg).toNatClampNeg (σ.2.1 3 0 ((σ.1 0 0 5) - (1 : Int32)).toNatClampNeg)))
set_option maxRecDepth 100000 in
set_option maxHeartbeats 4000000 in
theorem c_X11_undo (σ : SS) {r : Int32} {σ' : SS} (hm : m_X11_undo σ = some (r, σ')) : XM LM 1 M_X11_undo [aR 0 0] σ (some (aI r)) σ' := by
  refine XM.of (K := K11) (by decide) (by decide +kernel) K11_ok (Nat.le_of_ble_eq_true rfl) (fun Γ B q => ?_)
  unfold m_X11_undo at hm
  refine XW.bn B [(0, .aload_n 0), (1, .getfield 75)] (by decide +kernel) (pc1 := 4) (ls1 := [some (aR 0 0)]) (st1 := [aI (σ.1 0 0 5)]) (σ1 := σ) (P := []) (i := .ifCond .ne 6) (tgt := 10) (q := (σ.1 0 0 5) = (0 : Int32)) rfl trivial (by decide +kernel) rfl (by decide) (fun h1 => ?_) (fun h1 => ?_)
  · rw [if_pos h1] at hm
    refine XW.bk B [(7, .bipush (-5))] (by decide +kernel) (pc1 := 9) (ls1 := [some (aR 0 0)]) (st1 := [aI (-5 : Int32)]) (σ1 := σ) (P := []) rfl trivial ?_
    obtain ⟨rfl, rfl⟩ := Prod.mk.inj (Option.some.inj hm)
    exact XW.iret B q (by decide +kernel)
  · rw [if_neg h1] at hm
    refine XW.bk B [(10, .aload_n 0), (11, .dup), (12, .getfield 75), (15, .iconst 1), (16, .isub), (17, .putfield 75), (20, .aload_n 0), (21, .getfield 11), (24, .aload_n 0), (25, .getfield 15), (28, .aload_n 0), (29, .getfield 75)] (by decide +kernel) (pc1 := 32) (ls1 := [some (aR 0 0)]) (st1 := [aI ((σ.1 0 0 5) - (1 : Int32)), aR 2 0, aR 1 0]) (σ1 := (sI σ 0 0 5 ((σ.1 0 0 5) - (1 : Int32)))) (P := []) rfl trivial ?_
    by_cases g2 : ((σ.1 0 0 5) - (1 : Int32)) < 0 ∨ 40 ≤ ((σ.1 0 0 5) - (1 : Int32)).toNatClampNeg
    · rw [if_pos g2] at hm; cases hm
    rw [if_neg g2] at hm
    refine XW.bk B [(32, .iaload), (33, .aload_n 0), (34, .getfield 18), (37, .aload_n 0), (38, .getfield 75), (41, .iaload)] (by decide +kernel) (pc1 := 42) (ls1 := [some (aR 0 0)]) (st1 := [aI (σ.2.1 3 0 ((σ.1 0 0 5) - (1 : Int32)).toNatClampNeg), aI (σ.2.1 2 0 ((σ.1 0 0 5) - (1 : Int32)).toNatClampNeg), aR 1 0]) (σ1 := (sI σ 0 0 5 ((σ.1 0 0 5) - (1 : Int32)))) (P := [vp_in ((σ.1 0 0 5) - (1 : Int32)) 40, vp_in ((σ.1 0 0 5) - (1 : Int32)) 40]) rfl ⟨g2, g2, trivial⟩ ?_
    by_cases g3 : (σ.2.1 2 0 ((σ.1 0 0 5) - (1 : Int32)).toNatClampNeg) < 0 ∨ 88 ≤ (σ.2.1 2 0 ((σ.1 0 0 5) - (1 : Int32)).toNatClampNeg).toNatClampNeg
    · rw [if_pos g3] at hm; cases hm
    rw [if_neg g3] at hm
    refine XW.bk B [(42, .iastore), (43, .aload_n 0), (44, .getfield 75)] (by decide +kernel) (pc1 := 47) (ls1 := [some (aR 0 0)]) (st1 := [aI ((σ.1 0 0 5) - (1 : Int32))]) (σ1 := (sA (sI σ 0 0 5 ((σ.1 0 0 5) - (1 : Int32))) 1 0 (σ.2.1 2 0 ((σ.1 0 0 5) - (1 : Int32)).toNatClampNeg).toNatClampNeg (σ.2.1 3 0 ((σ.1 0 0 5) - (1 : Int32)).toNatClampNeg))) (P := [vp_in (σ.2.1 2 0 ((σ.1 0 0 5) - (1 : Int32)).toNatClampNeg) 88]) rfl ⟨g3, trivial⟩ ?_
    obtain ⟨rfl, rfl⟩ := Prod.mk.inj (Option.some.inj hm)
    exact XW.iret B q (by decide +kernel)

def m_X11_redo (σ : SS) : Option (Int32 × SS) :=
  if (σ.1 0 0 5) = (σ.1 0 0 4) then
    some ((-5 : Int32), σ)
  else
  if (σ.1 0 0 5) < 0 ∨ 40 ≤ (σ.1 0 0 5).toNatClampNeg then none else
  if (σ.2.1 2 0 (σ.1 0 0 5).toNatClampNeg) < 0 ∨ 88 ≤ (σ.2.1 2 0 (σ.1 0 0 5).toNatClampNeg).toNatClampNeg then none else
  some (((σ.1 0 0 4) - ((σ.1 0 0 5) + (1 : Int32))), (sI (sA σ 1 0 (σ.2.1 2 0 (σ.1 0 0 5).toNatClampNeg).toNatClampNeg (σ.2.1 4 0 (σ.1 0 0 5).toNatClampNeg)) 0 0 5 ((σ.1 0 0 5) + (1 : Int32))))
set_option maxRecDepth 100000 in
set_option maxHeartbeats 4000000 in
theorem c_X11_redo (σ : SS) {r : Int32} {σ' : SS} (hm : m_X11_redo σ = some (r, σ')) : XM LM 1 M_X11_redo [aR 0 0] σ (some (aI r)) σ' := by
  refine XM.of (K := K11) (by decide) (by decide +kernel) K11_ok (Nat.le_of_ble_eq_true rfl) (fun Γ B q => ?_)
  unfold m_X11_redo at hm
  refine XW.bn B [(0, .aload_n 0), (1, .getfield 75), (4, .aload_n 0), (5, .getfield 78)] (by decide +kernel) (pc1 := 8) (ls1 := [some (aR 0 0)]) (st1 := [aI (σ.1 0 0 4), aI (σ.1 0 0 5)]) (σ1 := σ) (P := []) (i := .if_icmp .ne 6) (tgt := 14) (q := (σ.1 0 0 5) = (σ.1 0 0 4)) rfl trivial (by decide +kernel) rfl (by decide) (fun h1 => ?_) (fun h1 => ?_)
  · rw [if_pos h1] at hm
    refine XW.bk B [(11, .bipush (-5))] (by decide +kernel) (pc1 := 13) (ls1 := [some (aR 0 0)]) (st1 := [aI (-5 : Int32)]) (σ1 := σ) (P := []) rfl trivial ?_
    obtain ⟨rfl, rfl⟩ := Prod.mk.inj (Option.some.inj hm)
    exact XW.iret B q (by decide +kernel)
  · rw [if_neg h1] at hm
    refine XW.bk B [(14, .aload_n 0), (15, .getfield 11), (18, .aload_n 0), (19, .getfield 15), (22, .aload_n 0), (23, .getfield 75)] (by decide +kernel) (pc1 := 26) (ls1 := [some (aR 0 0)]) (st1 := [aI (σ.1 0 0 5), aR 2 0, aR 1 0]) (σ1 := σ) (P := []) rfl trivial ?_
    by_cases g2 : (σ.1 0 0 5) < 0 ∨ 40 ≤ (σ.1 0 0 5).toNatClampNeg
    · rw [if_pos g2] at hm; cases hm
    rw [if_neg g2] at hm
    refine XW.bk B [(26, .iaload), (27, .aload_n 0), (28, .getfield 21), (31, .aload_n 0), (32, .getfield 75), (35, .iaload)] (by decide +kernel) (pc1 := 36) (ls1 := [some (aR 0 0)]) (st1 := [aI (σ.2.1 4 0 (σ.1 0 0 5).toNatClampNeg), aI (σ.2.1 2 0 (σ.1 0 0 5).toNatClampNeg), aR 1 0]) (σ1 := σ) (P := [vp_in (σ.1 0 0 5) 40, vp_in (σ.1 0 0 5) 40]) rfl ⟨g2, g2, trivial⟩ ?_
    by_cases g3 : (σ.2.1 2 0 (σ.1 0 0 5).toNatClampNeg) < 0 ∨ 88 ≤ (σ.2.1 2 0 (σ.1 0 0 5).toNatClampNeg).toNatClampNeg
    · rw [if_pos g3] at hm; cases hm
    rw [if_neg g3] at hm
    refine XW.bk B [(36, .iastore), (37, .aload_n 0), (38, .dup), (39, .getfield 75), (42, .iconst 1), (43, .iadd), (44, .putfield 75), (47, .aload_n 0), (48, .getfield 78), (51, .aload_n 0), (52, .getfield 75), (55, .isub)] (by decide +kernel) (pc1 := 56) (ls1 := [some (aR 0 0)]) (st1 := [aI ((σ.1 0 0 4) - ((σ.1 0 0 5) + (1 : Int32)))]) (σ1 := (sI (sA σ 1 0 (σ.2.1 2 0 (σ.1 0 0 5).toNatClampNeg).toNatClampNeg (σ.2.1 4 0 (σ.1 0 0 5).toNatClampNeg)) 0 0 5 ((σ.1 0 0 5) + (1 : Int32)))) (P := [vp_in (σ.2.1 2 0 (σ.1 0 0 5).toNatClampNeg) 88]) rfl ⟨g3, trivial⟩ ?_
    obtain ⟨rfl, rfl⟩ := Prod.mk.inj (Option.some.inj hm)
    exact XW.iret B q (by decide +kernel)

def m_X11_isPlace (x1 : Int32) (σ : SS) : Int32 :=
  (m_X11_within x1.toInt64 (0 : Int64) (((σ.1 0 0 6) - (1 : Int32)).toInt64))
set_option maxRecDepth 100000 in
set_option maxHeartbeats 4000000 in
theorem c_X11_isPlace (x1 : Int32) (σ : SS) {r : Int32} (hm : m_X11_isPlace x1 σ = r) : XM LM 2 M_X11_isPlace [aR 0 0, aI x1] σ (some (aI r)) σ := by
  refine XM.of (K := K11) (by decide) (by decide +kernel) K11_ok (Nat.le_of_ble_eq_true rfl) (fun Γ B q => ?_)
  unfold m_X11_isPlace at hm
  refine XW.bk B [(0, .iload_n 1), (1, .i2l), (2, .lconst 0), (3, .aload_n 0), (4, .getfield 81), (7, .iconst 1), (8, .isub), (9, .i2l)] (by decide +kernel) (pc1 := 10) (ls1 := [some (aR 0 0), some (aI x1)]) (st1 := [aJ (((σ.1 0 0 6) - (1 : Int32)).toInt64), aJ (0 : Int64), aJ x1.toInt64]) (σ1 := σ) (P := []) rfl trivial ?_
  refine XW.callS B (M := M_X11_within) (as := [aJ x1.toInt64, aJ (0 : Int64), aJ (((σ.1 0 0 6) - (1 : Int32)).toInt64)]) (c_X11_within x1.toInt64 (0 : Int64) (((σ.1 0 0 6) - (1 : Int32)).toInt64) σ rfl) (by decide) wS_X11_within wN_X11_within lk_X11_84 rfl (Nat.le_of_ble_eq_true rfl) (by decide +kernel) ?_
  subst hm
  exact XW.zret B q (b_X11_within x1.toInt64 (0 : Int64) (((σ.1 0 0 6) - (1 : Int32)).toInt64)) (by decide +kernel)
theorem b_X11_isPlace (x1 : Int32) (σ : SS) : m_X11_isPlace x1 σ = 0 ∨ m_X11_isPlace x1 σ = 1 := by
  unfold m_X11_isPlace
  (repeat' split) <;> first | (with_reducible exact Or.inl rfl) | (with_reducible exact Or.inr rfl) | (with_reducible exact (b_X11_within x1.toInt64 (0 : Int64) (((σ.1 0 0 6) - (1 : Int32)).toInt64)))

def m_X11_isHeld (x1 : Int64) : Int32 :=
  (m_X11_within x1 (0 : Int64) (3 : Int64))
set_option maxRecDepth 100000 in
set_option maxHeartbeats 4000000 in
theorem c_X11_isHeld (x1 : Int64) (σ : SS) {r : Int32} (hm : m_X11_isHeld x1 = r) : XM LM 2 M_X11_isHeld [aJ x1] σ (some (aI r)) σ := by
  refine XM.of (K := K11) (by decide) (by decide +kernel) K11_ok (Nat.le_of_ble_eq_true rfl) (fun Γ B q => ?_)
  unfold m_X11_isHeld at hm
  refine XW.bk B [(0, .lload_n 0), (1, .lconst 0), (2, .ldc2_w 88)] (by decide +kernel) (pc1 := 5) (ls1 := [some (aJ x1), none]) (st1 := [aJ (3 : Int64), aJ (0 : Int64), aJ x1]) (σ1 := σ) (P := []) rfl trivial ?_
  refine XW.callS B (M := M_X11_within) (as := [aJ x1, aJ (0 : Int64), aJ (3 : Int64)]) (c_X11_within x1 (0 : Int64) (3 : Int64) σ rfl) (by decide) wS_X11_within wN_X11_within lk_X11_84 rfl (Nat.le_of_ble_eq_true rfl) (by decide +kernel) ?_
  subst hm
  exact XW.zret B q (b_X11_within x1 (0 : Int64) (3 : Int64)) (by decide +kernel)
theorem b_X11_isHeld (x1 : Int64) : m_X11_isHeld x1 = 0 ∨ m_X11_isHeld x1 = 1 := by
  unfold m_X11_isHeld
  (repeat' split) <;> first | (with_reducible exact Or.inl rfl) | (with_reducible exact Or.inr rfl) | (with_reducible exact (b_X11_within x1 (0 : Int64) (3 : Int64)))

def m_X11_isMinute (x1 : Int32) : Int32 :=
  (m_X11_within x1.toInt64 (0 : Int64) (999 : Int64))
set_option maxRecDepth 100000 in
set_option maxHeartbeats 4000000 in
theorem c_X11_isMinute (x1 : Int32) (σ : SS) {r : Int32} (hm : m_X11_isMinute x1 = r) : XM LM 2 M_X11_isMinute [aI x1] σ (some (aI r)) σ := by
  refine XM.of (K := K11) (by decide) (by decide +kernel) K11_ok (Nat.le_of_ble_eq_true rfl) (fun Γ B q => ?_)
  unfold m_X11_isMinute at hm
  refine XW.bk B [(0, .iload_n 0), (1, .i2l), (2, .lconst 0), (3, .ldc2_w 90)] (by decide +kernel) (pc1 := 6) (ls1 := [some (aI x1)]) (st1 := [aJ (999 : Int64), aJ (0 : Int64), aJ x1.toInt64]) (σ1 := σ) (P := []) rfl trivial ?_
  refine XW.callS B (M := M_X11_within) (as := [aJ x1.toInt64, aJ (0 : Int64), aJ (999 : Int64)]) (c_X11_within x1.toInt64 (0 : Int64) (999 : Int64) σ rfl) (by decide) wS_X11_within wN_X11_within lk_X11_84 rfl (Nat.le_of_ble_eq_true rfl) (by decide +kernel) ?_
  subst hm
  exact XW.zret B q (b_X11_within x1.toInt64 (0 : Int64) (999 : Int64)) (by decide +kernel)
theorem b_X11_isMinute (x1 : Int32) : m_X11_isMinute x1 = 0 ∨ m_X11_isMinute x1 = 1 := by
  unfold m_X11_isMinute
  (repeat' split) <;> first | (with_reducible exact Or.inl rfl) | (with_reducible exact Or.inr rfl) | (with_reducible exact (b_X11_within x1.toInt64 (0 : Int64) (999 : Int64)))

def m_X11_adds (x1 : Int32) (x2 : Int32) (x3 : Int32) (σ : SS) : Option (SS) :=
  if (σ.1 0 0 6) < 0 ∨ 88 ≤ (σ.1 0 0 6).toNatClampNeg then none else
  if ((12 : Int32) + (σ.1 0 0 6)) < 0 ∨ 88 ≤ ((12 : Int32) + (σ.1 0 0 6)).toNatClampNeg then none else
  if ((24 : Int32) + (σ.1 0 0 6)) < 0 ∨ 88 ≤ ((24 : Int32) + (σ.1 0 0 6)).toNatClampNeg then none else
  if ((36 : Int32) + (σ.1 0 0 6)) < 0 ∨ 88 ≤ ((36 : Int32) + (σ.1 0 0 6)).toNatClampNeg then none else
  if ((48 : Int32) + (σ.1 0 0 6)) < 0 ∨ 88 ≤ ((48 : Int32) + (σ.1 0 0 6)).toNatClampNeg then none else
  if ((60 : Int32) + (σ.1 0 0 6)) < 0 ∨ 88 ≤ ((60 : Int32) + (σ.1 0 0 6)).toNatClampNeg then none else
  if ((72 : Int32) + (σ.1 0 0 6)) < 0 ∨ 88 ≤ ((72 : Int32) + (σ.1 0 0 6)).toNatClampNeg then none else
  some (sI (sA (sA (sA (sA (sA (sA (sA σ 1 0 (σ.1 0 0 6).toNatClampNeg x1) 1 0 ((12 : Int32) + (σ.1 0 0 6)).toNatClampNeg (0 : Int32)) 1 0 ((24 : Int32) + (σ.1 0 0 6)).toNatClampNeg (10 : Int32)) 1 0 ((36 : Int32) + (σ.1 0 0 6)).toNatClampNeg (2 : Int32)) 1 0 ((48 : Int32) + (σ.1 0 0 6)).toNatClampNeg x2) 1 0 ((60 : Int32) + (σ.1 0 0 6)).toNatClampNeg x3) 1 0 ((72 : Int32) + (σ.1 0 0 6)).toNatClampNeg (3 : Int32)) 0 0 6 ((σ.1 0 0 6) + (1 : Int32)))
set_option maxRecDepth 100000 in
set_option maxHeartbeats 4000000 in
theorem c_X11_adds (x1 : Int32) (x2 : Int32) (x3 : Int32) (σ : SS) {σ' : SS} (hm : m_X11_adds x1 x2 x3 σ = some σ') : XM LM 1 M_X11_adds [aR 0 0, aI x1, aI x2, aI x3] σ none σ' := by
  refine XM.of (K := K11) (by decide) (by decide +kernel) K11_ok (Nat.le_of_ble_eq_true rfl) (fun Γ B q => ?_)
  unfold m_X11_adds at hm
  refine XW.bk B [(0, .aload_n 0), (1, .getfield 11), (4, .aload_n 0), (5, .getfield 81), (8, .iload_n 1)] (by decide +kernel) (pc1 := 9) (ls1 := [some (aR 0 0), some (aI x1), some (aI x2), some (aI x3)]) (st1 := [aI x1, aI (σ.1 0 0 6), aR 1 0]) (σ1 := σ) (P := []) rfl trivial ?_
  by_cases g1 : (σ.1 0 0 6) < 0 ∨ 88 ≤ (σ.1 0 0 6).toNatClampNeg
  · rw [if_pos g1] at hm; cases hm
  rw [if_neg g1] at hm
  refine XW.bk B [(9, .iastore), (10, .aload_n 0), (11, .getfield 11), (14, .bipush 12), (16, .aload_n 0), (17, .getfield 81), (20, .iadd), (21, .iconst 0)] (by decide +kernel) (pc1 := 22) (ls1 := [some (aR 0 0), some (aI x1), some (aI x2), some (aI x3)]) (st1 := [aI (0 : Int32), aI ((12 : Int32) + (σ.1 0 0 6)), aR 1 0]) (σ1 := (sA σ 1 0 (σ.1 0 0 6).toNatClampNeg x1)) (P := [vp_in (σ.1 0 0 6) 88]) rfl ⟨g1, trivial⟩ ?_
  by_cases g2 : ((12 : Int32) + (σ.1 0 0 6)) < 0 ∨ 88 ≤ ((12 : Int32) + (σ.1 0 0 6)).toNatClampNeg
  · rw [if_pos g2] at hm; cases hm
  rw [if_neg g2] at hm
  refine XW.bk B [(22, .iastore), (23, .aload_n 0), (24, .getfield 11), (27, .bipush 24), (29, .aload_n 0), (30, .getfield 81), (33, .iadd), (34, .bipush 10)] (by decide +kernel) (pc1 := 36) (ls1 := [some (aR 0 0), some (aI x1), some (aI x2), some (aI x3)]) (st1 := [aI (10 : Int32), aI ((24 : Int32) + (σ.1 0 0 6)), aR 1 0]) (σ1 := (sA (sA σ 1 0 (σ.1 0 0 6).toNatClampNeg x1) 1 0 ((12 : Int32) + (σ.1 0 0 6)).toNatClampNeg (0 : Int32))) (P := [vp_in ((12 : Int32) + (σ.1 0 0 6)) 88]) rfl ⟨g2, trivial⟩ ?_
  by_cases g3 : ((24 : Int32) + (σ.1 0 0 6)) < 0 ∨ 88 ≤ ((24 : Int32) + (σ.1 0 0 6)).toNatClampNeg
  · rw [if_pos g3] at hm; cases hm
  rw [if_neg g3] at hm
  refine XW.bk B [(36, .iastore), (37, .aload_n 0), (38, .getfield 11), (41, .bipush 36), (43, .aload_n 0), (44, .getfield 81), (47, .iadd), (48, .iconst 2)] (by decide +kernel) (pc1 := 49) (ls1 := [some (aR 0 0), some (aI x1), some (aI x2), some (aI x3)]) (st1 := [aI (2 : Int32), aI ((36 : Int32) + (σ.1 0 0 6)), aR 1 0]) (σ1 := (sA (sA (sA σ 1 0 (σ.1 0 0 6).toNatClampNeg x1) 1 0 ((12 : Int32) + (σ.1 0 0 6)).toNatClampNeg (0 : Int32)) 1 0 ((24 : Int32) + (σ.1 0 0 6)).toNatClampNeg (10 : Int32))) (P := [vp_in ((24 : Int32) + (σ.1 0 0 6)) 88]) rfl ⟨g3, trivial⟩ ?_
  by_cases g4 : ((36 : Int32) + (σ.1 0 0 6)) < 0 ∨ 88 ≤ ((36 : Int32) + (σ.1 0 0 6)).toNatClampNeg
  · rw [if_pos g4] at hm; cases hm
  rw [if_neg g4] at hm
  refine XW.bk B [(49, .iastore), (50, .aload_n 0), (51, .getfield 11), (54, .bipush 48), (56, .aload_n 0), (57, .getfield 81), (60, .iadd), (61, .iload_n 2)] (by decide +kernel) (pc1 := 62) (ls1 := [some (aR 0 0), some (aI x1), some (aI x2), some (aI x3)]) (st1 := [aI x2, aI ((48 : Int32) + (σ.1 0 0 6)), aR 1 0]) (σ1 := (sA (sA (sA (sA σ 1 0 (σ.1 0 0 6).toNatClampNeg x1) 1 0 ((12 : Int32) + (σ.1 0 0 6)).toNatClampNeg (0 : Int32)) 1 0 ((24 : Int32) + (σ.1 0 0 6)).toNatClampNeg (10 : Int32)) 1 0 ((36 : Int32) + (σ.1 0 0 6)).toNatClampNeg (2 : Int32))) (P := [vp_in ((36 : Int32) + (σ.1 0 0 6)) 88]) rfl ⟨g4, trivial⟩ ?_
  by_cases g5 : ((48 : Int32) + (σ.1 0 0 6)) < 0 ∨ 88 ≤ ((48 : Int32) + (σ.1 0 0 6)).toNatClampNeg
  · rw [if_pos g5] at hm; cases hm
  rw [if_neg g5] at hm
  refine XW.bk B [(62, .iastore), (63, .aload_n 0), (64, .getfield 11), (67, .bipush 60), (69, .aload_n 0), (70, .getfield 81), (73, .iadd), (74, .iload_n 3)] (by decide +kernel) (pc1 := 75) (ls1 := [some (aR 0 0), some (aI x1), some (aI x2), some (aI x3)]) (st1 := [aI x3, aI ((60 : Int32) + (σ.1 0 0 6)), aR 1 0]) (σ1 := (sA (sA (sA (sA (sA σ 1 0 (σ.1 0 0 6).toNatClampNeg x1) 1 0 ((12 : Int32) + (σ.1 0 0 6)).toNatClampNeg (0 : Int32)) 1 0 ((24 : Int32) + (σ.1 0 0 6)).toNatClampNeg (10 : Int32)) 1 0 ((36 : Int32) + (σ.1 0 0 6)).toNatClampNeg (2 : Int32)) 1 0 ((48 : Int32) + (σ.1 0 0 6)).toNatClampNeg x2)) (P := [vp_in ((48 : Int32) + (σ.1 0 0 6)) 88]) rfl ⟨g5, trivial⟩ ?_
  by_cases g6 : ((60 : Int32) + (σ.1 0 0 6)) < 0 ∨ 88 ≤ ((60 : Int32) + (σ.1 0 0 6)).toNatClampNeg
  · rw [if_pos g6] at hm; cases hm
  rw [if_neg g6] at hm
  refine XW.bk B [(75, .iastore), (76, .aload_n 0), (77, .getfield 11), (80, .bipush 72), (82, .aload_n 0), (83, .getfield 81), (86, .iadd), (87, .iconst 3)] (by decide +kernel) (pc1 := 88) (ls1 := [some (aR 0 0), some (aI x1), some (aI x2), some (aI x3)]) (st1 := [aI (3 : Int32), aI ((72 : Int32) + (σ.1 0 0 6)), aR 1 0]) (σ1 := (sA (sA (sA (sA (sA (sA σ 1 0 (σ.1 0 0 6).toNatClampNeg x1) 1 0 ((12 : Int32) + (σ.1 0 0 6)).toNatClampNeg (0 : Int32)) 1 0 ((24 : Int32) + (σ.1 0 0 6)).toNatClampNeg (10 : Int32)) 1 0 ((36 : Int32) + (σ.1 0 0 6)).toNatClampNeg (2 : Int32)) 1 0 ((48 : Int32) + (σ.1 0 0 6)).toNatClampNeg x2) 1 0 ((60 : Int32) + (σ.1 0 0 6)).toNatClampNeg x3)) (P := [vp_in ((60 : Int32) + (σ.1 0 0 6)) 88]) rfl ⟨g6, trivial⟩ ?_
  by_cases g7 : ((72 : Int32) + (σ.1 0 0 6)) < 0 ∨ 88 ≤ ((72 : Int32) + (σ.1 0 0 6)).toNatClampNeg
  · rw [if_pos g7] at hm; cases hm
  rw [if_neg g7] at hm
  refine XW.bk B [(88, .iastore), (89, .aload_n 0), (90, .dup), (91, .getfield 81), (94, .iconst 1), (95, .iadd), (96, .putfield 81)] (by decide +kernel) (pc1 := 99) (ls1 := [some (aR 0 0), some (aI x1), some (aI x2), some (aI x3)]) (st1 := []) (σ1 := (sI (sA (sA (sA (sA (sA (sA (sA σ 1 0 (σ.1 0 0 6).toNatClampNeg x1) 1 0 ((12 : Int32) + (σ.1 0 0 6)).toNatClampNeg (0 : Int32)) 1 0 ((24 : Int32) + (σ.1 0 0 6)).toNatClampNeg (10 : Int32)) 1 0 ((36 : Int32) + (σ.1 0 0 6)).toNatClampNeg (2 : Int32)) 1 0 ((48 : Int32) + (σ.1 0 0 6)).toNatClampNeg x2) 1 0 ((60 : Int32) + (σ.1 0 0 6)).toNatClampNeg x3) 1 0 ((72 : Int32) + (σ.1 0 0 6)).toNatClampNeg (3 : Int32)) 0 0 6 ((σ.1 0 0 6) + (1 : Int32)))) (P := [vp_in ((72 : Int32) + (σ.1 0 0 6)) 88]) rfl ⟨g7, trivial⟩ ?_
  obtain rfl := Option.some.inj hm
  exact XW.vret B q (by decide +kernel)

def m_X11_isOne (x1 : Int64) (x2 : Int64) (x3 : Int64) : Int32 :=
  if (m_X11_within x1 (0 : Int64) (30 : Int64)) = (0 : Int32) then
    (0 : Int32)
  else
  if (m_X11_within x2 (0 : Int64) (9 : Int64)) = (0 : Int32) then
    (0 : Int32)
  else
  if (m_X11_within x3 (0 : Int64) (12 : Int64)) = (0 : Int32) then
    (0 : Int32)
  else
  (1 : Int32)
set_option maxRecDepth 100000 in
set_option maxHeartbeats 4000000 in
theorem c_X11_isOne (x1 : Int64) (x2 : Int64) (x3 : Int64) (σ : SS) {r : Int32} (hm : m_X11_isOne x1 x2 x3 = r) : XM LM 2 M_X11_isOne [aJ x1, aJ x2, aJ x3] σ (some (aI r)) σ := by
  refine XM.of (K := K11) (by decide) (by decide +kernel) K11_ok (Nat.le_of_ble_eq_true rfl) (fun Γ B q => ?_)
  unfold m_X11_isOne at hm
  refine XW.bk B [(0, .lload_n 0), (1, .lconst 0), (2, .ldc2_w 92)] (by decide +kernel) (pc1 := 5) (ls1 := [some (aJ x1), none, some (aJ x2), none, some (aJ x3), none]) (st1 := [aJ (30 : Int64), aJ (0 : Int64), aJ x1]) (σ1 := σ) (P := []) rfl trivial ?_
  refine XW.callS B (M := M_X11_within) (as := [aJ x1, aJ (0 : Int64), aJ (30 : Int64)]) (c_X11_within x1 (0 : Int64) (30 : Int64) σ rfl) (by decide) wS_X11_within wN_X11_within lk_X11_84 rfl (Nat.le_of_ble_eq_true rfl) (by decide +kernel) ?_
  refine XW.bb B [] (by decide +kernel) (pc1 := 8) (ls1 := [some (aJ x1), none, some (aJ x2), none, some (aJ x3), none]) (st1 := [aI (m_X11_within x1 (0 : Int64) (30 : Int64))]) (σ1 := σ) (P := []) (i := .ifCond .eq 30) (tgt := 38) (q := (m_X11_within x1 (0 : Int64) (30 : Int64)) = (0 : Int32)) rfl trivial (by decide +kernel) rfl (by decide) (fun h1 => ?_) (fun h1 => ?_)
  · rw [if_pos h1] at hm
    refine XW.bk B [(38, .iconst 0)] (by decide +kernel) (pc1 := 39) (ls1 := [some (aJ x1), none, some (aJ x2), none, some (aJ x3), none]) (st1 := [aI (0 : Int32)]) (σ1 := σ) (P := []) rfl trivial ?_
    subst hm
    exact XW.zret B q (Or.inl rfl) (by decide +kernel)
  · rw [if_neg h1] at hm
    refine XW.bk B [(11, .lload_n 2), (12, .lconst 0), (13, .ldc2_w 94)] (by decide +kernel) (pc1 := 16) (ls1 := [some (aJ x1), none, some (aJ x2), none, some (aJ x3), none]) (st1 := [aJ (9 : Int64), aJ (0 : Int64), aJ x2]) (σ1 := σ) (P := []) rfl trivial ?_
    refine XW.callS B (M := M_X11_within) (as := [aJ x2, aJ (0 : Int64), aJ (9 : Int64)]) (c_X11_within x2 (0 : Int64) (9 : Int64) σ rfl) (by decide) wS_X11_within wN_X11_within lk_X11_84 rfl (Nat.le_of_ble_eq_true rfl) (by decide +kernel) ?_
    refine XW.bb B [] (by decide +kernel) (pc1 := 19) (ls1 := [some (aJ x1), none, some (aJ x2), none, some (aJ x3), none]) (st1 := [aI (m_X11_within x2 (0 : Int64) (9 : Int64))]) (σ1 := σ) (P := []) (i := .ifCond .eq 19) (tgt := 38) (q := (m_X11_within x2 (0 : Int64) (9 : Int64)) = (0 : Int32)) rfl trivial (by decide +kernel) rfl (by decide) (fun h2 => ?_) (fun h2 => ?_)
    · rw [if_pos h2] at hm
      refine XW.bk B [(38, .iconst 0)] (by decide +kernel) (pc1 := 39) (ls1 := [some (aJ x1), none, some (aJ x2), none, some (aJ x3), none]) (st1 := [aI (0 : Int32)]) (σ1 := σ) (P := []) rfl trivial ?_
      subst hm
      exact XW.zret B q (Or.inl rfl) (by decide +kernel)
    · rw [if_neg h2] at hm
      refine XW.bk B [(22, .lload 4), (24, .lconst 0), (25, .ldc2_w 96)] (by decide +kernel) (pc1 := 28) (ls1 := [some (aJ x1), none, some (aJ x2), none, some (aJ x3), none]) (st1 := [aJ (12 : Int64), aJ (0 : Int64), aJ x3]) (σ1 := σ) (P := []) rfl trivial ?_
      refine XW.callS B (M := M_X11_within) (as := [aJ x3, aJ (0 : Int64), aJ (12 : Int64)]) (c_X11_within x3 (0 : Int64) (12 : Int64) σ rfl) (by decide) wS_X11_within wN_X11_within lk_X11_84 rfl (Nat.le_of_ble_eq_true rfl) (by decide +kernel) ?_
      refine XW.bb B [] (by decide +kernel) (pc1 := 31) (ls1 := [some (aJ x1), none, some (aJ x2), none, some (aJ x3), none]) (st1 := [aI (m_X11_within x3 (0 : Int64) (12 : Int64))]) (σ1 := σ) (P := []) (i := .ifCond .eq 7) (tgt := 38) (q := (m_X11_within x3 (0 : Int64) (12 : Int64)) = (0 : Int32)) rfl trivial (by decide +kernel) rfl (by decide) (fun h3 => ?_) (fun h3 => ?_)
      · rw [if_pos h3] at hm
        refine XW.bk B [(38, .iconst 0)] (by decide +kernel) (pc1 := 39) (ls1 := [some (aJ x1), none, some (aJ x2), none, some (aJ x3), none]) (st1 := [aI (0 : Int32)]) (σ1 := σ) (P := []) rfl trivial ?_
        subst hm
        exact XW.zret B q (Or.inl rfl) (by decide +kernel)
      · rw [if_neg h3] at hm
        refine XW.bk B [(34, .iconst 1), (35, .goto 4)] (by decide +kernel) (pc1 := 39) (ls1 := [some (aJ x1), none, some (aJ x2), none, some (aJ x3), none]) (st1 := [aI (1 : Int32)]) (σ1 := σ) (P := []) rfl trivial ?_
        subst hm
        exact XW.zret B q (Or.inr rfl) (by decide +kernel)
theorem b_X11_isOne (x1 : Int64) (x2 : Int64) (x3 : Int64) : m_X11_isOne x1 x2 x3 = 0 ∨ m_X11_isOne x1 x2 x3 = 1 := by
  unfold m_X11_isOne
  (repeat' split) <;> first | (with_reducible exact Or.inl rfl) | (with_reducible exact Or.inr rfl) | (with_reducible exact (b_X11_within x1 (0 : Int64) (30 : Int64))) | (with_reducible exact (b_X11_within x2 (0 : Int64) (9 : Int64))) | (with_reducible exact (b_X11_within x3 (0 : Int64) (12 : Int64)))

def m_X11_place (x1 : Int32) (x2 : Int32) (σ : SS) : Option (Int32 × SS) :=
  if (m_X11_isOne x1.toInt64 (0 : Int64) x2.toInt64) = (0 : Int32) then
    some ((-1 : Int32), σ)
  else
  if (σ.1 0 0 6) = (12 : Int32) then
    some ((-3 : Int32), σ)
  else
  Option.bind (m_X11_adds x1 (0 : Int32) x2 σ) (fun q3 =>
  some (((q3.1 0 0 6) - (1 : Int32)), q3))
set_option maxRecDepth 100000 in
set_option maxHeartbeats 4000000 in
theorem c_X11_place (x1 : Int32) (x2 : Int32) (σ : SS) {r : Int32} {σ' : SS} (hm : m_X11_place x1 x2 σ = some (r, σ')) : XM LM 3 M_X11_place [aR 0 0, aI x1, aI x2] σ (some (aI r)) σ' := by
  refine XM.of (K := K11) (by decide) (by decide +kernel) K11_ok (Nat.le_of_ble_eq_true rfl) (fun Γ B q => ?_)
  unfold m_X11_place at hm
  refine XW.bk B [(0, .iload_n 1), (1, .i2l), (2, .lconst 0), (3, .iload_n 2), (4, .i2l)] (by decide +kernel) (pc1 := 5) (ls1 := [some (aR 0 0), some (aI x1), some (aI x2)]) (st1 := [aJ x2.toInt64, aJ (0 : Int64), aJ x1.toInt64]) (σ1 := σ) (P := []) rfl trivial ?_
  refine XW.callS B (M := M_X11_isOne) (as := [aJ x1.toInt64, aJ (0 : Int64), aJ x2.toInt64]) (c_X11_isOne x1.toInt64 (0 : Int64) x2.toInt64 σ rfl) (by decide) wS_X11_isOne wN_X11_isOne lk_X11_98 rfl (Nat.le_of_ble_eq_true rfl) (by decide +kernel) ?_
  refine XW.bn B [] (by decide +kernel) (pc1 := 8) (ls1 := [some (aR 0 0), some (aI x1), some (aI x2)]) (st1 := [aI (m_X11_isOne x1.toInt64 (0 : Int64) x2.toInt64)]) (σ1 := σ) (P := []) (i := .ifCond .ne 5) (tgt := 13) (q := (m_X11_isOne x1.toInt64 (0 : Int64) x2.toInt64) = (0 : Int32)) rfl trivial (by decide +kernel) rfl (by decide) (fun h1 => ?_) (fun h1 => ?_)
  · rw [if_pos h1] at hm
    refine XW.bk B [(11, .iconst (-1))] (by decide +kernel) (pc1 := 12) (ls1 := [some (aR 0 0), some (aI x1), some (aI x2)]) (st1 := [aI (-1 : Int32)]) (σ1 := σ) (P := []) rfl trivial ?_
    obtain ⟨rfl, rfl⟩ := Prod.mk.inj (Option.some.inj hm)
    exact XW.iret B q (by decide +kernel)
  · rw [if_neg h1] at hm
    refine XW.bn B [(13, .aload_n 0), (14, .getfield 81), (17, .bipush 12)] (by decide +kernel) (pc1 := 19) (ls1 := [some (aR 0 0), some (aI x1), some (aI x2)]) (st1 := [aI (12 : Int32), aI (σ.1 0 0 6)]) (σ1 := σ) (P := []) (i := .if_icmp .ne 6) (tgt := 25) (q := (σ.1 0 0 6) = (12 : Int32)) rfl trivial (by decide +kernel) rfl (by decide) (fun h2 => ?_) (fun h2 => ?_)
    · rw [if_pos h2] at hm
      refine XW.bk B [(22, .bipush (-3))] (by decide +kernel) (pc1 := 24) (ls1 := [some (aR 0 0), some (aI x1), some (aI x2)]) (st1 := [aI (-3 : Int32)]) (σ1 := σ) (P := []) rfl trivial ?_
      obtain ⟨rfl, rfl⟩ := Prod.mk.inj (Option.some.inj hm)
      exact XW.iret B q (by decide +kernel)
    · rw [if_neg h2] at hm
      refine XW.bk B [(25, .aload_n 0), (26, .iload_n 1), (27, .iconst 0), (28, .iload_n 2)] (by decide +kernel) (pc1 := 29) (ls1 := [some (aR 0 0), some (aI x1), some (aI x2)]) (st1 := [aI x2, aI (0 : Int32), aI x1, aR 0 0]) (σ1 := σ) (P := []) rfl trivial ?_
      obtain ⟨q3, hq3, hm⟩ := obind_eq hm
      refine XW.callV B (M := M_X11_adds) (t := 0) (j := 0) (cn := 1) (as := [aI x1, aI (0 : Int32), aI x2]) (c_X11_adds x1 (0 : Int32) x2 σ hq3) (by decide) wV_X11_adds wN_X11_adds lk_X11_101 rfl rfl rfl (by decide) rfl (Nat.le_of_ble_eq_true rfl) (by decide +kernel) ?_
      refine XW.bk B [(32, .aload_n 0), (33, .getfield 81), (36, .iconst 1), (37, .isub)] (by decide +kernel) (pc1 := 38) (ls1 := [some (aR 0 0), some (aI x1), some (aI x2)]) (st1 := [aI ((q3.1 0 0 6) - (1 : Int32))]) (σ1 := q3) (P := []) rfl trivial ?_
      obtain ⟨rfl, rfl⟩ := Prod.mk.inj (Option.some.inj hm)
      exact XW.iret B q (by decide +kernel)

def m_X11_isShelf (x1 : Int32) : Int32 :=
  (m_X11_within x1.toInt64 (0 : Int64) (5 : Int64))
set_option maxRecDepth 100000 in
set_option maxHeartbeats 4000000 in
theorem c_X11_isShelf (x1 : Int32) (σ : SS) {r : Int32} (hm : m_X11_isShelf x1 = r) : XM LM 2 M_X11_isShelf [aI x1] σ (some (aI r)) σ := by
  refine XM.of (K := K11) (by decide) (by decide +kernel) K11_ok (Nat.le_of_ble_eq_true rfl) (fun Γ B q => ?_)
  unfold m_X11_isShelf at hm
  refine XW.bk B [(0, .iload_n 0), (1, .i2l), (2, .lconst 0), (3, .ldc2_w 341)] (by decide +kernel) (pc1 := 6) (ls1 := [some (aI x1)]) (st1 := [aJ (5 : Int64), aJ (0 : Int64), aJ x1.toInt64]) (σ1 := σ) (P := []) rfl trivial ?_
  refine XW.callS B (M := M_X11_within) (as := [aJ x1.toInt64, aJ (0 : Int64), aJ (5 : Int64)]) (c_X11_within x1.toInt64 (0 : Int64) (5 : Int64) σ rfl) (by decide) wS_X11_within wN_X11_within lk_X11_84 rfl (Nat.le_of_ble_eq_true rfl) (by decide +kernel) ?_
  subst hm
  exact XW.zret B q (b_X11_within x1.toInt64 (0 : Int64) (5 : Int64)) (by decide +kernel)
theorem b_X11_isShelf (x1 : Int32) : m_X11_isShelf x1 = 0 ∨ m_X11_isShelf x1 = 1 := by
  unfold m_X11_isShelf
  (repeat' split) <;> first | (with_reducible exact Or.inl rfl) | (with_reducible exact Or.inr rfl) | (with_reducible exact (b_X11_within x1.toInt64 (0 : Int64) (5 : Int64)))

def L_X11_places_69 : Nat → Int32 → Int32 → Int32 → Int32 → Int32 → SS → Option (Int32 × SS)
  | 0, _, _, _, _, _, _ => none
  | n + 1, v1, v2, v3, v4, v5, σ =>
    if v5 = (0 : Int32) then
      some (v4, σ)
    else
    if v3 ≤ v4 then
      some (v4, σ)
    else
    if v1 < 0 ∨ 6 ≤ v1.toNatClampNeg then none else
    if (((σ.2.1 15 0 v1.toNatClampNeg) - (3 : Int32)) - ((3 : Int32) * v4)) < v2 then
      L_X11_places_69 n v1 v2 v3 v4 (0 : Int32) σ
    else
    if (12 : Int32) ≤ (σ.1 0 0 6) then
      L_X11_places_69 n v1 v2 v3 v4 (0 : Int32) σ
    else
    if ((((60 : Int32) * v1) + v2) + ((3 : Int32) * v4)) < 0 ∨ 360 ≤ ((((60 : Int32) * v1) + v2) + ((3 : Int32) * v4)).toNatClampNeg then none else
    if (((((60 : Int32) * v1) + v2) + ((3 : Int32) * v4)) + (1 : Int32)) < 0 ∨ 360 ≤ (((((60 : Int32) * v1) + v2) + ((3 : Int32) * v4)) + (1 : Int32)).toNatClampNeg then none else
    if (((((60 : Int32) * v1) + v2) + ((3 : Int32) * v4)) + (2 : Int32)) < 0 ∨ 360 ≤ (((((60 : Int32) * v1) + v2) + ((3 : Int32) * v4)) + (2 : Int32)).toNatClampNeg then none else
    if (m_X11_isOne (σ.2.2 16 0 ((((60 : Int32) * v1) + v2) + ((3 : Int32) * v4)).toNatClampNeg) (σ.2.2 16 0 (((((60 : Int32) * v1) + v2) + ((3 : Int32) * v4)) + (1 : Int32)).toNatClampNeg) (σ.2.2 16 0 (((((60 : Int32) * v1) + v2) + ((3 : Int32) * v4)) + (2 : Int32)).toNatClampNeg)) = (0 : Int32) then
      L_X11_places_69 n v1 v2 v3 v4 (0 : Int32) σ
    else
    Option.bind (m_X11_adds ((σ.2.2 16 0 ((((60 : Int32) * v1) + v2) + ((3 : Int32) * v4)).toNatClampNeg).toInt32) ((σ.2.2 16 0 (((((60 : Int32) * v1) + v2) + ((3 : Int32) * v4)) + (1 : Int32)).toNatClampNeg).toInt32) ((σ.2.2 16 0 (((((60 : Int32) * v1) + v2) + ((3 : Int32) * v4)) + (2 : Int32)).toNatClampNeg).toInt32) σ) (fun q16 =>
    L_X11_places_69 n v1 v2 v3 (v4 + (1 : Int32)) (1 : Int32) q16)
def m_X11_places (x1 : Int32) (x2 : Int32) (x3 : Int32) (σ : SS) : Option (Int32 × SS) :=
  if (m_X11_isShelf x1) = (0 : Int32) then
    some ((-1 : Int32), σ)
  else
  if (m_X11_within x3.toInt64 (1 : Int64) (12 : Int64)) = (0 : Int32) then
    some ((-1 : Int32), σ)
  else
  if x1 < 0 ∨ 6 ≤ x1.toNatClampNeg then none else
  if (σ.2.1 14 0 x1.toNatClampNeg) < (0 : Int32) then
    if (σ.2.1 14 0 x1.toNatClampNeg) = (50 : Int32) then
      if x2 < (0 : Int32) then
        L_X11_places_69 FU x1 x2 x3 (0 : Int32) (0 : Int32) σ
      else
      L_X11_places_69 FU x1 x2 x3 (0 : Int32) (1 : Int32) σ
    else
    L_X11_places_69 FU x1 x2 x3 (0 : Int32) (0 : Int32) σ
  else
  if (σ.2.1 14 0 x1.toNatClampNeg) = (50 : Int32) then
    if x2 < (0 : Int32) then
      L_X11_places_69 FU x1 x2 x3 (0 : Int32) (0 : Int32) σ
    else
    L_X11_places_69 FU x1 x2 x3 (0 : Int32) (1 : Int32) σ
  else
  some ((-12 : Int32), σ)
set_option maxRecDepth 100000 in
set_option maxHeartbeats 4000000 in
theorem lp_X11_places_69 {Γ : XC} {r : Int32} {σ' : SS} (B : XB Γ cX11_places RX11 3 K11 LM 7) (q : XQ Γ (some .int) (some (aI r)) σ') : ∀ (n : Nat) (v1 : Int32) (v2 : Int32) (v3 : Int32) (v4 : Int32) (v5 : Int32) (σ : SS), L_X11_places_69 n v1 v2 v3 v4 v5 σ = some (r, σ') → XW Γ 69 [some (aR 0 0), some (aI v1), some (aI v2), some (aI v3), some (aI v4), some (aI v5), none] [] σ := by
  intro n
  induction n with
  | zero => intro v1 v2 v3 v4 v5 σ hm; cases hm
  | succ n ih =>
    intro v1 v2 v3 v4 v5 σ hm
    rw [L_X11_places_69] at hm
    refine XW.bb B [(69, .iload 5)] (by decide +kernel) (pc1 := 71) (ls1 := [some (aR 0 0), some (aI v1), some (aI v2), some (aI v3), some (aI v4), some (aI v5), none]) (st1 := [aI v5]) (σ1 := σ) (P := []) (i := .ifCond .eq 141) (tgt := 212) (q := v5 = (0 : Int32)) rfl trivial (by decide +kernel) rfl (by decide) (fun h7 => ?_) (fun h7 => ?_)
    · rw [if_pos h7] at hm
      refine XW.bk B [(212, .iload 4)] (by decide +kernel) (pc1 := 214) (ls1 := [some (aR 0 0), some (aI v1), some (aI v2), some (aI v3), some (aI v4), some (aI v5), none]) (st1 := [aI v4]) (σ1 := σ) (P := []) rfl trivial ?_
      obtain ⟨rfl, rfl⟩ := Prod.mk.inj (Option.some.inj hm)
      exact XW.iret B q (by decide +kernel)
    · rw [if_neg h7] at hm
      refine XW.bb B [(74, .iload 4), (76, .iload_n 3)] (by decide +kernel) (pc1 := 77) (ls1 := [some (aR 0 0), some (aI v1), some (aI v2), some (aI v3), some (aI v4), some (aI v5), none]) (st1 := [aI v3, aI v4]) (σ1 := σ) (P := []) (i := .if_icmp .ge 135) (tgt := 212) (q := v3 ≤ v4) rfl trivial (by decide +kernel) rfl (by decide) (fun h8 => ?_) (fun h8 => ?_)
      · rw [if_pos h8] at hm
        refine XW.bk B [(212, .iload 4)] (by decide +kernel) (pc1 := 214) (ls1 := [some (aR 0 0), some (aI v1), some (aI v2), some (aI v3), some (aI v4), some (aI v5), none]) (st1 := [aI v4]) (σ1 := σ) (P := []) rfl trivial ?_
        obtain ⟨rfl, rfl⟩ := Prod.mk.inj (Option.some.inj hm)
        exact XW.iret B q (by decide +kernel)
      · rw [if_neg h8] at hm
        refine XW.bk B [(80, .iload_n 2), (81, .aload_n 0), (82, .getfield 54), (85, .iload_n 1)] (by decide +kernel) (pc1 := 86) (ls1 := [some (aR 0 0), some (aI v1), some (aI v2), some (aI v3), some (aI v4), some (aI v5), none]) (st1 := [aI v1, aR 15 0, aI v2]) (σ1 := σ) (P := []) rfl trivial ?_
        by_cases g9 : v1 < 0 ∨ 6 ≤ v1.toNatClampNeg
        · rw [if_pos g9] at hm; cases hm
        rw [if_neg g9] at hm
        refine XW.bb B [(86, .iaload), (87, .iconst 3), (88, .isub), (89, .iconst 3), (90, .iload 4), (92, .imul), (93, .isub)] (by decide +kernel) (pc1 := 94) (ls1 := [some (aR 0 0), some (aI v1), some (aI v2), some (aI v3), some (aI v4), some (aI v5), none]) (st1 := [aI (((σ.2.1 15 0 v1.toNatClampNeg) - (3 : Int32)) - ((3 : Int32) * v4)), aI v2]) (σ1 := σ) (P := [vp_in v1 6]) (i := .if_icmp .gt 16) (tgt := 110) (q := (((σ.2.1 15 0 v1.toNatClampNeg) - (3 : Int32)) - ((3 : Int32) * v4)) < v2) rfl ⟨g9, trivial⟩ (by decide +kernel) rfl (by decide) (fun h10 => ?_) (fun h10 => ?_)
        · rw [if_pos h10] at hm
          refine XW.bb B [(110, .iconst 0), (111, .istore 5), (113, .bipush 60), (115, .iload_n 1), (116, .imul), (117, .iload_n 2), (118, .iadd), (119, .iconst 3), (120, .iload 4), (122, .imul), (123, .iadd), (124, .istore 6), (126, .iload 5)] (by decide +kernel) (pc1 := 128) (ls1 := [some (aR 0 0), some (aI v1), some (aI v2), some (aI v3), some (aI v4), some (aI (0 : Int32)), some (aI ((((60 : Int32) * v1) + v2) + ((3 : Int32) * v4)))]) (st1 := [aI (0 : Int32)]) (σ1 := σ) (P := []) (i := .ifCond .eq 38) (tgt := 166) (q := (0 : Int32) = (0 : Int32)) rfl trivial (by decide +kernel) rfl (by decide) (fun _ => ?_) (fun h => absurd (by decide) h)
          refine XW.bb B [(166, .iconst 0), (167, .istore 5), (169, .iload 5)] (by decide +kernel) (pc1 := 171) (ls1 := [some (aR 0 0), some (aI v1), some (aI v2), some (aI v3), some (aI v4), some (aI (0 : Int32)), some (aI ((((60 : Int32) * v1) + v2) + ((3 : Int32) * v4)))]) (st1 := [aI (0 : Int32)]) (σ1 := σ) (P := []) (i := .ifCond .eq 38) (tgt := 209) (q := (0 : Int32) = (0 : Int32)) rfl trivial (by decide +kernel) rfl (by decide) (fun _ => ?_) (fun h => absurd (by decide) h)
          refine XW.bk B [(209, .goto (-140))] (by decide +kernel) (pc1 := 69) (ls1 := [some (aR 0 0), some (aI v1), some (aI v2), some (aI v3), some (aI v4), some (aI (0 : Int32)), some (aI ((((60 : Int32) * v1) + v2) + ((3 : Int32) * v4)))]) (st1 := []) (σ1 := σ) (P := []) rfl trivial ?_
          refine XW.loc [true, true, true, true, true, true, false] rfl ?_
          exact ih v1 v2 v3 v4 (0 : Int32) σ hm
        · rw [if_neg h10] at hm
          refine XW.bb B [(97, .aload_n 0), (98, .getfield 81), (101, .bipush 12)] (by decide +kernel) (pc1 := 103) (ls1 := [some (aR 0 0), some (aI v1), some (aI v2), some (aI v3), some (aI v4), some (aI v5), none]) (st1 := [aI (12 : Int32), aI (σ.1 0 0 6)]) (σ1 := σ) (P := []) (i := .if_icmp .ge 7) (tgt := 110) (q := (12 : Int32) ≤ (σ.1 0 0 6)) rfl trivial (by decide +kernel) rfl (by decide) (fun h11 => ?_) (fun h11 => ?_)
          · rw [if_pos h11] at hm
            refine XW.bb B [(110, .iconst 0), (111, .istore 5), (113, .bipush 60), (115, .iload_n 1), (116, .imul), (117, .iload_n 2), (118, .iadd), (119, .iconst 3), (120, .iload 4), (122, .imul), (123, .iadd), (124, .istore 6), (126, .iload 5)] (by decide +kernel) (pc1 := 128) (ls1 := [some (aR 0 0), some (aI v1), some (aI v2), some (aI v3), some (aI v4), some (aI (0 : Int32)), some (aI ((((60 : Int32) * v1) + v2) + ((3 : Int32) * v4)))]) (st1 := [aI (0 : Int32)]) (σ1 := σ) (P := []) (i := .ifCond .eq 38) (tgt := 166) (q := (0 : Int32) = (0 : Int32)) rfl trivial (by decide +kernel) rfl (by decide) (fun _ => ?_) (fun h => absurd (by decide) h)
            refine XW.bb B [(166, .iconst 0), (167, .istore 5), (169, .iload 5)] (by decide +kernel) (pc1 := 171) (ls1 := [some (aR 0 0), some (aI v1), some (aI v2), some (aI v3), some (aI v4), some (aI (0 : Int32)), some (aI ((((60 : Int32) * v1) + v2) + ((3 : Int32) * v4)))]) (st1 := [aI (0 : Int32)]) (σ1 := σ) (P := []) (i := .ifCond .eq 38) (tgt := 209) (q := (0 : Int32) = (0 : Int32)) rfl trivial (by decide +kernel) rfl (by decide) (fun _ => ?_) (fun h => absurd (by decide) h)
            refine XW.bk B [(209, .goto (-140))] (by decide +kernel) (pc1 := 69) (ls1 := [some (aR 0 0), some (aI v1), some (aI v2), some (aI v3), some (aI v4), some (aI (0 : Int32)), some (aI ((((60 : Int32) * v1) + v2) + ((3 : Int32) * v4)))]) (st1 := []) (σ1 := σ) (P := []) rfl trivial ?_
            refine XW.loc [true, true, true, true, true, true, false] rfl ?_
            exact ih v1 v2 v3 v4 (0 : Int32) σ hm
          · rw [if_neg h11] at hm
            refine XW.bb B [(106, .iconst 1), (107, .goto 4), (111, .istore 5), (113, .bipush 60), (115, .iload_n 1), (116, .imul), (117, .iload_n 2), (118, .iadd), (119, .iconst 3), (120, .iload 4), (122, .imul), (123, .iadd), (124, .istore 6), (126, .iload 5)] (by decide +kernel) (pc1 := 128) (ls1 := [some (aR 0 0), some (aI v1), some (aI v2), some (aI v3), some (aI v4), some (aI (1 : Int32)), some (aI ((((60 : Int32) * v1) + v2) + ((3 : Int32) * v4)))]) (st1 := [aI (1 : Int32)]) (σ1 := σ) (P := []) (i := .ifCond .eq 38) (tgt := 166) (q := (1 : Int32) = (0 : Int32)) rfl trivial (by decide +kernel) rfl (by decide) (fun h => absurd h (by decide)) (fun _ => ?_)
            refine XW.bk B [(131, .aload_n 0), (132, .getfield 57), (135, .iload 6)] (by decide +kernel) (pc1 := 137) (ls1 := [some (aR 0 0), some (aI v1), some (aI v2), some (aI v3), some (aI v4), some (aI (1 : Int32)), some (aI ((((60 : Int32) * v1) + v2) + ((3 : Int32) * v4)))]) (st1 := [aI ((((60 : Int32) * v1) + v2) + ((3 : Int32) * v4)), aR 16 0]) (σ1 := σ) (P := []) rfl trivial ?_
            by_cases g12 : ((((60 : Int32) * v1) + v2) + ((3 : Int32) * v4)) < 0 ∨ 360 ≤ ((((60 : Int32) * v1) + v2) + ((3 : Int32) * v4)).toNatClampNeg
            · rw [if_pos g12] at hm; cases hm
            rw [if_neg g12] at hm
            refine XW.bk B [(137, .laload), (138, .aload_n 0), (139, .getfield 57), (142, .iload 6), (144, .iconst 1), (145, .iadd)] (by decide +kernel) (pc1 := 146) (ls1 := [some (aR 0 0), some (aI v1), some (aI v2), some (aI v3), some (aI v4), some (aI (1 : Int32)), some (aI ((((60 : Int32) * v1) + v2) + ((3 : Int32) * v4)))]) (st1 := [aI (((((60 : Int32) * v1) + v2) + ((3 : Int32) * v4)) + (1 : Int32)), aR 16 0, aJ (σ.2.2 16 0 ((((60 : Int32) * v1) + v2) + ((3 : Int32) * v4)).toNatClampNeg)]) (σ1 := σ) (P := [vp_in ((((60 : Int32) * v1) + v2) + ((3 : Int32) * v4)) 360]) rfl ⟨g12, trivial⟩ ?_
            by_cases g13 : (((((60 : Int32) * v1) + v2) + ((3 : Int32) * v4)) + (1 : Int32)) < 0 ∨ 360 ≤ (((((60 : Int32) * v1) + v2) + ((3 : Int32) * v4)) + (1 : Int32)).toNatClampNeg
            · rw [if_pos g13] at hm; cases hm
            rw [if_neg g13] at hm
            refine XW.bk B [(146, .laload), (147, .aload_n 0), (148, .getfield 57), (151, .iload 6), (153, .iconst 2), (154, .iadd)] (by decide +kernel) (pc1 := 155) (ls1 := [some (aR 0 0), some (aI v1), some (aI v2), some (aI v3), some (aI v4), some (aI (1 : Int32)), some (aI ((((60 : Int32) * v1) + v2) + ((3 : Int32) * v4)))]) (st1 := [aI (((((60 : Int32) * v1) + v2) + ((3 : Int32) * v4)) + (2 : Int32)), aR 16 0, aJ (σ.2.2 16 0 (((((60 : Int32) * v1) + v2) + ((3 : Int32) * v4)) + (1 : Int32)).toNatClampNeg), aJ (σ.2.2 16 0 ((((60 : Int32) * v1) + v2) + ((3 : Int32) * v4)).toNatClampNeg)]) (σ1 := σ) (P := [vp_in (((((60 : Int32) * v1) + v2) + ((3 : Int32) * v4)) + (1 : Int32)) 360]) rfl ⟨g13, trivial⟩ ?_
            by_cases g14 : (((((60 : Int32) * v1) + v2) + ((3 : Int32) * v4)) + (2 : Int32)) < 0 ∨ 360 ≤ (((((60 : Int32) * v1) + v2) + ((3 : Int32) * v4)) + (2 : Int32)).toNatClampNeg
            · rw [if_pos g14] at hm; cases hm
            rw [if_neg g14] at hm
            refine XW.bk B [(155, .laload)] (by decide +kernel) (pc1 := 156) (ls1 := [some (aR 0 0), some (aI v1), some (aI v2), some (aI v3), some (aI v4), some (aI (1 : Int32)), some (aI ((((60 : Int32) * v1) + v2) + ((3 : Int32) * v4)))]) (st1 := [aJ (σ.2.2 16 0 (((((60 : Int32) * v1) + v2) + ((3 : Int32) * v4)) + (2 : Int32)).toNatClampNeg), aJ (σ.2.2 16 0 (((((60 : Int32) * v1) + v2) + ((3 : Int32) * v4)) + (1 : Int32)).toNatClampNeg), aJ (σ.2.2 16 0 ((((60 : Int32) * v1) + v2) + ((3 : Int32) * v4)).toNatClampNeg)]) (σ1 := σ) (P := [vp_in (((((60 : Int32) * v1) + v2) + ((3 : Int32) * v4)) + (2 : Int32)) 360]) rfl ⟨g14, trivial⟩ ?_
            refine XW.callS B (M := M_X11_isOne) (as := [aJ (σ.2.2 16 0 ((((60 : Int32) * v1) + v2) + ((3 : Int32) * v4)).toNatClampNeg), aJ (σ.2.2 16 0 (((((60 : Int32) * v1) + v2) + ((3 : Int32) * v4)) + (1 : Int32)).toNatClampNeg), aJ (σ.2.2 16 0 (((((60 : Int32) * v1) + v2) + ((3 : Int32) * v4)) + (2 : Int32)).toNatClampNeg)]) (c_X11_isOne (σ.2.2 16 0 ((((60 : Int32) * v1) + v2) + ((3 : Int32) * v4)).toNatClampNeg) (σ.2.2 16 0 (((((60 : Int32) * v1) + v2) + ((3 : Int32) * v4)) + (1 : Int32)).toNatClampNeg) (σ.2.2 16 0 (((((60 : Int32) * v1) + v2) + ((3 : Int32) * v4)) + (2 : Int32)).toNatClampNeg) σ rfl) (by decide) wS_X11_isOne wN_X11_isOne lk_X11_98 rfl (Nat.le_of_ble_eq_true rfl) (by decide +kernel) ?_
            refine XW.bb B [] (by decide +kernel) (pc1 := 159) (ls1 := [some (aR 0 0), some (aI v1), some (aI v2), some (aI v3), some (aI v4), some (aI (1 : Int32)), some (aI ((((60 : Int32) * v1) + v2) + ((3 : Int32) * v4)))]) (st1 := [aI (m_X11_isOne (σ.2.2 16 0 ((((60 : Int32) * v1) + v2) + ((3 : Int32) * v4)).toNatClampNeg) (σ.2.2 16 0 (((((60 : Int32) * v1) + v2) + ((3 : Int32) * v4)) + (1 : Int32)).toNatClampNeg) (σ.2.2 16 0 (((((60 : Int32) * v1) + v2) + ((3 : Int32) * v4)) + (2 : Int32)).toNatClampNeg))]) (σ1 := σ) (P := []) (i := .ifCond .eq 7) (tgt := 166) (q := (m_X11_isOne (σ.2.2 16 0 ((((60 : Int32) * v1) + v2) + ((3 : Int32) * v4)).toNatClampNeg) (σ.2.2 16 0 (((((60 : Int32) * v1) + v2) + ((3 : Int32) * v4)) + (1 : Int32)).toNatClampNeg) (σ.2.2 16 0 (((((60 : Int32) * v1) + v2) + ((3 : Int32) * v4)) + (2 : Int32)).toNatClampNeg)) = (0 : Int32)) rfl trivial (by decide +kernel) rfl (by decide) (fun h15 => ?_) (fun h15 => ?_)
            · rw [if_pos h15] at hm
              refine XW.bb B [(166, .iconst 0), (167, .istore 5), (169, .iload 5)] (by decide +kernel) (pc1 := 171) (ls1 := [some (aR 0 0), some (aI v1), some (aI v2), some (aI v3), some (aI v4), some (aI (0 : Int32)), some (aI ((((60 : Int32) * v1) + v2) + ((3 : Int32) * v4)))]) (st1 := [aI (0 : Int32)]) (σ1 := σ) (P := []) (i := .ifCond .eq 38) (tgt := 209) (q := (0 : Int32) = (0 : Int32)) rfl trivial (by decide +kernel) rfl (by decide) (fun _ => ?_) (fun h => absurd (by decide) h)
              refine XW.bk B [(209, .goto (-140))] (by decide +kernel) (pc1 := 69) (ls1 := [some (aR 0 0), some (aI v1), some (aI v2), some (aI v3), some (aI v4), some (aI (0 : Int32)), some (aI ((((60 : Int32) * v1) + v2) + ((3 : Int32) * v4)))]) (st1 := []) (σ1 := σ) (P := []) rfl trivial ?_
              refine XW.loc [true, true, true, true, true, true, false] rfl ?_
              exact ih v1 v2 v3 v4 (0 : Int32) σ hm
            · rw [if_neg h15] at hm
              refine XW.bb B [(162, .iconst 1), (163, .goto 4), (167, .istore 5), (169, .iload 5)] (by decide +kernel) (pc1 := 171) (ls1 := [some (aR 0 0), some (aI v1), some (aI v2), some (aI v3), some (aI v4), some (aI (1 : Int32)), some (aI ((((60 : Int32) * v1) + v2) + ((3 : Int32) * v4)))]) (st1 := [aI (1 : Int32)]) (σ1 := σ) (P := []) (i := .ifCond .eq 38) (tgt := 209) (q := (1 : Int32) = (0 : Int32)) rfl trivial (by decide +kernel) rfl (by decide) (fun h => absurd h (by decide)) (fun _ => ?_)
              refine XW.bk B [(174, .aload_n 0), (175, .aload_n 0), (176, .getfield 57), (179, .iload 6), (181, .laload), (182, .l2i), (183, .aload_n 0), (184, .getfield 57), (187, .iload 6), (189, .iconst 1), (190, .iadd), (191, .laload), (192, .l2i), (193, .aload_n 0), (194, .getfield 57), (197, .iload 6), (199, .iconst 2), (200, .iadd), (201, .laload), (202, .l2i)] (by decide +kernel) (pc1 := 203) (ls1 := [some (aR 0 0), some (aI v1), some (aI v2), some (aI v3), some (aI v4), some (aI (1 : Int32)), some (aI ((((60 : Int32) * v1) + v2) + ((3 : Int32) * v4)))]) (st1 := [aI ((σ.2.2 16 0 (((((60 : Int32) * v1) + v2) + ((3 : Int32) * v4)) + (2 : Int32)).toNatClampNeg).toInt32), aI ((σ.2.2 16 0 (((((60 : Int32) * v1) + v2) + ((3 : Int32) * v4)) + (1 : Int32)).toNatClampNeg).toInt32), aI ((σ.2.2 16 0 ((((60 : Int32) * v1) + v2) + ((3 : Int32) * v4)).toNatClampNeg).toInt32), aR 0 0]) (σ1 := σ) (P := [vp_in ((((60 : Int32) * v1) + v2) + ((3 : Int32) * v4)) 360, vp_in (((((60 : Int32) * v1) + v2) + ((3 : Int32) * v4)) + (1 : Int32)) 360, vp_in (((((60 : Int32) * v1) + v2) + ((3 : Int32) * v4)) + (2 : Int32)) 360]) rfl ⟨g12, g13, g14, trivial⟩ ?_
              obtain ⟨q16, hq16, hm⟩ := obind_eq hm
              refine XW.callV B (M := M_X11_adds) (t := 0) (j := 0) (cn := 1) (as := [aI ((σ.2.2 16 0 ((((60 : Int32) * v1) + v2) + ((3 : Int32) * v4)).toNatClampNeg).toInt32), aI ((σ.2.2 16 0 (((((60 : Int32) * v1) + v2) + ((3 : Int32) * v4)) + (1 : Int32)).toNatClampNeg).toInt32), aI ((σ.2.2 16 0 (((((60 : Int32) * v1) + v2) + ((3 : Int32) * v4)) + (2 : Int32)).toNatClampNeg).toInt32)]) (c_X11_adds ((σ.2.2 16 0 ((((60 : Int32) * v1) + v2) + ((3 : Int32) * v4)).toNatClampNeg).toInt32) ((σ.2.2 16 0 (((((60 : Int32) * v1) + v2) + ((3 : Int32) * v4)) + (1 : Int32)).toNatClampNeg).toInt32) ((σ.2.2 16 0 (((((60 : Int32) * v1) + v2) + ((3 : Int32) * v4)) + (2 : Int32)).toNatClampNeg).toInt32) σ hq16) (by decide) wV_X11_adds wN_X11_adds lk_X11_101 rfl rfl rfl (by decide) rfl (Nat.le_of_ble_eq_true rfl) (by decide +kernel) ?_
              refine XW.bk B [(206, .iinc 4 1), (209, .goto (-140))] (by decide +kernel) (pc1 := 69) (ls1 := [some (aR 0 0), some (aI v1), some (aI v2), some (aI v3), some (aI (v4 + (1 : Int32))), some (aI (1 : Int32)), some (aI ((((60 : Int32) * v1) + v2) + ((3 : Int32) * v4)))]) (st1 := []) (σ1 := q16) (P := []) rfl trivial ?_
              refine XW.loc [true, true, true, true, true, true, false] rfl ?_
              exact ih v1 v2 v3 (v4 + (1 : Int32)) (1 : Int32) q16 hm
set_option maxRecDepth 100000 in
set_option maxHeartbeats 4000000 in
theorem c_X11_places (x1 : Int32) (x2 : Int32) (x3 : Int32) (σ : SS) {r : Int32} {σ' : SS} (hm : m_X11_places x1 x2 x3 σ = some (r, σ')) : XM LM 3 M_X11_places [aR 0 0, aI x1, aI x2, aI x3] σ (some (aI r)) σ' := by
  refine XM.of (K := K11) (by decide) (by decide +kernel) K11_ok (Nat.le_of_ble_eq_true rfl) (fun Γ B q => ?_)
  unfold m_X11_places at hm
  refine XW.bk B [(0, .iload_n 1)] (by decide +kernel) (pc1 := 1) (ls1 := [some (aR 0 0), some (aI x1), some (aI x2), some (aI x3), none, none, none]) (st1 := [aI x1]) (σ1 := σ) (P := []) rfl trivial ?_
  refine XW.callS B (M := M_X11_isShelf) (as := [aI x1]) (c_X11_isShelf x1 σ rfl) (by decide) wS_X11_isShelf wN_X11_isShelf lk_X11_105 rfl (Nat.le_of_ble_eq_true rfl) (by decide +kernel) ?_
  refine XW.bb B [] (by decide +kernel) (pc1 := 4) (ls1 := [some (aR 0 0), some (aI x1), some (aI x2), some (aI x3), none, none, none]) (st1 := [aI (m_X11_isShelf x1)]) (σ1 := σ) (P := []) (i := .ifCond .eq 15) (tgt := 19) (q := (m_X11_isShelf x1) = (0 : Int32)) rfl trivial (by decide +kernel) rfl (by decide) (fun h1 => ?_) (fun h1 => ?_)
  · rw [if_pos h1] at hm
    refine XW.bk B [(19, .iconst (-1))] (by decide +kernel) (pc1 := 20) (ls1 := [some (aR 0 0), some (aI x1), some (aI x2), some (aI x3), none, none, none]) (st1 := [aI (-1 : Int32)]) (σ1 := σ) (P := []) rfl trivial ?_
    obtain ⟨rfl, rfl⟩ := Prod.mk.inj (Option.some.inj hm)
    exact XW.iret B q (by decide +kernel)
  · rw [if_neg h1] at hm
    refine XW.bk B [(7, .iload_n 3), (8, .i2l), (9, .lconst 1), (10, .ldc2_w 96)] (by decide +kernel) (pc1 := 13) (ls1 := [some (aR 0 0), some (aI x1), some (aI x2), some (aI x3), none, none, none]) (st1 := [aJ (12 : Int64), aJ (1 : Int64), aJ x3.toInt64]) (σ1 := σ) (P := []) rfl trivial ?_
    refine XW.callS B (M := M_X11_within) (as := [aJ x3.toInt64, aJ (1 : Int64), aJ (12 : Int64)]) (c_X11_within x3.toInt64 (1 : Int64) (12 : Int64) σ rfl) (by decide) wS_X11_within wN_X11_within lk_X11_84 rfl (Nat.le_of_ble_eq_true rfl) (by decide +kernel) ?_
    refine XW.bn B [] (by decide +kernel) (pc1 := 16) (ls1 := [some (aR 0 0), some (aI x1), some (aI x2), some (aI x3), none, none, none]) (st1 := [aI (m_X11_within x3.toInt64 (1 : Int64) (12 : Int64))]) (σ1 := σ) (P := []) (i := .ifCond .ne 5) (tgt := 21) (q := (m_X11_within x3.toInt64 (1 : Int64) (12 : Int64)) = (0 : Int32)) rfl trivial (by decide +kernel) rfl (by decide) (fun h2 => ?_) (fun h2 => ?_)
    · rw [if_pos h2] at hm
      refine XW.bk B [(19, .iconst (-1))] (by decide +kernel) (pc1 := 20) (ls1 := [some (aR 0 0), some (aI x1), some (aI x2), some (aI x3), none, none, none]) (st1 := [aI (-1 : Int32)]) (σ1 := σ) (P := []) rfl trivial ?_
      obtain ⟨rfl, rfl⟩ := Prod.mk.inj (Option.some.inj hm)
      exact XW.iret B q (by decide +kernel)
    · rw [if_neg h2] at hm
      refine XW.bk B [(21, .aload_n 0), (22, .getfield 51), (25, .iload_n 1)] (by decide +kernel) (pc1 := 26) (ls1 := [some (aR 0 0), some (aI x1), some (aI x2), some (aI x3), none, none, none]) (st1 := [aI x1, aR 14 0]) (σ1 := σ) (P := []) rfl trivial ?_
      by_cases g3 : x1 < 0 ∨ 6 ≤ x1.toNatClampNeg
      · rw [if_pos g3] at hm; cases hm
      rw [if_neg g3] at hm
      refine XW.bb B [(26, .iaload)] (by decide +kernel) (pc1 := 27) (ls1 := [some (aR 0 0), some (aI x1), some (aI x2), some (aI x3), none, none, none]) (st1 := [aI (σ.2.1 14 0 x1.toNatClampNeg)]) (σ1 := σ) (P := [vp_in x1 6]) (i := .ifCond .lt 17) (tgt := 44) (q := (σ.2.1 14 0 x1.toNatClampNeg) < (0 : Int32)) rfl ⟨g3, trivial⟩ (by decide +kernel) rfl (by decide) (fun h4 => ?_) (fun h4 => ?_)
      · rw [if_pos h4] at hm
        refine XW.bn B [(44, .iconst 0), (45, .istore 4), (47, .aload_n 0), (48, .getfield 51), (51, .iload_n 1), (52, .iaload), (53, .bipush 50)] (by decide +kernel) (pc1 := 55) (ls1 := [some (aR 0 0), some (aI x1), some (aI x2), some (aI x3), some (aI (0 : Int32)), none, none]) (st1 := [aI (50 : Int32), aI (σ.2.1 14 0 x1.toNatClampNeg)]) (σ1 := σ) (P := [vp_in x1 6]) (i := .if_icmp .ne 11) (tgt := 66) (q := (σ.2.1 14 0 x1.toNatClampNeg) = (50 : Int32)) rfl ⟨g3, trivial⟩ (by decide +kernel) rfl (by decide) (fun h5 => ?_) (fun h5 => ?_)
        · rw [if_pos h5] at hm
          refine XW.bb B [(58, .iload_n 2)] (by decide +kernel) (pc1 := 59) (ls1 := [some (aR 0 0), some (aI x1), some (aI x2), some (aI x3), some (aI (0 : Int32)), none, none]) (st1 := [aI x2]) (σ1 := σ) (P := []) (i := .ifCond .lt 7) (tgt := 66) (q := x2 < (0 : Int32)) rfl trivial (by decide +kernel) rfl (by decide) (fun h6 => ?_) (fun h6 => ?_)
          · rw [if_pos h6] at hm
            refine XW.bk B [(66, .iconst 0), (67, .istore 5)] (by decide +kernel) (pc1 := 69) (ls1 := [some (aR 0 0), some (aI x1), some (aI x2), some (aI x3), some (aI (0 : Int32)), some (aI (0 : Int32)), none]) (st1 := []) (σ1 := σ) (P := []) rfl trivial ?_
            exact lp_X11_places_69 B q FU x1 x2 x3 (0 : Int32) (0 : Int32) σ hm
          · rw [if_neg h6] at hm
            refine XW.bk B [(62, .iconst 1), (63, .goto 4), (67, .istore 5)] (by decide +kernel) (pc1 := 69) (ls1 := [some (aR 0 0), some (aI x1), some (aI x2), some (aI x3), some (aI (0 : Int32)), some (aI (1 : Int32)), none]) (st1 := []) (σ1 := σ) (P := []) rfl trivial ?_
            exact lp_X11_places_69 B q FU x1 x2 x3 (0 : Int32) (1 : Int32) σ hm
        · rw [if_neg h5] at hm
          refine XW.bk B [(66, .iconst 0), (67, .istore 5)] (by decide +kernel) (pc1 := 69) (ls1 := [some (aR 0 0), some (aI x1), some (aI x2), some (aI x3), some (aI (0 : Int32)), some (aI (0 : Int32)), none]) (st1 := []) (σ1 := σ) (P := []) rfl trivial ?_
          exact lp_X11_places_69 B q FU x1 x2 x3 (0 : Int32) (0 : Int32) σ hm
      · rw [if_neg h4] at hm
        refine XW.bb B [(30, .aload_n 0), (31, .getfield 51), (34, .iload_n 1), (35, .iaload), (36, .bipush 50)] (by decide +kernel) (pc1 := 38) (ls1 := [some (aR 0 0), some (aI x1), some (aI x2), some (aI x3), none, none, none]) (st1 := [aI (50 : Int32), aI (σ.2.1 14 0 x1.toNatClampNeg)]) (σ1 := σ) (P := [vp_in x1 6]) (i := .if_icmp .eq 6) (tgt := 44) (q := (σ.2.1 14 0 x1.toNatClampNeg) = (50 : Int32)) rfl ⟨g3, trivial⟩ (by decide +kernel) rfl (by decide) (fun h17 => ?_) (fun h17 => ?_)
        · rw [if_pos h17] at hm
          refine XW.bn B [(44, .iconst 0), (45, .istore 4), (47, .aload_n 0), (48, .getfield 51), (51, .iload_n 1), (52, .iaload), (53, .bipush 50)] (by decide +kernel) (pc1 := 55) (ls1 := [some (aR 0 0), some (aI x1), some (aI x2), some (aI x3), some (aI (0 : Int32)), none, none]) (st1 := [aI (50 : Int32), aI (σ.2.1 14 0 x1.toNatClampNeg)]) (σ1 := σ) (P := [vp_in x1 6]) (i := .if_icmp .ne 11) (tgt := 66) (q := (σ.2.1 14 0 x1.toNatClampNeg) = (50 : Int32)) rfl ⟨g3, trivial⟩ (by decide +kernel) rfl (by decide) (fun _ => ?_) (fun h => absurd h17 h)
          refine XW.bb B [(58, .iload_n 2)] (by decide +kernel) (pc1 := 59) (ls1 := [some (aR 0 0), some (aI x1), some (aI x2), some (aI x3), some (aI (0 : Int32)), none, none]) (st1 := [aI x2]) (σ1 := σ) (P := []) (i := .ifCond .lt 7) (tgt := 66) (q := x2 < (0 : Int32)) rfl trivial (by decide +kernel) rfl (by decide) (fun h18 => ?_) (fun h18 => ?_)
          · rw [if_pos h18] at hm
            refine XW.bk B [(66, .iconst 0), (67, .istore 5)] (by decide +kernel) (pc1 := 69) (ls1 := [some (aR 0 0), some (aI x1), some (aI x2), some (aI x3), some (aI (0 : Int32)), some (aI (0 : Int32)), none]) (st1 := []) (σ1 := σ) (P := []) rfl trivial ?_
            exact lp_X11_places_69 B q FU x1 x2 x3 (0 : Int32) (0 : Int32) σ hm
          · rw [if_neg h18] at hm
            refine XW.bk B [(62, .iconst 1), (63, .goto 4), (67, .istore 5)] (by decide +kernel) (pc1 := 69) (ls1 := [some (aR 0 0), some (aI x1), some (aI x2), some (aI x3), some (aI (0 : Int32)), some (aI (1 : Int32)), none]) (st1 := []) (σ1 := σ) (P := []) rfl trivial ?_
            exact lp_X11_places_69 B q FU x1 x2 x3 (0 : Int32) (1 : Int32) σ hm
        · rw [if_neg h17] at hm
          refine XW.bk B [(41, .bipush (-12))] (by decide +kernel) (pc1 := 43) (ls1 := [some (aR 0 0), some (aI x1), some (aI x2), some (aI x3), none, none, none]) (st1 := [aI (-12 : Int32)]) (σ1 := σ) (P := []) rfl trivial ?_
          obtain ⟨rfl, rfl⟩ := Prod.mk.inj (Option.some.inj hm)
          exact XW.iret B q (by decide +kernel)

def m_X11_placeOf (x1 : Int32) (x2 : Int32) (σ : SS) : Int32 :=
  if (m_X11_within x2.toInt64 (0 : Int64) (6 : Int64)) = (0 : Int32) then
    if x1 = (0 : Int32) then
      if (m_X11_within x2.toInt64 (7 : Int64) (10 : Int64)) = (0 : Int32) then
        (-1 : Int32)
      else
      (((84 : Int32) + x2) - (7 : Int32))
    else
    (-1 : Int32)
  else
  if (m_X11_isPlace x1 σ) = (0 : Int32) then
    (-1 : Int32)
  else
  (((12 : Int32) * x2) + x1)
set_option maxRecDepth 100000 in
set_option maxHeartbeats 4000000 in
theorem c_X11_placeOf (x1 : Int32) (x2 : Int32) (σ : SS) {r : Int32} (hm : m_X11_placeOf x1 x2 σ = r) : XM LM 3 M_X11_placeOf [aR 0 0, aI x1, aI x2] σ (some (aI r)) σ := by
  refine XM.of (K := K11) (by decide) (by decide +kernel) K11_ok (Nat.le_of_ble_eq_true rfl) (fun Γ B q => ?_)
  unfold m_X11_placeOf at hm
  refine XW.bk B [(0, .iload_n 2), (1, .i2l), (2, .lconst 0), (3, .ldc2_w 109)] (by decide +kernel) (pc1 := 6) (ls1 := [some (aR 0 0), some (aI x1), some (aI x2)]) (st1 := [aJ (6 : Int64), aJ (0 : Int64), aJ x2.toInt64]) (σ1 := σ) (P := []) rfl trivial ?_
  refine XW.callS B (M := M_X11_within) (as := [aJ x2.toInt64, aJ (0 : Int64), aJ (6 : Int64)]) (c_X11_within x2.toInt64 (0 : Int64) (6 : Int64) σ rfl) (by decide) wS_X11_within wN_X11_within lk_X11_84 rfl (Nat.le_of_ble_eq_true rfl) (by decide +kernel) ?_
  refine XW.bb B [] (by decide +kernel) (pc1 := 9) (ls1 := [some (aR 0 0), some (aI x1), some (aI x2)]) (st1 := [aI (m_X11_within x2.toInt64 (0 : Int64) (6 : Int64))]) (σ1 := σ) (P := []) (i := .ifCond .eq 22) (tgt := 31) (q := (m_X11_within x2.toInt64 (0 : Int64) (6 : Int64)) = (0 : Int32)) rfl trivial (by decide +kernel) rfl (by decide) (fun h1 => ?_) (fun h1 => ?_)
  · rw [if_pos h1] at hm
    refine XW.bn B [(31, .iload_n 1)] (by decide +kernel) (pc1 := 32) (ls1 := [some (aR 0 0), some (aI x1), some (aI x2)]) (st1 := [aI x1]) (σ1 := σ) (P := []) (i := .ifCond .ne 27) (tgt := 59) (q := x1 = (0 : Int32)) rfl trivial (by decide +kernel) rfl (by decide) (fun h2 => ?_) (fun h2 => ?_)
    · rw [if_pos h2] at hm
      refine XW.bk B [(35, .iload_n 2), (36, .i2l), (37, .ldc2_w 114), (40, .ldc2_w 116)] (by decide +kernel) (pc1 := 43) (ls1 := [some (aR 0 0), some (aI x1), some (aI x2)]) (st1 := [aJ (10 : Int64), aJ (7 : Int64), aJ x2.toInt64]) (σ1 := σ) (P := []) rfl trivial ?_
      refine XW.callS B (M := M_X11_within) (as := [aJ x2.toInt64, aJ (7 : Int64), aJ (10 : Int64)]) (c_X11_within x2.toInt64 (7 : Int64) (10 : Int64) σ rfl) (by decide) wS_X11_within wN_X11_within lk_X11_84 rfl (Nat.le_of_ble_eq_true rfl) (by decide +kernel) ?_
      refine XW.bb B [] (by decide +kernel) (pc1 := 46) (ls1 := [some (aR 0 0), some (aI x1), some (aI x2)]) (st1 := [aI (m_X11_within x2.toInt64 (7 : Int64) (10 : Int64))]) (σ1 := σ) (P := []) (i := .ifCond .eq 13) (tgt := 59) (q := (m_X11_within x2.toInt64 (7 : Int64) (10 : Int64)) = (0 : Int32)) rfl trivial (by decide +kernel) rfl (by decide) (fun h3 => ?_) (fun h3 => ?_)
      · rw [if_pos h3] at hm
        refine XW.bk B [(59, .iconst (-1))] (by decide +kernel) (pc1 := 60) (ls1 := [some (aR 0 0), some (aI x1), some (aI x2)]) (st1 := [aI (-1 : Int32)]) (σ1 := σ) (P := []) rfl trivial ?_
        subst hm
        exact XW.iret B q (by decide +kernel)
      · rw [if_neg h3] at hm
        refine XW.bk B [(49, .bipush 84), (51, .iload_n 2), (52, .iadd), (53, .bipush 7), (55, .isub), (56, .goto 4)] (by decide +kernel) (pc1 := 60) (ls1 := [some (aR 0 0), some (aI x1), some (aI x2)]) (st1 := [aI (((84 : Int32) + x2) - (7 : Int32))]) (σ1 := σ) (P := []) rfl trivial ?_
        subst hm
        exact XW.iret B q (by decide +kernel)
    · rw [if_neg h2] at hm
      refine XW.bk B [(59, .iconst (-1))] (by decide +kernel) (pc1 := 60) (ls1 := [some (aR 0 0), some (aI x1), some (aI x2)]) (st1 := [aI (-1 : Int32)]) (σ1 := σ) (P := []) rfl trivial ?_
      subst hm
      exact XW.iret B q (by decide +kernel)
  · rw [if_neg h1] at hm
    refine XW.bk B [(12, .aload_n 0), (13, .iload_n 1)] (by decide +kernel) (pc1 := 14) (ls1 := [some (aR 0 0), some (aI x1), some (aI x2)]) (st1 := [aI x1, aR 0 0]) (σ1 := σ) (P := []) rfl trivial ?_
    refine XW.callV B (M := M_X11_isPlace) (t := 0) (j := 0) (cn := 1) (as := [aI x1]) (c_X11_isPlace x1 σ rfl) (by decide) wV_X11_isPlace wN_X11_isPlace lk_X11_111 rfl rfl rfl (by decide) rfl (Nat.le_of_ble_eq_true rfl) (by decide +kernel) ?_
    refine XW.bb B [] (by decide +kernel) (pc1 := 17) (ls1 := [some (aR 0 0), some (aI x1), some (aI x2)]) (st1 := [aI (m_X11_isPlace x1 σ)]) (σ1 := σ) (P := []) (i := .ifCond .eq 12) (tgt := 29) (q := (m_X11_isPlace x1 σ) = (0 : Int32)) rfl trivial (by decide +kernel) rfl (by decide) (fun h4 => ?_) (fun h4 => ?_)
    · rw [if_pos h4] at hm
      refine XW.bk B [(29, .iconst (-1))] (by decide +kernel) (pc1 := 30) (ls1 := [some (aR 0 0), some (aI x1), some (aI x2)]) (st1 := [aI (-1 : Int32)]) (σ1 := σ) (P := []) rfl trivial ?_
      subst hm
      exact XW.iret B q (by decide +kernel)
    · rw [if_neg h4] at hm
      refine XW.bk B [(20, .bipush 12), (22, .iload_n 2), (23, .imul), (24, .iload_n 1), (25, .iadd), (26, .goto 4)] (by decide +kernel) (pc1 := 30) (ls1 := [some (aR 0 0), some (aI x1), some (aI x2)]) (st1 := [aI (((12 : Int32) * x2) + x1)]) (σ1 := σ) (P := []) rfl trivial ?_
      subst hm
      exact XW.iret B q (by decide +kernel)

def m_X11_mayBecome (x1 : Int32) (x2 : Int32) : Int32 :=
  if x1 = (0 : Int32) then
    (m_X11_within x2.toInt64 (0 : Int64) (30 : Int64))
  else
  if x1 = (1 : Int32) then
    (m_X11_within x2.toInt64 (0 : Int64) (30 : Int64))
  else
  if x1 = (2 : Int32) then
    (m_X11_within x2.toInt64 (1 : Int64) (60 : Int64))
  else
  if x1 = (3 : Int32) then
    (m_X11_within x2.toInt64 (0 : Int64) (60 : Int64))
  else
  if x1 = (4 : Int32) then
    (m_X11_within x2.toInt64 (0 : Int64) (9 : Int64))
  else
  if x1 = (5 : Int32) then
    (m_X11_within x2.toInt64 (0 : Int64) (12 : Int64))
  else
  if x1 = (6 : Int32) then
    (m_X11_isHeld x2.toInt64)
  else
  if x1 = (7 : Int32) then
    (m_X11_within x2.toInt64 (1 : Int64) (6 : Int64))
  else
  if x1 = (9 : Int32) then
    (m_X11_within x2.toInt64 (0 : Int64) (99 : Int64))
  else
  (m_X11_within x2.toInt64 (0 : Int64) (999 : Int64))
set_option maxRecDepth 100000 in
set_option maxHeartbeats 4000000 in
theorem c_X11_mayBecome (x1 : Int32) (x2 : Int32) (σ : SS) {r : Int32} (hm : m_X11_mayBecome x1 x2 = r) : XM LM 3 M_X11_mayBecome [aI x1, aI x2] σ (some (aI r)) σ := by
  refine XM.of (K := K11) (by decide) (by decide +kernel) K11_ok (Nat.le_of_ble_eq_true rfl) (fun Γ B q => ?_)
  unfold m_X11_mayBecome at hm
  refine XW.bk B [(0, .iload_n 0)] (by decide +kernel) (pc1 := 1) (ls1 := [some (aI x1), some (aI x2)]) (st1 := [aI x1]) (σ1 := σ) (P := []) rfl trivial ?_
  by_cases h1 : x1 = (0 : Int32)
  · rw [if_pos h1] at hm
    refine XW.tsI B (0 : Int32) (dflt := 131) (n := 55) (lo := 0) (hi := 9) (offs := #[55, 55, 65, 75, 85, 95, 105, 111, 131, 121]) (off := 55) (by decide +kernel) h1 (by decide +kernel) (tgt := 56) (by decide) ?_
    refine XW.bk B [(56, .iload_n 1), (57, .i2l), (58, .lconst 0), (59, .ldc2_w 92)] (by decide +kernel) (pc1 := 62) (ls1 := [some (aI x1), some (aI x2)]) (st1 := [aJ (30 : Int64), aJ (0 : Int64), aJ x2.toInt64]) (σ1 := σ) (P := []) rfl trivial ?_
    refine XW.callS B (M := M_X11_within) (as := [aJ x2.toInt64, aJ (0 : Int64), aJ (30 : Int64)]) (c_X11_within x2.toInt64 (0 : Int64) (30 : Int64) σ rfl) (by decide) wS_X11_within wN_X11_within lk_X11_84 rfl (Nat.le_of_ble_eq_true rfl) (by decide +kernel) ?_
    subst hm
    exact XW.zret B q (b_X11_within x2.toInt64 (0 : Int64) (30 : Int64)) (by decide +kernel)
  rw [if_neg h1] at hm
  by_cases h2 : x1 = (1 : Int32)
  · rw [if_pos h2] at hm
    refine XW.tsI B (1 : Int32) (dflt := 131) (n := 55) (lo := 0) (hi := 9) (offs := #[55, 55, 65, 75, 85, 95, 105, 111, 131, 121]) (off := 55) (by decide +kernel) h2 (by decide +kernel) (tgt := 56) (by decide) ?_
    refine XW.bk B [(56, .iload_n 1), (57, .i2l), (58, .lconst 0), (59, .ldc2_w 92)] (by decide +kernel) (pc1 := 62) (ls1 := [some (aI x1), some (aI x2)]) (st1 := [aJ (30 : Int64), aJ (0 : Int64), aJ x2.toInt64]) (σ1 := σ) (P := []) rfl trivial ?_
    refine XW.callS B (M := M_X11_within) (as := [aJ x2.toInt64, aJ (0 : Int64), aJ (30 : Int64)]) (c_X11_within x2.toInt64 (0 : Int64) (30 : Int64) σ rfl) (by decide) wS_X11_within wN_X11_within lk_X11_84 rfl (Nat.le_of_ble_eq_true rfl) (by decide +kernel) ?_
    subst hm
    exact XW.zret B q (b_X11_within x2.toInt64 (0 : Int64) (30 : Int64)) (by decide +kernel)
  rw [if_neg h2] at hm
  by_cases h3 : x1 = (2 : Int32)
  · rw [if_pos h3] at hm
    refine XW.tsI B (2 : Int32) (dflt := 131) (n := 55) (lo := 0) (hi := 9) (offs := #[55, 55, 65, 75, 85, 95, 105, 111, 131, 121]) (off := 65) (by decide +kernel) h3 (by decide +kernel) (tgt := 66) (by decide) ?_
    refine XW.bk B [(66, .iload_n 1), (67, .i2l), (68, .lconst 1), (69, .ldc2_w 118)] (by decide +kernel) (pc1 := 72) (ls1 := [some (aI x1), some (aI x2)]) (st1 := [aJ (60 : Int64), aJ (1 : Int64), aJ x2.toInt64]) (σ1 := σ) (P := []) rfl trivial ?_
    refine XW.callS B (M := M_X11_within) (as := [aJ x2.toInt64, aJ (1 : Int64), aJ (60 : Int64)]) (c_X11_within x2.toInt64 (1 : Int64) (60 : Int64) σ rfl) (by decide) wS_X11_within wN_X11_within lk_X11_84 rfl (Nat.le_of_ble_eq_true rfl) (by decide +kernel) ?_
    subst hm
    exact XW.zret B q (b_X11_within x2.toInt64 (1 : Int64) (60 : Int64)) (by decide +kernel)
  rw [if_neg h3] at hm
  by_cases h4 : x1 = (3 : Int32)
  · rw [if_pos h4] at hm
    refine XW.tsI B (3 : Int32) (dflt := 131) (n := 55) (lo := 0) (hi := 9) (offs := #[55, 55, 65, 75, 85, 95, 105, 111, 131, 121]) (off := 75) (by decide +kernel) h4 (by decide +kernel) (tgt := 76) (by decide) ?_
    refine XW.bk B [(76, .iload_n 1), (77, .i2l), (78, .lconst 0), (79, .ldc2_w 118)] (by decide +kernel) (pc1 := 82) (ls1 := [some (aI x1), some (aI x2)]) (st1 := [aJ (60 : Int64), aJ (0 : Int64), aJ x2.toInt64]) (σ1 := σ) (P := []) rfl trivial ?_
    refine XW.callS B (M := M_X11_within) (as := [aJ x2.toInt64, aJ (0 : Int64), aJ (60 : Int64)]) (c_X11_within x2.toInt64 (0 : Int64) (60 : Int64) σ rfl) (by decide) wS_X11_within wN_X11_within lk_X11_84 rfl (Nat.le_of_ble_eq_true rfl) (by decide +kernel) ?_
    subst hm
    exact XW.zret B q (b_X11_within x2.toInt64 (0 : Int64) (60 : Int64)) (by decide +kernel)
  rw [if_neg h4] at hm
  by_cases h5 : x1 = (4 : Int32)
  · rw [if_pos h5] at hm
    refine XW.tsI B (4 : Int32) (dflt := 131) (n := 55) (lo := 0) (hi := 9) (offs := #[55, 55, 65, 75, 85, 95, 105, 111, 131, 121]) (off := 85) (by decide +kernel) h5 (by decide +kernel) (tgt := 86) (by decide) ?_
    refine XW.bk B [(86, .iload_n 1), (87, .i2l), (88, .lconst 0), (89, .ldc2_w 94)] (by decide +kernel) (pc1 := 92) (ls1 := [some (aI x1), some (aI x2)]) (st1 := [aJ (9 : Int64), aJ (0 : Int64), aJ x2.toInt64]) (σ1 := σ) (P := []) rfl trivial ?_
    refine XW.callS B (M := M_X11_within) (as := [aJ x2.toInt64, aJ (0 : Int64), aJ (9 : Int64)]) (c_X11_within x2.toInt64 (0 : Int64) (9 : Int64) σ rfl) (by decide) wS_X11_within wN_X11_within lk_X11_84 rfl (Nat.le_of_ble_eq_true rfl) (by decide +kernel) ?_
    subst hm
    exact XW.zret B q (b_X11_within x2.toInt64 (0 : Int64) (9 : Int64)) (by decide +kernel)
  rw [if_neg h5] at hm
  by_cases h6 : x1 = (5 : Int32)
  · rw [if_pos h6] at hm
    refine XW.tsI B (5 : Int32) (dflt := 131) (n := 55) (lo := 0) (hi := 9) (offs := #[55, 55, 65, 75, 85, 95, 105, 111, 131, 121]) (off := 95) (by decide +kernel) h6 (by decide +kernel) (tgt := 96) (by decide) ?_
    refine XW.bk B [(96, .iload_n 1), (97, .i2l), (98, .lconst 0), (99, .ldc2_w 96)] (by decide +kernel) (pc1 := 102) (ls1 := [some (aI x1), some (aI x2)]) (st1 := [aJ (12 : Int64), aJ (0 : Int64), aJ x2.toInt64]) (σ1 := σ) (P := []) rfl trivial ?_
    refine XW.callS B (M := M_X11_within) (as := [aJ x2.toInt64, aJ (0 : Int64), aJ (12 : Int64)]) (c_X11_within x2.toInt64 (0 : Int64) (12 : Int64) σ rfl) (by decide) wS_X11_within wN_X11_within lk_X11_84 rfl (Nat.le_of_ble_eq_true rfl) (by decide +kernel) ?_
    subst hm
    exact XW.zret B q (b_X11_within x2.toInt64 (0 : Int64) (12 : Int64)) (by decide +kernel)
  rw [if_neg h6] at hm
  by_cases h7 : x1 = (6 : Int32)
  · rw [if_pos h7] at hm
    refine XW.tsI B (6 : Int32) (dflt := 131) (n := 55) (lo := 0) (hi := 9) (offs := #[55, 55, 65, 75, 85, 95, 105, 111, 131, 121]) (off := 105) (by decide +kernel) h7 (by decide +kernel) (tgt := 106) (by decide) ?_
    refine XW.bk B [(106, .iload_n 1), (107, .i2l)] (by decide +kernel) (pc1 := 108) (ls1 := [some (aI x1), some (aI x2)]) (st1 := [aJ x2.toInt64]) (σ1 := σ) (P := []) rfl trivial ?_
    refine XW.callS B (M := M_X11_isHeld) (as := [aJ x2.toInt64]) (c_X11_isHeld x2.toInt64 σ rfl) (by decide) wS_X11_isHeld wN_X11_isHeld lk_X11_120 rfl (Nat.le_of_ble_eq_true rfl) (by decide +kernel) ?_
    subst hm
    exact XW.zret B q (b_X11_isHeld x2.toInt64) (by decide +kernel)
  rw [if_neg h7] at hm
  by_cases h8 : x1 = (7 : Int32)
  · rw [if_pos h8] at hm
    refine XW.tsI B (7 : Int32) (dflt := 131) (n := 55) (lo := 0) (hi := 9) (offs := #[55, 55, 65, 75, 85, 95, 105, 111, 131, 121]) (off := 111) (by decide +kernel) h8 (by decide +kernel) (tgt := 112) (by decide) ?_
    refine XW.bk B [(112, .iload_n 1), (113, .i2l), (114, .lconst 1), (115, .ldc2_w 109)] (by decide +kernel) (pc1 := 118) (ls1 := [some (aI x1), some (aI x2)]) (st1 := [aJ (6 : Int64), aJ (1 : Int64), aJ x2.toInt64]) (σ1 := σ) (P := []) rfl trivial ?_
    refine XW.callS B (M := M_X11_within) (as := [aJ x2.toInt64, aJ (1 : Int64), aJ (6 : Int64)]) (c_X11_within x2.toInt64 (1 : Int64) (6 : Int64) σ rfl) (by decide) wS_X11_within wN_X11_within lk_X11_84 rfl (Nat.le_of_ble_eq_true rfl) (by decide +kernel) ?_
    subst hm
    exact XW.zret B q (b_X11_within x2.toInt64 (1 : Int64) (6 : Int64)) (by decide +kernel)
  rw [if_neg h8] at hm
  by_cases h9 : x1 = (9 : Int32)
  · rw [if_pos h9] at hm
    refine XW.tsI B (9 : Int32) (dflt := 131) (n := 55) (lo := 0) (hi := 9) (offs := #[55, 55, 65, 75, 85, 95, 105, 111, 131, 121]) (off := 121) (by decide +kernel) h9 (by decide +kernel) (tgt := 122) (by decide) ?_
    refine XW.bk B [(122, .iload_n 1), (123, .i2l), (124, .lconst 0), (125, .ldc2_w 124)] (by decide +kernel) (pc1 := 128) (ls1 := [some (aI x1), some (aI x2)]) (st1 := [aJ (99 : Int64), aJ (0 : Int64), aJ x2.toInt64]) (σ1 := σ) (P := []) rfl trivial ?_
    refine XW.callS B (M := M_X11_within) (as := [aJ x2.toInt64, aJ (0 : Int64), aJ (99 : Int64)]) (c_X11_within x2.toInt64 (0 : Int64) (99 : Int64) σ rfl) (by decide) wS_X11_within wN_X11_within lk_X11_84 rfl (Nat.le_of_ble_eq_true rfl) (by decide +kernel) ?_
    subst hm
    exact XW.zret B q (b_X11_within x2.toInt64 (0 : Int64) (99 : Int64)) (by decide +kernel)
  rw [if_neg h9] at hm
  refine XW.tsD B [(0 : Int32), (1 : Int32), (2 : Int32), (3 : Int32), (4 : Int32), (5 : Int32), (6 : Int32), (7 : Int32), (9 : Int32)] (dflt := 131) (n := 55) (lo := 0) (hi := 9) (offs := #[55, 55, 65, 75, 85, 95, 105, 111, 131, 121]) (by decide +kernel) (List.forall_mem_cons.mpr ⟨h1, (List.forall_mem_cons.mpr ⟨h2, (List.forall_mem_cons.mpr ⟨h3, (List.forall_mem_cons.mpr ⟨h4, (List.forall_mem_cons.mpr ⟨h5, (List.forall_mem_cons.mpr ⟨h6, (List.forall_mem_cons.mpr ⟨h7, (List.forall_mem_cons.mpr ⟨h8, (List.forall_mem_cons.mpr ⟨h9, (fun _ hz => absurd hz List.not_mem_nil)⟩)⟩)⟩)⟩)⟩)⟩)⟩)⟩)⟩) (by decide +kernel) (by decide) (tgt := 132) (by decide) ?_
  refine XW.bk B [(132, .iload_n 1), (133, .i2l), (134, .lconst 0), (135, .ldc2_w 90)] (by decide +kernel) (pc1 := 138) (ls1 := [some (aI x1), some (aI x2)]) (st1 := [aJ (999 : Int64), aJ (0 : Int64), aJ x2.toInt64]) (σ1 := σ) (P := []) rfl trivial ?_
  refine XW.callS B (M := M_X11_within) (as := [aJ x2.toInt64, aJ (0 : Int64), aJ (999 : Int64)]) (c_X11_within x2.toInt64 (0 : Int64) (999 : Int64) σ rfl) (by decide) wS_X11_within wN_X11_within lk_X11_84 rfl (Nat.le_of_ble_eq_true rfl) (by decide +kernel) ?_
  subst hm
  exact XW.zret B q (b_X11_within x2.toInt64 (0 : Int64) (999 : Int64)) (by decide +kernel)
theorem b_X11_mayBecome (x1 : Int32) (x2 : Int32) : m_X11_mayBecome x1 x2 = 0 ∨ m_X11_mayBecome x1 x2 = 1 := by
  unfold m_X11_mayBecome
  (repeat' split) <;> first | (with_reducible exact Or.inl rfl) | (with_reducible exact Or.inr rfl) | (with_reducible exact (b_X11_isHeld x2.toInt64)) | (with_reducible exact (b_X11_within x2.toInt64 (0 : Int64) (12 : Int64))) | (with_reducible exact (b_X11_within x2.toInt64 (0 : Int64) (30 : Int64))) | (with_reducible exact (b_X11_within x2.toInt64 (0 : Int64) (60 : Int64))) | (with_reducible exact (b_X11_within x2.toInt64 (0 : Int64) (9 : Int64))) | (with_reducible exact (b_X11_within x2.toInt64 (0 : Int64) (99 : Int64))) | (with_reducible exact (b_X11_within x2.toInt64 (0 : Int64) (999 : Int64))) | (with_reducible exact (b_X11_within x2.toInt64 (1 : Int64) (6 : Int64))) | (with_reducible exact (b_X11_within x2.toInt64 (1 : Int64) (60 : Int64)))

def m_X11_mend (x1 : Int32) (x2 : Int32) (x3 : Int32) (σ : SS) : Option (Int32 × SS) :=
  if (m_X11_placeOf x1 x2 σ) < (0 : Int32) then
    some ((-1 : Int32), σ)
  else
  if (m_X11_mayBecome x2 x3) = (0 : Int32) then
    some ((-1 : Int32), σ)
  else
  Option.bind (m_X11_becomes (m_X11_placeOf x1 x2 σ) x3 σ) (fun q3 =>
  some (q3.1, q3.2))
set_option maxRecDepth 100000 in
set_option maxHeartbeats 4000000 in
theorem c_X11_mend (x1 : Int32) (x2 : Int32) (x3 : Int32) (σ : SS) {r : Int32} {σ' : SS} (hm : m_X11_mend x1 x2 x3 σ = some (r, σ')) : XM LM 4 M_X11_mend [aR 0 0, aI x1, aI x2, aI x3] σ (some (aI r)) σ' := by
  refine XM.of (K := K11) (by decide) (by decide +kernel) K11_ok (Nat.le_of_ble_eq_true rfl) (fun Γ B q => ?_)
  unfold m_X11_mend at hm
  refine XW.bk B [(0, .aload_n 0), (1, .iload_n 1), (2, .iload_n 2)] (by decide +kernel) (pc1 := 3) (ls1 := [some (aR 0 0), some (aI x1), some (aI x2), some (aI x3), none]) (st1 := [aI x2, aI x1, aR 0 0]) (σ1 := σ) (P := []) rfl trivial ?_
  refine XW.callV B (M := M_X11_placeOf) (t := 0) (j := 0) (cn := 1) (as := [aI x1, aI x2]) (c_X11_placeOf x1 x2 σ rfl) (by decide) wV_X11_placeOf wN_X11_placeOf lk_X11_126 rfl rfl rfl (by decide) rfl (Nat.le_of_ble_eq_true rfl) (by decide +kernel) ?_
  refine XW.bb B [(6, .istore 4), (8, .iload 4)] (by decide +kernel) (pc1 := 10) (ls1 := [some (aR 0 0), some (aI x1), some (aI x2), some (aI x3), some (aI (m_X11_placeOf x1 x2 σ))]) (st1 := [aI (m_X11_placeOf x1 x2 σ)]) (σ1 := σ) (P := []) (i := .ifCond .lt 21) (tgt := 31) (q := (m_X11_placeOf x1 x2 σ) < (0 : Int32)) rfl trivial (by decide +kernel) rfl (by decide) (fun h1 => ?_) (fun h1 => ?_)
  · rw [if_pos h1] at hm
    refine XW.bk B [(31, .iconst (-1))] (by decide +kernel) (pc1 := 32) (ls1 := [some (aR 0 0), some (aI x1), some (aI x2), some (aI x3), some (aI (m_X11_placeOf x1 x2 σ))]) (st1 := [aI (-1 : Int32)]) (σ1 := σ) (P := []) rfl trivial ?_
    obtain ⟨rfl, rfl⟩ := Prod.mk.inj (Option.some.inj hm)
    exact XW.iret B q (by decide +kernel)
  · rw [if_neg h1] at hm
    refine XW.bk B [(13, .iload_n 2), (14, .iload_n 3)] (by decide +kernel) (pc1 := 15) (ls1 := [some (aR 0 0), some (aI x1), some (aI x2), some (aI x3), some (aI (m_X11_placeOf x1 x2 σ))]) (st1 := [aI x3, aI x2]) (σ1 := σ) (P := []) rfl trivial ?_
    refine XW.callS B (M := M_X11_mayBecome) (as := [aI x2, aI x3]) (c_X11_mayBecome x2 x3 σ rfl) (by decide) wS_X11_mayBecome wN_X11_mayBecome lk_X11_130 rfl (Nat.le_of_ble_eq_true rfl) (by decide +kernel) ?_
    refine XW.bb B [] (by decide +kernel) (pc1 := 18) (ls1 := [some (aR 0 0), some (aI x1), some (aI x2), some (aI x3), some (aI (m_X11_placeOf x1 x2 σ))]) (st1 := [aI (m_X11_mayBecome x2 x3)]) (σ1 := σ) (P := []) (i := .ifCond .eq 13) (tgt := 31) (q := (m_X11_mayBecome x2 x3) = (0 : Int32)) rfl trivial (by decide +kernel) rfl (by decide) (fun h2 => ?_) (fun h2 => ?_)
    · rw [if_pos h2] at hm
      refine XW.bk B [(31, .iconst (-1))] (by decide +kernel) (pc1 := 32) (ls1 := [some (aR 0 0), some (aI x1), some (aI x2), some (aI x3), some (aI (m_X11_placeOf x1 x2 σ))]) (st1 := [aI (-1 : Int32)]) (σ1 := σ) (P := []) rfl trivial ?_
      obtain ⟨rfl, rfl⟩ := Prod.mk.inj (Option.some.inj hm)
      exact XW.iret B q (by decide +kernel)
    · rw [if_neg h2] at hm
      refine XW.bk B [(21, .aload_n 0), (22, .iload 4), (24, .iload_n 3)] (by decide +kernel) (pc1 := 25) (ls1 := [some (aR 0 0), some (aI x1), some (aI x2), some (aI x3), some (aI (m_X11_placeOf x1 x2 σ))]) (st1 := [aI x3, aI (m_X11_placeOf x1 x2 σ), aR 0 0]) (σ1 := σ) (P := []) rfl trivial ?_
      obtain ⟨q3, hq3, hm⟩ := obind_eq hm
      refine XW.callV B (M := M_X11_becomes) (t := 0) (j := 0) (cn := 1) (as := [aI (m_X11_placeOf x1 x2 σ), aI x3]) (c_X11_becomes (m_X11_placeOf x1 x2 σ) x3 σ hq3) (by decide) wV_X11_becomes wN_X11_becomes lk_X11_134 rfl rfl rfl (by decide) rfl (Nat.le_of_ble_eq_true rfl) (by decide +kernel) ?_
      refine XW.bk B [(28, .goto 4)] (by decide +kernel) (pc1 := 32) (ls1 := [some (aR 0 0), some (aI x1), some (aI x2), some (aI x3), some (aI (m_X11_placeOf x1 x2 σ))]) (st1 := [aI q3.1]) (σ1 := q3.2) (P := []) rfl trivial ?_
      obtain ⟨rfl, rfl⟩ := Prod.mk.inj (Option.some.inj hm)
      exact XW.iret B q (by decide +kernel)

def m_X11_of (x1 : Int32) (x2 : Int32) (σ : SS) : Option (Int32) :=
  if (m_X11_placeOf x1 x2 σ) < (0 : Int32) then
    some (-1 : Int32)
  else
  if (m_X11_placeOf x1 x2 σ) < 0 ∨ 88 ≤ (m_X11_placeOf x1 x2 σ).toNatClampNeg then none else
  some (σ.2.1 1 0 (m_X11_placeOf x1 x2 σ).toNatClampNeg)
set_option maxRecDepth 100000 in
set_option maxHeartbeats 4000000 in
theorem c_X11_of (x1 : Int32) (x2 : Int32) (σ : SS) {r : Int32} (hm : m_X11_of x1 x2 σ = some r) : XM LM 4 M_X11_of [aR 0 0, aI x1, aI x2] σ (some (aI r)) σ := by
  refine XM.of (K := K11) (by decide) (by decide +kernel) K11_ok (Nat.le_of_ble_eq_true rfl) (fun Γ B q => ?_)
  unfold m_X11_of at hm
  refine XW.bk B [(0, .aload_n 0), (1, .iload_n 1), (2, .iload_n 2)] (by decide +kernel) (pc1 := 3) (ls1 := [some (aR 0 0), some (aI x1), some (aI x2), none]) (st1 := [aI x2, aI x1, aR 0 0]) (σ1 := σ) (P := []) rfl trivial ?_
  refine XW.callV B (M := M_X11_placeOf) (t := 0) (j := 0) (cn := 1) (as := [aI x1, aI x2]) (c_X11_placeOf x1 x2 σ rfl) (by decide) wV_X11_placeOf wN_X11_placeOf lk_X11_126 rfl rfl rfl (by decide) rfl (Nat.le_of_ble_eq_true rfl) (by decide +kernel) ?_
  refine XW.bb B [(6, .istore_n 3), (7, .iload_n 3)] (by decide +kernel) (pc1 := 8) (ls1 := [some (aR 0 0), some (aI x1), some (aI x2), some (aI (m_X11_placeOf x1 x2 σ))]) (st1 := [aI (m_X11_placeOf x1 x2 σ)]) (σ1 := σ) (P := []) (i := .ifCond .lt 12) (tgt := 20) (q := (m_X11_placeOf x1 x2 σ) < (0 : Int32)) rfl trivial (by decide +kernel) rfl (by decide) (fun h1 => ?_) (fun h1 => ?_)
  · rw [if_pos h1] at hm
    refine XW.bk B [(20, .iconst (-1))] (by decide +kernel) (pc1 := 21) (ls1 := [some (aR 0 0), some (aI x1), some (aI x2), some (aI (m_X11_placeOf x1 x2 σ))]) (st1 := [aI (-1 : Int32)]) (σ1 := σ) (P := []) rfl trivial ?_
    obtain rfl := Option.some.inj hm
    exact XW.iret B q (by decide +kernel)
  · rw [if_neg h1] at hm
    refine XW.bk B [(11, .aload_n 0), (12, .getfield 11), (15, .iload_n 3)] (by decide +kernel) (pc1 := 16) (ls1 := [some (aR 0 0), some (aI x1), some (aI x2), some (aI (m_X11_placeOf x1 x2 σ))]) (st1 := [aI (m_X11_placeOf x1 x2 σ), aR 1 0]) (σ1 := σ) (P := []) rfl trivial ?_
    by_cases g2 : (m_X11_placeOf x1 x2 σ) < 0 ∨ 88 ≤ (m_X11_placeOf x1 x2 σ).toNatClampNeg
    · rw [if_pos g2] at hm; cases hm
    rw [if_neg g2] at hm
    refine XW.bk B [(16, .iaload), (17, .goto 4)] (by decide +kernel) (pc1 := 21) (ls1 := [some (aR 0 0), some (aI x1), some (aI x2), some (aI (m_X11_placeOf x1 x2 σ))]) (st1 := [aI (σ.2.1 1 0 (m_X11_placeOf x1 x2 σ).toNatClampNeg)]) (σ1 := σ) (P := [vp_in (m_X11_placeOf x1 x2 σ) 88]) rfl ⟨g2, trivial⟩ ?_
    obtain rfl := Option.some.inj hm
    exact XW.iret B q (by decide +kernel)

def m_X11_windAt (x1 : Int32) (x2 : Int32) (σ : SS) : Option (Int32) :=
  if ((24 : Int32) + x1) < 0 ∨ 88 ≤ ((24 : Int32) + x1).toNatClampNeg then none else
  if (σ.2.1 1 0 ((24 : Int32) + x1).toNatClampNeg) = 0 then none else
  if ((36 : Int32) + x1) < 0 ∨ 88 ≤ ((36 : Int32) + x1).toNatClampNeg then none else
  if (σ.2.1 1 0 ((36 : Int32) + x1).toNatClampNeg) ≤ (x2 - (x2 / (σ.2.1 1 0 ((24 : Int32) + x1).toNatClampNeg)) * (σ.2.1 1 0 ((24 : Int32) + x1).toNatClampNeg)) then
    if ((12 : Int32) + x1) < 0 ∨ 88 ≤ ((12 : Int32) + x1).toNatClampNeg then none else
    some (σ.2.1 1 0 ((12 : Int32) + x1).toNatClampNeg)
  else
  if x1 < 0 ∨ 88 ≤ x1.toNatClampNeg then none else
  some ((σ.2.1 1 0 x1.toNatClampNeg) + (σ.1 0 0 7))
set_option maxRecDepth 100000 in
set_option maxHeartbeats 4000000 in
theorem c_X11_windAt (x1 : Int32) (x2 : Int32) (σ : SS) {r : Int32} (hm : m_X11_windAt x1 x2 σ = some r) : XM LM 1 M_X11_windAt [aR 0 0, aI x1, aI x2] σ (some (aI r)) σ := by
  refine XM.of (K := K11) (by decide) (by decide +kernel) K11_ok (Nat.le_of_ble_eq_true rfl) (fun Γ B q => ?_)
  unfold m_X11_windAt at hm
  refine XW.bk B [(0, .iload_n 2), (1, .aload_n 0), (2, .getfield 11), (5, .bipush 24), (7, .iload_n 1), (8, .iadd)] (by decide +kernel) (pc1 := 9) (ls1 := [some (aR 0 0), some (aI x1), some (aI x2)]) (st1 := [aI ((24 : Int32) + x1), aR 1 0, aI x2]) (σ1 := σ) (P := []) rfl trivial ?_
  by_cases g1 : ((24 : Int32) + x1) < 0 ∨ 88 ≤ ((24 : Int32) + x1).toNatClampNeg
  · rw [if_pos g1] at hm; cases hm
  rw [if_neg g1] at hm
  refine XW.bk B [(9, .iaload)] (by decide +kernel) (pc1 := 10) (ls1 := [some (aR 0 0), some (aI x1), some (aI x2)]) (st1 := [aI (σ.2.1 1 0 ((24 : Int32) + x1).toNatClampNeg), aI x2]) (σ1 := σ) (P := [vp_in ((24 : Int32) + x1) 88]) rfl ⟨g1, trivial⟩ ?_
  by_cases g2 : (σ.2.1 1 0 ((24 : Int32) + x1).toNatClampNeg) = 0
  · rw [if_pos g2] at hm; cases hm
  rw [if_neg g2] at hm
  refine XW.bk B [(10, .irem), (11, .aload_n 0), (12, .getfield 11), (15, .bipush 36), (17, .iload_n 1), (18, .iadd)] (by decide +kernel) (pc1 := 19) (ls1 := [some (aR 0 0), some (aI x1), some (aI x2)]) (st1 := [aI ((36 : Int32) + x1), aR 1 0, aI (x2 - (x2 / (σ.2.1 1 0 ((24 : Int32) + x1).toNatClampNeg)) * (σ.2.1 1 0 ((24 : Int32) + x1).toNatClampNeg))]) (σ1 := σ) (P := [¬ (σ.2.1 1 0 ((24 : Int32) + x1).toNatClampNeg) = 0]) rfl ⟨g2, trivial⟩ ?_
  by_cases g3 : ((36 : Int32) + x1) < 0 ∨ 88 ≤ ((36 : Int32) + x1).toNatClampNeg
  · rw [if_pos g3] at hm; cases hm
  rw [if_neg g3] at hm
  refine XW.bb B [(19, .iaload)] (by decide +kernel) (pc1 := 20) (ls1 := [some (aR 0 0), some (aI x1), some (aI x2)]) (st1 := [aI (σ.2.1 1 0 ((36 : Int32) + x1).toNatClampNeg), aI (x2 - (x2 / (σ.2.1 1 0 ((24 : Int32) + x1).toNatClampNeg)) * (σ.2.1 1 0 ((24 : Int32) + x1).toNatClampNeg))]) (σ1 := σ) (P := [vp_in ((36 : Int32) + x1) 88]) (i := .if_icmp .ge 17) (tgt := 37) (q := (σ.2.1 1 0 ((36 : Int32) + x1).toNatClampNeg) ≤ (x2 - (x2 / (σ.2.1 1 0 ((24 : Int32) + x1).toNatClampNeg)) * (σ.2.1 1 0 ((24 : Int32) + x1).toNatClampNeg))) rfl ⟨g3, trivial⟩ (by decide +kernel) rfl (by decide) (fun h4 => ?_) (fun h4 => ?_)
  · rw [if_pos h4] at hm
    refine XW.bk B [(37, .aload_n 0), (38, .getfield 11), (41, .bipush 12), (43, .iload_n 1), (44, .iadd)] (by decide +kernel) (pc1 := 45) (ls1 := [some (aR 0 0), some (aI x1), some (aI x2)]) (st1 := [aI ((12 : Int32) + x1), aR 1 0]) (σ1 := σ) (P := []) rfl trivial ?_
    by_cases g5 : ((12 : Int32) + x1) < 0 ∨ 88 ≤ ((12 : Int32) + x1).toNatClampNeg
    · rw [if_pos g5] at hm; cases hm
    rw [if_neg g5] at hm
    refine XW.bk B [(45, .iaload)] (by decide +kernel) (pc1 := 46) (ls1 := [some (aR 0 0), some (aI x1), some (aI x2)]) (st1 := [aI (σ.2.1 1 0 ((12 : Int32) + x1).toNatClampNeg)]) (σ1 := σ) (P := [vp_in ((12 : Int32) + x1) 88]) rfl ⟨g5, trivial⟩ ?_
    obtain rfl := Option.some.inj hm
    exact XW.iret B q (by decide +kernel)
  · rw [if_neg h4] at hm
    refine XW.bk B [(23, .aload_n 0), (24, .getfield 11), (27, .iload_n 1)] (by decide +kernel) (pc1 := 28) (ls1 := [some (aR 0 0), some (aI x1), some (aI x2)]) (st1 := [aI x1, aR 1 0]) (σ1 := σ) (P := []) rfl trivial ?_
    by_cases g6 : x1 < 0 ∨ 88 ≤ x1.toNatClampNeg
    · rw [if_pos g6] at hm; cases hm
    rw [if_neg g6] at hm
    refine XW.bk B [(28, .iaload), (29, .aload_n 0), (30, .getfield 137), (33, .iadd), (34, .goto 12)] (by decide +kernel) (pc1 := 46) (ls1 := [some (aR 0 0), some (aI x1), some (aI x2)]) (st1 := [aI ((σ.2.1 1 0 x1.toNatClampNeg) + (σ.1 0 0 7))]) (σ1 := σ) (P := [vp_in x1 88]) rfl ⟨g6, trivial⟩ ?_
    obtain rfl := Option.some.inj hm
    exact XW.iret B q (by decide +kernel)

def m_X11_wind (x1 : Int32) (x2 : Int32) (σ : SS) : Option (Int32) :=
  if (m_X11_isPlace x1 σ) = (0 : Int32) then
    some (-1 : Int32)
  else
  if (m_X11_within x2.toInt64 (0 : Int64) (9999 : Int64)) = (0 : Int32) then
    some (-1 : Int32)
  else
  Option.bind (m_X11_windAt x1 x2 σ) (fun q3 =>
  some q3)
set_option maxRecDepth 100000 in
set_option maxHeartbeats 4000000 in
theorem c_X11_wind (x1 : Int32) (x2 : Int32) (σ : SS) {r : Int32} (hm : m_X11_wind x1 x2 σ = some r) : XM LM 3 M_X11_wind [aR 0 0, aI x1, aI x2] σ (some (aI r)) σ := by
  refine XM.of (K := K11) (by decide) (by decide +kernel) K11_ok (Nat.le_of_ble_eq_true rfl) (fun Γ B q => ?_)
  unfold m_X11_wind at hm
  refine XW.bk B [(0, .aload_n 0), (1, .iload_n 1)] (by decide +kernel) (pc1 := 2) (ls1 := [some (aR 0 0), some (aI x1), some (aI x2)]) (st1 := [aI x1, aR 0 0]) (σ1 := σ) (P := []) rfl trivial ?_
  refine XW.callV B (M := M_X11_isPlace) (t := 0) (j := 0) (cn := 1) (as := [aI x1]) (c_X11_isPlace x1 σ rfl) (by decide) wV_X11_isPlace wN_X11_isPlace lk_X11_111 rfl rfl rfl (by decide) rfl (Nat.le_of_ble_eq_true rfl) (by decide +kernel) ?_
  refine XW.bb B [] (by decide +kernel) (pc1 := 5) (ls1 := [some (aR 0 0), some (aI x1), some (aI x2)]) (st1 := [aI (m_X11_isPlace x1 σ)]) (σ1 := σ) (P := []) (i := .ifCond .eq 24) (tgt := 29) (q := (m_X11_isPlace x1 σ) = (0 : Int32)) rfl trivial (by decide +kernel) rfl (by decide) (fun h1 => ?_) (fun h1 => ?_)
  · rw [if_pos h1] at hm
    refine XW.bk B [(29, .iconst (-1))] (by decide +kernel) (pc1 := 30) (ls1 := [some (aR 0 0), some (aI x1), some (aI x2)]) (st1 := [aI (-1 : Int32)]) (σ1 := σ) (P := []) rfl trivial ?_
    obtain rfl := Option.some.inj hm
    exact XW.iret B q (by decide +kernel)
  · rw [if_neg h1] at hm
    refine XW.bk B [(8, .iload_n 2), (9, .i2l), (10, .lconst 0), (11, .ldc2_w 140)] (by decide +kernel) (pc1 := 14) (ls1 := [some (aR 0 0), some (aI x1), some (aI x2)]) (st1 := [aJ (9999 : Int64), aJ (0 : Int64), aJ x2.toInt64]) (σ1 := σ) (P := []) rfl trivial ?_
    refine XW.callS B (M := M_X11_within) (as := [aJ x2.toInt64, aJ (0 : Int64), aJ (9999 : Int64)]) (c_X11_within x2.toInt64 (0 : Int64) (9999 : Int64) σ rfl) (by decide) wS_X11_within wN_X11_within lk_X11_84 rfl (Nat.le_of_ble_eq_true rfl) (by decide +kernel) ?_
    refine XW.bb B [] (by decide +kernel) (pc1 := 17) (ls1 := [some (aR 0 0), some (aI x1), some (aI x2)]) (st1 := [aI (m_X11_within x2.toInt64 (0 : Int64) (9999 : Int64))]) (σ1 := σ) (P := []) (i := .ifCond .eq 12) (tgt := 29) (q := (m_X11_within x2.toInt64 (0 : Int64) (9999 : Int64)) = (0 : Int32)) rfl trivial (by decide +kernel) rfl (by decide) (fun h2 => ?_) (fun h2 => ?_)
    · rw [if_pos h2] at hm
      refine XW.bk B [(29, .iconst (-1))] (by decide +kernel) (pc1 := 30) (ls1 := [some (aR 0 0), some (aI x1), some (aI x2)]) (st1 := [aI (-1 : Int32)]) (σ1 := σ) (P := []) rfl trivial ?_
      obtain rfl := Option.some.inj hm
      exact XW.iret B q (by decide +kernel)
    · rw [if_neg h2] at hm
      refine XW.bk B [(20, .aload_n 0), (21, .iload_n 1), (22, .iload_n 2)] (by decide +kernel) (pc1 := 23) (ls1 := [some (aR 0 0), some (aI x1), some (aI x2)]) (st1 := [aI x2, aI x1, aR 0 0]) (σ1 := σ) (P := []) rfl trivial ?_
      obtain ⟨q3, hq3, hm⟩ := obind_eq hm
      refine XW.callV B (M := M_X11_windAt) (t := 0) (j := 0) (cn := 1) (as := [aI x1, aI x2]) (c_X11_windAt x1 x2 σ hq3) (by decide) wV_X11_windAt wN_X11_windAt lk_X11_142 rfl rfl rfl (by decide) rfl (Nat.le_of_ble_eq_true rfl) (by decide +kernel) ?_
      refine XW.bk B [(26, .goto 4)] (by decide +kernel) (pc1 := 30) (ls1 := [some (aR 0 0), some (aI x1), some (aI x2)]) (st1 := [aI q3]) (σ1 := σ) (P := []) rfl trivial ?_
      obtain rfl := Option.some.inj hm
      exact XW.iret B q (by decide +kernel)

def m_X11_feed (x1 : Int32) (σ : SS) : Option (Int32 × SS) :=
  if (m_X11_within x1.toInt64 (0 : Int64) (255 : Int64)) = (0 : Int32) then
    some ((-1 : Int32), σ)
  else
  if (σ.1 0 0 9) = (120 : Int32) then
    some ((-3 : Int32), σ)
  else
  if (σ.1 0 0 9) < 0 ∨ 120 ≤ (σ.1 0 0 9).toNatClampNeg then none else
  some (((σ.1 0 0 9) + (1 : Int32)), (sI (sA σ 5 0 (σ.1 0 0 9).toNatClampNeg x1) 0 0 9 ((σ.1 0 0 9) + (1 : Int32))))
set_option maxRecDepth 100000 in
set_option maxHeartbeats 4000000 in
theorem c_X11_feed (x1 : Int32) (σ : SS) {r : Int32} {σ' : SS} (hm : m_X11_feed x1 σ = some (r, σ')) : XM LM 2 M_X11_feed [aR 0 0, aI x1] σ (some (aI r)) σ' := by
  refine XM.of (K := K11) (by decide) (by decide +kernel) K11_ok (Nat.le_of_ble_eq_true rfl) (fun Γ B q => ?_)
  unfold m_X11_feed at hm
  refine XW.bk B [(0, .iload_n 1), (1, .i2l), (2, .lconst 0), (3, .ldc2_w 145)] (by decide +kernel) (pc1 := 6) (ls1 := [some (aR 0 0), some (aI x1)]) (st1 := [aJ (255 : Int64), aJ (0 : Int64), aJ x1.toInt64]) (σ1 := σ) (P := []) rfl trivial ?_
  refine XW.callS B (M := M_X11_within) (as := [aJ x1.toInt64, aJ (0 : Int64), aJ (255 : Int64)]) (c_X11_within x1.toInt64 (0 : Int64) (255 : Int64) σ rfl) (by decide) wS_X11_within wN_X11_within lk_X11_84 rfl (Nat.le_of_ble_eq_true rfl) (by decide +kernel) ?_
  refine XW.bn B [] (by decide +kernel) (pc1 := 9) (ls1 := [some (aR 0 0), some (aI x1)]) (st1 := [aI (m_X11_within x1.toInt64 (0 : Int64) (255 : Int64))]) (σ1 := σ) (P := []) (i := .ifCond .ne 5) (tgt := 14) (q := (m_X11_within x1.toInt64 (0 : Int64) (255 : Int64)) = (0 : Int32)) rfl trivial (by decide +kernel) rfl (by decide) (fun h1 => ?_) (fun h1 => ?_)
  · rw [if_pos h1] at hm
    refine XW.bk B [(12, .iconst (-1))] (by decide +kernel) (pc1 := 13) (ls1 := [some (aR 0 0), some (aI x1)]) (st1 := [aI (-1 : Int32)]) (σ1 := σ) (P := []) rfl trivial ?_
    obtain ⟨rfl, rfl⟩ := Prod.mk.inj (Option.some.inj hm)
    exact XW.iret B q (by decide +kernel)
  · rw [if_neg h1] at hm
    refine XW.bn B [(14, .aload_n 0), (15, .getfield 147), (18, .bipush 120)] (by decide +kernel) (pc1 := 20) (ls1 := [some (aR 0 0), some (aI x1)]) (st1 := [aI (120 : Int32), aI (σ.1 0 0 9)]) (σ1 := σ) (P := []) (i := .if_icmp .ne 6) (tgt := 26) (q := (σ.1 0 0 9) = (120 : Int32)) rfl trivial (by decide +kernel) rfl (by decide) (fun h2 => ?_) (fun h2 => ?_)
    · rw [if_pos h2] at hm
      refine XW.bk B [(23, .bipush (-3))] (by decide +kernel) (pc1 := 25) (ls1 := [some (aR 0 0), some (aI x1)]) (st1 := [aI (-3 : Int32)]) (σ1 := σ) (P := []) rfl trivial ?_
      obtain ⟨rfl, rfl⟩ := Prod.mk.inj (Option.some.inj hm)
      exact XW.iret B q (by decide +kernel)
    · rw [if_neg h2] at hm
      refine XW.bk B [(26, .aload_n 0), (27, .getfield 24), (30, .aload_n 0), (31, .getfield 147), (34, .iload_n 1)] (by decide +kernel) (pc1 := 35) (ls1 := [some (aR 0 0), some (aI x1)]) (st1 := [aI x1, aI (σ.1 0 0 9), aR 5 0]) (σ1 := σ) (P := []) rfl trivial ?_
      by_cases g3 : (σ.1 0 0 9) < 0 ∨ 120 ≤ (σ.1 0 0 9).toNatClampNeg
      · rw [if_pos g3] at hm; cases hm
      rw [if_neg g3] at hm
      refine XW.bk B [(35, .iastore), (36, .aload_n 0), (37, .dup), (38, .getfield 147), (41, .iconst 1), (42, .iadd), (43, .putfield 147), (46, .aload_n 0), (47, .getfield 147)] (by decide +kernel) (pc1 := 50) (ls1 := [some (aR 0 0), some (aI x1)]) (st1 := [aI ((σ.1 0 0 9) + (1 : Int32))]) (σ1 := (sI (sA σ 5 0 (σ.1 0 0 9).toNatClampNeg x1) 0 0 9 ((σ.1 0 0 9) + (1 : Int32)))) (P := [vp_in (σ.1 0 0 9) 120]) rfl ⟨g3, trivial⟩ ?_
      obtain ⟨rfl, rfl⟩ := Prod.mk.inj (Option.some.inj hm)
      exact XW.iret B q (by decide +kernel)

def m_X11_byteAt (σ : SS) : Option (Int32) :=
  if (σ.1 0 0 14) ≤ (σ.1 0 0 13) then
    some (0 : Int32)
  else
  if (0 : Int32) ≤ (σ.1 0 0 12) then
    if ((σ.1 0 0 12) + (σ.1 0 0 13)) < 0 ∨ 120 ≤ ((σ.1 0 0 12) + (σ.1 0 0 13)).toNatClampNeg then none else
    some (σ.2.1 6 0 ((σ.1 0 0 12) + (σ.1 0 0 13)).toNatClampNeg)
  else
  if (σ.1 0 0 13) < 0 ∨ 120 ≤ (σ.1 0 0 13).toNatClampNeg then none else
  some (σ.2.1 5 0 (σ.1 0 0 13).toNatClampNeg)
set_option maxRecDepth 100000 in
set_option maxHeartbeats 4000000 in
theorem c_X11_byteAt (σ : SS) {r : Int32} (hm : m_X11_byteAt σ = some r) : XM LM 1 M_X11_byteAt [aR 0 0] σ (some (aI r)) σ := by
  refine XM.of (K := K11) (by decide) (by decide +kernel) K11_ok (Nat.le_of_ble_eq_true rfl) (fun Γ B q => ?_)
  unfold m_X11_byteAt at hm
  refine XW.bb B [(0, .aload_n 0), (1, .getfield 150), (4, .aload_n 0), (5, .getfield 153)] (by decide +kernel) (pc1 := 8) (ls1 := [some (aR 0 0)]) (st1 := [aI (σ.1 0 0 14), aI (σ.1 0 0 13)]) (σ1 := σ) (P := []) (i := .if_icmp .ge 39) (tgt := 47) (q := (σ.1 0 0 14) ≤ (σ.1 0 0 13)) rfl trivial (by decide +kernel) rfl (by decide) (fun h1 => ?_) (fun h1 => ?_)
  · rw [if_pos h1] at hm
    refine XW.bk B [(47, .iconst 0)] (by decide +kernel) (pc1 := 48) (ls1 := [some (aR 0 0)]) (st1 := [aI (0 : Int32)]) (σ1 := σ) (P := []) rfl trivial ?_
    obtain rfl := Option.some.inj hm
    exact XW.iret B q (by decide +kernel)
  · rw [if_neg h1] at hm
    refine XW.bb B [(11, .aload_n 0), (12, .getfield 156)] (by decide +kernel) (pc1 := 15) (ls1 := [some (aR 0 0)]) (st1 := [aI (σ.1 0 0 12)]) (σ1 := σ) (P := []) (i := .ifCond .ge 15) (tgt := 30) (q := (0 : Int32) ≤ (σ.1 0 0 12)) rfl trivial (by decide +kernel) rfl (by decide) (fun h2 => ?_) (fun h2 => ?_)
    · rw [if_pos h2] at hm
      refine XW.bk B [(30, .aload_n 0), (31, .getfield 27), (34, .aload_n 0), (35, .getfield 156), (38, .aload_n 0), (39, .getfield 150), (42, .iadd)] (by decide +kernel) (pc1 := 43) (ls1 := [some (aR 0 0)]) (st1 := [aI ((σ.1 0 0 12) + (σ.1 0 0 13)), aR 6 0]) (σ1 := σ) (P := []) rfl trivial ?_
      by_cases g3 : ((σ.1 0 0 12) + (σ.1 0 0 13)) < 0 ∨ 120 ≤ ((σ.1 0 0 12) + (σ.1 0 0 13)).toNatClampNeg
      · rw [if_pos g3] at hm; cases hm
      rw [if_neg g3] at hm
      refine XW.bk B [(43, .iaload), (44, .goto 4)] (by decide +kernel) (pc1 := 48) (ls1 := [some (aR 0 0)]) (st1 := [aI (σ.2.1 6 0 ((σ.1 0 0 12) + (σ.1 0 0 13)).toNatClampNeg)]) (σ1 := σ) (P := [vp_in ((σ.1 0 0 12) + (σ.1 0 0 13)) 120]) rfl ⟨g3, trivial⟩ ?_
      obtain rfl := Option.some.inj hm
      exact XW.iret B q (by decide +kernel)
    · rw [if_neg h2] at hm
      refine XW.bk B [(18, .aload_n 0), (19, .getfield 24), (22, .aload_n 0), (23, .getfield 150)] (by decide +kernel) (pc1 := 26) (ls1 := [some (aR 0 0)]) (st1 := [aI (σ.1 0 0 13), aR 5 0]) (σ1 := σ) (P := []) rfl trivial ?_
      by_cases g4 : (σ.1 0 0 13) < 0 ∨ 120 ≤ (σ.1 0 0 13).toNatClampNeg
      · rw [if_pos g4] at hm; cases hm
      rw [if_neg g4] at hm
      refine XW.bk B [(26, .iaload), (27, .goto 21)] (by decide +kernel) (pc1 := 48) (ls1 := [some (aR 0 0)]) (st1 := [aI (σ.2.1 5 0 (σ.1 0 0 13).toNatClampNeg)]) (σ1 := σ) (P := [vp_in (σ.1 0 0 13) 120]) rfl ⟨g4, trivial⟩ ?_
      obtain rfl := Option.some.inj hm
      exact XW.iret B q (by decide +kernel)

def m_X11_wrong (σ : SS) : Int32 × SS :=
  if (0 : Int32) ≤ (σ.1 0 0 15) then
    ((0 : Int32), (sI σ 0 0 15 (σ.1 0 0 15)))
  else
  ((0 : Int32), (sI σ 0 0 15 (σ.1 0 0 13)))
set_option maxRecDepth 100000 in
set_option maxHeartbeats 4000000 in
theorem c_X11_wrong (σ : SS) {r : Int32} {σ' : SS} (hm : m_X11_wrong σ = (r, σ')) : XM LM 1 M_X11_wrong [aR 0 0] σ (some (aI r)) σ' := by
  refine XM.of (K := K11) (by decide) (by decide +kernel) K11_ok (Nat.le_of_ble_eq_true rfl) (fun Γ B q => ?_)
  unfold m_X11_wrong at hm
  refine XW.bb B [(0, .aload_n 0), (1, .aload_n 0), (2, .getfield 159)] (by decide +kernel) (pc1 := 5) (ls1 := [some (aR 0 0)]) (st1 := [aI (σ.1 0 0 15), aR 0 0]) (σ1 := σ) (P := []) (i := .ifCond .ge 10) (tgt := 15) (q := (0 : Int32) ≤ (σ.1 0 0 15)) rfl trivial (by decide +kernel) rfl (by decide) (fun h1 => ?_) (fun h1 => ?_)
  · rw [if_pos h1] at hm
    refine XW.bk B [(15, .aload_n 0), (16, .getfield 159), (19, .putfield 159), (22, .iconst 0)] (by decide +kernel) (pc1 := 23) (ls1 := [some (aR 0 0)]) (st1 := [aI (0 : Int32)]) (σ1 := (sI σ 0 0 15 (σ.1 0 0 15))) (P := []) rfl trivial ?_
    obtain ⟨rfl, rfl⟩ := Prod.mk.inj (hm)
    exact XW.iret B q (by decide +kernel)
  · rw [if_neg h1] at hm
    refine XW.bk B [(8, .aload_n 0), (9, .getfield 150), (12, .goto 7), (19, .putfield 159), (22, .iconst 0)] (by decide +kernel) (pc1 := 23) (ls1 := [some (aR 0 0)]) (st1 := [aI (0 : Int32)]) (σ1 := (sI σ 0 0 15 (σ.1 0 0 13))) (P := []) rfl trivial ?_
    obtain ⟨rfl, rfl⟩ := Prod.mk.inj (hm)
    exact XW.iret B q (by decide +kernel)

def m_X11_takes (x1 : Int32) (σ : SS) : Option (Int32 × SS) :=
  if (0 : Int32) ≤ (σ.1 0 0 15) then
    some ((0 : Int32), σ)
  else
  Option.bind (m_X11_byteAt σ) (fun q2 =>
  if q2 = x1 then
    some ((1 : Int32), (sI σ 0 0 13 ((σ.1 0 0 13) + (1 : Int32))))
  else
  some ((0 : Int32), σ))
set_option maxRecDepth 100000 in
set_option maxHeartbeats 4000000 in
theorem c_X11_takes (x1 : Int32) (σ : SS) {r : Int32} {σ' : SS} (hm : m_X11_takes x1 σ = some (r, σ')) : XM LM 2 M_X11_takes [aR 0 0, aI x1] σ (some (aI r)) σ' := by
  refine XM.of (K := K11) (by decide) (by decide +kernel) K11_ok (Nat.le_of_ble_eq_true rfl) (fun Γ B q => ?_)
  unfold m_X11_takes at hm
  refine XW.bb B [(0, .aload_n 0), (1, .getfield 159)] (by decide +kernel) (pc1 := 4) (ls1 := [some (aR 0 0), some (aI x1)]) (st1 := [aI (σ.1 0 0 15)]) (σ1 := σ) (P := []) (i := .ifCond .ge 11) (tgt := 15) (q := (0 : Int32) ≤ (σ.1 0 0 15)) rfl trivial (by decide +kernel) rfl (by decide) (fun h1 => ?_) (fun h1 => ?_)
  · rw [if_pos h1] at hm
    refine XW.bk B [(15, .iconst 0)] (by decide +kernel) (pc1 := 16) (ls1 := [some (aR 0 0), some (aI x1)]) (st1 := [aI (0 : Int32)]) (σ1 := σ) (P := []) rfl trivial ?_
    obtain ⟨rfl, rfl⟩ := Prod.mk.inj (Option.some.inj hm)
    exact XW.zret B q (Or.inl rfl) (by decide +kernel)
  · rw [if_neg h1] at hm
    refine XW.bk B [(7, .aload_n 0)] (by decide +kernel) (pc1 := 8) (ls1 := [some (aR 0 0), some (aI x1)]) (st1 := [aR 0 0]) (σ1 := σ) (P := []) rfl trivial ?_
    obtain ⟨q2, hq2, hm⟩ := obind_eq hm
    refine XW.callV B (M := M_X11_byteAt) (t := 0) (j := 0) (cn := 1) (as := []) (c_X11_byteAt σ hq2) (by decide) wV_X11_byteAt wN_X11_byteAt lk_X11_162 rfl rfl rfl (by decide) rfl (Nat.le_of_ble_eq_true rfl) (by decide +kernel) ?_
    refine XW.bb B [(11, .iload_n 1)] (by decide +kernel) (pc1 := 12) (ls1 := [some (aR 0 0), some (aI x1)]) (st1 := [aI x1, aI q2]) (σ1 := σ) (P := []) (i := .if_icmp .eq 5) (tgt := 17) (q := q2 = x1) rfl trivial (by decide +kernel) rfl (by decide) (fun h3 => ?_) (fun h3 => ?_)
    · rw [if_pos h3] at hm
      refine XW.bk B [(17, .aload_n 0), (18, .dup), (19, .getfield 150), (22, .iconst 1), (23, .iadd), (24, .putfield 150), (27, .iconst 1)] (by decide +kernel) (pc1 := 28) (ls1 := [some (aR 0 0), some (aI x1)]) (st1 := [aI (1 : Int32)]) (σ1 := (sI σ 0 0 13 ((σ.1 0 0 13) + (1 : Int32)))) (P := []) rfl trivial ?_
      obtain ⟨rfl, rfl⟩ := Prod.mk.inj (Option.some.inj hm)
      exact XW.zret B q (Or.inr rfl) (by decide +kernel)
    · rw [if_neg h3] at hm
      refine XW.bk B [(15, .iconst 0)] (by decide +kernel) (pc1 := 16) (ls1 := [some (aR 0 0), some (aI x1)]) (st1 := [aI (0 : Int32)]) (σ1 := σ) (P := []) rfl trivial ?_
      obtain ⟨rfl, rfl⟩ := Prod.mk.inj (Option.some.inj hm)
      exact XW.zret B q (Or.inl rfl) (by decide +kernel)

def m_X11_nameOf (x1 : Int32) : Int32 :=
  if x1 = (104 : Int32) then
    (1 : Int32)
  else
  if x1 = (107 : Int32) then
    (3 : Int32)
  else
  if x1 = (109 : Int32) then
    (2 : Int32)
  else
  if x1 = (112 : Int32) then
    (5 : Int32)
  else
  if x1 = (115 : Int32) then
    (4 : Int32)
  else
  if x1 = (119 : Int32) then
    (0 : Int32)
  else
  (-1 : Int32)
set_option maxRecDepth 100000 in
set_option maxHeartbeats 4000000 in
theorem c_X11_nameOf (x1 : Int32) (σ : SS) {r : Int32} (hm : m_X11_nameOf x1 = r) : XM LM 1 M_X11_nameOf [aI x1] σ (some (aI r)) σ := by
  refine XM.of (K := K11) (by decide) (by decide +kernel) K11_ok (Nat.le_of_ble_eq_true rfl) (fun Γ B q => ?_)
  unfold m_X11_nameOf at hm
  refine XW.bk B [(0, .iload_n 0)] (by decide +kernel) (pc1 := 1) (ls1 := [some (aI x1)]) (st1 := [aI x1]) (σ1 := σ) (P := []) rfl trivial ?_
  by_cases h1 : x1 = (104 : Int32)
  · rw [if_pos h1] at hm
    refine XW.tsI B (104 : Int32) (dflt := 91) (n := 79) (lo := 104) (hi := 119) (offs := #[81, 91, 91, 85, 91, 83, 91, 91, 89, 91, 91, 87, 91, 91, 91, 79]) (off := 81) (by decide +kernel) h1 (by decide +kernel) (tgt := 82) (by decide) ?_
    refine XW.bk B [(82, .iconst 1)] (by decide +kernel) (pc1 := 83) (ls1 := [some (aI x1)]) (st1 := [aI (1 : Int32)]) (σ1 := σ) (P := []) rfl trivial ?_
    subst hm
    exact XW.iret B q (by decide +kernel)
  rw [if_neg h1] at hm
  by_cases h2 : x1 = (107 : Int32)
  · rw [if_pos h2] at hm
    refine XW.tsI B (107 : Int32) (dflt := 91) (n := 79) (lo := 104) (hi := 119) (offs := #[81, 91, 91, 85, 91, 83, 91, 91, 89, 91, 91, 87, 91, 91, 91, 79]) (off := 85) (by decide +kernel) h2 (by decide +kernel) (tgt := 86) (by decide) ?_
    refine XW.bk B [(86, .iconst 3)] (by decide +kernel) (pc1 := 87) (ls1 := [some (aI x1)]) (st1 := [aI (3 : Int32)]) (σ1 := σ) (P := []) rfl trivial ?_
    subst hm
    exact XW.iret B q (by decide +kernel)
  rw [if_neg h2] at hm
  by_cases h3 : x1 = (109 : Int32)
  · rw [if_pos h3] at hm
    refine XW.tsI B (109 : Int32) (dflt := 91) (n := 79) (lo := 104) (hi := 119) (offs := #[81, 91, 91, 85, 91, 83, 91, 91, 89, 91, 91, 87, 91, 91, 91, 79]) (off := 83) (by decide +kernel) h3 (by decide +kernel) (tgt := 84) (by decide) ?_
    refine XW.bk B [(84, .iconst 2)] (by decide +kernel) (pc1 := 85) (ls1 := [some (aI x1)]) (st1 := [aI (2 : Int32)]) (σ1 := σ) (P := []) rfl trivial ?_
    subst hm
    exact XW.iret B q (by decide +kernel)
  rw [if_neg h3] at hm
  by_cases h4 : x1 = (112 : Int32)
  · rw [if_pos h4] at hm
    refine XW.tsI B (112 : Int32) (dflt := 91) (n := 79) (lo := 104) (hi := 119) (offs := #[81, 91, 91, 85, 91, 83, 91, 91, 89, 91, 91, 87, 91, 91, 91, 79]) (off := 89) (by decide +kernel) h4 (by decide +kernel) (tgt := 90) (by decide) ?_
    refine XW.bk B [(90, .iconst 5)] (by decide +kernel) (pc1 := 91) (ls1 := [some (aI x1)]) (st1 := [aI (5 : Int32)]) (σ1 := σ) (P := []) rfl trivial ?_
    subst hm
    exact XW.iret B q (by decide +kernel)
  rw [if_neg h4] at hm
  by_cases h5 : x1 = (115 : Int32)
  · rw [if_pos h5] at hm
    refine XW.tsI B (115 : Int32) (dflt := 91) (n := 79) (lo := 104) (hi := 119) (offs := #[81, 91, 91, 85, 91, 83, 91, 91, 89, 91, 91, 87, 91, 91, 91, 79]) (off := 87) (by decide +kernel) h5 (by decide +kernel) (tgt := 88) (by decide) ?_
    refine XW.bk B [(88, .iconst 4)] (by decide +kernel) (pc1 := 89) (ls1 := [some (aI x1)]) (st1 := [aI (4 : Int32)]) (σ1 := σ) (P := []) rfl trivial ?_
    subst hm
    exact XW.iret B q (by decide +kernel)
  rw [if_neg h5] at hm
  by_cases h6 : x1 = (119 : Int32)
  · rw [if_pos h6] at hm
    refine XW.tsI B (119 : Int32) (dflt := 91) (n := 79) (lo := 104) (hi := 119) (offs := #[81, 91, 91, 85, 91, 83, 91, 91, 89, 91, 91, 87, 91, 91, 91, 79]) (off := 79) (by decide +kernel) h6 (by decide +kernel) (tgt := 80) (by decide) ?_
    refine XW.bk B [(80, .iconst 0)] (by decide +kernel) (pc1 := 81) (ls1 := [some (aI x1)]) (st1 := [aI (0 : Int32)]) (σ1 := σ) (P := []) rfl trivial ?_
    subst hm
    exact XW.iret B q (by decide +kernel)
  rw [if_neg h6] at hm
  refine XW.tsD B [(104 : Int32), (107 : Int32), (109 : Int32), (112 : Int32), (115 : Int32), (119 : Int32)] (dflt := 91) (n := 79) (lo := 104) (hi := 119) (offs := #[81, 91, 91, 85, 91, 83, 91, 91, 89, 91, 91, 87, 91, 91, 91, 79]) (by decide +kernel) (List.forall_mem_cons.mpr ⟨h1, (List.forall_mem_cons.mpr ⟨h2, (List.forall_mem_cons.mpr ⟨h3, (List.forall_mem_cons.mpr ⟨h4, (List.forall_mem_cons.mpr ⟨h5, (List.forall_mem_cons.mpr ⟨h6, (fun _ hz => absurd hz List.not_mem_nil)⟩)⟩)⟩)⟩)⟩)⟩) (by decide +kernel) (by decide) (tgt := 92) (by decide) ?_
  refine XW.bk B [(92, .iconst (-1))] (by decide +kernel) (pc1 := 93) (ls1 := [some (aI x1)]) (st1 := [aI (-1 : Int32)]) (σ1 := σ) (P := []) rfl trivial ?_
  subst hm
  exact XW.iret B q (by decide +kernel)
