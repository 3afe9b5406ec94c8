def m_X3_isTold (σ : SS) : Int32 :=
  if (σ.1 7 0 4) ≤ (0 : Int32) then
    (0 : Int32)
  else
  (1 : Int32)
set_option maxRecDepth 100000 in
set_option maxHeartbeats 4000000 in
theorem c_X3_isTold (σ : SS) {r : Int32} (hm : m_X3_isTold σ = r) : XM LC 1 M_X3_isTold [aR 7 0] σ (some (aI r)) σ := by
  refine XM.of (K := K3) (by decide) (by decide +kernel) K3_ok (Nat.le_of_ble_eq_true rfl) (fun Γ B q => ?_)
  unfold m_X3_isTold at hm
  refine XW.bb B [(0, .aload_n 0), (1, .getfield 30)] (by decide +kernel) (pc1 := 4) (ls1 := [some (aR 7 0)]) (st1 := [aI (σ.1 7 0 4)]) (σ1 := σ) (P := []) (i := .ifCond .le 7) (tgt := 11) (q := (σ.1 7 0 4) ≤ (0 : Int32)) rfl trivial (by decide +kernel) rfl (by decide) (fun h1 => ?_) (fun h1 => ?_)
  · rw [if_pos h1] at hm
    refine XW.bk B [(11, .iconst 0)] (by decide +kernel) (pc1 := 12) (ls1 := [some (aR 7 0)]) (st1 := [aI (0 : Int32)]) (σ1 := σ) (P := []) rfl trivial ?_
    cases hm
    exact XW.zret B q (Or.inl rfl) (by decide +kernel)
  · rw [if_neg h1] at hm
    refine XW.bk B [(7, .iconst 1), (8, .goto 4)] (by decide +kernel) (pc1 := 12) (ls1 := [some (aR 7 0)]) (st1 := [aI (1 : Int32)]) (σ1 := σ) (P := []) rfl trivial ?_
    cases hm
    exact XW.zret B q (Or.inr rfl) (by decide +kernel)
theorem b_X3_isTold (σ : SS) : m_X3_isTold σ = 0 ∨ m_X3_isTold σ = 1 := by
  unfold m_X3_isTold
  (repeat' split) <;> first | exact Or.inl rfl | exact Or.inr rfl

def m_X3_push (x1 : Int32) (σ : SS) : SS :=
  if (σ.1 7 0 11) < (0 : Int32) then
    σ
  else
  if (σ.1 7 0 11) < (128 : Int32) then
    (sI (sA σ 13 0 (σ.1 7 0 11).toNatClampNeg x1) 7 0 11 ((σ.1 7 0 11) + (1 : Int32)))
  else
  σ
set_option maxRecDepth 100000 in
set_option maxHeartbeats 4000000 in
theorem c_X3_push (x1 : Int32) (σ : SS) {σ' : SS} (hm : m_X3_push x1 σ = σ') : XM LC 1 M_X3_push [aR 7 0, aI x1] σ none σ' := by
  refine XM.of (K := K3) (by decide) (by decide +kernel) K3_ok (Nat.le_of_ble_eq_true rfl) (fun Γ B q => ?_)
  unfold m_X3_push at hm
  refine XW.bb B [(0, .aload_n 0), (1, .getfield 84)] (by decide +kernel) (pc1 := 4) (ls1 := [some (aR 7 0), some (aI x1)]) (st1 := [aI (σ.1 7 0 11)]) (σ1 := σ) (P := []) (i := .ifCond .lt 13) (tgt := 17) (q := (σ.1 7 0 11) < (0 : Int32)) rfl trivial (by decide +kernel) rfl (by decide) (fun h1 => ?_) (fun h1 => ?_)
  · rw [if_pos h1] at hm
    cases hm
    exact XW.vret B q (by decide +kernel)
  · rw [if_neg h1] at hm
    refine XW.bb B [(7, .aload_n 0), (8, .getfield 84), (11, .sipush 128)] (by decide +kernel) (pc1 := 14) (ls1 := [some (aR 7 0), some (aI x1)]) (st1 := [aI (128 : Int32), aI (σ.1 7 0 11)]) (σ1 := σ) (P := []) (i := .if_icmp .lt 4) (tgt := 18) (q := (σ.1 7 0 11) < (128 : Int32)) rfl trivial (by decide +kernel) rfl (by decide) (fun h2 => ?_) (fun h2 => ?_)
    · rw [if_pos h2] at hm
      refine XW.bk B [(18, .aload_n 0), (19, .getfield 27), (22, .aload_n 0), (23, .getfield 84), (26, .iload_n 1), (27, .iastore), (28, .aload_n 0), (29, .dup), (30, .getfield 84), (33, .iconst 1), (34, .iadd), (35, .putfield 84)] (by decide +kernel) (pc1 := 38) (ls1 := [some (aR 7 0), some (aI x1)]) (st1 := []) (σ1 := (sI (sA σ 13 0 (σ.1 7 0 11).toNatClampNeg x1) 7 0 11 ((σ.1 7 0 11) + (1 : Int32)))) (P := [vp_in (σ.1 7 0 11) 128]) rfl ⟨(vin_b h1 h2 (by decide +kernel)), trivial⟩ ?_
      cases hm
      exact XW.vret B q (by decide +kernel)
    · rw [if_neg h2] at hm
      cases hm
      exact XW.vret B q (by decide +kernel)

def m_X3_pop (σ : SS) : Option (Int32 × SS) :=
  if (σ.1 7 0 11) < (1 : Int32) then
    some ((0 : Int32), σ)
  else
  if (σ.1 7 0 11) ≤ (128 : Int32) then
    if ((σ.1 7 0 11) - (1 : Int32)) < 0 ∨ 128 ≤ ((σ.1 7 0 11) - (1 : Int32)).toNatClampNeg then none else
    some ((σ.2.1 13 0 ((σ.1 7 0 11) - (1 : Int32)).toNatClampNeg), (sI σ 7 0 11 ((σ.1 7 0 11) - (1 : Int32))))
  else
  some ((0 : Int32), σ)
set_option maxRecDepth 100000 in
set_option maxHeartbeats 4000000 in
theorem c_X3_pop (σ : SS) {r : Int32} {σ' : SS} (hm : m_X3_pop σ = some (r, σ')) : XM LC 1 M_X3_pop [aR 7 0] σ (some (aI r)) σ' := by
  refine XM.of (K := K3) (by decide) (by decide +kernel) K3_ok (Nat.le_of_ble_eq_true rfl) (fun Γ B q => ?_)
  unfold m_X3_pop at hm
  refine XW.bb B [(0, .aload_n 0), (1, .getfield 84), (4, .iconst 1)] (by decide +kernel) (pc1 := 5) (ls1 := [some (aR 7 0)]) (st1 := [aI (1 : Int32), aI (σ.1 7 0 11)]) (σ1 := σ) (P := []) (i := .if_icmp .lt 13) (tgt := 18) (q := (σ.1 7 0 11) < (1 : Int32)) rfl trivial (by decide +kernel) rfl (by decide) (fun h1 => ?_) (fun h1 => ?_)
  · rw [if_pos h1] at hm
    refine XW.bk B [(18, .iconst 0)] (by decide +kernel) (pc1 := 19) (ls1 := [some (aR 7 0)]) (st1 := [aI (0 : Int32)]) (σ1 := σ) (P := []) rfl trivial ?_
    cases hm
    exact XW.iret B q (by decide +kernel)
  · rw [if_neg h1] at hm
    refine XW.bb B [(8, .aload_n 0), (9, .getfield 84), (12, .sipush 128)] (by decide +kernel) (pc1 := 15) (ls1 := [some (aR 7 0)]) (st1 := [aI (128 : Int32), aI (σ.1 7 0 11)]) (σ1 := σ) (P := []) (i := .if_icmp .le 5) (tgt := 20) (q := (σ.1 7 0 11) ≤ (128 : Int32)) rfl trivial (by decide +kernel) rfl (by decide) (fun h2 => ?_) (fun h2 => ?_)
    · rw [if_pos h2] at hm
      refine XW.bk B [(20, .aload_n 0), (21, .dup), (22, .getfield 84), (25, .iconst 1), (26, .isub), (27, .putfield 84), (30, .aload_n 0), (31, .getfield 27), (34, .aload_n 0), (35, .getfield 84)] (by decide +kernel) (pc1 := 38) (ls1 := [some (aR 7 0)]) (st1 := [aI ((σ.1 7 0 11) - (1 : Int32)), aR 13 0]) (σ1 := (sI σ 7 0 11 ((σ.1 7 0 11) - (1 : Int32)))) (P := []) rfl trivial ?_
      by_cases g3 : ((σ.1 7 0 11) - (1 : Int32)) < 0 ∨ 128 ≤ ((σ.1 7 0 11) - (1 : Int32)).toNatClampNeg
      · rw [if_pos g3] at hm; cases hm
      rw [if_neg g3] at hm
      refine XW.bk B [(38, .iaload)] (by decide +kernel) (pc1 := 39) (ls1 := [some (aR 7 0)]) (st1 := [aI (σ.2.1 13 0 ((σ.1 7 0 11) - (1 : Int32)).toNatClampNeg)]) (σ1 := (sI σ 7 0 11 ((σ.1 7 0 11) - (1 : Int32)))) (P := [vp_in ((σ.1 7 0 11) - (1 : Int32)) 128]) rfl ⟨g3, trivial⟩ ?_
      cases hm
      exact XW.iret B q (by decide +kernel)
    · rw [if_neg h2] at hm
      refine XW.bk B [(18, .iconst 0)] (by decide +kernel) (pc1 := 19) (ls1 := [some (aR 7 0)]) (st1 := [aI (0 : Int32)]) (σ1 := σ) (P := []) rfl trivial ?_
      cases hm
      exact XW.iret B q (by decide +kernel)

def m_X3_both (x1 : Int32) (x2 : Int32) (x3 : Int32) : Int32 :=
  if x1 = (37 : Int32) then
    if x3 = (0 : Int32) then
      (0 : Int32)
    else
    (x2 - (x2 / x3) * x3)
  else
  if x1 = (38 : Int32) then
    if x2 = (0 : Int32) then
      (0 : Int32)
    else
    if x3 = (0 : Int32) then
      (0 : Int32)
    else
    (1 : Int32)
  else
  if x1 = (42 : Int32) then
    (x2 * x3)
  else
  if x1 = (43 : Int32) then
    (x2 + x3)
  else
  if x1 = (45 : Int32) then
    (x2 - x3)
  else
  if x1 = (47 : Int32) then
    if x3 = (0 : Int32) then
      (0 : Int32)
    else
    (x2 / x3)
  else
  if x1 = (60 : Int32) then
    if x3 ≤ x2 then
      (0 : Int32)
    else
    (1 : Int32)
  else
  if x1 = (61 : Int32) then
    if x2 = x3 then
      (1 : Int32)
    else
    (0 : Int32)
  else
  if x1 = (62 : Int32) then
    if x2 ≤ x3 then
      (0 : Int32)
    else
    (1 : Int32)
  else
  if x1 = (124 : Int32) then
    if x2 = (0 : Int32) then
      if x3 = (0 : Int32) then
        (0 : Int32)
      else
      (1 : Int32)
    else
    (1 : Int32)
  else
  (0 : Int32)
set_option maxRecDepth 100000 in
set_option maxHeartbeats 4000000 in
theorem c_X3_both (x1 : Int32) (x2 : Int32) (x3 : Int32) (σ : SS) {r : Int32} (hm : m_X3_both x1 x2 x3 = r) : XM LC 1 M_X3_both [aI x1, aI x2, aI x3] σ (some (aI r)) σ := by
  refine XM.of (K := K3) (by decide) (by decide +kernel) K3_ok (Nat.le_of_ble_eq_true rfl) (fun Γ B q => ?_)
  unfold m_X3_both at hm
  refine XW.bk B [(0, .iload_n 0)] (by decide +kernel) (pc1 := 1) (ls1 := [some (aI x1), some (aI x2), some (aI x3)]) (st1 := [aI x1]) (σ1 := σ) (P := []) rfl trivial ?_
  by_cases h1 : x1 = (37 : Int32)
  · rw [if_pos h1] at hm
    refine XW.lsI B (37 : Int32) (dflt := 188) (n := 91) (ps := #[(37, 176), (38, 105), (42, 160), (43, 152), (45, 156), (47, 164), (60, 119), (61, 130), (62, 141), (124, 91)]) (off := 176) (by decide +kernel) h1 (by decide +kernel) (tgt := 177) (by decide) ?_
    refine XW.bn B [(177, .iload_n 2)] (by decide +kernel) (pc1 := 178) (ls1 := [some (aI x1), some (aI x2), some (aI x3)]) (st1 := [aI x3]) (σ1 := σ) (P := []) (i := .ifCond .ne 7) (tgt := 185) (q := x3 = (0 : Int32)) rfl trivial (by decide +kernel) rfl (by decide) (fun h2 => ?_) (fun h2 => ?_)
    · rw [if_pos h2] at hm
      refine XW.bk B [(181, .iconst 0), (182, .goto 6)] (by decide +kernel) (pc1 := 188) (ls1 := [some (aI x1), some (aI x2), some (aI x3)]) (st1 := [aI (0 : Int32)]) (σ1 := σ) (P := []) rfl trivial ?_
      cases hm
      exact XW.iret B q (by decide +kernel)
    · rw [if_neg h2] at hm
      refine XW.bk B [(185, .iload_n 1), (186, .iload_n 2), (187, .irem)] (by decide +kernel) (pc1 := 188) (ls1 := [some (aI x1), some (aI x2), some (aI x3)]) (st1 := [aI (x2 - (x2 / x3) * x3)]) (σ1 := σ) (P := [¬ x3 = 0]) rfl ⟨h2, trivial⟩ ?_
      cases hm
      exact XW.iret B q (by decide +kernel)
  rw [if_neg h1] at hm
  by_cases h3 : x1 = (38 : Int32)
  · rw [if_pos h3] at hm
    refine XW.lsI B (38 : Int32) (dflt := 188) (n := 91) (ps := #[(37, 176), (38, 105), (42, 160), (43, 152), (45, 156), (47, 164), (60, 119), (61, 130), (62, 141), (124, 91)]) (off := 105) (by decide +kernel) h3 (by decide +kernel) (tgt := 106) (by decide) ?_
    refine XW.bb B [(106, .iload_n 1)] (by decide +kernel) (pc1 := 107) (ls1 := [some (aI x1), some (aI x2), some (aI x3)]) (st1 := [aI x2]) (σ1 := σ) (P := []) (i := .ifCond .eq 11) (tgt := 118) (q := x2 = (0 : Int32)) rfl trivial (by decide +kernel) rfl (by decide) (fun h4 => ?_) (fun h4 => ?_)
    · rw [if_pos h4] at hm
      refine XW.bk B [(118, .iconst 0)] (by decide +kernel) (pc1 := 119) (ls1 := [some (aI x1), some (aI x2), some (aI x3)]) (st1 := [aI (0 : Int32)]) (σ1 := σ) (P := []) rfl trivial ?_
      cases hm
      exact XW.iret B q (by decide +kernel)
    · rw [if_neg h4] at hm
      refine XW.bb B [(110, .iload_n 2)] (by decide +kernel) (pc1 := 111) (ls1 := [some (aI x1), some (aI x2), some (aI x3)]) (st1 := [aI x3]) (σ1 := σ) (P := []) (i := .ifCond .eq 7) (tgt := 118) (q := x3 = (0 : Int32)) rfl trivial (by decide +kernel) rfl (by decide) (fun h5 => ?_) (fun h5 => ?_)
      · rw [if_pos h5] at hm
        refine XW.bk B [(118, .iconst 0)] (by decide +kernel) (pc1 := 119) (ls1 := [some (aI x1), some (aI x2), some (aI x3)]) (st1 := [aI (0 : Int32)]) (σ1 := σ) (P := []) rfl trivial ?_
        cases hm
        exact XW.iret B q (by decide +kernel)
      · rw [if_neg h5] at hm
        refine XW.bk B [(114, .iconst 1), (115, .goto 4)] (by decide +kernel) (pc1 := 119) (ls1 := [some (aI x1), some (aI x2), some (aI x3)]) (st1 := [aI (1 : Int32)]) (σ1 := σ) (P := []) rfl trivial ?_
        cases hm
        exact XW.iret B q (by decide +kernel)
  rw [if_neg h3] at hm
  by_cases h6 : x1 = (42 : Int32)
  · rw [if_pos h6] at hm
    refine XW.lsI B (42 : Int32) (dflt := 188) (n := 91) (ps := #[(37, 176), (38, 105), (42, 160), (43, 152), (45, 156), (47, 164), (60, 119), (61, 130), (62, 141), (124, 91)]) (off := 160) (by decide +kernel) h6 (by decide +kernel) (tgt := 161) (by decide) ?_
    refine XW.bk B [(161, .iload_n 1), (162, .iload_n 2), (163, .imul)] (by decide +kernel) (pc1 := 164) (ls1 := [some (aI x1), some (aI x2), some (aI x3)]) (st1 := [aI (x2 * x3)]) (σ1 := σ) (P := []) rfl trivial ?_
    cases hm
    exact XW.iret B q (by decide +kernel)
  rw [if_neg h6] at hm
  by_cases h7 : x1 = (43 : Int32)
  · rw [if_pos h7] at hm
    refine XW.lsI B (43 : Int32) (dflt := 188) (n := 91) (ps := #[(37, 176), (38, 105), (42, 160), (43, 152), (45, 156), (47, 164), (60, 119), (61, 130), (62, 141), (124, 91)]) (off := 152) (by decide +kernel) h7 (by decide +kernel) (tgt := 153) (by decide) ?_
    refine XW.bk B [(153, .iload_n 1), (154, .iload_n 2), (155, .iadd)] (by decide +kernel) (pc1 := 156) (ls1 := [some (aI x1), some (aI x2), some (aI x3)]) (st1 := [aI (x2 + x3)]) (σ1 := σ) (P := []) rfl trivial ?_
    cases hm
    exact XW.iret B q (by decide +kernel)
  rw [if_neg h7] at hm
  by_cases h8 : x1 = (45 : Int32)
  · rw [if_pos h8] at hm
    refine XW.lsI B (45 : Int32) (dflt := 188) (n := 91) (ps := #[(37, 176), (38, 105), (42, 160), (43, 152), (45, 156), (47, 164), (60, 119), (61, 130), (62, 141), (124, 91)]) (off := 156) (by decide +kernel) h8 (by decide +kernel) (tgt := 157) (by decide) ?_
    refine XW.bk B [(157, .iload_n 1), (158, .iload_n 2), (159, .isub)] (by decide +kernel) (pc1 := 160) (ls1 := [some (aI x1), some (aI x2), some (aI x3)]) (st1 := [aI (x2 - x3)]) (σ1 := σ) (P := []) rfl trivial ?_
    cases hm
    exact XW.iret B q (by decide +kernel)
  rw [if_neg h8] at hm
  by_cases h9 : x1 = (47 : Int32)
  · rw [if_pos h9] at hm
    refine XW.lsI B (47 : Int32) (dflt := 188) (n := 91) (ps := #[(37, 176), (38, 105), (42, 160), (43, 152), (45, 156), (47, 164), (60, 119), (61, 130), (62, 141), (124, 91)]) (off := 164) (by decide +kernel) h9 (by decide +kernel) (tgt := 165) (by decide) ?_
    refine XW.bn B [(165, .iload_n 2)] (by decide +kernel) (pc1 := 166) (ls1 := [some (aI x1), some (aI x2), some (aI x3)]) (st1 := [aI x3]) (σ1 := σ) (P := []) (i := .ifCond .ne 7) (tgt := 173) (q := x3 = (0 : Int32)) rfl trivial (by decide +kernel) rfl (by decide) (fun h10 => ?_) (fun h10 => ?_)
    · rw [if_pos h10] at hm
      refine XW.bk B [(169, .iconst 0), (170, .goto 6)] (by decide +kernel) (pc1 := 176) (ls1 := [some (aI x1), some (aI x2), some (aI x3)]) (st1 := [aI (0 : Int32)]) (σ1 := σ) (P := []) rfl trivial ?_
      cases hm
      exact XW.iret B q (by decide +kernel)
    · rw [if_neg h10] at hm
      refine XW.bk B [(173, .iload_n 1), (174, .iload_n 2), (175, .idiv)] (by decide +kernel) (pc1 := 176) (ls1 := [some (aI x1), some (aI x2), some (aI x3)]) (st1 := [aI (x2 / x3)]) (σ1 := σ) (P := [¬ x3 = 0]) rfl ⟨h10, trivial⟩ ?_
      cases hm
      exact XW.iret B q (by decide +kernel)
  rw [if_neg h9] at hm
  by_cases h11 : x1 = (60 : Int32)
  · rw [if_pos h11] at hm
    refine XW.lsI B (60 : Int32) (dflt := 188) (n := 91) (ps := #[(37, 176), (38, 105), (42, 160), (43, 152), (45, 156), (47, 164), (60, 119), (61, 130), (62, 141), (124, 91)]) (off := 119) (by decide +kernel) h11 (by decide +kernel) (tgt := 120) (by decide) ?_
    refine XW.bb B [(120, .iload_n 1), (121, .iload_n 2)] (by decide +kernel) (pc1 := 122) (ls1 := [some (aI x1), some (aI x2), some (aI x3)]) (st1 := [aI x3, aI x2]) (σ1 := σ) (P := []) (i := .if_icmp .ge 7) (tgt := 129) (q := x3 ≤ x2) rfl trivial (by decide +kernel) rfl (by decide) (fun h12 => ?_) (fun h12 => ?_)
    · rw [if_pos h12] at hm
      refine XW.bk B [(129, .iconst 0)] (by decide +kernel) (pc1 := 130) (ls1 := [some (aI x1), some (aI x2), some (aI x3)]) (st1 := [aI (0 : Int32)]) (σ1 := σ) (P := []) rfl trivial ?_
      cases hm
      exact XW.iret B q (by decide +kernel)
    · rw [if_neg h12] at hm
      refine XW.bk B [(125, .iconst 1), (126, .goto 4)] (by decide +kernel) (pc1 := 130) (ls1 := [some (aI x1), some (aI x2), some (aI x3)]) (st1 := [aI (1 : Int32)]) (σ1 := σ) (P := []) rfl trivial ?_
      cases hm
      exact XW.iret B q (by decide +kernel)
  rw [if_neg h11] at hm
  by_cases h13 : x1 = (61 : Int32)
  · rw [if_pos h13] at hm
    refine XW.lsI B (61 : Int32) (dflt := 188) (n := 91) (ps := #[(37, 176), (38, 105), (42, 160), (43, 152), (45, 156), (47, 164), (60, 119), (61, 130), (62, 141), (124, 91)]) (off := 130) (by decide +kernel) h13 (by decide +kernel) (tgt := 131) (by decide) ?_
    refine XW.bn B [(131, .iload_n 1), (132, .iload_n 2)] (by decide +kernel) (pc1 := 133) (ls1 := [some (aI x1), some (aI x2), some (aI x3)]) (st1 := [aI x3, aI x2]) (σ1 := σ) (P := []) (i := .if_icmp .ne 7) (tgt := 140) (q := x2 = x3) rfl trivial (by decide +kernel) rfl (by decide) (fun h14 => ?_) (fun h14 => ?_)
    · rw [if_pos h14] at hm
      refine XW.bk B [(136, .iconst 1), (137, .goto 4)] (by decide +kernel) (pc1 := 141) (ls1 := [some (aI x1), some (aI x2), some (aI x3)]) (st1 := [aI (1 : Int32)]) (σ1 := σ) (P := []) rfl trivial ?_
      cases hm
      exact XW.iret B q (by decide +kernel)
    · rw [if_neg h14] at hm
      refine XW.bk B [(140, .iconst 0)] (by decide +kernel) (pc1 := 141) (ls1 := [some (aI x1), some (aI x2), some (aI x3)]) (st1 := [aI (0 : Int32)]) (σ1 := σ) (P := []) rfl trivial ?_
      cases hm
      exact XW.iret B q (by decide +kernel)
  rw [if_neg h13] at hm
  by_cases h15 : x1 = (62 : Int32)
  · rw [if_pos h15] at hm
    refine XW.lsI B (62 : Int32) (dflt := 188) (n := 91) (ps := #[(37, 176), (38, 105), (42, 160), (43, 152), (45, 156), (47, 164), (60, 119), (61, 130), (62, 141), (124, 91)]) (off := 141) (by decide +kernel) h15 (by decide +kernel) (tgt := 142) (by decide) ?_
    refine XW.bb B [(142, .iload_n 1), (143, .iload_n 2)] (by decide +kernel) (pc1 := 144) (ls1 := [some (aI x1), some (aI x2), some (aI x3)]) (st1 := [aI x3, aI x2]) (σ1 := σ) (P := []) (i := .if_icmp .le 7) (tgt := 151) (q := x2 ≤ x3) rfl trivial (by decide +kernel) rfl (by decide) (fun h16 => ?_) (fun h16 => ?_)
    · rw [if_pos h16] at hm
      refine XW.bk B [(151, .iconst 0)] (by decide +kernel) (pc1 := 152) (ls1 := [some (aI x1), some (aI x2), some (aI x3)]) (st1 := [aI (0 : Int32)]) (σ1 := σ) (P := []) rfl trivial ?_
      cases hm
      exact XW.iret B q (by decide +kernel)
    · rw [if_neg h16] at hm
      refine XW.bk B [(147, .iconst 1), (148, .goto 4)] (by decide +kernel) (pc1 := 152) (ls1 := [some (aI x1), some (aI x2), some (aI x3)]) (st1 := [aI (1 : Int32)]) (σ1 := σ) (P := []) rfl trivial ?_
      cases hm
      exact XW.iret B q (by decide +kernel)
  rw [if_neg h15] at hm
  by_cases h17 : x1 = (124 : Int32)
  · rw [if_pos h17] at hm
    refine XW.lsI B (124 : Int32) (dflt := 188) (n := 91) (ps := #[(37, 176), (38, 105), (42, 160), (43, 152), (45, 156), (47, 164), (60, 119), (61, 130), (62, 141), (124, 91)]) (off := 91) (by decide +kernel) h17 (by decide +kernel) (tgt := 92) (by decide) ?_
    refine XW.bn B [(92, .iload_n 1)] (by decide +kernel) (pc1 := 93) (ls1 := [some (aI x1), some (aI x2), some (aI x3)]) (st1 := [aI x2]) (σ1 := σ) (P := []) (i := .ifCond .ne 7) (tgt := 100) (q := x2 = (0 : Int32)) rfl trivial (by decide +kernel) rfl (by decide) (fun h18 => ?_) (fun h18 => ?_)
    · rw [if_pos h18] at hm
      refine XW.bb B [(96, .iload_n 2)] (by decide +kernel) (pc1 := 97) (ls1 := [some (aI x1), some (aI x2), some (aI x3)]) (st1 := [aI x3]) (σ1 := σ) (P := []) (i := .ifCond .eq 7) (tgt := 104) (q := x3 = (0 : Int32)) rfl trivial (by decide +kernel) rfl (by decide) (fun h19 => ?_) (fun h19 => ?_)
      · rw [if_pos h19] at hm
        refine XW.bk B [(104, .iconst 0)] (by decide +kernel) (pc1 := 105) (ls1 := [some (aI x1), some (aI x2), some (aI x3)]) (st1 := [aI (0 : Int32)]) (σ1 := σ) (P := []) rfl trivial ?_
        cases hm
        exact XW.iret B q (by decide +kernel)
      · rw [if_neg h19] at hm
        refine XW.bk B [(100, .iconst 1), (101, .goto 4)] (by decide +kernel) (pc1 := 105) (ls1 := [some (aI x1), some (aI x2), some (aI x3)]) (st1 := [aI (1 : Int32)]) (σ1 := σ) (P := []) rfl trivial ?_
        cases hm
        exact XW.iret B q (by decide +kernel)
    · rw [if_neg h18] at hm
      refine XW.bk B [(100, .iconst 1), (101, .goto 4)] (by decide +kernel) (pc1 := 105) (ls1 := [some (aI x1), some (aI x2), some (aI x3)]) (st1 := [aI (1 : Int32)]) (σ1 := σ) (P := []) rfl trivial ?_
      cases hm
      exact XW.iret B q (by decide +kernel)
  rw [if_neg h17] at hm
  refine XW.lsD B [(37 : Int32), (38 : Int32), (42 : Int32), (43 : Int32), (45 : Int32), (47 : Int32), (60 : Int32), (61 : Int32), (62 : Int32), (124 : Int32)] (dflt := 188) (n := 91) (ps := #[(37, 176), (38, 105), (42, 160), (43, 152), (45, 156), (47, 164), (60, 119), (61, 130), (62, 141), (124, 91)]) (by decide +kernel) (List.forall_mem_cons.mpr ⟨h1, (List.forall_mem_cons.mpr ⟨h3, (List.forall_mem_cons.mpr ⟨h6, (List.forall_mem_cons.mpr ⟨h7, (List.forall_mem_cons.mpr ⟨h8, (List.forall_mem_cons.mpr ⟨h9, (List.forall_mem_cons.mpr ⟨h11, (List.forall_mem_cons.mpr ⟨h13, (List.forall_mem_cons.mpr ⟨h15, (List.forall_mem_cons.mpr ⟨h17, (fun _ hz => absurd hz List.not_mem_nil)⟩)⟩)⟩)⟩)⟩)⟩)⟩)⟩)⟩)⟩) (by decide +kernel) (tgt := 189) (by decide) ?_
  refine XW.bk B [(189, .iconst 0)] (by decide +kernel) (pc1 := 190) (ls1 := [some (aI x1), some (aI x2), some (aI x3)]) (st1 := [aI (0 : Int32)]) (σ1 := σ) (P := []) rfl trivial ?_
  cases hm
  exact XW.iret B q (by decide +kernel)

def L_X3_worth_9 : Nat → Int32 → Int32 → SS → Option (Int32 × SS)
  | 0, _, _, _ => none
  | n + 1, v2, v3, σ =>
    if (σ.1 7 0 4) ≤ v3 then
      some ((0 : Int32), σ)
    else
    if (128 : Int32) ≤ v3 then
      some ((0 : Int32), σ)
    else
    if v3 < 0 ∨ 128 ≤ v3.toNatClampNeg then none else
    if (σ.2.1 9 0 v3.toNatClampNeg) = (48 : Int32) then
      bnT (m_X3_push (σ.2.1 10 0 v3.toNatClampNeg) σ) (fun q5 =>
      L_X3_worth_9 n v2 (v3 + (1 : Int32)) q5)
    else
    if (σ.2.1 9 0 v3.toNatClampNeg) = (110 : Int32) then
      if (σ.2.1 10 0 v3.toNatClampNeg) < (0 : Int32) then
        bnT (m_X3_push (0 : Int32) σ) (fun q8 =>
        L_X3_worth_9 n v2 (v3 + (1 : Int32)) q8)
      else
      if (6 : Int32) ≤ (σ.2.1 10 0 v3.toNatClampNeg) then
        bnT (m_X3_push (0 : Int32) σ) (fun q10 =>
        L_X3_worth_9 n v2 (v3 + (1 : Int32)) q10)
      else
      bnT (m_X3_push (σ.2.1 15 0 (σ.2.1 10 0 v3.toNatClampNeg).toNatClampNeg) σ) (fun q11 =>
      L_X3_worth_9 n v2 (v3 + (1 : Int32)) q11)
    else
    if (σ.2.1 9 0 v3.toNatClampNeg) = (63 : Int32) then
      Option.bind (m_X3_pop σ) (fun q13 =>
      if q13.1 = (0 : Int32) then
        L_X3_worth_9 n (1 : Int32) (v3 + (1 : Int32)) q13.2
      else
      L_X3_worth_9 n (0 : Int32) (v3 + (1 : Int32)) q13.2)
    else
    if (σ.2.1 9 0 v3.toNatClampNeg) = (59 : Int32) then
      Option.bind (m_X3_pop σ) (fun q16 =>
      if v2 = (0 : Int32) then
        some (q16.1, q16.2)
      else
      L_X3_worth_9 n (0 : Int32) (v3 + (1 : Int32)) q16.2)
    else
    Option.bind (m_X3_pop σ) (fun q18 =>
    if (σ.2.1 9 0 v3.toNatClampNeg) = (126 : Int32) then
      bnT (m_X3_push (-q18.1) q18.2) (fun q20 =>
      L_X3_worth_9 n v2 (v3 + (1 : Int32)) q20)
    else
    if (σ.2.1 9 0 v3.toNatClampNeg) = (33 : Int32) then
      if q18.1 = (0 : Int32) then
        bnT (m_X3_push (1 : Int32) q18.2) (fun q23 =>
        L_X3_worth_9 n v2 (v3 + (1 : Int32)) q23)
      else
      bnT (m_X3_push (0 : Int32) q18.2) (fun q24 =>
      L_X3_worth_9 n v2 (v3 + (1 : Int32)) q24)
    else
    Option.bind (m_X3_pop q18.2) (fun q25 =>
    bnT (m_X3_push (m_X3_both (σ.2.1 9 0 v3.toNatClampNeg) q25.1 q18.1) q25.2) (fun q26 =>
    L_X3_worth_9 n v2 (v3 + (1 : Int32)) q26)))
def m_X3_worth (σ : SS) : Option (Int32 × SS) :=
  L_X3_worth_9 FU (0 : Int32) (0 : Int32) (sI σ 7 0 11 (0 : Int32))
set_option maxRecDepth 100000 in
set_option maxHeartbeats 4000000 in
theorem lp_X3_worth_9 {Γ : XC} {r : Int32} {σ' : SS} (B : XB Γ cX3_worth RX3 2 K3 LC 7) (q : XQ Γ (some .int) (some (aI r)) σ') : ∀ (n : Nat) (v2 : Int32) (v3 : Int32) (σ : SS), L_X3_worth_9 n v2 v3 σ = some (r, σ') → XW Γ 9 [some (aR 7 0), some (aR 15 0), some (aI v2), some (aI v3), none, none, none] [] σ := by
  intro n
  induction n with
  | zero => intro v2 v3 σ hm; cases hm
  | succ n ih =>
    intro v2 v3 σ hm
    rw [L_X3_worth_9] at hm
    refine XW.bb B [(9, .iload_n 3), (10, .aload_n 0), (11, .getfield 30)] (by decide +kernel) (pc1 := 14) (ls1 := [some (aR 7 0), some (aR 15 0), some (aI v2), some (aI v3), none, none, none]) (st1 := [aI (σ.1 7 0 4), aI v3]) (σ1 := σ) (P := []) (i := .if_icmp .ge 192) (tgt := 206) (q := (σ.1 7 0 4) ≤ v3) rfl trivial (by decide +kernel) rfl (by decide) (fun h1 => ?_) (fun h1 => ?_)
    · rw [if_pos h1] at hm
      refine XW.bk B [(206, .iconst 0)] (by decide +kernel) (pc1 := 207) (ls1 := [some (aR 7 0), some (aR 15 0), some (aI v2), some (aI v3), none, none, none]) (st1 := [aI (0 : Int32)]) (σ1 := σ) (P := []) rfl trivial ?_
      cases hm
      exact XW.iret B q (by decide +kernel)
    · rw [if_neg h1] at hm
      refine XW.bb B [(17, .iload_n 3), (18, .sipush 128)] (by decide +kernel) (pc1 := 21) (ls1 := [some (aR 7 0), some (aR 15 0), some (aI v2), some (aI v3), none, none, none]) (st1 := [aI (128 : Int32), aI v3]) (σ1 := σ) (P := []) (i := .if_icmp .ge 185) (tgt := 206) (q := (128 : Int32) ≤ v3) rfl trivial (by decide +kernel) rfl (by decide) (fun h2 => ?_) (fun h2 => ?_)
      · rw [if_pos h2] at hm
        refine XW.bk B [(206, .iconst 0)] (by decide +kernel) (pc1 := 207) (ls1 := [some (aR 7 0), some (aR 15 0), some (aI v2), some (aI v3), none, none, none]) (st1 := [aI (0 : Int32)]) (σ1 := σ) (P := []) rfl trivial ?_
        cases hm
        exact XW.iret B q (by decide +kernel)
      · rw [if_neg h2] at hm
        refine XW.bk B [(24, .aload_n 0), (25, .getfield 15), (28, .iload_n 3)] (by decide +kernel) (pc1 := 29) (ls1 := [some (aR 7 0), some (aR 15 0), some (aI v2), some (aI v3), none, none, none]) (st1 := [aI v3, aR 9 0]) (σ1 := σ) (P := []) rfl trivial ?_
        by_cases g3 : v3 < 0 ∨ 128 ≤ v3.toNatClampNeg
        · rw [if_pos g3] at hm; cases hm
        rw [if_neg g3] at hm
        refine XW.bn B [(29, .iaload), (30, .istore 4), (32, .aload_n 0), (33, .getfield 18), (36, .iload_n 3), (37, .iaload), (38, .istore 5), (40, .iload 4), (42, .bipush 48)] (by decide +kernel) (pc1 := 44) (ls1 := [some (aR 7 0), some (aR 15 0), some (aI v2), some (aI v3), some (aI (σ.2.1 9 0 v3.toNatClampNeg)), some (aI (σ.2.1 10 0 v3.toNatClampNeg)), none]) (st1 := [aI (48 : Int32), aI (σ.2.1 9 0 v3.toNatClampNeg)]) (σ1 := σ) (P := [vp_in v3 128, vp_in v3 128]) (i := .if_icmp .ne 12) (tgt := 56) (q := (σ.2.1 9 0 v3.toNatClampNeg) = (48 : Int32)) rfl ⟨g3, g3, trivial⟩ (by decide +kernel) rfl (by decide) (fun h4 => ?_) (fun h4 => ?_)
        · rw [if_pos h4] at hm
          refine XW.bk B [(47, .aload_n 0), (48, .iload 5)] (by decide +kernel) (pc1 := 50) (ls1 := [some (aR 7 0), some (aR 15 0), some (aI v2), some (aI v3), some (aI (σ.2.1 9 0 v3.toNatClampNeg)), some (aI (σ.2.1 10 0 v3.toNatClampNeg)), none]) (st1 := [aI (σ.2.1 10 0 v3.toNatClampNeg), aR 7 0]) (σ1 := σ) (P := []) rfl trivial ?_
          obtain ⟨q5, hq5, hm⟩ := bnT_eq hm
          refine XW.callV B (M := M_X3_push) (t := 7) (j := 0) (cn := 1) (as := [aI (σ.2.1 10 0 v3.toNatClampNeg)]) (c_X3_push (σ.2.1 10 0 v3.toNatClampNeg) σ hq5) (by decide) wV_X3_push wN_X3_push lk_X3_87 rfl rfl rfl (by decide) rfl (Nat.le_of_ble_eq_true rfl) (by decide +kernel) ?_
          refine XW.bk B [(53, .goto 147), (200, .iinc 3 1), (203, .goto (-194))] (by decide +kernel) (pc1 := 9) (ls1 := [some (aR 7 0), some (aR 15 0), some (aI v2), some (aI (v3 + (1 : Int32))), some (aI (σ.2.1 9 0 v3.toNatClampNeg)), some (aI (σ.2.1 10 0 v3.toNatClampNeg)), none]) (st1 := []) (σ1 := q5) (P := []) rfl trivial ?_
          refine XW.loc [true, true, true, true, false, false, false] rfl ?_
          exact ih v2 (v3 + (1 : Int32)) q5 hm
        · rw [if_neg h4] at hm
          refine XW.bn B [(56, .iload 4), (58, .bipush 110)] (by decide +kernel) (pc1 := 60) (ls1 := [some (aR 7 0), some (aR 15 0), some (aI v2), some (aI v3), some (aI (σ.2.1 9 0 v3.toNatClampNeg)), some (aI (σ.2.1 10 0 v3.toNatClampNeg)), none]) (st1 := [aI (110 : Int32), aI (σ.2.1 9 0 v3.toNatClampNeg)]) (σ1 := σ) (P := []) (i := .if_icmp .ne 30) (tgt := 90) (q := (σ.2.1 9 0 v3.toNatClampNeg) = (110 : Int32)) rfl trivial (by decide +kernel) rfl (by decide) (fun h6 => ?_) (fun h6 => ?_)
          · rw [if_pos h6] at hm
            refine XW.bb B [(63, .aload_n 0), (64, .iload 5)] (by decide +kernel) (pc1 := 66) (ls1 := [some (aR 7 0), some (aR 15 0), some (aI v2), some (aI v3), some (aI (σ.2.1 9 0 v3.toNatClampNeg)), some (aI (σ.2.1 10 0 v3.toNatClampNeg)), none]) (st1 := [aI (σ.2.1 10 0 v3.toNatClampNeg), aR 7 0]) (σ1 := σ) (P := []) (i := .ifCond .lt 17) (tgt := 83) (q := (σ.2.1 10 0 v3.toNatClampNeg) < (0 : Int32)) rfl trivial (by decide +kernel) rfl (by decide) (fun h7 => ?_) (fun h7 => ?_)
            · rw [if_pos h7] at hm
              refine XW.bk B [(83, .iconst 0)] (by decide +kernel) (pc1 := 84) (ls1 := [some (aR 7 0), some (aR 15 0), some (aI v2), some (aI v3), some (aI (σ.2.1 9 0 v3.toNatClampNeg)), some (aI (σ.2.1 10 0 v3.toNatClampNeg)), none]) (st1 := [aI (0 : Int32), aR 7 0]) (σ1 := σ) (P := []) rfl trivial ?_
              obtain ⟨q8, hq8, hm⟩ := bnT_eq hm
              refine XW.callV B (M := M_X3_push) (t := 7) (j := 0) (cn := 1) (as := [aI (0 : Int32)]) (c_X3_push (0 : Int32) σ hq8) (by decide) wV_X3_push wN_X3_push lk_X3_87 rfl rfl rfl (by decide) rfl (Nat.le_of_ble_eq_true rfl) (by decide +kernel) ?_
              refine XW.bk B [(87, .goto 113), (200, .iinc 3 1), (203, .goto (-194))] (by decide +kernel) (pc1 := 9) (ls1 := [some (aR 7 0), some (aR 15 0), some (aI v2), some (aI (v3 + (1 : Int32))), some (aI (σ.2.1 9 0 v3.toNatClampNeg)), some (aI (σ.2.1 10 0 v3.toNatClampNeg)), none]) (st1 := []) (σ1 := q8) (P := []) rfl trivial ?_
              refine XW.loc [true, true, true, true, false, false, false] rfl ?_
              exact ih v2 (v3 + (1 : Int32)) q8 hm
            · rw [if_neg h7] at hm
              refine XW.bb B [(69, .iload 5), (71, .aload_n 1), (72, .arraylength)] (by decide +kernel) (pc1 := 73) (ls1 := [some (aR 7 0), some (aR 15 0), some (aI v2), some (aI v3), some (aI (σ.2.1 9 0 v3.toNatClampNeg)), some (aI (σ.2.1 10 0 v3.toNatClampNeg)), none]) (st1 := [aI (6 : Int32), aI (σ.2.1 10 0 v3.toNatClampNeg), aR 7 0]) (σ1 := σ) (P := []) (i := .if_icmp .ge 10) (tgt := 83) (q := (6 : Int32) ≤ (σ.2.1 10 0 v3.toNatClampNeg)) rfl trivial (by decide +kernel) rfl (by decide) (fun h9 => ?_) (fun h9 => ?_)
              · rw [if_pos h9] at hm
                refine XW.bk B [(83, .iconst 0)] (by decide +kernel) (pc1 := 84) (ls1 := [some (aR 7 0), some (aR 15 0), some (aI v2), some (aI v3), some (aI (σ.2.1 9 0 v3.toNatClampNeg)), some (aI (σ.2.1 10 0 v3.toNatClampNeg)), none]) (st1 := [aI (0 : Int32), aR 7 0]) (σ1 := σ) (P := []) rfl trivial ?_
                obtain ⟨q10, hq10, hm⟩ := bnT_eq hm
                refine XW.callV B (M := M_X3_push) (t := 7) (j := 0) (cn := 1) (as := [aI (0 : Int32)]) (c_X3_push (0 : Int32) σ hq10) (by decide) wV_X3_push wN_X3_push lk_X3_87 rfl rfl rfl (by decide) rfl (Nat.le_of_ble_eq_true rfl) (by decide +kernel) ?_
                refine XW.bk B [(87, .goto 113), (200, .iinc 3 1), (203, .goto (-194))] (by decide +kernel) (pc1 := 9) (ls1 := [some (aR 7 0), some (aR 15 0), some (aI v2), some (aI (v3 + (1 : Int32))), some (aI (σ.2.1 9 0 v3.toNatClampNeg)), some (aI (σ.2.1 10 0 v3.toNatClampNeg)), none]) (st1 := []) (σ1 := q10) (P := []) rfl trivial ?_
                refine XW.loc [true, true, true, true, false, false, false] rfl ?_
                exact ih v2 (v3 + (1 : Int32)) q10 hm
              · rw [if_neg h9] at hm
                refine XW.bk B [(76, .aload_n 1), (77, .iload 5), (79, .iaload), (80, .goto 4)] (by decide +kernel) (pc1 := 84) (ls1 := [some (aR 7 0), some (aR 15 0), some (aI v2), some (aI v3), some (aI (σ.2.1 9 0 v3.toNatClampNeg)), some (aI (σ.2.1 10 0 v3.toNatClampNeg)), none]) (st1 := [aI (σ.2.1 15 0 (σ.2.1 10 0 v3.toNatClampNeg).toNatClampNeg), aR 7 0]) (σ1 := σ) (P := [vp_in (σ.2.1 10 0 v3.toNatClampNeg) 6]) rfl ⟨(vin_a h7 h9 (by decide +kernel)), trivial⟩ ?_
                obtain ⟨q11, hq11, hm⟩ := bnT_eq hm
                refine XW.callV B (M := M_X3_push) (t := 7) (j := 0) (cn := 1) (as := [aI (σ.2.1 15 0 (σ.2.1 10 0 v3.toNatClampNeg).toNatClampNeg)]) (c_X3_push (σ.2.1 15 0 (σ.2.1 10 0 v3.toNatClampNeg).toNatClampNeg) σ hq11) (by decide) wV_X3_push wN_X3_push lk_X3_87 rfl rfl rfl (by decide) rfl (Nat.le_of_ble_eq_true rfl) (by decide +kernel) ?_
                refine XW.bk B [(87, .goto 113), (200, .iinc 3 1), (203, .goto (-194))] (by decide +kernel) (pc1 := 9) (ls1 := [some (aR 7 0), some (aR 15 0), some (aI v2), some (aI (v3 + (1 : Int32))), some (aI (σ.2.1 9 0 v3.toNatClampNeg)), some (aI (σ.2.1 10 0 v3.toNatClampNeg)), none]) (st1 := []) (σ1 := q11) (P := []) rfl trivial ?_
                refine XW.loc [true, true, true, true, false, false, false] rfl ?_
                exact ih v2 (v3 + (1 : Int32)) q11 hm
          · rw [if_neg h6] at hm
            refine XW.bn B [(90, .iload 4), (92, .bipush 63)] (by decide +kernel) (pc1 := 94) (ls1 := [some (aR 7 0), some (aR 15 0), some (aI v2), some (aI v3), some (aI (σ.2.1 9 0 v3.toNatClampNeg)), some (aI (σ.2.1 10 0 v3.toNatClampNeg)), none]) (st1 := [aI (63 : Int32), aI (σ.2.1 9 0 v3.toNatClampNeg)]) (σ1 := σ) (P := []) (i := .if_icmp .ne 19) (tgt := 113) (q := (σ.2.1 9 0 v3.toNatClampNeg) = (63 : Int32)) rfl trivial (by decide +kernel) rfl (by decide) (fun h12 => ?_) (fun h12 => ?_)
            · rw [if_pos h12] at hm
              refine XW.bk B [(97, .aload_n 0)] (by decide +kernel) (pc1 := 98) (ls1 := [some (aR 7 0), some (aR 15 0), some (aI v2), some (aI v3), some (aI (σ.2.1 9 0 v3.toNatClampNeg)), some (aI (σ.2.1 10 0 v3.toNatClampNeg)), none]) (st1 := [aR 7 0]) (σ1 := σ) (P := []) rfl trivial ?_
              obtain ⟨q13, hq13, hm⟩ := obind_eq hm
              refine XW.callV B (M := M_X3_pop) (t := 7) (j := 0) (cn := 1) (as := []) (c_X3_pop σ hq13) (by decide) wV_X3_pop wN_X3_pop lk_X3_90 rfl rfl rfl (by decide) rfl (Nat.le_of_ble_eq_true rfl) (by decide +kernel) ?_
              refine XW.bn B [] (by decide +kernel) (pc1 := 101) (ls1 := [some (aR 7 0), some (aR 15 0), some (aI v2), some (aI v3), some (aI (σ.2.1 9 0 v3.toNatClampNeg)), some (aI (σ.2.1 10 0 v3.toNatClampNeg)), none]) (st1 := [aI q13.1]) (σ1 := q13.2) (P := []) (i := .ifCond .ne 7) (tgt := 108) (q := q13.1 = (0 : Int32)) rfl trivial (by decide +kernel) rfl (by decide) (fun h14 => ?_) (fun h14 => ?_)
              · rw [if_pos h14] at hm
                refine XW.bk B [(104, .iconst 1), (105, .goto 4), (109, .istore_n 2), (110, .goto 90), (200, .iinc 3 1), (203, .goto (-194))] (by decide +kernel) (pc1 := 9) (ls1 := [some (aR 7 0), some (aR 15 0), some (aI (1 : Int32)), some (aI (v3 + (1 : Int32))), some (aI (σ.2.1 9 0 v3.toNatClampNeg)), some (aI (σ.2.1 10 0 v3.toNatClampNeg)), none]) (st1 := []) (σ1 := q13.2) (P := []) rfl trivial ?_
                refine XW.loc [true, true, true, true, false, false, false] rfl ?_
                exact ih (1 : Int32) (v3 + (1 : Int32)) q13.2 hm
              · rw [if_neg h14] at hm
                refine XW.bk B [(108, .iconst 0), (109, .istore_n 2), (110, .goto 90), (200, .iinc 3 1), (203, .goto (-194))] (by decide +kernel) (pc1 := 9) (ls1 := [some (aR 7 0), some (aR 15 0), some (aI (0 : Int32)), some (aI (v3 + (1 : Int32))), some (aI (σ.2.1 9 0 v3.toNatClampNeg)), some (aI (σ.2.1 10 0 v3.toNatClampNeg)), none]) (st1 := []) (σ1 := q13.2) (P := []) rfl trivial ?_
                refine XW.loc [true, true, true, true, false, false, false] rfl ?_
                exact ih (0 : Int32) (v3 + (1 : Int32)) q13.2 hm
            · rw [if_neg h12] at hm
              refine XW.bn B [(113, .iload 4), (115, .bipush 59)] (by decide +kernel) (pc1 := 117) (ls1 := [some (aR 7 0), some (aR 15 0), some (aI v2), some (aI v3), some (aI (σ.2.1 9 0 v3.toNatClampNeg)), some (aI (σ.2.1 10 0 v3.toNatClampNeg)), none]) (st1 := [aI (59 : Int32), aI (σ.2.1 9 0 v3.toNatClampNeg)]) (σ1 := σ) (P := []) (i := .if_icmp .ne 21) (tgt := 138) (q := (σ.2.1 9 0 v3.toNatClampNeg) = (59 : Int32)) rfl trivial (by decide +kernel) rfl (by decide) (fun h15 => ?_) (fun h15 => ?_)
              · rw [if_pos h15] at hm
                refine XW.bk B [(120, .aload_n 0)] (by decide +kernel) (pc1 := 121) (ls1 := [some (aR 7 0), some (aR 15 0), some (aI v2), some (aI v3), some (aI (σ.2.1 9 0 v3.toNatClampNeg)), some (aI (σ.2.1 10 0 v3.toNatClampNeg)), none]) (st1 := [aR 7 0]) (σ1 := σ) (P := []) rfl trivial ?_
                obtain ⟨q16, hq16, hm⟩ := obind_eq hm
                refine XW.callV B (M := M_X3_pop) (t := 7) (j := 0) (cn := 1) (as := []) (c_X3_pop σ hq16) (by decide) wV_X3_pop wN_X3_pop lk_X3_90 rfl rfl rfl (by decide) rfl (Nat.le_of_ble_eq_true rfl) (by decide +kernel) ?_
                refine XW.bn B [(124, .istore 6), (126, .iload_n 2)] (by decide +kernel) (pc1 := 127) (ls1 := [some (aR 7 0), some (aR 15 0), some (aI v2), some (aI v3), some (aI (σ.2.1 9 0 v3.toNatClampNeg)), some (aI (σ.2.1 10 0 v3.toNatClampNeg)), some (aI q16.1)]) (st1 := [aI v2]) (σ1 := q16.2) (P := []) (i := .ifCond .ne 6) (tgt := 133) (q := v2 = (0 : Int32)) rfl trivial (by decide +kernel) rfl (by decide) (fun h17 => ?_) (fun h17 => ?_)
                · rw [if_pos h17] at hm
                  refine XW.bk B [(130, .iload 6)] (by decide +kernel) (pc1 := 132) (ls1 := [some (aR 7 0), some (aR 15 0), some (aI v2), some (aI v3), some (aI (σ.2.1 9 0 v3.toNatClampNeg)), some (aI (σ.2.1 10 0 v3.toNatClampNeg)), some (aI q16.1)]) (st1 := [aI q16.1]) (σ1 := q16.2) (P := []) rfl trivial ?_
                  cases hm
                  exact XW.iret B q (by decide +kernel)
                · rw [if_neg h17] at hm
                  refine XW.bk B [(133, .iconst 0), (134, .istore_n 2), (135, .goto 65), (200, .iinc 3 1), (203, .goto (-194))] (by decide +kernel) (pc1 := 9) (ls1 := [some (aR 7 0), some (aR 15 0), some (aI (0 : Int32)), some (aI (v3 + (1 : Int32))), some (aI (σ.2.1 9 0 v3.toNatClampNeg)), some (aI (σ.2.1 10 0 v3.toNatClampNeg)), some (aI q16.1)]) (st1 := []) (σ1 := q16.2) (P := []) rfl trivial ?_
                  refine XW.loc [true, true, true, true, false, false, false] rfl ?_
                  exact ih (0 : Int32) (v3 + (1 : Int32)) q16.2 hm
              · rw [if_neg h15] at hm
                refine XW.bk B [(138, .aload_n 0)] (by decide +kernel) (pc1 := 139) (ls1 := [some (aR 7 0), some (aR 15 0), some (aI v2), some (aI v3), some (aI (σ.2.1 9 0 v3.toNatClampNeg)), some (aI (σ.2.1 10 0 v3.toNatClampNeg)), none]) (st1 := [aR 7 0]) (σ1 := σ) (P := []) rfl trivial ?_
                obtain ⟨q18, hq18, hm⟩ := obind_eq hm
                refine XW.callV B (M := M_X3_pop) (t := 7) (j := 0) (cn := 1) (as := []) (c_X3_pop σ hq18) (by decide) wV_X3_pop wN_X3_pop lk_X3_90 rfl rfl rfl (by decide) rfl (Nat.le_of_ble_eq_true rfl) (by decide +kernel) ?_
                refine XW.bn B [(142, .istore 6), (144, .iload 4), (146, .bipush 126)] (by decide +kernel) (pc1 := 148) (ls1 := [some (aR 7 0), some (aR 15 0), some (aI v2), some (aI v3), some (aI (σ.2.1 9 0 v3.toNatClampNeg)), some (aI (σ.2.1 10 0 v3.toNatClampNeg)), some (aI q18.1)]) (st1 := [aI (126 : Int32), aI (σ.2.1 9 0 v3.toNatClampNeg)]) (σ1 := q18.2) (P := []) (i := .if_icmp .ne 13) (tgt := 161) (q := (σ.2.1 9 0 v3.toNatClampNeg) = (126 : Int32)) rfl trivial (by decide +kernel) rfl (by decide) (fun h19 => ?_) (fun h19 => ?_)
                · rw [if_pos h19] at hm
                  refine XW.bk B [(151, .aload_n 0), (152, .iload 6), (154, .ineg)] (by decide +kernel) (pc1 := 155) (ls1 := [some (aR 7 0), some (aR 15 0), some (aI v2), some (aI v3), some (aI (σ.2.1 9 0 v3.toNatClampNeg)), some (aI (σ.2.1 10 0 v3.toNatClampNeg)), some (aI q18.1)]) (st1 := [aI (-q18.1), aR 7 0]) (σ1 := q18.2) (P := []) rfl trivial ?_
                  obtain ⟨q20, hq20, hm⟩ := bnT_eq hm
                  refine XW.callV B (M := M_X3_push) (t := 7) (j := 0) (cn := 1) (as := [aI (-q18.1)]) (c_X3_push (-q18.1) q18.2 hq20) (by decide) wV_X3_push wN_X3_push lk_X3_87 rfl rfl rfl (by decide) rfl (Nat.le_of_ble_eq_true rfl) (by decide +kernel) ?_
                  refine XW.bk B [(158, .goto 42), (200, .iinc 3 1), (203, .goto (-194))] (by decide +kernel) (pc1 := 9) (ls1 := [some (aR 7 0), some (aR 15 0), some (aI v2), some (aI (v3 + (1 : Int32))), some (aI (σ.2.1 9 0 v3.toNatClampNeg)), some (aI (σ.2.1 10 0 v3.toNatClampNeg)), some (aI q18.1)]) (st1 := []) (σ1 := q20) (P := []) rfl trivial ?_
                  refine XW.loc [true, true, true, true, false, false, false] rfl ?_
                  exact ih v2 (v3 + (1 : Int32)) q20 hm
                · rw [if_neg h19] at hm
                  refine XW.bn B [(161, .iload 4), (163, .bipush 33)] (by decide +kernel) (pc1 := 165) (ls1 := [some (aR 7 0), some (aR 15 0), some (aI v2), some (aI v3), some (aI (σ.2.1 9 0 v3.toNatClampNeg)), some (aI (σ.2.1 10 0 v3.toNatClampNeg)), some (aI q18.1)]) (st1 := [aI (33 : Int32), aI (σ.2.1 9 0 v3.toNatClampNeg)]) (σ1 := q18.2) (P := []) (i := .if_icmp .ne 20) (tgt := 185) (q := (σ.2.1 9 0 v3.toNatClampNeg) = (33 : Int32)) rfl trivial (by decide +kernel) rfl (by decide) (fun h21 => ?_) (fun h21 => ?_)
                  · rw [if_pos h21] at hm
                    refine XW.bn B [(168, .aload_n 0), (169, .iload 6)] (by decide +kernel) (pc1 := 171) (ls1 := [some (aR 7 0), some (aR 15 0), some (aI v2), some (aI v3), some (aI (σ.2.1 9 0 v3.toNatClampNeg)), some (aI (σ.2.1 10 0 v3.toNatClampNeg)), some (aI q18.1)]) (st1 := [aI q18.1, aR 7 0]) (σ1 := q18.2) (P := []) (i := .ifCond .ne 7) (tgt := 178) (q := q18.1 = (0 : Int32)) rfl trivial (by decide +kernel) rfl (by decide) (fun h22 => ?_) (fun h22 => ?_)
                    · rw [if_pos h22] at hm
                      refine XW.bk B [(174, .iconst 1), (175, .goto 4)] (by decide +kernel) (pc1 := 179) (ls1 := [some (aR 7 0), some (aR 15 0), some (aI v2), some (aI v3), some (aI (σ.2.1 9 0 v3.toNatClampNeg)), some (aI (σ.2.1 10 0 v3.toNatClampNeg)), some (aI q18.1)]) (st1 := [aI (1 : Int32), aR 7 0]) (σ1 := q18.2) (P := []) rfl trivial ?_
                      obtain ⟨q23, hq23, hm⟩ := bnT_eq hm
                      refine XW.callV B (M := M_X3_push) (t := 7) (j := 0) (cn := 1) (as := [aI (1 : Int32)]) (c_X3_push (1 : Int32) q18.2 hq23) (by decide) wV_X3_push wN_X3_push lk_X3_87 rfl rfl rfl (by decide) rfl (Nat.le_of_ble_eq_true rfl) (by decide +kernel) ?_
                      refine XW.bk B [(182, .goto 18), (200, .iinc 3 1), (203, .goto (-194))] (by decide +kernel) (pc1 := 9) (ls1 := [some (aR 7 0), some (aR 15 0), some (aI v2), some (aI (v3 + (1 : Int32))), some (aI (σ.2.1 9 0 v3.toNatClampNeg)), some (aI (σ.2.1 10 0 v3.toNatClampNeg)), some (aI q18.1)]) (st1 := []) (σ1 := q23) (P := []) rfl trivial ?_
                      refine XW.loc [true, true, true, true, false, false, false] rfl ?_
                      exact ih v2 (v3 + (1 : Int32)) q23 hm
                    · rw [if_neg h22] at hm
                      refine XW.bk B [(178, .iconst 0)] (by decide +kernel) (pc1 := 179) (ls1 := [some (aR 7 0), some (aR 15 0), some (aI v2), some (aI v3), some (aI (σ.2.1 9 0 v3.toNatClampNeg)), some (aI (σ.2.1 10 0 v3.toNatClampNeg)), some (aI q18.1)]) (st1 := [aI (0 : Int32), aR 7 0]) (σ1 := q18.2) (P := []) rfl trivial ?_
                      obtain ⟨q24, hq24, hm⟩ := bnT_eq hm
                      refine XW.callV B (M := M_X3_push) (t := 7) (j := 0) (cn := 1) (as := [aI (0 : Int32)]) (c_X3_push (0 : Int32) q18.2 hq24) (by decide) wV_X3_push wN_X3_push lk_X3_87 rfl rfl rfl (by decide) rfl (Nat.le_of_ble_eq_true rfl) (by decide +kernel) ?_
                      refine XW.bk B [(182, .goto 18), (200, .iinc 3 1), (203, .goto (-194))] (by decide +kernel) (pc1 := 9) (ls1 := [some (aR 7 0), some (aR 15 0), some (aI v2), some (aI (v3 + (1 : Int32))), some (aI (σ.2.1 9 0 v3.toNatClampNeg)), some (aI (σ.2.1 10 0 v3.toNatClampNeg)), some (aI q18.1)]) (st1 := []) (σ1 := q24) (P := []) rfl trivial ?_
                      refine XW.loc [true, true, true, true, false, false, false] rfl ?_
                      exact ih v2 (v3 + (1 : Int32)) q24 hm
                  · rw [if_neg h21] at hm
                    refine XW.bk B [(185, .aload_n 0), (186, .iload 4), (188, .aload_n 0)] (by decide +kernel) (pc1 := 189) (ls1 := [some (aR 7 0), some (aR 15 0), some (aI v2), some (aI v3), some (aI (σ.2.1 9 0 v3.toNatClampNeg)), some (aI (σ.2.1 10 0 v3.toNatClampNeg)), some (aI q18.1)]) (st1 := [aR 7 0, aI (σ.2.1 9 0 v3.toNatClampNeg), aR 7 0]) (σ1 := q18.2) (P := []) rfl trivial ?_
                    obtain ⟨q25, hq25, hm⟩ := obind_eq hm
                    refine XW.callV B (M := M_X3_pop) (t := 7) (j := 0) (cn := 1) (as := []) (c_X3_pop q18.2 hq25) (by decide) wV_X3_pop wN_X3_pop lk_X3_90 rfl rfl rfl (by decide) rfl (Nat.le_of_ble_eq_true rfl) (by decide +kernel) ?_
                    refine XW.bk B [(192, .iload 6)] (by decide +kernel) (pc1 := 194) (ls1 := [some (aR 7 0), some (aR 15 0), some (aI v2), some (aI v3), some (aI (σ.2.1 9 0 v3.toNatClampNeg)), some (aI (σ.2.1 10 0 v3.toNatClampNeg)), some (aI q18.1)]) (st1 := [aI q18.1, aI q25.1, aI (σ.2.1 9 0 v3.toNatClampNeg), aR 7 0]) (σ1 := q25.2) (P := []) rfl trivial ?_
                    refine XW.callS B (M := M_X3_both) (as := [aI (σ.2.1 9 0 v3.toNatClampNeg), aI q25.1, aI q18.1]) (c_X3_both (σ.2.1 9 0 v3.toNatClampNeg) q25.1 q18.1 q25.2 rfl) (by decide) wS_X3_both wN_X3_both lk_X3_93 rfl (Nat.le_of_ble_eq_true rfl) (by decide +kernel) ?_
                    obtain ⟨q26, hq26, hm⟩ := bnT_eq hm
                    refine XW.callV B (M := M_X3_push) (t := 7) (j := 0) (cn := 1) (as := [aI (m_X3_both (σ.2.1 9 0 v3.toNatClampNeg) q25.1 q18.1)]) (c_X3_push (m_X3_both (σ.2.1 9 0 v3.toNatClampNeg) q25.1 q18.1) q25.2 hq26) (by decide) wV_X3_push wN_X3_push lk_X3_87 rfl rfl rfl (by decide) rfl (Nat.le_of_ble_eq_true rfl) (by decide +kernel) ?_
                    refine XW.bk B [(200, .iinc 3 1), (203, .goto (-194))] (by decide +kernel) (pc1 := 9) (ls1 := [some (aR 7 0), some (aR 15 0), some (aI v2), some (aI (v3 + (1 : Int32))), some (aI (σ.2.1 9 0 v3.toNatClampNeg)), some (aI (σ.2.1 10 0 v3.toNatClampNeg)), some (aI q18.1)]) (st1 := []) (σ1 := q26) (P := []) rfl trivial ?_
                    refine XW.loc [true, true, true, true, false, false, false] rfl ?_
                    exact ih v2 (v3 + (1 : Int32)) q26 hm
set_option maxRecDepth 100000 in
set_option maxHeartbeats 4000000 in
theorem c_X3_worth (σ : SS) {r : Int32} {σ' : SS} (hm : m_X3_worth σ = some (r, σ')) : XM LC 2 M_X3_worth [aR 7 0, aR 15 0] σ (some (aI r)) σ' := by
  refine XM.of (K := K3) (by decide) (by decide +kernel) K3_ok (Nat.le_of_ble_eq_true rfl) (fun Γ B q => ?_)
  unfold m_X3_worth at hm
  refine XW.bk B [(0, .aload_n 0), (1, .iconst 0), (2, .putfield 84), (5, .iconst 0), (6, .istore_n 2), (7, .iconst 0), (8, .istore_n 3)] (by decide +kernel) (pc1 := 9) (ls1 := [some (aR 7 0), some (aR 15 0), some (aI (0 : Int32)), some (aI (0 : Int32)), none, none, none]) (st1 := []) (σ1 := (sI σ 7 0 11 (0 : Int32))) (P := []) rfl trivial ?_
  exact lp_X3_worth_9 B q FU (0 : Int32) (0 : Int32) (sI σ 7 0 11 (0 : Int32)) hm

def m_X3_take (x1 : Int32) (σ : SS) : Int32 × SS :=
  if (σ.1 7 0 1) < (0 : Int32) then
    ((-3 : Int32), σ)
  else
  if (σ.1 7 0 1) < (120 : Int32) then
    (((σ.1 7 0 1) + (1 : Int32)), (sI (sA σ 8 0 (σ.1 7 0 1).toNatClampNeg x1) 7 0 1 ((σ.1 7 0 1) + (1 : Int32))))
  else
  ((-3 : Int32), σ)
set_option maxRecDepth 100000 in
set_option maxHeartbeats 4000000 in
theorem c_X3_take (x1 : Int32) (σ : SS) {r : Int32} {σ' : SS} (hm : m_X3_take x1 σ = (r, σ')) : XM LC 1 M_X3_take [aR 7 0, aI x1] σ (some (aI r)) σ' := by
  refine XM.of (K := K3) (by decide) (by decide +kernel) K3_ok (Nat.le_of_ble_eq_true rfl) (fun Γ B q => ?_)
  unfold m_X3_take at hm
  refine XW.bb B [(0, .aload_n 0), (1, .getfield 34)] (by decide +kernel) (pc1 := 4) (ls1 := [some (aR 7 0), some (aI x1)]) (st1 := [aI (σ.1 7 0 1)]) (σ1 := σ) (P := []) (i := .ifCond .lt 12) (tgt := 16) (q := (σ.1 7 0 1) < (0 : Int32)) rfl trivial (by decide +kernel) rfl (by decide) (fun h1 => ?_) (fun h1 => ?_)
  · rw [if_pos h1] at hm
    refine XW.bk B [(16, .bipush (-3))] (by decide +kernel) (pc1 := 18) (ls1 := [some (aR 7 0), some (aI x1)]) (st1 := [aI (-3 : Int32)]) (σ1 := σ) (P := []) rfl trivial ?_
    cases hm
    exact XW.iret B q (by decide +kernel)
  · rw [if_neg h1] at hm
    refine XW.bb B [(7, .aload_n 0), (8, .getfield 34), (11, .bipush 120)] (by decide +kernel) (pc1 := 13) (ls1 := [some (aR 7 0), some (aI x1)]) (st1 := [aI (120 : Int32), aI (σ.1 7 0 1)]) (σ1 := σ) (P := []) (i := .if_icmp .lt 6) (tgt := 19) (q := (σ.1 7 0 1) < (120 : Int32)) rfl trivial (by decide +kernel) rfl (by decide) (fun h2 => ?_) (fun h2 => ?_)
    · rw [if_pos h2] at hm
      refine XW.bk B [(19, .aload_n 0), (20, .getfield 11), (23, .aload_n 0), (24, .getfield 34), (27, .iload_n 1), (28, .iastore), (29, .aload_n 0), (30, .dup), (31, .getfield 34), (34, .iconst 1), (35, .iadd), (36, .putfield 34), (39, .aload_n 0), (40, .getfield 34)] (by decide +kernel) (pc1 := 43) (ls1 := [some (aR 7 0), some (aI x1)]) (st1 := [aI ((σ.1 7 0 1) + (1 : Int32))]) (σ1 := (sI (sA σ 8 0 (σ.1 7 0 1).toNatClampNeg x1) 7 0 1 ((σ.1 7 0 1) + (1 : Int32)))) (P := [vp_in (σ.1 7 0 1) 120]) rfl ⟨(vin_b h1 h2 (by decide +kernel)), trivial⟩ ?_
      cases hm
      exact XW.iret B q (by decide +kernel)
    · rw [if_neg h2] at hm
      refine XW.bk B [(16, .bipush (-3))] (by decide +kernel) (pc1 := 18) (ls1 := [some (aR 7 0), some (aI x1)]) (st1 := [aI (-3 : Int32)]) (σ1 := σ) (P := []) rfl trivial ?_
      cases hm
      exact XW.iret B q (by decide +kernel)

def m_X3_next (σ : SS) : Int32 :=
  if (σ.1 7 0 8) < (0 : Int32) then
    (-1 : Int32)
  else
  if (σ.1 7 0 1) ≤ (σ.1 7 0 8) then
    (-1 : Int32)
  else
  if (120 : Int32) ≤ (σ.1 7 0 8) then
    (-1 : Int32)
  else
  (σ.2.1 8 0 (σ.1 7 0 8).toNatClampNeg)
set_option maxRecDepth 100000 in
set_option maxHeartbeats 4000000 in
theorem c_X3_next (σ : SS) {r : Int32} (hm : m_X3_next σ = r) : XM LC 1 M_X3_next [aR 7 0] σ (some (aI r)) σ := by
  refine XM.of (K := K3) (by decide) (by decide +kernel) K3_ok (Nat.le_of_ble_eq_true rfl) (fun Γ B q => ?_)
  unfold m_X3_next at hm
  refine XW.bb B [(0, .aload_n 0), (1, .getfield 37)] (by decide +kernel) (pc1 := 4) (ls1 := [some (aR 7 0)]) (st1 := [aI (σ.1 7 0 8)]) (σ1 := σ) (P := []) (i := .ifCond .lt 35) (tgt := 39) (q := (σ.1 7 0 8) < (0 : Int32)) rfl trivial (by decide +kernel) rfl (by decide) (fun h1 => ?_) (fun h1 => ?_)
  · rw [if_pos h1] at hm
    refine XW.bk B [(39, .iconst (-1))] (by decide +kernel) (pc1 := 40) (ls1 := [some (aR 7 0)]) (st1 := [aI (-1 : Int32)]) (σ1 := σ) (P := []) rfl trivial ?_
    cases hm
    exact XW.iret B q (by decide +kernel)
  · rw [if_neg h1] at hm
    refine XW.bb B [(7, .aload_n 0), (8, .getfield 37), (11, .aload_n 0), (12, .getfield 34)] (by decide +kernel) (pc1 := 15) (ls1 := [some (aR 7 0)]) (st1 := [aI (σ.1 7 0 1), aI (σ.1 7 0 8)]) (σ1 := σ) (P := []) (i := .if_icmp .ge 24) (tgt := 39) (q := (σ.1 7 0 1) ≤ (σ.1 7 0 8)) rfl trivial (by decide +kernel) rfl (by decide) (fun h2 => ?_) (fun h2 => ?_)
    · rw [if_pos h2] at hm
      refine XW.bk B [(39, .iconst (-1))] (by decide +kernel) (pc1 := 40) (ls1 := [some (aR 7 0)]) (st1 := [aI (-1 : Int32)]) (σ1 := σ) (P := []) rfl trivial ?_
      cases hm
      exact XW.iret B q (by decide +kernel)
    · rw [if_neg h2] at hm
      refine XW.bb B [(18, .aload_n 0), (19, .getfield 37), (22, .bipush 120)] (by decide +kernel) (pc1 := 24) (ls1 := [some (aR 7 0)]) (st1 := [aI (120 : Int32), aI (σ.1 7 0 8)]) (σ1 := σ) (P := []) (i := .if_icmp .ge 15) (tgt := 39) (q := (120 : Int32) ≤ (σ.1 7 0 8)) rfl trivial (by decide +kernel) rfl (by decide) (fun h3 => ?_) (fun h3 => ?_)
      · rw [if_pos h3] at hm
        refine XW.bk B [(39, .iconst (-1))] (by decide +kernel) (pc1 := 40) (ls1 := [some (aR 7 0)]) (st1 := [aI (-1 : Int32)]) (σ1 := σ) (P := []) rfl trivial ?_
        cases hm
        exact XW.iret B q (by decide +kernel)
      · rw [if_neg h3] at hm
        refine XW.bk B [(27, .aload_n 0), (28, .getfield 11), (31, .aload_n 0), (32, .getfield 37), (35, .iaload), (36, .goto 4)] (by decide +kernel) (pc1 := 40) (ls1 := [some (aR 7 0)]) (st1 := [aI (σ.2.1 8 0 (σ.1 7 0 8).toNatClampNeg)]) (σ1 := σ) (P := [vp_in (σ.1 7 0 8) 120]) rfl ⟨(vin_a h1 h3 (by decide +kernel)), trivial⟩ ?_
        cases hm
        exact XW.iret B q (by decide +kernel)

def m_X3_levelOf (x1 : Int32) : Int32 :=
  if x1 = (37 : Int32) then
    (4 : Int32)
  else
  if x1 = (38 : Int32) then
    (1 : Int32)
  else
  if x1 = (42 : Int32) then
    (4 : Int32)
  else
  if x1 = (43 : Int32) then
    (3 : Int32)
  else
  if x1 = (45 : Int32) then
    (3 : Int32)
  else
  if x1 = (47 : Int32) then
    (4 : Int32)
  else
  if x1 = (60 : Int32) then
    (2 : Int32)
  else
  if x1 = (61 : Int32) then
    (2 : Int32)
  else
  if x1 = (62 : Int32) then
    (2 : Int32)
  else
  if x1 = (124 : Int32) then
    (0 : Int32)
  else
  (-1 : Int32)
set_option maxRecDepth 100000 in
set_option maxHeartbeats 4000000 in
theorem c_X3_levelOf (x1 : Int32) (σ : SS) {r : Int32} (hm : m_X3_levelOf x1 = r) : XM LC 1 M_X3_levelOf [aI x1] σ (some (aI r)) σ := by
  refine XM.of (K := K3) (by decide) (by decide +kernel) K3_ok (Nat.le_of_ble_eq_true rfl) (fun Γ B q => ?_)
  unfold m_X3_levelOf at hm
  refine XW.bk B [(0, .iload_n 0)] (by decide +kernel) (pc1 := 1) (ls1 := [some (aI x1)]) (st1 := [aI x1]) (σ1 := σ) (P := []) rfl trivial ?_
  by_cases h1 : x1 = (37 : Int32)
  · rw [if_pos h1] at hm
    refine XW.lsI B (37 : Int32) (dflt := 101) (n := 91) (ps := #[(37, 99), (38, 93), (42, 99), (43, 97), (45, 97), (47, 99), (60, 95), (61, 95), (62, 95), (124, 91)]) (off := 99) (by decide +kernel) h1 (by decide +kernel) (tgt := 100) (by decide) ?_
    refine XW.bk B [(100, .iconst 4)] (by decide +kernel) (pc1 := 101) (ls1 := [some (aI x1)]) (st1 := [aI (4 : Int32)]) (σ1 := σ) (P := []) rfl trivial ?_
    cases hm
    exact XW.iret B q (by decide +kernel)
  rw [if_neg h1] at hm
  by_cases h2 : x1 = (38 : Int32)
  · rw [if_pos h2] at hm
    refine XW.lsI B (38 : Int32) (dflt := 101) (n := 91) (ps := #[(37, 99), (38, 93), (42, 99), (43, 97), (45, 97), (47, 99), (60, 95), (61, 95), (62, 95), (124, 91)]) (off := 93) (by decide +kernel) h2 (by decide +kernel) (tgt := 94) (by decide) ?_
    refine XW.bk B [(94, .iconst 1)] (by decide +kernel) (pc1 := 95) (ls1 := [some (aI x1)]) (st1 := [aI (1 : Int32)]) (σ1 := σ) (P := []) rfl trivial ?_
    cases hm
    exact XW.iret B q (by decide +kernel)
  rw [if_neg h2] at hm
  by_cases h3 : x1 = (42 : Int32)
  · rw [if_pos h3] at hm
    refine XW.lsI B (42 : Int32) (dflt := 101) (n := 91) (ps := #[(37, 99), (38, 93), (42, 99), (43, 97), (45, 97), (47, 99), (60, 95), (61, 95), (62, 95), (124, 91)]) (off := 99) (by decide +kernel) h3 (by decide +kernel) (tgt := 100) (by decide) ?_
    refine XW.bk B [(100, .iconst 4)] (by decide +kernel) (pc1 := 101) (ls1 := [some (aI x1)]) (st1 := [aI (4 : Int32)]) (σ1 := σ) (P := []) rfl trivial ?_
    cases hm
    exact XW.iret B q (by decide +kernel)
  rw [if_neg h3] at hm
  by_cases h4 : x1 = (43 : Int32)
  · rw [if_pos h4] at hm
    refine XW.lsI B (43 : Int32) (dflt := 101) (n := 91) (ps := #[(37, 99), (38, 93), (42, 99), (43, 97), (45, 97), (47, 99), (60, 95), (61, 95), (62, 95), (124, 91)]) (off := 97) (by decide +kernel) h4 (by decide +kernel) (tgt := 98) (by decide) ?_
    refine XW.bk B [(98, .iconst 3)] (by decide +kernel) (pc1 := 99) (ls1 := [some (aI x1)]) (st1 := [aI (3 : Int32)]) (σ1 := σ) (P := []) rfl trivial ?_
    cases hm
    exact XW.iret B q (by decide +kernel)
  rw [if_neg h4] at hm
  by_cases h5 : x1 = (45 : Int32)
  · rw [if_pos h5] at hm
    refine XW.lsI B (45 : Int32) (dflt := 101) (n := 91) (ps := #[(37, 99), (38, 93), (42, 99), (43, 97), (45, 97), (47, 99), (60, 95), (61, 95), (62, 95), (124, 91)]) (off := 97) (by decide +kernel) h5 (by decide +kernel) (tgt := 98) (by decide) ?_
    refine XW.bk B [(98, .iconst 3)] (by decide +kernel) (pc1 := 99) (ls1 := [some (aI x1)]) (st1 := [aI (3 : Int32)]) (σ1 := σ) (P := []) rfl trivial ?_
    cases hm
    exact XW.iret B q (by decide +kernel)
  rw [if_neg h5] at hm
  by_cases h6 : x1 = (47 : Int32)
  · rw [if_pos h6] at hm
    refine XW.lsI B (47 : Int32) (dflt := 101) (n := 91) (ps := #[(37, 99), (38, 93), (42, 99), (43, 97), (45, 97), (47, 99), (60, 95), (61, 95), (62, 95), (124, 91)]) (off := 99) (by decide +kernel) h6 (by decide +kernel) (tgt := 100) (by decide) ?_
    refine XW.bk B [(100, .iconst 4)] (by decide +kernel) (pc1 := 101) (ls1 := [some (aI x1)]) (st1 := [aI (4 : Int32)]) (σ1 := σ) (P := []) rfl trivial ?_
    cases hm
    exact XW.iret B q (by decide +kernel)
  rw [if_neg h6] at hm
  by_cases h7 : x1 = (60 : Int32)
  · rw [if_pos h7] at hm
    refine XW.lsI B (60 : Int32) (dflt := 101) (n := 91) (ps := #[(37, 99), (38, 93), (42, 99), (43, 97), (45, 97), (47, 99), (60, 95), (61, 95), (62, 95), (124, 91)]) (off := 95) (by decide +kernel) h7 (by decide +kernel) (tgt := 96) (by decide) ?_
    refine XW.bk B [(96, .iconst 2)] (by decide +kernel) (pc1 := 97) (ls1 := [some (aI x1)]) (st1 := [aI (2 : Int32)]) (σ1 := σ) (P := []) rfl trivial ?_
    cases hm
    exact XW.iret B q (by decide +kernel)
  rw [if_neg h7] at hm
  by_cases h8 : x1 = (61 : Int32)
  · rw [if_pos h8] at hm
    refine XW.lsI B (61 : Int32) (dflt := 101) (n := 91) (ps := #[(37, 99), (38, 93), (42, 99), (43, 97), (45, 97), (47, 99), (60, 95), (61, 95), (62, 95), (124, 91)]) (off := 95) (by decide +kernel) h8 (by decide +kernel) (tgt := 96) (by decide) ?_
    refine XW.bk B [(96, .iconst 2)] (by decide +kernel) (pc1 := 97) (ls1 := [some (aI x1)]) (st1 := [aI (2 : Int32)]) (σ1 := σ) (P := []) rfl trivial ?_
    cases hm
    exact XW.iret B q (by decide +kernel)
  rw [if_neg h8] at hm
  by_cases h9 : x1 = (62 : Int32)
  · rw [if_pos h9] at hm
    refine XW.lsI B (62 : Int32) (dflt := 101) (n := 91) (ps := #[(37, 99), (38, 93), (42, 99), (43, 97), (45, 97), (47, 99), (60, 95), (61, 95), (62, 95), (124, 91)]) (off := 95) (by decide +kernel) h9 (by decide +kernel) (tgt := 96) (by decide) ?_
    refine XW.bk B [(96, .iconst 2)] (by decide +kernel) (pc1 := 97) (ls1 := [some (aI x1)]) (st1 := [aI (2 : Int32)]) (σ1 := σ) (P := []) rfl trivial ?_
    cases hm
    exact XW.iret B q (by decide +kernel)
  rw [if_neg h9] at hm
  by_cases h10 : x1 = (124 : Int32)
  · rw [if_pos h10] at hm
    refine XW.lsI B (124 : Int32) (dflt := 101) (n := 91) (ps := #[(37, 99), (38, 93), (42, 99), (43, 97), (45, 97), (47, 99), (60, 95), (61, 95), (62, 95), (124, 91)]) (off := 91) (by decide +kernel) h10 (by decide +kernel) (tgt := 92) (by decide) ?_
    refine XW.bk B [(92, .iconst 0)] (by decide +kernel) (pc1 := 93) (ls1 := [some (aI x1)]) (st1 := [aI (0 : Int32)]) (σ1 := σ) (P := []) rfl trivial ?_
    cases hm
    exact XW.iret B q (by decide +kernel)
  rw [if_neg h10] at hm
  refine XW.lsD B [(37 : Int32), (38 : Int32), (42 : Int32), (43 : Int32), (45 : Int32), (47 : Int32), (60 : Int32), (61 : Int32), (62 : Int32), (124 : Int32)] (dflt := 101) (n := 91) (ps := #[(37, 99), (38, 93), (42, 99), (43, 97), (45, 97), (47, 99), (60, 95), (61, 95), (62, 95), (124, 91)]) (by decide +kernel) (List.forall_mem_cons.mpr ⟨h1, (List.forall_mem_cons.mpr ⟨h2, (List.forall_mem_cons.mpr ⟨h3, (List.forall_mem_cons.mpr ⟨h4, (List.forall_mem_cons.mpr ⟨h5, (List.forall_mem_cons.mpr ⟨h6, (List.forall_mem_cons.mpr ⟨h7, (List.forall_mem_cons.mpr ⟨h8, (List.forall_mem_cons.mpr ⟨h9, (List.forall_mem_cons.mpr ⟨h10, (fun _ hz => absurd hz List.not_mem_nil)⟩)⟩)⟩)⟩)⟩)⟩)⟩)⟩)⟩)⟩) (by decide +kernel) (tgt := 102) (by decide) ?_
  refine XW.bk B [(102, .iconst (-1))] (by decide +kernel) (pc1 := 103) (ls1 := [some (aI x1)]) (st1 := [aI (-1 : Int32)]) (σ1 := σ) (P := []) rfl trivial ?_
  cases hm
  exact XW.iret B q (by decide +kernel)

def m_X3_addStep (x1 : Int32) (x2 : Int32) (σ : SS) : SS :=
  if (σ.1 7 0 7) < (0 : Int32) then
    σ
  else
  if (σ.1 7 0 7) < (128 : Int32) then
    (sI (sA (sA σ 11 0 (σ.1 7 0 7).toNatClampNeg x1) 12 0 (σ.1 7 0 7).toNatClampNeg x2) 7 0 7 ((σ.1 7 0 7) + (1 : Int32)))
  else
  σ
set_option maxRecDepth 100000 in
set_option maxHeartbeats 4000000 in
theorem c_X3_addStep (x1 : Int32) (x2 : Int32) (σ : SS) {σ' : SS} (hm : m_X3_addStep x1 x2 σ = σ') : XM LC 1 M_X3_addStep [aR 7 0, aI x1, aI x2] σ none σ' := by
  refine XM.of (K := K3) (by decide) (by decide +kernel) K3_ok (Nat.le_of_ble_eq_true rfl) (fun Γ B q => ?_)
  unfold m_X3_addStep at hm
  refine XW.bb B [(0, .aload_n 0), (1, .getfield 43)] (by decide +kernel) (pc1 := 4) (ls1 := [some (aR 7 0), some (aI x1), some (aI x2)]) (st1 := [aI (σ.1 7 0 7)]) (σ1 := σ) (P := []) (i := .ifCond .lt 13) (tgt := 17) (q := (σ.1 7 0 7) < (0 : Int32)) rfl trivial (by decide +kernel) rfl (by decide) (fun h1 => ?_) (fun h1 => ?_)
  · rw [if_pos h1] at hm
    cases hm
    exact XW.vret B q (by decide +kernel)
  · rw [if_neg h1] at hm
    refine XW.bb B [(7, .aload_n 0), (8, .getfield 43), (11, .sipush 128)] (by decide +kernel) (pc1 := 14) (ls1 := [some (aR 7 0), some (aI x1), some (aI x2)]) (st1 := [aI (128 : Int32), aI (σ.1 7 0 7)]) (σ1 := σ) (P := []) (i := .if_icmp .lt 4) (tgt := 18) (q := (σ.1 7 0 7) < (128 : Int32)) rfl trivial (by decide +kernel) rfl (by decide) (fun h2 => ?_) (fun h2 => ?_)
    · rw [if_pos h2] at hm
      refine XW.bk B [(18, .aload_n 0), (19, .getfield 21), (22, .aload_n 0), (23, .getfield 43), (26, .iload_n 1), (27, .iastore), (28, .aload_n 0), (29, .getfield 24), (32, .aload_n 0), (33, .getfield 43), (36, .iload_n 2), (37, .iastore), (38, .aload_n 0), (39, .dup), (40, .getfield 43), (43, .iconst 1), (44, .iadd), (45, .putfield 43)] (by decide +kernel) (pc1 := 48) (ls1 := [some (aR 7 0), some (aI x1), some (aI x2)]) (st1 := []) (σ1 := (sI (sA (sA σ 11 0 (σ.1 7 0 7).toNatClampNeg x1) 12 0 (σ.1 7 0 7).toNatClampNeg x2) 7 0 7 ((σ.1 7 0 7) + (1 : Int32)))) (P := [vp_in (σ.1 7 0 7) 128, vp_in (σ.1 7 0 7) 128]) rfl ⟨(vin_b h1 h2 (by decide +kernel)), (vin_b h1 h2 (by decide +kernel)), trivial⟩ ?_
      cases hm
      exact XW.vret B q (by decide +kernel)
    · rw [if_neg h2] at hm
      cases hm
      exact XW.vret B q (by decide +kernel)

def m_X3_isDigit (x1 : Int32) : Int32 :=
  if x1 < (48 : Int32) then
    (0 : Int32)
  else
  if (57 : Int32) < x1 then
    (0 : Int32)
  else
  (1 : Int32)
set_option maxRecDepth 100000 in
set_option maxHeartbeats 4000000 in
theorem c_X3_isDigit (x1 : Int32) (σ : SS) {r : Int32} (hm : m_X3_isDigit x1 = r) : XM LC 1 M_X3_isDigit [aI x1] σ (some (aI r)) σ := by
  refine XM.of (K := K3) (by decide) (by decide +kernel) K3_ok (Nat.le_of_ble_eq_true rfl) (fun Γ B q => ?_)
  unfold m_X3_isDigit at hm
  refine XW.bb B [(0, .iload_n 0), (1, .bipush 48)] (by decide +kernel) (pc1 := 3) (ls1 := [some (aI x1)]) (st1 := [aI (48 : Int32), aI x1]) (σ1 := σ) (P := []) (i := .if_icmp .lt 13) (tgt := 16) (q := x1 < (48 : Int32)) rfl trivial (by decide +kernel) rfl (by decide) (fun h1 => ?_) (fun h1 => ?_)
  · rw [if_pos h1] at hm
    refine XW.bk B [(16, .iconst 0)] (by decide +kernel) (pc1 := 17) (ls1 := [some (aI x1)]) (st1 := [aI (0 : Int32)]) (σ1 := σ) (P := []) rfl trivial ?_
    cases hm
    exact XW.zret B q (Or.inl rfl) (by decide +kernel)
  · rw [if_neg h1] at hm
    refine XW.bb B [(6, .iload_n 0), (7, .bipush 57)] (by decide +kernel) (pc1 := 9) (ls1 := [some (aI x1)]) (st1 := [aI (57 : Int32), aI x1]) (σ1 := σ) (P := []) (i := .if_icmp .gt 7) (tgt := 16) (q := (57 : Int32) < x1) rfl trivial (by decide +kernel) rfl (by decide) (fun h2 => ?_) (fun h2 => ?_)
    · rw [if_pos h2] at hm
      refine XW.bk B [(16, .iconst 0)] (by decide +kernel) (pc1 := 17) (ls1 := [some (aI x1)]) (st1 := [aI (0 : Int32)]) (σ1 := σ) (P := []) rfl trivial ?_
      cases hm
      exact XW.zret B q (Or.inl rfl) (by decide +kernel)
    · rw [if_neg h2] at hm
      refine XW.bk B [(12, .iconst 1), (13, .goto 4)] (by decide +kernel) (pc1 := 17) (ls1 := [some (aI x1)]) (st1 := [aI (1 : Int32)]) (σ1 := σ) (P := []) rfl trivial ?_
      cases hm
      exact XW.zret B q (Or.inr rfl) (by decide +kernel)
theorem b_X3_isDigit (x1 : Int32) : m_X3_isDigit x1 = 0 ∨ m_X3_isDigit x1 = 1 := by
  unfold m_X3_isDigit
  (repeat' split) <;> first | exact Or.inl rfl | exact Or.inr rfl

def L_X3_readNumber_4 : Nat → Int32 → Int32 → SS → Option (SS)
  | 0, _, _, _ => none
  | n + 1, v1, v2, σ =>
    if (4 : Int32) ≤ v2 then
      bnT (m_X3_addStep (48 : Int32) v1 σ) (fun q2 =>
      some q2)
    else
    if (m_X3_isDigit (m_X3_next σ)) = (0 : Int32) then
      bnT (m_X3_addStep (48 : Int32) v1 σ) (fun q4 =>
      some q4)
    else
    L_X3_readNumber_4 n (((v1 * (10 : Int32)) + (m_X3_next σ)) - (48 : Int32)) (v2 + (1 : Int32)) (sI σ 7 0 8 ((σ.1 7 0 8) + (1 : Int32)))
def m_X3_readNumber (σ : SS) : Option (SS) :=
  L_X3_readNumber_4 FU (0 : Int32) (0 : Int32) σ
set_option maxRecDepth 100000 in
set_option maxHeartbeats 4000000 in
theorem lp_X3_readNumber_4 {Γ : XC} {σ' : SS} (B : XB Γ cX3_readNumber RX3 2 K3 LC 3) (q : XQ Γ (none) none σ') : ∀ (n : Nat) (v1 : Int32) (v2 : Int32) (σ : SS), L_X3_readNumber_4 n v1 v2 σ = some σ' → XW Γ 4 [some (aR 7 0), some (aI v1), some (aI v2)] [] σ := by
  intro n
  induction n with
  | zero => intro v1 v2 σ hm; cases hm
  | succ n ih =>
    intro v1 v2 σ hm
    rw [L_X3_readNumber_4] at hm
    refine XW.bb B [(4, .iload_n 2), (5, .iconst 4)] (by decide +kernel) (pc1 := 6) (ls1 := [some (aR 7 0), some (aI v1), some (aI v2)]) (st1 := [aI (4 : Int32), aI v2]) (σ1 := σ) (P := []) (i := .if_icmp .ge 42) (tgt := 48) (q := (4 : Int32) ≤ v2) rfl trivial (by decide +kernel) rfl (by decide) (fun h1 => ?_) (fun h1 => ?_)
    · rw [if_pos h1] at hm
      refine XW.bk B [(48, .aload_n 0), (49, .bipush 48), (51, .iload_n 1)] (by decide +kernel) (pc1 := 52) (ls1 := [some (aR 7 0), some (aI v1), some (aI v2)]) (st1 := [aI v1, aI (48 : Int32), aR 7 0]) (σ1 := σ) (P := []) rfl trivial ?_
      obtain ⟨q2, hq2, hm⟩ := bnT_eq hm
      refine XW.callV B (M := M_X3_addStep) (t := 7) (j := 0) (cn := 1) (as := [aI (48 : Int32), aI v1]) (c_X3_addStep (48 : Int32) v1 σ hq2) (by decide) wV_X3_addStep wN_X3_addStep lk_X3_63 rfl rfl rfl (by decide) rfl (Nat.le_of_ble_eq_true rfl) (by decide +kernel) ?_
      cases hm
      exact XW.vret B q (by decide +kernel)
    · rw [if_neg h1] at hm
      refine XW.bk B [(9, .aload_n 0)] (by decide +kernel) (pc1 := 10) (ls1 := [some (aR 7 0), some (aI v1), some (aI v2)]) (st1 := [aR 7 0]) (σ1 := σ) (P := []) rfl trivial ?_
      refine XW.callV B (M := M_X3_next) (t := 7) (j := 0) (cn := 1) (as := []) (c_X3_next σ rfl) (by decide) wV_X3_next wN_X3_next lk_X3_49 rfl rfl rfl (by decide) rfl (Nat.le_of_ble_eq_true rfl) (by decide +kernel) ?_
      refine XW.callS B (M := M_X3_isDigit) (as := [aI (m_X3_next σ)]) (c_X3_isDigit (m_X3_next σ) σ rfl) (by decide) wS_X3_isDigit wN_X3_isDigit lk_X3_74 rfl (Nat.le_of_ble_eq_true rfl) (by decide +kernel) ?_
      refine XW.bb B [] (by decide +kernel) (pc1 := 16) (ls1 := [some (aR 7 0), some (aI v1), some (aI v2)]) (st1 := [aI (m_X3_isDigit (m_X3_next σ))]) (σ1 := σ) (P := []) (i := .ifCond .eq 32) (tgt := 48) (q := (m_X3_isDigit (m_X3_next σ)) = (0 : Int32)) rfl trivial (by decide +kernel) rfl (by decide) (fun h3 => ?_) (fun h3 => ?_)
      · rw [if_pos h3] at hm
        refine XW.bk B [(48, .aload_n 0), (49, .bipush 48), (51, .iload_n 1)] (by decide +kernel) (pc1 := 52) (ls1 := [some (aR 7 0), some (aI v1), some (aI v2)]) (st1 := [aI v1, aI (48 : Int32), aR 7 0]) (σ1 := σ) (P := []) rfl trivial ?_
        obtain ⟨q4, hq4, hm⟩ := bnT_eq hm
        refine XW.callV B (M := M_X3_addStep) (t := 7) (j := 0) (cn := 1) (as := [aI (48 : Int32), aI v1]) (c_X3_addStep (48 : Int32) v1 σ hq4) (by decide) wV_X3_addStep wN_X3_addStep lk_X3_63 rfl rfl rfl (by decide) rfl (Nat.le_of_ble_eq_true rfl) (by decide +kernel) ?_
        cases hm
        exact XW.vret B q (by decide +kernel)
      · rw [if_neg h3] at hm
        refine XW.bk B [(19, .iload_n 1), (20, .bipush 10), (22, .imul), (23, .aload_n 0)] (by decide +kernel) (pc1 := 24) (ls1 := [some (aR 7 0), some (aI v1), some (aI v2)]) (st1 := [aR 7 0, aI (v1 * (10 : Int32))]) (σ1 := σ) (P := []) rfl trivial ?_
        refine XW.callV B (M := M_X3_next) (t := 7) (j := 0) (cn := 1) (as := []) (c_X3_next σ rfl) (by decide) wV_X3_next wN_X3_next lk_X3_49 rfl rfl rfl (by decide) rfl (Nat.le_of_ble_eq_true rfl) (by decide +kernel) ?_
        refine XW.bk B [(27, .iadd), (28, .bipush 48), (30, .isub), (31, .istore_n 1), (32, .aload_n 0), (33, .dup), (34, .getfield 37), (37, .iconst 1), (38, .iadd), (39, .putfield 37), (42, .iinc 2 1), (45, .goto (-41))] (by decide +kernel) (pc1 := 4) (ls1 := [some (aR 7 0), some (aI (((v1 * (10 : Int32)) + (m_X3_next σ)) - (48 : Int32))), some (aI (v2 + (1 : Int32)))]) (st1 := []) (σ1 := (sI σ 7 0 8 ((σ.1 7 0 8) + (1 : Int32)))) (P := []) rfl trivial ?_
        exact ih (((v1 * (10 : Int32)) + (m_X3_next σ)) - (48 : Int32)) (v2 + (1 : Int32)) (sI σ 7 0 8 ((σ.1 7 0 8) + (1 : Int32))) hm
set_option maxRecDepth 100000 in
set_option maxHeartbeats 4000000 in
theorem c_X3_readNumber (σ : SS) {σ' : SS} (hm : m_X3_readNumber σ = some σ') : XM LC 2 M_X3_readNumber [aR 7 0] σ none σ' := by
  refine XM.of (K := K3) (by decide) (by decide +kernel) K3_ok (Nat.le_of_ble_eq_true rfl) (fun Γ B q => ?_)
  unfold m_X3_readNumber at hm
  refine XW.bk B [(0, .iconst 0), (1, .istore_n 1), (2, .iconst 0), (3, .istore_n 2)] (by decide +kernel) (pc1 := 4) (ls1 := [some (aR 7 0), some (aI (0 : Int32)), some (aI (0 : Int32))]) (st1 := []) (σ1 := σ) (P := []) rfl trivial ?_
  exact lp_X3_readNumber_4 B q FU (0 : Int32) (0 : Int32) σ hm

def m_X3_nameOf (x1 : Int32) : Int32 :=
  if x1 = (104 : Int32) then
    (1 : Int32)
  else
  if x1 = (107 : Int32) then
    (3 : Int32)
  else
  if x1 = (109 : Int32) then
    (2 : Int32)
  else
  if x1 = (112 : Int32) then
    (5 : Int32)
  else
  if x1 = (115 : Int32) then
    (4 : Int32)
  else
  if x1 = (119 : Int32) then
    (0 : Int32)
  else
  (-1 : Int32)
set_option maxRecDepth 100000 in
set_option maxHeartbeats 4000000 in
theorem c_X3_nameOf (x1 : Int32) (σ : SS) {r : Int32} (hm : m_X3_nameOf x1 = r) : XM LC 1 M_X3_nameOf [aI x1] σ (some (aI r)) σ := by
  refine XM.of (K := K3) (by decide) (by decide +kernel) K3_ok (Nat.le_of_ble_eq_true rfl) (fun Γ B q => ?_)
  unfold m_X3_nameOf at hm
  refine XW.bk B [(0, .iload_n 0)] (by decide +kernel) (pc1 := 1) (ls1 := [some (aI x1)]) (st1 := [aI x1]) (σ1 := σ) (P := []) rfl trivial ?_
  by_cases h1 : x1 = (104 : Int32)
  · rw [if_pos h1] at hm
    refine XW.tsI B (104 : Int32) (dflt := 91) (n := 79) (lo := 104) (hi := 119) (offs := #[81, 91, 91, 85, 91, 83, 91, 91, 89, 91, 91, 87, 91, 91, 91, 79]) (off := 81) (by decide +kernel) h1 (by decide +kernel) (tgt := 82) (by decide) ?_
    refine XW.bk B [(82, .iconst 1)] (by decide +kernel) (pc1 := 83) (ls1 := [some (aI x1)]) (st1 := [aI (1 : Int32)]) (σ1 := σ) (P := []) rfl trivial ?_
    cases hm
    exact XW.iret B q (by decide +kernel)
  rw [if_neg h1] at hm
  by_cases h2 : x1 = (107 : Int32)
  · rw [if_pos h2] at hm
    refine XW.tsI B (107 : Int32) (dflt := 91) (n := 79) (lo := 104) (hi := 119) (offs := #[81, 91, 91, 85, 91, 83, 91, 91, 89, 91, 91, 87, 91, 91, 91, 79]) (off := 85) (by decide +kernel) h2 (by decide +kernel) (tgt := 86) (by decide) ?_
    refine XW.bk B [(86, .iconst 3)] (by decide +kernel) (pc1 := 87) (ls1 := [some (aI x1)]) (st1 := [aI (3 : Int32)]) (σ1 := σ) (P := []) rfl trivial ?_
    cases hm
    exact XW.iret B q (by decide +kernel)
  rw [if_neg h2] at hm
  by_cases h3 : x1 = (109 : Int32)
  · rw [if_pos h3] at hm
    refine XW.tsI B (109 : Int32) (dflt := 91) (n := 79) (lo := 104) (hi := 119) (offs := #[81, 91, 91, 85, 91, 83, 91, 91, 89, 91, 91, 87, 91, 91, 91, 79]) (off := 83) (by decide +kernel) h3 (by decide +kernel) (tgt := 84) (by decide) ?_
    refine XW.bk B [(84, .iconst 2)] (by decide +kernel) (pc1 := 85) (ls1 := [some (aI x1)]) (st1 := [aI (2 : Int32)]) (σ1 := σ) (P := []) rfl trivial ?_
    cases hm
    exact XW.iret B q (by decide +kernel)
  rw [if_neg h3] at hm
  by_cases h4 : x1 = (112 : Int32)
  · rw [if_pos h4] at hm
    refine XW.tsI B (112 : Int32) (dflt := 91) (n := 79) (lo := 104) (hi := 119) (offs := #[81, 91, 91, 85, 91, 83, 91, 91, 89, 91, 91, 87, 91, 91, 91, 79]) (off := 89) (by decide +kernel) h4 (by decide +kernel) (tgt := 90) (by decide) ?_
    refine XW.bk B [(90, .iconst 5)] (by decide +kernel) (pc1 := 91) (ls1 := [some (aI x1)]) (st1 := [aI (5 : Int32)]) (σ1 := σ) (P := []) rfl trivial ?_
    cases hm
    exact XW.iret B q (by decide +kernel)
  rw [if_neg h4] at hm
  by_cases h5 : x1 = (115 : Int32)
  · rw [if_pos h5] at hm
    refine XW.tsI B (115 : Int32) (dflt := 91) (n := 79) (lo := 104) (hi := 119) (offs := #[81, 91, 91, 85, 91, 83, 91, 91, 89, 91, 91, 87, 91, 91, 91, 79]) (off := 87) (by decide +kernel) h5 (by decide +kernel) (tgt := 88) (by decide) ?_
    refine XW.bk B [(88, .iconst 4)] (by decide +kernel) (pc1 := 89) (ls1 := [some (aI x1)]) (st1 := [aI (4 : Int32)]) (σ1 := σ) (P := []) rfl trivial ?_
    cases hm
    exact XW.iret B q (by decide +kernel)
  rw [if_neg h5] at hm
  by_cases h6 : x1 = (119 : Int32)
  · rw [if_pos h6] at hm
    refine XW.tsI B (119 : Int32) (dflt := 91) (n := 79) (lo := 104) (hi := 119) (offs := #[81, 91, 91, 85, 91, 83, 91, 91, 89, 91, 91, 87, 91, 91, 91, 79]) (off := 79) (by decide +kernel) h6 (by decide +kernel) (tgt := 80) (by decide) ?_
    refine XW.bk B [(80, .iconst 0)] (by decide +kernel) (pc1 := 81) (ls1 := [some (aI x1)]) (st1 := [aI (0 : Int32)]) (σ1 := σ) (P := []) rfl trivial ?_
    cases hm
    exact XW.iret B q (by decide +kernel)
  rw [if_neg h6] at hm
  refine XW.tsD B [(104 : Int32), (107 : Int32), (109 : Int32), (112 : Int32), (115 : Int32), (119 : Int32)] (dflt := 91) (n := 79) (lo := 104) (hi := 119) (offs := #[81, 91, 91, 85, 91, 83, 91, 91, 89, 91, 91, 87, 91, 91, 91, 79]) (by decide +kernel) (List.forall_mem_cons.mpr ⟨h1, (List.forall_mem_cons.mpr ⟨h2, (List.forall_mem_cons.mpr ⟨h3, (List.forall_mem_cons.mpr ⟨h4, (List.forall_mem_cons.mpr ⟨h5, (List.forall_mem_cons.mpr ⟨h6, (fun _ hz => absurd hz List.not_mem_nil)⟩)⟩)⟩)⟩)⟩)⟩) (by decide +kernel) (by decide) (tgt := 92) (by decide) ?_
  refine XW.bk B [(92, .iconst (-1))] (by decide +kernel) (pc1 := 93) (ls1 := [some (aI x1)]) (st1 := [aI (-1 : Int32)]) (σ1 := σ) (P := []) rfl trivial ?_
  cases hm
  exact XW.iret B q (by decide +kernel)

def L_X3_readBinary_21 (rec : Nat → Int32 → Int32 → SS → Option (SS)) : Nat → Int32 → Int32 → Int32 → SS → Option (SS)
  | 0, _, _, _, _ => none
  | n + 1, v1, v2, v3, σ =>
    if (120 : Int32) ≤ v3 then
      some σ
    else
    if (0 : Int32) ≤ (σ.1 7 0 9) then
      some σ
    else
    if (m_X3_levelOf (m_X3_next σ)) = v1 then
      Option.bind (rec 0 (v1 + (1 : Int32)) v2 (sI σ 7 0 8 ((σ.1 7 0 8) + (1 : Int32)))) (fun q6 =>
      bnT (m_X3_addStep (m_X3_next σ) (0 : Int32) q6) (fun q7 =>
      if v1 = (2 : Int32) then
        some q7
      else
      L_X3_readBinary_21 rec n v1 v2 (v3 + (1 : Int32)) q7))
    else
    some σ
def m_X3_readBinary (rec : Nat → Int32 → Int32 → SS → Option (SS)) (x1 : Int32) (x2 : Int32) (σ : SS) : Option (SS) :=
  if x1 ≤ (4 : Int32) then
    Option.bind (rec 0 (x1 + (1 : Int32)) x2 σ) (fun q2 =>
    L_X3_readBinary_21 rec FU x1 x2 (0 : Int32) q2)
  else
  Option.bind (rec 1 x2 (0 : Int32) σ) (fun q9 =>
  some q9)
set_option maxRecDepth 100000 in
set_option maxHeartbeats 4000000 in
theorem lp_X3_readBinary_21 (rec : Nat → Int32 → Int32 → SS → Option (SS)) (dr : Nat) (hdr : 2 ≤ dr) (hrec_0 : ∀ (x1 : Int32) (x2 : Int32) (σ : SS) {σ' : SS}, rec 0 x1 x2 σ = some σ' → XM LC dr M_X3_readBinary [aR 7 0, aI x1, aI x2] σ none σ') (hrec_1 : ∀ (x1 : Int32) (σ : SS) {σ' : SS}, rec 1 x1 (0 : Int32) σ = some σ' → XM LC dr M_X3_readOperand [aR 7 0, aI x1] σ none σ') {Γ : XC} {σ' : SS} (B : XB Γ cX3_readBinary RX3 (dr + 1) K3 LC 5) (q : XQ Γ (none) none σ') : ∀ (n : Nat) (v1 : Int32) (v2 : Int32) (v3 : Int32) (σ : SS), L_X3_readBinary_21 rec n v1 v2 v3 σ = some σ' → XW Γ 21 [some (aR 7 0), some (aI v1), some (aI v2), some (aI v3), none] [] σ := by
  intro n
  induction n with
  | zero => intro v1 v2 v3 σ hm; cases hm
  | succ n ih =>
    intro v1 v2 v3 σ hm
    rw [L_X3_readBinary_21] at hm
    refine XW.bb B [(21, .iload_n 3), (22, .bipush 120)] (by decide +kernel) (pc1 := 24) (ls1 := [some (aR 7 0), some (aI v1), some (aI v2), some (aI v3), none]) (st1 := [aI (120 : Int32), aI v3]) (σ1 := σ) (P := []) (i := .if_icmp .ge 64) (tgt := 88) (q := (120 : Int32) ≤ v3) rfl trivial (by decide +kernel) rfl (by decide) (fun h3 => ?_) (fun h3 => ?_)
    · rw [if_pos h3] at hm
      cases hm
      exact XW.vret B q (by decide +kernel)
    · rw [if_neg h3] at hm
      refine XW.bb B [(27, .aload_n 0), (28, .getfield 40)] (by decide +kernel) (pc1 := 31) (ls1 := [some (aR 7 0), some (aI v1), some (aI v2), some (aI v3), none]) (st1 := [aI (σ.1 7 0 9)]) (σ1 := σ) (P := []) (i := .ifCond .ge 57) (tgt := 88) (q := (0 : Int32) ≤ (σ.1 7 0 9)) rfl trivial (by decide +kernel) rfl (by decide) (fun h4 => ?_) (fun h4 => ?_)
      · rw [if_pos h4] at hm
        cases hm
        exact XW.vret B q (by decide +kernel)
      · rw [if_neg h4] at hm
        refine XW.bk B [(34, .aload_n 0)] (by decide +kernel) (pc1 := 35) (ls1 := [some (aR 7 0), some (aI v1), some (aI v2), some (aI v3), none]) (st1 := [aR 7 0]) (σ1 := σ) (P := []) rfl trivial ?_
        refine XW.callV B (M := M_X3_next) (t := 7) (j := 0) (cn := 1) (as := []) (c_X3_next σ rfl) (by omega) wV_X3_next wN_X3_next lk_X3_49 rfl rfl rfl (by decide) rfl (Nat.le_of_ble_eq_true rfl) (by decide +kernel) ?_
        refine XW.callS B (M := M_X3_levelOf) (as := [aI (m_X3_next σ)]) (c_X3_levelOf (m_X3_next σ) σ rfl) (by omega) wS_X3_levelOf wN_X3_levelOf lk_X3_70 rfl (Nat.le_of_ble_eq_true rfl) (by decide +kernel) ?_
        refine XW.bn B [(41, .iload_n 1)] (by decide +kernel) (pc1 := 42) (ls1 := [some (aR 7 0), some (aI v1), some (aI v2), some (aI v3), none]) (st1 := [aI v1, aI (m_X3_levelOf (m_X3_next σ))]) (σ1 := σ) (P := []) (i := .if_icmp .ne 46) (tgt := 88) (q := (m_X3_levelOf (m_X3_next σ)) = v1) rfl trivial (by decide +kernel) rfl (by decide) (fun h5 => ?_) (fun h5 => ?_)
        · rw [if_pos h5] at hm
          refine XW.bk B [(45, .aload_n 0)] (by decide +kernel) (pc1 := 46) (ls1 := [some (aR 7 0), some (aI v1), some (aI v2), some (aI v3), none]) (st1 := [aR 7 0]) (σ1 := σ) (P := []) rfl trivial ?_
          refine XW.callV B (M := M_X3_next) (t := 7) (j := 0) (cn := 1) (as := []) (c_X3_next σ rfl) (by omega) wV_X3_next wN_X3_next lk_X3_49 rfl rfl rfl (by decide) rfl (Nat.le_of_ble_eq_true rfl) (by decide +kernel) ?_
          refine XW.bk B [(49, .istore 4), (51, .aload_n 0), (52, .dup), (53, .getfield 37), (56, .iconst 1), (57, .iadd), (58, .putfield 37), (61, .aload_n 0), (62, .iload_n 1), (63, .iconst 1), (64, .iadd), (65, .iload_n 2)] (by decide +kernel) (pc1 := 66) (ls1 := [some (aR 7 0), some (aI v1), some (aI v2), some (aI v3), some (aI (m_X3_next σ))]) (st1 := [aI v2, aI (v1 + (1 : Int32)), aR 7 0]) (σ1 := (sI σ 7 0 8 ((σ.1 7 0 8) + (1 : Int32)))) (P := []) rfl trivial ?_
          obtain ⟨q6, hq6, hm⟩ := obind_eq hm
          refine XW.callV B (M := M_X3_readBinary) (t := 7) (j := 0) (cn := 1) (as := [aI (v1 + (1 : Int32)), aI v2]) (hrec_0 (v1 + (1 : Int32)) v2 (sI σ 7 0 8 ((σ.1 7 0 8) + (1 : Int32))) hq6) (Nat.lt_succ_self _) wV_X3_readBinary wN_X3_readBinary lk_X3_59 rfl rfl rfl (by decide) rfl (Nat.le_of_ble_eq_true rfl) (by decide +kernel) ?_
          refine XW.bk B [(69, .aload_n 0), (70, .iload 4), (72, .iconst 0)] (by decide +kernel) (pc1 := 73) (ls1 := [some (aR 7 0), some (aI v1), some (aI v2), some (aI v3), some (aI (m_X3_next σ))]) (st1 := [aI (0 : Int32), aI (m_X3_next σ), aR 7 0]) (σ1 := q6) (P := []) rfl trivial ?_
          obtain ⟨q7, hq7, hm⟩ := bnT_eq hm
          refine XW.callV B (M := M_X3_addStep) (t := 7) (j := 0) (cn := 1) (as := [aI (m_X3_next σ), aI (0 : Int32)]) (c_X3_addStep (m_X3_next σ) (0 : Int32) q6 hq7) (by omega) wV_X3_addStep wN_X3_addStep lk_X3_63 rfl rfl rfl (by decide) rfl (Nat.le_of_ble_eq_true rfl) (by decide +kernel) ?_
          refine XW.bn B [(76, .iload_n 1), (77, .iconst 2)] (by decide +kernel) (pc1 := 78) (ls1 := [some (aR 7 0), some (aI v1), some (aI v2), some (aI v3), some (aI (m_X3_next σ))]) (st1 := [aI (2 : Int32), aI v1]) (σ1 := q7) (P := []) (i := .if_icmp .ne 4) (tgt := 82) (q := v1 = (2 : Int32)) rfl trivial (by decide +kernel) rfl (by decide) (fun h8 => ?_) (fun h8 => ?_)
          · rw [if_pos h8] at hm
            cases hm
            exact XW.vret B q (by decide +kernel)
          · rw [if_neg h8] at hm
            refine XW.bk B [(82, .iinc 3 1), (85, .goto (-64))] (by decide +kernel) (pc1 := 21) (ls1 := [some (aR 7 0), some (aI v1), some (aI v2), some (aI (v3 + (1 : Int32))), some (aI (m_X3_next σ))]) (st1 := []) (σ1 := q7) (P := []) rfl trivial ?_
            refine XW.loc [true, true, true, true, false] rfl ?_
            exact ih v1 v2 (v3 + (1 : Int32)) q7 hm
        · rw [if_neg h5] at hm
          cases hm
          exact XW.vret B q (by decide +kernel)
set_option maxRecDepth 100000 in
set_option maxHeartbeats 4000000 in
theorem c_X3_readBinary (rec : Nat → Int32 → Int32 → SS → Option (SS)) (dr : Nat) (hdr : 2 ≤ dr) (hrec_0 : ∀ (x1 : Int32) (x2 : Int32) (σ : SS) {σ' : SS}, rec 0 x1 x2 σ = some σ' → XM LC dr M_X3_readBinary [aR 7 0, aI x1, aI x2] σ none σ') (hrec_1 : ∀ (x1 : Int32) (σ : SS) {σ' : SS}, rec 1 x1 (0 : Int32) σ = some σ' → XM LC dr M_X3_readOperand [aR 7 0, aI x1] σ none σ') (x1 : Int32) (x2 : Int32) (σ : SS) {σ' : SS} (hm : m_X3_readBinary rec x1 x2 σ = some σ') : XM LC (dr + 1) M_X3_readBinary [aR 7 0, aI x1, aI x2] σ none σ' := by
  refine XM.of (K := K3) (Nat.succ_le_succ (Nat.zero_le _)) (by decide +kernel) K3_ok (Nat.le_of_ble_eq_true rfl) (fun Γ B q => ?_)
  unfold m_X3_readBinary at hm
  refine XW.bb B [(0, .iload_n 1), (1, .iconst 4)] (by decide +kernel) (pc1 := 2) (ls1 := [some (aR 7 0), some (aI x1), some (aI x2), none, none]) (st1 := [aI (4 : Int32), aI x1]) (σ1 := σ) (P := []) (i := .if_icmp .le 9) (tgt := 11) (q := x1 ≤ (4 : Int32)) rfl trivial (by decide +kernel) rfl (by decide) (fun h1 => ?_) (fun h1 => ?_)
  · rw [if_pos h1] at hm
    refine XW.bk B [(11, .aload_n 0), (12, .iload_n 1), (13, .iconst 1), (14, .iadd), (15, .iload_n 2)] (by decide +kernel) (pc1 := 16) (ls1 := [some (aR 7 0), some (aI x1), some (aI x2), none, none]) (st1 := [aI x2, aI (x1 + (1 : Int32)), aR 7 0]) (σ1 := σ) (P := []) rfl trivial ?_
    obtain ⟨q2, hq2, hm⟩ := obind_eq hm
    refine XW.callV B (M := M_X3_readBinary) (t := 7) (j := 0) (cn := 1) (as := [aI (x1 + (1 : Int32)), aI x2]) (hrec_0 (x1 + (1 : Int32)) x2 σ hq2) (Nat.lt_succ_self _) wV_X3_readBinary wN_X3_readBinary lk_X3_59 rfl rfl rfl (by decide) rfl (Nat.le_of_ble_eq_true rfl) (by decide +kernel) ?_
    refine XW.bk B [(19, .iconst 0), (20, .istore_n 3)] (by decide +kernel) (pc1 := 21) (ls1 := [some (aR 7 0), some (aI x1), some (aI x2), some (aI (0 : Int32)), none]) (st1 := []) (σ1 := q2) (P := []) rfl trivial ?_
    exact lp_X3_readBinary_21 rec dr hdr hrec_0 hrec_1 B q FU x1 x2 (0 : Int32) q2 hm
  · rw [if_neg h1] at hm
    refine XW.bk B [(5, .aload_n 0), (6, .iload_n 2)] (by decide +kernel) (pc1 := 7) (ls1 := [some (aR 7 0), some (aI x1), some (aI x2), none, none]) (st1 := [aI x2, aR 7 0]) (σ1 := σ) (P := []) rfl trivial ?_
    obtain ⟨q9, hq9, hm⟩ := obind_eq hm
    refine XW.callV B (M := M_X3_readOperand) (t := 7) (j := 0) (cn := 1) (as := [aI x2]) (hrec_1 x2 σ hq9) (Nat.lt_succ_self _) wV_X3_readOperand wN_X3_readOperand lk_X3_66 rfl rfl rfl (by decide) rfl (Nat.le_of_ble_eq_true rfl) (by decide +kernel) ?_
    cases hm
    exact XW.vret B q (by decide +kernel)
def m_X3_readOperand (rec : Nat → Int32 → Int32 → SS → Option (SS)) (x1 : Int32) (σ : SS) : Option (SS) :=
  if (m_X3_isDigit (m_X3_next σ)) = (0 : Int32) then
    if (m_X3_nameOf (m_X3_next σ)) < (0 : Int32) then
      if (6 : Int32) ≤ x1 then
        some (sI σ 7 0 9 (σ.1 7 0 8))
      else
      if (m_X3_next σ) = (33 : Int32) then
        Option.bind (rec 1 (x1 + (1 : Int32)) (0 : Int32) (sI σ 7 0 8 ((σ.1 7 0 8) + (1 : Int32)))) (fun q5 =>
        bnT (m_X3_addStep (33 : Int32) (0 : Int32) q5) (fun q6 =>
        some q6))
      else
      if (m_X3_next σ) = (45 : Int32) then
        Option.bind (rec 1 (x1 + (1 : Int32)) (0 : Int32) (sI σ 7 0 8 ((σ.1 7 0 8) + (1 : Int32)))) (fun q8 =>
        bnT (m_X3_addStep (126 : Int32) (0 : Int32) q8) (fun q9 =>
        some q9))
      else
      if (m_X3_next σ) = (40 : Int32) then
        Option.bind (rec 0 (0 : Int32) (x1 + (1 : Int32)) (sI σ 7 0 8 ((σ.1 7 0 8) + (1 : Int32)))) (fun q11 =>
        if (q11.1 7 0 9) < (0 : Int32) then
          if (m_X3_next q11) = (41 : Int32) then
            some (sI q11 7 0 8 ((q11.1 7 0 8) + (1 : Int32)))
          else
          some (sI q11 7 0 9 (q11.1 7 0 8))
        else
        some q11)
      else
      some (sI σ 7 0 9 (σ.1 7 0 8))
    else
    bnT (m_X3_addStep (110 : Int32) (m_X3_nameOf (m_X3_next σ)) (sI σ 7 0 8 ((σ.1 7 0 8) + (1 : Int32)))) (fun q14 =>
    some q14)
  else
  Option.bind (m_X3_readNumber σ) (fun q15 =>
  some q15)
set_option maxRecDepth 100000 in
set_option maxHeartbeats 4000000 in
theorem c_X3_readOperand (rec : Nat → Int32 → Int32 → SS → Option (SS)) (dr : Nat) (hdr : 2 ≤ dr) (hrec_0 : ∀ (x1 : Int32) (x2 : Int32) (σ : SS) {σ' : SS}, rec 0 x1 x2 σ = some σ' → XM LC dr M_X3_readBinary [aR 7 0, aI x1, aI x2] σ none σ') (hrec_1 : ∀ (x1 : Int32) (σ : SS) {σ' : SS}, rec 1 x1 (0 : Int32) σ = some σ' → XM LC dr M_X3_readOperand [aR 7 0, aI x1] σ none σ') (x1 : Int32) (σ : SS) {σ' : SS} (hm : m_X3_readOperand rec x1 σ = some σ') : XM LC (dr + 1) M_X3_readOperand [aR 7 0, aI x1] σ none σ' := by
  refine XM.of (K := K3) (Nat.succ_le_succ (Nat.zero_le _)) (by decide +kernel) K3_ok (Nat.le_of_ble_eq_true rfl) (fun Γ B q => ?_)
  unfold m_X3_readOperand at hm
  refine XW.bk B [(0, .aload_n 0)] (by decide +kernel) (pc1 := 1) (ls1 := [some (aR 7 0), some (aI x1), none]) (st1 := [aR 7 0]) (σ1 := σ) (P := []) rfl trivial ?_
  refine XW.callV B (M := M_X3_next) (t := 7) (j := 0) (cn := 1) (as := []) (c_X3_next σ rfl) (by omega) wV_X3_next wN_X3_next lk_X3_49 rfl rfl rfl (by decide) rfl (Nat.le_of_ble_eq_true rfl) (by decide +kernel) ?_
  refine XW.bk B [(4, .istore_n 2), (5, .iload_n 2)] (by decide +kernel) (pc1 := 6) (ls1 := [some (aR 7 0), some (aI x1), some (aI (m_X3_next σ))]) (st1 := [aI (m_X3_next σ)]) (σ1 := σ) (P := []) rfl trivial ?_
  refine XW.callS B (M := M_X3_isDigit) (as := [aI (m_X3_next σ)]) (c_X3_isDigit (m_X3_next σ) σ rfl) (by omega) wS_X3_isDigit wN_X3_isDigit lk_X3_74 rfl (Nat.le_of_ble_eq_true rfl) (by decide +kernel) ?_
  refine XW.bb B [] (by decide +kernel) (pc1 := 9) (ls1 := [some (aR 7 0), some (aI x1), some (aI (m_X3_next σ))]) (st1 := [aI (m_X3_isDigit (m_X3_next σ))]) (σ1 := σ) (P := []) (i := .ifCond .eq 10) (tgt := 19) (q := (m_X3_isDigit (m_X3_next σ)) = (0 : Int32)) rfl trivial (by decide +kernel) rfl (by decide) (fun h1 => ?_) (fun h1 => ?_)
  · rw [if_pos h1] at hm
    refine XW.bk B [(19, .iload_n 2)] (by decide +kernel) (pc1 := 20) (ls1 := [some (aR 7 0), some (aI x1), some (aI (m_X3_next σ))]) (st1 := [aI (m_X3_next σ)]) (σ1 := σ) (P := []) rfl trivial ?_
    refine XW.callS B (M := M_X3_nameOf) (as := [aI (m_X3_next σ)]) (c_X3_nameOf (m_X3_next σ) σ rfl) (by omega) wS_X3_nameOf wN_X3_nameOf lk_X3_81 rfl (Nat.le_of_ble_eq_true rfl) (by decide +kernel) ?_
    refine XW.bb B [] (by decide +kernel) (pc1 := 23) (ls1 := [some (aR 7 0), some (aI x1), some (aI (m_X3_next σ))]) (st1 := [aI (m_X3_nameOf (m_X3_next σ))]) (σ1 := σ) (P := []) (i := .ifCond .lt 26) (tgt := 49) (q := (m_X3_nameOf (m_X3_next σ)) < (0 : Int32)) rfl trivial (by decide +kernel) rfl (by decide) (fun h2 => ?_) (fun h2 => ?_)
    · rw [if_pos h2] at hm
      refine XW.bb B [(49, .iload_n 1), (50, .bipush 6)] (by decide +kernel) (pc1 := 52) (ls1 := [some (aR 7 0), some (aI x1), some (aI (m_X3_next σ))]) (st1 := [aI (6 : Int32), aI x1]) (σ1 := σ) (P := []) (i := .if_icmp .ge 53) (tgt := 105) (q := (6 : Int32) ≤ x1) rfl trivial (by decide +kernel) rfl (by decide) (fun h3 => ?_) (fun h3 => ?_)
      · rw [if_pos h3] at hm
        refine XW.bb B [(105, .iload_n 1), (106, .bipush 6)] (by decide +kernel) (pc1 := 108) (ls1 := [some (aR 7 0), some (aI x1), some (aI (m_X3_next σ))]) (st1 := [aI (6 : Int32), aI x1]) (σ1 := σ) (P := []) (i := .if_icmp .ge 68) (tgt := 176) (q := (6 : Int32) ≤ x1) rfl trivial (by decide +kernel) rfl (by decide) (fun _ => ?_) (fun h => absurd h3 h)
        refine XW.bk B [(176, .aload_n 0), (177, .aload_n 0), (178, .getfield 37), (181, .putfield 40)] (by decide +kernel) (pc1 := 184) (ls1 := [some (aR 7 0), some (aI x1), some (aI (m_X3_next σ))]) (st1 := []) (σ1 := (sI σ 7 0 9 (σ.1 7 0 8))) (P := []) rfl trivial ?_
        cases hm
        exact XW.vret B q (by decide +kernel)
      · rw [if_neg h3] at hm
        refine XW.bb B [(55, .iload_n 2), (56, .bipush 33)] (by decide +kernel) (pc1 := 58) (ls1 := [some (aR 7 0), some (aI x1), some (aI (m_X3_next σ))]) (st1 := [aI (33 : Int32), aI (m_X3_next σ)]) (σ1 := σ) (P := []) (i := .if_icmp .eq 9) (tgt := 67) (q := (m_X3_next σ) = (33 : Int32)) rfl trivial (by decide +kernel) rfl (by decide) (fun h4 => ?_) (fun h4 => ?_)
        · rw [if_pos h4] at hm
          refine XW.bk B [(67, .aload_n 0), (68, .dup), (69, .getfield 37), (72, .iconst 1), (73, .iadd), (74, .putfield 37), (77, .aload_n 0), (78, .iload_n 1), (79, .iconst 1), (80, .iadd)] (by decide +kernel) (pc1 := 81) (ls1 := [some (aR 7 0), some (aI x1), some (aI (m_X3_next σ))]) (st1 := [aI (x1 + (1 : Int32)), aR 7 0]) (σ1 := (sI σ 7 0 8 ((σ.1 7 0 8) + (1 : Int32)))) (P := []) rfl trivial ?_
          obtain ⟨q5, hq5, hm⟩ := obind_eq hm
          refine XW.callV B (M := M_X3_readOperand) (t := 7) (j := 0) (cn := 1) (as := [aI (x1 + (1 : Int32))]) (hrec_1 (x1 + (1 : Int32)) (sI σ 7 0 8 ((σ.1 7 0 8) + (1 : Int32))) hq5) (Nat.lt_succ_self _) wV_X3_readOperand wN_X3_readOperand lk_X3_66 rfl rfl rfl (by decide) rfl (Nat.le_of_ble_eq_true rfl) (by decide +kernel) ?_
          refine XW.bn B [(84, .aload_n 0), (85, .iload_n 2), (86, .bipush 33)] (by decide +kernel) (pc1 := 88) (ls1 := [some (aR 7 0), some (aI x1), some (aI (m_X3_next σ))]) (st1 := [aI (33 : Int32), aI (m_X3_next σ), aR 7 0]) (σ1 := q5) (P := []) (i := .if_icmp .ne 8) (tgt := 96) (q := (m_X3_next σ) = (33 : Int32)) rfl trivial (by decide +kernel) rfl (by decide) (fun _ => ?_) (fun h => absurd h4 h)
          refine XW.bk B [(91, .bipush 33), (93, .goto 5), (98, .iconst 0)] (by decide +kernel) (pc1 := 99) (ls1 := [some (aR 7 0), some (aI x1), some (aI (m_X3_next σ))]) (st1 := [aI (0 : Int32), aI (33 : Int32), aR 7 0]) (σ1 := q5) (P := []) rfl trivial ?_
          obtain ⟨q6, hq6, hm⟩ := bnT_eq hm
          refine XW.callV B (M := M_X3_addStep) (t := 7) (j := 0) (cn := 1) (as := [aI (33 : Int32), aI (0 : Int32)]) (c_X3_addStep (33 : Int32) (0 : Int32) q5 hq6) (by omega) wV_X3_addStep wN_X3_addStep lk_X3_63 rfl rfl rfl (by decide) rfl (Nat.le_of_ble_eq_true rfl) (by decide +kernel) ?_
          refine XW.bk B [(102, .goto 82)] (by decide +kernel) (pc1 := 184) (ls1 := [some (aR 7 0), some (aI x1), some (aI (m_X3_next σ))]) (st1 := []) (σ1 := q6) (P := []) rfl trivial ?_
          cases hm
          exact XW.vret B q (by decide +kernel)
        · rw [if_neg h4] at hm
          refine XW.bn B [(61, .iload_n 2), (62, .bipush 45)] (by decide +kernel) (pc1 := 64) (ls1 := [some (aR 7 0), some (aI x1), some (aI (m_X3_next σ))]) (st1 := [aI (45 : Int32), aI (m_X3_next σ)]) (σ1 := σ) (P := []) (i := .if_icmp .ne 41) (tgt := 105) (q := (m_X3_next σ) = (45 : Int32)) rfl trivial (by decide +kernel) rfl (by decide) (fun h7 => ?_) (fun h7 => ?_)
          · rw [if_pos h7] at hm
            refine XW.bk B [(67, .aload_n 0), (68, .dup), (69, .getfield 37), (72, .iconst 1), (73, .iadd), (74, .putfield 37), (77, .aload_n 0), (78, .iload_n 1), (79, .iconst 1), (80, .iadd)] (by decide +kernel) (pc1 := 81) (ls1 := [some (aR 7 0), some (aI x1), some (aI (m_X3_next σ))]) (st1 := [aI (x1 + (1 : Int32)), aR 7 0]) (σ1 := (sI σ 7 0 8 ((σ.1 7 0 8) + (1 : Int32)))) (P := []) rfl trivial ?_
            obtain ⟨q8, hq8, hm⟩ := obind_eq hm
            refine XW.callV B (M := M_X3_readOperand) (t := 7) (j := 0) (cn := 1) (as := [aI (x1 + (1 : Int32))]) (hrec_1 (x1 + (1 : Int32)) (sI σ 7 0 8 ((σ.1 7 0 8) + (1 : Int32))) hq8) (Nat.lt_succ_self _) wV_X3_readOperand wN_X3_readOperand lk_X3_66 rfl rfl rfl (by decide) rfl (Nat.le_of_ble_eq_true rfl) (by decide +kernel) ?_
            refine XW.bn B [(84, .aload_n 0), (85, .iload_n 2), (86, .bipush 33)] (by decide +kernel) (pc1 := 88) (ls1 := [some (aR 7 0), some (aI x1), some (aI (m_X3_next σ))]) (st1 := [aI (33 : Int32), aI (m_X3_next σ), aR 7 0]) (σ1 := q8) (P := []) (i := .if_icmp .ne 8) (tgt := 96) (q := (m_X3_next σ) = (33 : Int32)) rfl trivial (by decide +kernel) rfl (by decide) (fun h => absurd h h4) (fun _ => ?_)
            refine XW.bk B [(96, .bipush 126), (98, .iconst 0)] (by decide +kernel) (pc1 := 99) (ls1 := [some (aR 7 0), some (aI x1), some (aI (m_X3_next σ))]) (st1 := [aI (0 : Int32), aI (126 : Int32), aR 7 0]) (σ1 := q8) (P := []) rfl trivial ?_
            obtain ⟨q9, hq9, hm⟩ := bnT_eq hm
            refine XW.callV B (M := M_X3_addStep) (t := 7) (j := 0) (cn := 1) (as := [aI (126 : Int32), aI (0 : Int32)]) (c_X3_addStep (126 : Int32) (0 : Int32) q8 hq9) (by omega) wV_X3_addStep wN_X3_addStep lk_X3_63 rfl rfl rfl (by decide) rfl (Nat.le_of_ble_eq_true rfl) (by decide +kernel) ?_
            refine XW.bk B [(102, .goto 82)] (by decide +kernel) (pc1 := 184) (ls1 := [some (aR 7 0), some (aI x1), some (aI (m_X3_next σ))]) (st1 := []) (σ1 := q9) (P := []) rfl trivial ?_
            cases hm
            exact XW.vret B q (by decide +kernel)
          · rw [if_neg h7] at hm
            refine XW.bb B [(105, .iload_n 1), (106, .bipush 6)] (by decide +kernel) (pc1 := 108) (ls1 := [some (aR 7 0), some (aI x1), some (aI (m_X3_next σ))]) (st1 := [aI (6 : Int32), aI x1]) (σ1 := σ) (P := []) (i := .if_icmp .ge 68) (tgt := 176) (q := (6 : Int32) ≤ x1) rfl trivial (by decide +kernel) rfl (by decide) (fun h => absurd h h3) (fun _ => ?_)
            refine XW.bn B [(111, .iload_n 2), (112, .bipush 40)] (by decide +kernel) (pc1 := 114) (ls1 := [some (aR 7 0), some (aI x1), some (aI (m_X3_next σ))]) (st1 := [aI (40 : Int32), aI (m_X3_next σ)]) (σ1 := σ) (P := []) (i := .if_icmp .ne 62) (tgt := 176) (q := (m_X3_next σ) = (40 : Int32)) rfl trivial (by decide +kernel) rfl (by decide) (fun h10 => ?_) (fun h10 => ?_)
            · rw [if_pos h10] at hm
              refine XW.bk B [(117, .aload_n 0), (118, .dup), (119, .getfield 37), (122, .iconst 1), (123, .iadd), (124, .putfield 37), (127, .aload_n 0), (128, .iconst 0), (129, .iload_n 1), (130, .iconst 1), (131, .iadd)] (by decide +kernel) (pc1 := 132) (ls1 := [some (aR 7 0), some (aI x1), some (aI (m_X3_next σ))]) (st1 := [aI (x1 + (1 : Int32)), aI (0 : Int32), aR 7 0]) (σ1 := (sI σ 7 0 8 ((σ.1 7 0 8) + (1 : Int32)))) (P := []) rfl trivial ?_
              obtain ⟨q11, hq11, hm⟩ := obind_eq hm
              refine XW.callV B (M := M_X3_readBinary) (t := 7) (j := 0) (cn := 1) (as := [aI (0 : Int32), aI (x1 + (1 : Int32))]) (hrec_0 (0 : Int32) (x1 + (1 : Int32)) (sI σ 7 0 8 ((σ.1 7 0 8) + (1 : Int32))) hq11) (Nat.lt_succ_self _) wV_X3_readBinary wN_X3_readBinary lk_X3_59 rfl rfl rfl (by decide) rfl (Nat.le_of_ble_eq_true rfl) (by decide +kernel) ?_
              refine XW.bb B [(135, .aload_n 0), (136, .getfield 40)] (by decide +kernel) (pc1 := 139) (ls1 := [some (aR 7 0), some (aI x1), some (aI (m_X3_next σ))]) (st1 := [aI (q11.1 7 0 9)]) (σ1 := q11) (P := []) (i := .ifCond .lt 4) (tgt := 143) (q := (q11.1 7 0 9) < (0 : Int32)) rfl trivial (by decide +kernel) rfl (by decide) (fun h12 => ?_) (fun h12 => ?_)
              · rw [if_pos h12] at hm
                refine XW.bk B [(143, .aload_n 0)] (by decide +kernel) (pc1 := 144) (ls1 := [some (aR 7 0), some (aI x1), some (aI (m_X3_next σ))]) (st1 := [aR 7 0]) (σ1 := q11) (P := []) rfl trivial ?_
                refine XW.callV B (M := M_X3_next) (t := 7) (j := 0) (cn := 1) (as := []) (c_X3_next q11 rfl) (by omega) wV_X3_next wN_X3_next lk_X3_49 rfl rfl rfl (by decide) rfl (Nat.le_of_ble_eq_true rfl) (by decide +kernel) ?_
                refine XW.bn B [(147, .bipush 41)] (by decide +kernel) (pc1 := 149) (ls1 := [some (aR 7 0), some (aI x1), some (aI (m_X3_next σ))]) (st1 := [aI (41 : Int32), aI (m_X3_next q11)]) (σ1 := q11) (P := []) (i := .if_icmp .ne 16) (tgt := 165) (q := (m_X3_next q11) = (41 : Int32)) rfl trivial (by decide +kernel) rfl (by decide) (fun h13 => ?_) (fun h13 => ?_)
                · rw [if_pos h13] at hm
                  refine XW.bk B [(152, .aload_n 0), (153, .dup), (154, .getfield 37), (157, .iconst 1), (158, .iadd), (159, .putfield 37), (162, .goto 22)] (by decide +kernel) (pc1 := 184) (ls1 := [some (aR 7 0), some (aI x1), some (aI (m_X3_next σ))]) (st1 := []) (σ1 := (sI q11 7 0 8 ((q11.1 7 0 8) + (1 : Int32)))) (P := []) rfl trivial ?_
                  cases hm
                  exact XW.vret B q (by decide +kernel)
                · rw [if_neg h13] at hm
                  refine XW.bk B [(165, .aload_n 0), (166, .aload_n 0), (167, .getfield 37), (170, .putfield 40), (173, .goto 11)] (by decide +kernel) (pc1 := 184) (ls1 := [some (aR 7 0), some (aI x1), some (aI (m_X3_next σ))]) (st1 := []) (σ1 := (sI q11 7 0 9 (q11.1 7 0 8))) (P := []) rfl trivial ?_
                  cases hm
                  exact XW.vret B q (by decide +kernel)
              · rw [if_neg h12] at hm
                cases hm
                exact XW.vret B q (by decide +kernel)
            · rw [if_neg h10] at hm
              refine XW.bk B [(176, .aload_n 0), (177, .aload_n 0), (178, .getfield 37), (181, .putfield 40)] (by decide +kernel) (pc1 := 184) (ls1 := [some (aR 7 0), some (aI x1), some (aI (m_X3_next σ))]) (st1 := []) (σ1 := (sI σ 7 0 9 (σ.1 7 0 8))) (P := []) rfl trivial ?_
              cases hm
              exact XW.vret B q (by decide +kernel)
    · rw [if_neg h2] at hm
      refine XW.bk B [(26, .aload_n 0), (27, .dup), (28, .getfield 37), (31, .iconst 1), (32, .iadd), (33, .putfield 37), (36, .aload_n 0), (37, .bipush 110), (39, .iload_n 2)] (by decide +kernel) (pc1 := 40) (ls1 := [some (aR 7 0), some (aI x1), some (aI (m_X3_next σ))]) (st1 := [aI (m_X3_next σ), aI (110 : Int32), aR 7 0]) (σ1 := (sI σ 7 0 8 ((σ.1 7 0 8) + (1 : Int32)))) (P := []) rfl trivial ?_
      refine XW.callS B (M := M_X3_nameOf) (as := [aI (m_X3_next σ)]) (c_X3_nameOf (m_X3_next σ) (sI σ 7 0 8 ((σ.1 7 0 8) + (1 : Int32))) rfl) (by omega) wS_X3_nameOf wN_X3_nameOf lk_X3_81 rfl (Nat.le_of_ble_eq_true rfl) (by decide +kernel) ?_
      obtain ⟨q14, hq14, hm⟩ := bnT_eq hm
      refine XW.callV B (M := M_X3_addStep) (t := 7) (j := 0) (cn := 1) (as := [aI (110 : Int32), aI (m_X3_nameOf (m_X3_next σ))]) (c_X3_addStep (110 : Int32) (m_X3_nameOf (m_X3_next σ)) (sI σ 7 0 8 ((σ.1 7 0 8) + (1 : Int32))) hq14) (by omega) wV_X3_addStep wN_X3_addStep lk_X3_63 rfl rfl rfl (by decide) rfl (Nat.le_of_ble_eq_true rfl) (by decide +kernel) ?_
      refine XW.bk B [(46, .goto 138)] (by decide +kernel) (pc1 := 184) (ls1 := [some (aR 7 0), some (aI x1), some (aI (m_X3_next σ))]) (st1 := []) (σ1 := q14) (P := []) rfl trivial ?_
      cases hm
      exact XW.vret B q (by decide +kernel)
  · rw [if_neg h1] at hm
    refine XW.bk B [(12, .aload_n 0)] (by decide +kernel) (pc1 := 13) (ls1 := [some (aR 7 0), some (aI x1), some (aI (m_X3_next σ))]) (st1 := [aR 7 0]) (σ1 := σ) (P := []) rfl trivial ?_
    obtain ⟨q15, hq15, hm⟩ := obind_eq hm
    refine XW.callV B (M := M_X3_readNumber) (t := 7) (j := 0) (cn := 1) (as := []) (c_X3_readNumber σ hq15) (by omega) wV_X3_readNumber wN_X3_readNumber lk_X3_78 rfl rfl rfl (by decide) rfl (Nat.le_of_ble_eq_true rfl) (by decide +kernel) ?_
    refine XW.bk B [(16, .goto 168)] (by decide +kernel) (pc1 := 184) (ls1 := [some (aR 7 0), some (aI x1), some (aI (m_X3_next σ))]) (st1 := []) (σ1 := q15) (P := []) rfl trivial ?_
    cases hm
    exact XW.vret B q (by decide +kernel)
def m_GLaw : Nat → Nat → Int32 → Int32 → SS → Option (SS)
  | 0, _, _, _, _ => none
  | n + 1, k, x1, x2, σ =>
    if k = 0 then m_X3_readBinary (m_GLaw n) x1 x2 σ else
    m_X3_readOperand (m_GLaw n) x1 σ
set_option maxRecDepth 100000 in
set_option maxHeartbeats 4000000 in
theorem c_GLaw : ∀ n : Nat, (∀ (x1 : Int32) (x2 : Int32) (σ : SS) {σ' : SS}, m_GLaw n 0 x1 x2 σ = some σ' → XM LC (2 + n) M_X3_readBinary [aR 7 0, aI x1, aI x2] σ none σ') ∧ (∀ (x1 : Int32) (σ : SS) {σ' : SS}, m_GLaw n 1 x1 (0 : Int32) σ = some σ' → XM LC (2 + n) M_X3_readOperand [aR 7 0, aI x1] σ none σ') := by
  intro n
  induction n with
  | zero => exact ⟨fun _ _ _ _ hm => (by cases hm), fun _ _ _ hm => (by cases hm)⟩
  | succ n ih =>
    obtain ⟨i0, i1⟩ := ih
    refine ⟨?_, ?_⟩
    · intro x1 x2 σ σ' hm
      rw [m_GLaw] at hm
      rw [if_pos rfl] at hm
      exact c_X3_readBinary (m_GLaw n) (2 + n) (by omega) i0 i1 x1 x2 σ hm
    · intro x1 σ σ' hm
      rw [m_GLaw] at hm
      rw [if_neg (by decide)] at hm
      exact c_X3_readOperand (m_GLaw n) (2 + n) (by omega) i0 i1 x1 σ hm

def m_X3_readLine (σ : SS) : Option (SS) :=
  Option.bind (m_GLaw 60 0 (0 : Int32) (0 : Int32) σ) (fun q1 =>
  if (0 : Int32) ≤ (q1.1 7 0 9) then
    bnT (m_X3_addStep (59 : Int32) (0 : Int32) q1) (fun q3 =>
    some q3)
  else
  if (m_X3_next q1) = (63 : Int32) then
    bnT (m_X3_addStep (63 : Int32) (0 : Int32) (sI q1 7 0 8 ((q1.1 7 0 8) + (1 : Int32)))) (fun q5 =>
    Option.bind (m_GLaw 60 0 (0 : Int32) (0 : Int32) q5) (fun q6 =>
    bnT (m_X3_addStep (59 : Int32) (0 : Int32) q6) (fun q7 =>
    some q7)))
  else
  bnT (m_X3_addStep (59 : Int32) (0 : Int32) q1) (fun q8 =>
  some q8))
set_option maxRecDepth 100000 in
set_option maxHeartbeats 4000000 in
theorem c_X3_readLine (σ : SS) {σ' : SS} (hm : m_X3_readLine σ = some σ') : XM LC 63 M_X3_readLine [aR 7 0] σ none σ' := by
  refine XM.of (K := K3) (by decide) (by decide +kernel) K3_ok (Nat.le_of_ble_eq_true rfl) (fun Γ B q => ?_)
  unfold m_X3_readLine at hm
  refine XW.bk B [(0, .aload_n 0), (1, .iconst 0), (2, .iconst 0)] (by decide +kernel) (pc1 := 3) (ls1 := [some (aR 7 0)]) (st1 := [aI (0 : Int32), aI (0 : Int32), aR 7 0]) (σ1 := σ) (P := []) rfl trivial ?_
  obtain ⟨q1, hq1, hm⟩ := obind_eq hm
  refine XW.callV B (M := M_X3_readBinary) (t := 7) (j := 0) (cn := 1) (as := [aI (0 : Int32), aI (0 : Int32)]) ((c_GLaw 60).1 (0 : Int32) (0 : Int32) σ hq1) (by decide) wV_X3_readBinary wN_X3_readBinary lk_X3_59 rfl rfl rfl (by decide) rfl (Nat.le_of_ble_eq_true rfl) (by decide +kernel) ?_
  refine XW.bb B [(6, .aload_n 0), (7, .getfield 40)] (by decide +kernel) (pc1 := 10) (ls1 := [some (aR 7 0)]) (st1 := [aI (q1.1 7 0 9)]) (σ1 := q1) (P := []) (i := .ifCond .ge 35) (tgt := 45) (q := (0 : Int32) ≤ (q1.1 7 0 9)) rfl trivial (by decide +kernel) rfl (by decide) (fun h2 => ?_) (fun h2 => ?_)
  · rw [if_pos h2] at hm
    refine XW.bk B [(45, .aload_n 0), (46, .bipush 59), (48, .iconst 0)] (by decide +kernel) (pc1 := 49) (ls1 := [some (aR 7 0)]) (st1 := [aI (0 : Int32), aI (59 : Int32), aR 7 0]) (σ1 := q1) (P := []) rfl trivial ?_
    obtain ⟨q3, hq3, hm⟩ := bnT_eq hm
    refine XW.callV B (M := M_X3_addStep) (t := 7) (j := 0) (cn := 1) (as := [aI (59 : Int32), aI (0 : Int32)]) (c_X3_addStep (59 : Int32) (0 : Int32) q1 hq3) (by decide) wV_X3_addStep wN_X3_addStep lk_X3_63 rfl rfl rfl (by decide) rfl (Nat.le_of_ble_eq_true rfl) (by decide +kernel) ?_
    cases hm
    exact XW.vret B q (by decide +kernel)
  · rw [if_neg h2] at hm
    refine XW.bk B [(13, .aload_n 0)] (by decide +kernel) (pc1 := 14) (ls1 := [some (aR 7 0)]) (st1 := [aR 7 0]) (σ1 := q1) (P := []) rfl trivial ?_
    refine XW.callV B (M := M_X3_next) (t := 7) (j := 0) (cn := 1) (as := []) (c_X3_next q1 rfl) (by decide) wV_X3_next wN_X3_next lk_X3_49 rfl rfl rfl (by decide) rfl (Nat.le_of_ble_eq_true rfl) (by decide +kernel) ?_
    refine XW.bn B [(17, .bipush 63)] (by decide +kernel) (pc1 := 19) (ls1 := [some (aR 7 0)]) (st1 := [aI (63 : Int32), aI (m_X3_next q1)]) (σ1 := q1) (P := []) (i := .if_icmp .ne 26) (tgt := 45) (q := (m_X3_next q1) = (63 : Int32)) rfl trivial (by decide +kernel) rfl (by decide) (fun h4 => ?_) (fun h4 => ?_)
    · rw [if_pos h4] at hm
      refine XW.bk B [(22, .aload_n 0), (23, .dup), (24, .getfield 37), (27, .iconst 1), (28, .iadd), (29, .putfield 37), (32, .aload_n 0), (33, .bipush 63), (35, .iconst 0)] (by decide +kernel) (pc1 := 36) (ls1 := [some (aR 7 0)]) (st1 := [aI (0 : Int32), aI (63 : Int32), aR 7 0]) (σ1 := (sI q1 7 0 8 ((q1.1 7 0 8) + (1 : Int32)))) (P := []) rfl trivial ?_
      obtain ⟨q5, hq5, hm⟩ := bnT_eq hm
      refine XW.callV B (M := M_X3_addStep) (t := 7) (j := 0) (cn := 1) (as := [aI (63 : Int32), aI (0 : Int32)]) (c_X3_addStep (63 : Int32) (0 : Int32) (sI q1 7 0 8 ((q1.1 7 0 8) + (1 : Int32))) hq5) (by decide) wV_X3_addStep wN_X3_addStep lk_X3_63 rfl rfl rfl (by decide) rfl (Nat.le_of_ble_eq_true rfl) (by decide +kernel) ?_
      refine XW.bk B [(39, .aload_n 0), (40, .iconst 0), (41, .iconst 0)] (by decide +kernel) (pc1 := 42) (ls1 := [some (aR 7 0)]) (st1 := [aI (0 : Int32), aI (0 : Int32), aR 7 0]) (σ1 := q5) (P := []) rfl trivial ?_
      obtain ⟨q6, hq6, hm⟩ := obind_eq hm
      refine XW.callV B (M := M_X3_readBinary) (t := 7) (j := 0) (cn := 1) (as := [aI (0 : Int32), aI (0 : Int32)]) ((c_GLaw 60).1 (0 : Int32) (0 : Int32) q5 hq6) (by decide) wV_X3_readBinary wN_X3_readBinary lk_X3_59 rfl rfl rfl (by decide) rfl (Nat.le_of_ble_eq_true rfl) (by decide +kernel) ?_
      refine XW.bk B [(45, .aload_n 0), (46, .bipush 59), (48, .iconst 0)] (by decide +kernel) (pc1 := 49) (ls1 := [some (aR 7 0)]) (st1 := [aI (0 : Int32), aI (59 : Int32), aR 7 0]) (σ1 := q6) (P := []) rfl trivial ?_
      obtain ⟨q7, hq7, hm⟩ := bnT_eq hm
      refine XW.callV B (M := M_X3_addStep) (t := 7) (j := 0) (cn := 1) (as := [aI (59 : Int32), aI (0 : Int32)]) (c_X3_addStep (59 : Int32) (0 : Int32) q6 hq7) (by decide) wV_X3_addStep wN_X3_addStep lk_X3_63 rfl rfl rfl (by decide) rfl (Nat.le_of_ble_eq_true rfl) (by decide +kernel) ?_
      cases hm
      exact XW.vret B q (by decide +kernel)
    · rw [if_neg h4] at hm
      refine XW.bk B [(45, .aload_n 0), (46, .bipush 59), (48, .iconst 0)] (by decide +kernel) (pc1 := 49) (ls1 := [some (aR 7 0)]) (st1 := [aI (0 : Int32), aI (59 : Int32), aR 7 0]) (σ1 := q1) (P := []) rfl trivial ?_
      obtain ⟨q8, hq8, hm⟩ := bnT_eq hm
      refine XW.callV B (M := M_X3_addStep) (t := 7) (j := 0) (cn := 1) (as := [aI (59 : Int32), aI (0 : Int32)]) (c_X3_addStep (59 : Int32) (0 : Int32) q1 hq8) (by decide) wV_X3_addStep wN_X3_addStep lk_X3_63 rfl rfl rfl (by decide) rfl (Nat.le_of_ble_eq_true rfl) (by decide +kernel) ?_
      cases hm
      exact XW.vret B q (by decide +kernel)

def L_X3_readTape_21 : Nat → Int32 → SS → Option (Int32 × SS)
  | 0, _, _ => none
  | n + 1, v1, σ =>
    if (120 : Int32) ≤ v1 then
      if (0 : Int32) ≤ (σ.1 7 0 9) then
        if (σ.1 7 0 9) < (0 : Int32) then
          some ((-1 : Int32), (sI (sAf (sAf (sI σ 7 0 1 (0 : Int32)) 9 0 (va_cpy ((sI σ 7 0 1 (0 : Int32)).2.1 11 0) ((sI σ 7 0 1 (0 : Int32)).2.1 9 0) (0 : Int32).toNatClampNeg (0 : Int32).toNatClampNeg (128 : Int32).toNatClampNeg)) 10 0 (va_cpy ((sAf (sI σ 7 0 1 (0 : Int32)) 9 0 (va_cpy ((sI σ 7 0 1 (0 : Int32)).2.1 11 0) ((sI σ 7 0 1 (0 : Int32)).2.1 9 0) (0 : Int32).toNatClampNeg (0 : Int32).toNatClampNeg (128 : Int32).toNatClampNeg)).2.1 12 0) ((sAf (sI σ 7 0 1 (0 : Int32)) 9 0 (va_cpy ((sI σ 7 0 1 (0 : Int32)).2.1 11 0) ((sI σ 7 0 1 (0 : Int32)).2.1 9 0) (0 : Int32).toNatClampNeg (0 : Int32).toNatClampNeg (128 : Int32).toNatClampNeg)).2.1 10 0) (0 : Int32).toNatClampNeg (0 : Int32).toNatClampNeg (128 : Int32).toNatClampNeg)) 7 0 4 (σ.1 7 0 7)))
        else
        some ((σ.1 7 0 9), (sI σ 7 0 1 (0 : Int32)))
      else
      if (σ.1 7 0 1) ≤ (σ.1 7 0 8) then
        if (σ.1 7 0 9) < (0 : Int32) then
          some ((-1 : Int32), (sI (sAf (sAf (sI σ 7 0 1 (0 : Int32)) 9 0 (va_cpy ((sI σ 7 0 1 (0 : Int32)).2.1 11 0) ((sI σ 7 0 1 (0 : Int32)).2.1 9 0) (0 : Int32).toNatClampNeg (0 : Int32).toNatClampNeg (128 : Int32).toNatClampNeg)) 10 0 (va_cpy ((sAf (sI σ 7 0 1 (0 : Int32)) 9 0 (va_cpy ((sI σ 7 0 1 (0 : Int32)).2.1 11 0) ((sI σ 7 0 1 (0 : Int32)).2.1 9 0) (0 : Int32).toNatClampNeg (0 : Int32).toNatClampNeg (128 : Int32).toNatClampNeg)).2.1 12 0) ((sAf (sI σ 7 0 1 (0 : Int32)) 9 0 (va_cpy ((sI σ 7 0 1 (0 : Int32)).2.1 11 0) ((sI σ 7 0 1 (0 : Int32)).2.1 9 0) (0 : Int32).toNatClampNeg (0 : Int32).toNatClampNeg (128 : Int32).toNatClampNeg)).2.1 10 0) (0 : Int32).toNatClampNeg (0 : Int32).toNatClampNeg (128 : Int32).toNatClampNeg)) 7 0 4 (σ.1 7 0 7)))
        else
        some ((σ.1 7 0 9), (sI σ 7 0 1 (0 : Int32)))
      else
      if (σ.1 7 0 8) < (0 : Int32) then
        some ((-1 : Int32), (sI (sAf (sAf (sI (sI σ 7 0 9 (σ.1 7 0 8)) 7 0 1 (0 : Int32)) 9 0 (va_cpy ((sI (sI σ 7 0 9 (σ.1 7 0 8)) 7 0 1 (0 : Int32)).2.1 11 0) ((sI (sI σ 7 0 9 (σ.1 7 0 8)) 7 0 1 (0 : Int32)).2.1 9 0) (0 : Int32).toNatClampNeg (0 : Int32).toNatClampNeg (128 : Int32).toNatClampNeg)) 10 0 (va_cpy ((sAf (sI (sI σ 7 0 9 (σ.1 7 0 8)) 7 0 1 (0 : Int32)) 9 0 (va_cpy ((sI (sI σ 7 0 9 (σ.1 7 0 8)) 7 0 1 (0 : Int32)).2.1 11 0) ((sI (sI σ 7 0 9 (σ.1 7 0 8)) 7 0 1 (0 : Int32)).2.1 9 0) (0 : Int32).toNatClampNeg (0 : Int32).toNatClampNeg (128 : Int32).toNatClampNeg)).2.1 12 0) ((sAf (sI (sI σ 7 0 9 (σ.1 7 0 8)) 7 0 1 (0 : Int32)) 9 0 (va_cpy ((sI (sI σ 7 0 9 (σ.1 7 0 8)) 7 0 1 (0 : Int32)).2.1 11 0) ((sI (sI σ 7 0 9 (σ.1 7 0 8)) 7 0 1 (0 : Int32)).2.1 9 0) (0 : Int32).toNatClampNeg (0 : Int32).toNatClampNeg (128 : Int32).toNatClampNeg)).2.1 10 0) (0 : Int32).toNatClampNeg (0 : Int32).toNatClampNeg (128 : Int32).toNatClampNeg)) 7 0 4 (σ.1 7 0 7)))
      else
      some ((σ.1 7 0 8), (sI (sI σ 7 0 9 (σ.1 7 0 8)) 7 0 1 (0 : Int32)))
    else
    if (0 : Int32) ≤ (σ.1 7 0 9) then
      if (σ.1 7 0 9) < (0 : Int32) then
        some ((-1 : Int32), (sI (sAf (sAf (sI σ 7 0 1 (0 : Int32)) 9 0 (va_cpy ((sI σ 7 0 1 (0 : Int32)).2.1 11 0) ((sI σ 7 0 1 (0 : Int32)).2.1 9 0) (0 : Int32).toNatClampNeg (0 : Int32).toNatClampNeg (128 : Int32).toNatClampNeg)) 10 0 (va_cpy ((sAf (sI σ 7 0 1 (0 : Int32)) 9 0 (va_cpy ((sI σ 7 0 1 (0 : Int32)).2.1 11 0) ((sI σ 7 0 1 (0 : Int32)).2.1 9 0) (0 : Int32).toNatClampNeg (0 : Int32).toNatClampNeg (128 : Int32).toNatClampNeg)).2.1 12 0) ((sAf (sI σ 7 0 1 (0 : Int32)) 9 0 (va_cpy ((sI σ 7 0 1 (0 : Int32)).2.1 11 0) ((sI σ 7 0 1 (0 : Int32)).2.1 9 0) (0 : Int32).toNatClampNeg (0 : Int32).toNatClampNeg (128 : Int32).toNatClampNeg)).2.1 10 0) (0 : Int32).toNatClampNeg (0 : Int32).toNatClampNeg (128 : Int32).toNatClampNeg)) 7 0 4 (σ.1 7 0 7)))
      else
      some ((σ.1 7 0 9), (sI σ 7 0 1 (0 : Int32)))
    else
    if (m_X3_next σ) = (59 : Int32) then
      Option.bind (m_X3_readLine (sI σ 7 0 8 ((σ.1 7 0 8) + (1 : Int32)))) (fun q11 =>
      L_X3_readTape_21 n (v1 + (1 : Int32)) q11)
    else
    if (σ.1 7 0 1) ≤ (σ.1 7 0 8) then
      if (σ.1 7 0 9) < (0 : Int32) then
        some ((-1 : Int32), (sI (sAf (sAf (sI σ 7 0 1 (0 : Int32)) 9 0 (va_cpy ((sI σ 7 0 1 (0 : Int32)).2.1 11 0) ((sI σ 7 0 1 (0 : Int32)).2.1 9 0) (0 : Int32).toNatClampNeg (0 : Int32).toNatClampNeg (128 : Int32).toNatClampNeg)) 10 0 (va_cpy ((sAf (sI σ 7 0 1 (0 : Int32)) 9 0 (va_cpy ((sI σ 7 0 1 (0 : Int32)).2.1 11 0) ((sI σ 7 0 1 (0 : Int32)).2.1 9 0) (0 : Int32).toNatClampNeg (0 : Int32).toNatClampNeg (128 : Int32).toNatClampNeg)).2.1 12 0) ((sAf (sI σ 7 0 1 (0 : Int32)) 9 0 (va_cpy ((sI σ 7 0 1 (0 : Int32)).2.1 11 0) ((sI σ 7 0 1 (0 : Int32)).2.1 9 0) (0 : Int32).toNatClampNeg (0 : Int32).toNatClampNeg (128 : Int32).toNatClampNeg)).2.1 10 0) (0 : Int32).toNatClampNeg (0 : Int32).toNatClampNeg (128 : Int32).toNatClampNeg)) 7 0 4 (σ.1 7 0 7)))
      else
      some ((σ.1 7 0 9), (sI σ 7 0 1 (0 : Int32)))
    else
    if (σ.1 7 0 8) < (0 : Int32) then
      some ((-1 : Int32), (sI (sAf (sAf (sI (sI σ 7 0 9 (σ.1 7 0 8)) 7 0 1 (0 : Int32)) 9 0 (va_cpy ((sI (sI σ 7 0 9 (σ.1 7 0 8)) 7 0 1 (0 : Int32)).2.1 11 0) ((sI (sI σ 7 0 9 (σ.1 7 0 8)) 7 0 1 (0 : Int32)).2.1 9 0) (0 : Int32).toNatClampNeg (0 : Int32).toNatClampNeg (128 : Int32).toNatClampNeg)) 10 0 (va_cpy ((sAf (sI (sI σ 7 0 9 (σ.1 7 0 8)) 7 0 1 (0 : Int32)) 9 0 (va_cpy ((sI (sI σ 7 0 9 (σ.1 7 0 8)) 7 0 1 (0 : Int32)).2.1 11 0) ((sI (sI σ 7 0 9 (σ.1 7 0 8)) 7 0 1 (0 : Int32)).2.1 9 0) (0 : Int32).toNatClampNeg (0 : Int32).toNatClampNeg (128 : Int32).toNatClampNeg)).2.1 12 0) ((sAf (sI (sI σ 7 0 9 (σ.1 7 0 8)) 7 0 1 (0 : Int32)) 9 0 (va_cpy ((sI (sI σ 7 0 9 (σ.1 7 0 8)) 7 0 1 (0 : Int32)).2.1 11 0) ((sI (sI σ 7 0 9 (σ.1 7 0 8)) 7 0 1 (0 : Int32)).2.1 9 0) (0 : Int32).toNatClampNeg (0 : Int32).toNatClampNeg (128 : Int32).toNatClampNeg)).2.1 10 0) (0 : Int32).toNatClampNeg (0 : Int32).toNatClampNeg (128 : Int32).toNatClampNeg)) 7 0 4 (σ.1 7 0 7)))
    else
    some ((σ.1 7 0 8), (sI (sI σ 7 0 9 (σ.1 7 0 8)) 7 0 1 (0 : Int32)))
def m_X3_readTape (σ : SS) : Option (Int32 × SS) :=
  Option.bind (m_X3_readLine (sI (sI (sI σ 7 0 8 (0 : Int32)) 7 0 9 (-1 : Int32)) 7 0 7 (0 : Int32))) (fun q1 =>
  L_X3_readTape_21 FU (0 : Int32) q1)
set_option maxRecDepth 100000 in
set_option maxHeartbeats 4000000 in
theorem lp_X3_readTape_21 {Γ : XC} {r : Int32} {σ' : SS} (B : XB Γ cX3_readTape RX3 64 K3 LC 2) (q : XQ Γ (some .int) (some (aI r)) σ') : ∀ (n : Nat) (v1 : Int32) (σ : SS), L_X3_readTape_21 n v1 σ = some (r, σ') → XW Γ 21 [some (aR 7 0), some (aI v1)] [] σ := by
  intro n
  induction n with
  | zero => intro v1 σ hm; cases hm
  | succ n ih =>
    intro v1 σ hm
    rw [L_X3_readTape_21] at hm
    refine XW.bb B [(21, .iload_n 1), (22, .bipush 120)] (by decide +kernel) (pc1 := 24) (ls1 := [some (aR 7 0), some (aI v1)]) (st1 := [aI (120 : Int32), aI v1]) (σ1 := σ) (P := []) (i := .if_icmp .ge 39) (tgt := 63) (q := (120 : Int32) ≤ v1) rfl trivial (by decide +kernel) rfl (by decide) (fun h2 => ?_) (fun h2 => ?_)
    · rw [if_pos h2] at hm
      refine XW.bb B [(63, .aload_n 0), (64, .getfield 40)] (by decide +kernel) (pc1 := 67) (ls1 := [some (aR 7 0), some (aI v1)]) (st1 := [aI (σ.1 7 0 9)]) (σ1 := σ) (P := []) (i := .ifCond .ge 22) (tgt := 89) (q := (0 : Int32) ≤ (σ.1 7 0 9)) rfl trivial (by decide +kernel) rfl (by decide) (fun h3 => ?_) (fun h3 => ?_)
      · rw [if_pos h3] at hm
        refine XW.bb B [(89, .aload_n 0), (90, .iconst 0), (91, .putfield 34), (94, .aload_n 0), (95, .getfield 40)] (by decide +kernel) (pc1 := 98) (ls1 := [some (aR 7 0), some (aI v1)]) (st1 := [aI (σ.1 7 0 9)]) (σ1 := (sI σ 7 0 1 (0 : Int32))) (P := []) (i := .ifCond .lt 8) (tgt := 106) (q := (σ.1 7 0 9) < (0 : Int32)) rfl trivial (by decide +kernel) rfl (by decide) (fun h4 => ?_) (fun h4 => ?_)
        · rw [if_pos h4] at hm
          refine XW.bk B [(106, .aload_n 0), (107, .getfield 21), (110, .iconst 0), (111, .aload_n 0), (112, .getfield 15), (115, .iconst 0), (116, .sipush 128)] (by decide +kernel) (pc1 := 119) (ls1 := [some (aR 7 0), some (aI v1)]) (st1 := [aI (128 : Int32), aI (0 : Int32), aR 9 0, aI (0 : Int32), aR 11 0]) (σ1 := (sI σ 7 0 1 (0 : Int32))) (P := []) rfl trivial ?_
          refine XW.copyi B (c1 := 1) (c2 := 1) (n1 := 128) (n2 := 128) lk_X3_53 rfl (by decide) rfl (by decide) (by decide) (by decide) (by decide) (by decide +kernel) (by decide +kernel) (Nat.le_of_ble_eq_true rfl) (by decide +kernel) ?_
          refine XW.bk B [(122, .aload_n 0), (123, .getfield 24), (126, .iconst 0), (127, .aload_n 0), (128, .getfield 18), (131, .iconst 0), (132, .sipush 128)] (by decide +kernel) (pc1 := 135) (ls1 := [some (aR 7 0), some (aI v1)]) (st1 := [aI (128 : Int32), aI (0 : Int32), aR 10 0, aI (0 : Int32), aR 12 0]) (σ1 := (sAf (sI σ 7 0 1 (0 : Int32)) 9 0 (va_cpy ((sI σ 7 0 1 (0 : Int32)).2.1 11 0) ((sI σ 7 0 1 (0 : Int32)).2.1 9 0) (0 : Int32).toNatClampNeg (0 : Int32).toNatClampNeg (128 : Int32).toNatClampNeg))) (P := []) rfl trivial ?_
          refine XW.copyi B (c1 := 1) (c2 := 1) (n1 := 128) (n2 := 128) lk_X3_53 rfl (by decide) rfl (by decide) (by decide) (by decide) (by decide) (by decide +kernel) (by decide +kernel) (Nat.le_of_ble_eq_true rfl) (by decide +kernel) ?_
          refine XW.bk B [(138, .aload_n 0), (139, .aload_n 0), (140, .getfield 43), (143, .putfield 30), (146, .iconst (-1))] (by decide +kernel) (pc1 := 147) (ls1 := [some (aR 7 0), some (aI v1)]) (st1 := [aI (-1 : Int32)]) (σ1 := (sI (sAf (sAf (sI σ 7 0 1 (0 : Int32)) 9 0 (va_cpy ((sI σ 7 0 1 (0 : Int32)).2.1 11 0) ((sI σ 7 0 1 (0 : Int32)).2.1 9 0) (0 : Int32).toNatClampNeg (0 : Int32).toNatClampNeg (128 : Int32).toNatClampNeg)) 10 0 (va_cpy ((sAf (sI σ 7 0 1 (0 : Int32)) 9 0 (va_cpy ((sI σ 7 0 1 (0 : Int32)).2.1 11 0) ((sI σ 7 0 1 (0 : Int32)).2.1 9 0) (0 : Int32).toNatClampNeg (0 : Int32).toNatClampNeg (128 : Int32).toNatClampNeg)).2.1 12 0) ((sAf (sI σ 7 0 1 (0 : Int32)) 9 0 (va_cpy ((sI σ 7 0 1 (0 : Int32)).2.1 11 0) ((sI σ 7 0 1 (0 : Int32)).2.1 9 0) (0 : Int32).toNatClampNeg (0 : Int32).toNatClampNeg (128 : Int32).toNatClampNeg)).2.1 10 0) (0 : Int32).toNatClampNeg (0 : Int32).toNatClampNeg (128 : Int32).toNatClampNeg)) 7 0 4 (σ.1 7 0 7))) (P := []) rfl trivial ?_
          cases hm
          exact XW.iret B q (by decide +kernel)
        · rw [if_neg h4] at hm
          refine XW.bk B [(101, .aload_n 0), (102, .getfield 40)] (by decide +kernel) (pc1 := 105) (ls1 := [some (aR 7 0), some (aI v1)]) (st1 := [aI (σ.1 7 0 9)]) (σ1 := (sI σ 7 0 1 (0 : Int32))) (P := []) rfl trivial ?_
          cases hm
          exact XW.iret B q (by decide +kernel)
      · rw [if_neg h3] at hm
        refine XW.bb B [(70, .aload_n 0), (71, .getfield 37), (74, .aload_n 0), (75, .getfield 34)] (by decide +kernel) (pc1 := 78) (ls1 := [some (aR 7 0), some (aI v1)]) (st1 := [aI (σ.1 7 0 1), aI (σ.1 7 0 8)]) (σ1 := σ) (P := []) (i := .if_icmp .ge 11) (tgt := 89) (q := (σ.1 7 0 1) ≤ (σ.1 7 0 8)) rfl trivial (by decide +kernel) rfl (by decide) (fun h5 => ?_) (fun h5 => ?_)
        · rw [if_pos h5] at hm
          refine XW.bb B [(89, .aload_n 0), (90, .iconst 0), (91, .putfield 34), (94, .aload_n 0), (95, .getfield 40)] (by decide +kernel) (pc1 := 98) (ls1 := [some (aR 7 0), some (aI v1)]) (st1 := [aI (σ.1 7 0 9)]) (σ1 := (sI σ 7 0 1 (0 : Int32))) (P := []) (i := .ifCond .lt 8) (tgt := 106) (q := (σ.1 7 0 9) < (0 : Int32)) rfl trivial (by decide +kernel) rfl (by decide) (fun h6 => ?_) (fun h6 => ?_)
          · rw [if_pos h6] at hm
            refine XW.bk B [(106, .aload_n 0), (107, .getfield 21), (110, .iconst 0), (111, .aload_n 0), (112, .getfield 15), (115, .iconst 0), (116, .sipush 128)] (by decide +kernel) (pc1 := 119) (ls1 := [some (aR 7 0), some (aI v1)]) (st1 := [aI (128 : Int32), aI (0 : Int32), aR 9 0, aI (0 : Int32), aR 11 0]) (σ1 := (sI σ 7 0 1 (0 : Int32))) (P := []) rfl trivial ?_
            refine XW.copyi B (c1 := 1) (c2 := 1) (n1 := 128) (n2 := 128) lk_X3_53 rfl (by decide) rfl (by decide) (by decide) (by decide) (by decide) (by decide +kernel) (by decide +kernel) (Nat.le_of_ble_eq_true rfl) (by decide +kernel) ?_
            refine XW.bk B [(122, .aload_n 0), (123, .getfield 24), (126, .iconst 0), (127, .aload_n 0), (128, .getfield 18), (131, .iconst 0), (132, .sipush 128)] (by decide +kernel) (pc1 := 135) (ls1 := [some (aR 7 0), some (aI v1)]) (st1 := [aI (128 : Int32), aI (0 : Int32), aR 10 0, aI (0 : Int32), aR 12 0]) (σ1 := (sAf (sI σ 7 0 1 (0 : Int32)) 9 0 (va_cpy ((sI σ 7 0 1 (0 : Int32)).2.1 11 0) ((sI σ 7 0 1 (0 : Int32)).2.1 9 0) (0 : Int32).toNatClampNeg (0 : Int32).toNatClampNeg (128 : Int32).toNatClampNeg))) (P := []) rfl trivial ?_
            refine XW.copyi B (c1 := 1) (c2 := 1) (n1 := 128) (n2 := 128) lk_X3_53 rfl (by decide) rfl (by decide) (by decide) (by decide) (by decide) (by decide +kernel) (by decide +kernel) (Nat.le_of_ble_eq_true rfl) (by decide +kernel) ?_
            refine XW.bk B [(138, .aload_n 0), (139, .aload_n 0), (140, .getfield 43), (143, .putfield 30), (146, .iconst (-1))] (by decide +kernel) (pc1 := 147) (ls1 := [some (aR 7 0), some (aI v1)]) (st1 := [aI (-1 : Int32)]) (σ1 := (sI (sAf (sAf (sI σ 7 0 1 (0 : Int32)) 9 0 (va_cpy ((sI σ 7 0 1 (0 : Int32)).2.1 11 0) ((sI σ 7 0 1 (0 : Int32)).2.1 9 0) (0 : Int32).toNatClampNeg (0 : Int32).toNatClampNeg (128 : Int32).toNatClampNeg)) 10 0 (va_cpy ((sAf (sI σ 7 0 1 (0 : Int32)) 9 0 (va_cpy ((sI σ 7 0 1 (0 : Int32)).2.1 11 0) ((sI σ 7 0 1 (0 : Int32)).2.1 9 0) (0 : Int32).toNatClampNeg (0 : Int32).toNatClampNeg (128 : Int32).toNatClampNeg)).2.1 12 0) ((sAf (sI σ 7 0 1 (0 : Int32)) 9 0 (va_cpy ((sI σ 7 0 1 (0 : Int32)).2.1 11 0) ((sI σ 7 0 1 (0 : Int32)).2.1 9 0) (0 : Int32).toNatClampNeg (0 : Int32).toNatClampNeg (128 : Int32).toNatClampNeg)).2.1 10 0) (0 : Int32).toNatClampNeg (0 : Int32).toNatClampNeg (128 : Int32).toNatClampNeg)) 7 0 4 (σ.1 7 0 7))) (P := []) rfl trivial ?_
            cases hm
            exact XW.iret B q (by decide +kernel)
          · rw [if_neg h6] at hm
            refine XW.bk B [(101, .aload_n 0), (102, .getfield 40)] (by decide +kernel) (pc1 := 105) (ls1 := [some (aR 7 0), some (aI v1)]) (st1 := [aI (σ.1 7 0 9)]) (σ1 := (sI σ 7 0 1 (0 : Int32))) (P := []) rfl trivial ?_
            cases hm
            exact XW.iret B q (by decide +kernel)
        · rw [if_neg h5] at hm
          refine XW.bb B [(81, .aload_n 0), (82, .aload_n 0), (83, .getfield 37), (86, .putfield 40), (89, .aload_n 0), (90, .iconst 0), (91, .putfield 34), (94, .aload_n 0), (95, .getfield 40)] (by decide +kernel) (pc1 := 98) (ls1 := [some (aR 7 0), some (aI v1)]) (st1 := [aI (σ.1 7 0 8)]) (σ1 := (sI (sI σ 7 0 9 (σ.1 7 0 8)) 7 0 1 (0 : Int32))) (P := []) (i := .ifCond .lt 8) (tgt := 106) (q := (σ.1 7 0 8) < (0 : Int32)) rfl trivial (by decide +kernel) rfl (by decide) (fun h7 => ?_) (fun h7 => ?_)
          · rw [if_pos h7] at hm
            refine XW.bk B [(106, .aload_n 0), (107, .getfield 21), (110, .iconst 0), (111, .aload_n 0), (112, .getfield 15), (115, .iconst 0), (116, .sipush 128)] (by decide +kernel) (pc1 := 119) (ls1 := [some (aR 7 0), some (aI v1)]) (st1 := [aI (128 : Int32), aI (0 : Int32), aR 9 0, aI (0 : Int32), aR 11 0]) (σ1 := (sI (sI σ 7 0 9 (σ.1 7 0 8)) 7 0 1 (0 : Int32))) (P := []) rfl trivial ?_
            refine XW.copyi B (c1 := 1) (c2 := 1) (n1 := 128) (n2 := 128) lk_X3_53 rfl (by decide) rfl (by decide) (by decide) (by decide) (by decide) (by decide +kernel) (by decide +kernel) (Nat.le_of_ble_eq_true rfl) (by decide +kernel) ?_
            refine XW.bk B [(122, .aload_n 0), (123, .getfield 24), (126, .iconst 0), (127, .aload_n 0), (128, .getfield 18), (131, .iconst 0), (132, .sipush 128)] (by decide +kernel) (pc1 := 135) (ls1 := [some (aR 7 0), some (aI v1)]) (st1 := [aI (128 : Int32), aI (0 : Int32), aR 10 0, aI (0 : Int32), aR 12 0]) (σ1 := (sAf (sI (sI σ 7 0 9 (σ.1 7 0 8)) 7 0 1 (0 : Int32)) 9 0 (va_cpy ((sI (sI σ 7 0 9 (σ.1 7 0 8)) 7 0 1 (0 : Int32)).2.1 11 0) ((sI (sI σ 7 0 9 (σ.1 7 0 8)) 7 0 1 (0 : Int32)).2.1 9 0) (0 : Int32).toNatClampNeg (0 : Int32).toNatClampNeg (128 : Int32).toNatClampNeg))) (P := []) rfl trivial ?_
            refine XW.copyi B (c1 := 1) (c2 := 1) (n1 := 128) (n2 := 128) lk_X3_53 rfl (by decide) rfl (by decide) (by decide) (by decide) (by decide) (by decide +kernel) (by decide +kernel) (Nat.le_of_ble_eq_true rfl) (by decide +kernel) ?_
            refine XW.bk B [(138, .aload_n 0), (139, .aload_n 0), (140, .getfield 43), (143, .putfield 30), (146, .iconst (-1))] (by decide +kernel) (pc1 := 147) (ls1 := [some (aR 7 0), some (aI v1)]) (st1 := [aI (-1 : Int32)]) (σ1 := (sI (sAf (sAf (sI (sI σ 7 0 9 (σ.1 7 0 8)) 7 0 1 (0 : Int32)) 9 0 (va_cpy ((sI (sI σ 7 0 9 (σ.1 7 0 8)) 7 0 1 (0 : Int32)).2.1 11 0) ((sI (sI σ 7 0 9 (σ.1 7 0 8)) 7 0 1 (0 : Int32)).2.1 9 0) (0 : Int32).toNatClampNeg (0 : Int32).toNatClampNeg (128 : Int32).toNatClampNeg)) 10 0 (va_cpy ((sAf (sI (sI σ 7 0 9 (σ.1 7 0 8)) 7 0 1 (0 : Int32)) 9 0 (va_cpy ((sI (sI σ 7 0 9 (σ.1 7 0 8)) 7 0 1 (0 : Int32)).2.1 11 0) ((sI (sI σ 7 0 9 (σ.1 7 0 8)) 7 0 1 (0 : Int32)).2.1 9 0) (0 : Int32).toNatClampNeg (0 : Int32).toNatClampNeg (128 : Int32).toNatClampNeg)).2.1 12 0) ((sAf (sI (sI σ 7 0 9 (σ.1 7 0 8)) 7 0 1 (0 : Int32)) 9 0 (va_cpy ((sI (sI σ 7 0 9 (σ.1 7 0 8)) 7 0 1 (0 : Int32)).2.1 11 0) ((sI (sI σ 7 0 9 (σ.1 7 0 8)) 7 0 1 (0 : Int32)).2.1 9 0) (0 : Int32).toNatClampNeg (0 : Int32).toNatClampNeg (128 : Int32).toNatClampNeg)).2.1 10 0) (0 : Int32).toNatClampNeg (0 : Int32).toNatClampNeg (128 : Int32).toNatClampNeg)) 7 0 4 (σ.1 7 0 7))) (P := []) rfl trivial ?_
            cases hm
            exact XW.iret B q (by decide +kernel)
          · rw [if_neg h7] at hm
            refine XW.bk B [(101, .aload_n 0), (102, .getfield 40)] (by decide +kernel) (pc1 := 105) (ls1 := [some (aR 7 0), some (aI v1)]) (st1 := [aI (σ.1 7 0 8)]) (σ1 := (sI (sI σ 7 0 9 (σ.1 7 0 8)) 7 0 1 (0 : Int32))) (P := []) rfl trivial ?_
            cases hm
            exact XW.iret B q (by decide +kernel)
    · rw [if_neg h2] at hm
      refine XW.bb B [(27, .aload_n 0), (28, .getfield 40)] (by decide +kernel) (pc1 := 31) (ls1 := [some (aR 7 0), some (aI v1)]) (st1 := [aI (σ.1 7 0 9)]) (σ1 := σ) (P := []) (i := .ifCond .ge 32) (tgt := 63) (q := (0 : Int32) ≤ (σ.1 7 0 9)) rfl trivial (by decide +kernel) rfl (by decide) (fun h8 => ?_) (fun h8 => ?_)
      · rw [if_pos h8] at hm
        refine XW.bb B [(63, .aload_n 0), (64, .getfield 40)] (by decide +kernel) (pc1 := 67) (ls1 := [some (aR 7 0), some (aI v1)]) (st1 := [aI (σ.1 7 0 9)]) (σ1 := σ) (P := []) (i := .ifCond .ge 22) (tgt := 89) (q := (0 : Int32) ≤ (σ.1 7 0 9)) rfl trivial (by decide +kernel) rfl (by decide) (fun _ => ?_) (fun h => absurd h8 h)
        refine XW.bb B [(89, .aload_n 0), (90, .iconst 0), (91, .putfield 34), (94, .aload_n 0), (95, .getfield 40)] (by decide +kernel) (pc1 := 98) (ls1 := [some (aR 7 0), some (aI v1)]) (st1 := [aI (σ.1 7 0 9)]) (σ1 := (sI σ 7 0 1 (0 : Int32))) (P := []) (i := .ifCond .lt 8) (tgt := 106) (q := (σ.1 7 0 9) < (0 : Int32)) rfl trivial (by decide +kernel) rfl (by decide) (fun h9 => ?_) (fun h9 => ?_)
        · rw [if_pos h9] at hm
          refine XW.bk B [(106, .aload_n 0), (107, .getfield 21), (110, .iconst 0), (111, .aload_n 0), (112, .getfield 15), (115, .iconst 0), (116, .sipush 128)] (by decide +kernel) (pc1 := 119) (ls1 := [some (aR 7 0), some (aI v1)]) (st1 := [aI (128 : Int32), aI (0 : Int32), aR 9 0, aI (0 : Int32), aR 11 0]) (σ1 := (sI σ 7 0 1 (0 : Int32))) (P := []) rfl trivial ?_
          refine XW.copyi B (c1 := 1) (c2 := 1) (n1 := 128) (n2 := 128) lk_X3_53 rfl (by decide) rfl (by decide) (by decide) (by decide) (by decide) (by decide +kernel) (by decide +kernel) (Nat.le_of_ble_eq_true rfl) (by decide +kernel) ?_
          refine XW.bk B [(122, .aload_n 0), (123, .getfield 24), (126, .iconst 0), (127, .aload_n 0), (128, .getfield 18), (131, .iconst 0), (132, .sipush 128)] (by decide +kernel) (pc1 := 135) (ls1 := [some (aR 7 0), some (aI v1)]) (st1 := [aI (128 : Int32), aI (0 : Int32), aR 10 0, aI (0 : Int32), aR 12 0]) (σ1 := (sAf (sI σ 7 0 1 (0 : Int32)) 9 0 (va_cpy ((sI σ 7 0 1 (0 : Int32)).2.1 11 0) ((sI σ 7 0 1 (0 : Int32)).2.1 9 0) (0 : Int32).toNatClampNeg (0 : Int32).toNatClampNeg (128 : Int32).toNatClampNeg))) (P := []) rfl trivial ?_
          refine XW.copyi B (c1 := 1) (c2 := 1) (n1 := 128) (n2 := 128) lk_X3_53 rfl (by decide) rfl (by decide) (by decide) (by decide) (by decide) (by decide +kernel) (by decide +kernel) (Nat.le_of_ble_eq_true rfl) (by decide +kernel) ?_
          refine XW.bk B [(138, .aload_n 0), (139, .aload_n 0), (140, .getfield 43), (143, .putfield 30), (146, .iconst (-1))] (by decide +kernel) (pc1 := 147) (ls1 := [some (aR 7 0), some (aI v1)]) (st1 := [aI (-1 : Int32)]) (σ1 := (sI (sAf (sAf (sI σ 7 0 1 (0 : Int32)) 9 0 (va_cpy ((sI σ 7 0 1 (0 : Int32)).2.1 11 0) ((sI σ 7 0 1 (0 : Int32)).2.1 9 0) (0 : Int32).toNatClampNeg (0 : Int32).toNatClampNeg (128 : Int32).toNatClampNeg)) 10 0 (va_cpy ((sAf (sI σ 7 0 1 (0 : Int32)) 9 0 (va_cpy ((sI σ 7 0 1 (0 : Int32)).2.1 11 0) ((sI σ 7 0 1 (0 : Int32)).2.1 9 0) (0 : Int32).toNatClampNeg (0 : Int32).toNatClampNeg (128 : Int32).toNatClampNeg)).2.1 12 0) ((sAf (sI σ 7 0 1 (0 : Int32)) 9 0 (va_cpy ((sI σ 7 0 1 (0 : Int32)).2.1 11 0) ((sI σ 7 0 1 (0 : Int32)).2.1 9 0) (0 : Int32).toNatClampNeg (0 : Int32).toNatClampNeg (128 : Int32).toNatClampNeg)).2.1 10 0) (0 : Int32).toNatClampNeg (0 : Int32).toNatClampNeg (128 : Int32).toNatClampNeg)) 7 0 4 (σ.1 7 0 7))) (P := []) rfl trivial ?_
          cases hm
          exact XW.iret B q (by decide +kernel)
        · rw [if_neg h9] at hm
          refine XW.bk B [(101, .aload_n 0), (102, .getfield 40)] (by decide +kernel) (pc1 := 105) (ls1 := [some (aR 7 0), some (aI v1)]) (st1 := [aI (σ.1 7 0 9)]) (σ1 := (sI σ 7 0 1 (0 : Int32))) (P := []) rfl trivial ?_
          cases hm
          exact XW.iret B q (by decide +kernel)
      · rw [if_neg h8] at hm
        refine XW.bk B [(34, .aload_n 0)] (by decide +kernel) (pc1 := 35) (ls1 := [some (aR 7 0), some (aI v1)]) (st1 := [aR 7 0]) (σ1 := σ) (P := []) rfl trivial ?_
        refine XW.callV B (M := M_X3_next) (t := 7) (j := 0) (cn := 1) (as := []) (c_X3_next σ rfl) (by decide) wV_X3_next wN_X3_next lk_X3_49 rfl rfl rfl (by decide) rfl (Nat.le_of_ble_eq_true rfl) (by decide +kernel) ?_
        refine XW.bn B [(38, .bipush 59)] (by decide +kernel) (pc1 := 40) (ls1 := [some (aR 7 0), some (aI v1)]) (st1 := [aI (59 : Int32), aI (m_X3_next σ)]) (σ1 := σ) (P := []) (i := .if_icmp .ne 23) (tgt := 63) (q := (m_X3_next σ) = (59 : Int32)) rfl trivial (by decide +kernel) rfl (by decide) (fun h10 => ?_) (fun h10 => ?_)
        · rw [if_pos h10] at hm
          refine XW.bk B [(43, .aload_n 0), (44, .dup), (45, .getfield 37), (48, .iconst 1), (49, .iadd), (50, .putfield 37), (53, .aload_n 0)] (by decide +kernel) (pc1 := 54) (ls1 := [some (aR 7 0), some (aI v1)]) (st1 := [aR 7 0]) (σ1 := (sI σ 7 0 8 ((σ.1 7 0 8) + (1 : Int32)))) (P := []) rfl trivial ?_
          obtain ⟨q11, hq11, hm⟩ := obind_eq hm
          refine XW.callV B (M := M_X3_readLine) (t := 7) (j := 0) (cn := 1) (as := []) (c_X3_readLine (sI σ 7 0 8 ((σ.1 7 0 8) + (1 : Int32))) hq11) (by decide) wV_X3_readLine wN_X3_readLine lk_X3_46 rfl rfl rfl (by decide) rfl (Nat.le_of_ble_eq_true rfl) (by decide +kernel) ?_
          refine XW.bk B [(57, .iinc 1 1), (60, .goto (-39))] (by decide +kernel) (pc1 := 21) (ls1 := [some (aR 7 0), some (aI (v1 + (1 : Int32)))]) (st1 := []) (σ1 := q11) (P := []) rfl trivial ?_
          exact ih (v1 + (1 : Int32)) q11 hm
        · rw [if_neg h10] at hm
          refine XW.bb B [(63, .aload_n 0), (64, .getfield 40)] (by decide +kernel) (pc1 := 67) (ls1 := [some (aR 7 0), some (aI v1)]) (st1 := [aI (σ.1 7 0 9)]) (σ1 := σ) (P := []) (i := .ifCond .ge 22) (tgt := 89) (q := (0 : Int32) ≤ (σ.1 7 0 9)) rfl trivial (by decide +kernel) rfl (by decide) (fun h => absurd h h8) (fun _ => ?_)
          refine XW.bb B [(70, .aload_n 0), (71, .getfield 37), (74, .aload_n 0), (75, .getfield 34)] (by decide +kernel) (pc1 := 78) (ls1 := [some (aR 7 0), some (aI v1)]) (st1 := [aI (σ.1 7 0 1), aI (σ.1 7 0 8)]) (σ1 := σ) (P := []) (i := .if_icmp .ge 11) (tgt := 89) (q := (σ.1 7 0 1) ≤ (σ.1 7 0 8)) rfl trivial (by decide +kernel) rfl (by decide) (fun h12 => ?_) (fun h12 => ?_)
          · rw [if_pos h12] at hm
            refine XW.bb B [(89, .aload_n 0), (90, .iconst 0), (91, .putfield 34), (94, .aload_n 0), (95, .getfield 40)] (by decide +kernel) (pc1 := 98) (ls1 := [some (aR 7 0), some (aI v1)]) (st1 := [aI (σ.1 7 0 9)]) (σ1 := (sI σ 7 0 1 (0 : Int32))) (P := []) (i := .ifCond .lt 8) (tgt := 106) (q := (σ.1 7 0 9) < (0 : Int32)) rfl trivial (by decide +kernel) rfl (by decide) (fun h13 => ?_) (fun h13 => ?_)
            · rw [if_pos h13] at hm
              refine XW.bk B [(106, .aload_n 0), (107, .getfield 21), (110, .iconst 0), (111, .aload_n 0), (112, .getfield 15), (115, .iconst 0), (116, .sipush 128)] (by decide +kernel) (pc1 := 119) (ls1 := [some (aR 7 0), some (aI v1)]) (st1 := [aI (128 : Int32), aI (0 : Int32), aR 9 0, aI (0 : Int32), aR 11 0]) (σ1 := (sI σ 7 0 1 (0 : Int32))) (P := []) rfl trivial ?_
              refine XW.copyi B (c1 := 1) (c2 := 1) (n1 := 128) (n2 := 128) lk_X3_53 rfl (by decide) rfl (by decide) (by decide) (by decide) (by decide) (by decide +kernel) (by decide +kernel) (Nat.le_of_ble_eq_true rfl) (by decide +kernel) ?_
              refine XW.bk B [(122, .aload_n 0), (123, .getfield 24), (126, .iconst 0), (127, .aload_n 0), (128, .getfield 18), (131, .iconst 0), (132, .sipush 128)] (by decide +kernel) (pc1 := 135) (ls1 := [some (aR 7 0), some (aI v1)]) (st1 := [aI (128 : Int32), aI (0 : Int32), aR 10 0, aI (0 : Int32), aR 12 0]) (σ1 := (sAf (sI σ 7 0 1 (0 : Int32)) 9 0 (va_cpy ((sI σ 7 0 1 (0 : Int32)).2.1 11 0) ((sI σ 7 0 1 (0 : Int32)).2.1 9 0) (0 : Int32).toNatClampNeg (0 : Int32).toNatClampNeg (128 : Int32).toNatClampNeg))) (P := []) rfl trivial ?_
              refine XW.copyi B (c1 := 1) (c2 := 1) (n1 := 128) (n2 := 128) lk_X3_53 rfl (by decide) rfl (by decide) (by decide) (by decide) (by decide) (by decide +kernel) (by decide +kernel) (Nat.le_of_ble_eq_true rfl) (by decide +kernel) ?_
              refine XW.bk B [(138, .aload_n 0), (139, .aload_n 0), (140, .getfield 43), (143, .putfield 30), (146, .iconst (-1))] (by decide +kernel) (pc1 := 147) (ls1 := [some (aR 7 0), some (aI v1)]) (st1 := [aI (-1 : Int32)]) (σ1 := (sI (sAf (sAf (sI σ 7 0 1 (0 : Int32)) 9 0 (va_cpy ((sI σ 7 0 1 (0 : Int32)).2.1 11 0) ((sI σ 7 0 1 (0 : Int32)).2.1 9 0) (0 : Int32).toNatClampNeg (0 : Int32).toNatClampNeg (128 : Int32).toNatClampNeg)) 10 0 (va_cpy ((sAf (sI σ 7 0 1 (0 : Int32)) 9 0 (va_cpy ((sI σ 7 0 1 (0 : Int32)).2.1 11 0) ((sI σ 7 0 1 (0 : Int32)).2.1 9 0) (0 : Int32).toNatClampNeg (0 : Int32).toNatClampNeg (128 : Int32).toNatClampNeg)).2.1 12 0) ((sAf (sI σ 7 0 1 (0 : Int32)) 9 0 (va_cpy ((sI σ 7 0 1 (0 : Int32)).2.1 11 0) ((sI σ 7 0 1 (0 : Int32)).2.1 9 0) (0 : Int32).toNatClampNeg (0 : Int32).toNatClampNeg (128 : Int32).toNatClampNeg)).2.1 10 0) (0 : Int32).toNatClampNeg (0 : Int32).toNatClampNeg (128 : Int32).toNatClampNeg)) 7 0 4 (σ.1 7 0 7))) (P := []) rfl trivial ?_
              cases hm
              exact XW.iret B q (by decide +kernel)
            · rw [if_neg h13] at hm
              refine XW.bk B [(101, .aload_n 0), (102, .getfield 40)] (by decide +kernel) (pc1 := 105) (ls1 := [some (aR 7 0), some (aI v1)]) (st1 := [aI (σ.1 7 0 9)]) (σ1 := (sI σ 7 0 1 (0 : Int32))) (P := []) rfl trivial ?_
              cases hm
              exact XW.iret B q (by decide +kernel)
          · rw [if_neg h12] at hm
            refine XW.bb B [(81, .aload_n 0), (82, .aload_n 0), (83, .getfield 37), (86, .putfield 40), (89, .aload_n 0), (90, .iconst 0), (91, .putfield 34), (94, .aload_n 0), (95, .getfield 40)] (by decide +kernel) (pc1 := 98) (ls1 := [some (aR 7 0), some (aI v1)]) (st1 := [aI (σ.1 7 0 8)]) (σ1 := (sI (sI σ 7 0 9 (σ.1 7 0 8)) 7 0 1 (0 : Int32))) (P := []) (i := .ifCond .lt 8) (tgt := 106) (q := (σ.1 7 0 8) < (0 : Int32)) rfl trivial (by decide +kernel) rfl (by decide) (fun h14 => ?_) (fun h14 => ?_)
            · rw [if_pos h14] at hm
              refine XW.bk B [(106, .aload_n 0), (107, .getfield 21), (110, .iconst 0), (111, .aload_n 0), (112, .getfield 15), (115, .iconst 0), (116, .sipush 128)] (by decide +kernel) (pc1 := 119) (ls1 := [some (aR 7 0), some (aI v1)]) (st1 := [aI (128 : Int32), aI (0 : Int32), aR 9 0, aI (0 : Int32), aR 11 0]) (σ1 := (sI (sI σ 7 0 9 (σ.1 7 0 8)) 7 0 1 (0 : Int32))) (P := []) rfl trivial ?_
              refine XW.copyi B (c1 := 1) (c2 := 1) (n1 := 128) (n2 := 128) lk_X3_53 rfl (by decide) rfl (by decide) (by decide) (by decide) (by decide) (by decide +kernel) (by decide +kernel) (Nat.le_of_ble_eq_true rfl) (by decide +kernel) ?_
              refine XW.bk B [(122, .aload_n 0), (123, .getfield 24), (126, .iconst 0), (127, .aload_n 0), (128, .getfield 18), (131, .iconst 0), (132, .sipush 128)] (by decide +kernel) (pc1 := 135) (ls1 := [some (aR 7 0), some (aI v1)]) (st1 := [aI (128 : Int32), aI (0 : Int32), aR 10 0, aI (0 : Int32), aR 12 0]) (σ1 := (sAf (sI (sI σ 7 0 9 (σ.1 7 0 8)) 7 0 1 (0 : Int32)) 9 0 (va_cpy ((sI (sI σ 7 0 9 (σ.1 7 0 8)) 7 0 1 (0 : Int32)).2.1 11 0) ((sI (sI σ 7 0 9 (σ.1 7 0 8)) 7 0 1 (0 : Int32)).2.1 9 0) (0 : Int32).toNatClampNeg (0 : Int32).toNatClampNeg (128 : Int32).toNatClampNeg))) (P := []) rfl trivial ?_
              refine XW.copyi B (c1 := 1) (c2 := 1) (n1 := 128) (n2 := 128) lk_X3_53 rfl (by decide) rfl (by decide) (by decide) (by decide) (by decide) (by decide +kernel) (by decide +kernel) (Nat.le_of_ble_eq_true rfl) (by decide +kernel) ?_
              refine XW.bk B [(138, .aload_n 0), (139, .aload_n 0), (140, .getfield 43), (143, .putfield 30), (146, .iconst (-1))] (by decide +kernel) (pc1 := 147) (ls1 := [some (aR 7 0), some (aI v1)]) (st1 := [aI (-1 : Int32)]) (σ1 := (sI (sAf (sAf (sI (sI σ 7 0 9 (σ.1 7 0 8)) 7 0 1 (0 : Int32)) 9 0 (va_cpy ((sI (sI σ 7 0 9 (σ.1 7 0 8)) 7 0 1 (0 : Int32)).2.1 11 0) ((sI (sI σ 7 0 9 (σ.1 7 0 8)) 7 0 1 (0 : Int32)).2.1 9 0) (0 : Int32).toNatClampNeg (0 : Int32).toNatClampNeg (128 : Int32).toNatClampNeg)) 10 0 (va_cpy ((sAf (sI (sI σ 7 0 9 (σ.1 7 0 8)) 7 0 1 (0 : Int32)) 9 0 (va_cpy ((sI (sI σ 7 0 9 (σ.1 7 0 8)) 7 0 1 (0 : Int32)).2.1 11 0) ((sI (sI σ 7 0 9 (σ.1 7 0 8)) 7 0 1 (0 : Int32)).2.1 9 0) (0 : Int32).toNatClampNeg (0 : Int32).toNatClampNeg (128 : Int32).toNatClampNeg)).2.1 12 0) ((sAf (sI (sI σ 7 0 9 (σ.1 7 0 8)) 7 0 1 (0 : Int32)) 9 0 (va_cpy ((sI (sI σ 7 0 9 (σ.1 7 0 8)) 7 0 1 (0 : Int32)).2.1 11 0) ((sI (sI σ 7 0 9 (σ.1 7 0 8)) 7 0 1 (0 : Int32)).2.1 9 0) (0 : Int32).toNatClampNeg (0 : Int32).toNatClampNeg (128 : Int32).toNatClampNeg)).2.1 10 0) (0 : Int32).toNatClampNeg (0 : Int32).toNatClampNeg (128 : Int32).toNatClampNeg)) 7 0 4 (σ.1 7 0 7))) (P := []) rfl trivial ?_
              cases hm
              exact XW.iret B q (by decide +kernel)
            · rw [if_neg h14] at hm
              refine XW.bk B [(101, .aload_n 0), (102, .getfield 40)] (by decide +kernel) (pc1 := 105) (ls1 := [some (aR 7 0), some (aI v1)]) (st1 := [aI (σ.1 7 0 8)]) (σ1 := (sI (sI σ 7 0 9 (σ.1 7 0 8)) 7 0 1 (0 : Int32))) (P := []) rfl trivial ?_
              cases hm
              exact XW.iret B q (by decide +kernel)
set_option maxRecDepth 100000 in
set_option maxHeartbeats 4000000 in
theorem c_X3_readTape (σ : SS) {r : Int32} {σ' : SS} (hm : m_X3_readTape σ = some (r, σ')) : XM LC 64 M_X3_readTape [aR 7 0] σ (some (aI r)) σ' := by
  refine XM.of (K := K3) (by decide) (by decide +kernel) K3_ok (Nat.le_of_ble_eq_true rfl) (fun Γ B q => ?_)
  unfold m_X3_readTape at hm
  refine XW.bk B [(0, .aload_n 0), (1, .iconst 0), (2, .putfield 37), (5, .aload_n 0), (6, .iconst (-1)), (7, .putfield 40), (10, .aload_n 0), (11, .iconst 0), (12, .putfield 43), (15, .aload_n 0)] (by decide +kernel) (pc1 := 16) (ls1 := [some (aR 7 0), none]) (st1 := [aR 7 0]) (σ1 := (sI (sI (sI σ 7 0 8 (0 : Int32)) 7 0 9 (-1 : Int32)) 7 0 7 (0 : Int32))) (P := []) rfl trivial ?_
  obtain ⟨q1, hq1, hm⟩ := obind_eq hm
  refine XW.callV B (M := M_X3_readLine) (t := 7) (j := 0) (cn := 1) (as := []) (c_X3_readLine (sI (sI (sI σ 7 0 8 (0 : Int32)) 7 0 9 (-1 : Int32)) 7 0 7 (0 : Int32)) hq1) (by decide) wV_X3_readLine wN_X3_readLine lk_X3_46 rfl rfl rfl (by decide) rfl (Nat.le_of_ble_eq_true rfl) (by decide +kernel) ?_
  refine XW.bk B [(19, .iconst 0), (20, .istore_n 1)] (by decide +kernel) (pc1 := 21) (ls1 := [some (aR 7 0), some (aI (0 : Int32))]) (st1 := []) (σ1 := q1) (P := []) rfl trivial ?_
  exact lp_X3_readTape_21 B q FU (0 : Int32) q1 hm
