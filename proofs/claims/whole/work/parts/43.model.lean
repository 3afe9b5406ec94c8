def L_X11_windFrom_39 : Nat → Int32 → Int32 → Int32 → Int32 → SS → Option (Int32 × SS)
  | 0, _, _, _, _, _ => none
  | n + 1, v1, v2, v3, v4, σ =>
    if v4 < (0 : Int32) then
      some (v3, (sI σ 0 0 7 (0 : Int32)))
    else
    Option.bind (m_X11_walks v1 (0 : Int32) v2 (sI σ 0 0 7 v4)) (fun q7 =>
    if (q7.1 0 0 18) < (0 : Int32) then
      L_X11_windFrom_39 n v1 v2 v3 (v4 + (-1 : Int32)) q7
    else
    L_X11_windFrom_39 n v1 v2 v4 (v4 + (-1 : Int32)) q7)
def m_X11_windFrom (x1 : Int32) (x2 : Int32) (σ : SS) : Option (Int32 × SS) :=
  Option.bind (m_X11_bytesIs x1 σ) (fun q1 =>
  if q1 = (-1 : Int32) then
    some ((-1 : Int32), σ)
  else
  if (m_X11_isMinute x2) = (0 : Int32) then
    some ((-1 : Int32), σ)
  else
  Option.bind (m_X11_walkIs x1 σ) (fun q4 =>
  if (0 : Int32) ≤ q4 then
    L_X11_windFrom_39 FU x1 x2 (-2 : Int32) (30 : Int32) σ
  else
  Option.bind (m_X11_walkIs x1 σ) (fun q9 =>
  some (q9, σ))))
set_option maxRecDepth 100000 in
set_option maxHeartbeats 4000000 in
theorem lp_X11_windFrom_39 {Γ : XC} {r : Int32} {σ' : SS} (B : XB Γ cX11_windFrom RX11 66 K11 LM 5) (q : XQ Γ (some .int) (some (aI r)) σ') : ∀ (n : Nat) (v1 : Int32) (v2 : Int32) (v3 : Int32) (v4 : Int32) (σ : SS), L_X11_windFrom_39 n v1 v2 v3 v4 σ = some (r, σ') → XW Γ 39 [some (aR 0 0), some (aI v1), some (aI v2), some (aI v3), some (aI v4)] [] σ := by
  intro n
  induction n with
  | zero => intro v1 v2 v3 v4 σ hm; cases hm
  | succ n ih =>
    intro v1 v2 v3 v4 σ hm
    rw [L_X11_windFrom_39] at hm
    refine XW.bb B [(39, .iload 4)] (by decide +kernel) (pc1 := 41) (ls1 := [some (aR 0 0), some (aI v1), some (aI v2), some (aI v3), some (aI v4)]) (st1 := [aI v4]) (σ1 := σ) (P := []) (i := .ifCond .lt 36) (tgt := 77) (q := v4 < (0 : Int32)) rfl trivial (by decide +kernel) rfl (by decide) (fun h6 => ?_) (fun h6 => ?_)
    · rw [if_pos h6] at hm
      refine XW.bk B [(77, .aload_n 0), (78, .iconst 0), (79, .putfield 137), (82, .iload_n 3)] (by decide +kernel) (pc1 := 83) (ls1 := [some (aR 0 0), some (aI v1), some (aI v2), some (aI v3), some (aI v4)]) (st1 := [aI v3]) (σ1 := (sI σ 0 0 7 (0 : Int32))) (P := []) rfl trivial ?_
      obtain ⟨rfl, rfl⟩ := Prod.mk.inj (Option.some.inj hm)
      exact XW.iret B q (by decide +kernel)
    · rw [if_neg h6] at hm
      refine XW.bk B [(44, .aload_n 0), (45, .iload 4), (47, .putfield 137), (50, .aload_n 0), (51, .iload_n 1), (52, .iconst 0), (53, .iload_n 2)] (by decide +kernel) (pc1 := 54) (ls1 := [some (aR 0 0), some (aI v1), some (aI v2), some (aI v3), some (aI v4)]) (st1 := [aI v2, aI (0 : Int32), aI v1, aR 0 0]) (σ1 := (sI σ 0 0 7 v4)) (P := []) rfl trivial ?_
      obtain ⟨q7, hq7, hm⟩ := obind_eq hm
      refine XW.callV B (M := M_X11_walks) (t := 0) (j := 0) (cn := 1) (as := [aI v1, aI (0 : Int32), aI v2]) (c_X11_walks v1 (0 : Int32) v2 (sI σ 0 0 7 v4) hq7) (by decide) wV_X11_walks wN_X11_walks lk_X11_227 rfl rfl rfl (by decide) rfl (Nat.le_of_ble_eq_true rfl) (by decide +kernel) ?_
      refine XW.bb B [(57, .aload_n 0), (58, .getfield 207)] (by decide +kernel) (pc1 := 61) (ls1 := [some (aR 0 0), some (aI v1), some (aI v2), some (aI v3), some (aI v4)]) (st1 := [aI (q7.1 0 0 18)]) (σ1 := q7) (P := []) (i := .ifCond .lt 8) (tgt := 69) (q := (q7.1 0 0 18) < (0 : Int32)) rfl trivial (by decide +kernel) rfl (by decide) (fun h8 => ?_) (fun h8 => ?_)
      · rw [if_pos h8] at hm
        refine XW.bk B [(69, .iload_n 3), (70, .istore_n 3), (71, .iinc 4 (-1)), (74, .goto (-35))] (by decide +kernel) (pc1 := 39) (ls1 := [some (aR 0 0), some (aI v1), some (aI v2), some (aI v3), some (aI (v4 + (-1 : Int32)))]) (st1 := []) (σ1 := q7) (P := []) rfl trivial ?_
        exact ih v1 v2 v3 (v4 + (-1 : Int32)) q7 hm
      · rw [if_neg h8] at hm
        refine XW.bk B [(64, .iload 4), (66, .goto 4), (70, .istore_n 3), (71, .iinc 4 (-1)), (74, .goto (-35))] (by decide +kernel) (pc1 := 39) (ls1 := [some (aR 0 0), some (aI v1), some (aI v2), some (aI v4), some (aI (v4 + (-1 : Int32)))]) (st1 := []) (σ1 := q7) (P := []) rfl trivial ?_
        exact ih v1 v2 v4 (v4 + (-1 : Int32)) q7 hm
set_option maxRecDepth 100000 in
set_option maxHeartbeats 4000000 in
theorem c_X11_windFrom (x1 : Int32) (x2 : Int32) (σ : SS) {r : Int32} {σ' : SS} (hm : m_X11_windFrom x1 x2 σ = some (r, σ')) : XM LM 66 M_X11_windFrom [aR 0 0, aI x1, aI x2] σ (some (aI r)) σ' := by
  refine XM.of (K := K11) (by decide) (by decide +kernel) K11_ok (Nat.le_of_ble_eq_true rfl) (fun Γ B q => ?_)
  unfold m_X11_windFrom at hm
  refine XW.bk B [(0, .aload_n 0), (1, .iload_n 1)] (by decide +kernel) (pc1 := 2) (ls1 := [some (aR 0 0), some (aI x1), some (aI x2), none, none]) (st1 := [aI x1, aR 0 0]) (σ1 := σ) (P := []) rfl trivial ?_
  obtain ⟨q1, hq1, hm⟩ := obind_eq hm
  refine XW.callV B (M := M_X11_bytesIs) (t := 0) (j := 0) (cn := 1) (as := [aI x1]) (c_X11_bytesIs x1 σ hq1) (by decide) wV_X11_bytesIs wN_X11_bytesIs lk_X11_204 rfl rfl rfl (by decide) rfl (Nat.le_of_ble_eq_true rfl) (by decide +kernel) ?_
  refine XW.bb B [(5, .iconst (-1))] (by decide +kernel) (pc1 := 6) (ls1 := [some (aR 0 0), some (aI x1), some (aI x2), none, none]) (st1 := [aI (-1 : Int32), aI q1]) (σ1 := σ) (P := []) (i := .if_icmp .eq 10) (tgt := 16) (q := q1 = (-1 : Int32)) rfl trivial (by decide +kernel) rfl (by decide) (fun h2 => ?_) (fun h2 => ?_)
  · rw [if_pos h2] at hm
    refine XW.bk B [(16, .iconst (-1))] (by decide +kernel) (pc1 := 17) (ls1 := [some (aR 0 0), some (aI x1), some (aI x2), none, none]) (st1 := [aI (-1 : Int32)]) (σ1 := σ) (P := []) rfl trivial ?_
    obtain ⟨rfl, rfl⟩ := Prod.mk.inj (Option.some.inj hm)
    exact XW.iret B q (by decide +kernel)
  · rw [if_neg h2] at hm
    refine XW.bk B [(9, .iload_n 2)] (by decide +kernel) (pc1 := 10) (ls1 := [some (aR 0 0), some (aI x1), some (aI x2), none, none]) (st1 := [aI x2]) (σ1 := σ) (P := []) rfl trivial ?_
    refine XW.callS B (M := M_X11_isMinute) (as := [aI x2]) (c_X11_isMinute x2 σ rfl) (by decide) wS_X11_isMinute wN_X11_isMinute lk_X11_219 rfl (Nat.le_of_ble_eq_true rfl) (by decide +kernel) ?_
    refine XW.bn B [] (by decide +kernel) (pc1 := 13) (ls1 := [some (aR 0 0), some (aI x1), some (aI x2), none, none]) (st1 := [aI (m_X11_isMinute x2)]) (σ1 := σ) (P := []) (i := .ifCond .ne 5) (tgt := 18) (q := (m_X11_isMinute x2) = (0 : Int32)) rfl trivial (by decide +kernel) rfl (by decide) (fun h3 => ?_) (fun h3 => ?_)
    · rw [if_pos h3] at hm
      refine XW.bk B [(16, .iconst (-1))] (by decide +kernel) (pc1 := 17) (ls1 := [some (aR 0 0), some (aI x1), some (aI x2), none, none]) (st1 := [aI (-1 : Int32)]) (σ1 := σ) (P := []) rfl trivial ?_
      obtain ⟨rfl, rfl⟩ := Prod.mk.inj (Option.some.inj hm)
      exact XW.iret B q (by decide +kernel)
    · rw [if_neg h3] at hm
      refine XW.bk B [(18, .aload_n 0), (19, .iload_n 1)] (by decide +kernel) (pc1 := 20) (ls1 := [some (aR 0 0), some (aI x1), some (aI x2), none, none]) (st1 := [aI x1, aR 0 0]) (σ1 := σ) (P := []) rfl trivial ?_
      obtain ⟨q4, hq4, hm⟩ := obind_eq hm
      refine XW.callV B (M := M_X11_walkIs) (t := 0) (j := 0) (cn := 1) (as := [aI x1]) (c_X11_walkIs x1 σ hq4) (by decide) wV_X11_walkIs wN_X11_walkIs lk_X11_224 rfl rfl rfl (by decide) rfl (Nat.le_of_ble_eq_true rfl) (by decide +kernel) ?_
      refine XW.bb B [] (by decide +kernel) (pc1 := 23) (ls1 := [some (aR 0 0), some (aI x1), some (aI x2), none, none]) (st1 := [aI q4]) (σ1 := σ) (P := []) (i := .ifCond .ge 9) (tgt := 32) (q := (0 : Int32) ≤ q4) rfl trivial (by decide +kernel) rfl (by decide) (fun h5 => ?_) (fun h5 => ?_)
      · rw [if_pos h5] at hm
        refine XW.bk B [(32, .bipush (-2)), (34, .istore_n 3), (35, .bipush 30), (37, .istore 4)] (by decide +kernel) (pc1 := 39) (ls1 := [some (aR 0 0), some (aI x1), some (aI x2), some (aI (-2 : Int32)), some (aI (30 : Int32))]) (st1 := []) (σ1 := σ) (P := []) rfl trivial ?_
        exact lp_X11_windFrom_39 B q FU x1 x2 (-2 : Int32) (30 : Int32) σ hm
      · rw [if_neg h5] at hm
        refine XW.bk B [(26, .aload_n 0), (27, .iload_n 1)] (by decide +kernel) (pc1 := 28) (ls1 := [some (aR 0 0), some (aI x1), some (aI x2), none, none]) (st1 := [aI x1, aR 0 0]) (σ1 := σ) (P := []) rfl trivial ?_
        obtain ⟨q9, hq9, hm⟩ := obind_eq hm
        refine XW.callV B (M := M_X11_walkIs) (t := 0) (j := 0) (cn := 1) (as := [aI x1]) (c_X11_walkIs x1 σ hq9) (by decide) wV_X11_walkIs wN_X11_walkIs lk_X11_224 rfl rfl rfl (by decide) rfl (Nat.le_of_ble_eq_true rfl) (by decide +kernel) ?_
        obtain ⟨rfl, rfl⟩ := Prod.mk.inj (Option.some.inj hm)
        exact XW.iret B q (by decide +kernel)

def L_X11_scratchFor_47 : Nat → Int32 → Int32 → Int32 → Int32 → Int32 → SS → Option (Int32 × SS)
  | 0, _, _, _, _, _, _ => none
  | n + 1, v1, v2, v3, v4, v5, σ =>
    if (99 : Int32) < v5 then
      some (v4, (sA σ 1 0 (86 : Int32).toNatClampNeg v3))
    else
    Option.bind (m_X11_walks v1 (0 : Int32) v2 (sA σ 1 0 (86 : Int32).toNatClampNeg v5)) (fun q7 =>
    if (0 : Int32) ≤ (q7.1 0 0 18) then
      L_X11_scratchFor_47 n v1 v2 v3 v4 (v5 + (1 : Int32)) q7
    else
    L_X11_scratchFor_47 n v1 v2 v3 v5 (v5 + (1 : Int32)) q7)
def m_X11_scratchFor (x1 : Int32) (x2 : Int32) (σ : SS) : Option (Int32 × SS) :=
  Option.bind (m_X11_bytesIs x1 σ) (fun q1 =>
  if q1 = (-1 : Int32) then
    some ((-1 : Int32), σ)
  else
  if (m_X11_isMinute x2) = (0 : Int32) then
    some ((-1 : Int32), σ)
  else
  Option.bind (m_X11_walkIs x1 σ) (fun q4 =>
  if (0 : Int32) ≤ q4 then
    L_X11_scratchFor_47 FU x1 x2 (σ.2.1 1 0 (86 : Int32).toNatClampNeg) (-2 : Int32) (0 : Int32) σ
  else
  Option.bind (m_X11_walkIs x1 σ) (fun q9 =>
  some (q9, σ))))
set_option maxRecDepth 100000 in
set_option maxHeartbeats 4000000 in
theorem lp_X11_scratchFor_47 {Γ : XC} {r : Int32} {σ' : SS} (B : XB Γ cX11_scratchFor RX11 66 K11 LM 6) (q : XQ Γ (some .int) (some (aI r)) σ') : ∀ (n : Nat) (v1 : Int32) (v2 : Int32) (v3 : Int32) (v4 : Int32) (v5 : Int32) (σ : SS), L_X11_scratchFor_47 n v1 v2 v3 v4 v5 σ = some (r, σ') → XW Γ 47 [some (aR 0 0), some (aI v1), some (aI v2), some (aI v3), some (aI v4), some (aI v5)] [] σ := by
  intro n
  induction n with
  | zero => intro v1 v2 v3 v4 v5 σ hm; cases hm
  | succ n ih =>
    intro v1 v2 v3 v4 v5 σ hm
    rw [L_X11_scratchFor_47] at hm
    refine XW.bb B [(47, .iload 5), (49, .bipush 99)] (by decide +kernel) (pc1 := 51) (ls1 := [some (aR 0 0), some (aI v1), some (aI v2), some (aI v3), some (aI v4), some (aI v5)]) (st1 := [aI (99 : Int32), aI v5]) (σ1 := σ) (P := []) (i := .if_icmp .gt 41) (tgt := 92) (q := (99 : Int32) < v5) rfl trivial (by decide +kernel) rfl (by decide) (fun h6 => ?_) (fun h6 => ?_)
    · rw [if_pos h6] at hm
      refine XW.bk B [(92, .aload_n 0), (93, .getfield 11), (96, .bipush 86), (98, .iload_n 3), (99, .iastore), (100, .iload 4)] (by decide +kernel) (pc1 := 102) (ls1 := [some (aR 0 0), some (aI v1), some (aI v2), some (aI v3), some (aI v4), some (aI v5)]) (st1 := [aI v4]) (σ1 := (sA σ 1 0 (86 : Int32).toNatClampNeg v3)) (P := [vp_in (86 : Int32) 88]) rfl ⟨(vin_lit (by decide +kernel)), trivial⟩ ?_
      obtain ⟨rfl, rfl⟩ := Prod.mk.inj (Option.some.inj hm)
      exact XW.iret B q (by decide +kernel)
    · rw [if_neg h6] at hm
      refine XW.bk B [(54, .aload_n 0), (55, .getfield 11), (58, .bipush 86), (60, .iload 5), (62, .iastore), (63, .aload_n 0), (64, .iload_n 1), (65, .iconst 0), (66, .iload_n 2)] (by decide +kernel) (pc1 := 67) (ls1 := [some (aR 0 0), some (aI v1), some (aI v2), some (aI v3), some (aI v4), some (aI v5)]) (st1 := [aI v2, aI (0 : Int32), aI v1, aR 0 0]) (σ1 := (sA σ 1 0 (86 : Int32).toNatClampNeg v5)) (P := [vp_in (86 : Int32) 88]) rfl ⟨(vin_lit (by decide +kernel)), trivial⟩ ?_
      obtain ⟨q7, hq7, hm⟩ := obind_eq hm
      refine XW.callV B (M := M_X11_walks) (t := 0) (j := 0) (cn := 1) (as := [aI v1, aI (0 : Int32), aI v2]) (c_X11_walks v1 (0 : Int32) v2 (sA σ 1 0 (86 : Int32).toNatClampNeg v5) hq7) (by decide) wV_X11_walks wN_X11_walks lk_X11_227 rfl rfl rfl (by decide) rfl (Nat.le_of_ble_eq_true rfl) (by decide +kernel) ?_
      refine XW.bb B [(70, .aload_n 0), (71, .getfield 207)] (by decide +kernel) (pc1 := 74) (ls1 := [some (aR 0 0), some (aI v1), some (aI v2), some (aI v3), some (aI v4), some (aI v5)]) (st1 := [aI (q7.1 0 0 18)]) (σ1 := q7) (P := []) (i := .ifCond .ge 8) (tgt := 82) (q := (0 : Int32) ≤ (q7.1 0 0 18)) rfl trivial (by decide +kernel) rfl (by decide) (fun h8 => ?_) (fun h8 => ?_)
      · rw [if_pos h8] at hm
        refine XW.bk B [(82, .iload 4), (84, .istore 4), (86, .iinc 5 1), (89, .goto (-42))] (by decide +kernel) (pc1 := 47) (ls1 := [some (aR 0 0), some (aI v1), some (aI v2), some (aI v3), some (aI v4), some (aI (v5 + (1 : Int32)))]) (st1 := []) (σ1 := q7) (P := []) rfl trivial ?_
        exact ih v1 v2 v3 v4 (v5 + (1 : Int32)) q7 hm
      · rw [if_neg h8] at hm
        refine XW.bk B [(77, .iload 5), (79, .goto 5), (84, .istore 4), (86, .iinc 5 1), (89, .goto (-42))] (by decide +kernel) (pc1 := 47) (ls1 := [some (aR 0 0), some (aI v1), some (aI v2), some (aI v3), some (aI v5), some (aI (v5 + (1 : Int32)))]) (st1 := []) (σ1 := q7) (P := []) rfl trivial ?_
        exact ih v1 v2 v3 v5 (v5 + (1 : Int32)) q7 hm
set_option maxRecDepth 100000 in
set_option maxHeartbeats 4000000 in
theorem c_X11_scratchFor (x1 : Int32) (x2 : Int32) (σ : SS) {r : Int32} {σ' : SS} (hm : m_X11_scratchFor x1 x2 σ = some (r, σ')) : XM LM 66 M_X11_scratchFor [aR 0 0, aI x1, aI x2] σ (some (aI r)) σ' := by
  refine XM.of (K := K11) (by decide) (by decide +kernel) K11_ok (Nat.le_of_ble_eq_true rfl) (fun Γ B q => ?_)
  unfold m_X11_scratchFor at hm
  refine XW.bk B [(0, .aload_n 0), (1, .iload_n 1)] (by decide +kernel) (pc1 := 2) (ls1 := [some (aR 0 0), some (aI x1), some (aI x2), none, none, none]) (st1 := [aI x1, aR 0 0]) (σ1 := σ) (P := []) rfl trivial ?_
  obtain ⟨q1, hq1, hm⟩ := obind_eq hm
  refine XW.callV B (M := M_X11_bytesIs) (t := 0) (j := 0) (cn := 1) (as := [aI x1]) (c_X11_bytesIs x1 σ hq1) (by decide) wV_X11_bytesIs wN_X11_bytesIs lk_X11_204 rfl rfl rfl (by decide) rfl (Nat.le_of_ble_eq_true rfl) (by decide +kernel) ?_
  refine XW.bb B [(5, .iconst (-1))] (by decide +kernel) (pc1 := 6) (ls1 := [some (aR 0 0), some (aI x1), some (aI x2), none, none, none]) (st1 := [aI (-1 : Int32), aI q1]) (σ1 := σ) (P := []) (i := .if_icmp .eq 10) (tgt := 16) (q := q1 = (-1 : Int32)) rfl trivial (by decide +kernel) rfl (by decide) (fun h2 => ?_) (fun h2 => ?_)
  · rw [if_pos h2] at hm
    refine XW.bk B [(16, .iconst (-1))] (by decide +kernel) (pc1 := 17) (ls1 := [some (aR 0 0), some (aI x1), some (aI x2), none, none, none]) (st1 := [aI (-1 : Int32)]) (σ1 := σ) (P := []) rfl trivial ?_
    obtain ⟨rfl, rfl⟩ := Prod.mk.inj (Option.some.inj hm)
    exact XW.iret B q (by decide +kernel)
  · rw [if_neg h2] at hm
    refine XW.bk B [(9, .iload_n 2)] (by decide +kernel) (pc1 := 10) (ls1 := [some (aR 0 0), some (aI x1), some (aI x2), none, none, none]) (st1 := [aI x2]) (σ1 := σ) (P := []) rfl trivial ?_
    refine XW.callS B (M := M_X11_isMinute) (as := [aI x2]) (c_X11_isMinute x2 σ rfl) (by decide) wS_X11_isMinute wN_X11_isMinute lk_X11_219 rfl (Nat.le_of_ble_eq_true rfl) (by decide +kernel) ?_
    refine XW.bn B [] (by decide +kernel) (pc1 := 13) (ls1 := [some (aR 0 0), some (aI x1), some (aI x2), none, none, none]) (st1 := [aI (m_X11_isMinute x2)]) (σ1 := σ) (P := []) (i := .ifCond .ne 5) (tgt := 18) (q := (m_X11_isMinute x2) = (0 : Int32)) rfl trivial (by decide +kernel) rfl (by decide) (fun h3 => ?_) (fun h3 => ?_)
    · rw [if_pos h3] at hm
      refine XW.bk B [(16, .iconst (-1))] (by decide +kernel) (pc1 := 17) (ls1 := [some (aR 0 0), some (aI x1), some (aI x2), none, none, none]) (st1 := [aI (-1 : Int32)]) (σ1 := σ) (P := []) rfl trivial ?_
      obtain ⟨rfl, rfl⟩ := Prod.mk.inj (Option.some.inj hm)
      exact XW.iret B q (by decide +kernel)
    · rw [if_neg h3] at hm
      refine XW.bk B [(18, .aload_n 0), (19, .iload_n 1)] (by decide +kernel) (pc1 := 20) (ls1 := [some (aR 0 0), some (aI x1), some (aI x2), none, none, none]) (st1 := [aI x1, aR 0 0]) (σ1 := σ) (P := []) rfl trivial ?_
      obtain ⟨q4, hq4, hm⟩ := obind_eq hm
      refine XW.callV B (M := M_X11_walkIs) (t := 0) (j := 0) (cn := 1) (as := [aI x1]) (c_X11_walkIs x1 σ hq4) (by decide) wV_X11_walkIs wN_X11_walkIs lk_X11_224 rfl rfl rfl (by decide) rfl (Nat.le_of_ble_eq_true rfl) (by decide +kernel) ?_
      refine XW.bb B [] (by decide +kernel) (pc1 := 23) (ls1 := [some (aR 0 0), some (aI x1), some (aI x2), none, none, none]) (st1 := [aI q4]) (σ1 := σ) (P := []) (i := .ifCond .ge 9) (tgt := 32) (q := (0 : Int32) ≤ q4) rfl trivial (by decide +kernel) rfl (by decide) (fun h5 => ?_) (fun h5 => ?_)
      · rw [if_pos h5] at hm
        refine XW.bk B [(32, .aload_n 0), (33, .getfield 11), (36, .bipush 86), (38, .iaload), (39, .istore_n 3), (40, .bipush (-2)), (42, .istore 4), (44, .iconst 0), (45, .istore 5)] (by decide +kernel) (pc1 := 47) (ls1 := [some (aR 0 0), some (aI x1), some (aI x2), some (aI (σ.2.1 1 0 (86 : Int32).toNatClampNeg)), some (aI (-2 : Int32)), some (aI (0 : Int32))]) (st1 := []) (σ1 := σ) (P := [vp_in (86 : Int32) 88]) rfl ⟨(vin_lit (by decide +kernel)), trivial⟩ ?_
        exact lp_X11_scratchFor_47 B q FU x1 x2 (σ.2.1 1 0 (86 : Int32).toNatClampNeg) (-2 : Int32) (0 : Int32) σ hm
      · rw [if_neg h5] at hm
        refine XW.bk B [(26, .aload_n 0), (27, .iload_n 1)] (by decide +kernel) (pc1 := 28) (ls1 := [some (aR 0 0), some (aI x1), some (aI x2), none, none, none]) (st1 := [aI x1, aR 0 0]) (σ1 := σ) (P := []) rfl trivial ?_
        obtain ⟨q9, hq9, hm⟩ := obind_eq hm
        refine XW.callV B (M := M_X11_walkIs) (t := 0) (j := 0) (cn := 1) (as := [aI x1]) (c_X11_walkIs x1 σ hq9) (by decide) wV_X11_walkIs wN_X11_walkIs lk_X11_224 rfl rfl rfl (by decide) rfl (Nat.le_of_ble_eq_true rfl) (by decide +kernel) ?_
        obtain ⟨rfl, rfl⟩ := Prod.mk.inj (Option.some.inj hm)
        exact XW.iret B q (by decide +kernel)

def L_X11_commonOf_6 : Nat → Int64 → Int64 → SS → Option (Int64)
  | 0, _, _, _ => none
  | n + 1, v4, v6, σ =>
    if lg_cmp v6 (0 : Int64) = (0 : Int32) then
      some v4
    else
    L_X11_commonOf_6 n v6 (v4 - (v4 / v6) * v6) σ
def m_X11_commonOf (x1 : Int64) (x2 : Int64) (σ : SS) : Option (Int64) :=
  L_X11_commonOf_6 FU x1 x2 σ
set_option maxRecDepth 100000 in
set_option maxHeartbeats 4000000 in
theorem lp_X11_commonOf_6 {Γ : XC} {r : Int64} {σ0 : SS} (B : XB Γ cX11_commonOf RX11 1 K11 LM 10) (q : XQ Γ (some .long) (some (aJ r)) σ0) : ∀ (n : Nat) (v4 : Int64) (v6 : Int64) (σ : SS), σ = σ0 → L_X11_commonOf_6 n v4 v6 σ = some r → XW Γ 6 [none, none, none, none, some (aJ v4), none, some (aJ v6), none, none, none] [] σ := by
  intro n
  induction n with
  | zero => intro v4 v6 σ hσ hm; cases hm
  | succ n ih =>
    intro v4 v6 σ hσ hm
    subst hσ
    rw [L_X11_commonOf_6] at hm
    refine XW.bb B [(6, .lload 6), (8, .lconst 0), (9, .lcmp)] (by decide +kernel) (pc1 := 10) (ls1 := [none, none, none, none, some (aJ v4), none, some (aJ v6), none, none, none]) (st1 := [aI (lg_cmp v6 (0 : Int64))]) (σ1 := σ) (P := []) (i := .ifCond .eq 21) (tgt := 31) (q := lg_cmp v6 (0 : Int64) = (0 : Int32)) rfl trivial (by decide +kernel) rfl (by decide) (fun h1 => ?_) (fun h1 => ?_)
    · rw [if_pos h1] at hm
      refine XW.bk B [(31, .lload 4)] (by decide +kernel) (pc1 := 33) (ls1 := [none, none, none, none, some (aJ v4), none, some (aJ v6), none, none, none]) (st1 := [aJ v4]) (σ1 := σ) (P := []) rfl trivial ?_
      obtain rfl := Option.some.inj hm
      exact XW.lret B q (by decide +kernel)
    · rw [if_neg h1] at hm
      refine XW.bk B [(13, .lload 4), (15, .lload 6), (17, .lrem), (18, .lstore 8), (20, .lload 6), (22, .lstore 4), (24, .lload 8), (26, .lstore 6), (28, .goto (-22))] (by decide +kernel) (pc1 := 6) (ls1 := [none, none, none, none, some (aJ v6), none, some (aJ (v4 - (v4 / v6) * v6)), none, some (aJ (v4 - (v4 / v6) * v6)), none]) (st1 := []) (σ1 := σ) (P := [¬ v6 = 0]) rfl ⟨(nz_c h1), trivial⟩ ?_
      refine XW.loc [false, false, false, false, true, false, true, false, false, false] rfl ?_
      exact ih v6 (v4 - (v4 / v6) * v6) σ rfl hm
set_option maxRecDepth 100000 in
set_option maxHeartbeats 4000000 in
theorem c_X11_commonOf (x1 : Int64) (x2 : Int64) (σ : SS) {r : Int64} (hm : m_X11_commonOf x1 x2 σ = some r) : XM LM 1 M_X11_commonOf [aJ x1, aJ x2] σ (some (aJ r)) σ := by
  refine XM.of (K := K11) (by decide) (by decide +kernel) K11_ok (Nat.le_of_ble_eq_true rfl) (fun Γ B q => ?_)
  unfold m_X11_commonOf at hm
  refine XW.bk B [(0, .lload_n 0), (1, .lstore 4), (3, .lload_n 2), (4, .lstore 6)] (by decide +kernel) (pc1 := 6) (ls1 := [some (aJ x1), none, some (aJ x2), none, some (aJ x1), none, some (aJ x2), none, none, none]) (st1 := []) (σ1 := σ) (P := []) rfl trivial ?_
  refine XW.loc [false, false, false, false, true, false, true, false, false, false] rfl ?_
  exact lp_X11_commonOf_6 B q FU x1 x2 σ rfl hm

def m_X11_partOf (x1 : Int64) (x2 : Int64) (x3 : Int32) (σ : SS) : Option (Int64) :=
  if lg_cmp x1 (0 : Int64) = (0 : Int32) then
    some x3.toInt64
  else
  Option.bind (m_X11_commonOf x2 x1 σ) (fun q2 =>
  if x3 = (0 : Int32) then
    if q2 = 0 then none else
    some (x1 / q2)
  else
  if q2 = 0 then none else
  some (x2 / q2))
set_option maxRecDepth 100000 in
set_option maxHeartbeats 4000000 in
theorem c_X11_partOf (x1 : Int64) (x2 : Int64) (x3 : Int32) (σ : SS) {r : Int64} (hm : m_X11_partOf x1 x2 x3 σ = some r) : XM LM 2 M_X11_partOf [aJ x1, aJ x2, aI x3] σ (some (aJ r)) σ := by
  refine XM.of (K := K11) (by decide) (by decide +kernel) K11_ok (Nat.le_of_ble_eq_true rfl) (fun Γ B q => ?_)
  unfold m_X11_partOf at hm
  refine XW.bn B [(0, .lload_n 0), (1, .lconst 0), (2, .lcmp)] (by decide +kernel) (pc1 := 3) (ls1 := [some (aJ x1), none, some (aJ x2), none, some (aI x3), none, none]) (st1 := [aI (lg_cmp x1 (0 : Int64))]) (σ1 := σ) (P := []) (i := .ifCond .ne 7) (tgt := 10) (q := lg_cmp x1 (0 : Int64) = (0 : Int32)) rfl trivial (by decide +kernel) rfl (by decide) (fun h1 => ?_) (fun h1 => ?_)
  · rw [if_pos h1] at hm
    refine XW.bk B [(6, .iload 4), (8, .i2l)] (by decide +kernel) (pc1 := 9) (ls1 := [some (aJ x1), none, some (aJ x2), none, some (aI x3), none, none]) (st1 := [aJ x3.toInt64]) (σ1 := σ) (P := []) rfl trivial ?_
    obtain rfl := Option.some.inj hm
    exact XW.lret B q (by decide +kernel)
  · rw [if_neg h1] at hm
    refine XW.bk B [(10, .lload_n 2), (11, .lload_n 0)] (by decide +kernel) (pc1 := 12) (ls1 := [some (aJ x1), none, some (aJ x2), none, some (aI x3), none, none]) (st1 := [aJ x1, aJ x2]) (σ1 := σ) (P := []) rfl trivial ?_
    obtain ⟨q2, hq2, hm⟩ := obind_eq hm
    refine XW.callS B (M := M_X11_commonOf) (as := [aJ x2, aJ x1]) (c_X11_commonOf x2 x1 σ hq2) (by decide) wS_X11_commonOf wN_X11_commonOf lk_X11_259 rfl (Nat.le_of_ble_eq_true rfl) (by decide +kernel) ?_
    refine XW.bn B [(15, .lstore 5), (17, .iload 4)] (by decide +kernel) (pc1 := 19) (ls1 := [some (aJ x1), none, some (aJ x2), none, some (aI x3), some (aJ q2), none]) (st1 := [aI x3]) (σ1 := σ) (P := []) (i := .ifCond .ne 10) (tgt := 29) (q := x3 = (0 : Int32)) rfl trivial (by decide +kernel) rfl (by decide) (fun h3 => ?_) (fun h3 => ?_)
    · rw [if_pos h3] at hm
      refine XW.bk B [(22, .lload_n 0), (23, .lload 5)] (by decide +kernel) (pc1 := 25) (ls1 := [some (aJ x1), none, some (aJ x2), none, some (aI x3), some (aJ q2), none]) (st1 := [aJ q2, aJ x1]) (σ1 := σ) (P := []) rfl trivial ?_
      by_cases g4 : q2 = 0
      · rw [if_pos g4] at hm; cases hm
      rw [if_neg g4] at hm
      refine XW.bk B [(25, .ldiv), (26, .goto 7)] (by decide +kernel) (pc1 := 33) (ls1 := [some (aJ x1), none, some (aJ x2), none, some (aI x3), some (aJ q2), none]) (st1 := [aJ (x1 / q2)]) (σ1 := σ) (P := [¬ q2 = 0]) rfl ⟨g4, trivial⟩ ?_
      obtain rfl := Option.some.inj hm
      exact XW.lret B q (by decide +kernel)
    · rw [if_neg h3] at hm
      refine XW.bk B [(29, .lload_n 2), (30, .lload 5)] (by decide +kernel) (pc1 := 32) (ls1 := [some (aJ x1), none, some (aJ x2), none, some (aI x3), some (aJ q2), none]) (st1 := [aJ q2, aJ x2]) (σ1 := σ) (P := []) rfl trivial ?_
      by_cases g5 : q2 = 0
      · rw [if_pos g5] at hm; cases hm
      rw [if_neg g5] at hm
      refine XW.bk B [(32, .ldiv)] (by decide +kernel) (pc1 := 33) (ls1 := [some (aJ x1), none, some (aJ x2), none, some (aI x3), some (aJ q2), none]) (st1 := [aJ (x2 / q2)]) (σ1 := σ) (P := [¬ q2 = 0]) rfl ⟨g5, trivial⟩ ?_
      obtain rfl := Option.some.inj hm
      exact XW.lret B q (by decide +kernel)

def L_X11_lineOf_4 : Nat → Int64 → Int32 → SS → Option (Int64)
  | 0, _, _, _ => none
  | n + 1, v1, v3, σ =>
    if (σ.1 0 0 6) ≤ v3 then
      some v1
    else
    L_X11_lineOf_4 n (v1 * (12 : Int64)) (v3 + (1 : Int32)) σ
def m_X11_lineOf (σ : SS) : Option (Int64) :=
  L_X11_lineOf_4 FU (1 : Int64) (0 : Int32) σ
set_option maxRecDepth 100000 in
set_option maxHeartbeats 4000000 in
theorem lp_X11_lineOf_4 {Γ : XC} {r : Int64} {σ0 : SS} (B : XB Γ cX11_lineOf RX11 1 K11 LM 4) (q : XQ Γ (some .long) (some (aJ r)) σ0) : ∀ (n : Nat) (v1 : Int64) (v3 : Int32) (σ : SS), σ = σ0 → L_X11_lineOf_4 n v1 v3 σ = some r → XW Γ 4 [some (aR 0 0), some (aJ v1), none, some (aI v3)] [] σ := by
  intro n
  induction n with
  | zero => intro v1 v3 σ hσ hm; cases hm
  | succ n ih =>
    intro v1 v3 σ hσ hm
    subst hσ
    rw [L_X11_lineOf_4] at hm
    refine XW.bb B [(4, .iload_n 3), (5, .aload_n 0), (6, .getfield 81)] (by decide +kernel) (pc1 := 9) (ls1 := [some (aR 0 0), some (aJ v1), none, some (aI v3)]) (st1 := [aI (σ.1 0 0 6), aI v3]) (σ1 := σ) (P := []) (i := .if_icmp .ge 15) (tgt := 24) (q := (σ.1 0 0 6) ≤ v3) rfl trivial (by decide +kernel) rfl (by decide) (fun h1 => ?_) (fun h1 => ?_)
    · rw [if_pos h1] at hm
      refine XW.bk B [(24, .lload_n 1)] (by decide +kernel) (pc1 := 25) (ls1 := [some (aR 0 0), some (aJ v1), none, some (aI v3)]) (st1 := [aJ v1]) (σ1 := σ) (P := []) rfl trivial ?_
      obtain rfl := Option.some.inj hm
      exact XW.lret B q (by decide +kernel)
    · rw [if_neg h1] at hm
      refine XW.bk B [(12, .lload_n 1), (13, .ldc2_w 96), (16, .lmul), (17, .lstore_n 1), (18, .iinc 3 1), (21, .goto (-17))] (by decide +kernel) (pc1 := 4) (ls1 := [some (aR 0 0), some (aJ (v1 * (12 : Int64))), none, some (aI (v3 + (1 : Int32)))]) (st1 := []) (σ1 := σ) (P := []) rfl trivial ?_
      exact ih (v1 * (12 : Int64)) (v3 + (1 : Int32)) σ rfl hm
set_option maxRecDepth 100000 in
set_option maxHeartbeats 4000000 in
theorem c_X11_lineOf (σ : SS) {r : Int64} (hm : m_X11_lineOf σ = some r) : XM LM 1 M_X11_lineOf [aR 0 0] σ (some (aJ r)) σ := by
  refine XM.of (K := K11) (by decide) (by decide +kernel) K11_ok (Nat.le_of_ble_eq_true rfl) (fun Γ B q => ?_)
  unfold m_X11_lineOf at hm
  refine XW.bk B [(0, .lconst 1), (1, .lstore_n 1), (2, .iconst 0), (3, .istore_n 3)] (by decide +kernel) (pc1 := 4) (ls1 := [some (aR 0 0), some (aJ (1 : Int64)), none, some (aI (0 : Int32))]) (st1 := []) (σ1 := σ) (P := []) rfl trivial ?_
  exact lp_X11_lineOf_4 B q FU (1 : Int64) (0 : Int32) σ rfl hm

def L_X11_freeWays_5 : Nat → Int32 → Int32 → Int64 → Int32 → SS → Option (Int64)
  | 0, _, _, _, _, _ => none
  | n + 1, v1, v2, v3, v5, σ =>
    if (σ.1 0 0 6) ≤ v5 then
      some v3
    else
    if ((60 : Int32) + v5) < 0 ∨ 88 ≤ ((60 : Int32) + v5).toNatClampNeg then none else
    if v5 = v1 then
      L_X11_freeWays_5 n v1 v2 (v3 * ((12 : Int32) - (0 : Int32)).toInt64) (v5 + (1 : Int32)) σ
    else
    if (0 : Int32) ≤ ((σ.2.1 1 0 ((60 : Int32) + v5).toNatClampNeg) - v2) then
      L_X11_freeWays_5 n v1 v2 (v3 * ((12 : Int32) - ((σ.2.1 1 0 ((60 : Int32) + v5).toNatClampNeg) - v2)).toInt64) (v5 + (1 : Int32)) σ
    else
    L_X11_freeWays_5 n v1 v2 (v3 * ((12 : Int32) - (0 : Int32)).toInt64) (v5 + (1 : Int32)) σ
def m_X11_freeWays (x1 : Int32) (x2 : Int32) (σ : SS) : Option (Int64) :=
  L_X11_freeWays_5 FU x1 x2 (1 : Int64) (0 : Int32) σ
set_option maxRecDepth 100000 in
set_option maxHeartbeats 4000000 in
theorem lp_X11_freeWays_5 {Γ : XC} {r : Int64} {σ0 : SS} (B : XB Γ cX11_freeWays RX11 1 K11 LM 7) (q : XQ Γ (some .long) (some (aJ r)) σ0) : ∀ (n : Nat) (v1 : Int32) (v2 : Int32) (v3 : Int64) (v5 : Int32) (σ : SS), σ = σ0 → L_X11_freeWays_5 n v1 v2 v3 v5 σ = some r → XW Γ 5 [some (aR 0 0), some (aI v1), some (aI v2), some (aJ v3), none, some (aI v5), none] [] σ := by
  intro n
  induction n with
  | zero => intro v1 v2 v3 v5 σ hσ hm; cases hm
  | succ n ih =>
    intro v1 v2 v3 v5 σ hσ hm
    subst hσ
    rw [L_X11_freeWays_5] at hm
    refine XW.bb B [(5, .iload 5), (7, .aload_n 0), (8, .getfield 81)] (by decide +kernel) (pc1 := 11) (ls1 := [some (aR 0 0), some (aI v1), some (aI v2), some (aJ v3), none, some (aI v5), none]) (st1 := [aI (σ.1 0 0 6), aI v5]) (σ1 := σ) (P := []) (i := .if_icmp .ge 51) (tgt := 62) (q := (σ.1 0 0 6) ≤ v5) rfl trivial (by decide +kernel) rfl (by decide) (fun h1 => ?_) (fun h1 => ?_)
    · rw [if_pos h1] at hm
      refine XW.bk B [(62, .lload_n 3)] (by decide +kernel) (pc1 := 63) (ls1 := [some (aR 0 0), some (aI v1), some (aI v2), some (aJ v3), none, some (aI v5), none]) (st1 := [aJ v3]) (σ1 := σ) (P := []) rfl trivial ?_
      obtain rfl := Option.some.inj hm
      exact XW.lret B q (by decide +kernel)
    · rw [if_neg h1] at hm
      refine XW.bk B [(14, .aload_n 0), (15, .getfield 11), (18, .bipush 60), (20, .iload 5), (22, .iadd)] (by decide +kernel) (pc1 := 23) (ls1 := [some (aR 0 0), some (aI v1), some (aI v2), some (aJ v3), none, some (aI v5), none]) (st1 := [aI ((60 : Int32) + v5), aR 1 0]) (σ1 := σ) (P := []) rfl trivial ?_
      by_cases g2 : ((60 : Int32) + v5) < 0 ∨ 88 ≤ ((60 : Int32) + v5).toNatClampNeg
      · rw [if_pos g2] at hm; cases hm
      rw [if_neg g2] at hm
      refine XW.bb B [(23, .iaload), (24, .iload_n 2), (25, .isub), (26, .istore 6), (28, .iload 5), (30, .iload_n 1)] (by decide +kernel) (pc1 := 31) (ls1 := [some (aR 0 0), some (aI v1), some (aI v2), some (aJ v3), none, some (aI v5), some (aI ((σ.2.1 1 0 ((60 : Int32) + v5).toNatClampNeg) - v2))]) (st1 := [aI v1, aI v5]) (σ1 := σ) (P := [vp_in ((60 : Int32) + v5) 88]) (i := .if_icmp .eq 8) (tgt := 39) (q := v5 = v1) rfl ⟨g2, trivial⟩ (by decide +kernel) rfl (by decide) (fun h3 => ?_) (fun h3 => ?_)
      · rw [if_pos h3] at hm
        refine XW.bk B [(39, .iconst 0), (40, .goto 5), (45, .istore 6), (47, .lload_n 3), (48, .bipush 12), (50, .iload 6), (52, .isub), (53, .i2l), (54, .lmul), (55, .lstore_n 3), (56, .iinc 5 1), (59, .goto (-54))] (by decide +kernel) (pc1 := 5) (ls1 := [some (aR 0 0), some (aI v1), some (aI v2), some (aJ (v3 * ((12 : Int32) - (0 : Int32)).toInt64)), none, some (aI (v5 + (1 : Int32))), some (aI (0 : Int32))]) (st1 := []) (σ1 := σ) (P := []) rfl trivial ?_
        refine XW.loc [true, true, true, true, false, true, false] rfl ?_
        exact ih v1 v2 (v3 * ((12 : Int32) - (0 : Int32)).toInt64) (v5 + (1 : Int32)) σ rfl hm
      · rw [if_neg h3] at hm
        refine XW.bb B [(34, .iload 6)] (by decide +kernel) (pc1 := 36) (ls1 := [some (aR 0 0), some (aI v1), some (aI v2), some (aJ v3), none, some (aI v5), some (aI ((σ.2.1 1 0 ((60 : Int32) + v5).toNatClampNeg) - v2))]) (st1 := [aI ((σ.2.1 1 0 ((60 : Int32) + v5).toNatClampNeg) - v2)]) (σ1 := σ) (P := []) (i := .ifCond .ge 7) (tgt := 43) (q := (0 : Int32) ≤ ((σ.2.1 1 0 ((60 : Int32) + v5).toNatClampNeg) - v2)) rfl trivial (by decide +kernel) rfl (by decide) (fun h4 => ?_) (fun h4 => ?_)
        · rw [if_pos h4] at hm
          refine XW.bk B [(43, .iload 6), (45, .istore 6), (47, .lload_n 3), (48, .bipush 12), (50, .iload 6), (52, .isub), (53, .i2l), (54, .lmul), (55, .lstore_n 3), (56, .iinc 5 1), (59, .goto (-54))] (by decide +kernel) (pc1 := 5) (ls1 := [some (aR 0 0), some (aI v1), some (aI v2), some (aJ (v3 * ((12 : Int32) - ((σ.2.1 1 0 ((60 : Int32) + v5).toNatClampNeg) - v2)).toInt64)), none, some (aI (v5 + (1 : Int32))), some (aI ((σ.2.1 1 0 ((60 : Int32) + v5).toNatClampNeg) - v2))]) (st1 := []) (σ1 := σ) (P := []) rfl trivial ?_
          refine XW.loc [true, true, true, true, false, true, false] rfl ?_
          exact ih v1 v2 (v3 * ((12 : Int32) - ((σ.2.1 1 0 ((60 : Int32) + v5).toNatClampNeg) - v2)).toInt64) (v5 + (1 : Int32)) σ rfl hm
        · rw [if_neg h4] at hm
          refine XW.bk B [(39, .iconst 0), (40, .goto 5), (45, .istore 6), (47, .lload_n 3), (48, .bipush 12), (50, .iload 6), (52, .isub), (53, .i2l), (54, .lmul), (55, .lstore_n 3), (56, .iinc 5 1), (59, .goto (-54))] (by decide +kernel) (pc1 := 5) (ls1 := [some (aR 0 0), some (aI v1), some (aI v2), some (aJ (v3 * ((12 : Int32) - (0 : Int32)).toInt64)), none, some (aI (v5 + (1 : Int32))), some (aI (0 : Int32))]) (st1 := []) (σ1 := σ) (P := []) rfl trivial ?_
          refine XW.loc [true, true, true, true, false, true, false] rfl ?_
          exact ih v1 v2 (v3 * ((12 : Int32) - (0 : Int32)).toInt64) (v5 + (1 : Int32)) σ rfl hm
set_option maxRecDepth 100000 in
set_option maxHeartbeats 4000000 in
theorem c_X11_freeWays (x1 : Int32) (x2 : Int32) (σ : SS) {r : Int64} (hm : m_X11_freeWays x1 x2 σ = some r) : XM LM 1 M_X11_freeWays [aR 0 0, aI x1, aI x2] σ (some (aJ r)) σ := by
  refine XM.of (K := K11) (by decide) (by decide +kernel) K11_ok (Nat.le_of_ble_eq_true rfl) (fun Γ B q => ?_)
  unfold m_X11_freeWays at hm
  refine XW.bk B [(0, .lconst 1), (1, .lstore_n 3), (2, .iconst 0), (3, .istore 5)] (by decide +kernel) (pc1 := 5) (ls1 := [some (aR 0 0), some (aI x1), some (aI x2), some (aJ (1 : Int64)), none, some (aI (0 : Int32)), none]) (st1 := []) (σ1 := σ) (P := []) rfl trivial ?_
  exact lp_X11_freeWays_5 B q FU x1 x2 (1 : Int64) (0 : Int32) σ rfl hm

def m_X11_free (x1 : Int32) (σ : SS) : Option (Int64) :=
  if (m_X11_within x1.toInt64 (0 : Int64) (1 : Int64)) = (0 : Int32) then
    some (-9223372036854775808 : Int64)
  else
  if (σ.1 0 0 6) = (0 : Int32) then
    some (-5 : Int64)
  else
  Option.bind (m_X11_freeWays (-1 : Int32) (0 : Int32) σ) (fun q3 =>
  Option.bind (m_X11_lineOf σ) (fun q4 =>
  Option.bind (m_X11_partOf q3 q4 x1 σ) (fun q5 =>
  some q5)))
set_option maxRecDepth 100000 in
set_option maxHeartbeats 4000000 in
theorem c_X11_free (x1 : Int32) (σ : SS) {r : Int64} (hm : m_X11_free x1 σ = some r) : XM LM 3 M_X11_free [aR 0 0, aI x1] σ (some (aJ r)) σ := by
  refine XM.of (K := K11) (by decide) (by decide +kernel) K11_ok (Nat.le_of_ble_eq_true rfl) (fun Γ B q => ?_)
  unfold m_X11_free at hm
  refine XW.bk B [(0, .iload_n 1), (1, .i2l), (2, .lconst 0), (3, .lconst 1)] (by decide +kernel) (pc1 := 4) (ls1 := [some (aR 0 0), some (aI x1)]) (st1 := [aJ (1 : Int64), aJ (0 : Int64), aJ x1.toInt64]) (σ1 := σ) (P := []) rfl trivial ?_
  refine XW.callS B (M := M_X11_within) (as := [aJ x1.toInt64, aJ (0 : Int64), aJ (1 : Int64)]) (c_X11_within x1.toInt64 (0 : Int64) (1 : Int64) σ rfl) (by decide) wS_X11_within wN_X11_within lk_X11_84 rfl (Nat.le_of_ble_eq_true rfl) (by decide +kernel) ?_
  refine XW.bn B [] (by decide +kernel) (pc1 := 7) (ls1 := [some (aR 0 0), some (aI x1)]) (st1 := [aI (m_X11_within x1.toInt64 (0 : Int64) (1 : Int64))]) (σ1 := σ) (P := []) (i := .ifCond .ne 7) (tgt := 14) (q := (m_X11_within x1.toInt64 (0 : Int64) (1 : Int64)) = (0 : Int32)) rfl trivial (by decide +kernel) rfl (by decide) (fun h1 => ?_) (fun h1 => ?_)
  · rw [if_pos h1] at hm
    refine XW.bk B [(10, .ldc2_w 239)] (by decide +kernel) (pc1 := 13) (ls1 := [some (aR 0 0), some (aI x1)]) (st1 := [aJ (-9223372036854775808 : Int64)]) (σ1 := σ) (P := []) rfl trivial ?_
    obtain rfl := Option.some.inj hm
    exact XW.lret B q (by decide +kernel)
  · rw [if_neg h1] at hm
    refine XW.bn B [(14, .aload_n 0), (15, .getfield 81)] (by decide +kernel) (pc1 := 18) (ls1 := [some (aR 0 0), some (aI x1)]) (st1 := [aI (σ.1 0 0 6)]) (σ1 := σ) (P := []) (i := .ifCond .ne 9) (tgt := 27) (q := (σ.1 0 0 6) = (0 : Int32)) rfl trivial (by decide +kernel) rfl (by decide) (fun h2 => ?_) (fun h2 => ?_)
    · rw [if_pos h2] at hm
      refine XW.bk B [(21, .ldc2_w 241), (24, .goto 17)] (by decide +kernel) (pc1 := 41) (ls1 := [some (aR 0 0), some (aI x1)]) (st1 := [aJ (-5 : Int64)]) (σ1 := σ) (P := []) rfl trivial ?_
      obtain rfl := Option.some.inj hm
      exact XW.lret B q (by decide +kernel)
    · rw [if_neg h2] at hm
      refine XW.bk B [(27, .aload_n 0), (28, .iconst (-1)), (29, .iconst 0)] (by decide +kernel) (pc1 := 30) (ls1 := [some (aR 0 0), some (aI x1)]) (st1 := [aI (0 : Int32), aI (-1 : Int32), aR 0 0]) (σ1 := σ) (P := []) rfl trivial ?_
      obtain ⟨q3, hq3, hm⟩ := obind_eq hm
      refine XW.callV B (M := M_X11_freeWays) (t := 0) (j := 0) (cn := 1) (as := [aI (-1 : Int32), aI (0 : Int32)]) (c_X11_freeWays (-1 : Int32) (0 : Int32) σ hq3) (by decide) wV_X11_freeWays wN_X11_freeWays lk_X11_263 rfl rfl rfl (by decide) rfl (Nat.le_of_ble_eq_true rfl) (by decide +kernel) ?_
      refine XW.bk B [(33, .aload_n 0)] (by decide +kernel) (pc1 := 34) (ls1 := [some (aR 0 0), some (aI x1)]) (st1 := [aR 0 0, aJ q3]) (σ1 := σ) (P := []) rfl trivial ?_
      obtain ⟨q4, hq4, hm⟩ := obind_eq hm
      refine XW.callV B (M := M_X11_lineOf) (t := 0) (j := 0) (cn := 1) (as := []) (c_X11_lineOf σ hq4) (by decide) wV_X11_lineOf wN_X11_lineOf lk_X11_267 rfl rfl rfl (by decide) rfl (Nat.le_of_ble_eq_true rfl) (by decide +kernel) ?_
      refine XW.bk B [(37, .iload_n 1)] (by decide +kernel) (pc1 := 38) (ls1 := [some (aR 0 0), some (aI x1)]) (st1 := [aI x1, aJ q4, aJ q3]) (σ1 := σ) (P := []) rfl trivial ?_
      obtain ⟨q5, hq5, hm⟩ := obind_eq hm
      refine XW.callS B (M := M_X11_partOf) (as := [aJ q3, aJ q4, aI x1]) (c_X11_partOf q3 q4 x1 σ hq5) (by decide) wS_X11_partOf wN_X11_partOf lk_X11_271 rfl (Nat.le_of_ble_eq_true rfl) (by decide +kernel) ?_
      obtain rfl := Option.some.inj hm
      exact XW.lret B q (by decide +kernel)

def L_X11_watch_31 : Nat → Int32 → Int32 → Int32 → SS → Option (Int64)
  | 0, _, _, _, _ => none
  | n + 1, v1, v2, v3, σ =>
    if (σ.1 0 0 6) ≤ v3 then
      if v1 = (2 : Int32) then
        some v2.toInt64
      else
      Option.bind (m_X11_freeWays v2 (0 : Int32) σ) (fun q5 =>
      Option.bind (m_X11_lineOf σ) (fun q6 =>
      Option.bind (m_X11_partOf q5 q6 v1 σ) (fun q7 =>
      some q7)))
    else
    Option.bind (m_X11_freeWays v3 (0 : Int32) σ) (fun q8 =>
    Option.bind (m_X11_freeWays v2 (0 : Int32) σ) (fun q9 =>
    if lg_cmp q8 q9 ≤ (0 : Int32) then
      L_X11_watch_31 n v1 v2 (v3 + (1 : Int32)) σ
    else
    L_X11_watch_31 n v1 v3 (v3 + (1 : Int32)) σ))
def m_X11_watch (x1 : Int32) (σ : SS) : Option (Int64) :=
  if (m_X11_within x1.toInt64 (0 : Int64) (2 : Int64)) = (0 : Int32) then
    some (-9223372036854775808 : Int64)
  else
  if (σ.1 0 0 6) = (0 : Int32) then
    some (-5 : Int64)
  else
  L_X11_watch_31 FU x1 (0 : Int32) (1 : Int32) σ
set_option maxRecDepth 100000 in
set_option maxHeartbeats 4000000 in
theorem lp_X11_watch_31 {Γ : XC} {r : Int64} {σ0 : SS} (B : XB Γ cX11_watch RX11 3 K11 LM 4) (q : XQ Γ (some .long) (some (aJ r)) σ0) : ∀ (n : Nat) (v1 : Int32) (v2 : Int32) (v3 : Int32) (σ : SS), σ = σ0 → L_X11_watch_31 n v1 v2 v3 σ = some r → XW Γ 31 [some (aR 0 0), some (aI v1), some (aI v2), some (aI v3)] [] σ := by
  intro n
  induction n with
  | zero => intro v1 v2 v3 σ hσ hm; cases hm
  | succ n ih =>
    intro v1 v2 v3 σ hσ hm
    subst hσ
    rw [L_X11_watch_31] at hm
    refine XW.bb B [(31, .iload_n 3), (32, .aload_n 0), (33, .getfield 81)] (by decide +kernel) (pc1 := 36) (ls1 := [some (aR 0 0), some (aI v1), some (aI v2), some (aI v3)]) (st1 := [aI (σ.1 0 0 6), aI v3]) (σ1 := σ) (P := []) (i := .if_icmp .ge 31) (tgt := 67) (q := (σ.1 0 0 6) ≤ v3) rfl trivial (by decide +kernel) rfl (by decide) (fun h3 => ?_) (fun h3 => ?_)
    · rw [if_pos h3] at hm
      refine XW.bn B [(67, .iload_n 1), (68, .iconst 2)] (by decide +kernel) (pc1 := 69) (ls1 := [some (aR 0 0), some (aI v1), some (aI v2), some (aI v3)]) (st1 := [aI (2 : Int32), aI v1]) (σ1 := σ) (P := []) (i := .if_icmp .ne 8) (tgt := 77) (q := v1 = (2 : Int32)) rfl trivial (by decide +kernel) rfl (by decide) (fun h4 => ?_) (fun h4 => ?_)
      · rw [if_pos h4] at hm
        refine XW.bk B [(72, .iload_n 2), (73, .i2l), (74, .goto 17)] (by decide +kernel) (pc1 := 91) (ls1 := [some (aR 0 0), some (aI v1), some (aI v2), some (aI v3)]) (st1 := [aJ v2.toInt64]) (σ1 := σ) (P := []) rfl trivial ?_
        obtain rfl := Option.some.inj hm
        exact XW.lret B q (by decide +kernel)
      · rw [if_neg h4] at hm
        refine XW.bk B [(77, .aload_n 0), (78, .iload_n 2), (79, .iconst 0)] (by decide +kernel) (pc1 := 80) (ls1 := [some (aR 0 0), some (aI v1), some (aI v2), some (aI v3)]) (st1 := [aI (0 : Int32), aI v2, aR 0 0]) (σ1 := σ) (P := []) rfl trivial ?_
        obtain ⟨q5, hq5, hm⟩ := obind_eq hm
        refine XW.callV B (M := M_X11_freeWays) (t := 0) (j := 0) (cn := 1) (as := [aI v2, aI (0 : Int32)]) (c_X11_freeWays v2 (0 : Int32) σ hq5) (by decide) wV_X11_freeWays wN_X11_freeWays lk_X11_263 rfl rfl rfl (by decide) rfl (Nat.le_of_ble_eq_true rfl) (by decide +kernel) ?_
        refine XW.bk B [(83, .aload_n 0)] (by decide +kernel) (pc1 := 84) (ls1 := [some (aR 0 0), some (aI v1), some (aI v2), some (aI v3)]) (st1 := [aR 0 0, aJ q5]) (σ1 := σ) (P := []) rfl trivial ?_
        obtain ⟨q6, hq6, hm⟩ := obind_eq hm
        refine XW.callV B (M := M_X11_lineOf) (t := 0) (j := 0) (cn := 1) (as := []) (c_X11_lineOf σ hq6) (by decide) wV_X11_lineOf wN_X11_lineOf lk_X11_267 rfl rfl rfl (by decide) rfl (Nat.le_of_ble_eq_true rfl) (by decide +kernel) ?_
        refine XW.bk B [(87, .iload_n 1)] (by decide +kernel) (pc1 := 88) (ls1 := [some (aR 0 0), some (aI v1), some (aI v2), some (aI v3)]) (st1 := [aI v1, aJ q6, aJ q5]) (σ1 := σ) (P := []) rfl trivial ?_
        obtain ⟨q7, hq7, hm⟩ := obind_eq hm
        refine XW.callS B (M := M_X11_partOf) (as := [aJ q5, aJ q6, aI v1]) (c_X11_partOf q5 q6 v1 σ hq7) (by decide) wS_X11_partOf wN_X11_partOf lk_X11_271 rfl (Nat.le_of_ble_eq_true rfl) (by decide +kernel) ?_
        obtain rfl := Option.some.inj hm
        exact XW.lret B q (by decide +kernel)
    · rw [if_neg h3] at hm
      refine XW.bk B [(39, .aload_n 0), (40, .iload_n 3), (41, .iconst 0)] (by decide +kernel) (pc1 := 42) (ls1 := [some (aR 0 0), some (aI v1), some (aI v2), some (aI v3)]) (st1 := [aI (0 : Int32), aI v3, aR 0 0]) (σ1 := σ) (P := []) rfl trivial ?_
      obtain ⟨q8, hq8, hm⟩ := obind_eq hm
      refine XW.callV B (M := M_X11_freeWays) (t := 0) (j := 0) (cn := 1) (as := [aI v3, aI (0 : Int32)]) (c_X11_freeWays v3 (0 : Int32) σ hq8) (by decide) wV_X11_freeWays wN_X11_freeWays lk_X11_263 rfl rfl rfl (by decide) rfl (Nat.le_of_ble_eq_true rfl) (by decide +kernel) ?_
      refine XW.bk B [(45, .aload_n 0), (46, .iload_n 2), (47, .iconst 0)] (by decide +kernel) (pc1 := 48) (ls1 := [some (aR 0 0), some (aI v1), some (aI v2), some (aI v3)]) (st1 := [aI (0 : Int32), aI v2, aR 0 0, aJ q8]) (σ1 := σ) (P := []) rfl trivial ?_
      obtain ⟨q9, hq9, hm⟩ := obind_eq hm
      refine XW.callV B (M := M_X11_freeWays) (t := 0) (j := 0) (cn := 1) (as := [aI v2, aI (0 : Int32)]) (c_X11_freeWays v2 (0 : Int32) σ hq9) (by decide) wV_X11_freeWays wN_X11_freeWays lk_X11_263 rfl rfl rfl (by decide) rfl (Nat.le_of_ble_eq_true rfl) (by decide +kernel) ?_
      refine XW.bb B [(51, .lcmp)] (by decide +kernel) (pc1 := 52) (ls1 := [some (aR 0 0), some (aI v1), some (aI v2), some (aI v3)]) (st1 := [aI (lg_cmp q8 q9)]) (σ1 := σ) (P := []) (i := .ifCond .le 7) (tgt := 59) (q := lg_cmp q8 q9 ≤ (0 : Int32)) rfl trivial (by decide +kernel) rfl (by decide) (fun h10 => ?_) (fun h10 => ?_)
      · rw [if_pos h10] at hm
        refine XW.bk B [(59, .iload_n 2), (60, .istore_n 2), (61, .iinc 3 1), (64, .goto (-33))] (by decide +kernel) (pc1 := 31) (ls1 := [some (aR 0 0), some (aI v1), some (aI v2), some (aI (v3 + (1 : Int32)))]) (st1 := []) (σ1 := σ) (P := []) rfl trivial ?_
        exact ih v1 v2 (v3 + (1 : Int32)) σ rfl hm
      · rw [if_neg h10] at hm
        refine XW.bk B [(55, .iload_n 3), (56, .goto 4), (60, .istore_n 2), (61, .iinc 3 1), (64, .goto (-33))] (by decide +kernel) (pc1 := 31) (ls1 := [some (aR 0 0), some (aI v1), some (aI v3), some (aI (v3 + (1 : Int32)))]) (st1 := []) (σ1 := σ) (P := []) rfl trivial ?_
        exact ih v1 v3 (v3 + (1 : Int32)) σ rfl hm
set_option maxRecDepth 100000 in
set_option maxHeartbeats 4000000 in
theorem c_X11_watch (x1 : Int32) (σ : SS) {r : Int64} (hm : m_X11_watch x1 σ = some r) : XM LM 3 M_X11_watch [aR 0 0, aI x1] σ (some (aJ r)) σ := by
  refine XM.of (K := K11) (by decide) (by decide +kernel) K11_ok (Nat.le_of_ble_eq_true rfl) (fun Γ B q => ?_)
  unfold m_X11_watch at hm
  refine XW.bk B [(0, .iload_n 1), (1, .i2l), (2, .lconst 0), (3, .ldc2_w 222)] (by decide +kernel) (pc1 := 6) (ls1 := [some (aR 0 0), some (aI x1), none, none]) (st1 := [aJ (2 : Int64), aJ (0 : Int64), aJ x1.toInt64]) (σ1 := σ) (P := []) rfl trivial ?_
  refine XW.callS B (M := M_X11_within) (as := [aJ x1.toInt64, aJ (0 : Int64), aJ (2 : Int64)]) (c_X11_within x1.toInt64 (0 : Int64) (2 : Int64) σ rfl) (by decide) wS_X11_within wN_X11_within lk_X11_84 rfl (Nat.le_of_ble_eq_true rfl) (by decide +kernel) ?_
  refine XW.bn B [] (by decide +kernel) (pc1 := 9) (ls1 := [some (aR 0 0), some (aI x1), none, none]) (st1 := [aI (m_X11_within x1.toInt64 (0 : Int64) (2 : Int64))]) (σ1 := σ) (P := []) (i := .ifCond .ne 7) (tgt := 16) (q := (m_X11_within x1.toInt64 (0 : Int64) (2 : Int64)) = (0 : Int32)) rfl trivial (by decide +kernel) rfl (by decide) (fun h1 => ?_) (fun h1 => ?_)
  · rw [if_pos h1] at hm
    refine XW.bk B [(12, .ldc2_w 239)] (by decide +kernel) (pc1 := 15) (ls1 := [some (aR 0 0), some (aI x1), none, none]) (st1 := [aJ (-9223372036854775808 : Int64)]) (σ1 := σ) (P := []) rfl trivial ?_
    obtain rfl := Option.some.inj hm
    exact XW.lret B q (by decide +kernel)
  · rw [if_neg h1] at hm
    refine XW.bn B [(16, .aload_n 0), (17, .getfield 81)] (by decide +kernel) (pc1 := 20) (ls1 := [some (aR 0 0), some (aI x1), none, none]) (st1 := [aI (σ.1 0 0 6)]) (σ1 := σ) (P := []) (i := .ifCond .ne 7) (tgt := 27) (q := (σ.1 0 0 6) = (0 : Int32)) rfl trivial (by decide +kernel) rfl (by decide) (fun h2 => ?_) (fun h2 => ?_)
    · rw [if_pos h2] at hm
      refine XW.bk B [(23, .ldc2_w 241)] (by decide +kernel) (pc1 := 26) (ls1 := [some (aR 0 0), some (aI x1), none, none]) (st1 := [aJ (-5 : Int64)]) (σ1 := σ) (P := []) rfl trivial ?_
      obtain rfl := Option.some.inj hm
      exact XW.lret B q (by decide +kernel)
    · rw [if_neg h2] at hm
      refine XW.bk B [(27, .iconst 0), (28, .istore_n 2), (29, .iconst 1), (30, .istore_n 3)] (by decide +kernel) (pc1 := 31) (ls1 := [some (aR 0 0), some (aI x1), some (aI (0 : Int32)), some (aI (1 : Int32))]) (st1 := []) (σ1 := σ) (P := []) rfl trivial ?_
      exact lp_X11_watch_31 B q FU x1 (0 : Int32) (1 : Int32) σ rfl hm

def m_X11_earlier (x1 : Int32) (x2 : Int32) (σ : SS) : Option (Int64) :=
  if (m_X11_within x1.toInt64 (0 : Int64) (12 : Int64)) = (0 : Int32) then
    some (-9223372036854775808 : Int64)
  else
  if (m_X11_within x2.toInt64 (0 : Int64) (1 : Int64)) = (0 : Int32) then
    some (-9223372036854775808 : Int64)
  else
  if (σ.1 0 0 6) = (0 : Int32) then
    some (-5 : Int64)
  else
  Option.bind (m_X11_freeWays (-1 : Int32) x1 σ) (fun q4 =>
  Option.bind (m_X11_freeWays (-1 : Int32) (0 : Int32) σ) (fun q5 =>
  Option.bind (m_X11_lineOf σ) (fun q6 =>
  Option.bind (m_X11_partOf (q4 - q5) q6 x2 σ) (fun q7 =>
  some q7))))
set_option maxRecDepth 100000 in
set_option maxHeartbeats 4000000 in
theorem c_X11_earlier (x1 : Int32) (x2 : Int32) (σ : SS) {r : Int64} (hm : m_X11_earlier x1 x2 σ = some r) : XM LM 3 M_X11_earlier [aR 0 0, aI x1, aI x2] σ (some (aJ r)) σ := by
  refine XM.of (K := K11) (by decide) (by decide +kernel) K11_ok (Nat.le_of_ble_eq_true rfl) (fun Γ B q => ?_)
  unfold m_X11_earlier at hm
  refine XW.bk B [(0, .iload_n 1), (1, .i2l), (2, .lconst 0), (3, .ldc2_w 96)] (by decide +kernel) (pc1 := 6) (ls1 := [some (aR 0 0), some (aI x1), some (aI x2)]) (st1 := [aJ (12 : Int64), aJ (0 : Int64), aJ x1.toInt64]) (σ1 := σ) (P := []) rfl trivial ?_
  refine XW.callS B (M := M_X11_within) (as := [aJ x1.toInt64, aJ (0 : Int64), aJ (12 : Int64)]) (c_X11_within x1.toInt64 (0 : Int64) (12 : Int64) σ rfl) (by decide) wS_X11_within wN_X11_within lk_X11_84 rfl (Nat.le_of_ble_eq_true rfl) (by decide +kernel) ?_
  refine XW.bb B [] (by decide +kernel) (pc1 := 9) (ls1 := [some (aR 0 0), some (aI x1), some (aI x2)]) (st1 := [aI (m_X11_within x1.toInt64 (0 : Int64) (12 : Int64))]) (σ1 := σ) (P := []) (i := .ifCond .eq 13) (tgt := 22) (q := (m_X11_within x1.toInt64 (0 : Int64) (12 : Int64)) = (0 : Int32)) rfl trivial (by decide +kernel) rfl (by decide) (fun h1 => ?_) (fun h1 => ?_)
  · rw [if_pos h1] at hm
    refine XW.bk B [(22, .ldc2_w 239)] (by decide +kernel) (pc1 := 25) (ls1 := [some (aR 0 0), some (aI x1), some (aI x2)]) (st1 := [aJ (-9223372036854775808 : Int64)]) (σ1 := σ) (P := []) rfl trivial ?_
    obtain rfl := Option.some.inj hm
    exact XW.lret B q (by decide +kernel)
  · rw [if_neg h1] at hm
    refine XW.bk B [(12, .iload_n 2), (13, .i2l), (14, .lconst 0), (15, .lconst 1)] (by decide +kernel) (pc1 := 16) (ls1 := [some (aR 0 0), some (aI x1), some (aI x2)]) (st1 := [aJ (1 : Int64), aJ (0 : Int64), aJ x2.toInt64]) (σ1 := σ) (P := []) rfl trivial ?_
    refine XW.callS B (M := M_X11_within) (as := [aJ x2.toInt64, aJ (0 : Int64), aJ (1 : Int64)]) (c_X11_within x2.toInt64 (0 : Int64) (1 : Int64) σ rfl) (by decide) wS_X11_within wN_X11_within lk_X11_84 rfl (Nat.le_of_ble_eq_true rfl) (by decide +kernel) ?_
    refine XW.bn B [] (by decide +kernel) (pc1 := 19) (ls1 := [some (aR 0 0), some (aI x1), some (aI x2)]) (st1 := [aI (m_X11_within x2.toInt64 (0 : Int64) (1 : Int64))]) (σ1 := σ) (P := []) (i := .ifCond .ne 7) (tgt := 26) (q := (m_X11_within x2.toInt64 (0 : Int64) (1 : Int64)) = (0 : Int32)) rfl trivial (by decide +kernel) rfl (by decide) (fun h2 => ?_) (fun h2 => ?_)
    · rw [if_pos h2] at hm
      refine XW.bk B [(22, .ldc2_w 239)] (by decide +kernel) (pc1 := 25) (ls1 := [some (aR 0 0), some (aI x1), some (aI x2)]) (st1 := [aJ (-9223372036854775808 : Int64)]) (σ1 := σ) (P := []) rfl trivial ?_
      obtain rfl := Option.some.inj hm
      exact XW.lret B q (by decide +kernel)
    · rw [if_neg h2] at hm
      refine XW.bn B [(26, .aload_n 0), (27, .getfield 81)] (by decide +kernel) (pc1 := 30) (ls1 := [some (aR 0 0), some (aI x1), some (aI x2)]) (st1 := [aI (σ.1 0 0 6)]) (σ1 := σ) (P := []) (i := .ifCond .ne 9) (tgt := 39) (q := (σ.1 0 0 6) = (0 : Int32)) rfl trivial (by decide +kernel) rfl (by decide) (fun h3 => ?_) (fun h3 => ?_)
      · rw [if_pos h3] at hm
        refine XW.bk B [(33, .ldc2_w 241), (36, .goto 24)] (by decide +kernel) (pc1 := 60) (ls1 := [some (aR 0 0), some (aI x1), some (aI x2)]) (st1 := [aJ (-5 : Int64)]) (σ1 := σ) (P := []) rfl trivial ?_
        obtain rfl := Option.some.inj hm
        exact XW.lret B q (by decide +kernel)
      · rw [if_neg h3] at hm
        refine XW.bk B [(39, .aload_n 0), (40, .iconst (-1)), (41, .iload_n 1)] (by decide +kernel) (pc1 := 42) (ls1 := [some (aR 0 0), some (aI x1), some (aI x2)]) (st1 := [aI x1, aI (-1 : Int32), aR 0 0]) (σ1 := σ) (P := []) rfl trivial ?_
        obtain ⟨q4, hq4, hm⟩ := obind_eq hm
        refine XW.callV B (M := M_X11_freeWays) (t := 0) (j := 0) (cn := 1) (as := [aI (-1 : Int32), aI x1]) (c_X11_freeWays (-1 : Int32) x1 σ hq4) (by decide) wV_X11_freeWays wN_X11_freeWays lk_X11_263 rfl rfl rfl (by decide) rfl (Nat.le_of_ble_eq_true rfl) (by decide +kernel) ?_
        refine XW.bk B [(45, .aload_n 0), (46, .iconst (-1)), (47, .iconst 0)] (by decide +kernel) (pc1 := 48) (ls1 := [some (aR 0 0), some (aI x1), some (aI x2)]) (st1 := [aI (0 : Int32), aI (-1 : Int32), aR 0 0, aJ q4]) (σ1 := σ) (P := []) rfl trivial ?_
        obtain ⟨q5, hq5, hm⟩ := obind_eq hm
        refine XW.callV B (M := M_X11_freeWays) (t := 0) (j := 0) (cn := 1) (as := [aI (-1 : Int32), aI (0 : Int32)]) (c_X11_freeWays (-1 : Int32) (0 : Int32) σ hq5) (by decide) wV_X11_freeWays wN_X11_freeWays lk_X11_263 rfl rfl rfl (by decide) rfl (Nat.le_of_ble_eq_true rfl) (by decide +kernel) ?_
        refine XW.bk B [(51, .lsub), (52, .aload_n 0)] (by decide +kernel) (pc1 := 53) (ls1 := [some (aR 0 0), some (aI x1), some (aI x2)]) (st1 := [aR 0 0, aJ (q4 - q5)]) (σ1 := σ) (P := []) rfl trivial ?_
        obtain ⟨q6, hq6, hm⟩ := obind_eq hm
        refine XW.callV B (M := M_X11_lineOf) (t := 0) (j := 0) (cn := 1) (as := []) (c_X11_lineOf σ hq6) (by decide) wV_X11_lineOf wN_X11_lineOf lk_X11_267 rfl rfl rfl (by decide) rfl (Nat.le_of_ble_eq_true rfl) (by decide +kernel) ?_
        refine XW.bk B [(56, .iload_n 2)] (by decide +kernel) (pc1 := 57) (ls1 := [some (aR 0 0), some (aI x1), some (aI x2)]) (st1 := [aI x2, aJ q6, aJ (q4 - q5)]) (σ1 := σ) (P := []) rfl trivial ?_
        obtain ⟨q7, hq7, hm⟩ := obind_eq hm
        refine XW.callS B (M := M_X11_partOf) (as := [aJ (q4 - q5), aJ q6, aI x2]) (c_X11_partOf (q4 - q5) q6 x2 σ hq7) (by decide) wS_X11_partOf wN_X11_partOf lk_X11_271 rfl (Nat.le_of_ble_eq_true rfl) (by decide +kernel) ?_
        obtain rfl := Option.some.inj hm
        exact XW.lret B q (by decide +kernel)

def m_X11_cost (x1 : Int32) (x2 : Int32) (x3 : Int32) (σ : SS) : Option (Int64 × SS) :=
  Option.bind (m_X11_bytesIs x1 σ) (fun q1 =>
  if q1 = (1 : Int32) then
    if (m_X11_isMinute x2) = (0 : Int32) then
      some ((-9223372036854775808 : Int64), σ)
    else
    if (m_X11_within x3.toInt64 (0 : Int64) (1 : Int64)) = (0 : Int32) then
      some ((-9223372036854775808 : Int64), σ)
    else
    if (σ.1 0 0 6) = (0 : Int32) then
      some ((-5 : Int64), σ)
    else
    Option.bind (m_X11_walks x1 (0 : Int32) x2 σ) (fun q6 =>
    if (q6.1 0 0 18) < (0 : Int32) then
      Option.bind (m_X11_lineOf q6) (fun q8 =>
      Option.bind (m_X11_freeWays (-1 : Int32) (0 : Int32) q6) (fun q9 =>
      Option.bind (m_X11_lineOf q6) (fun q10 =>
      Option.bind (m_X11_partOf ((q6.2.1 1 0 (87 : Int32).toNatClampNeg).toInt64 * (q8 - q9)) q10 x3 q6) (fun q11 =>
      some (q11, q6)))))
    else
    Option.bind (m_X11_partOf ((q6.2.1 1 0 (87 : Int32).toNatClampNeg).toInt64) (1 : Int64) x3 q6) (fun q12 =>
    some (q12, q6)))
  else
  some ((-9223372036854775808 : Int64), σ))
set_option maxRecDepth 100000 in
set_option maxHeartbeats 4000000 in
theorem c_X11_cost (x1 : Int32) (x2 : Int32) (x3 : Int32) (σ : SS) {r : Int64} {σ' : SS} (hm : m_X11_cost x1 x2 x3 σ = some (r, σ')) : XM LM 66 M_X11_cost [aR 0 0, aI x1, aI x2, aI x3] σ (some (aJ r)) σ' := by
  refine XM.of (K := K11) (by decide) (by decide +kernel) K11_ok (Nat.le_of_ble_eq_true rfl) (fun Γ B q => ?_)
  unfold m_X11_cost at hm
  refine XW.bk B [(0, .aload_n 0), (1, .iload_n 1)] (by decide +kernel) (pc1 := 2) (ls1 := [some (aR 0 0), some (aI x1), some (aI x2), some (aI x3)]) (st1 := [aI x1, aR 0 0]) (σ1 := σ) (P := []) rfl trivial ?_
  obtain ⟨q1, hq1, hm⟩ := obind_eq hm
  refine XW.callV B (M := M_X11_bytesIs) (t := 0) (j := 0) (cn := 1) (as := [aI x1]) (c_X11_bytesIs x1 σ hq1) (by decide) wV_X11_bytesIs wN_X11_bytesIs lk_X11_204 rfl rfl rfl (by decide) rfl (Nat.le_of_ble_eq_true rfl) (by decide +kernel) ?_
  refine XW.bn B [(5, .iconst 1)] (by decide +kernel) (pc1 := 6) (ls1 := [some (aR 0 0), some (aI x1), some (aI x2), some (aI x3)]) (st1 := [aI (1 : Int32), aI q1]) (σ1 := σ) (P := []) (i := .if_icmp .ne 20) (tgt := 26) (q := q1 = (1 : Int32)) rfl trivial (by decide +kernel) rfl (by decide) (fun h2 => ?_) (fun h2 => ?_)
  · rw [if_pos h2] at hm
    refine XW.bk B [(9, .iload_n 2)] (by decide +kernel) (pc1 := 10) (ls1 := [some (aR 0 0), some (aI x1), some (aI x2), some (aI x3)]) (st1 := [aI x2]) (σ1 := σ) (P := []) rfl trivial ?_
    refine XW.callS B (M := M_X11_isMinute) (as := [aI x2]) (c_X11_isMinute x2 σ rfl) (by decide) wS_X11_isMinute wN_X11_isMinute lk_X11_219 rfl (Nat.le_of_ble_eq_true rfl) (by decide +kernel) ?_
    refine XW.bb B [] (by decide +kernel) (pc1 := 13) (ls1 := [some (aR 0 0), some (aI x1), some (aI x2), some (aI x3)]) (st1 := [aI (m_X11_isMinute x2)]) (σ1 := σ) (P := []) (i := .ifCond .eq 13) (tgt := 26) (q := (m_X11_isMinute x2) = (0 : Int32)) rfl trivial (by decide +kernel) rfl (by decide) (fun h3 => ?_) (fun h3 => ?_)
    · rw [if_pos h3] at hm
      refine XW.bk B [(26, .ldc2_w 239)] (by decide +kernel) (pc1 := 29) (ls1 := [some (aR 0 0), some (aI x1), some (aI x2), some (aI x3)]) (st1 := [aJ (-9223372036854775808 : Int64)]) (σ1 := σ) (P := []) rfl trivial ?_
      obtain ⟨rfl, rfl⟩ := Prod.mk.inj (Option.some.inj hm)
      exact XW.lret B q (by decide +kernel)
    · rw [if_neg h3] at hm
      refine XW.bk B [(16, .iload_n 3), (17, .i2l), (18, .lconst 0), (19, .lconst 1)] (by decide +kernel) (pc1 := 20) (ls1 := [some (aR 0 0), some (aI x1), some (aI x2), some (aI x3)]) (st1 := [aJ (1 : Int64), aJ (0 : Int64), aJ x3.toInt64]) (σ1 := σ) (P := []) rfl trivial ?_
      refine XW.callS B (M := M_X11_within) (as := [aJ x3.toInt64, aJ (0 : Int64), aJ (1 : Int64)]) (c_X11_within x3.toInt64 (0 : Int64) (1 : Int64) σ rfl) (by decide) wS_X11_within wN_X11_within lk_X11_84 rfl (Nat.le_of_ble_eq_true rfl) (by decide +kernel) ?_
      refine XW.bn B [] (by decide +kernel) (pc1 := 23) (ls1 := [some (aR 0 0), some (aI x1), some (aI x2), some (aI x3)]) (st1 := [aI (m_X11_within x3.toInt64 (0 : Int64) (1 : Int64))]) (σ1 := σ) (P := []) (i := .ifCond .ne 7) (tgt := 30) (q := (m_X11_within x3.toInt64 (0 : Int64) (1 : Int64)) = (0 : Int32)) rfl trivial (by decide +kernel) rfl (by decide) (fun h4 => ?_) (fun h4 => ?_)
      · rw [if_pos h4] at hm
        refine XW.bk B [(26, .ldc2_w 239)] (by decide +kernel) (pc1 := 29) (ls1 := [some (aR 0 0), some (aI x1), some (aI x2), some (aI x3)]) (st1 := [aJ (-9223372036854775808 : Int64)]) (σ1 := σ) (P := []) rfl trivial ?_
        obtain ⟨rfl, rfl⟩ := Prod.mk.inj (Option.some.inj hm)
        exact XW.lret B q (by decide +kernel)
      · rw [if_neg h4] at hm
        refine XW.bn B [(30, .aload_n 0), (31, .getfield 81)] (by decide +kernel) (pc1 := 34) (ls1 := [some (aR 0 0), some (aI x1), some (aI x2), some (aI x3)]) (st1 := [aI (σ.1 0 0 6)]) (σ1 := σ) (P := []) (i := .ifCond .ne 7) (tgt := 41) (q := (σ.1 0 0 6) = (0 : Int32)) rfl trivial (by decide +kernel) rfl (by decide) (fun h5 => ?_) (fun h5 => ?_)
        · rw [if_pos h5] at hm
          refine XW.bk B [(37, .ldc2_w 241)] (by decide +kernel) (pc1 := 40) (ls1 := [some (aR 0 0), some (aI x1), some (aI x2), some (aI x3)]) (st1 := [aJ (-5 : Int64)]) (σ1 := σ) (P := []) rfl trivial ?_
          obtain ⟨rfl, rfl⟩ := Prod.mk.inj (Option.some.inj hm)
          exact XW.lret B q (by decide +kernel)
        · rw [if_neg h5] at hm
          refine XW.bk B [(41, .aload_n 0), (42, .iload_n 1), (43, .iconst 0), (44, .iload_n 2)] (by decide +kernel) (pc1 := 45) (ls1 := [some (aR 0 0), some (aI x1), some (aI x2), some (aI x3)]) (st1 := [aI x2, aI (0 : Int32), aI x1, aR 0 0]) (σ1 := σ) (P := []) rfl trivial ?_
          obtain ⟨q6, hq6, hm⟩ := obind_eq hm
          refine XW.callV B (M := M_X11_walks) (t := 0) (j := 0) (cn := 1) (as := [aI x1, aI (0 : Int32), aI x2]) (c_X11_walks x1 (0 : Int32) x2 σ hq6) (by decide) wV_X11_walks wN_X11_walks lk_X11_227 rfl rfl rfl (by decide) rfl (Nat.le_of_ble_eq_true rfl) (by decide +kernel) ?_
          refine XW.bb B [(48, .aload_n 0), (49, .getfield 207)] (by decide +kernel) (pc1 := 52) (ls1 := [some (aR 0 0), some (aI x1), some (aI x2), some (aI x3)]) (st1 := [aI (q6.1 0 0 18)]) (σ1 := q6) (P := []) (i := .ifCond .lt 17) (tgt := 69) (q := (q6.1 0 0 18) < (0 : Int32)) rfl trivial (by decide +kernel) rfl (by decide) (fun h7 => ?_) (fun h7 => ?_)
          · rw [if_pos h7] at hm
            refine XW.bk B [(69, .aload_n 0), (70, .getfield 11), (73, .bipush 87), (75, .iaload), (76, .i2l), (77, .aload_n 0)] (by decide +kernel) (pc1 := 78) (ls1 := [some (aR 0 0), some (aI x1), some (aI x2), some (aI x3)]) (st1 := [aR 0 0, aJ ((q6.2.1 1 0 (87 : Int32).toNatClampNeg).toInt64)]) (σ1 := q6) (P := [vp_in (87 : Int32) 88]) rfl ⟨(vin_lit (by decide +kernel)), trivial⟩ ?_
            obtain ⟨q8, hq8, hm⟩ := obind_eq hm
            refine XW.callV B (M := M_X11_lineOf) (t := 0) (j := 0) (cn := 1) (as := []) (c_X11_lineOf q6 hq8) (by decide) wV_X11_lineOf wN_X11_lineOf lk_X11_267 rfl rfl rfl (by decide) rfl (Nat.le_of_ble_eq_true rfl) (by decide +kernel) ?_
            refine XW.bk B [(81, .aload_n 0), (82, .iconst (-1)), (83, .iconst 0)] (by decide +kernel) (pc1 := 84) (ls1 := [some (aR 0 0), some (aI x1), some (aI x2), some (aI x3)]) (st1 := [aI (0 : Int32), aI (-1 : Int32), aR 0 0, aJ q8, aJ ((q6.2.1 1 0 (87 : Int32).toNatClampNeg).toInt64)]) (σ1 := q6) (P := []) rfl trivial ?_
            obtain ⟨q9, hq9, hm⟩ := obind_eq hm
            refine XW.callV B (M := M_X11_freeWays) (t := 0) (j := 0) (cn := 1) (as := [aI (-1 : Int32), aI (0 : Int32)]) (c_X11_freeWays (-1 : Int32) (0 : Int32) q6 hq9) (by decide) wV_X11_freeWays wN_X11_freeWays lk_X11_263 rfl rfl rfl (by decide) rfl (Nat.le_of_ble_eq_true rfl) (by decide +kernel) ?_
            refine XW.bk B [(87, .lsub), (88, .lmul), (89, .aload_n 0)] (by decide +kernel) (pc1 := 90) (ls1 := [some (aR 0 0), some (aI x1), some (aI x2), some (aI x3)]) (st1 := [aR 0 0, aJ ((q6.2.1 1 0 (87 : Int32).toNatClampNeg).toInt64 * (q8 - q9))]) (σ1 := q6) (P := []) rfl trivial ?_
            obtain ⟨q10, hq10, hm⟩ := obind_eq hm
            refine XW.callV B (M := M_X11_lineOf) (t := 0) (j := 0) (cn := 1) (as := []) (c_X11_lineOf q6 hq10) (by decide) wV_X11_lineOf wN_X11_lineOf lk_X11_267 rfl rfl rfl (by decide) rfl (Nat.le_of_ble_eq_true rfl) (by decide +kernel) ?_
            refine XW.bk B [(93, .iload_n 3)] (by decide +kernel) (pc1 := 94) (ls1 := [some (aR 0 0), some (aI x1), some (aI x2), some (aI x3)]) (st1 := [aI x3, aJ q10, aJ ((q6.2.1 1 0 (87 : Int32).toNatClampNeg).toInt64 * (q8 - q9))]) (σ1 := q6) (P := []) rfl trivial ?_
            obtain ⟨q11, hq11, hm⟩ := obind_eq hm
            refine XW.callS B (M := M_X11_partOf) (as := [aJ ((q6.2.1 1 0 (87 : Int32).toNatClampNeg).toInt64 * (q8 - q9)), aJ q10, aI x3]) (c_X11_partOf ((q6.2.1 1 0 (87 : Int32).toNatClampNeg).toInt64 * (q8 - q9)) q10 x3 q6 hq11) (by decide) wS_X11_partOf wN_X11_partOf lk_X11_271 rfl (Nat.le_of_ble_eq_true rfl) (by decide +kernel) ?_
            obtain ⟨rfl, rfl⟩ := Prod.mk.inj (Option.some.inj hm)
            exact XW.lret B q (by decide +kernel)
          · rw [if_neg h7] at hm
            refine XW.bk B [(55, .aload_n 0), (56, .getfield 11), (59, .bipush 87), (61, .iaload), (62, .i2l), (63, .lconst 1), (64, .iload_n 3)] (by decide +kernel) (pc1 := 65) (ls1 := [some (aR 0 0), some (aI x1), some (aI x2), some (aI x3)]) (st1 := [aI x3, aJ (1 : Int64), aJ ((q6.2.1 1 0 (87 : Int32).toNatClampNeg).toInt64)]) (σ1 := q6) (P := [vp_in (87 : Int32) 88]) rfl ⟨(vin_lit (by decide +kernel)), trivial⟩ ?_
            obtain ⟨q12, hq12, hm⟩ := obind_eq hm
            refine XW.callS B (M := M_X11_partOf) (as := [aJ ((q6.2.1 1 0 (87 : Int32).toNatClampNeg).toInt64), aJ (1 : Int64), aI x3]) (c_X11_partOf ((q6.2.1 1 0 (87 : Int32).toNatClampNeg).toInt64) (1 : Int64) x3 q6 hq12) (by decide) wS_X11_partOf wN_X11_partOf lk_X11_271 rfl (Nat.le_of_ble_eq_true rfl) (by decide +kernel) ?_
            obtain ⟨rfl, rfl⟩ := Prod.mk.inj (Option.some.inj hm)
            exact XW.lret B q (by decide +kernel)
  · rw [if_neg h2] at hm
    refine XW.bk B [(26, .ldc2_w 239)] (by decide +kernel) (pc1 := 29) (ls1 := [some (aR 0 0), some (aI x1), some (aI x2), some (aI x3)]) (st1 := [aJ (-9223372036854775808 : Int64)]) (σ1 := σ) (P := []) rfl trivial ?_
    obtain ⟨rfl, rfl⟩ := Prod.mk.inj (Option.some.inj hm)
    exact XW.lret B q (by decide +kernel)

def L_X11_firstFalse_6 : Nat → Int32 → Int32 → Int32 → Int32 → Int32 → SS → Option (Int32 × SS)
  | 0, _, _, _, _, _, _ => none
  | n + 1, v1, v2, v3, v4, v5, σ =>
    if v1 < 0 ∨ 6 ≤ v1.toNatClampNeg then none else
    if (σ.2.1 15 0 v1.toNatClampNeg) ≤ v5 then
      some ((-2 : Int32), σ)
    else
    if v5 < (σ.1 0 0 6) then
      Option.bind (m_X11_strainAt v5 v3 (v2 + v5) σ) (fun q4 =>
      if (((60 : Int32) * v1) + v5) < 0 ∨ 360 ≤ (((60 : Int32) * v1) + v5).toNatClampNeg then none else
      if (v4 + q4.1) ≤ (120 : Int32) then
        if lg_cmp (q4.2.2.2 16 0 (((60 : Int32) * v1) + v5).toNatClampNeg) ((v4 + q4.1).toInt64) = (0 : Int32) then
          L_X11_firstFalse_6 n v1 v2 v3 (v4 + q4.1) (v5 + (1 : Int32)) q4.2
        else
        some (v5, q4.2)
      else
      if lg_cmp (q4.2.2.2 16 0 (((60 : Int32) * v1) + v5).toNatClampNeg) ((120 : Int32).toInt64) = (0 : Int32) then
        L_X11_firstFalse_6 n v1 v2 v3 (v4 + q4.1) (v5 + (1 : Int32)) q4.2
      else
      some (v5, q4.2))
    else
    some (v5, σ)
def m_X11_firstFalse (x1 : Int32) (x2 : Int32) (x3 : Int32) (σ : SS) : Option (Int32 × SS) :=
  L_X11_firstFalse_6 FU x1 x2 x3 (0 : Int32) (0 : Int32) σ
set_option maxRecDepth 100000 in
set_option maxHeartbeats 4000000 in
theorem lp_X11_firstFalse_6 {Γ : XC} {r : Int32} {σ' : SS} (B : XB Γ cX11_firstFalse RX11 65 K11 LM 6) (q : XQ Γ (some .int) (some (aI r)) σ') : ∀ (n : Nat) (v1 : Int32) (v2 : Int32) (v3 : Int32) (v4 : Int32) (v5 : Int32) (σ : SS), L_X11_firstFalse_6 n v1 v2 v3 v4 v5 σ = some (r, σ') → XW Γ 6 [some (aR 0 0), some (aI v1), some (aI v2), some (aI v3), some (aI v4), some (aI v5)] [] σ := by
  intro n
  induction n with
  | zero => intro v1 v2 v3 v4 v5 σ hm; cases hm
  | succ n ih =>
    intro v1 v2 v3 v4 v5 σ hm
    rw [L_X11_firstFalse_6] at hm
    refine XW.bk B [(6, .iload 5), (8, .aload_n 0), (9, .getfield 54), (12, .iload_n 1)] (by decide +kernel) (pc1 := 13) (ls1 := [some (aR 0 0), some (aI v1), some (aI v2), some (aI v3), some (aI v4), some (aI v5)]) (st1 := [aI v1, aR 15 0, aI v5]) (σ1 := σ) (P := []) rfl trivial ?_
    by_cases g1 : v1 < 0 ∨ 6 ≤ v1.toNatClampNeg
    · rw [if_pos g1] at hm; cases hm
    rw [if_neg g1] at hm
    refine XW.bb B [(13, .iaload)] (by decide +kernel) (pc1 := 14) (ls1 := [some (aR 0 0), some (aI v1), some (aI v2), some (aI v3), some (aI v4), some (aI v5)]) (st1 := [aI (σ.2.1 15 0 v1.toNatClampNeg), aI v5]) (σ1 := σ) (P := [vp_in v1 6]) (i := .if_icmp .ge 71) (tgt := 85) (q := (σ.2.1 15 0 v1.toNatClampNeg) ≤ v5) rfl ⟨g1, trivial⟩ (by decide +kernel) rfl (by decide) (fun h2 => ?_) (fun h2 => ?_)
    · rw [if_pos h2] at hm
      refine XW.bk B [(85, .bipush (-2))] (by decide +kernel) (pc1 := 87) (ls1 := [some (aR 0 0), some (aI v1), some (aI v2), some (aI v3), some (aI v4), some (aI v5)]) (st1 := [aI (-2 : Int32)]) (σ1 := σ) (P := []) rfl trivial ?_
      obtain ⟨rfl, rfl⟩ := Prod.mk.inj (Option.some.inj hm)
      exact XW.iret B q (by decide +kernel)
    · rw [if_neg h2] at hm
      refine XW.bb B [(17, .iload 5), (19, .aload_n 0), (20, .getfield 81)] (by decide +kernel) (pc1 := 23) (ls1 := [some (aR 0 0), some (aI v1), some (aI v2), some (aI v3), some (aI v4), some (aI v5)]) (st1 := [aI (σ.1 0 0 6), aI v5]) (σ1 := σ) (P := []) (i := .if_icmp .lt 6) (tgt := 29) (q := v5 < (σ.1 0 0 6)) rfl trivial (by decide +kernel) rfl (by decide) (fun h3 => ?_) (fun h3 => ?_)
      · rw [if_pos h3] at hm
        refine XW.bk B [(29, .iload 4), (31, .aload_n 0), (32, .iload 5), (34, .iload_n 3), (35, .iload_n 2), (36, .iload 5), (38, .iadd)] (by decide +kernel) (pc1 := 39) (ls1 := [some (aR 0 0), some (aI v1), some (aI v2), some (aI v3), some (aI v4), some (aI v5)]) (st1 := [aI (v2 + v5), aI v3, aI v5, aR 0 0, aI v4]) (σ1 := σ) (P := []) rfl trivial ?_
        obtain ⟨q4, hq4, hm⟩ := obind_eq hm
        refine XW.callV B (M := M_X11_strainAt) (t := 0) (j := 0) (cn := 1) (as := [aI v5, aI v3, aI (v2 + v5)]) (c_X11_strainAt v5 v3 (v2 + v5) σ hq4) (by decide) wV_X11_strainAt wN_X11_strainAt lk_X11_200 rfl rfl rfl (by decide) rfl (Nat.le_of_ble_eq_true rfl) (by decide +kernel) ?_
        refine XW.bk B [(42, .iadd), (43, .istore 4), (45, .aload_n 0), (46, .getfield 57), (49, .bipush 60), (51, .iload_n 1), (52, .imul), (53, .iload 5), (55, .iadd)] (by decide +kernel) (pc1 := 56) (ls1 := [some (aR 0 0), some (aI v1), some (aI v2), some (aI v3), some (aI (v4 + q4.1)), some (aI v5)]) (st1 := [aI (((60 : Int32) * v1) + v5), aR 16 0]) (σ1 := q4.2) (P := []) rfl trivial ?_
        by_cases g5 : (((60 : Int32) * v1) + v5) < 0 ∨ 360 ≤ (((60 : Int32) * v1) + v5).toNatClampNeg
        · rw [if_pos g5] at hm; cases hm
        rw [if_neg g5] at hm
        refine XW.bb B [(56, .laload), (57, .iload 4), (59, .bipush 120)] (by decide +kernel) (pc1 := 61) (ls1 := [some (aR 0 0), some (aI v1), some (aI v2), some (aI v3), some (aI (v4 + q4.1)), some (aI v5)]) (st1 := [aI (120 : Int32), aI (v4 + q4.1), aJ (q4.2.2.2 16 0 (((60 : Int32) * v1) + v5).toNatClampNeg)]) (σ1 := q4.2) (P := [vp_in (((60 : Int32) * v1) + v5) 360]) (i := .if_icmp .le 8) (tgt := 69) (q := (v4 + q4.1) ≤ (120 : Int32)) rfl ⟨g5, trivial⟩ (by decide +kernel) rfl (by decide) (fun h6 => ?_) (fun h6 => ?_)
        · rw [if_pos h6] at hm
          refine XW.bb B [(69, .iload 4), (71, .i2l), (72, .lcmp)] (by decide +kernel) (pc1 := 73) (ls1 := [some (aR 0 0), some (aI v1), some (aI v2), some (aI v3), some (aI (v4 + q4.1)), some (aI v5)]) (st1 := [aI (lg_cmp (q4.2.2.2 16 0 (((60 : Int32) * v1) + v5).toNatClampNeg) ((v4 + q4.1).toInt64))]) (σ1 := q4.2) (P := []) (i := .ifCond .eq 6) (tgt := 79) (q := lg_cmp (q4.2.2.2 16 0 (((60 : Int32) * v1) + v5).toNatClampNeg) ((v4 + q4.1).toInt64) = (0 : Int32)) rfl trivial (by decide +kernel) rfl (by decide) (fun h7 => ?_) (fun h7 => ?_)
          · rw [if_pos h7] at hm
            refine XW.bk B [(79, .iinc 5 1), (82, .goto (-76))] (by decide +kernel) (pc1 := 6) (ls1 := [some (aR 0 0), some (aI v1), some (aI v2), some (aI v3), some (aI (v4 + q4.1)), some (aI (v5 + (1 : Int32)))]) (st1 := []) (σ1 := q4.2) (P := []) rfl trivial ?_
            exact ih v1 v2 v3 (v4 + q4.1) (v5 + (1 : Int32)) q4.2 hm
          · rw [if_neg h7] at hm
            refine XW.bk B [(76, .iload 5)] (by decide +kernel) (pc1 := 78) (ls1 := [some (aR 0 0), some (aI v1), some (aI v2), some (aI v3), some (aI (v4 + q4.1)), some (aI v5)]) (st1 := [aI v5]) (σ1 := q4.2) (P := []) rfl trivial ?_
            obtain ⟨rfl, rfl⟩ := Prod.mk.inj (Option.some.inj hm)
            exact XW.iret B q (by decide +kernel)
        · rw [if_neg h6] at hm
          refine XW.bb B [(64, .bipush 120), (66, .goto 5), (71, .i2l), (72, .lcmp)] (by decide +kernel) (pc1 := 73) (ls1 := [some (aR 0 0), some (aI v1), some (aI v2), some (aI v3), some (aI (v4 + q4.1)), some (aI v5)]) (st1 := [aI (lg_cmp (q4.2.2.2 16 0 (((60 : Int32) * v1) + v5).toNatClampNeg) ((120 : Int32).toInt64))]) (σ1 := q4.2) (P := []) (i := .ifCond .eq 6) (tgt := 79) (q := lg_cmp (q4.2.2.2 16 0 (((60 : Int32) * v1) + v5).toNatClampNeg) ((120 : Int32).toInt64) = (0 : Int32)) rfl trivial (by decide +kernel) rfl (by decide) (fun h8 => ?_) (fun h8 => ?_)
          · rw [if_pos h8] at hm
            refine XW.bk B [(79, .iinc 5 1), (82, .goto (-76))] (by decide +kernel) (pc1 := 6) (ls1 := [some (aR 0 0), some (aI v1), some (aI v2), some (aI v3), some (aI (v4 + q4.1)), some (aI (v5 + (1 : Int32)))]) (st1 := []) (σ1 := q4.2) (P := []) rfl trivial ?_
            exact ih v1 v2 v3 (v4 + q4.1) (v5 + (1 : Int32)) q4.2 hm
          · rw [if_neg h8] at hm
            refine XW.bk B [(76, .iload 5)] (by decide +kernel) (pc1 := 78) (ls1 := [some (aR 0 0), some (aI v1), some (aI v2), some (aI v3), some (aI (v4 + q4.1)), some (aI v5)]) (st1 := [aI v5]) (σ1 := q4.2) (P := []) rfl trivial ?_
            obtain ⟨rfl, rfl⟩ := Prod.mk.inj (Option.some.inj hm)
            exact XW.iret B q (by decide +kernel)
      · rw [if_neg h3] at hm
        refine XW.bk B [(26, .iload 5)] (by decide +kernel) (pc1 := 28) (ls1 := [some (aR 0 0), some (aI v1), some (aI v2), some (aI v3), some (aI v4), some (aI v5)]) (st1 := [aI v5]) (σ1 := σ) (P := []) rfl trivial ?_
        obtain ⟨rfl, rfl⟩ := Prod.mk.inj (Option.some.inj hm)
        exact XW.iret B q (by decide +kernel)
set_option maxRecDepth 100000 in
set_option maxHeartbeats 4000000 in
theorem c_X11_firstFalse (x1 : Int32) (x2 : Int32) (x3 : Int32) (σ : SS) {r : Int32} {σ' : SS} (hm : m_X11_firstFalse x1 x2 x3 σ = some (r, σ')) : XM LM 65 M_X11_firstFalse [aR 0 0, aI x1, aI x2, aI x3] σ (some (aI r)) σ' := by
  refine XM.of (K := K11) (by decide) (by decide +kernel) K11_ok (Nat.le_of_ble_eq_true rfl) (fun Γ B q => ?_)
  unfold m_X11_firstFalse at hm
  refine XW.bk B [(0, .iconst 0), (1, .istore 4), (3, .iconst 0), (4, .istore 5)] (by decide +kernel) (pc1 := 6) (ls1 := [some (aR 0 0), some (aI x1), some (aI x2), some (aI x3), some (aI (0 : Int32)), some (aI (0 : Int32))]) (st1 := []) (σ1 := σ) (P := []) rfl trivial ?_
  exact lp_X11_firstFalse_6 B q FU x1 x2 x3 (0 : Int32) (0 : Int32) σ hm

def L_X11_begun_37 : Nat → Int32 → Int32 → Int64 → Int32 → SS → Option (Int64 × SS)
  | 0, _, _, _, _, _ => none
  | n + 1, v1, v2, v3, v5, σ =>
    if (60 : Int32) ≤ v5 then
      some (v3, σ)
    else
    Option.bind (m_X11_firstFalse v1 v5 v2 σ) (fun q6 =>
    if q6.1 = (-2 : Int32) then
      L_X11_begun_37 n v1 v2 (v3 ||| ((1 : Int64) <<< (v5.toInt64 &&& 63))) (v5 + (1 : Int32)) q6.2
    else
    L_X11_begun_37 n v1 v2 (v3 ||| (0 : Int64)) (v5 + (1 : Int32)) q6.2)
def m_X11_begun (x1 : Int32) (x2 : Int32) (σ : SS) : Option (Int64 × SS) :=
  Option.bind (m_X11_bytesIs x1 σ) (fun q1 =>
  if q1 = (1 : Int32) then
    if (m_X11_isHeld x2.toInt64) = (0 : Int32) then
      some ((-9223372036854775808 : Int64), σ)
    else
    if (σ.1 0 0 6) = (0 : Int32) then
      some ((-5 : Int64), σ)
    else
    L_X11_begun_37 FU x1 x2 (0 : Int64) (0 : Int32) σ
  else
  some ((-9223372036854775808 : Int64), σ))
set_option maxRecDepth 100000 in
set_option maxHeartbeats 4000000 in
theorem lp_X11_begun_37 {Γ : XC} {r : Int64} {σ' : SS} (B : XB Γ cX11_begun RX11 66 K11 LM 6) (q : XQ Γ (some .long) (some (aJ r)) σ') : ∀ (n : Nat) (v1 : Int32) (v2 : Int32) (v3 : Int64) (v5 : Int32) (σ : SS), L_X11_begun_37 n v1 v2 v3 v5 σ = some (r, σ') → XW Γ 37 [some (aR 0 0), some (aI v1), some (aI v2), some (aJ v3), none, some (aI v5)] [] σ := by
  intro n
  induction n with
  | zero => intro v1 v2 v3 v5 σ hm; cases hm
  | succ n ih =>
    intro v1 v2 v3 v5 σ hm
    rw [L_X11_begun_37] at hm
    refine XW.bb B [(37, .iload 5), (39, .bipush 60)] (by decide +kernel) (pc1 := 41) (ls1 := [some (aR 0 0), some (aI v1), some (aI v2), some (aJ v3), none, some (aI v5)]) (st1 := [aI (60 : Int32), aI v5]) (σ1 := σ) (P := []) (i := .if_icmp .ge 33) (tgt := 74) (q := (60 : Int32) ≤ v5) rfl trivial (by decide +kernel) rfl (by decide) (fun h5 => ?_) (fun h5 => ?_)
    · rw [if_pos h5] at hm
      refine XW.bk B [(74, .lload_n 3)] (by decide +kernel) (pc1 := 75) (ls1 := [some (aR 0 0), some (aI v1), some (aI v2), some (aJ v3), none, some (aI v5)]) (st1 := [aJ v3]) (σ1 := σ) (P := []) rfl trivial ?_
      obtain ⟨rfl, rfl⟩ := Prod.mk.inj (Option.some.inj hm)
      exact XW.lret B q (by decide +kernel)
    · rw [if_neg h5] at hm
      refine XW.bk B [(44, .lload_n 3), (45, .aload_n 0), (46, .iload_n 1), (47, .iload 5), (49, .iload_n 2)] (by decide +kernel) (pc1 := 50) (ls1 := [some (aR 0 0), some (aI v1), some (aI v2), some (aJ v3), none, some (aI v5)]) (st1 := [aI v2, aI v5, aI v1, aR 0 0, aJ v3]) (σ1 := σ) (P := []) rfl trivial ?_
      obtain ⟨q6, hq6, hm⟩ := obind_eq hm
      refine XW.callV B (M := M_X11_firstFalse) (t := 0) (j := 0) (cn := 1) (as := [aI v1, aI v5, aI v2]) (c_X11_firstFalse v1 v5 v2 σ hq6) (by decide) wV_X11_firstFalse wN_X11_firstFalse lk_X11_275 rfl rfl rfl (by decide) rfl (Nat.le_of_ble_eq_true rfl) (by decide +kernel) ?_
      refine XW.bn B [(53, .bipush (-2))] (by decide +kernel) (pc1 := 55) (ls1 := [some (aR 0 0), some (aI v1), some (aI v2), some (aJ v3), none, some (aI v5)]) (st1 := [aI (-2 : Int32), aI q6.1, aJ v3]) (σ1 := q6.2) (P := []) (i := .if_icmp .ne 10) (tgt := 65) (q := q6.1 = (-2 : Int32)) rfl trivial (by decide +kernel) rfl (by decide) (fun h7 => ?_) (fun h7 => ?_)
      · rw [if_pos h7] at hm
        refine XW.bk B [(58, .lconst 1), (59, .iload 5), (61, .lshl), (62, .goto 4), (66, .lor), (67, .lstore_n 3), (68, .iinc 5 1), (71, .goto (-34))] (by decide +kernel) (pc1 := 37) (ls1 := [some (aR 0 0), some (aI v1), some (aI v2), some (aJ (v3 ||| ((1 : Int64) <<< (v5.toInt64 &&& 63)))), none, some (aI (v5 + (1 : Int32)))]) (st1 := []) (σ1 := q6.2) (P := []) rfl trivial ?_
        exact ih v1 v2 (v3 ||| ((1 : Int64) <<< (v5.toInt64 &&& 63))) (v5 + (1 : Int32)) q6.2 hm
      · rw [if_neg h7] at hm
        refine XW.bk B [(65, .lconst 0), (66, .lor), (67, .lstore_n 3), (68, .iinc 5 1), (71, .goto (-34))] (by decide +kernel) (pc1 := 37) (ls1 := [some (aR 0 0), some (aI v1), some (aI v2), some (aJ (v3 ||| (0 : Int64))), none, some (aI (v5 + (1 : Int32)))]) (st1 := []) (σ1 := q6.2) (P := []) rfl trivial ?_
        exact ih v1 v2 (v3 ||| (0 : Int64)) (v5 + (1 : Int32)) q6.2 hm
set_option maxRecDepth 100000 in
set_option maxHeartbeats 4000000 in
theorem c_X11_begun (x1 : Int32) (x2 : Int32) (σ : SS) {r : Int64} {σ' : SS} (hm : m_X11_begun x1 x2 σ = some (r, σ')) : XM LM 66 M_X11_begun [aR 0 0, aI x1, aI x2] σ (some (aJ r)) σ' := by
  refine XM.of (K := K11) (by decide) (by decide +kernel) K11_ok (Nat.le_of_ble_eq_true rfl) (fun Γ B q => ?_)
  unfold m_X11_begun at hm
  refine XW.bk B [(0, .aload_n 0), (1, .iload_n 1)] (by decide +kernel) (pc1 := 2) (ls1 := [some (aR 0 0), some (aI x1), some (aI x2), none, none, none]) (st1 := [aI x1, aR 0 0]) (σ1 := σ) (P := []) rfl trivial ?_
  obtain ⟨q1, hq1, hm⟩ := obind_eq hm
  refine XW.callV B (M := M_X11_bytesIs) (t := 0) (j := 0) (cn := 1) (as := [aI x1]) (c_X11_bytesIs x1 σ hq1) (by decide) wV_X11_bytesIs wN_X11_bytesIs lk_X11_204 rfl rfl rfl (by decide) rfl (Nat.le_of_ble_eq_true rfl) (by decide +kernel) ?_
  refine XW.bn B [(5, .iconst 1)] (by decide +kernel) (pc1 := 6) (ls1 := [some (aR 0 0), some (aI x1), some (aI x2), none, none, none]) (st1 := [aI (1 : Int32), aI q1]) (σ1 := σ) (P := []) (i := .if_icmp .ne 11) (tgt := 17) (q := q1 = (1 : Int32)) rfl trivial (by decide +kernel) rfl (by decide) (fun h2 => ?_) (fun h2 => ?_)
  · rw [if_pos h2] at hm
    refine XW.bk B [(9, .iload_n 2), (10, .i2l)] (by decide +kernel) (pc1 := 11) (ls1 := [some (aR 0 0), some (aI x1), some (aI x2), none, none, none]) (st1 := [aJ x2.toInt64]) (σ1 := σ) (P := []) rfl trivial ?_
    refine XW.callS B (M := M_X11_isHeld) (as := [aJ x2.toInt64]) (c_X11_isHeld x2.toInt64 σ rfl) (by decide) wS_X11_isHeld wN_X11_isHeld lk_X11_120 rfl (Nat.le_of_ble_eq_true rfl) (by decide +kernel) ?_
    refine XW.bn B [] (by decide +kernel) (pc1 := 14) (ls1 := [some (aR 0 0), some (aI x1), some (aI x2), none, none, none]) (st1 := [aI (m_X11_isHeld x2.toInt64)]) (σ1 := σ) (P := []) (i := .ifCond .ne 7) (tgt := 21) (q := (m_X11_isHeld x2.toInt64) = (0 : Int32)) rfl trivial (by decide +kernel) rfl (by decide) (fun h3 => ?_) (fun h3 => ?_)
    · rw [if_pos h3] at hm
      refine XW.bk B [(17, .ldc2_w 239)] (by decide +kernel) (pc1 := 20) (ls1 := [some (aR 0 0), some (aI x1), some (aI x2), none, none, none]) (st1 := [aJ (-9223372036854775808 : Int64)]) (σ1 := σ) (P := []) rfl trivial ?_
      obtain ⟨rfl, rfl⟩ := Prod.mk.inj (Option.some.inj hm)
      exact XW.lret B q (by decide +kernel)
    · rw [if_neg h3] at hm
      refine XW.bn B [(21, .aload_n 0), (22, .getfield 81)] (by decide +kernel) (pc1 := 25) (ls1 := [some (aR 0 0), some (aI x1), some (aI x2), none, none, none]) (st1 := [aI (σ.1 0 0 6)]) (σ1 := σ) (P := []) (i := .ifCond .ne 7) (tgt := 32) (q := (σ.1 0 0 6) = (0 : Int32)) rfl trivial (by decide +kernel) rfl (by decide) (fun h4 => ?_) (fun h4 => ?_)
      · rw [if_pos h4] at hm
        refine XW.bk B [(28, .ldc2_w 241)] (by decide +kernel) (pc1 := 31) (ls1 := [some (aR 0 0), some (aI x1), some (aI x2), none, none, none]) (st1 := [aJ (-5 : Int64)]) (σ1 := σ) (P := []) rfl trivial ?_
        obtain ⟨rfl, rfl⟩ := Prod.mk.inj (Option.some.inj hm)
        exact XW.lret B q (by decide +kernel)
      · rw [if_neg h4] at hm
        refine XW.bk B [(32, .lconst 0), (33, .lstore_n 3), (34, .iconst 0), (35, .istore 5)] (by decide +kernel) (pc1 := 37) (ls1 := [some (aR 0 0), some (aI x1), some (aI x2), some (aJ (0 : Int64)), none, some (aI (0 : Int32))]) (st1 := []) (σ1 := σ) (P := []) rfl trivial ?_
        exact lp_X11_begun_37 B q FU x1 x2 (0 : Int64) (0 : Int32) σ hm
  · rw [if_neg h2] at hm
    refine XW.bk B [(17, .ldc2_w 239)] (by decide +kernel) (pc1 := 20) (ls1 := [some (aR 0 0), some (aI x1), some (aI x2), none, none, none]) (st1 := [aJ (-9223372036854775808 : Int64)]) (σ1 := σ) (P := []) rfl trivial ?_
    obtain ⟨rfl, rfl⟩ := Prod.mk.inj (Option.some.inj hm)
    exact XW.lret B q (by decide +kernel)

def m_X11_judge (x1 : Int32) (x2 : Int32) (σ : SS) : Option (Int32 × SS) :=
  Option.bind (m_X11_bytesIs x1 σ) (fun q1 =>
  if q1 = (-1 : Int32) then
    some ((-1 : Int32), σ)
  else
  if x2 < (0 : Int32) then
    some ((-1 : Int32), σ)
  else
  if (m_X11_isMinute (x2 / (10 : Int32))) = (0 : Int32) then
    some ((-1 : Int32), σ)
  else
  if (m_X11_isHeld ((x2 - (x2 / (10 : Int32)) * (10 : Int32)).toInt64)) = (0 : Int32) then
    some ((-1 : Int32), σ)
  else
  Option.bind (m_X11_walkIs x1 σ) (fun q6 =>
  if (0 : Int32) ≤ q6 then
    Option.bind (m_X11_firstFalse x1 (x2 / (10 : Int32)) (x2 - (x2 / (10 : Int32)) * (10 : Int32)) σ) (fun q8 =>
    some (q8.1, q8.2))
  else
  Option.bind (m_X11_walkIs x1 σ) (fun q9 =>
  some (q9, σ))))
set_option maxRecDepth 100000 in
set_option maxHeartbeats 4000000 in
theorem c_X11_judge (x1 : Int32) (x2 : Int32) (σ : SS) {r : Int32} {σ' : SS} (hm : m_X11_judge x1 x2 σ = some (r, σ')) : XM LM 66 M_X11_judge [aR 0 0, aI x1, aI x2] σ (some (aI r)) σ' := by
  refine XM.of (K := K11) (by decide) (by decide +kernel) K11_ok (Nat.le_of_ble_eq_true rfl) (fun Γ B q => ?_)
  unfold m_X11_judge at hm
  refine XW.bk B [(0, .aload_n 0), (1, .iload_n 1)] (by decide +kernel) (pc1 := 2) (ls1 := [some (aR 0 0), some (aI x1), some (aI x2)]) (st1 := [aI x1, aR 0 0]) (σ1 := σ) (P := []) rfl trivial ?_
  obtain ⟨q1, hq1, hm⟩ := obind_eq hm
  refine XW.callV B (M := M_X11_bytesIs) (t := 0) (j := 0) (cn := 1) (as := [aI x1]) (c_X11_bytesIs x1 σ hq1) (by decide) wV_X11_bytesIs wN_X11_bytesIs lk_X11_204 rfl rfl rfl (by decide) rfl (Nat.le_of_ble_eq_true rfl) (by decide +kernel) ?_
  refine XW.bb B [(5, .iconst (-1))] (by decide +kernel) (pc1 := 6) (ls1 := [some (aR 0 0), some (aI x1), some (aI x2)]) (st1 := [aI (-1 : Int32), aI q1]) (σ1 := σ) (P := []) (i := .if_icmp .eq 28) (tgt := 34) (q := q1 = (-1 : Int32)) rfl trivial (by decide +kernel) rfl (by decide) (fun h2 => ?_) (fun h2 => ?_)
  · rw [if_pos h2] at hm
    refine XW.bk B [(34, .iconst (-1))] (by decide +kernel) (pc1 := 35) (ls1 := [some (aR 0 0), some (aI x1), some (aI x2)]) (st1 := [aI (-1 : Int32)]) (σ1 := σ) (P := []) rfl trivial ?_
    obtain ⟨rfl, rfl⟩ := Prod.mk.inj (Option.some.inj hm)
    exact XW.iret B q (by decide +kernel)
  · rw [if_neg h2] at hm
    refine XW.bb B [(9, .iload_n 2)] (by decide +kernel) (pc1 := 10) (ls1 := [some (aR 0 0), some (aI x1), some (aI x2)]) (st1 := [aI x2]) (σ1 := σ) (P := []) (i := .ifCond .lt 24) (tgt := 34) (q := x2 < (0 : Int32)) rfl trivial (by decide +kernel) rfl (by decide) (fun h3 => ?_) (fun h3 => ?_)
    · rw [if_pos h3] at hm
      refine XW.bk B [(34, .iconst (-1))] (by decide +kernel) (pc1 := 35) (ls1 := [some (aR 0 0), some (aI x1), some (aI x2)]) (st1 := [aI (-1 : Int32)]) (σ1 := σ) (P := []) rfl trivial ?_
      obtain ⟨rfl, rfl⟩ := Prod.mk.inj (Option.some.inj hm)
      exact XW.iret B q (by decide +kernel)
    · rw [if_neg h3] at hm
      refine XW.bk B [(13, .iload_n 2), (14, .bipush 10), (16, .idiv)] (by decide +kernel) (pc1 := 17) (ls1 := [some (aR 0 0), some (aI x1), some (aI x2)]) (st1 := [aI (x2 / (10 : Int32))]) (σ1 := σ) (P := [¬ (10 : Int32) = 0]) rfl ⟨(by decide), trivial⟩ ?_
      refine XW.callS B (M := M_X11_isMinute) (as := [aI (x2 / (10 : Int32))]) (c_X11_isMinute (x2 / (10 : Int32)) σ rfl) (by decide) wS_X11_isMinute wN_X11_isMinute lk_X11_219 rfl (Nat.le_of_ble_eq_true rfl) (by decide +kernel) ?_
      refine XW.bb B [] (by decide +kernel) (pc1 := 20) (ls1 := [some (aR 0 0), some (aI x1), some (aI x2)]) (st1 := [aI (m_X11_isMinute (x2 / (10 : Int32)))]) (σ1 := σ) (P := []) (i := .ifCond .eq 14) (tgt := 34) (q := (m_X11_isMinute (x2 / (10 : Int32))) = (0 : Int32)) rfl trivial (by decide +kernel) rfl (by decide) (fun h4 => ?_) (fun h4 => ?_)
      · rw [if_pos h4] at hm
        refine XW.bk B [(34, .iconst (-1))] (by decide +kernel) (pc1 := 35) (ls1 := [some (aR 0 0), some (aI x1), some (aI x2)]) (st1 := [aI (-1 : Int32)]) (σ1 := σ) (P := []) rfl trivial ?_
        obtain ⟨rfl, rfl⟩ := Prod.mk.inj (Option.some.inj hm)
        exact XW.iret B q (by decide +kernel)
      · rw [if_neg h4] at hm
        refine XW.bk B [(23, .iload_n 2), (24, .bipush 10), (26, .irem), (27, .i2l)] (by decide +kernel) (pc1 := 28) (ls1 := [some (aR 0 0), some (aI x1), some (aI x2)]) (st1 := [aJ ((x2 - (x2 / (10 : Int32)) * (10 : Int32)).toInt64)]) (σ1 := σ) (P := [¬ (10 : Int32) = 0]) rfl ⟨(by decide), trivial⟩ ?_
        refine XW.callS B (M := M_X11_isHeld) (as := [aJ ((x2 - (x2 / (10 : Int32)) * (10 : Int32)).toInt64)]) (c_X11_isHeld ((x2 - (x2 / (10 : Int32)) * (10 : Int32)).toInt64) σ rfl) (by decide) wS_X11_isHeld wN_X11_isHeld lk_X11_120 rfl (Nat.le_of_ble_eq_true rfl) (by decide +kernel) ?_
        refine XW.bn B [] (by decide +kernel) (pc1 := 31) (ls1 := [some (aR 0 0), some (aI x1), some (aI x2)]) (st1 := [aI (m_X11_isHeld ((x2 - (x2 / (10 : Int32)) * (10 : Int32)).toInt64))]) (σ1 := σ) (P := []) (i := .ifCond .ne 5) (tgt := 36) (q := (m_X11_isHeld ((x2 - (x2 / (10 : Int32)) * (10 : Int32)).toInt64)) = (0 : Int32)) rfl trivial (by decide +kernel) rfl (by decide) (fun h5 => ?_) (fun h5 => ?_)
        · rw [if_pos h5] at hm
          refine XW.bk B [(34, .iconst (-1))] (by decide +kernel) (pc1 := 35) (ls1 := [some (aR 0 0), some (aI x1), some (aI x2)]) (st1 := [aI (-1 : Int32)]) (σ1 := σ) (P := []) rfl trivial ?_
          obtain ⟨rfl, rfl⟩ := Prod.mk.inj (Option.some.inj hm)
          exact XW.iret B q (by decide +kernel)
        · rw [if_neg h5] at hm
          refine XW.bk B [(36, .aload_n 0), (37, .iload_n 1)] (by decide +kernel) (pc1 := 38) (ls1 := [some (aR 0 0), some (aI x1), some (aI x2)]) (st1 := [aI x1, aR 0 0]) (σ1 := σ) (P := []) rfl trivial ?_
          obtain ⟨q6, hq6, hm⟩ := obind_eq hm
          refine XW.callV B (M := M_X11_walkIs) (t := 0) (j := 0) (cn := 1) (as := [aI x1]) (c_X11_walkIs x1 σ hq6) (by decide) wV_X11_walkIs wN_X11_walkIs lk_X11_224 rfl rfl rfl (by decide) rfl (Nat.le_of_ble_eq_true rfl) (by decide +kernel) ?_
          refine XW.bb B [] (by decide +kernel) (pc1 := 41) (ls1 := [some (aR 0 0), some (aI x1), some (aI x2)]) (st1 := [aI q6]) (σ1 := σ) (P := []) (i := .ifCond .ge 11) (tgt := 52) (q := (0 : Int32) ≤ q6) rfl trivial (by decide +kernel) rfl (by decide) (fun h7 => ?_) (fun h7 => ?_)
          · rw [if_pos h7] at hm
            refine XW.bk B [(52, .aload_n 0), (53, .iload_n 1), (54, .iload_n 2), (55, .bipush 10), (57, .idiv), (58, .iload_n 2), (59, .bipush 10), (61, .irem)] (by decide +kernel) (pc1 := 62) (ls1 := [some (aR 0 0), some (aI x1), some (aI x2)]) (st1 := [aI (x2 - (x2 / (10 : Int32)) * (10 : Int32)), aI (x2 / (10 : Int32)), aI x1, aR 0 0]) (σ1 := σ) (P := [¬ (10 : Int32) = 0, ¬ (10 : Int32) = 0]) rfl ⟨(by decide), (by decide), trivial⟩ ?_
            obtain ⟨q8, hq8, hm⟩ := obind_eq hm
            refine XW.callV B (M := M_X11_firstFalse) (t := 0) (j := 0) (cn := 1) (as := [aI x1, aI (x2 / (10 : Int32)), aI (x2 - (x2 / (10 : Int32)) * (10 : Int32))]) (c_X11_firstFalse x1 (x2 / (10 : Int32)) (x2 - (x2 / (10 : Int32)) * (10 : Int32)) σ hq8) (by decide) wV_X11_firstFalse wN_X11_firstFalse lk_X11_275 rfl rfl rfl (by decide) rfl (Nat.le_of_ble_eq_true rfl) (by decide +kernel) ?_
            obtain ⟨rfl, rfl⟩ := Prod.mk.inj (Option.some.inj hm)
            exact XW.iret B q (by decide +kernel)
          · rw [if_neg h7] at hm
            refine XW.bk B [(44, .aload_n 0), (45, .iload_n 1)] (by decide +kernel) (pc1 := 46) (ls1 := [some (aR 0 0), some (aI x1), some (aI x2)]) (st1 := [aI x1, aR 0 0]) (σ1 := σ) (P := []) rfl trivial ?_
            obtain ⟨q9, hq9, hm⟩ := obind_eq hm
            refine XW.callV B (M := M_X11_walkIs) (t := 0) (j := 0) (cn := 1) (as := [aI x1]) (c_X11_walkIs x1 σ hq9) (by decide) wV_X11_walkIs wN_X11_walkIs lk_X11_224 rfl rfl rfl (by decide) rfl (Nat.le_of_ble_eq_true rfl) (by decide +kernel) ?_
            refine XW.bk B [(49, .goto 16)] (by decide +kernel) (pc1 := 65) (ls1 := [some (aR 0 0), some (aI x1), some (aI x2)]) (st1 := [aI q9]) (σ1 := σ) (P := []) rfl trivial ?_
            obtain ⟨rfl, rfl⟩ := Prod.mk.inj (Option.some.inj hm)
            exact XW.iret B q (by decide +kernel)

def L_X11_drawn_82 : Nat → Int32 → Int32 → Int32 → Int32 → Int32 → Int32 → Int32 → Int32 → Int32 → SS → Option (Int32 × Int32 × Int32 × SS)
  | 0, _, _, _, _, _, _, _, _, _, _ => none
  | n + 1, v2, v3, v4, v5, v6, v7, v8, v9, v10, σ =>
    if (σ.1 0 0 6) ≤ v10 then
      some (v4, v6, v9, σ)
    else
    if v9 = (0 : Int32) then
      some (v4, v6, v9, σ)
    else
    if ((60 : Int32) + v10) < 0 ∨ 88 ≤ ((60 : Int32) + v10).toNatClampNeg then none else
    if ((((v4 * (1103515245 : Int32)) + (12345 : Int32)).toUInt32 >>> ((8 : Int32).toUInt32 &&& Int32.toUInt32 31)).toInt32 - ((((v4 * (1103515245 : Int32)) + (12345 : Int32)).toUInt32 >>> ((8 : Int32).toUInt32 &&& Int32.toUInt32 31)).toInt32 / (12 : Int32)) * (12 : Int32)) < (σ.2.1 1 0 ((60 : Int32) + v10).toNatClampNeg) then
      L_X11_drawn_82 n v2 v3 ((v4 * (1103515245 : Int32)) + (12345 : Int32)) v5 (v6 + (0 : Int32)) v7 v8 (0 : Int32) (v10 + (1 : Int32)) σ
    else
    Option.bind (m_X11_strainAt v10 (v2 - (v2 / (10 : Int32)) * (10 : Int32)) (((7 : Int32) * v7) + v10) σ) (fun q12 =>
    if (m_X11_bears q12.2) < (v8 + q12.1) then
      L_X11_drawn_82 n v2 v3 ((v4 * (1103515245 : Int32)) + (12345 : Int32)) v5 (v6 + (0 : Int32)) v7 (v8 + q12.1) (0 : Int32) (v10 + (1 : Int32)) q12.2
    else
    L_X11_drawn_82 n v2 v3 ((v4 * (1103515245 : Int32)) + (12345 : Int32)) v5 (v6 + (1 : Int32)) v7 (v8 + q12.1) (1 : Int32) (v10 + (1 : Int32)) q12.2)
def L_X11_drawn_64 : Nat → Int32 → Int32 → Int32 → Int32 → Int32 → Int32 → SS → Option (Int32 × SS)
  | 0, _, _, _, _, _, _, _ => none
  | n + 1, v2, v3, v4, v5, v6, v7, σ =>
    if (v2 / (10 : Int32)) ≤ v7 then
      if v3 = (0 : Int32) then
        some (v5, σ)
      else
      some (v6, σ)
    else
    Option.bind (L_X11_drawn_82 FU v2 v3 v4 v5 v6 v7 (0 : Int32) (1 : Int32) (0 : Int32) σ) (fun q14 =>
    if q14.2.2.1 = (0 : Int32) then
      L_X11_drawn_64 n v2 v3 q14.1 (v5 + (0 : Int32)) q14.2.1 (v7 + (1 : Int32)) q14.2.2.2
    else
    L_X11_drawn_64 n v2 v3 q14.1 (v5 + (1 : Int32)) q14.2.1 (v7 + (1 : Int32)) q14.2.2.2)
def m_X11_drawn (x1 : Int32) (x2 : Int32) (x3 : Int32) (σ : SS) : Option (Int32 × SS) :=
  if x2 < (0 : Int32) then
    some ((-1 : Int32), σ)
  else
  if (m_X11_within ((x2 / (10 : Int32)).toInt64) (1 : Int64) (30 : Int64)) = (0 : Int32) then
    some ((-1 : Int32), σ)
  else
  if (m_X11_isHeld ((x2 - (x2 / (10 : Int32)) * (10 : Int32)).toInt64)) = (0 : Int32) then
    some ((-1 : Int32), σ)
  else
  if (m_X11_within x3.toInt64 (0 : Int64) (1 : Int64)) = (0 : Int32) then
    some ((-1 : Int32), σ)
  else
  if (σ.1 0 0 6) = (0 : Int32) then
    some ((-5 : Int32), σ)
  else
  L_X11_drawn_64 FU x2 x3 x1 (0 : Int32) (0 : Int32) (0 : Int32) σ
set_option maxRecDepth 100000 in
set_option maxHeartbeats 4000000 in
theorem lp_X11_drawn_82 {Γ : XC} (B : XB Γ cX11_drawn RX11 65 K11 LM 11) : ∀ (n : Nat) (v2 : Int32) (v3 : Int32) (v4 : Int32) (v5 : Int32) (v6 : Int32) (v7 : Int32) (v8 : Int32) (v9 : Int32) (v10 : Int32) (σ : SS) (o : Int32 × Int32 × Int32 × SS), L_X11_drawn_82 n v2 v3 v4 v5 v6 v7 v8 v9 v10 σ = some o → XW Γ 201 [some (aR 0 0), none, some (aI v2), some (aI v3), some (aI o.1), some (aI v5), some (aI o.2.1), some (aI v7), none, some (aI o.2.2.1), none] [] o.2.2.2 → XW Γ 82 [some (aR 0 0), none, some (aI v2), some (aI v3), some (aI v4), some (aI v5), some (aI v6), some (aI v7), some (aI v8), some (aI v9), some (aI v10)] [] σ := by
  intro n
  induction n with
  | zero => intro v2 v3 v4 v5 v6 v7 v8 v9 v10 σ o hm; cases hm
  | succ n ih =>
    intro v2 v3 v4 v5 v6 v7 v8 v9 v10 σ o hm hk
    rw [L_X11_drawn_82] at hm
    refine XW.bb B [(82, .iload 10), (84, .aload_n 0), (85, .getfield 81)] (by decide +kernel) (pc1 := 88) (ls1 := [some (aR 0 0), none, some (aI v2), some (aI v3), some (aI v4), some (aI v5), some (aI v6), some (aI v7), some (aI v8), some (aI v9), some (aI v10)]) (st1 := [aI (σ.1 0 0 6), aI v10]) (σ1 := σ) (P := []) (i := .if_icmp .ge 113) (tgt := 201) (q := (σ.1 0 0 6) ≤ v10) rfl trivial (by decide +kernel) rfl (by decide) (fun h8 => ?_) (fun h8 => ?_)
    · rw [if_pos h8] at hm
      refine XW.loc [true, false, true, true, true, true, true, true, false, true, false] rfl ?_
      obtain rfl := Option.some.inj hm
      exact hk
    · rw [if_neg h8] at hm
      refine XW.bb B [(91, .iload 9)] (by decide +kernel) (pc1 := 93) (ls1 := [some (aR 0 0), none, some (aI v2), some (aI v3), some (aI v4), some (aI v5), some (aI v6), some (aI v7), some (aI v8), some (aI v9), some (aI v10)]) (st1 := [aI v9]) (σ1 := σ) (P := []) (i := .ifCond .eq 108) (tgt := 201) (q := v9 = (0 : Int32)) rfl trivial (by decide +kernel) rfl (by decide) (fun h9 => ?_) (fun h9 => ?_)
      · rw [if_pos h9] at hm
        refine XW.loc [true, false, true, true, true, true, true, true, false, true, false] rfl ?_
        obtain rfl := Option.some.inj hm
        exact hk
      · rw [if_neg h9] at hm
        refine XW.bk B [(96, .iload 4), (98, .ldc_w 278), (101, .imul), (102, .sipush 12345), (105, .iadd), (106, .istore 4), (108, .iload 4), (110, .bipush 8), (112, .iushr), (113, .bipush 12), (115, .irem), (116, .aload_n 0), (117, .getfield 11), (120, .bipush 60), (122, .iload 10), (124, .iadd)] (by decide +kernel) (pc1 := 125) (ls1 := [some (aR 0 0), none, some (aI v2), some (aI v3), some (aI ((v4 * (1103515245 : Int32)) + (12345 : Int32))), some (aI v5), some (aI v6), some (aI v7), some (aI v8), some (aI v9), some (aI v10)]) (st1 := [aI ((60 : Int32) + v10), aR 1 0, aI ((((v4 * (1103515245 : Int32)) + (12345 : Int32)).toUInt32 >>> ((8 : Int32).toUInt32 &&& Int32.toUInt32 31)).toInt32 - ((((v4 * (1103515245 : Int32)) + (12345 : Int32)).toUInt32 >>> ((8 : Int32).toUInt32 &&& Int32.toUInt32 31)).toInt32 / (12 : Int32)) * (12 : Int32))]) (σ1 := σ) (P := [¬ (12 : Int32) = 0]) rfl ⟨(by decide), trivial⟩ ?_
        by_cases g10 : ((60 : Int32) + v10) < 0 ∨ 88 ≤ ((60 : Int32) + v10).toNatClampNeg
        · rw [if_pos g10] at hm; cases hm
        rw [if_neg g10] at hm
        refine XW.bb B [(125, .iaload)] (by decide +kernel) (pc1 := 126) (ls1 := [some (aR 0 0), none, some (aI v2), some (aI v3), some (aI ((v4 * (1103515245 : Int32)) + (12345 : Int32))), some (aI v5), some (aI v6), some (aI v7), some (aI v8), some (aI v9), some (aI v10)]) (st1 := [aI (σ.2.1 1 0 ((60 : Int32) + v10).toNatClampNeg), aI ((((v4 * (1103515245 : Int32)) + (12345 : Int32)).toUInt32 >>> ((8 : Int32).toUInt32 &&& Int32.toUInt32 31)).toInt32 - ((((v4 * (1103515245 : Int32)) + (12345 : Int32)).toUInt32 >>> ((8 : Int32).toUInt32 &&& Int32.toUInt32 31)).toInt32 / (12 : Int32)) * (12 : Int32))]) (σ1 := σ) (P := [vp_in ((60 : Int32) + v10) 88]) (i := .if_icmp .lt 7) (tgt := 133) (q := ((((v4 * (1103515245 : Int32)) + (12345 : Int32)).toUInt32 >>> ((8 : Int32).toUInt32 &&& Int32.toUInt32 31)).toInt32 - ((((v4 * (1103515245 : Int32)) + (12345 : Int32)).toUInt32 >>> ((8 : Int32).toUInt32 &&& Int32.toUInt32 31)).toInt32 / (12 : Int32)) * (12 : Int32)) < (σ.2.1 1 0 ((60 : Int32) + v10).toNatClampNeg)) rfl ⟨g10, trivial⟩ (by decide +kernel) rfl (by decide) (fun h11 => ?_) (fun h11 => ?_)
        · rw [if_pos h11] at hm
          refine XW.bb B [(133, .iconst 0), (134, .istore 9), (136, .iload 9)] (by decide +kernel) (pc1 := 138) (ls1 := [some (aR 0 0), none, some (aI v2), some (aI v3), some (aI ((v4 * (1103515245 : Int32)) + (12345 : Int32))), some (aI v5), some (aI v6), some (aI v7), some (aI v8), some (aI (0 : Int32)), some (aI v10)]) (st1 := [aI (0 : Int32)]) (σ1 := σ) (P := []) (i := .ifCond .eq 42) (tgt := 180) (q := (0 : Int32) = (0 : Int32)) rfl trivial (by decide +kernel) rfl (by decide) (fun _ => ?_) (fun h => absurd (by decide) h)
          refine XW.bb B [(180, .iload 6), (182, .iload 9)] (by decide +kernel) (pc1 := 184) (ls1 := [some (aR 0 0), none, some (aI v2), some (aI v3), some (aI ((v4 * (1103515245 : Int32)) + (12345 : Int32))), some (aI v5), some (aI v6), some (aI v7), some (aI v8), some (aI (0 : Int32)), some (aI v10)]) (st1 := [aI (0 : Int32), aI v6]) (σ1 := σ) (P := []) (i := .ifCond .eq 7) (tgt := 191) (q := (0 : Int32) = (0 : Int32)) rfl trivial (by decide +kernel) rfl (by decide) (fun _ => ?_) (fun h => absurd (by decide) h)
          refine XW.bk B [(191, .iconst 0), (192, .iadd), (193, .istore 6), (195, .iinc 10 1), (198, .goto (-116))] (by decide +kernel) (pc1 := 82) (ls1 := [some (aR 0 0), none, some (aI v2), some (aI v3), some (aI ((v4 * (1103515245 : Int32)) + (12345 : Int32))), some (aI v5), some (aI (v6 + (0 : Int32))), some (aI v7), some (aI v8), some (aI (0 : Int32)), some (aI (v10 + (1 : Int32)))]) (st1 := []) (σ1 := σ) (P := []) rfl trivial ?_
          exact ih v2 v3 ((v4 * (1103515245 : Int32)) + (12345 : Int32)) v5 (v6 + (0 : Int32)) v7 v8 (0 : Int32) (v10 + (1 : Int32)) σ _ hm hk
        · rw [if_neg h11] at hm
          refine XW.bb B [(129, .iconst 1), (130, .goto 4), (134, .istore 9), (136, .iload 9)] (by decide +kernel) (pc1 := 138) (ls1 := [some (aR 0 0), none, some (aI v2), some (aI v3), some (aI ((v4 * (1103515245 : Int32)) + (12345 : Int32))), some (aI v5), some (aI v6), some (aI v7), some (aI v8), some (aI (1 : Int32)), some (aI v10)]) (st1 := [aI (1 : Int32)]) (σ1 := σ) (P := []) (i := .ifCond .eq 42) (tgt := 180) (q := (1 : Int32) = (0 : Int32)) rfl trivial (by decide +kernel) rfl (by decide) (fun h => absurd h (by decide)) (fun _ => ?_)
          refine XW.bk B [(141, .iload 8), (143, .aload_n 0), (144, .iload 10), (146, .iload_n 2), (147, .bipush 10), (149, .irem), (150, .bipush 7), (152, .iload 7), (154, .imul), (155, .iload 10), (157, .iadd)] (by decide +kernel) (pc1 := 158) (ls1 := [some (aR 0 0), none, some (aI v2), some (aI v3), some (aI ((v4 * (1103515245 : Int32)) + (12345 : Int32))), some (aI v5), some (aI v6), some (aI v7), some (aI v8), some (aI (1 : Int32)), some (aI v10)]) (st1 := [aI (((7 : Int32) * v7) + v10), aI (v2 - (v2 / (10 : Int32)) * (10 : Int32)), aI v10, aR 0 0, aI v8]) (σ1 := σ) (P := [¬ (10 : Int32) = 0]) rfl ⟨(by decide), trivial⟩ ?_
          obtain ⟨q12, hq12, hm⟩ := obind_eq hm
          refine XW.callV B (M := M_X11_strainAt) (t := 0) (j := 0) (cn := 1) (as := [aI v10, aI (v2 - (v2 / (10 : Int32)) * (10 : Int32)), aI (((7 : Int32) * v7) + v10)]) (c_X11_strainAt v10 (v2 - (v2 / (10 : Int32)) * (10 : Int32)) (((7 : Int32) * v7) + v10) σ hq12) (by decide) wV_X11_strainAt wN_X11_strainAt lk_X11_200 rfl rfl rfl (by decide) rfl (Nat.le_of_ble_eq_true rfl) (by decide +kernel) ?_
          refine XW.bk B [(161, .iadd), (162, .istore 8), (164, .iload 8), (166, .aload_n 0)] (by decide +kernel) (pc1 := 167) (ls1 := [some (aR 0 0), none, some (aI v2), some (aI v3), some (aI ((v4 * (1103515245 : Int32)) + (12345 : Int32))), some (aI v5), some (aI v6), some (aI v7), some (aI (v8 + q12.1)), some (aI (1 : Int32)), some (aI v10)]) (st1 := [aR 0 0, aI (v8 + q12.1)]) (σ1 := q12.2) (P := []) rfl trivial ?_
          refine XW.callV B (M := M_X11_bears) (t := 0) (j := 0) (cn := 1) (as := []) (c_X11_bears q12.2 rfl) (by decide) wV_X11_bears wN_X11_bears lk_X11_216 rfl rfl rfl (by decide) rfl (Nat.le_of_ble_eq_true rfl) (by decide +kernel) ?_
          refine XW.bb B [] (by decide +kernel) (pc1 := 170) (ls1 := [some (aR 0 0), none, some (aI v2), some (aI v3), some (aI ((v4 * (1103515245 : Int32)) + (12345 : Int32))), some (aI v5), some (aI v6), some (aI v7), some (aI (v8 + q12.1)), some (aI (1 : Int32)), some (aI v10)]) (st1 := [aI (m_X11_bears q12.2), aI (v8 + q12.1)]) (σ1 := q12.2) (P := []) (i := .if_icmp .gt 7) (tgt := 177) (q := (m_X11_bears q12.2) < (v8 + q12.1)) rfl trivial (by decide +kernel) rfl (by decide) (fun h13 => ?_) (fun h13 => ?_)
          · rw [if_pos h13] at hm
            refine XW.bb B [(177, .iconst 0), (178, .istore 9), (180, .iload 6), (182, .iload 9)] (by decide +kernel) (pc1 := 184) (ls1 := [some (aR 0 0), none, some (aI v2), some (aI v3), some (aI ((v4 * (1103515245 : Int32)) + (12345 : Int32))), some (aI v5), some (aI v6), some (aI v7), some (aI (v8 + q12.1)), some (aI (0 : Int32)), some (aI v10)]) (st1 := [aI (0 : Int32), aI v6]) (σ1 := q12.2) (P := []) (i := .ifCond .eq 7) (tgt := 191) (q := (0 : Int32) = (0 : Int32)) rfl trivial (by decide +kernel) rfl (by decide) (fun _ => ?_) (fun h => absurd (by decide) h)
            refine XW.bk B [(191, .iconst 0), (192, .iadd), (193, .istore 6), (195, .iinc 10 1), (198, .goto (-116))] (by decide +kernel) (pc1 := 82) (ls1 := [some (aR 0 0), none, some (aI v2), some (aI v3), some (aI ((v4 * (1103515245 : Int32)) + (12345 : Int32))), some (aI v5), some (aI (v6 + (0 : Int32))), some (aI v7), some (aI (v8 + q12.1)), some (aI (0 : Int32)), some (aI (v10 + (1 : Int32)))]) (st1 := []) (σ1 := q12.2) (P := []) rfl trivial ?_
            exact ih v2 v3 ((v4 * (1103515245 : Int32)) + (12345 : Int32)) v5 (v6 + (0 : Int32)) v7 (v8 + q12.1) (0 : Int32) (v10 + (1 : Int32)) q12.2 _ hm hk
          · rw [if_neg h13] at hm
            refine XW.bb B [(173, .iconst 1), (174, .goto 4), (178, .istore 9), (180, .iload 6), (182, .iload 9)] (by decide +kernel) (pc1 := 184) (ls1 := [some (aR 0 0), none, some (aI v2), some (aI v3), some (aI ((v4 * (1103515245 : Int32)) + (12345 : Int32))), some (aI v5), some (aI v6), some (aI v7), some (aI (v8 + q12.1)), some (aI (1 : Int32)), some (aI v10)]) (st1 := [aI (1 : Int32), aI v6]) (σ1 := q12.2) (P := []) (i := .ifCond .eq 7) (tgt := 191) (q := (1 : Int32) = (0 : Int32)) rfl trivial (by decide +kernel) rfl (by decide) (fun h => absurd h (by decide)) (fun _ => ?_)
            refine XW.bk B [(187, .iconst 1), (188, .goto 4), (192, .iadd), (193, .istore 6), (195, .iinc 10 1), (198, .goto (-116))] (by decide +kernel) (pc1 := 82) (ls1 := [some (aR 0 0), none, some (aI v2), some (aI v3), some (aI ((v4 * (1103515245 : Int32)) + (12345 : Int32))), some (aI v5), some (aI (v6 + (1 : Int32))), some (aI v7), some (aI (v8 + q12.1)), some (aI (1 : Int32)), some (aI (v10 + (1 : Int32)))]) (st1 := []) (σ1 := q12.2) (P := []) rfl trivial ?_
            exact ih v2 v3 ((v4 * (1103515245 : Int32)) + (12345 : Int32)) v5 (v6 + (1 : Int32)) v7 (v8 + q12.1) (1 : Int32) (v10 + (1 : Int32)) q12.2 _ hm hk
set_option maxRecDepth 100000 in
set_option maxHeartbeats 4000000 in
theorem lp_X11_drawn_64 {Γ : XC} {r : Int32} {σ' : SS} (B : XB Γ cX11_drawn RX11 65 K11 LM 11) (q : XQ Γ (some .int) (some (aI r)) σ') : ∀ (n : Nat) (v2 : Int32) (v3 : Int32) (v4 : Int32) (v5 : Int32) (v6 : Int32) (v7 : Int32) (σ : SS), L_X11_drawn_64 n v2 v3 v4 v5 v6 v7 σ = some (r, σ') → XW Γ 64 [some (aR 0 0), none, some (aI v2), some (aI v3), some (aI v4), some (aI v5), some (aI v6), some (aI v7), none, none, none] [] σ := by
  intro n
  induction n with
  | zero => intro v2 v3 v4 v5 v6 v7 σ hm; cases hm
  | succ n ih =>
    intro v2 v3 v4 v5 v6 v7 σ hm
    rw [L_X11_drawn_64] at hm
    refine XW.bb B [(64, .iload 7), (66, .iload_n 2), (67, .bipush 10), (69, .idiv)] (by decide +kernel) (pc1 := 70) (ls1 := [some (aR 0 0), none, some (aI v2), some (aI v3), some (aI v4), some (aI v5), some (aI v6), some (aI v7), none, none, none]) (st1 := [aI (v2 / (10 : Int32)), aI v7]) (σ1 := σ) (P := [¬ (10 : Int32) = 0]) (i := .if_icmp .ge 152) (tgt := 222) (q := (v2 / (10 : Int32)) ≤ v7) rfl ⟨(by decide), trivial⟩ (by decide +kernel) rfl (by decide) (fun h6 => ?_) (fun h6 => ?_)
    · rw [if_pos h6] at hm
      refine XW.bn B [(222, .iload_n 3)] (by decide +kernel) (pc1 := 223) (ls1 := [some (aR 0 0), none, some (aI v2), some (aI v3), some (aI v4), some (aI v5), some (aI v6), some (aI v7), none, none, none]) (st1 := [aI v3]) (σ1 := σ) (P := []) (i := .ifCond .ne 8) (tgt := 231) (q := v3 = (0 : Int32)) rfl trivial (by decide +kernel) rfl (by decide) (fun h7 => ?_) (fun h7 => ?_)
      · rw [if_pos h7] at hm
        refine XW.bk B [(226, .iload 5), (228, .goto 5)] (by decide +kernel) (pc1 := 233) (ls1 := [some (aR 0 0), none, some (aI v2), some (aI v3), some (aI v4), some (aI v5), some (aI v6), some (aI v7), none, none, none]) (st1 := [aI v5]) (σ1 := σ) (P := []) rfl trivial ?_
        obtain ⟨rfl, rfl⟩ := Prod.mk.inj (Option.some.inj hm)
        exact XW.iret B q (by decide +kernel)
      · rw [if_neg h7] at hm
        refine XW.bk B [(231, .iload 6)] (by decide +kernel) (pc1 := 233) (ls1 := [some (aR 0 0), none, some (aI v2), some (aI v3), some (aI v4), some (aI v5), some (aI v6), some (aI v7), none, none, none]) (st1 := [aI v6]) (σ1 := σ) (P := []) rfl trivial ?_
        obtain ⟨rfl, rfl⟩ := Prod.mk.inj (Option.some.inj hm)
        exact XW.iret B q (by decide +kernel)
    · rw [if_neg h6] at hm
      refine XW.bk B [(73, .iconst 0), (74, .istore 8), (76, .iconst 1), (77, .istore 9), (79, .iconst 0), (80, .istore 10)] (by decide +kernel) (pc1 := 82) (ls1 := [some (aR 0 0), none, some (aI v2), some (aI v3), some (aI v4), some (aI v5), some (aI v6), some (aI v7), some (aI (0 : Int32)), some (aI (1 : Int32)), some (aI (0 : Int32))]) (st1 := []) (σ1 := σ) (P := []) rfl trivial ?_
      obtain ⟨q14, hq14, hm⟩ := obind_eq hm
      refine lp_X11_drawn_82 B FU v2 v3 v4 v5 v6 v7 (0 : Int32) (1 : Int32) (0 : Int32) σ _ hq14 ?_
      refine XW.bb B [(201, .iload 5), (203, .iload 9)] (by decide +kernel) (pc1 := 205) (ls1 := [some (aR 0 0), none, some (aI v2), some (aI v3), some (aI q14.1), some (aI v5), some (aI q14.2.1), some (aI v7), none, some (aI q14.2.2.1), none]) (st1 := [aI q14.2.2.1, aI v5]) (σ1 := q14.2.2.2) (P := []) (i := .ifCond .eq 7) (tgt := 212) (q := q14.2.2.1 = (0 : Int32)) rfl trivial (by decide +kernel) rfl (by decide) (fun h15 => ?_) (fun h15 => ?_)
      · rw [if_pos h15] at hm
        refine XW.bk B [(212, .iconst 0), (213, .iadd), (214, .istore 5), (216, .iinc 7 1), (219, .goto (-155))] (by decide +kernel) (pc1 := 64) (ls1 := [some (aR 0 0), none, some (aI v2), some (aI v3), some (aI q14.1), some (aI (v5 + (0 : Int32))), some (aI q14.2.1), some (aI (v7 + (1 : Int32))), none, some (aI q14.2.2.1), none]) (st1 := []) (σ1 := q14.2.2.2) (P := []) rfl trivial ?_
        refine XW.loc [true, false, true, true, true, true, true, true, false, false, false] rfl ?_
        exact ih v2 v3 q14.1 (v5 + (0 : Int32)) q14.2.1 (v7 + (1 : Int32)) q14.2.2.2 hm
      · rw [if_neg h15] at hm
        refine XW.bk B [(208, .iconst 1), (209, .goto 4), (213, .iadd), (214, .istore 5), (216, .iinc 7 1), (219, .goto (-155))] (by decide +kernel) (pc1 := 64) (ls1 := [some (aR 0 0), none, some (aI v2), some (aI v3), some (aI q14.1), some (aI (v5 + (1 : Int32))), some (aI q14.2.1), some (aI (v7 + (1 : Int32))), none, some (aI q14.2.2.1), none]) (st1 := []) (σ1 := q14.2.2.2) (P := []) rfl trivial ?_
        refine XW.loc [true, false, true, true, true, true, true, true, false, false, false] rfl ?_
        exact ih v2 v3 q14.1 (v5 + (1 : Int32)) q14.2.1 (v7 + (1 : Int32)) q14.2.2.2 hm
set_option maxRecDepth 100000 in
set_option maxHeartbeats 4000000 in
theorem c_X11_drawn (x1 : Int32) (x2 : Int32) (x3 : Int32) (σ : SS) {r : Int32} {σ' : SS} (hm : m_X11_drawn x1 x2 x3 σ = some (r, σ')) : XM LM 65 M_X11_drawn [aR 0 0, aI x1, aI x2, aI x3] σ (some (aI r)) σ' := by
  refine XM.of (K := K11) (by decide) (by decide +kernel) K11_ok (Nat.le_of_ble_eq_true rfl) (fun Γ B q => ?_)
  unfold m_X11_drawn at hm
  refine XW.bb B [(0, .iload_n 2)] (by decide +kernel) (pc1 := 1) (ls1 := [some (aR 0 0), some (aI x1), some (aI x2), some (aI x3), none, none, none, none, none, none, none]) (st1 := [aI x2]) (σ1 := σ) (P := []) (i := .ifCond .lt 39) (tgt := 40) (q := x2 < (0 : Int32)) rfl trivial (by decide +kernel) rfl (by decide) (fun h1 => ?_) (fun h1 => ?_)
  · rw [if_pos h1] at hm
    refine XW.bk B [(40, .iconst (-1))] (by decide +kernel) (pc1 := 41) (ls1 := [some (aR 0 0), some (aI x1), some (aI x2), some (aI x3), none, none, none, none, none, none, none]) (st1 := [aI (-1 : Int32)]) (σ1 := σ) (P := []) rfl trivial ?_
    obtain ⟨rfl, rfl⟩ := Prod.mk.inj (Option.some.inj hm)
    exact XW.iret B q (by decide +kernel)
  · rw [if_neg h1] at hm
    refine XW.bk B [(4, .iload_n 2), (5, .bipush 10), (7, .idiv), (8, .i2l), (9, .lconst 1), (10, .ldc2_w 92)] (by decide +kernel) (pc1 := 13) (ls1 := [some (aR 0 0), some (aI x1), some (aI x2), some (aI x3), none, none, none, none, none, none, none]) (st1 := [aJ (30 : Int64), aJ (1 : Int64), aJ ((x2 / (10 : Int32)).toInt64)]) (σ1 := σ) (P := [¬ (10 : Int32) = 0]) rfl ⟨(by decide), trivial⟩ ?_
    refine XW.callS B (M := M_X11_within) (as := [aJ ((x2 / (10 : Int32)).toInt64), aJ (1 : Int64), aJ (30 : Int64)]) (c_X11_within ((x2 / (10 : Int32)).toInt64) (1 : Int64) (30 : Int64) σ rfl) (by decide) wS_X11_within wN_X11_within lk_X11_84 rfl (Nat.le_of_ble_eq_true rfl) (by decide +kernel) ?_
    refine XW.bb B [] (by decide +kernel) (pc1 := 16) (ls1 := [some (aR 0 0), some (aI x1), some (aI x2), some (aI x3), none, none, none, none, none, none, none]) (st1 := [aI (m_X11_within ((x2 / (10 : Int32)).toInt64) (1 : Int64) (30 : Int64))]) (σ1 := σ) (P := []) (i := .ifCond .eq 24) (tgt := 40) (q := (m_X11_within ((x2 / (10 : Int32)).toInt64) (1 : Int64) (30 : Int64)) = (0 : Int32)) rfl trivial (by decide +kernel) rfl (by decide) (fun h2 => ?_) (fun h2 => ?_)
    · rw [if_pos h2] at hm
      refine XW.bk B [(40, .iconst (-1))] (by decide +kernel) (pc1 := 41) (ls1 := [some (aR 0 0), some (aI x1), some (aI x2), some (aI x3), none, none, none, none, none, none, none]) (st1 := [aI (-1 : Int32)]) (σ1 := σ) (P := []) rfl trivial ?_
      obtain ⟨rfl, rfl⟩ := Prod.mk.inj (Option.some.inj hm)
      exact XW.iret B q (by decide +kernel)
    · rw [if_neg h2] at hm
      refine XW.bk B [(19, .iload_n 2), (20, .bipush 10), (22, .irem), (23, .i2l)] (by decide +kernel) (pc1 := 24) (ls1 := [some (aR 0 0), some (aI x1), some (aI x2), some (aI x3), none, none, none, none, none, none, none]) (st1 := [aJ ((x2 - (x2 / (10 : Int32)) * (10 : Int32)).toInt64)]) (σ1 := σ) (P := [¬ (10 : Int32) = 0]) rfl ⟨(by decide), trivial⟩ ?_
      refine XW.callS B (M := M_X11_isHeld) (as := [aJ ((x2 - (x2 / (10 : Int32)) * (10 : Int32)).toInt64)]) (c_X11_isHeld ((x2 - (x2 / (10 : Int32)) * (10 : Int32)).toInt64) σ rfl) (by decide) wS_X11_isHeld wN_X11_isHeld lk_X11_120 rfl (Nat.le_of_ble_eq_true rfl) (by decide +kernel) ?_
      refine XW.bb B [] (by decide +kernel) (pc1 := 27) (ls1 := [some (aR 0 0), some (aI x1), some (aI x2), some (aI x3), none, none, none, none, none, none, none]) (st1 := [aI (m_X11_isHeld ((x2 - (x2 / (10 : Int32)) * (10 : Int32)).toInt64))]) (σ1 := σ) (P := []) (i := .ifCond .eq 13) (tgt := 40) (q := (m_X11_isHeld ((x2 - (x2 / (10 : Int32)) * (10 : Int32)).toInt64)) = (0 : Int32)) rfl trivial (by decide +kernel) rfl (by decide) (fun h3 => ?_) (fun h3 => ?_)
      · rw [if_pos h3] at hm
        refine XW.bk B [(40, .iconst (-1))] (by decide +kernel) (pc1 := 41) (ls1 := [some (aR 0 0), some (aI x1), some (aI x2), some (aI x3), none, none, none, none, none, none, none]) (st1 := [aI (-1 : Int32)]) (σ1 := σ) (P := []) rfl trivial ?_
        obtain ⟨rfl, rfl⟩ := Prod.mk.inj (Option.some.inj hm)
        exact XW.iret B q (by decide +kernel)
      · rw [if_neg h3] at hm
        refine XW.bk B [(30, .iload_n 3), (31, .i2l), (32, .lconst 0), (33, .lconst 1)] (by decide +kernel) (pc1 := 34) (ls1 := [some (aR 0 0), some (aI x1), some (aI x2), some (aI x3), none, none, none, none, none, none, none]) (st1 := [aJ (1 : Int64), aJ (0 : Int64), aJ x3.toInt64]) (σ1 := σ) (P := []) rfl trivial ?_
        refine XW.callS B (M := M_X11_within) (as := [aJ x3.toInt64, aJ (0 : Int64), aJ (1 : Int64)]) (c_X11_within x3.toInt64 (0 : Int64) (1 : Int64) σ rfl) (by decide) wS_X11_within wN_X11_within lk_X11_84 rfl (Nat.le_of_ble_eq_true rfl) (by decide +kernel) ?_
        refine XW.bn B [] (by decide +kernel) (pc1 := 37) (ls1 := [some (aR 0 0), some (aI x1), some (aI x2), some (aI x3), none, none, none, none, none, none, none]) (st1 := [aI (m_X11_within x3.toInt64 (0 : Int64) (1 : Int64))]) (σ1 := σ) (P := []) (i := .ifCond .ne 5) (tgt := 42) (q := (m_X11_within x3.toInt64 (0 : Int64) (1 : Int64)) = (0 : Int32)) rfl trivial (by decide +kernel) rfl (by decide) (fun h4 => ?_) (fun h4 => ?_)
        · rw [if_pos h4] at hm
          refine XW.bk B [(40, .iconst (-1))] (by decide +kernel) (pc1 := 41) (ls1 := [some (aR 0 0), some (aI x1), some (aI x2), some (aI x3), none, none, none, none, none, none, none]) (st1 := [aI (-1 : Int32)]) (σ1 := σ) (P := []) rfl trivial ?_
          obtain ⟨rfl, rfl⟩ := Prod.mk.inj (Option.some.inj hm)
          exact XW.iret B q (by decide +kernel)
        · rw [if_neg h4] at hm
          refine XW.bn B [(42, .aload_n 0), (43, .getfield 81)] (by decide +kernel) (pc1 := 46) (ls1 := [some (aR 0 0), some (aI x1), some (aI x2), some (aI x3), none, none, none, none, none, none, none]) (st1 := [aI (σ.1 0 0 6)]) (σ1 := σ) (P := []) (i := .ifCond .ne 6) (tgt := 52) (q := (σ.1 0 0 6) = (0 : Int32)) rfl trivial (by decide +kernel) rfl (by decide) (fun h5 => ?_) (fun h5 => ?_)
          · rw [if_pos h5] at hm
            refine XW.bk B [(49, .bipush (-5))] (by decide +kernel) (pc1 := 51) (ls1 := [some (aR 0 0), some (aI x1), some (aI x2), some (aI x3), none, none, none, none, none, none, none]) (st1 := [aI (-5 : Int32)]) (σ1 := σ) (P := []) rfl trivial ?_
            obtain ⟨rfl, rfl⟩ := Prod.mk.inj (Option.some.inj hm)
            exact XW.iret B q (by decide +kernel)
          · rw [if_neg h5] at hm
            refine XW.bk B [(52, .iload_n 1), (53, .istore 4), (55, .iconst 0), (56, .istore 5), (58, .iconst 0), (59, .istore 6), (61, .iconst 0), (62, .istore 7)] (by decide +kernel) (pc1 := 64) (ls1 := [some (aR 0 0), some (aI x1), some (aI x2), some (aI x3), some (aI x1), some (aI (0 : Int32)), some (aI (0 : Int32)), some (aI (0 : Int32)), none, none, none]) (st1 := []) (σ1 := σ) (P := []) rfl trivial ?_
            refine XW.loc [true, false, true, true, true, true, true, true, false, false, false] rfl ?_
            exact lp_X11_drawn_64 B q FU x2 x3 x1 (0 : Int32) (0 : Int32) (0 : Int32) σ hm
