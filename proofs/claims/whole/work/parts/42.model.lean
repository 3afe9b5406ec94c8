def L_X11_walks_17 : Nat → Int32 → Int32 → Int32 → Int32 → Int32 → SS → Option (SS)
  | 0, _, _, _, _, _, _ => none
  | n + 1, v1, v2, v3, v4, v5, σ =>
    if (σ.1 0 0 6) ≤ v5 then
      some σ
    else
    Option.bind (m_X11_heldBy v1 v5 σ) (fun q2 =>
    Option.bind (m_X11_strainAt v5 q2 ((v3 + v5) - v2) σ) (fun q3 =>
    if v5 ≤ v2 then
      if (0 : Int32) ≤ (q3.2.1 0 0 18) then
        L_X11_walks_17 n v1 v2 v3 (v4 + (q3.1 + (0 : Int32))) (v5 + (1 : Int32)) (sI (sI q3.2 0 0 18 (q3.2.1 0 0 18)) 0 0 19 (v4 + (q3.1 + (0 : Int32))))
      else
      if (v4 + (q3.1 + (0 : Int32))) ≤ (m_X11_bears q3.2) then
        L_X11_walks_17 n v1 v2 v3 (v4 + (q3.1 + (0 : Int32))) (v5 + (1 : Int32)) (sI (sI q3.2 0 0 18 (q3.2.1 0 0 18)) 0 0 19 (v4 + (q3.1 + (0 : Int32))))
      else
      L_X11_walks_17 n v1 v2 v3 (v4 + (q3.1 + (0 : Int32))) (v5 + (1 : Int32)) (sI (sI q3.2 0 0 18 v5) 0 0 19 (v4 + (q3.1 + (0 : Int32))))
    else
    Option.bind (m_X11_heldBy v1 (v5 - (1 : Int32)) q3.2) (fun q7 =>
    if q2 = q7 then
      if (0 : Int32) ≤ (q3.2.1 0 0 18) then
        L_X11_walks_17 n v1 v2 v3 (v4 + (q3.1 + (0 : Int32))) (v5 + (1 : Int32)) (sI (sI q3.2 0 0 18 (q3.2.1 0 0 18)) 0 0 19 (v4 + (q3.1 + (0 : Int32))))
      else
      if (v4 + (q3.1 + (0 : Int32))) ≤ (m_X11_bears q3.2) then
        L_X11_walks_17 n v1 v2 v3 (v4 + (q3.1 + (0 : Int32))) (v5 + (1 : Int32)) (sI (sI q3.2 0 0 18 (q3.2.1 0 0 18)) 0 0 19 (v4 + (q3.1 + (0 : Int32))))
      else
      L_X11_walks_17 n v1 v2 v3 (v4 + (q3.1 + (0 : Int32))) (v5 + (1 : Int32)) (sI (sI q3.2 0 0 18 v5) 0 0 19 (v4 + (q3.1 + (0 : Int32))))
    else
    if (0 : Int32) ≤ (q3.2.1 0 0 18) then
      L_X11_walks_17 n v1 v2 v3 (v4 + (q3.1 + (1 : Int32))) (v5 + (1 : Int32)) (sI (sI q3.2 0 0 18 (q3.2.1 0 0 18)) 0 0 19 (v4 + (q3.1 + (1 : Int32))))
    else
    if (v4 + (q3.1 + (1 : Int32))) ≤ (m_X11_bears q3.2) then
      L_X11_walks_17 n v1 v2 v3 (v4 + (q3.1 + (1 : Int32))) (v5 + (1 : Int32)) (sI (sI q3.2 0 0 18 (q3.2.1 0 0 18)) 0 0 19 (v4 + (q3.1 + (1 : Int32))))
    else
    L_X11_walks_17 n v1 v2 v3 (v4 + (q3.1 + (1 : Int32))) (v5 + (1 : Int32)) (sI (sI q3.2 0 0 18 v5) 0 0 19 (v4 + (q3.1 + (1 : Int32)))))))
def m_X11_walks (x1 : Int32) (x2 : Int32) (x3 : Int32) (σ : SS) : Option (SS) :=
  L_X11_walks_17 FU x1 x2 x3 (0 : Int32) x2 (sI (sI σ 0 0 18 (-2 : Int32)) 0 0 19 (0 : Int32))
set_option maxRecDepth 100000 in
set_option maxHeartbeats 4000000 in
theorem lp_X11_walks_17 {Γ : XC} {σ' : SS} (B : XB Γ cX11_walks RX11 65 K11 LM 7) (q : XQ Γ (none) none σ') : ∀ (n : Nat) (v1 : Int32) (v2 : Int32) (v3 : Int32) (v4 : Int32) (v5 : Int32) (σ : SS), L_X11_walks_17 n v1 v2 v3 v4 v5 σ = some σ' → XW Γ 17 [some (aR 0 0), some (aI v1), some (aI v2), some (aI v3), some (aI v4), some (aI v5), none] [] σ := by
  intro n
  induction n with
  | zero => intro v1 v2 v3 v4 v5 σ hm; cases hm
  | succ n ih =>
    intro v1 v2 v3 v4 v5 σ hm
    rw [L_X11_walks_17] at hm
    refine XW.bb B [(17, .iload 5), (19, .aload_n 0), (20, .getfield 81)] (by decide +kernel) (pc1 := 23) (ls1 := [some (aR 0 0), some (aI v1), some (aI v2), some (aI v3), some (aI v4), some (aI v5), none]) (st1 := [aI (σ.1 0 0 6), aI v5]) (σ1 := σ) (P := []) (i := .if_icmp .ge 98) (tgt := 121) (q := (σ.1 0 0 6) ≤ v5) rfl trivial (by decide +kernel) rfl (by decide) (fun h1 => ?_) (fun h1 => ?_)
    · rw [if_pos h1] at hm
      obtain rfl := Option.some.inj hm
      exact XW.vret B q (by decide +kernel)
    · rw [if_neg h1] at hm
      refine XW.bk B [(26, .aload_n 0), (27, .iload_n 1), (28, .iload 5)] (by decide +kernel) (pc1 := 30) (ls1 := [some (aR 0 0), some (aI v1), some (aI v2), some (aI v3), some (aI v4), some (aI v5), none]) (st1 := [aI v5, aI v1, aR 0 0]) (σ1 := σ) (P := []) rfl trivial ?_
      obtain ⟨q2, hq2, hm⟩ := obind_eq hm
      refine XW.callV B (M := M_X11_heldBy) (t := 0) (j := 0) (cn := 1) (as := [aI v1, aI v5]) (c_X11_heldBy v1 v5 σ hq2) (by decide) wV_X11_heldBy wN_X11_heldBy lk_X11_213 rfl rfl rfl (by decide) rfl (Nat.le_of_ble_eq_true rfl) (by decide +kernel) ?_
      refine XW.bk B [(33, .istore 6), (35, .iload 4), (37, .aload_n 0), (38, .iload 5), (40, .iload 6), (42, .iload_n 3), (43, .iload 5), (45, .iadd), (46, .iload_n 2), (47, .isub)] (by decide +kernel) (pc1 := 48) (ls1 := [some (aR 0 0), some (aI v1), some (aI v2), some (aI v3), some (aI v4), some (aI v5), some (aI q2)]) (st1 := [aI ((v3 + v5) - v2), aI q2, aI v5, aR 0 0, aI v4]) (σ1 := σ) (P := []) rfl trivial ?_
      obtain ⟨q3, hq3, hm⟩ := obind_eq hm
      refine XW.callV B (M := M_X11_strainAt) (t := 0) (j := 0) (cn := 1) (as := [aI v5, aI q2, aI ((v3 + v5) - v2)]) (c_X11_strainAt v5 q2 ((v3 + v5) - v2) σ hq3) (by decide) wV_X11_strainAt wN_X11_strainAt lk_X11_200 rfl rfl rfl (by decide) rfl (Nat.le_of_ble_eq_true rfl) (by decide +kernel) ?_
      refine XW.bb B [(51, .iload 5), (53, .iload_n 2)] (by decide +kernel) (pc1 := 54) (ls1 := [some (aR 0 0), some (aI v1), some (aI v2), some (aI v3), some (aI v4), some (aI v5), some (aI q2)]) (st1 := [aI v2, aI v5, aI q3.1, aI v4]) (σ1 := q3.2) (P := []) (i := .if_icmp .le 21) (tgt := 75) (q := v5 ≤ v2) rfl trivial (by decide +kernel) rfl (by decide) (fun h4 => ?_) (fun h4 => ?_)
      · rw [if_pos h4] at hm
        refine XW.bb B [(75, .iconst 0), (76, .iadd), (77, .iadd), (78, .istore 4), (80, .aload_n 0), (81, .aload_n 0), (82, .getfield 207)] (by decide +kernel) (pc1 := 85) (ls1 := [some (aR 0 0), some (aI v1), some (aI v2), some (aI v3), some (aI (v4 + (q3.1 + (0 : Int32)))), some (aI v5), some (aI q2)]) (st1 := [aI (q3.2.1 0 0 18), aR 0 0]) (σ1 := q3.2) (P := []) (i := .ifCond .ge 17) (tgt := 102) (q := (0 : Int32) ≤ (q3.2.1 0 0 18)) rfl trivial (by decide +kernel) rfl (by decide) (fun h5 => ?_) (fun h5 => ?_)
        · rw [if_pos h5] at hm
          refine XW.bk B [(102, .aload_n 0), (103, .getfield 207), (106, .putfield 207), (109, .aload_n 0), (110, .iload 4), (112, .putfield 210), (115, .iinc 5 1), (118, .goto (-101))] (by decide +kernel) (pc1 := 17) (ls1 := [some (aR 0 0), some (aI v1), some (aI v2), some (aI v3), some (aI (v4 + (q3.1 + (0 : Int32)))), some (aI (v5 + (1 : Int32))), some (aI q2)]) (st1 := []) (σ1 := (sI (sI q3.2 0 0 18 (q3.2.1 0 0 18)) 0 0 19 (v4 + (q3.1 + (0 : Int32))))) (P := []) rfl trivial ?_
          refine XW.loc [true, true, true, true, true, true, false] rfl ?_
          exact ih v1 v2 v3 (v4 + (q3.1 + (0 : Int32))) (v5 + (1 : Int32)) (sI (sI q3.2 0 0 18 (q3.2.1 0 0 18)) 0 0 19 (v4 + (q3.1 + (0 : Int32)))) hm
        · rw [if_neg h5] at hm
          refine XW.bk B [(88, .iload 4), (90, .aload_n 0)] (by decide +kernel) (pc1 := 91) (ls1 := [some (aR 0 0), some (aI v1), some (aI v2), some (aI v3), some (aI (v4 + (q3.1 + (0 : Int32)))), some (aI v5), some (aI q2)]) (st1 := [aR 0 0, aI (v4 + (q3.1 + (0 : Int32))), aR 0 0]) (σ1 := q3.2) (P := []) rfl trivial ?_
          refine XW.callV B (M := M_X11_bears) (t := 0) (j := 0) (cn := 1) (as := []) (c_X11_bears q3.2 rfl) (by decide) wV_X11_bears wN_X11_bears lk_X11_216 rfl rfl rfl (by decide) rfl (Nat.le_of_ble_eq_true rfl) (by decide +kernel) ?_
          refine XW.bb B [] (by decide +kernel) (pc1 := 94) (ls1 := [some (aR 0 0), some (aI v1), some (aI v2), some (aI v3), some (aI (v4 + (q3.1 + (0 : Int32)))), some (aI v5), some (aI q2)]) (st1 := [aI (m_X11_bears q3.2), aI (v4 + (q3.1 + (0 : Int32))), aR 0 0]) (σ1 := q3.2) (P := []) (i := .if_icmp .le 8) (tgt := 102) (q := (v4 + (q3.1 + (0 : Int32))) ≤ (m_X11_bears q3.2)) rfl trivial (by decide +kernel) rfl (by decide) (fun h6 => ?_) (fun h6 => ?_)
          · rw [if_pos h6] at hm
            refine XW.bk B [(102, .aload_n 0), (103, .getfield 207), (106, .putfield 207), (109, .aload_n 0), (110, .iload 4), (112, .putfield 210), (115, .iinc 5 1), (118, .goto (-101))] (by decide +kernel) (pc1 := 17) (ls1 := [some (aR 0 0), some (aI v1), some (aI v2), some (aI v3), some (aI (v4 + (q3.1 + (0 : Int32)))), some (aI (v5 + (1 : Int32))), some (aI q2)]) (st1 := []) (σ1 := (sI (sI q3.2 0 0 18 (q3.2.1 0 0 18)) 0 0 19 (v4 + (q3.1 + (0 : Int32))))) (P := []) rfl trivial ?_
            refine XW.loc [true, true, true, true, true, true, false] rfl ?_
            exact ih v1 v2 v3 (v4 + (q3.1 + (0 : Int32))) (v5 + (1 : Int32)) (sI (sI q3.2 0 0 18 (q3.2.1 0 0 18)) 0 0 19 (v4 + (q3.1 + (0 : Int32)))) hm
          · rw [if_neg h6] at hm
            refine XW.bk B [(97, .iload 5), (99, .goto 7), (106, .putfield 207), (109, .aload_n 0), (110, .iload 4), (112, .putfield 210), (115, .iinc 5 1), (118, .goto (-101))] (by decide +kernel) (pc1 := 17) (ls1 := [some (aR 0 0), some (aI v1), some (aI v2), some (aI v3), some (aI (v4 + (q3.1 + (0 : Int32)))), some (aI (v5 + (1 : Int32))), some (aI q2)]) (st1 := []) (σ1 := (sI (sI q3.2 0 0 18 v5) 0 0 19 (v4 + (q3.1 + (0 : Int32))))) (P := []) rfl trivial ?_
            refine XW.loc [true, true, true, true, true, true, false] rfl ?_
            exact ih v1 v2 v3 (v4 + (q3.1 + (0 : Int32))) (v5 + (1 : Int32)) (sI (sI q3.2 0 0 18 v5) 0 0 19 (v4 + (q3.1 + (0 : Int32)))) hm
      · rw [if_neg h4] at hm
        refine XW.bk B [(57, .iload 6), (59, .aload_n 0), (60, .iload_n 1), (61, .iload 5), (63, .iconst 1), (64, .isub)] (by decide +kernel) (pc1 := 65) (ls1 := [some (aR 0 0), some (aI v1), some (aI v2), some (aI v3), some (aI v4), some (aI v5), some (aI q2)]) (st1 := [aI (v5 - (1 : Int32)), aI v1, aR 0 0, aI q2, aI q3.1, aI v4]) (σ1 := q3.2) (P := []) rfl trivial ?_
        obtain ⟨q7, hq7, hm⟩ := obind_eq hm
        refine XW.callV B (M := M_X11_heldBy) (t := 0) (j := 0) (cn := 1) (as := [aI v1, aI (v5 - (1 : Int32))]) (c_X11_heldBy v1 (v5 - (1 : Int32)) q3.2 hq7) (by decide) wV_X11_heldBy wN_X11_heldBy lk_X11_213 rfl rfl rfl (by decide) rfl (Nat.le_of_ble_eq_true rfl) (by decide +kernel) ?_
        refine XW.bb B [] (by decide +kernel) (pc1 := 68) (ls1 := [some (aR 0 0), some (aI v1), some (aI v2), some (aI v3), some (aI v4), some (aI v5), some (aI q2)]) (st1 := [aI q7, aI q2, aI q3.1, aI v4]) (σ1 := q3.2) (P := []) (i := .if_icmp .eq 7) (tgt := 75) (q := q2 = q7) rfl trivial (by decide +kernel) rfl (by decide) (fun h8 => ?_) (fun h8 => ?_)
        · rw [if_pos h8] at hm
          refine XW.bb B [(75, .iconst 0), (76, .iadd), (77, .iadd), (78, .istore 4), (80, .aload_n 0), (81, .aload_n 0), (82, .getfield 207)] (by decide +kernel) (pc1 := 85) (ls1 := [some (aR 0 0), some (aI v1), some (aI v2), some (aI v3), some (aI (v4 + (q3.1 + (0 : Int32)))), some (aI v5), some (aI q2)]) (st1 := [aI (q3.2.1 0 0 18), aR 0 0]) (σ1 := q3.2) (P := []) (i := .ifCond .ge 17) (tgt := 102) (q := (0 : Int32) ≤ (q3.2.1 0 0 18)) rfl trivial (by decide +kernel) rfl (by decide) (fun h9 => ?_) (fun h9 => ?_)
          · rw [if_pos h9] at hm
            refine XW.bk B [(102, .aload_n 0), (103, .getfield 207), (106, .putfield 207), (109, .aload_n 0), (110, .iload 4), (112, .putfield 210), (115, .iinc 5 1), (118, .goto (-101))] (by decide +kernel) (pc1 := 17) (ls1 := [some (aR 0 0), some (aI v1), some (aI v2), some (aI v3), some (aI (v4 + (q3.1 + (0 : Int32)))), some (aI (v5 + (1 : Int32))), some (aI q2)]) (st1 := []) (σ1 := (sI (sI q3.2 0 0 18 (q3.2.1 0 0 18)) 0 0 19 (v4 + (q3.1 + (0 : Int32))))) (P := []) rfl trivial ?_
            refine XW.loc [true, true, true, true, true, true, false] rfl ?_
            exact ih v1 v2 v3 (v4 + (q3.1 + (0 : Int32))) (v5 + (1 : Int32)) (sI (sI q3.2 0 0 18 (q3.2.1 0 0 18)) 0 0 19 (v4 + (q3.1 + (0 : Int32)))) hm
          · rw [if_neg h9] at hm
            refine XW.bk B [(88, .iload 4), (90, .aload_n 0)] (by decide +kernel) (pc1 := 91) (ls1 := [some (aR 0 0), some (aI v1), some (aI v2), some (aI v3), some (aI (v4 + (q3.1 + (0 : Int32)))), some (aI v5), some (aI q2)]) (st1 := [aR 0 0, aI (v4 + (q3.1 + (0 : Int32))), aR 0 0]) (σ1 := q3.2) (P := []) rfl trivial ?_
            refine XW.callV B (M := M_X11_bears) (t := 0) (j := 0) (cn := 1) (as := []) (c_X11_bears q3.2 rfl) (by decide) wV_X11_bears wN_X11_bears lk_X11_216 rfl rfl rfl (by decide) rfl (Nat.le_of_ble_eq_true rfl) (by decide +kernel) ?_
            refine XW.bb B [] (by decide +kernel) (pc1 := 94) (ls1 := [some (aR 0 0), some (aI v1), some (aI v2), some (aI v3), some (aI (v4 + (q3.1 + (0 : Int32)))), some (aI v5), some (aI q2)]) (st1 := [aI (m_X11_bears q3.2), aI (v4 + (q3.1 + (0 : Int32))), aR 0 0]) (σ1 := q3.2) (P := []) (i := .if_icmp .le 8) (tgt := 102) (q := (v4 + (q3.1 + (0 : Int32))) ≤ (m_X11_bears q3.2)) rfl trivial (by decide +kernel) rfl (by decide) (fun h10 => ?_) (fun h10 => ?_)
            · rw [if_pos h10] at hm
              refine XW.bk B [(102, .aload_n 0), (103, .getfield 207), (106, .putfield 207), (109, .aload_n 0), (110, .iload 4), (112, .putfield 210), (115, .iinc 5 1), (118, .goto (-101))] (by decide +kernel) (pc1 := 17) (ls1 := [some (aR 0 0), some (aI v1), some (aI v2), some (aI v3), some (aI (v4 + (q3.1 + (0 : Int32)))), some (aI (v5 + (1 : Int32))), some (aI q2)]) (st1 := []) (σ1 := (sI (sI q3.2 0 0 18 (q3.2.1 0 0 18)) 0 0 19 (v4 + (q3.1 + (0 : Int32))))) (P := []) rfl trivial ?_
              refine XW.loc [true, true, true, true, true, true, false] rfl ?_
              exact ih v1 v2 v3 (v4 + (q3.1 + (0 : Int32))) (v5 + (1 : Int32)) (sI (sI q3.2 0 0 18 (q3.2.1 0 0 18)) 0 0 19 (v4 + (q3.1 + (0 : Int32)))) hm
            · rw [if_neg h10] at hm
              refine XW.bk B [(97, .iload 5), (99, .goto 7), (106, .putfield 207), (109, .aload_n 0), (110, .iload 4), (112, .putfield 210), (115, .iinc 5 1), (118, .goto (-101))] (by decide +kernel) (pc1 := 17) (ls1 := [some (aR 0 0), some (aI v1), some (aI v2), some (aI v3), some (aI (v4 + (q3.1 + (0 : Int32)))), some (aI (v5 + (1 : Int32))), some (aI q2)]) (st1 := []) (σ1 := (sI (sI q3.2 0 0 18 v5) 0 0 19 (v4 + (q3.1 + (0 : Int32))))) (P := []) rfl trivial ?_
              refine XW.loc [true, true, true, true, true, true, false] rfl ?_
              exact ih v1 v2 v3 (v4 + (q3.1 + (0 : Int32))) (v5 + (1 : Int32)) (sI (sI q3.2 0 0 18 v5) 0 0 19 (v4 + (q3.1 + (0 : Int32)))) hm
        · rw [if_neg h8] at hm
          refine XW.bb B [(71, .iconst 1), (72, .goto 4), (76, .iadd), (77, .iadd), (78, .istore 4), (80, .aload_n 0), (81, .aload_n 0), (82, .getfield 207)] (by decide +kernel) (pc1 := 85) (ls1 := [some (aR 0 0), some (aI v1), some (aI v2), some (aI v3), some (aI (v4 + (q3.1 + (1 : Int32)))), some (aI v5), some (aI q2)]) (st1 := [aI (q3.2.1 0 0 18), aR 0 0]) (σ1 := q3.2) (P := []) (i := .ifCond .ge 17) (tgt := 102) (q := (0 : Int32) ≤ (q3.2.1 0 0 18)) rfl trivial (by decide +kernel) rfl (by decide) (fun h11 => ?_) (fun h11 => ?_)
          · rw [if_pos h11] at hm
            refine XW.bk B [(102, .aload_n 0), (103, .getfield 207), (106, .putfield 207), (109, .aload_n 0), (110, .iload 4), (112, .putfield 210), (115, .iinc 5 1), (118, .goto (-101))] (by decide +kernel) (pc1 := 17) (ls1 := [some (aR 0 0), some (aI v1), some (aI v2), some (aI v3), some (aI (v4 + (q3.1 + (1 : Int32)))), some (aI (v5 + (1 : Int32))), some (aI q2)]) (st1 := []) (σ1 := (sI (sI q3.2 0 0 18 (q3.2.1 0 0 18)) 0 0 19 (v4 + (q3.1 + (1 : Int32))))) (P := []) rfl trivial ?_
            refine XW.loc [true, true, true, true, true, true, false] rfl ?_
            exact ih v1 v2 v3 (v4 + (q3.1 + (1 : Int32))) (v5 + (1 : Int32)) (sI (sI q3.2 0 0 18 (q3.2.1 0 0 18)) 0 0 19 (v4 + (q3.1 + (1 : Int32)))) hm
          · rw [if_neg h11] at hm
            refine XW.bk B [(88, .iload 4), (90, .aload_n 0)] (by decide +kernel) (pc1 := 91) (ls1 := [some (aR 0 0), some (aI v1), some (aI v2), some (aI v3), some (aI (v4 + (q3.1 + (1 : Int32)))), some (aI v5), some (aI q2)]) (st1 := [aR 0 0, aI (v4 + (q3.1 + (1 : Int32))), aR 0 0]) (σ1 := q3.2) (P := []) rfl trivial ?_
            refine XW.callV B (M := M_X11_bears) (t := 0) (j := 0) (cn := 1) (as := []) (c_X11_bears q3.2 rfl) (by decide) wV_X11_bears wN_X11_bears lk_X11_216 rfl rfl rfl (by decide) rfl (Nat.le_of_ble_eq_true rfl) (by decide +kernel) ?_
            refine XW.bb B [] (by decide +kernel) (pc1 := 94) (ls1 := [some (aR 0 0), some (aI v1), some (aI v2), some (aI v3), some (aI (v4 + (q3.1 + (1 : Int32)))), some (aI v5), some (aI q2)]) (st1 := [aI (m_X11_bears q3.2), aI (v4 + (q3.1 + (1 : Int32))), aR 0 0]) (σ1 := q3.2) (P := []) (i := .if_icmp .le 8) (tgt := 102) (q := (v4 + (q3.1 + (1 : Int32))) ≤ (m_X11_bears q3.2)) rfl trivial (by decide +kernel) rfl (by decide) (fun h12 => ?_) (fun h12 => ?_)
            · rw [if_pos h12] at hm
              refine XW.bk B [(102, .aload_n 0), (103, .getfield 207), (106, .putfield 207), (109, .aload_n 0), (110, .iload 4), (112, .putfield 210), (115, .iinc 5 1), (118, .goto (-101))] (by decide +kernel) (pc1 := 17) (ls1 := [some (aR 0 0), some (aI v1), some (aI v2), some (aI v3), some (aI (v4 + (q3.1 + (1 : Int32)))), some (aI (v5 + (1 : Int32))), some (aI q2)]) (st1 := []) (σ1 := (sI (sI q3.2 0 0 18 (q3.2.1 0 0 18)) 0 0 19 (v4 + (q3.1 + (1 : Int32))))) (P := []) rfl trivial ?_
              refine XW.loc [true, true, true, true, true, true, false] rfl ?_
              exact ih v1 v2 v3 (v4 + (q3.1 + (1 : Int32))) (v5 + (1 : Int32)) (sI (sI q3.2 0 0 18 (q3.2.1 0 0 18)) 0 0 19 (v4 + (q3.1 + (1 : Int32)))) hm
            · rw [if_neg h12] at hm
              refine XW.bk B [(97, .iload 5), (99, .goto 7), (106, .putfield 207), (109, .aload_n 0), (110, .iload 4), (112, .putfield 210), (115, .iinc 5 1), (118, .goto (-101))] (by decide +kernel) (pc1 := 17) (ls1 := [some (aR 0 0), some (aI v1), some (aI v2), some (aI v3), some (aI (v4 + (q3.1 + (1 : Int32)))), some (aI (v5 + (1 : Int32))), some (aI q2)]) (st1 := []) (σ1 := (sI (sI q3.2 0 0 18 v5) 0 0 19 (v4 + (q3.1 + (1 : Int32))))) (P := []) rfl trivial ?_
              refine XW.loc [true, true, true, true, true, true, false] rfl ?_
              exact ih v1 v2 v3 (v4 + (q3.1 + (1 : Int32))) (v5 + (1 : Int32)) (sI (sI q3.2 0 0 18 v5) 0 0 19 (v4 + (q3.1 + (1 : Int32)))) hm
set_option maxRecDepth 100000 in
set_option maxHeartbeats 4000000 in
theorem c_X11_walks (x1 : Int32) (x2 : Int32) (x3 : Int32) (σ : SS) {σ' : SS} (hm : m_X11_walks x1 x2 x3 σ = some σ') : XM LM 65 M_X11_walks [aR 0 0, aI x1, aI x2, aI x3] σ none σ' := by
  refine XM.of (K := K11) (by decide) (by decide +kernel) K11_ok (Nat.le_of_ble_eq_true rfl) (fun Γ B q => ?_)
  unfold m_X11_walks at hm
  refine XW.bk B [(0, .aload_n 0), (1, .bipush (-2)), (3, .putfield 207), (6, .aload_n 0), (7, .iconst 0), (8, .putfield 210), (11, .iconst 0), (12, .istore 4), (14, .iload_n 2), (15, .istore 5)] (by decide +kernel) (pc1 := 17) (ls1 := [some (aR 0 0), some (aI x1), some (aI x2), some (aI x3), some (aI (0 : Int32)), some (aI x2), none]) (st1 := []) (σ1 := (sI (sI σ 0 0 18 (-2 : Int32)) 0 0 19 (0 : Int32))) (P := []) rfl trivial ?_
  exact lp_X11_walks_17 B q FU x1 x2 x3 (0 : Int32) x2 (sI (sI σ 0 0 18 (-2 : Int32)) 0 0 19 (0 : Int32)) hm

def L_X11_passes_2 : Nat → Int32 → Int32 → SS → Option (Int32)
  | 0, _, _, _ => none
  | n + 1, v1, v2, σ =>
    if (σ.1 0 0 6) ≤ v2 then
      some (1 : Int32)
    else
    Option.bind (m_X11_heldBy v1 v2 σ) (fun q2 =>
    if ((72 : Int32) + v2) < 0 ∨ 88 ≤ ((72 : Int32) + v2).toNatClampNeg then none else
    if q2 ≤ (σ.2.1 1 0 ((72 : Int32) + v2).toNatClampNeg) then
      L_X11_passes_2 n v1 (v2 + (1 : Int32)) σ
    else
    some (0 : Int32))
def m_X11_passes (x1 : Int32) (σ : SS) : Option (Int32) :=
  L_X11_passes_2 FU x1 (0 : Int32) σ
set_option maxRecDepth 100000 in
set_option maxHeartbeats 4000000 in
theorem lp_X11_passes_2 {Γ : XC} {r : Int32} {σ0 : SS} (B : XB Γ cX11_passes RX11 4 K11 LM 3) (q : XQ Γ (some .int) (some (aI r)) σ0) : ∀ (n : Nat) (v1 : Int32) (v2 : Int32) (σ : SS), σ = σ0 → L_X11_passes_2 n v1 v2 σ = some r → XW Γ 2 [some (aR 0 0), some (aI v1), some (aI v2)] [] σ := by
  intro n
  induction n with
  | zero => intro v1 v2 σ hσ hm; cases hm
  | succ n ih =>
    intro v1 v2 σ hσ hm
    subst hσ
    rw [L_X11_passes_2] at hm
    refine XW.bb B [(2, .iload_n 2), (3, .aload_n 0), (4, .getfield 81)] (by decide +kernel) (pc1 := 7) (ls1 := [some (aR 0 0), some (aI v1), some (aI v2)]) (st1 := [aI (σ.1 0 0 6), aI v2]) (σ1 := σ) (P := []) (i := .if_icmp .ge 29) (tgt := 36) (q := (σ.1 0 0 6) ≤ v2) rfl trivial (by decide +kernel) rfl (by decide) (fun h1 => ?_) (fun h1 => ?_)
    · rw [if_pos h1] at hm
      refine XW.bk B [(36, .iconst 1)] (by decide +kernel) (pc1 := 37) (ls1 := [some (aR 0 0), some (aI v1), some (aI v2)]) (st1 := [aI (1 : Int32)]) (σ1 := σ) (P := []) rfl trivial ?_
      obtain rfl := Option.some.inj hm
      exact XW.iret B q (by decide +kernel)
    · rw [if_neg h1] at hm
      refine XW.bk B [(10, .aload_n 0), (11, .iload_n 1), (12, .iload_n 2)] (by decide +kernel) (pc1 := 13) (ls1 := [some (aR 0 0), some (aI v1), some (aI v2)]) (st1 := [aI v2, aI v1, aR 0 0]) (σ1 := σ) (P := []) rfl trivial ?_
      obtain ⟨q2, hq2, hm⟩ := obind_eq hm
      refine XW.callV B (M := M_X11_heldBy) (t := 0) (j := 0) (cn := 1) (as := [aI v1, aI v2]) (c_X11_heldBy v1 v2 σ hq2) (by decide) wV_X11_heldBy wN_X11_heldBy lk_X11_213 rfl rfl rfl (by decide) rfl (Nat.le_of_ble_eq_true rfl) (by decide +kernel) ?_
      refine XW.bk B [(16, .aload_n 0), (17, .getfield 11), (20, .bipush 72), (22, .iload_n 2), (23, .iadd)] (by decide +kernel) (pc1 := 24) (ls1 := [some (aR 0 0), some (aI v1), some (aI v2)]) (st1 := [aI ((72 : Int32) + v2), aR 1 0, aI q2]) (σ1 := σ) (P := []) rfl trivial ?_
      by_cases g3 : ((72 : Int32) + v2) < 0 ∨ 88 ≤ ((72 : Int32) + v2).toNatClampNeg
      · rw [if_pos g3] at hm; cases hm
      rw [if_neg g3] at hm
      refine XW.bb B [(24, .iaload)] (by decide +kernel) (pc1 := 25) (ls1 := [some (aR 0 0), some (aI v1), some (aI v2)]) (st1 := [aI (σ.2.1 1 0 ((72 : Int32) + v2).toNatClampNeg), aI q2]) (σ1 := σ) (P := [vp_in ((72 : Int32) + v2) 88]) (i := .if_icmp .le 5) (tgt := 30) (q := q2 ≤ (σ.2.1 1 0 ((72 : Int32) + v2).toNatClampNeg)) rfl ⟨g3, trivial⟩ (by decide +kernel) rfl (by decide) (fun h4 => ?_) (fun h4 => ?_)
      · rw [if_pos h4] at hm
        refine XW.bk B [(30, .iinc 2 1), (33, .goto (-31))] (by decide +kernel) (pc1 := 2) (ls1 := [some (aR 0 0), some (aI v1), some (aI (v2 + (1 : Int32)))]) (st1 := []) (σ1 := σ) (P := []) rfl trivial ?_
        exact ih v1 (v2 + (1 : Int32)) σ rfl hm
      · rw [if_neg h4] at hm
        refine XW.bk B [(28, .iconst 0)] (by decide +kernel) (pc1 := 29) (ls1 := [some (aR 0 0), some (aI v1), some (aI v2)]) (st1 := [aI (0 : Int32)]) (σ1 := σ) (P := []) rfl trivial ?_
        obtain rfl := Option.some.inj hm
        exact XW.iret B q (by decide +kernel)
set_option maxRecDepth 100000 in
set_option maxHeartbeats 4000000 in
theorem c_X11_passes (x1 : Int32) (σ : SS) {r : Int32} (hm : m_X11_passes x1 σ = some r) : XM LM 4 M_X11_passes [aR 0 0, aI x1] σ (some (aI r)) σ := by
  refine XM.of (K := K11) (by decide) (by decide +kernel) K11_ok (Nat.le_of_ble_eq_true rfl) (fun Γ B q => ?_)
  unfold m_X11_passes at hm
  refine XW.bk B [(0, .iconst 0), (1, .istore_n 2)] (by decide +kernel) (pc1 := 2) (ls1 := [some (aR 0 0), some (aI x1), some (aI (0 : Int32))]) (st1 := []) (σ1 := σ) (P := []) rfl trivial ?_
  exact lp_X11_passes_2 B q FU x1 (0 : Int32) σ rfl hm

def m_X11_walk (x1 : Int32) (x2 : Int32) (x3 : Int32) (σ : SS) : Option (Int32 × SS) :=
  Option.bind (m_X11_bytesIs x1 σ) (fun q1 =>
  if q1 = (-1 : Int32) then
    some ((-1 : Int32), σ)
  else
  if (m_X11_isMinute x2) = (0 : Int32) then
    some ((-1 : Int32), σ)
  else
  if (m_X11_within x3.toInt64 (0 : Int64) (2 : Int64)) = (0 : Int32) then
    some ((-1 : Int32), σ)
  else
  Option.bind (m_X11_walkIs x1 σ) (fun q5 =>
  if (0 : Int32) ≤ q5 then
    Option.bind (m_X11_walks x1 (0 : Int32) x2 σ) (fun q7 =>
    if x3 = (0 : Int32) then
      some ((q7.1 0 0 18), q7)
    else
    if x3 = (1 : Int32) then
      some ((q7.1 0 0 19), q7)
    else
    Option.bind (m_X11_passes x1 q7) (fun q10 =>
    some (q10, q7)))
  else
  Option.bind (m_X11_walkIs x1 σ) (fun q11 =>
  some (q11, σ))))
set_option maxRecDepth 100000 in
set_option maxHeartbeats 4000000 in
theorem c_X11_walk (x1 : Int32) (x2 : Int32) (x3 : Int32) (σ : SS) {r : Int32} {σ' : SS} (hm : m_X11_walk x1 x2 x3 σ = some (r, σ')) : XM LM 66 M_X11_walk [aR 0 0, aI x1, aI x2, aI x3] σ (some (aI r)) σ' := by
  refine XM.of (K := K11) (by decide) (by decide +kernel) K11_ok (Nat.le_of_ble_eq_true rfl) (fun Γ B q => ?_)
  unfold m_X11_walk at hm
  refine XW.bk B [(0, .aload_n 0), (1, .iload_n 1)] (by decide +kernel) (pc1 := 2) (ls1 := [some (aR 0 0), some (aI x1), some (aI x2), some (aI x3)]) (st1 := [aI x1, aR 0 0]) (σ1 := σ) (P := []) rfl trivial ?_
  obtain ⟨q1, hq1, hm⟩ := obind_eq hm
  refine XW.callV B (M := M_X11_bytesIs) (t := 0) (j := 0) (cn := 1) (as := [aI x1]) (c_X11_bytesIs x1 σ hq1) (by decide) wV_X11_bytesIs wN_X11_bytesIs lk_X11_204 rfl rfl rfl (by decide) rfl (Nat.le_of_ble_eq_true rfl) (by decide +kernel) ?_
  refine XW.bb B [(5, .iconst (-1))] (by decide +kernel) (pc1 := 6) (ls1 := [some (aR 0 0), some (aI x1), some (aI x2), some (aI x3)]) (st1 := [aI (-1 : Int32), aI q1]) (σ1 := σ) (P := []) (i := .if_icmp .eq 22) (tgt := 28) (q := q1 = (-1 : Int32)) rfl trivial (by decide +kernel) rfl (by decide) (fun h2 => ?_) (fun h2 => ?_)
  · rw [if_pos h2] at hm
    refine XW.bk B [(28, .iconst (-1))] (by decide +kernel) (pc1 := 29) (ls1 := [some (aR 0 0), some (aI x1), some (aI x2), some (aI x3)]) (st1 := [aI (-1 : Int32)]) (σ1 := σ) (P := []) rfl trivial ?_
    obtain ⟨rfl, rfl⟩ := Prod.mk.inj (Option.some.inj hm)
    exact XW.iret B q (by decide +kernel)
  · rw [if_neg h2] at hm
    refine XW.bk B [(9, .iload_n 2)] (by decide +kernel) (pc1 := 10) (ls1 := [some (aR 0 0), some (aI x1), some (aI x2), some (aI x3)]) (st1 := [aI x2]) (σ1 := σ) (P := []) rfl trivial ?_
    refine XW.callS B (M := M_X11_isMinute) (as := [aI x2]) (c_X11_isMinute x2 σ rfl) (by decide) wS_X11_isMinute wN_X11_isMinute lk_X11_219 rfl (Nat.le_of_ble_eq_true rfl) (by decide +kernel) ?_
    refine XW.bb B [] (by decide +kernel) (pc1 := 13) (ls1 := [some (aR 0 0), some (aI x1), some (aI x2), some (aI x3)]) (st1 := [aI (m_X11_isMinute x2)]) (σ1 := σ) (P := []) (i := .ifCond .eq 15) (tgt := 28) (q := (m_X11_isMinute x2) = (0 : Int32)) rfl trivial (by decide +kernel) rfl (by decide) (fun h3 => ?_) (fun h3 => ?_)
    · rw [if_pos h3] at hm
      refine XW.bk B [(28, .iconst (-1))] (by decide +kernel) (pc1 := 29) (ls1 := [some (aR 0 0), some (aI x1), some (aI x2), some (aI x3)]) (st1 := [aI (-1 : Int32)]) (σ1 := σ) (P := []) rfl trivial ?_
      obtain ⟨rfl, rfl⟩ := Prod.mk.inj (Option.some.inj hm)
      exact XW.iret B q (by decide +kernel)
    · rw [if_neg h3] at hm
      refine XW.bk B [(16, .iload_n 3), (17, .i2l), (18, .lconst 0), (19, .ldc2_w 222)] (by decide +kernel) (pc1 := 22) (ls1 := [some (aR 0 0), some (aI x1), some (aI x2), some (aI x3)]) (st1 := [aJ (2 : Int64), aJ (0 : Int64), aJ x3.toInt64]) (σ1 := σ) (P := []) rfl trivial ?_
      refine XW.callS B (M := M_X11_within) (as := [aJ x3.toInt64, aJ (0 : Int64), aJ (2 : Int64)]) (c_X11_within x3.toInt64 (0 : Int64) (2 : Int64) σ rfl) (by decide) wS_X11_within wN_X11_within lk_X11_84 rfl (Nat.le_of_ble_eq_true rfl) (by decide +kernel) ?_
      refine XW.bn B [] (by decide +kernel) (pc1 := 25) (ls1 := [some (aR 0 0), some (aI x1), some (aI x2), some (aI x3)]) (st1 := [aI (m_X11_within x3.toInt64 (0 : Int64) (2 : Int64))]) (σ1 := σ) (P := []) (i := .ifCond .ne 5) (tgt := 30) (q := (m_X11_within x3.toInt64 (0 : Int64) (2 : Int64)) = (0 : Int32)) rfl trivial (by decide +kernel) rfl (by decide) (fun h4 => ?_) (fun h4 => ?_)
      · rw [if_pos h4] at hm
        refine XW.bk B [(28, .iconst (-1))] (by decide +kernel) (pc1 := 29) (ls1 := [some (aR 0 0), some (aI x1), some (aI x2), some (aI x3)]) (st1 := [aI (-1 : Int32)]) (σ1 := σ) (P := []) rfl trivial ?_
        obtain ⟨rfl, rfl⟩ := Prod.mk.inj (Option.some.inj hm)
        exact XW.iret B q (by decide +kernel)
      · rw [if_neg h4] at hm
        refine XW.bk B [(30, .aload_n 0), (31, .iload_n 1)] (by decide +kernel) (pc1 := 32) (ls1 := [some (aR 0 0), some (aI x1), some (aI x2), some (aI x3)]) (st1 := [aI x1, aR 0 0]) (σ1 := σ) (P := []) rfl trivial ?_
        obtain ⟨q5, hq5, hm⟩ := obind_eq hm
        refine XW.callV B (M := M_X11_walkIs) (t := 0) (j := 0) (cn := 1) (as := [aI x1]) (c_X11_walkIs x1 σ hq5) (by decide) wV_X11_walkIs wN_X11_walkIs lk_X11_224 rfl rfl rfl (by decide) rfl (Nat.le_of_ble_eq_true rfl) (by decide +kernel) ?_
        refine XW.bb B [] (by decide +kernel) (pc1 := 35) (ls1 := [some (aR 0 0), some (aI x1), some (aI x2), some (aI x3)]) (st1 := [aI q5]) (σ1 := σ) (P := []) (i := .ifCond .ge 9) (tgt := 44) (q := (0 : Int32) ≤ q5) rfl trivial (by decide +kernel) rfl (by decide) (fun h6 => ?_) (fun h6 => ?_)
        · rw [if_pos h6] at hm
          refine XW.bk B [(44, .aload_n 0), (45, .iload_n 1), (46, .iconst 0), (47, .iload_n 2)] (by decide +kernel) (pc1 := 48) (ls1 := [some (aR 0 0), some (aI x1), some (aI x2), some (aI x3)]) (st1 := [aI x2, aI (0 : Int32), aI x1, aR 0 0]) (σ1 := σ) (P := []) rfl trivial ?_
          obtain ⟨q7, hq7, hm⟩ := obind_eq hm
          refine XW.callV B (M := M_X11_walks) (t := 0) (j := 0) (cn := 1) (as := [aI x1, aI (0 : Int32), aI x2]) (c_X11_walks x1 (0 : Int32) x2 σ hq7) (by decide) wV_X11_walks wN_X11_walks lk_X11_227 rfl rfl rfl (by decide) rfl (Nat.le_of_ble_eq_true rfl) (by decide +kernel) ?_
          refine XW.bn B [(51, .iload_n 3)] (by decide +kernel) (pc1 := 52) (ls1 := [some (aR 0 0), some (aI x1), some (aI x2), some (aI x3)]) (st1 := [aI x3]) (σ1 := q7) (P := []) (i := .ifCond .ne 10) (tgt := 62) (q := x3 = (0 : Int32)) rfl trivial (by decide +kernel) rfl (by decide) (fun h8 => ?_) (fun h8 => ?_)
          · rw [if_pos h8] at hm
            refine XW.bk B [(55, .aload_n 0), (56, .getfield 207), (59, .goto 20)] (by decide +kernel) (pc1 := 79) (ls1 := [some (aR 0 0), some (aI x1), some (aI x2), some (aI x3)]) (st1 := [aI (q7.1 0 0 18)]) (σ1 := q7) (P := []) rfl trivial ?_
            obtain ⟨rfl, rfl⟩ := Prod.mk.inj (Option.some.inj hm)
            exact XW.iret B q (by decide +kernel)
          · rw [if_neg h8] at hm
            refine XW.bn B [(62, .iload_n 3), (63, .iconst 1)] (by decide +kernel) (pc1 := 64) (ls1 := [some (aR 0 0), some (aI x1), some (aI x2), some (aI x3)]) (st1 := [aI (1 : Int32), aI x3]) (σ1 := q7) (P := []) (i := .if_icmp .ne 10) (tgt := 74) (q := x3 = (1 : Int32)) rfl trivial (by decide +kernel) rfl (by decide) (fun h9 => ?_) (fun h9 => ?_)
            · rw [if_pos h9] at hm
              refine XW.bk B [(67, .aload_n 0), (68, .getfield 210), (71, .goto 8)] (by decide +kernel) (pc1 := 79) (ls1 := [some (aR 0 0), some (aI x1), some (aI x2), some (aI x3)]) (st1 := [aI (q7.1 0 0 19)]) (σ1 := q7) (P := []) rfl trivial ?_
              obtain ⟨rfl, rfl⟩ := Prod.mk.inj (Option.some.inj hm)
              exact XW.iret B q (by decide +kernel)
            · rw [if_neg h9] at hm
              refine XW.bk B [(74, .aload_n 0), (75, .iload_n 1)] (by decide +kernel) (pc1 := 76) (ls1 := [some (aR 0 0), some (aI x1), some (aI x2), some (aI x3)]) (st1 := [aI x1, aR 0 0]) (σ1 := q7) (P := []) rfl trivial ?_
              obtain ⟨q10, hq10, hm⟩ := obind_eq hm
              refine XW.callV B (M := M_X11_passes) (t := 0) (j := 0) (cn := 1) (as := [aI x1]) (c_X11_passes x1 q7 hq10) (by decide) wV_X11_passes wN_X11_passes lk_X11_230 rfl rfl rfl (by decide) rfl (Nat.le_of_ble_eq_true rfl) (by decide +kernel) ?_
              obtain ⟨rfl, rfl⟩ := Prod.mk.inj (Option.some.inj hm)
              exact XW.iret B q (by decide +kernel)
        · rw [if_neg h6] at hm
          refine XW.bk B [(38, .aload_n 0), (39, .iload_n 1)] (by decide +kernel) (pc1 := 40) (ls1 := [some (aR 0 0), some (aI x1), some (aI x2), some (aI x3)]) (st1 := [aI x1, aR 0 0]) (σ1 := σ) (P := []) rfl trivial ?_
          obtain ⟨q11, hq11, hm⟩ := obind_eq hm
          refine XW.callV B (M := M_X11_walkIs) (t := 0) (j := 0) (cn := 1) (as := [aI x1]) (c_X11_walkIs x1 σ hq11) (by decide) wV_X11_walkIs wN_X11_walkIs lk_X11_224 rfl rfl rfl (by decide) rfl (Nat.le_of_ble_eq_true rfl) (by decide +kernel) ?_
          obtain ⟨rfl, rfl⟩ := Prod.mk.inj (Option.some.inj hm)
          exact XW.iret B q (by decide +kernel)

def L_X11_start_43 : Nat → Int32 → Int32 → Int32 → Int32 → Int32 → SS → Option (Int32 × SS)
  | 0, _, _, _, _, _, _ => none
  | n + 1, v1, v2, v3, v4, v5, σ =>
    if (60 : Int32) ≤ v5 then
      if v2 = (0 : Int32) then
        some (v3, σ)
      else
      some (v4, σ)
    else
    Option.bind (m_X11_walks v1 (0 : Int32) v5 σ) (fun q8 =>
    if v4 < (0 : Int32) then
      L_X11_start_43 n v1 v2 v5 (q8.1 0 0 19) (v5 + (1 : Int32)) q8
    else
    if v4 ≤ (q8.1 0 0 19) then
      L_X11_start_43 n v1 v2 v3 v4 (v5 + (1 : Int32)) q8
    else
    L_X11_start_43 n v1 v2 v5 (q8.1 0 0 19) (v5 + (1 : Int32)) q8)
def m_X11_start (x1 : Int32) (x2 : Int32) (σ : SS) : Option (Int32 × SS) :=
  Option.bind (m_X11_bytesIs x1 σ) (fun q1 =>
  if q1 = (-1 : Int32) then
    some ((-1 : Int32), σ)
  else
  if (m_X11_within x2.toInt64 (0 : Int64) (1 : Int64)) = (0 : Int32) then
    some ((-1 : Int32), σ)
  else
  Option.bind (m_X11_walkIs x1 σ) (fun q4 =>
  if (0 : Int32) ≤ q4 then
    L_X11_start_43 FU x1 x2 (0 : Int32) (-1 : Int32) (0 : Int32) σ
  else
  Option.bind (m_X11_walkIs x1 σ) (fun q11 =>
  some (q11, σ))))
set_option maxRecDepth 100000 in
set_option maxHeartbeats 4000000 in
theorem lp_X11_start_43 {Γ : XC} {r : Int32} {σ' : SS} (B : XB Γ cX11_start RX11 66 K11 LM 6) (q : XQ Γ (some .int) (some (aI r)) σ') : ∀ (n : Nat) (v1 : Int32) (v2 : Int32) (v3 : Int32) (v4 : Int32) (v5 : Int32) (σ : SS), L_X11_start_43 n v1 v2 v3 v4 v5 σ = some (r, σ') → XW Γ 43 [some (aR 0 0), some (aI v1), some (aI v2), some (aI v3), some (aI v4), some (aI v5)] [] σ := by
  intro n
  induction n with
  | zero => intro v1 v2 v3 v4 v5 σ hm; cases hm
  | succ n ih =>
    intro v1 v2 v3 v4 v5 σ hm
    rw [L_X11_start_43] at hm
    refine XW.bb B [(43, .iload 5), (45, .bipush 60)] (by decide +kernel) (pc1 := 47) (ls1 := [some (aR 0 0), some (aI v1), some (aI v2), some (aI v3), some (aI v4), some (aI v5)]) (st1 := [aI (60 : Int32), aI v5]) (σ1 := σ) (P := []) (i := .if_icmp .ge 63) (tgt := 110) (q := (60 : Int32) ≤ v5) rfl trivial (by decide +kernel) rfl (by decide) (fun h6 => ?_) (fun h6 => ?_)
    · rw [if_pos h6] at hm
      refine XW.bn B [(110, .iload_n 2)] (by decide +kernel) (pc1 := 111) (ls1 := [some (aR 0 0), some (aI v1), some (aI v2), some (aI v3), some (aI v4), some (aI v5)]) (st1 := [aI v2]) (σ1 := σ) (P := []) (i := .ifCond .ne 7) (tgt := 118) (q := v2 = (0 : Int32)) rfl trivial (by decide +kernel) rfl (by decide) (fun h7 => ?_) (fun h7 => ?_)
      · rw [if_pos h7] at hm
        refine XW.bk B [(114, .iload_n 3), (115, .goto 5)] (by decide +kernel) (pc1 := 120) (ls1 := [some (aR 0 0), some (aI v1), some (aI v2), some (aI v3), some (aI v4), some (aI v5)]) (st1 := [aI v3]) (σ1 := σ) (P := []) rfl trivial ?_
        obtain ⟨rfl, rfl⟩ := Prod.mk.inj (Option.some.inj hm)
        exact XW.iret B q (by decide +kernel)
      · rw [if_neg h7] at hm
        refine XW.bk B [(118, .iload 4)] (by decide +kernel) (pc1 := 120) (ls1 := [some (aR 0 0), some (aI v1), some (aI v2), some (aI v3), some (aI v4), some (aI v5)]) (st1 := [aI v4]) (σ1 := σ) (P := []) rfl trivial ?_
        obtain ⟨rfl, rfl⟩ := Prod.mk.inj (Option.some.inj hm)
        exact XW.iret B q (by decide +kernel)
    · rw [if_neg h6] at hm
      refine XW.bk B [(50, .aload_n 0), (51, .iload_n 1), (52, .iconst 0), (53, .iload 5)] (by decide +kernel) (pc1 := 55) (ls1 := [some (aR 0 0), some (aI v1), some (aI v2), some (aI v3), some (aI v4), some (aI v5)]) (st1 := [aI v5, aI (0 : Int32), aI v1, aR 0 0]) (σ1 := σ) (P := []) rfl trivial ?_
      obtain ⟨q8, hq8, hm⟩ := obind_eq hm
      refine XW.callV B (M := M_X11_walks) (t := 0) (j := 0) (cn := 1) (as := [aI v1, aI (0 : Int32), aI v5]) (c_X11_walks v1 (0 : Int32) v5 σ hq8) (by decide) wV_X11_walks wN_X11_walks lk_X11_227 rfl rfl rfl (by decide) rfl (Nat.le_of_ble_eq_true rfl) (by decide +kernel) ?_
      refine XW.bb B [(58, .iload 4)] (by decide +kernel) (pc1 := 60) (ls1 := [some (aR 0 0), some (aI v1), some (aI v2), some (aI v3), some (aI v4), some (aI v5)]) (st1 := [aI v4]) (σ1 := q8) (P := []) (i := .ifCond .lt 12) (tgt := 72) (q := v4 < (0 : Int32)) rfl trivial (by decide +kernel) rfl (by decide) (fun h9 => ?_) (fun h9 => ?_)
      · rw [if_pos h9] at hm
        refine XW.bb B [(72, .iload 5), (74, .goto 4), (78, .istore_n 3), (79, .iload 4)] (by decide +kernel) (pc1 := 81) (ls1 := [some (aR 0 0), some (aI v1), some (aI v2), some (aI v5), some (aI v4), some (aI v5)]) (st1 := [aI v4]) (σ1 := q8) (P := []) (i := .ifCond .lt 12) (tgt := 93) (q := v4 < (0 : Int32)) rfl trivial (by decide +kernel) rfl (by decide) (fun _ => ?_) (fun h => absurd h9 h)
        refine XW.bk B [(93, .aload_n 0), (94, .getfield 210), (97, .goto 5), (102, .istore 4), (104, .iinc 5 1), (107, .goto (-64))] (by decide +kernel) (pc1 := 43) (ls1 := [some (aR 0 0), some (aI v1), some (aI v2), some (aI v5), some (aI (q8.1 0 0 19)), some (aI (v5 + (1 : Int32)))]) (st1 := []) (σ1 := q8) (P := []) rfl trivial ?_
        exact ih v1 v2 v5 (q8.1 0 0 19) (v5 + (1 : Int32)) q8 hm
      · rw [if_neg h9] at hm
        refine XW.bb B [(63, .aload_n 0), (64, .getfield 210), (67, .iload 4)] (by decide +kernel) (pc1 := 69) (ls1 := [some (aR 0 0), some (aI v1), some (aI v2), some (aI v3), some (aI v4), some (aI v5)]) (st1 := [aI v4, aI (q8.1 0 0 19)]) (σ1 := q8) (P := []) (i := .if_icmp .ge 8) (tgt := 77) (q := v4 ≤ (q8.1 0 0 19)) rfl trivial (by decide +kernel) rfl (by decide) (fun h10 => ?_) (fun h10 => ?_)
        · rw [if_pos h10] at hm
          refine XW.bb B [(77, .iload_n 3), (78, .istore_n 3), (79, .iload 4)] (by decide +kernel) (pc1 := 81) (ls1 := [some (aR 0 0), some (aI v1), some (aI v2), some (aI v3), some (aI v4), some (aI v5)]) (st1 := [aI v4]) (σ1 := q8) (P := []) (i := .ifCond .lt 12) (tgt := 93) (q := v4 < (0 : Int32)) rfl trivial (by decide +kernel) rfl (by decide) (fun h => absurd h h9) (fun _ => ?_)
          refine XW.bb B [(84, .aload_n 0), (85, .getfield 210), (88, .iload 4)] (by decide +kernel) (pc1 := 90) (ls1 := [some (aR 0 0), some (aI v1), some (aI v2), some (aI v3), some (aI v4), some (aI v5)]) (st1 := [aI v4, aI (q8.1 0 0 19)]) (σ1 := q8) (P := []) (i := .if_icmp .ge 10) (tgt := 100) (q := v4 ≤ (q8.1 0 0 19)) rfl trivial (by decide +kernel) rfl (by decide) (fun _ => ?_) (fun h => absurd h10 h)
          refine XW.bk B [(100, .iload 4), (102, .istore 4), (104, .iinc 5 1), (107, .goto (-64))] (by decide +kernel) (pc1 := 43) (ls1 := [some (aR 0 0), some (aI v1), some (aI v2), some (aI v3), some (aI v4), some (aI (v5 + (1 : Int32)))]) (st1 := []) (σ1 := q8) (P := []) rfl trivial ?_
          exact ih v1 v2 v3 v4 (v5 + (1 : Int32)) q8 hm
        · rw [if_neg h10] at hm
          refine XW.bb B [(72, .iload 5), (74, .goto 4), (78, .istore_n 3), (79, .iload 4)] (by decide +kernel) (pc1 := 81) (ls1 := [some (aR 0 0), some (aI v1), some (aI v2), some (aI v5), some (aI v4), some (aI v5)]) (st1 := [aI v4]) (σ1 := q8) (P := []) (i := .ifCond .lt 12) (tgt := 93) (q := v4 < (0 : Int32)) rfl trivial (by decide +kernel) rfl (by decide) (fun h => absurd h h9) (fun _ => ?_)
          refine XW.bb B [(84, .aload_n 0), (85, .getfield 210), (88, .iload 4)] (by decide +kernel) (pc1 := 90) (ls1 := [some (aR 0 0), some (aI v1), some (aI v2), some (aI v5), some (aI v4), some (aI v5)]) (st1 := [aI v4, aI (q8.1 0 0 19)]) (σ1 := q8) (P := []) (i := .if_icmp .ge 10) (tgt := 100) (q := v4 ≤ (q8.1 0 0 19)) rfl trivial (by decide +kernel) rfl (by decide) (fun h => absurd h h10) (fun _ => ?_)
          refine XW.bk B [(93, .aload_n 0), (94, .getfield 210), (97, .goto 5), (102, .istore 4), (104, .iinc 5 1), (107, .goto (-64))] (by decide +kernel) (pc1 := 43) (ls1 := [some (aR 0 0), some (aI v1), some (aI v2), some (aI v5), some (aI (q8.1 0 0 19)), some (aI (v5 + (1 : Int32)))]) (st1 := []) (σ1 := q8) (P := []) rfl trivial ?_
          exact ih v1 v2 v5 (q8.1 0 0 19) (v5 + (1 : Int32)) q8 hm
set_option maxRecDepth 100000 in
set_option maxHeartbeats 4000000 in
theorem c_X11_start (x1 : Int32) (x2 : Int32) (σ : SS) {r : Int32} {σ' : SS} (hm : m_X11_start x1 x2 σ = some (r, σ')) : XM LM 66 M_X11_start [aR 0 0, aI x1, aI x2] σ (some (aI r)) σ' := by
  refine XM.of (K := K11) (by decide) (by decide +kernel) K11_ok (Nat.le_of_ble_eq_true rfl) (fun Γ B q => ?_)
  unfold m_X11_start at hm
  refine XW.bk B [(0, .aload_n 0), (1, .iload_n 1)] (by decide +kernel) (pc1 := 2) (ls1 := [some (aR 0 0), some (aI x1), some (aI x2), none, none, none]) (st1 := [aI x1, aR 0 0]) (σ1 := σ) (P := []) rfl trivial ?_
  obtain ⟨q1, hq1, hm⟩ := obind_eq hm
  refine XW.callV B (M := M_X11_bytesIs) (t := 0) (j := 0) (cn := 1) (as := [aI x1]) (c_X11_bytesIs x1 σ hq1) (by decide) wV_X11_bytesIs wN_X11_bytesIs lk_X11_204 rfl rfl rfl (by decide) rfl (Nat.le_of_ble_eq_true rfl) (by decide +kernel) ?_
  refine XW.bb B [(5, .iconst (-1))] (by decide +kernel) (pc1 := 6) (ls1 := [some (aR 0 0), some (aI x1), some (aI x2), none, none, none]) (st1 := [aI (-1 : Int32), aI q1]) (σ1 := σ) (P := []) (i := .if_icmp .eq 13) (tgt := 19) (q := q1 = (-1 : Int32)) rfl trivial (by decide +kernel) rfl (by decide) (fun h2 => ?_) (fun h2 => ?_)
  · rw [if_pos h2] at hm
    refine XW.bk B [(19, .iconst (-1))] (by decide +kernel) (pc1 := 20) (ls1 := [some (aR 0 0), some (aI x1), some (aI x2), none, none, none]) (st1 := [aI (-1 : Int32)]) (σ1 := σ) (P := []) rfl trivial ?_
    obtain ⟨rfl, rfl⟩ := Prod.mk.inj (Option.some.inj hm)
    exact XW.iret B q (by decide +kernel)
  · rw [if_neg h2] at hm
    refine XW.bk B [(9, .iload_n 2), (10, .i2l), (11, .lconst 0), (12, .lconst 1)] (by decide +kernel) (pc1 := 13) (ls1 := [some (aR 0 0), some (aI x1), some (aI x2), none, none, none]) (st1 := [aJ (1 : Int64), aJ (0 : Int64), aJ x2.toInt64]) (σ1 := σ) (P := []) rfl trivial ?_
    refine XW.callS B (M := M_X11_within) (as := [aJ x2.toInt64, aJ (0 : Int64), aJ (1 : Int64)]) (c_X11_within x2.toInt64 (0 : Int64) (1 : Int64) σ rfl) (by decide) wS_X11_within wN_X11_within lk_X11_84 rfl (Nat.le_of_ble_eq_true rfl) (by decide +kernel) ?_
    refine XW.bn B [] (by decide +kernel) (pc1 := 16) (ls1 := [some (aR 0 0), some (aI x1), some (aI x2), none, none, none]) (st1 := [aI (m_X11_within x2.toInt64 (0 : Int64) (1 : Int64))]) (σ1 := σ) (P := []) (i := .ifCond .ne 5) (tgt := 21) (q := (m_X11_within x2.toInt64 (0 : Int64) (1 : Int64)) = (0 : Int32)) rfl trivial (by decide +kernel) rfl (by decide) (fun h3 => ?_) (fun h3 => ?_)
    · rw [if_pos h3] at hm
      refine XW.bk B [(19, .iconst (-1))] (by decide +kernel) (pc1 := 20) (ls1 := [some (aR 0 0), some (aI x1), some (aI x2), none, none, none]) (st1 := [aI (-1 : Int32)]) (σ1 := σ) (P := []) rfl trivial ?_
      obtain ⟨rfl, rfl⟩ := Prod.mk.inj (Option.some.inj hm)
      exact XW.iret B q (by decide +kernel)
    · rw [if_neg h3] at hm
      refine XW.bk B [(21, .aload_n 0), (22, .iload_n 1)] (by decide +kernel) (pc1 := 23) (ls1 := [some (aR 0 0), some (aI x1), some (aI x2), none, none, none]) (st1 := [aI x1, aR 0 0]) (σ1 := σ) (P := []) rfl trivial ?_
      obtain ⟨q4, hq4, hm⟩ := obind_eq hm
      refine XW.callV B (M := M_X11_walkIs) (t := 0) (j := 0) (cn := 1) (as := [aI x1]) (c_X11_walkIs x1 σ hq4) (by decide) wV_X11_walkIs wN_X11_walkIs lk_X11_224 rfl rfl rfl (by decide) rfl (Nat.le_of_ble_eq_true rfl) (by decide +kernel) ?_
      refine XW.bb B [] (by decide +kernel) (pc1 := 26) (ls1 := [some (aR 0 0), some (aI x1), some (aI x2), none, none, none]) (st1 := [aI q4]) (σ1 := σ) (P := []) (i := .ifCond .ge 9) (tgt := 35) (q := (0 : Int32) ≤ q4) rfl trivial (by decide +kernel) rfl (by decide) (fun h5 => ?_) (fun h5 => ?_)
      · rw [if_pos h5] at hm
        refine XW.bk B [(35, .iconst 0), (36, .istore_n 3), (37, .iconst (-1)), (38, .istore 4), (40, .iconst 0), (41, .istore 5)] (by decide +kernel) (pc1 := 43) (ls1 := [some (aR 0 0), some (aI x1), some (aI x2), some (aI (0 : Int32)), some (aI (-1 : Int32)), some (aI (0 : Int32))]) (st1 := []) (σ1 := σ) (P := []) rfl trivial ?_
        exact lp_X11_start_43 B q FU x1 x2 (0 : Int32) (-1 : Int32) (0 : Int32) σ hm
      · rw [if_neg h5] at hm
        refine XW.bk B [(29, .aload_n 0), (30, .iload_n 1)] (by decide +kernel) (pc1 := 31) (ls1 := [some (aR 0 0), some (aI x1), some (aI x2), none, none, none]) (st1 := [aI x1, aR 0 0]) (σ1 := σ) (P := []) rfl trivial ?_
        obtain ⟨q11, hq11, hm⟩ := obind_eq hm
        refine XW.callV B (M := M_X11_walkIs) (t := 0) (j := 0) (cn := 1) (as := [aI x1]) (c_X11_walkIs x1 σ hq11) (by decide) wV_X11_walkIs wN_X11_walkIs lk_X11_224 rfl rfl rfl (by decide) rfl (Nat.le_of_ble_eq_true rfl) (by decide +kernel) ?_
        obtain ⟨rfl, rfl⟩ := Prod.mk.inj (Option.some.inj hm)
        exact XW.iret B q (by decide +kernel)

def m_X11_turned (x1 : Int32) (x2 : Int32) : Int32 :=
  if x1 = x2 then
    (0 : Int32)
  else
  (1 : Int32)
set_option maxRecDepth 100000 in
set_option maxHeartbeats 4000000 in
theorem c_X11_turned (x1 : Int32) (x2 : Int32) (σ : SS) {r : Int32} (hm : m_X11_turned x1 x2 = r) : XM LM 1 M_X11_turned [aR 0 0, aI x1, aI x2] σ (some (aI r)) σ := by
  refine XM.of (K := K11) (by decide) (by decide +kernel) K11_ok (Nat.le_of_ble_eq_true rfl) (fun Γ B q => ?_)
  unfold m_X11_turned at hm
  refine XW.bn B [(0, .iload_n 1), (1, .iload_n 2)] (by decide +kernel) (pc1 := 2) (ls1 := [some (aR 0 0), some (aI x1), some (aI x2)]) (st1 := [aI x2, aI x1]) (σ1 := σ) (P := []) (i := .if_icmp .ne 7) (tgt := 9) (q := x1 = x2) rfl trivial (by decide +kernel) rfl (by decide) (fun h1 => ?_) (fun h1 => ?_)
  · rw [if_pos h1] at hm
    refine XW.bk B [(5, .iconst 0), (6, .goto 4)] (by decide +kernel) (pc1 := 10) (ls1 := [some (aR 0 0), some (aI x1), some (aI x2)]) (st1 := [aI (0 : Int32)]) (σ1 := σ) (P := []) rfl trivial ?_
    subst hm
    exact XW.iret B q (by decide +kernel)
  · rw [if_neg h1] at hm
    refine XW.bk B [(9, .iconst 1)] (by decide +kernel) (pc1 := 10) (ls1 := [some (aR 0 0), some (aI x1), some (aI x2)]) (st1 := [aI (1 : Int32)]) (σ1 := σ) (P := []) rfl trivial ?_
    subst hm
    exact XW.iret B q (by decide +kernel)

def L_X11_bestHeld_8 : Nat → Int32 → Int32 → Int32 → Int32 → Int32 → SS → Option (Int32)
  | 0, _, _, _, _, _, _ => none
  | n + 1, v1, v2, v3, v4, v5, σ =>
    if ((72 : Int32) + v1) < 0 ∨ 88 ≤ ((72 : Int32) + v1).toNatClampNeg then none else
    if (σ.2.1 1 0 ((72 : Int32) + v1).toNatClampNeg) < v5 then
      some v3
    else
    if (((4 : Int32) * v1) + v5) < 0 ∨ 52 ≤ (((4 : Int32) * v1) + v5).toNatClampNeg then none else
    if (0 : Int32) ≤ v2 then
      if v3 < (0 : Int32) then
        L_X11_bestHeld_8 n v1 v2 v5 ((σ.2.1 8 0 (((4 : Int32) * v1) + v5).toNatClampNeg) + (m_X11_turned v2 v5)) (v5 + (1 : Int32)) σ
      else
      if v4 ≤ ((σ.2.1 8 0 (((4 : Int32) * v1) + v5).toNatClampNeg) + (m_X11_turned v2 v5)) then
        L_X11_bestHeld_8 n v1 v2 v3 v4 (v5 + (1 : Int32)) σ
      else
      L_X11_bestHeld_8 n v1 v2 v5 ((σ.2.1 8 0 (((4 : Int32) * v1) + v5).toNatClampNeg) + (m_X11_turned v2 v5)) (v5 + (1 : Int32)) σ
    else
    if v3 < (0 : Int32) then
      L_X11_bestHeld_8 n v1 v2 v5 ((σ.2.1 8 0 (((4 : Int32) * v1) + v5).toNatClampNeg) + (0 : Int32)) (v5 + (1 : Int32)) σ
    else
    if v4 ≤ ((σ.2.1 8 0 (((4 : Int32) * v1) + v5).toNatClampNeg) + (0 : Int32)) then
      L_X11_bestHeld_8 n v1 v2 v3 v4 (v5 + (1 : Int32)) σ
    else
    L_X11_bestHeld_8 n v1 v2 v5 ((σ.2.1 8 0 (((4 : Int32) * v1) + v5).toNatClampNeg) + (0 : Int32)) (v5 + (1 : Int32)) σ
def m_X11_bestHeld (x1 : Int32) (x2 : Int32) (σ : SS) : Option (Int32) :=
  L_X11_bestHeld_8 FU x1 x2 (-1 : Int32) (0 : Int32) (0 : Int32) σ
set_option maxRecDepth 100000 in
set_option maxHeartbeats 4000000 in
theorem lp_X11_bestHeld_8 {Γ : XC} {r : Int32} {σ0 : SS} (B : XB Γ cX11_bestHeld RX11 2 K11 LM 8) (q : XQ Γ (some .int) (some (aI r)) σ0) : ∀ (n : Nat) (v1 : Int32) (v2 : Int32) (v3 : Int32) (v4 : Int32) (v5 : Int32) (σ : SS), σ = σ0 → L_X11_bestHeld_8 n v1 v2 v3 v4 v5 σ = some r → XW Γ 8 [some (aR 0 0), some (aI v1), some (aI v2), some (aI v3), some (aI v4), some (aI v5), none, none] [] σ := by
  intro n
  induction n with
  | zero => intro v1 v2 v3 v4 v5 σ hσ hm; cases hm
  | succ n ih =>
    intro v1 v2 v3 v4 v5 σ hσ hm
    subst hσ
    rw [L_X11_bestHeld_8] at hm
    refine XW.bk B [(8, .iload 5), (10, .aload_n 0), (11, .getfield 11), (14, .bipush 72), (16, .iload_n 1), (17, .iadd)] (by decide +kernel) (pc1 := 18) (ls1 := [some (aR 0 0), some (aI v1), some (aI v2), some (aI v3), some (aI v4), some (aI v5), none, none]) (st1 := [aI ((72 : Int32) + v1), aR 1 0, aI v5]) (σ1 := σ) (P := []) rfl trivial ?_
    by_cases g1 : ((72 : Int32) + v1) < 0 ∨ 88 ≤ ((72 : Int32) + v1).toNatClampNeg
    · rw [if_pos g1] at hm; cases hm
    rw [if_neg g1] at hm
    refine XW.bb B [(18, .iaload)] (by decide +kernel) (pc1 := 19) (ls1 := [some (aR 0 0), some (aI v1), some (aI v2), some (aI v3), some (aI v4), some (aI v5), none, none]) (st1 := [aI (σ.2.1 1 0 ((72 : Int32) + v1).toNatClampNeg), aI v5]) (σ1 := σ) (P := [vp_in ((72 : Int32) + v1) 88]) (i := .if_icmp .gt 82) (tgt := 101) (q := (σ.2.1 1 0 ((72 : Int32) + v1).toNatClampNeg) < v5) rfl ⟨g1, trivial⟩ (by decide +kernel) rfl (by decide) (fun h2 => ?_) (fun h2 => ?_)
    · rw [if_pos h2] at hm
      refine XW.bk B [(101, .iload_n 3)] (by decide +kernel) (pc1 := 102) (ls1 := [some (aR 0 0), some (aI v1), some (aI v2), some (aI v3), some (aI v4), some (aI v5), none, none]) (st1 := [aI v3]) (σ1 := σ) (P := []) rfl trivial ?_
      obtain rfl := Option.some.inj hm
      exact XW.iret B q (by decide +kernel)
    · rw [if_neg h2] at hm
      refine XW.bk B [(22, .aload_n 0), (23, .getfield 33), (26, .iconst 4), (27, .iload_n 1), (28, .imul), (29, .iload 5), (31, .iadd)] (by decide +kernel) (pc1 := 32) (ls1 := [some (aR 0 0), some (aI v1), some (aI v2), some (aI v3), some (aI v4), some (aI v5), none, none]) (st1 := [aI (((4 : Int32) * v1) + v5), aR 8 0]) (σ1 := σ) (P := []) rfl trivial ?_
      by_cases g3 : (((4 : Int32) * v1) + v5) < 0 ∨ 52 ≤ (((4 : Int32) * v1) + v5).toNatClampNeg
      · rw [if_pos g3] at hm; cases hm
      rw [if_neg g3] at hm
      refine XW.bb B [(32, .iaload), (33, .iload_n 2)] (by decide +kernel) (pc1 := 34) (ls1 := [some (aR 0 0), some (aI v1), some (aI v2), some (aI v3), some (aI v4), some (aI v5), none, none]) (st1 := [aI v2, aI (σ.2.1 8 0 (((4 : Int32) * v1) + v5).toNatClampNeg)]) (σ1 := σ) (P := [vp_in (((4 : Int32) * v1) + v5) 52]) (i := .ifCond .ge 7) (tgt := 41) (q := (0 : Int32) ≤ v2) rfl ⟨g3, trivial⟩ (by decide +kernel) rfl (by decide) (fun h4 => ?_) (fun h4 => ?_)
      · rw [if_pos h4] at hm
        refine XW.bk B [(41, .aload_n 0), (42, .iload_n 2), (43, .iload 5)] (by decide +kernel) (pc1 := 45) (ls1 := [some (aR 0 0), some (aI v1), some (aI v2), some (aI v3), some (aI v4), some (aI v5), none, none]) (st1 := [aI v5, aI v2, aR 0 0, aI (σ.2.1 8 0 (((4 : Int32) * v1) + v5).toNatClampNeg)]) (σ1 := σ) (P := []) rfl trivial ?_
        refine XW.callV B (M := M_X11_turned) (t := 0) (j := 0) (cn := 1) (as := [aI v2, aI v5]) (c_X11_turned v2 v5 σ rfl) (by decide) wV_X11_turned wN_X11_turned lk_X11_233 rfl rfl rfl (by decide) rfl (Nat.le_of_ble_eq_true rfl) (by decide +kernel) ?_
        refine XW.bb B [(48, .iadd), (49, .istore 6), (51, .iload_n 3)] (by decide +kernel) (pc1 := 52) (ls1 := [some (aR 0 0), some (aI v1), some (aI v2), some (aI v3), some (aI v4), some (aI v5), some (aI ((σ.2.1 8 0 (((4 : Int32) * v1) + v5).toNatClampNeg) + (m_X11_turned v2 v5))), none]) (st1 := [aI v3]) (σ1 := σ) (P := []) (i := .ifCond .lt 10) (tgt := 62) (q := v3 < (0 : Int32)) rfl trivial (by decide +kernel) rfl (by decide) (fun h5 => ?_) (fun h5 => ?_)
        · rw [if_pos h5] at hm
          refine XW.bb B [(62, .iconst 1), (63, .goto 4), (67, .istore 7), (69, .iload 7)] (by decide +kernel) (pc1 := 71) (ls1 := [some (aR 0 0), some (aI v1), some (aI v2), some (aI v3), some (aI v4), some (aI v5), some (aI ((σ.2.1 8 0 (((4 : Int32) * v1) + v5).toNatClampNeg) + (m_X11_turned v2 v5))), some (aI (1 : Int32))]) (st1 := [aI (1 : Int32)]) (σ1 := σ) (P := []) (i := .ifCond .eq 8) (tgt := 79) (q := (1 : Int32) = (0 : Int32)) rfl trivial (by decide +kernel) rfl (by decide) (fun h => absurd h (by decide)) (fun _ => ?_)
          refine XW.bb B [(74, .iload 5), (76, .goto 4), (80, .istore_n 3), (81, .iload 7)] (by decide +kernel) (pc1 := 83) (ls1 := [some (aR 0 0), some (aI v1), some (aI v2), some (aI v5), some (aI v4), some (aI v5), some (aI ((σ.2.1 8 0 (((4 : Int32) * v1) + v5).toNatClampNeg) + (m_X11_turned v2 v5))), some (aI (1 : Int32))]) (st1 := [aI (1 : Int32)]) (σ1 := σ) (P := []) (i := .ifCond .eq 8) (tgt := 91) (q := (1 : Int32) = (0 : Int32)) rfl trivial (by decide +kernel) rfl (by decide) (fun h => absurd h (by decide)) (fun _ => ?_)
          refine XW.bk B [(86, .iload 6), (88, .goto 5), (93, .istore 4), (95, .iinc 5 1), (98, .goto (-90))] (by decide +kernel) (pc1 := 8) (ls1 := [some (aR 0 0), some (aI v1), some (aI v2), some (aI v5), some (aI ((σ.2.1 8 0 (((4 : Int32) * v1) + v5).toNatClampNeg) + (m_X11_turned v2 v5))), some (aI (v5 + (1 : Int32))), some (aI ((σ.2.1 8 0 (((4 : Int32) * v1) + v5).toNatClampNeg) + (m_X11_turned v2 v5))), some (aI (1 : Int32))]) (st1 := []) (σ1 := σ) (P := []) rfl trivial ?_
          refine XW.loc [true, true, true, true, true, true, false, false] rfl ?_
          exact ih v1 v2 v5 ((σ.2.1 8 0 (((4 : Int32) * v1) + v5).toNatClampNeg) + (m_X11_turned v2 v5)) (v5 + (1 : Int32)) σ rfl hm
        · rw [if_neg h5] at hm
          refine XW.bb B [(55, .iload 6), (57, .iload 4)] (by decide +kernel) (pc1 := 59) (ls1 := [some (aR 0 0), some (aI v1), some (aI v2), some (aI v3), some (aI v4), some (aI v5), some (aI ((σ.2.1 8 0 (((4 : Int32) * v1) + v5).toNatClampNeg) + (m_X11_turned v2 v5))), none]) (st1 := [aI v4, aI ((σ.2.1 8 0 (((4 : Int32) * v1) + v5).toNatClampNeg) + (m_X11_turned v2 v5))]) (σ1 := σ) (P := []) (i := .if_icmp .ge 7) (tgt := 66) (q := v4 ≤ ((σ.2.1 8 0 (((4 : Int32) * v1) + v5).toNatClampNeg) + (m_X11_turned v2 v5))) rfl trivial (by decide +kernel) rfl (by decide) (fun h6 => ?_) (fun h6 => ?_)
          · rw [if_pos h6] at hm
            refine XW.bb B [(66, .iconst 0), (67, .istore 7), (69, .iload 7)] (by decide +kernel) (pc1 := 71) (ls1 := [some (aR 0 0), some (aI v1), some (aI v2), some (aI v3), some (aI v4), some (aI v5), some (aI ((σ.2.1 8 0 (((4 : Int32) * v1) + v5).toNatClampNeg) + (m_X11_turned v2 v5))), some (aI (0 : Int32))]) (st1 := [aI (0 : Int32)]) (σ1 := σ) (P := []) (i := .ifCond .eq 8) (tgt := 79) (q := (0 : Int32) = (0 : Int32)) rfl trivial (by decide +kernel) rfl (by decide) (fun _ => ?_) (fun h => absurd (by decide) h)
            refine XW.bb B [(79, .iload_n 3), (80, .istore_n 3), (81, .iload 7)] (by decide +kernel) (pc1 := 83) (ls1 := [some (aR 0 0), some (aI v1), some (aI v2), some (aI v3), some (aI v4), some (aI v5), some (aI ((σ.2.1 8 0 (((4 : Int32) * v1) + v5).toNatClampNeg) + (m_X11_turned v2 v5))), some (aI (0 : Int32))]) (st1 := [aI (0 : Int32)]) (σ1 := σ) (P := []) (i := .ifCond .eq 8) (tgt := 91) (q := (0 : Int32) = (0 : Int32)) rfl trivial (by decide +kernel) rfl (by decide) (fun _ => ?_) (fun h => absurd (by decide) h)
            refine XW.bk B [(91, .iload 4), (93, .istore 4), (95, .iinc 5 1), (98, .goto (-90))] (by decide +kernel) (pc1 := 8) (ls1 := [some (aR 0 0), some (aI v1), some (aI v2), some (aI v3), some (aI v4), some (aI (v5 + (1 : Int32))), some (aI ((σ.2.1 8 0 (((4 : Int32) * v1) + v5).toNatClampNeg) + (m_X11_turned v2 v5))), some (aI (0 : Int32))]) (st1 := []) (σ1 := σ) (P := []) rfl trivial ?_
            refine XW.loc [true, true, true, true, true, true, false, false] rfl ?_
            exact ih v1 v2 v3 v4 (v5 + (1 : Int32)) σ rfl hm
          · rw [if_neg h6] at hm
            refine XW.bb B [(62, .iconst 1), (63, .goto 4), (67, .istore 7), (69, .iload 7)] (by decide +kernel) (pc1 := 71) (ls1 := [some (aR 0 0), some (aI v1), some (aI v2), some (aI v3), some (aI v4), some (aI v5), some (aI ((σ.2.1 8 0 (((4 : Int32) * v1) + v5).toNatClampNeg) + (m_X11_turned v2 v5))), some (aI (1 : Int32))]) (st1 := [aI (1 : Int32)]) (σ1 := σ) (P := []) (i := .ifCond .eq 8) (tgt := 79) (q := (1 : Int32) = (0 : Int32)) rfl trivial (by decide +kernel) rfl (by decide) (fun h => absurd h (by decide)) (fun _ => ?_)
            refine XW.bb B [(74, .iload 5), (76, .goto 4), (80, .istore_n 3), (81, .iload 7)] (by decide +kernel) (pc1 := 83) (ls1 := [some (aR 0 0), some (aI v1), some (aI v2), some (aI v5), some (aI v4), some (aI v5), some (aI ((σ.2.1 8 0 (((4 : Int32) * v1) + v5).toNatClampNeg) + (m_X11_turned v2 v5))), some (aI (1 : Int32))]) (st1 := [aI (1 : Int32)]) (σ1 := σ) (P := []) (i := .ifCond .eq 8) (tgt := 91) (q := (1 : Int32) = (0 : Int32)) rfl trivial (by decide +kernel) rfl (by decide) (fun h => absurd h (by decide)) (fun _ => ?_)
            refine XW.bk B [(86, .iload 6), (88, .goto 5), (93, .istore 4), (95, .iinc 5 1), (98, .goto (-90))] (by decide +kernel) (pc1 := 8) (ls1 := [some (aR 0 0), some (aI v1), some (aI v2), some (aI v5), some (aI ((σ.2.1 8 0 (((4 : Int32) * v1) + v5).toNatClampNeg) + (m_X11_turned v2 v5))), some (aI (v5 + (1 : Int32))), some (aI ((σ.2.1 8 0 (((4 : Int32) * v1) + v5).toNatClampNeg) + (m_X11_turned v2 v5))), some (aI (1 : Int32))]) (st1 := []) (σ1 := σ) (P := []) rfl trivial ?_
            refine XW.loc [true, true, true, true, true, true, false, false] rfl ?_
            exact ih v1 v2 v5 ((σ.2.1 8 0 (((4 : Int32) * v1) + v5).toNatClampNeg) + (m_X11_turned v2 v5)) (v5 + (1 : Int32)) σ rfl hm
      · rw [if_neg h4] at hm
        refine XW.bb B [(37, .iconst 0), (38, .goto 10), (48, .iadd), (49, .istore 6), (51, .iload_n 3)] (by decide +kernel) (pc1 := 52) (ls1 := [some (aR 0 0), some (aI v1), some (aI v2), some (aI v3), some (aI v4), some (aI v5), some (aI ((σ.2.1 8 0 (((4 : Int32) * v1) + v5).toNatClampNeg) + (0 : Int32))), none]) (st1 := [aI v3]) (σ1 := σ) (P := []) (i := .ifCond .lt 10) (tgt := 62) (q := v3 < (0 : Int32)) rfl trivial (by decide +kernel) rfl (by decide) (fun h7 => ?_) (fun h7 => ?_)
        · rw [if_pos h7] at hm
          refine XW.bb B [(62, .iconst 1), (63, .goto 4), (67, .istore 7), (69, .iload 7)] (by decide +kernel) (pc1 := 71) (ls1 := [some (aR 0 0), some (aI v1), some (aI v2), some (aI v3), some (aI v4), some (aI v5), some (aI ((σ.2.1 8 0 (((4 : Int32) * v1) + v5).toNatClampNeg) + (0 : Int32))), some (aI (1 : Int32))]) (st1 := [aI (1 : Int32)]) (σ1 := σ) (P := []) (i := .ifCond .eq 8) (tgt := 79) (q := (1 : Int32) = (0 : Int32)) rfl trivial (by decide +kernel) rfl (by decide) (fun h => absurd h (by decide)) (fun _ => ?_)
          refine XW.bb B [(74, .iload 5), (76, .goto 4), (80, .istore_n 3), (81, .iload 7)] (by decide +kernel) (pc1 := 83) (ls1 := [some (aR 0 0), some (aI v1), some (aI v2), some (aI v5), some (aI v4), some (aI v5), some (aI ((σ.2.1 8 0 (((4 : Int32) * v1) + v5).toNatClampNeg) + (0 : Int32))), some (aI (1 : Int32))]) (st1 := [aI (1 : Int32)]) (σ1 := σ) (P := []) (i := .ifCond .eq 8) (tgt := 91) (q := (1 : Int32) = (0 : Int32)) rfl trivial (by decide +kernel) rfl (by decide) (fun h => absurd h (by decide)) (fun _ => ?_)
          refine XW.bk B [(86, .iload 6), (88, .goto 5), (93, .istore 4), (95, .iinc 5 1), (98, .goto (-90))] (by decide +kernel) (pc1 := 8) (ls1 := [some (aR 0 0), some (aI v1), some (aI v2), some (aI v5), some (aI ((σ.2.1 8 0 (((4 : Int32) * v1) + v5).toNatClampNeg) + (0 : Int32))), some (aI (v5 + (1 : Int32))), some (aI ((σ.2.1 8 0 (((4 : Int32) * v1) + v5).toNatClampNeg) + (0 : Int32))), some (aI (1 : Int32))]) (st1 := []) (σ1 := σ) (P := []) rfl trivial ?_
          refine XW.loc [true, true, true, true, true, true, false, false] rfl ?_
          exact ih v1 v2 v5 ((σ.2.1 8 0 (((4 : Int32) * v1) + v5).toNatClampNeg) + (0 : Int32)) (v5 + (1 : Int32)) σ rfl hm
        · rw [if_neg h7] at hm
          refine XW.bb B [(55, .iload 6), (57, .iload 4)] (by decide +kernel) (pc1 := 59) (ls1 := [some (aR 0 0), some (aI v1), some (aI v2), some (aI v3), some (aI v4), some (aI v5), some (aI ((σ.2.1 8 0 (((4 : Int32) * v1) + v5).toNatClampNeg) + (0 : Int32))), none]) (st1 := [aI v4, aI ((σ.2.1 8 0 (((4 : Int32) * v1) + v5).toNatClampNeg) + (0 : Int32))]) (σ1 := σ) (P := []) (i := .if_icmp .ge 7) (tgt := 66) (q := v4 ≤ ((σ.2.1 8 0 (((4 : Int32) * v1) + v5).toNatClampNeg) + (0 : Int32))) rfl trivial (by decide +kernel) rfl (by decide) (fun h8 => ?_) (fun h8 => ?_)
          · rw [if_pos h8] at hm
            refine XW.bb B [(66, .iconst 0), (67, .istore 7), (69, .iload 7)] (by decide +kernel) (pc1 := 71) (ls1 := [some (aR 0 0), some (aI v1), some (aI v2), some (aI v3), some (aI v4), some (aI v5), some (aI ((σ.2.1 8 0 (((4 : Int32) * v1) + v5).toNatClampNeg) + (0 : Int32))), some (aI (0 : Int32))]) (st1 := [aI (0 : Int32)]) (σ1 := σ) (P := []) (i := .ifCond .eq 8) (tgt := 79) (q := (0 : Int32) = (0 : Int32)) rfl trivial (by decide +kernel) rfl (by decide) (fun _ => ?_) (fun h => absurd (by decide) h)
            refine XW.bb B [(79, .iload_n 3), (80, .istore_n 3), (81, .iload 7)] (by decide +kernel) (pc1 := 83) (ls1 := [some (aR 0 0), some (aI v1), some (aI v2), some (aI v3), some (aI v4), some (aI v5), some (aI ((σ.2.1 8 0 (((4 : Int32) * v1) + v5).toNatClampNeg) + (0 : Int32))), some (aI (0 : Int32))]) (st1 := [aI (0 : Int32)]) (σ1 := σ) (P := []) (i := .ifCond .eq 8) (tgt := 91) (q := (0 : Int32) = (0 : Int32)) rfl trivial (by decide +kernel) rfl (by decide) (fun _ => ?_) (fun h => absurd (by decide) h)
            refine XW.bk B [(91, .iload 4), (93, .istore 4), (95, .iinc 5 1), (98, .goto (-90))] (by decide +kernel) (pc1 := 8) (ls1 := [some (aR 0 0), some (aI v1), some (aI v2), some (aI v3), some (aI v4), some (aI (v5 + (1 : Int32))), some (aI ((σ.2.1 8 0 (((4 : Int32) * v1) + v5).toNatClampNeg) + (0 : Int32))), some (aI (0 : Int32))]) (st1 := []) (σ1 := σ) (P := []) rfl trivial ?_
            refine XW.loc [true, true, true, true, true, true, false, false] rfl ?_
            exact ih v1 v2 v3 v4 (v5 + (1 : Int32)) σ rfl hm
          · rw [if_neg h8] at hm
            refine XW.bb B [(62, .iconst 1), (63, .goto 4), (67, .istore 7), (69, .iload 7)] (by decide +kernel) (pc1 := 71) (ls1 := [some (aR 0 0), some (aI v1), some (aI v2), some (aI v3), some (aI v4), some (aI v5), some (aI ((σ.2.1 8 0 (((4 : Int32) * v1) + v5).toNatClampNeg) + (0 : Int32))), some (aI (1 : Int32))]) (st1 := [aI (1 : Int32)]) (σ1 := σ) (P := []) (i := .ifCond .eq 8) (tgt := 79) (q := (1 : Int32) = (0 : Int32)) rfl trivial (by decide +kernel) rfl (by decide) (fun h => absurd h (by decide)) (fun _ => ?_)
            refine XW.bb B [(74, .iload 5), (76, .goto 4), (80, .istore_n 3), (81, .iload 7)] (by decide +kernel) (pc1 := 83) (ls1 := [some (aR 0 0), some (aI v1), some (aI v2), some (aI v5), some (aI v4), some (aI v5), some (aI ((σ.2.1 8 0 (((4 : Int32) * v1) + v5).toNatClampNeg) + (0 : Int32))), some (aI (1 : Int32))]) (st1 := [aI (1 : Int32)]) (σ1 := σ) (P := []) (i := .ifCond .eq 8) (tgt := 91) (q := (1 : Int32) = (0 : Int32)) rfl trivial (by decide +kernel) rfl (by decide) (fun h => absurd h (by decide)) (fun _ => ?_)
            refine XW.bk B [(86, .iload 6), (88, .goto 5), (93, .istore 4), (95, .iinc 5 1), (98, .goto (-90))] (by decide +kernel) (pc1 := 8) (ls1 := [some (aR 0 0), some (aI v1), some (aI v2), some (aI v5), some (aI ((σ.2.1 8 0 (((4 : Int32) * v1) + v5).toNatClampNeg) + (0 : Int32))), some (aI (v5 + (1 : Int32))), some (aI ((σ.2.1 8 0 (((4 : Int32) * v1) + v5).toNatClampNeg) + (0 : Int32))), some (aI (1 : Int32))]) (st1 := []) (σ1 := σ) (P := []) rfl trivial ?_
            refine XW.loc [true, true, true, true, true, true, false, false] rfl ?_
            exact ih v1 v2 v5 ((σ.2.1 8 0 (((4 : Int32) * v1) + v5).toNatClampNeg) + (0 : Int32)) (v5 + (1 : Int32)) σ rfl hm
set_option maxRecDepth 100000 in
set_option maxHeartbeats 4000000 in
theorem c_X11_bestHeld (x1 : Int32) (x2 : Int32) (σ : SS) {r : Int32} (hm : m_X11_bestHeld x1 x2 σ = some r) : XM LM 2 M_X11_bestHeld [aR 0 0, aI x1, aI x2] σ (some (aI r)) σ := by
  refine XM.of (K := K11) (by decide) (by decide +kernel) K11_ok (Nat.le_of_ble_eq_true rfl) (fun Γ B q => ?_)
  unfold m_X11_bestHeld at hm
  refine XW.bk B [(0, .iconst (-1)), (1, .istore_n 3), (2, .iconst 0), (3, .istore 4), (5, .iconst 0), (6, .istore 5)] (by decide +kernel) (pc1 := 8) (ls1 := [some (aR 0 0), some (aI x1), some (aI x2), some (aI (-1 : Int32)), some (aI (0 : Int32)), some (aI (0 : Int32)), none, none]) (st1 := []) (σ1 := σ) (P := []) rfl trivial ?_
  exact lp_X11_bestHeld_8 B q FU x1 x2 (-1 : Int32) (0 : Int32) (0 : Int32) σ rfl hm

def L_X11_fillsLeast_40 : Nat → Int32 → Int32 → Int32 → SS → Option (SS)
  | 0, _, _, _, _ => none
  | n + 1, v1, v2, v3, σ =>
    if (3 : Int32) < v3 then
      some σ
    else
    Option.bind (m_X11_strainAt v2 v3 (v1 + v2) σ) (fun q4 =>
    if ((q4.2.1 0 0 6) - (1 : Int32)) ≤ v2 then
      if (((4 : Int32) * v2) + v3) < 0 ∨ 52 ≤ (((4 : Int32) * v2) + v3).toNatClampNeg then none else
      L_X11_fillsLeast_40 n v1 v2 (v3 + (1 : Int32)) (sA q4.2 8 0 (((4 : Int32) * v2) + v3).toNatClampNeg q4.1)
    else
    Option.bind (m_X11_bestHeld (v2 + (1 : Int32)) v3 q4.2) (fun q7 =>
    if (((4 : Int32) * (v2 + (1 : Int32))) + q7) < 0 ∨ 52 ≤ (((4 : Int32) * (v2 + (1 : Int32))) + q7).toNatClampNeg then none else
    if (((4 : Int32) * v2) + v3) < 0 ∨ 52 ≤ (((4 : Int32) * v2) + v3).toNatClampNeg then none else
    L_X11_fillsLeast_40 n v1 v2 (v3 + (1 : Int32)) (sA q4.2 8 0 (((4 : Int32) * v2) + v3).toNatClampNeg (q4.1 + ((q4.2.2.1 8 0 (((4 : Int32) * (v2 + (1 : Int32))) + q7).toNatClampNeg) + (m_X11_turned v3 q7))))))
def L_X11_fillsLeast_34 : Nat → Int32 → Int32 → SS → Option (SS)
  | 0, _, _, _ => none
  | n + 1, v1, v2, σ =>
    if v2 < (0 : Int32) then
      some σ
    else
    Option.bind (L_X11_fillsLeast_40 FU v1 v2 (0 : Int32) σ) (fun q10 =>
    L_X11_fillsLeast_34 n v1 (v2 + (-1 : Int32)) q10)
def L_X11_fillsLeast_2 : Nat → Int32 → Int32 → SS → Option (SS)
  | 0, _, _, _ => none
  | n + 1, v1, v2, σ =>
    if (3 : Int32) < v2 then
      L_X11_fillsLeast_34 FU v1 ((σ.1 0 0 6) - (1 : Int32)) σ
    else
    if (((4 : Int32) * (σ.1 0 0 6)) + v2) < 0 ∨ 52 ≤ (((4 : Int32) * (σ.1 0 0 6)) + v2).toNatClampNeg then none else
    L_X11_fillsLeast_2 n v1 (v2 + (1 : Int32)) (sA σ 8 0 (((4 : Int32) * (σ.1 0 0 6)) + v2).toNatClampNeg (0 : Int32))
def m_X11_fillsLeast (x1 : Int32) (σ : SS) : Option (SS) :=
  L_X11_fillsLeast_2 FU x1 (0 : Int32) σ
set_option maxRecDepth 100000 in
set_option maxHeartbeats 4000000 in
theorem lp_X11_fillsLeast_40 {Γ : XC} (B : XB Γ cX11_fillsLeast RX11 65 K11 LM 6) : ∀ (n : Nat) (v1 : Int32) (v2 : Int32) (v3 : Int32) (σ : SS) (o : SS), L_X11_fillsLeast_40 n v1 v2 v3 σ = some o → XW Γ 120 [some (aR 0 0), some (aI v1), some (aI v2), none, none, none] [] o → XW Γ 40 [some (aR 0 0), some (aI v1), some (aI v2), some (aI v3), none, none] [] σ := by
  intro n
  induction n with
  | zero => intro v1 v2 v3 σ o hm; cases hm
  | succ n ih =>
    intro v1 v2 v3 σ o hm hk
    rw [L_X11_fillsLeast_40] at hm
    refine XW.bb B [(40, .iload_n 3), (41, .iconst 3)] (by decide +kernel) (pc1 := 42) (ls1 := [some (aR 0 0), some (aI v1), some (aI v2), some (aI v3), none, none]) (st1 := [aI (3 : Int32), aI v3]) (σ1 := σ) (P := []) (i := .if_icmp .gt 78) (tgt := 120) (q := (3 : Int32) < v3) rfl trivial (by decide +kernel) rfl (by decide) (fun h3 => ?_) (fun h3 => ?_)
    · rw [if_pos h3] at hm
      refine XW.loc [true, true, true, false, false, false] rfl ?_
      obtain rfl := Option.some.inj hm
      exact hk
    · rw [if_neg h3] at hm
      refine XW.bk B [(45, .aload_n 0), (46, .iload_n 2), (47, .iload_n 3), (48, .iload_n 1), (49, .iload_n 2), (50, .iadd)] (by decide +kernel) (pc1 := 51) (ls1 := [some (aR 0 0), some (aI v1), some (aI v2), some (aI v3), none, none]) (st1 := [aI (v1 + v2), aI v3, aI v2, aR 0 0]) (σ1 := σ) (P := []) rfl trivial ?_
      obtain ⟨q4, hq4, hm⟩ := obind_eq hm
      refine XW.callV B (M := M_X11_strainAt) (t := 0) (j := 0) (cn := 1) (as := [aI v2, aI v3, aI (v1 + v2)]) (c_X11_strainAt v2 v3 (v1 + v2) σ hq4) (by decide) wV_X11_strainAt wN_X11_strainAt lk_X11_200 rfl rfl rfl (by decide) rfl (Nat.le_of_ble_eq_true rfl) (by decide +kernel) ?_
      refine XW.bb B [(54, .istore 4), (56, .iload_n 2), (57, .aload_n 0), (58, .getfield 81), (61, .iconst 1), (62, .isub)] (by decide +kernel) (pc1 := 63) (ls1 := [some (aR 0 0), some (aI v1), some (aI v2), some (aI v3), some (aI q4.1), none]) (st1 := [aI ((q4.2.1 0 0 6) - (1 : Int32)), aI v2]) (σ1 := q4.2) (P := []) (i := .if_icmp .ge 39) (tgt := 102) (q := ((q4.2.1 0 0 6) - (1 : Int32)) ≤ v2) rfl trivial (by decide +kernel) rfl (by decide) (fun h5 => ?_) (fun h5 => ?_)
      · rw [if_pos h5] at hm
        refine XW.bk B [(102, .aload_n 0), (103, .getfield 33), (106, .iconst 4), (107, .iload_n 2), (108, .imul), (109, .iload_n 3), (110, .iadd), (111, .iload 4)] (by decide +kernel) (pc1 := 113) (ls1 := [some (aR 0 0), some (aI v1), some (aI v2), some (aI v3), some (aI q4.1), none]) (st1 := [aI q4.1, aI (((4 : Int32) * v2) + v3), aR 8 0]) (σ1 := q4.2) (P := []) rfl trivial ?_
        by_cases g6 : (((4 : Int32) * v2) + v3) < 0 ∨ 52 ≤ (((4 : Int32) * v2) + v3).toNatClampNeg
        · rw [if_pos g6] at hm; cases hm
        rw [if_neg g6] at hm
        refine XW.bk B [(113, .iastore), (114, .iinc 3 1), (117, .goto (-77))] (by decide +kernel) (pc1 := 40) (ls1 := [some (aR 0 0), some (aI v1), some (aI v2), some (aI (v3 + (1 : Int32))), some (aI q4.1), none]) (st1 := []) (σ1 := (sA q4.2 8 0 (((4 : Int32) * v2) + v3).toNatClampNeg q4.1)) (P := [vp_in (((4 : Int32) * v2) + v3) 52]) rfl ⟨g6, trivial⟩ ?_
        refine XW.loc [true, true, true, true, false, false] rfl ?_
        exact ih v1 v2 (v3 + (1 : Int32)) (sA q4.2 8 0 (((4 : Int32) * v2) + v3).toNatClampNeg q4.1) _ hm hk
      · rw [if_neg h5] at hm
        refine XW.bk B [(66, .aload_n 0), (67, .iload_n 2), (68, .iconst 1), (69, .iadd), (70, .iload_n 3)] (by decide +kernel) (pc1 := 71) (ls1 := [some (aR 0 0), some (aI v1), some (aI v2), some (aI v3), some (aI q4.1), none]) (st1 := [aI v3, aI (v2 + (1 : Int32)), aR 0 0]) (σ1 := q4.2) (P := []) rfl trivial ?_
        obtain ⟨q7, hq7, hm⟩ := obind_eq hm
        refine XW.callV B (M := M_X11_bestHeld) (t := 0) (j := 0) (cn := 1) (as := [aI (v2 + (1 : Int32)), aI v3]) (c_X11_bestHeld (v2 + (1 : Int32)) v3 q4.2 hq7) (by decide) wV_X11_bestHeld wN_X11_bestHeld lk_X11_236 rfl rfl rfl (by decide) rfl (Nat.le_of_ble_eq_true rfl) (by decide +kernel) ?_
        refine XW.bk B [(74, .istore 5), (76, .iload 4), (78, .aload_n 0), (79, .getfield 33), (82, .iconst 4), (83, .iload_n 2), (84, .iconst 1), (85, .iadd), (86, .imul), (87, .iload 5), (89, .iadd)] (by decide +kernel) (pc1 := 90) (ls1 := [some (aR 0 0), some (aI v1), some (aI v2), some (aI v3), some (aI q4.1), some (aI q7)]) (st1 := [aI (((4 : Int32) * (v2 + (1 : Int32))) + q7), aR 8 0, aI q4.1]) (σ1 := q4.2) (P := []) rfl trivial ?_
        by_cases g8 : (((4 : Int32) * (v2 + (1 : Int32))) + q7) < 0 ∨ 52 ≤ (((4 : Int32) * (v2 + (1 : Int32))) + q7).toNatClampNeg
        · rw [if_pos g8] at hm; cases hm
        rw [if_neg g8] at hm
        refine XW.bk B [(90, .iaload), (91, .aload_n 0), (92, .iload_n 3), (93, .iload 5)] (by decide +kernel) (pc1 := 95) (ls1 := [some (aR 0 0), some (aI v1), some (aI v2), some (aI v3), some (aI q4.1), some (aI q7)]) (st1 := [aI q7, aI v3, aR 0 0, aI (q4.2.2.1 8 0 (((4 : Int32) * (v2 + (1 : Int32))) + q7).toNatClampNeg), aI q4.1]) (σ1 := q4.2) (P := [vp_in (((4 : Int32) * (v2 + (1 : Int32))) + q7) 52]) rfl ⟨g8, trivial⟩ ?_
        refine XW.callV B (M := M_X11_turned) (t := 0) (j := 0) (cn := 1) (as := [aI v3, aI q7]) (c_X11_turned v3 q7 q4.2 rfl) (by decide) wV_X11_turned wN_X11_turned lk_X11_233 rfl rfl rfl (by decide) rfl (Nat.le_of_ble_eq_true rfl) (by decide +kernel) ?_
        refine XW.bk B [(98, .iadd), (99, .iadd), (100, .istore 4), (102, .aload_n 0), (103, .getfield 33), (106, .iconst 4), (107, .iload_n 2), (108, .imul), (109, .iload_n 3), (110, .iadd), (111, .iload 4)] (by decide +kernel) (pc1 := 113) (ls1 := [some (aR 0 0), some (aI v1), some (aI v2), some (aI v3), some (aI (q4.1 + ((q4.2.2.1 8 0 (((4 : Int32) * (v2 + (1 : Int32))) + q7).toNatClampNeg) + (m_X11_turned v3 q7)))), some (aI q7)]) (st1 := [aI (q4.1 + ((q4.2.2.1 8 0 (((4 : Int32) * (v2 + (1 : Int32))) + q7).toNatClampNeg) + (m_X11_turned v3 q7))), aI (((4 : Int32) * v2) + v3), aR 8 0]) (σ1 := q4.2) (P := []) rfl trivial ?_
        by_cases g9 : (((4 : Int32) * v2) + v3) < 0 ∨ 52 ≤ (((4 : Int32) * v2) + v3).toNatClampNeg
        · rw [if_pos g9] at hm; cases hm
        rw [if_neg g9] at hm
        refine XW.bk B [(113, .iastore), (114, .iinc 3 1), (117, .goto (-77))] (by decide +kernel) (pc1 := 40) (ls1 := [some (aR 0 0), some (aI v1), some (aI v2), some (aI (v3 + (1 : Int32))), some (aI (q4.1 + ((q4.2.2.1 8 0 (((4 : Int32) * (v2 + (1 : Int32))) + q7).toNatClampNeg) + (m_X11_turned v3 q7)))), some (aI q7)]) (st1 := []) (σ1 := (sA q4.2 8 0 (((4 : Int32) * v2) + v3).toNatClampNeg (q4.1 + ((q4.2.2.1 8 0 (((4 : Int32) * (v2 + (1 : Int32))) + q7).toNatClampNeg) + (m_X11_turned v3 q7))))) (P := [vp_in (((4 : Int32) * v2) + v3) 52]) rfl ⟨g9, trivial⟩ ?_
        refine XW.loc [true, true, true, true, false, false] rfl ?_
        exact ih v1 v2 (v3 + (1 : Int32)) (sA q4.2 8 0 (((4 : Int32) * v2) + v3).toNatClampNeg (q4.1 + ((q4.2.2.1 8 0 (((4 : Int32) * (v2 + (1 : Int32))) + q7).toNatClampNeg) + (m_X11_turned v3 q7)))) _ hm hk
set_option maxRecDepth 100000 in
set_option maxHeartbeats 4000000 in
theorem lp_X11_fillsLeast_34 {Γ : XC} {σ' : SS} (B : XB Γ cX11_fillsLeast RX11 65 K11 LM 6) (q : XQ Γ (none) none σ') : ∀ (n : Nat) (v1 : Int32) (v2 : Int32) (σ : SS), L_X11_fillsLeast_34 n v1 v2 σ = some σ' → XW Γ 34 [some (aR 0 0), some (aI v1), some (aI v2), none, none, none] [] σ := by
  intro n
  induction n with
  | zero => intro v1 v2 σ hm; cases hm
  | succ n ih =>
    intro v1 v2 σ hm
    rw [L_X11_fillsLeast_34] at hm
    refine XW.bb B [(34, .iload_n 2)] (by decide +kernel) (pc1 := 35) (ls1 := [some (aR 0 0), some (aI v1), some (aI v2), none, none, none]) (st1 := [aI v2]) (σ1 := σ) (P := []) (i := .ifCond .lt 91) (tgt := 126) (q := v2 < (0 : Int32)) rfl trivial (by decide +kernel) rfl (by decide) (fun h2 => ?_) (fun h2 => ?_)
    · rw [if_pos h2] at hm
      obtain rfl := Option.some.inj hm
      exact XW.vret B q (by decide +kernel)
    · rw [if_neg h2] at hm
      refine XW.bk B [(38, .iconst 0), (39, .istore_n 3)] (by decide +kernel) (pc1 := 40) (ls1 := [some (aR 0 0), some (aI v1), some (aI v2), some (aI (0 : Int32)), none, none]) (st1 := []) (σ1 := σ) (P := []) rfl trivial ?_
      obtain ⟨q10, hq10, hm⟩ := obind_eq hm
      refine lp_X11_fillsLeast_40 B FU v1 v2 (0 : Int32) σ _ hq10 ?_
      refine XW.bk B [(120, .iinc 2 (-1)), (123, .goto (-89))] (by decide +kernel) (pc1 := 34) (ls1 := [some (aR 0 0), some (aI v1), some (aI (v2 + (-1 : Int32))), none, none, none]) (st1 := []) (σ1 := q10) (P := []) rfl trivial ?_
      exact ih v1 (v2 + (-1 : Int32)) q10 hm
set_option maxRecDepth 100000 in
set_option maxHeartbeats 4000000 in
theorem lp_X11_fillsLeast_2 {Γ : XC} {σ' : SS} (B : XB Γ cX11_fillsLeast RX11 65 K11 LM 6) (q : XQ Γ (none) none σ') : ∀ (n : Nat) (v1 : Int32) (v2 : Int32) (σ : SS), L_X11_fillsLeast_2 n v1 v2 σ = some σ' → XW Γ 2 [some (aR 0 0), some (aI v1), some (aI v2), none, none, none] [] σ := by
  intro n
  induction n with
  | zero => intro v1 v2 σ hm; cases hm
  | succ n ih =>
    intro v1 v2 σ hm
    rw [L_X11_fillsLeast_2] at hm
    refine XW.bb B [(2, .iload_n 2), (3, .iconst 3)] (by decide +kernel) (pc1 := 4) (ls1 := [some (aR 0 0), some (aI v1), some (aI v2), none, none, none]) (st1 := [aI (3 : Int32), aI v2]) (σ1 := σ) (P := []) (i := .if_icmp .gt 23) (tgt := 27) (q := (3 : Int32) < v2) rfl trivial (by decide +kernel) rfl (by decide) (fun h1 => ?_) (fun h1 => ?_)
    · rw [if_pos h1] at hm
      refine XW.bk B [(27, .aload_n 0), (28, .getfield 81), (31, .iconst 1), (32, .isub), (33, .istore_n 2)] (by decide +kernel) (pc1 := 34) (ls1 := [some (aR 0 0), some (aI v1), some (aI ((σ.1 0 0 6) - (1 : Int32))), none, none, none]) (st1 := []) (σ1 := σ) (P := []) rfl trivial ?_
      exact lp_X11_fillsLeast_34 B q FU v1 ((σ.1 0 0 6) - (1 : Int32)) σ hm
    · rw [if_neg h1] at hm
      refine XW.bk B [(7, .aload_n 0), (8, .getfield 33), (11, .iconst 4), (12, .aload_n 0), (13, .getfield 81), (16, .imul), (17, .iload_n 2), (18, .iadd), (19, .iconst 0)] (by decide +kernel) (pc1 := 20) (ls1 := [some (aR 0 0), some (aI v1), some (aI v2), none, none, none]) (st1 := [aI (0 : Int32), aI (((4 : Int32) * (σ.1 0 0 6)) + v2), aR 8 0]) (σ1 := σ) (P := []) rfl trivial ?_
      by_cases g11 : (((4 : Int32) * (σ.1 0 0 6)) + v2) < 0 ∨ 52 ≤ (((4 : Int32) * (σ.1 0 0 6)) + v2).toNatClampNeg
      · rw [if_pos g11] at hm; cases hm
      rw [if_neg g11] at hm
      refine XW.bk B [(20, .iastore), (21, .iinc 2 1), (24, .goto (-22))] (by decide +kernel) (pc1 := 2) (ls1 := [some (aR 0 0), some (aI v1), some (aI (v2 + (1 : Int32))), none, none, none]) (st1 := []) (σ1 := (sA σ 8 0 (((4 : Int32) * (σ.1 0 0 6)) + v2).toNatClampNeg (0 : Int32))) (P := [vp_in (((4 : Int32) * (σ.1 0 0 6)) + v2) 52]) rfl ⟨g11, trivial⟩ ?_
      exact ih v1 (v2 + (1 : Int32)) (sA σ 8 0 (((4 : Int32) * (σ.1 0 0 6)) + v2).toNatClampNeg (0 : Int32)) hm
set_option maxRecDepth 100000 in
set_option maxHeartbeats 4000000 in
theorem c_X11_fillsLeast (x1 : Int32) (σ : SS) {σ' : SS} (hm : m_X11_fillsLeast x1 σ = some σ') : XM LM 65 M_X11_fillsLeast [aR 0 0, aI x1] σ none σ' := by
  refine XM.of (K := K11) (by decide) (by decide +kernel) K11_ok (Nat.le_of_ble_eq_true rfl) (fun Γ B q => ?_)
  unfold m_X11_fillsLeast at hm
  refine XW.bk B [(0, .iconst 0), (1, .istore_n 2)] (by decide +kernel) (pc1 := 2) (ls1 := [some (aR 0 0), some (aI x1), some (aI (0 : Int32)), none, none, none]) (st1 := []) (σ1 := σ) (P := []) rfl trivial ?_
  exact lp_X11_fillsLeast_2 B q FU x1 (0 : Int32) σ hm

def L_X11_hold_60 : Nat → Int32 → Int64 → Int32 → Int32 → Int32 → SS → Option (Int64 × SS)
  | 0, _, _, _, _, _, _ => none
  | n + 1, v2, v3, v5, v6, v7, σ =>
    if (σ.1 0 0 6) ≤ v7 then
      if v2 = (0 : Int32) then
        some (v3, σ)
      else
      if v2 = (1 : Int32) then
        some (v6.toInt64, σ)
      else
      if v6 ≤ (m_X11_bears σ) then
        some ((0 : Int64), σ)
      else
      some ((1 : Int64), σ)
    else
    Option.bind (m_X11_bestHeld v7 v5 σ) (fun q11 =>
    L_X11_hold_60 n v2 (((10 : Int64) * v3) + q11.toInt64) q11 v6 (v7 + (1 : Int32)) σ)
def m_X11_hold (x1 : Int32) (x2 : Int32) (σ : SS) : Option (Int64 × SS) :=
  if (m_X11_isMinute x1) = (0 : Int32) then
    some ((-9223372036854775808 : Int64), σ)
  else
  if (m_X11_within x2.toInt64 (0 : Int64) (2 : Int64)) = (0 : Int32) then
    some ((-9223372036854775808 : Int64), σ)
  else
  if (σ.1 0 0 6) = (0 : Int32) then
    some ((-5 : Int64), σ)
  else
  Option.bind (m_X11_fillsLeast x1 σ) (fun q4 =>
  Option.bind (m_X11_bestHeld (0 : Int32) (-1 : Int32) q4) (fun q5 =>
  if q5 < 0 ∨ 52 ≤ q5.toNatClampNeg then none else
  L_X11_hold_60 FU x2 (0 : Int64) (-1 : Int32) (q4.2.1 8 0 q5.toNatClampNeg) (0 : Int32) q4))
set_option maxRecDepth 100000 in
set_option maxHeartbeats 4000000 in
theorem lp_X11_hold_60 {Γ : XC} {r : Int64} {σ' : SS} (B : XB Γ cX11_hold RX11 66 K11 LM 8) (q : XQ Γ (some .long) (some (aJ r)) σ') : ∀ (n : Nat) (v2 : Int32) (v3 : Int64) (v5 : Int32) (v6 : Int32) (v7 : Int32) (σ : SS), L_X11_hold_60 n v2 v3 v5 v6 v7 σ = some (r, σ') → XW Γ 60 [some (aR 0 0), none, some (aI v2), some (aJ v3), none, some (aI v5), some (aI v6), some (aI v7)] [] σ := by
  intro n
  induction n with
  | zero => intro v2 v3 v5 v6 v7 σ hm; cases hm
  | succ n ih =>
    intro v2 v3 v5 v6 v7 σ hm
    rw [L_X11_hold_60] at hm
    refine XW.bb B [(60, .iload 7), (62, .aload_n 0), (63, .getfield 81)] (by decide +kernel) (pc1 := 66) (ls1 := [some (aR 0 0), none, some (aI v2), some (aJ v3), none, some (aI v5), some (aI v6), some (aI v7)]) (st1 := [aI (σ.1 0 0 6), aI v7]) (σ1 := σ) (P := []) (i := .if_icmp .ge 29) (tgt := 95) (q := (σ.1 0 0 6) ≤ v7) rfl trivial (by decide +kernel) rfl (by decide) (fun h7 => ?_) (fun h7 => ?_)
    · rw [if_pos h7] at hm
      refine XW.bn B [(95, .iload_n 2)] (by decide +kernel) (pc1 := 96) (ls1 := [some (aR 0 0), none, some (aI v2), some (aJ v3), none, some (aI v5), some (aI v6), some (aI v7)]) (st1 := [aI v2]) (σ1 := σ) (P := []) (i := .ifCond .ne 7) (tgt := 103) (q := v2 = (0 : Int32)) rfl trivial (by decide +kernel) rfl (by decide) (fun h8 => ?_) (fun h8 => ?_)
      · rw [if_pos h8] at hm
        refine XW.bk B [(99, .lload_n 3), (100, .goto 28)] (by decide +kernel) (pc1 := 128) (ls1 := [some (aR 0 0), none, some (aI v2), some (aJ v3), none, some (aI v5), some (aI v6), some (aI v7)]) (st1 := [aJ v3]) (σ1 := σ) (P := []) rfl trivial ?_
        obtain ⟨rfl, rfl⟩ := Prod.mk.inj (Option.some.inj hm)
        exact XW.lret B q (by decide +kernel)
      · rw [if_neg h8] at hm
        refine XW.bn B [(103, .iload_n 2), (104, .iconst 1)] (by decide +kernel) (pc1 := 105) (ls1 := [some (aR 0 0), none, some (aI v2), some (aJ v3), none, some (aI v5), some (aI v6), some (aI v7)]) (st1 := [aI (1 : Int32), aI v2]) (σ1 := σ) (P := []) (i := .if_icmp .ne 9) (tgt := 114) (q := v2 = (1 : Int32)) rfl trivial (by decide +kernel) rfl (by decide) (fun h9 => ?_) (fun h9 => ?_)
        · rw [if_pos h9] at hm
          refine XW.bk B [(108, .iload 6), (110, .i2l), (111, .goto 17)] (by decide +kernel) (pc1 := 128) (ls1 := [some (aR 0 0), none, some (aI v2), some (aJ v3), none, some (aI v5), some (aI v6), some (aI v7)]) (st1 := [aJ v6.toInt64]) (σ1 := σ) (P := []) rfl trivial ?_
          obtain ⟨rfl, rfl⟩ := Prod.mk.inj (Option.some.inj hm)
          exact XW.lret B q (by decide +kernel)
        · rw [if_neg h9] at hm
          refine XW.bk B [(114, .iload 6), (116, .aload_n 0)] (by decide +kernel) (pc1 := 117) (ls1 := [some (aR 0 0), none, some (aI v2), some (aJ v3), none, some (aI v5), some (aI v6), some (aI v7)]) (st1 := [aR 0 0, aI v6]) (σ1 := σ) (P := []) rfl trivial ?_
          refine XW.callV B (M := M_X11_bears) (t := 0) (j := 0) (cn := 1) (as := []) (c_X11_bears σ rfl) (by decide) wV_X11_bears wN_X11_bears lk_X11_216 rfl rfl rfl (by decide) rfl (Nat.le_of_ble_eq_true rfl) (by decide +kernel) ?_
          refine XW.bb B [] (by decide +kernel) (pc1 := 120) (ls1 := [some (aR 0 0), none, some (aI v2), some (aJ v3), none, some (aI v5), some (aI v6), some (aI v7)]) (st1 := [aI (m_X11_bears σ), aI v6]) (σ1 := σ) (P := []) (i := .if_icmp .le 7) (tgt := 127) (q := v6 ≤ (m_X11_bears σ)) rfl trivial (by decide +kernel) rfl (by decide) (fun h10 => ?_) (fun h10 => ?_)
          · rw [if_pos h10] at hm
            refine XW.bk B [(127, .lconst 0)] (by decide +kernel) (pc1 := 128) (ls1 := [some (aR 0 0), none, some (aI v2), some (aJ v3), none, some (aI v5), some (aI v6), some (aI v7)]) (st1 := [aJ (0 : Int64)]) (σ1 := σ) (P := []) rfl trivial ?_
            obtain ⟨rfl, rfl⟩ := Prod.mk.inj (Option.some.inj hm)
            exact XW.lret B q (by decide +kernel)
          · rw [if_neg h10] at hm
            refine XW.bk B [(123, .lconst 1), (124, .goto 4)] (by decide +kernel) (pc1 := 128) (ls1 := [some (aR 0 0), none, some (aI v2), some (aJ v3), none, some (aI v5), some (aI v6), some (aI v7)]) (st1 := [aJ (1 : Int64)]) (σ1 := σ) (P := []) rfl trivial ?_
            obtain ⟨rfl, rfl⟩ := Prod.mk.inj (Option.some.inj hm)
            exact XW.lret B q (by decide +kernel)
    · rw [if_neg h7] at hm
      refine XW.bk B [(69, .aload_n 0), (70, .iload 7), (72, .iload 5)] (by decide +kernel) (pc1 := 74) (ls1 := [some (aR 0 0), none, some (aI v2), some (aJ v3), none, some (aI v5), some (aI v6), some (aI v7)]) (st1 := [aI v5, aI v7, aR 0 0]) (σ1 := σ) (P := []) rfl trivial ?_
      obtain ⟨q11, hq11, hm⟩ := obind_eq hm
      refine XW.callV B (M := M_X11_bestHeld) (t := 0) (j := 0) (cn := 1) (as := [aI v7, aI v5]) (c_X11_bestHeld v7 v5 σ hq11) (by decide) wV_X11_bestHeld wN_X11_bestHeld lk_X11_236 rfl rfl rfl (by decide) rfl (Nat.le_of_ble_eq_true rfl) (by decide +kernel) ?_
      refine XW.bk B [(77, .istore 5), (79, .ldc2_w 116), (82, .lload_n 3), (83, .lmul), (84, .iload 5), (86, .i2l), (87, .ladd), (88, .lstore_n 3), (89, .iinc 7 1), (92, .goto (-32))] (by decide +kernel) (pc1 := 60) (ls1 := [some (aR 0 0), none, some (aI v2), some (aJ (((10 : Int64) * v3) + q11.toInt64)), none, some (aI q11), some (aI v6), some (aI (v7 + (1 : Int32)))]) (st1 := []) (σ1 := σ) (P := []) rfl trivial ?_
      exact ih v2 (((10 : Int64) * v3) + q11.toInt64) q11 v6 (v7 + (1 : Int32)) σ hm
set_option maxRecDepth 100000 in
set_option maxHeartbeats 4000000 in
theorem c_X11_hold (x1 : Int32) (x2 : Int32) (σ : SS) {r : Int64} {σ' : SS} (hm : m_X11_hold x1 x2 σ = some (r, σ')) : XM LM 66 M_X11_hold [aR 0 0, aI x1, aI x2] σ (some (aJ r)) σ' := by
  refine XM.of (K := K11) (by decide) (by decide +kernel) K11_ok (Nat.le_of_ble_eq_true rfl) (fun Γ B q => ?_)
  unfold m_X11_hold at hm
  refine XW.bk B [(0, .iload_n 1)] (by decide +kernel) (pc1 := 1) (ls1 := [some (aR 0 0), some (aI x1), some (aI x2), none, none, none, none, none]) (st1 := [aI x1]) (σ1 := σ) (P := []) rfl trivial ?_
  refine XW.callS B (M := M_X11_isMinute) (as := [aI x1]) (c_X11_isMinute x1 σ rfl) (by decide) wS_X11_isMinute wN_X11_isMinute lk_X11_219 rfl (Nat.le_of_ble_eq_true rfl) (by decide +kernel) ?_
  refine XW.bb B [] (by decide +kernel) (pc1 := 4) (ls1 := [some (aR 0 0), some (aI x1), some (aI x2), none, none, none, none, none]) (st1 := [aI (m_X11_isMinute x1)]) (σ1 := σ) (P := []) (i := .ifCond .eq 15) (tgt := 19) (q := (m_X11_isMinute x1) = (0 : Int32)) rfl trivial (by decide +kernel) rfl (by decide) (fun h1 => ?_) (fun h1 => ?_)
  · rw [if_pos h1] at hm
    refine XW.bk B [(19, .ldc2_w 239)] (by decide +kernel) (pc1 := 22) (ls1 := [some (aR 0 0), some (aI x1), some (aI x2), none, none, none, none, none]) (st1 := [aJ (-9223372036854775808 : Int64)]) (σ1 := σ) (P := []) rfl trivial ?_
    obtain ⟨rfl, rfl⟩ := Prod.mk.inj (Option.some.inj hm)
    exact XW.lret B q (by decide +kernel)
  · rw [if_neg h1] at hm
    refine XW.bk B [(7, .iload_n 2), (8, .i2l), (9, .lconst 0), (10, .ldc2_w 222)] (by decide +kernel) (pc1 := 13) (ls1 := [some (aR 0 0), some (aI x1), some (aI x2), none, none, none, none, none]) (st1 := [aJ (2 : Int64), aJ (0 : Int64), aJ x2.toInt64]) (σ1 := σ) (P := []) rfl trivial ?_
    refine XW.callS B (M := M_X11_within) (as := [aJ x2.toInt64, aJ (0 : Int64), aJ (2 : Int64)]) (c_X11_within x2.toInt64 (0 : Int64) (2 : Int64) σ rfl) (by decide) wS_X11_within wN_X11_within lk_X11_84 rfl (Nat.le_of_ble_eq_true rfl) (by decide +kernel) ?_
    refine XW.bn B [] (by decide +kernel) (pc1 := 16) (ls1 := [some (aR 0 0), some (aI x1), some (aI x2), none, none, none, none, none]) (st1 := [aI (m_X11_within x2.toInt64 (0 : Int64) (2 : Int64))]) (σ1 := σ) (P := []) (i := .ifCond .ne 7) (tgt := 23) (q := (m_X11_within x2.toInt64 (0 : Int64) (2 : Int64)) = (0 : Int32)) rfl trivial (by decide +kernel) rfl (by decide) (fun h2 => ?_) (fun h2 => ?_)
    · rw [if_pos h2] at hm
      refine XW.bk B [(19, .ldc2_w 239)] (by decide +kernel) (pc1 := 22) (ls1 := [some (aR 0 0), some (aI x1), some (aI x2), none, none, none, none, none]) (st1 := [aJ (-9223372036854775808 : Int64)]) (σ1 := σ) (P := []) rfl trivial ?_
      obtain ⟨rfl, rfl⟩ := Prod.mk.inj (Option.some.inj hm)
      exact XW.lret B q (by decide +kernel)
    · rw [if_neg h2] at hm
      refine XW.bn B [(23, .aload_n 0), (24, .getfield 81)] (by decide +kernel) (pc1 := 27) (ls1 := [some (aR 0 0), some (aI x1), some (aI x2), none, none, none, none, none]) (st1 := [aI (σ.1 0 0 6)]) (σ1 := σ) (P := []) (i := .ifCond .ne 7) (tgt := 34) (q := (σ.1 0 0 6) = (0 : Int32)) rfl trivial (by decide +kernel) rfl (by decide) (fun h3 => ?_) (fun h3 => ?_)
      · rw [if_pos h3] at hm
        refine XW.bk B [(30, .ldc2_w 241)] (by decide +kernel) (pc1 := 33) (ls1 := [some (aR 0 0), some (aI x1), some (aI x2), none, none, none, none, none]) (st1 := [aJ (-5 : Int64)]) (σ1 := σ) (P := []) rfl trivial ?_
        obtain ⟨rfl, rfl⟩ := Prod.mk.inj (Option.some.inj hm)
        exact XW.lret B q (by decide +kernel)
      · rw [if_neg h3] at hm
        refine XW.bk B [(34, .aload_n 0), (35, .iload_n 1)] (by decide +kernel) (pc1 := 36) (ls1 := [some (aR 0 0), some (aI x1), some (aI x2), none, none, none, none, none]) (st1 := [aI x1, aR 0 0]) (σ1 := σ) (P := []) rfl trivial ?_
        obtain ⟨q4, hq4, hm⟩ := obind_eq hm
        refine XW.callV B (M := M_X11_fillsLeast) (t := 0) (j := 0) (cn := 1) (as := [aI x1]) (c_X11_fillsLeast x1 σ hq4) (by decide) wV_X11_fillsLeast wN_X11_fillsLeast lk_X11_243 rfl rfl rfl (by decide) rfl (Nat.le_of_ble_eq_true rfl) (by decide +kernel) ?_
        refine XW.bk B [(39, .lconst 0), (40, .lstore_n 3), (41, .iconst (-1)), (42, .istore 5), (44, .aload_n 0), (45, .getfield 33), (48, .aload_n 0), (49, .iconst 0), (50, .iconst (-1))] (by decide +kernel) (pc1 := 51) (ls1 := [some (aR 0 0), some (aI x1), some (aI x2), some (aJ (0 : Int64)), none, some (aI (-1 : Int32)), none, none]) (st1 := [aI (-1 : Int32), aI (0 : Int32), aR 0 0, aR 8 0]) (σ1 := q4) (P := []) rfl trivial ?_
        obtain ⟨q5, hq5, hm⟩ := obind_eq hm
        refine XW.callV B (M := M_X11_bestHeld) (t := 0) (j := 0) (cn := 1) (as := [aI (0 : Int32), aI (-1 : Int32)]) (c_X11_bestHeld (0 : Int32) (-1 : Int32) q4 hq5) (by decide) wV_X11_bestHeld wN_X11_bestHeld lk_X11_236 rfl rfl rfl (by decide) rfl (Nat.le_of_ble_eq_true rfl) (by decide +kernel) ?_
        by_cases g6 : q5 < 0 ∨ 52 ≤ q5.toNatClampNeg
        · rw [if_pos g6] at hm; cases hm
        rw [if_neg g6] at hm
        refine XW.bk B [(54, .iaload), (55, .istore 6), (57, .iconst 0), (58, .istore 7)] (by decide +kernel) (pc1 := 60) (ls1 := [some (aR 0 0), some (aI x1), some (aI x2), some (aJ (0 : Int64)), none, some (aI (-1 : Int32)), some (aI (q4.2.1 8 0 q5.toNatClampNeg)), some (aI (0 : Int32))]) (st1 := []) (σ1 := q4) (P := [vp_in q5 52]) rfl ⟨g6, trivial⟩ ?_
        refine XW.loc [true, false, true, true, false, true, true, true] rfl ?_
        exact lp_X11_hold_60 B q FU x2 (0 : Int64) (-1 : Int32) (q4.2.1 8 0 q5.toNatClampNeg) (0 : Int32) q4 hm

def L_X11_begins1_2 : Nat → Int32 → Int32 → SS → Option (SS)
  | 0, _, _, _ => none
  | n + 1, v1, v2, σ =>
    if (σ.1 0 0 6) ≤ v2 then
      Option.bind (m_X11_strainAt (0 : Int32) (0 : Int32) v1 σ) (fun q2 =>
      if q2.1 ≤ (m_X11_bears q2.2) then
        some (sA q2.2 9 0 (0 : Int32).toNatClampNeg q2.1)
      else
      some (sA q2.2 9 0 (0 : Int32).toNatClampNeg (-1 : Int32)))
    else
    if v2 < 0 ∨ 12 ≤ v2.toNatClampNeg then none else
    L_X11_begins1_2 n v1 (v2 + (1 : Int32)) (sA σ 9 0 v2.toNatClampNeg (-1 : Int32))
def m_X11_begins1 (x1 : Int32) (σ : SS) : Option (SS) :=
  L_X11_begins1_2 FU x1 (0 : Int32) σ
set_option maxRecDepth 100000 in
set_option maxHeartbeats 4000000 in
theorem lp_X11_begins1_2 {Γ : XC} {σ' : SS} (B : XB Γ cX11_begins1 RX11 65 K11 LM 3) (q : XQ Γ (none) none σ') : ∀ (n : Nat) (v1 : Int32) (v2 : Int32) (σ : SS), L_X11_begins1_2 n v1 v2 σ = some σ' → XW Γ 2 [some (aR 0 0), some (aI v1), some (aI v2)] [] σ := by
  intro n
  induction n with
  | zero => intro v1 v2 σ hm; cases hm
  | succ n ih =>
    intro v1 v2 σ hm
    rw [L_X11_begins1_2] at hm
    refine XW.bb B [(2, .iload_n 2), (3, .aload_n 0), (4, .getfield 81)] (by decide +kernel) (pc1 := 7) (ls1 := [some (aR 0 0), some (aI v1), some (aI v2)]) (st1 := [aI (σ.1 0 0 6), aI v2]) (σ1 := σ) (P := []) (i := .if_icmp .ge 16) (tgt := 23) (q := (σ.1 0 0 6) ≤ v2) rfl trivial (by decide +kernel) rfl (by decide) (fun h1 => ?_) (fun h1 => ?_)
    · rw [if_pos h1] at hm
      refine XW.bk B [(23, .aload_n 0), (24, .iconst 0), (25, .iconst 0), (26, .iload_n 1)] (by decide +kernel) (pc1 := 27) (ls1 := [some (aR 0 0), some (aI v1), some (aI v2)]) (st1 := [aI v1, aI (0 : Int32), aI (0 : Int32), aR 0 0]) (σ1 := σ) (P := []) rfl trivial ?_
      obtain ⟨q2, hq2, hm⟩ := obind_eq hm
      refine XW.callV B (M := M_X11_strainAt) (t := 0) (j := 0) (cn := 1) (as := [aI (0 : Int32), aI (0 : Int32), aI v1]) (c_X11_strainAt (0 : Int32) (0 : Int32) v1 σ hq2) (by decide) wV_X11_strainAt wN_X11_strainAt lk_X11_200 rfl rfl rfl (by decide) rfl (Nat.le_of_ble_eq_true rfl) (by decide +kernel) ?_
      refine XW.bk B [(30, .istore_n 2), (31, .aload_n 0), (32, .getfield 36), (35, .iconst 0), (36, .iload_n 2), (37, .aload_n 0)] (by decide +kernel) (pc1 := 38) (ls1 := [some (aR 0 0), some (aI v1), some (aI q2.1)]) (st1 := [aR 0 0, aI q2.1, aI (0 : Int32), aR 9 0]) (σ1 := q2.2) (P := []) rfl trivial ?_
      refine XW.callV B (M := M_X11_bears) (t := 0) (j := 0) (cn := 1) (as := []) (c_X11_bears q2.2 rfl) (by decide) wV_X11_bears wN_X11_bears lk_X11_216 rfl rfl rfl (by decide) rfl (Nat.le_of_ble_eq_true rfl) (by decide +kernel) ?_
      refine XW.bb B [] (by decide +kernel) (pc1 := 41) (ls1 := [some (aR 0 0), some (aI v1), some (aI q2.1)]) (st1 := [aI (m_X11_bears q2.2), aI q2.1, aI (0 : Int32), aR 9 0]) (σ1 := q2.2) (P := []) (i := .if_icmp .le 7) (tgt := 48) (q := q2.1 ≤ (m_X11_bears q2.2)) rfl trivial (by decide +kernel) rfl (by decide) (fun h3 => ?_) (fun h3 => ?_)
      · rw [if_pos h3] at hm
        refine XW.bk B [(48, .iload_n 2), (49, .iastore)] (by decide +kernel) (pc1 := 50) (ls1 := [some (aR 0 0), some (aI v1), some (aI q2.1)]) (st1 := []) (σ1 := (sA q2.2 9 0 (0 : Int32).toNatClampNeg q2.1)) (P := [vp_in (0 : Int32) 12]) rfl ⟨(vin_lit (by decide +kernel)), trivial⟩ ?_
        obtain rfl := Option.some.inj hm
        exact XW.vret B q (by decide +kernel)
      · rw [if_neg h3] at hm
        refine XW.bk B [(44, .iconst (-1)), (45, .goto 4), (49, .iastore)] (by decide +kernel) (pc1 := 50) (ls1 := [some (aR 0 0), some (aI v1), some (aI q2.1)]) (st1 := []) (σ1 := (sA q2.2 9 0 (0 : Int32).toNatClampNeg (-1 : Int32))) (P := [vp_in (0 : Int32) 12]) rfl ⟨(vin_lit (by decide +kernel)), trivial⟩ ?_
        obtain rfl := Option.some.inj hm
        exact XW.vret B q (by decide +kernel)
    · rw [if_neg h1] at hm
      refine XW.bk B [(10, .aload_n 0), (11, .getfield 36), (14, .iload_n 2), (15, .iconst (-1))] (by decide +kernel) (pc1 := 16) (ls1 := [some (aR 0 0), some (aI v1), some (aI v2)]) (st1 := [aI (-1 : Int32), aI v2, aR 9 0]) (σ1 := σ) (P := []) rfl trivial ?_
      by_cases g4 : v2 < 0 ∨ 12 ≤ v2.toNatClampNeg
      · rw [if_pos g4] at hm; cases hm
      rw [if_neg g4] at hm
      refine XW.bk B [(16, .iastore), (17, .iinc 2 1), (20, .goto (-18))] (by decide +kernel) (pc1 := 2) (ls1 := [some (aR 0 0), some (aI v1), some (aI (v2 + (1 : Int32)))]) (st1 := []) (σ1 := (sA σ 9 0 v2.toNatClampNeg (-1 : Int32))) (P := [vp_in v2 12]) rfl ⟨g4, trivial⟩ ?_
      exact ih v1 (v2 + (1 : Int32)) (sA σ 9 0 v2.toNatClampNeg (-1 : Int32)) hm
set_option maxRecDepth 100000 in
set_option maxHeartbeats 4000000 in
theorem c_X11_begins1 (x1 : Int32) (σ : SS) {σ' : SS} (hm : m_X11_begins1 x1 σ = some σ') : XM LM 65 M_X11_begins1 [aR 0 0, aI x1] σ none σ' := by
  refine XM.of (K := K11) (by decide) (by decide +kernel) K11_ok (Nat.le_of_ble_eq_true rfl) (fun Γ B q => ?_)
  unfold m_X11_begins1 at hm
  refine XW.bk B [(0, .iconst 0), (1, .istore_n 2)] (by decide +kernel) (pc1 := 2) (ls1 := [some (aR 0 0), some (aI x1), some (aI (0 : Int32))]) (st1 := []) (σ1 := σ) (P := []) rfl trivial ?_
  exact lp_X11_begins1_2 B q FU x1 (0 : Int32) σ hm

def m_X11_restedAt (x1 : Int32) (x2 : Int32) (σ : SS) : Option (Int32 × SS) :=
  if x1 < 0 ∨ 12 ≤ x1.toNatClampNeg then none else
  if (0 : Int32) ≤ (σ.2.1 9 0 x1.toNatClampNeg) then
    Option.bind (m_X11_strainAt x1 (0 : Int32) x2 σ) (fun q3 =>
    Option.bind (m_X11_windAt x1 x2 q3.2) (fun q4 =>
    if q4 = (0 : Int32) then
      if ((σ.2.1 9 0 x1.toNatClampNeg) + q3.1) ≤ (3 : Int32) then
        if (0 : Int32) ≤ (m_X11_bears q3.2) then
          some ((0 : Int32), q3.2)
        else
        some ((-1 : Int32), q3.2)
      else
      if (((σ.2.1 9 0 x1.toNatClampNeg) + q3.1) - (3 : Int32)) ≤ (m_X11_bears q3.2) then
        some ((((σ.2.1 9 0 x1.toNatClampNeg) + q3.1) - (3 : Int32)), q3.2)
      else
      some ((-1 : Int32), q3.2)
    else
    if ((σ.2.1 9 0 x1.toNatClampNeg) + q3.1) ≤ (m_X11_bears q3.2) then
      some (((σ.2.1 9 0 x1.toNatClampNeg) + q3.1), q3.2)
    else
    some ((-1 : Int32), q3.2)))
  else
  some ((-1 : Int32), σ)
set_option maxRecDepth 100000 in
set_option maxHeartbeats 4000000 in
theorem c_X11_restedAt (x1 : Int32) (x2 : Int32) (σ : SS) {r : Int32} {σ' : SS} (hm : m_X11_restedAt x1 x2 σ = some (r, σ')) : XM LM 65 M_X11_restedAt [aR 0 0, aI x1, aI x2] σ (some (aI r)) σ' := by
  refine XM.of (K := K11) (by decide) (by decide +kernel) K11_ok (Nat.le_of_ble_eq_true rfl) (fun Γ B q => ?_)
  unfold m_X11_restedAt at hm
  refine XW.bk B [(0, .aload_n 0), (1, .getfield 36), (4, .iload_n 1)] (by decide +kernel) (pc1 := 5) (ls1 := [some (aR 0 0), some (aI x1), some (aI x2), none]) (st1 := [aI x1, aR 9 0]) (σ1 := σ) (P := []) rfl trivial ?_
  by_cases g1 : x1 < 0 ∨ 12 ≤ x1.toNatClampNeg
  · rw [if_pos g1] at hm; cases hm
  rw [if_neg g1] at hm
  refine XW.bb B [(5, .iaload)] (by decide +kernel) (pc1 := 6) (ls1 := [some (aR 0 0), some (aI x1), some (aI x2), none]) (st1 := [aI (σ.2.1 9 0 x1.toNatClampNeg)]) (σ1 := σ) (P := [vp_in x1 12]) (i := .ifCond .ge 5) (tgt := 11) (q := (0 : Int32) ≤ (σ.2.1 9 0 x1.toNatClampNeg)) rfl ⟨g1, trivial⟩ (by decide +kernel) rfl (by decide) (fun h2 => ?_) (fun h2 => ?_)
  · rw [if_pos h2] at hm
    refine XW.bk B [(11, .aload_n 0), (12, .getfield 36), (15, .iload_n 1), (16, .iaload), (17, .aload_n 0), (18, .iload_n 1), (19, .iconst 0), (20, .iload_n 2)] (by decide +kernel) (pc1 := 21) (ls1 := [some (aR 0 0), some (aI x1), some (aI x2), none]) (st1 := [aI x2, aI (0 : Int32), aI x1, aR 0 0, aI (σ.2.1 9 0 x1.toNatClampNeg)]) (σ1 := σ) (P := [vp_in x1 12]) rfl ⟨g1, trivial⟩ ?_
    obtain ⟨q3, hq3, hm⟩ := obind_eq hm
    refine XW.callV B (M := M_X11_strainAt) (t := 0) (j := 0) (cn := 1) (as := [aI x1, aI (0 : Int32), aI x2]) (c_X11_strainAt x1 (0 : Int32) x2 σ hq3) (by decide) wV_X11_strainAt wN_X11_strainAt lk_X11_200 rfl rfl rfl (by decide) rfl (Nat.le_of_ble_eq_true rfl) (by decide +kernel) ?_
    refine XW.bk B [(24, .iadd), (25, .istore_n 3), (26, .aload_n 0), (27, .iload_n 1), (28, .iload_n 2)] (by decide +kernel) (pc1 := 29) (ls1 := [some (aR 0 0), some (aI x1), some (aI x2), some (aI ((σ.2.1 9 0 x1.toNatClampNeg) + q3.1))]) (st1 := [aI x2, aI x1, aR 0 0]) (σ1 := q3.2) (P := []) rfl trivial ?_
    obtain ⟨q4, hq4, hm⟩ := obind_eq hm
    refine XW.callV B (M := M_X11_windAt) (t := 0) (j := 0) (cn := 1) (as := [aI x1, aI x2]) (c_X11_windAt x1 x2 q3.2 hq4) (by decide) wV_X11_windAt wN_X11_windAt lk_X11_142 rfl rfl rfl (by decide) rfl (Nat.le_of_ble_eq_true rfl) (by decide +kernel) ?_
    refine XW.bn B [] (by decide +kernel) (pc1 := 32) (ls1 := [some (aR 0 0), some (aI x1), some (aI x2), some (aI ((σ.2.1 9 0 x1.toNatClampNeg) + q3.1))]) (st1 := [aI q4]) (σ1 := q3.2) (P := []) (i := .ifCond .ne 16) (tgt := 48) (q := q4 = (0 : Int32)) rfl trivial (by decide +kernel) rfl (by decide) (fun h5 => ?_) (fun h5 => ?_)
    · rw [if_pos h5] at hm
      refine XW.bb B [(35, .iload_n 3), (36, .iconst 3)] (by decide +kernel) (pc1 := 37) (ls1 := [some (aR 0 0), some (aI x1), some (aI x2), some (aI ((σ.2.1 9 0 x1.toNatClampNeg) + q3.1))]) (st1 := [aI (3 : Int32), aI ((σ.2.1 9 0 x1.toNatClampNeg) + q3.1)]) (σ1 := q3.2) (P := []) (i := .if_icmp .le 9) (tgt := 46) (q := ((σ.2.1 9 0 x1.toNatClampNeg) + q3.1) ≤ (3 : Int32)) rfl trivial (by decide +kernel) rfl (by decide) (fun h6 => ?_) (fun h6 => ?_)
      · rw [if_pos h6] at hm
        refine XW.bk B [(46, .iconst 0), (47, .istore_n 3), (48, .iload_n 3), (49, .aload_n 0)] (by decide +kernel) (pc1 := 50) (ls1 := [some (aR 0 0), some (aI x1), some (aI x2), some (aI (0 : Int32))]) (st1 := [aR 0 0, aI (0 : Int32)]) (σ1 := q3.2) (P := []) rfl trivial ?_
        refine XW.callV B (M := M_X11_bears) (t := 0) (j := 0) (cn := 1) (as := []) (c_X11_bears q3.2 rfl) (by decide) wV_X11_bears wN_X11_bears lk_X11_216 rfl rfl rfl (by decide) rfl (Nat.le_of_ble_eq_true rfl) (by decide +kernel) ?_
        refine XW.bb B [] (by decide +kernel) (pc1 := 53) (ls1 := [some (aR 0 0), some (aI x1), some (aI x2), some (aI (0 : Int32))]) (st1 := [aI (m_X11_bears q3.2), aI (0 : Int32)]) (σ1 := q3.2) (P := []) (i := .if_icmp .le 7) (tgt := 60) (q := (0 : Int32) ≤ (m_X11_bears q3.2)) rfl trivial (by decide +kernel) rfl (by decide) (fun h7 => ?_) (fun h7 => ?_)
        · rw [if_pos h7] at hm
          refine XW.bk B [(60, .iload_n 3)] (by decide +kernel) (pc1 := 61) (ls1 := [some (aR 0 0), some (aI x1), some (aI x2), some (aI (0 : Int32))]) (st1 := [aI (0 : Int32)]) (σ1 := q3.2) (P := []) rfl trivial ?_
          obtain ⟨rfl, rfl⟩ := Prod.mk.inj (Option.some.inj hm)
          exact XW.iret B q (by decide +kernel)
        · rw [if_neg h7] at hm
          refine XW.bk B [(56, .iconst (-1)), (57, .goto 4)] (by decide +kernel) (pc1 := 61) (ls1 := [some (aR 0 0), some (aI x1), some (aI x2), some (aI (0 : Int32))]) (st1 := [aI (-1 : Int32)]) (σ1 := q3.2) (P := []) rfl trivial ?_
          obtain ⟨rfl, rfl⟩ := Prod.mk.inj (Option.some.inj hm)
          exact XW.iret B q (by decide +kernel)
      · rw [if_neg h6] at hm
        refine XW.bk B [(40, .iload_n 3), (41, .iconst 3), (42, .isub), (43, .goto 4), (47, .istore_n 3), (48, .iload_n 3), (49, .aload_n 0)] (by decide +kernel) (pc1 := 50) (ls1 := [some (aR 0 0), some (aI x1), some (aI x2), some (aI (((σ.2.1 9 0 x1.toNatClampNeg) + q3.1) - (3 : Int32)))]) (st1 := [aR 0 0, aI (((σ.2.1 9 0 x1.toNatClampNeg) + q3.1) - (3 : Int32))]) (σ1 := q3.2) (P := []) rfl trivial ?_
        refine XW.callV B (M := M_X11_bears) (t := 0) (j := 0) (cn := 1) (as := []) (c_X11_bears q3.2 rfl) (by decide) wV_X11_bears wN_X11_bears lk_X11_216 rfl rfl rfl (by decide) rfl (Nat.le_of_ble_eq_true rfl) (by decide +kernel) ?_
        refine XW.bb B [] (by decide +kernel) (pc1 := 53) (ls1 := [some (aR 0 0), some (aI x1), some (aI x2), some (aI (((σ.2.1 9 0 x1.toNatClampNeg) + q3.1) - (3 : Int32)))]) (st1 := [aI (m_X11_bears q3.2), aI (((σ.2.1 9 0 x1.toNatClampNeg) + q3.1) - (3 : Int32))]) (σ1 := q3.2) (P := []) (i := .if_icmp .le 7) (tgt := 60) (q := (((σ.2.1 9 0 x1.toNatClampNeg) + q3.1) - (3 : Int32)) ≤ (m_X11_bears q3.2)) rfl trivial (by decide +kernel) rfl (by decide) (fun h8 => ?_) (fun h8 => ?_)
        · rw [if_pos h8] at hm
          refine XW.bk B [(60, .iload_n 3)] (by decide +kernel) (pc1 := 61) (ls1 := [some (aR 0 0), some (aI x1), some (aI x2), some (aI (((σ.2.1 9 0 x1.toNatClampNeg) + q3.1) - (3 : Int32)))]) (st1 := [aI (((σ.2.1 9 0 x1.toNatClampNeg) + q3.1) - (3 : Int32))]) (σ1 := q3.2) (P := []) rfl trivial ?_
          obtain ⟨rfl, rfl⟩ := Prod.mk.inj (Option.some.inj hm)
          exact XW.iret B q (by decide +kernel)
        · rw [if_neg h8] at hm
          refine XW.bk B [(56, .iconst (-1)), (57, .goto 4)] (by decide +kernel) (pc1 := 61) (ls1 := [some (aR 0 0), some (aI x1), some (aI x2), some (aI (((σ.2.1 9 0 x1.toNatClampNeg) + q3.1) - (3 : Int32)))]) (st1 := [aI (-1 : Int32)]) (σ1 := q3.2) (P := []) rfl trivial ?_
          obtain ⟨rfl, rfl⟩ := Prod.mk.inj (Option.some.inj hm)
          exact XW.iret B q (by decide +kernel)
    · rw [if_neg h5] at hm
      refine XW.bk B [(48, .iload_n 3), (49, .aload_n 0)] (by decide +kernel) (pc1 := 50) (ls1 := [some (aR 0 0), some (aI x1), some (aI x2), some (aI ((σ.2.1 9 0 x1.toNatClampNeg) + q3.1))]) (st1 := [aR 0 0, aI ((σ.2.1 9 0 x1.toNatClampNeg) + q3.1)]) (σ1 := q3.2) (P := []) rfl trivial ?_
      refine XW.callV B (M := M_X11_bears) (t := 0) (j := 0) (cn := 1) (as := []) (c_X11_bears q3.2 rfl) (by decide) wV_X11_bears wN_X11_bears lk_X11_216 rfl rfl rfl (by decide) rfl (Nat.le_of_ble_eq_true rfl) (by decide +kernel) ?_
      refine XW.bb B [] (by decide +kernel) (pc1 := 53) (ls1 := [some (aR 0 0), some (aI x1), some (aI x2), some (aI ((σ.2.1 9 0 x1.toNatClampNeg) + q3.1))]) (st1 := [aI (m_X11_bears q3.2), aI ((σ.2.1 9 0 x1.toNatClampNeg) + q3.1)]) (σ1 := q3.2) (P := []) (i := .if_icmp .le 7) (tgt := 60) (q := ((σ.2.1 9 0 x1.toNatClampNeg) + q3.1) ≤ (m_X11_bears q3.2)) rfl trivial (by decide +kernel) rfl (by decide) (fun h9 => ?_) (fun h9 => ?_)
      · rw [if_pos h9] at hm
        refine XW.bk B [(60, .iload_n 3)] (by decide +kernel) (pc1 := 61) (ls1 := [some (aR 0 0), some (aI x1), some (aI x2), some (aI ((σ.2.1 9 0 x1.toNatClampNeg) + q3.1))]) (st1 := [aI ((σ.2.1 9 0 x1.toNatClampNeg) + q3.1)]) (σ1 := q3.2) (P := []) rfl trivial ?_
        obtain ⟨rfl, rfl⟩ := Prod.mk.inj (Option.some.inj hm)
        exact XW.iret B q (by decide +kernel)
      · rw [if_neg h9] at hm
        refine XW.bk B [(56, .iconst (-1)), (57, .goto 4)] (by decide +kernel) (pc1 := 61) (ls1 := [some (aR 0 0), some (aI x1), some (aI x2), some (aI ((σ.2.1 9 0 x1.toNatClampNeg) + q3.1))]) (st1 := [aI (-1 : Int32)]) (σ1 := q3.2) (P := []) rfl trivial ?_
        obtain ⟨rfl, rfl⟩ := Prod.mk.inj (Option.some.inj hm)
        exact XW.iret B q (by decide +kernel)
  · rw [if_neg h2] at hm
    refine XW.bk B [(9, .iconst (-1))] (by decide +kernel) (pc1 := 10) (ls1 := [some (aR 0 0), some (aI x1), some (aI x2), none]) (st1 := [aI (-1 : Int32)]) (σ1 := σ) (P := []) rfl trivial ?_
    obtain ⟨rfl, rfl⟩ := Prod.mk.inj (Option.some.inj hm)
    exact XW.iret B q (by decide +kernel)

def m_X11_pacedTo (x1 : Int32) (x2 : Int32) (σ : SS) : Option (Int32 × SS) :=
  if x1 = (0 : Int32) then
    some ((-1 : Int32), σ)
  else
  if (x1 - (1 : Int32)) < 0 ∨ 12 ≤ (x1 - (1 : Int32)).toNatClampNeg then none else
  if (0 : Int32) ≤ (σ.2.1 9 0 (x1 - (1 : Int32)).toNatClampNeg) then
    Option.bind (m_X11_strainAt x1 (0 : Int32) x2 σ) (fun q4 =>
    if ((σ.2.1 9 0 (x1 - (1 : Int32)).toNatClampNeg) + q4.1) ≤ (m_X11_bears q4.2) then
      some (((σ.2.1 9 0 (x1 - (1 : Int32)).toNatClampNeg) + q4.1), q4.2)
    else
    some ((-1 : Int32), q4.2))
  else
  some ((-1 : Int32), σ)
set_option maxRecDepth 100000 in
set_option maxHeartbeats 4000000 in
theorem c_X11_pacedTo (x1 : Int32) (x2 : Int32) (σ : SS) {r : Int32} {σ' : SS} (hm : m_X11_pacedTo x1 x2 σ = some (r, σ')) : XM LM 65 M_X11_pacedTo [aR 0 0, aI x1, aI x2] σ (some (aI r)) σ' := by
  refine XM.of (K := K11) (by decide) (by decide +kernel) K11_ok (Nat.le_of_ble_eq_true rfl) (fun Γ B q => ?_)
  unfold m_X11_pacedTo at hm
  refine XW.bb B [(0, .iload_n 1)] (by decide +kernel) (pc1 := 1) (ls1 := [some (aR 0 0), some (aI x1), some (aI x2), none]) (st1 := [aI x1]) (σ1 := σ) (P := []) (i := .ifCond .eq 14) (tgt := 15) (q := x1 = (0 : Int32)) rfl trivial (by decide +kernel) rfl (by decide) (fun h1 => ?_) (fun h1 => ?_)
  · rw [if_pos h1] at hm
    refine XW.bk B [(15, .iconst (-1))] (by decide +kernel) (pc1 := 16) (ls1 := [some (aR 0 0), some (aI x1), some (aI x2), none]) (st1 := [aI (-1 : Int32)]) (σ1 := σ) (P := []) rfl trivial ?_
    obtain ⟨rfl, rfl⟩ := Prod.mk.inj (Option.some.inj hm)
    exact XW.iret B q (by decide +kernel)
  · rw [if_neg h1] at hm
    refine XW.bk B [(4, .aload_n 0), (5, .getfield 36), (8, .iload_n 1), (9, .iconst 1), (10, .isub)] (by decide +kernel) (pc1 := 11) (ls1 := [some (aR 0 0), some (aI x1), some (aI x2), none]) (st1 := [aI (x1 - (1 : Int32)), aR 9 0]) (σ1 := σ) (P := []) rfl trivial ?_
    by_cases g2 : (x1 - (1 : Int32)) < 0 ∨ 12 ≤ (x1 - (1 : Int32)).toNatClampNeg
    · rw [if_pos g2] at hm; cases hm
    rw [if_neg g2] at hm
    refine XW.bb B [(11, .iaload)] (by decide +kernel) (pc1 := 12) (ls1 := [some (aR 0 0), some (aI x1), some (aI x2), none]) (st1 := [aI (σ.2.1 9 0 (x1 - (1 : Int32)).toNatClampNeg)]) (σ1 := σ) (P := [vp_in (x1 - (1 : Int32)) 12]) (i := .ifCond .ge 5) (tgt := 17) (q := (0 : Int32) ≤ (σ.2.1 9 0 (x1 - (1 : Int32)).toNatClampNeg)) rfl ⟨g2, trivial⟩ (by decide +kernel) rfl (by decide) (fun h3 => ?_) (fun h3 => ?_)
    · rw [if_pos h3] at hm
      refine XW.bk B [(17, .aload_n 0), (18, .getfield 36), (21, .iload_n 1), (22, .iconst 1), (23, .isub), (24, .iaload), (25, .aload_n 0), (26, .iload_n 1), (27, .iconst 0), (28, .iload_n 2)] (by decide +kernel) (pc1 := 29) (ls1 := [some (aR 0 0), some (aI x1), some (aI x2), none]) (st1 := [aI x2, aI (0 : Int32), aI x1, aR 0 0, aI (σ.2.1 9 0 (x1 - (1 : Int32)).toNatClampNeg)]) (σ1 := σ) (P := [vp_in (x1 - (1 : Int32)) 12]) rfl ⟨g2, trivial⟩ ?_
      obtain ⟨q4, hq4, hm⟩ := obind_eq hm
      refine XW.callV B (M := M_X11_strainAt) (t := 0) (j := 0) (cn := 1) (as := [aI x1, aI (0 : Int32), aI x2]) (c_X11_strainAt x1 (0 : Int32) x2 σ hq4) (by decide) wV_X11_strainAt wN_X11_strainAt lk_X11_200 rfl rfl rfl (by decide) rfl (Nat.le_of_ble_eq_true rfl) (by decide +kernel) ?_
      refine XW.bk B [(32, .iadd), (33, .istore_n 3), (34, .iload_n 3), (35, .aload_n 0)] (by decide +kernel) (pc1 := 36) (ls1 := [some (aR 0 0), some (aI x1), some (aI x2), some (aI ((σ.2.1 9 0 (x1 - (1 : Int32)).toNatClampNeg) + q4.1))]) (st1 := [aR 0 0, aI ((σ.2.1 9 0 (x1 - (1 : Int32)).toNatClampNeg) + q4.1)]) (σ1 := q4.2) (P := []) rfl trivial ?_
      refine XW.callV B (M := M_X11_bears) (t := 0) (j := 0) (cn := 1) (as := []) (c_X11_bears q4.2 rfl) (by decide) wV_X11_bears wN_X11_bears lk_X11_216 rfl rfl rfl (by decide) rfl (Nat.le_of_ble_eq_true rfl) (by decide +kernel) ?_
      refine XW.bb B [] (by decide +kernel) (pc1 := 39) (ls1 := [some (aR 0 0), some (aI x1), some (aI x2), some (aI ((σ.2.1 9 0 (x1 - (1 : Int32)).toNatClampNeg) + q4.1))]) (st1 := [aI (m_X11_bears q4.2), aI ((σ.2.1 9 0 (x1 - (1 : Int32)).toNatClampNeg) + q4.1)]) (σ1 := q4.2) (P := []) (i := .if_icmp .le 7) (tgt := 46) (q := ((σ.2.1 9 0 (x1 - (1 : Int32)).toNatClampNeg) + q4.1) ≤ (m_X11_bears q4.2)) rfl trivial (by decide +kernel) rfl (by decide) (fun h5 => ?_) (fun h5 => ?_)
      · rw [if_pos h5] at hm
        refine XW.bk B [(46, .iload_n 3)] (by decide +kernel) (pc1 := 47) (ls1 := [some (aR 0 0), some (aI x1), some (aI x2), some (aI ((σ.2.1 9 0 (x1 - (1 : Int32)).toNatClampNeg) + q4.1))]) (st1 := [aI ((σ.2.1 9 0 (x1 - (1 : Int32)).toNatClampNeg) + q4.1)]) (σ1 := q4.2) (P := []) rfl trivial ?_
        obtain ⟨rfl, rfl⟩ := Prod.mk.inj (Option.some.inj hm)
        exact XW.iret B q (by decide +kernel)
      · rw [if_neg h5] at hm
        refine XW.bk B [(42, .iconst (-1)), (43, .goto 4)] (by decide +kernel) (pc1 := 47) (ls1 := [some (aR 0 0), some (aI x1), some (aI x2), some (aI ((σ.2.1 9 0 (x1 - (1 : Int32)).toNatClampNeg) + q4.1))]) (st1 := [aI (-1 : Int32)]) (σ1 := q4.2) (P := []) rfl trivial ?_
        obtain ⟨rfl, rfl⟩ := Prod.mk.inj (Option.some.inj hm)
        exact XW.iret B q (by decide +kernel)
    · rw [if_neg h3] at hm
      refine XW.bk B [(15, .iconst (-1))] (by decide +kernel) (pc1 := 16) (ls1 := [some (aR 0 0), some (aI x1), some (aI x2), none]) (st1 := [aI (-1 : Int32)]) (σ1 := σ) (P := []) rfl trivial ?_
      obtain ⟨rfl, rfl⟩ := Prod.mk.inj (Option.some.inj hm)
      exact XW.iret B q (by decide +kernel)

def L_X11_minuteGoes_74 : Nat → Int32 → SS → Option (SS)
  | 0, _, _ => none
  | n + 1, v2, σ =>
    if (σ.1 0 0 6) ≤ v2 then
      some σ
    else
    if v2 < 0 ∨ 12 ≤ v2.toNatClampNeg then none else
    L_X11_minuteGoes_74 n (v2 + (1 : Int32)) (sA σ 9 0 v2.toNatClampNeg (σ.2.1 10 0 v2.toNatClampNeg))
def L_X11_minuteGoes_2 : Nat → Int32 → Int32 → SS → Option (SS)
  | 0, _, _, _ => none
  | n + 1, v1, v2, σ =>
    if (σ.1 0 0 6) ≤ v2 then
      L_X11_minuteGoes_74 FU (0 : Int32) σ
    else
    if v2 = ((σ.1 0 0 6) - (1 : Int32)) then
      Option.bind (m_X11_pacedTo v2 v1 σ) (fun q5 =>
      if v2 < 0 ∨ 12 ≤ v2.toNatClampNeg then none else
      L_X11_minuteGoes_2 n v1 (v2 + (1 : Int32)) (sA q5.2 10 0 v2.toNatClampNeg q5.1))
    else
    Option.bind (m_X11_restedAt v2 v1 σ) (fun q7 =>
    Option.bind (m_X11_pacedTo v2 v1 q7.2) (fun q8 =>
    if q7.1 < (0 : Int32) then
      if v2 < 0 ∨ 12 ≤ v2.toNatClampNeg then none else
      L_X11_minuteGoes_2 n v1 (v2 + (1 : Int32)) (sA q8.2 10 0 v2.toNatClampNeg q8.1)
    else
    if q8.1 < (0 : Int32) then
      if v2 < 0 ∨ 12 ≤ v2.toNatClampNeg then none else
      L_X11_minuteGoes_2 n v1 (v2 + (1 : Int32)) (sA q8.2 10 0 v2.toNatClampNeg q7.1)
    else
    if q7.1 ≤ q8.1 then
      if v2 < 0 ∨ 12 ≤ v2.toNatClampNeg then none else
      L_X11_minuteGoes_2 n v1 (v2 + (1 : Int32)) (sA q8.2 10 0 v2.toNatClampNeg q7.1)
    else
    if v2 < 0 ∨ 12 ≤ v2.toNatClampNeg then none else
    L_X11_minuteGoes_2 n v1 (v2 + (1 : Int32)) (sA q8.2 10 0 v2.toNatClampNeg q8.1)))
def m_X11_minuteGoes (x1 : Int32) (σ : SS) : Option (SS) :=
  L_X11_minuteGoes_2 FU x1 (0 : Int32) σ
set_option maxRecDepth 100000 in
set_option maxHeartbeats 4000000 in
theorem lp_X11_minuteGoes_74 {Γ : XC} {σ' : SS} (B : XB Γ cX11_minuteGoes RX11 66 K11 LM 5) (q : XQ Γ (none) none σ') : ∀ (n : Nat) (v2 : Int32) (σ : SS), L_X11_minuteGoes_74 n v2 σ = some σ' → XW Γ 74 [some (aR 0 0), none, some (aI v2), none, none] [] σ := by
  intro n
  induction n with
  | zero => intro v2 σ hm; cases hm
  | succ n ih =>
    intro v2 σ hm
    rw [L_X11_minuteGoes_74] at hm
    refine XW.bb B [(74, .iload_n 2), (75, .aload_n 0), (76, .getfield 81)] (by decide +kernel) (pc1 := 79) (ls1 := [some (aR 0 0), none, some (aI v2), none, none]) (st1 := [aI (σ.1 0 0 6), aI v2]) (σ1 := σ) (P := []) (i := .if_icmp .ge 21) (tgt := 100) (q := (σ.1 0 0 6) ≤ v2) rfl trivial (by decide +kernel) rfl (by decide) (fun h2 => ?_) (fun h2 => ?_)
    · rw [if_pos h2] at hm
      obtain rfl := Option.some.inj hm
      exact XW.vret B q (by decide +kernel)
    · rw [if_neg h2] at hm
      refine XW.bk B [(82, .aload_n 0), (83, .getfield 36), (86, .iload_n 2), (87, .aload_n 0), (88, .getfield 39), (91, .iload_n 2)] (by decide +kernel) (pc1 := 92) (ls1 := [some (aR 0 0), none, some (aI v2), none, none]) (st1 := [aI v2, aR 10 0, aI v2, aR 9 0]) (σ1 := σ) (P := []) rfl trivial ?_
      by_cases g3 : v2 < 0 ∨ 12 ≤ v2.toNatClampNeg
      · rw [if_pos g3] at hm; cases hm
      rw [if_neg g3] at hm
      refine XW.bk B [(92, .iaload), (93, .iastore), (94, .iinc 2 1), (97, .goto (-23))] (by decide +kernel) (pc1 := 74) (ls1 := [some (aR 0 0), none, some (aI (v2 + (1 : Int32))), none, none]) (st1 := []) (σ1 := (sA σ 9 0 v2.toNatClampNeg (σ.2.1 10 0 v2.toNatClampNeg))) (P := [vp_in v2 12, vp_in v2 12]) rfl ⟨g3, g3, trivial⟩ ?_
      exact ih (v2 + (1 : Int32)) (sA σ 9 0 v2.toNatClampNeg (σ.2.1 10 0 v2.toNatClampNeg)) hm
set_option maxRecDepth 100000 in
set_option maxHeartbeats 4000000 in
theorem lp_X11_minuteGoes_2 {Γ : XC} {σ' : SS} (B : XB Γ cX11_minuteGoes RX11 66 K11 LM 5) (q : XQ Γ (none) none σ') : ∀ (n : Nat) (v1 : Int32) (v2 : Int32) (σ : SS), L_X11_minuteGoes_2 n v1 v2 σ = some σ' → XW Γ 2 [some (aR 0 0), some (aI v1), some (aI v2), none, none] [] σ := by
  intro n
  induction n with
  | zero => intro v1 v2 σ hm; cases hm
  | succ n ih =>
    intro v1 v2 σ hm
    rw [L_X11_minuteGoes_2] at hm
    refine XW.bb B [(2, .iload_n 2), (3, .aload_n 0), (4, .getfield 81)] (by decide +kernel) (pc1 := 7) (ls1 := [some (aR 0 0), some (aI v1), some (aI v2), none, none]) (st1 := [aI (σ.1 0 0 6), aI v2]) (σ1 := σ) (P := []) (i := .if_icmp .ge 65) (tgt := 72) (q := (σ.1 0 0 6) ≤ v2) rfl trivial (by decide +kernel) rfl (by decide) (fun h1 => ?_) (fun h1 => ?_)
    · rw [if_pos h1] at hm
      refine XW.bk B [(72, .iconst 0), (73, .istore_n 2)] (by decide +kernel) (pc1 := 74) (ls1 := [some (aR 0 0), some (aI v1), some (aI (0 : Int32)), none, none]) (st1 := []) (σ1 := σ) (P := []) rfl trivial ?_
      refine XW.loc [true, false, true, false, false] rfl ?_
      exact lp_X11_minuteGoes_74 B q FU (0 : Int32) σ hm
    · rw [if_neg h1] at hm
      refine XW.bn B [(10, .iload_n 2), (11, .aload_n 0), (12, .getfield 81), (15, .iconst 1), (16, .isub)] (by decide +kernel) (pc1 := 17) (ls1 := [some (aR 0 0), some (aI v1), some (aI v2), none, none]) (st1 := [aI ((σ.1 0 0 6) - (1 : Int32)), aI v2]) (σ1 := σ) (P := []) (i := .if_icmp .ne 7) (tgt := 24) (q := v2 = ((σ.1 0 0 6) - (1 : Int32))) rfl trivial (by decide +kernel) rfl (by decide) (fun h4 => ?_) (fun h4 => ?_)
      · rw [if_pos h4] at hm
        refine XW.bk B [(20, .iconst (-1)), (21, .goto 9), (30, .istore_n 3), (31, .aload_n 0), (32, .iload_n 2), (33, .iload_n 1)] (by decide +kernel) (pc1 := 34) (ls1 := [some (aR 0 0), some (aI v1), some (aI v2), some (aI (-1 : Int32)), none]) (st1 := [aI v1, aI v2, aR 0 0]) (σ1 := σ) (P := []) rfl trivial ?_
        obtain ⟨q5, hq5, hm⟩ := obind_eq hm
        refine XW.callV B (M := M_X11_pacedTo) (t := 0) (j := 0) (cn := 1) (as := [aI v2, aI v1]) (c_X11_pacedTo v2 v1 σ hq5) (by decide) wV_X11_pacedTo wN_X11_pacedTo lk_X11_250 rfl rfl rfl (by decide) rfl (Nat.le_of_ble_eq_true rfl) (by decide +kernel) ?_
        refine XW.bb B [(37, .istore 4), (39, .aload_n 0), (40, .getfield 39), (43, .iload_n 2), (44, .iload_n 3)] (by decide +kernel) (pc1 := 45) (ls1 := [some (aR 0 0), some (aI v1), some (aI v2), some (aI (-1 : Int32)), some (aI q5.1)]) (st1 := [aI (-1 : Int32), aI v2, aR 10 0]) (σ1 := q5.2) (P := []) (i := .ifCond .lt 14) (tgt := 59) (q := (-1 : Int32) < (0 : Int32)) rfl trivial (by decide +kernel) rfl (by decide) (fun _ => ?_) (fun h => absurd (by decide) h)
        refine XW.bk B [(59, .iload 4), (61, .goto 4)] (by decide +kernel) (pc1 := 65) (ls1 := [some (aR 0 0), some (aI v1), some (aI v2), some (aI (-1 : Int32)), some (aI q5.1)]) (st1 := [aI q5.1, aI v2, aR 10 0]) (σ1 := q5.2) (P := []) rfl trivial ?_
        by_cases g6 : v2 < 0 ∨ 12 ≤ v2.toNatClampNeg
        · rw [if_pos g6] at hm; cases hm
        rw [if_neg g6] at hm
        refine XW.bk B [(65, .iastore), (66, .iinc 2 1), (69, .goto (-67))] (by decide +kernel) (pc1 := 2) (ls1 := [some (aR 0 0), some (aI v1), some (aI (v2 + (1 : Int32))), some (aI (-1 : Int32)), some (aI q5.1)]) (st1 := []) (σ1 := (sA q5.2 10 0 v2.toNatClampNeg q5.1)) (P := [vp_in v2 12]) rfl ⟨g6, trivial⟩ ?_
        refine XW.loc [true, true, true, false, false] rfl ?_
        exact ih v1 (v2 + (1 : Int32)) (sA q5.2 10 0 v2.toNatClampNeg q5.1) hm
      · rw [if_neg h4] at hm
        refine XW.bk B [(24, .aload_n 0), (25, .iload_n 2), (26, .iload_n 1)] (by decide +kernel) (pc1 := 27) (ls1 := [some (aR 0 0), some (aI v1), some (aI v2), none, none]) (st1 := [aI v1, aI v2, aR 0 0]) (σ1 := σ) (P := []) rfl trivial ?_
        obtain ⟨q7, hq7, hm⟩ := obind_eq hm
        refine XW.callV B (M := M_X11_restedAt) (t := 0) (j := 0) (cn := 1) (as := [aI v2, aI v1]) (c_X11_restedAt v2 v1 σ hq7) (by decide) wV_X11_restedAt wN_X11_restedAt lk_X11_247 rfl rfl rfl (by decide) rfl (Nat.le_of_ble_eq_true rfl) (by decide +kernel) ?_
        refine XW.bk B [(30, .istore_n 3), (31, .aload_n 0), (32, .iload_n 2), (33, .iload_n 1)] (by decide +kernel) (pc1 := 34) (ls1 := [some (aR 0 0), some (aI v1), some (aI v2), some (aI q7.1), none]) (st1 := [aI v1, aI v2, aR 0 0]) (σ1 := q7.2) (P := []) rfl trivial ?_
        obtain ⟨q8, hq8, hm⟩ := obind_eq hm
        refine XW.callV B (M := M_X11_pacedTo) (t := 0) (j := 0) (cn := 1) (as := [aI v2, aI v1]) (c_X11_pacedTo v2 v1 q7.2 hq8) (by decide) wV_X11_pacedTo wN_X11_pacedTo lk_X11_250 rfl rfl rfl (by decide) rfl (Nat.le_of_ble_eq_true rfl) (by decide +kernel) ?_
        refine XW.bb B [(37, .istore 4), (39, .aload_n 0), (40, .getfield 39), (43, .iload_n 2), (44, .iload_n 3)] (by decide +kernel) (pc1 := 45) (ls1 := [some (aR 0 0), some (aI v1), some (aI v2), some (aI q7.1), some (aI q8.1)]) (st1 := [aI q7.1, aI v2, aR 10 0]) (σ1 := q8.2) (P := []) (i := .ifCond .lt 14) (tgt := 59) (q := q7.1 < (0 : Int32)) rfl trivial (by decide +kernel) rfl (by decide) (fun h9 => ?_) (fun h9 => ?_)
        · rw [if_pos h9] at hm
          refine XW.bk B [(59, .iload 4), (61, .goto 4)] (by decide +kernel) (pc1 := 65) (ls1 := [some (aR 0 0), some (aI v1), some (aI v2), some (aI q7.1), some (aI q8.1)]) (st1 := [aI q8.1, aI v2, aR 10 0]) (σ1 := q8.2) (P := []) rfl trivial ?_
          by_cases g10 : v2 < 0 ∨ 12 ≤ v2.toNatClampNeg
          · rw [if_pos g10] at hm; cases hm
          rw [if_neg g10] at hm
          refine XW.bk B [(65, .iastore), (66, .iinc 2 1), (69, .goto (-67))] (by decide +kernel) (pc1 := 2) (ls1 := [some (aR 0 0), some (aI v1), some (aI (v2 + (1 : Int32))), some (aI q7.1), some (aI q8.1)]) (st1 := []) (σ1 := (sA q8.2 10 0 v2.toNatClampNeg q8.1)) (P := [vp_in v2 12]) rfl ⟨g10, trivial⟩ ?_
          refine XW.loc [true, true, true, false, false] rfl ?_
          exact ih v1 (v2 + (1 : Int32)) (sA q8.2 10 0 v2.toNatClampNeg q8.1) hm
        · rw [if_neg h9] at hm
          refine XW.bb B [(48, .iload 4)] (by decide +kernel) (pc1 := 50) (ls1 := [some (aR 0 0), some (aI v1), some (aI v2), some (aI q7.1), some (aI q8.1)]) (st1 := [aI q8.1, aI v2, aR 10 0]) (σ1 := q8.2) (P := []) (i := .ifCond .lt 14) (tgt := 64) (q := q8.1 < (0 : Int32)) rfl trivial (by decide +kernel) rfl (by decide) (fun h11 => ?_) (fun h11 => ?_)
          · rw [if_pos h11] at hm
            refine XW.bk B [(64, .iload_n 3)] (by decide +kernel) (pc1 := 65) (ls1 := [some (aR 0 0), some (aI v1), some (aI v2), some (aI q7.1), some (aI q8.1)]) (st1 := [aI q7.1, aI v2, aR 10 0]) (σ1 := q8.2) (P := []) rfl trivial ?_
            by_cases g12 : v2 < 0 ∨ 12 ≤ v2.toNatClampNeg
            · rw [if_pos g12] at hm; cases hm
            rw [if_neg g12] at hm
            refine XW.bk B [(65, .iastore), (66, .iinc 2 1), (69, .goto (-67))] (by decide +kernel) (pc1 := 2) (ls1 := [some (aR 0 0), some (aI v1), some (aI (v2 + (1 : Int32))), some (aI q7.1), some (aI q8.1)]) (st1 := []) (σ1 := (sA q8.2 10 0 v2.toNatClampNeg q7.1)) (P := [vp_in v2 12]) rfl ⟨g12, trivial⟩ ?_
            refine XW.loc [true, true, true, false, false] rfl ?_
            exact ih v1 (v2 + (1 : Int32)) (sA q8.2 10 0 v2.toNatClampNeg q7.1) hm
          · rw [if_neg h11] at hm
            refine XW.bb B [(53, .iload 4), (55, .iload_n 3)] (by decide +kernel) (pc1 := 56) (ls1 := [some (aR 0 0), some (aI v1), some (aI v2), some (aI q7.1), some (aI q8.1)]) (st1 := [aI q7.1, aI q8.1, aI v2, aR 10 0]) (σ1 := q8.2) (P := []) (i := .if_icmp .ge 8) (tgt := 64) (q := q7.1 ≤ q8.1) rfl trivial (by decide +kernel) rfl (by decide) (fun h13 => ?_) (fun h13 => ?_)
            · rw [if_pos h13] at hm
              refine XW.bk B [(64, .iload_n 3)] (by decide +kernel) (pc1 := 65) (ls1 := [some (aR 0 0), some (aI v1), some (aI v2), some (aI q7.1), some (aI q8.1)]) (st1 := [aI q7.1, aI v2, aR 10 0]) (σ1 := q8.2) (P := []) rfl trivial ?_
              by_cases g14 : v2 < 0 ∨ 12 ≤ v2.toNatClampNeg
              · rw [if_pos g14] at hm; cases hm
              rw [if_neg g14] at hm
              refine XW.bk B [(65, .iastore), (66, .iinc 2 1), (69, .goto (-67))] (by decide +kernel) (pc1 := 2) (ls1 := [some (aR 0 0), some (aI v1), some (aI (v2 + (1 : Int32))), some (aI q7.1), some (aI q8.1)]) (st1 := []) (σ1 := (sA q8.2 10 0 v2.toNatClampNeg q7.1)) (P := [vp_in v2 12]) rfl ⟨g14, trivial⟩ ?_
              refine XW.loc [true, true, true, false, false] rfl ?_
              exact ih v1 (v2 + (1 : Int32)) (sA q8.2 10 0 v2.toNatClampNeg q7.1) hm
            · rw [if_neg h13] at hm
              refine XW.bk B [(59, .iload 4), (61, .goto 4)] (by decide +kernel) (pc1 := 65) (ls1 := [some (aR 0 0), some (aI v1), some (aI v2), some (aI q7.1), some (aI q8.1)]) (st1 := [aI q8.1, aI v2, aR 10 0]) (σ1 := q8.2) (P := []) rfl trivial ?_
              by_cases g15 : v2 < 0 ∨ 12 ≤ v2.toNatClampNeg
              · rw [if_pos g15] at hm; cases hm
              rw [if_neg g15] at hm
              refine XW.bk B [(65, .iastore), (66, .iinc 2 1), (69, .goto (-67))] (by decide +kernel) (pc1 := 2) (ls1 := [some (aR 0 0), some (aI v1), some (aI (v2 + (1 : Int32))), some (aI q7.1), some (aI q8.1)]) (st1 := []) (σ1 := (sA q8.2 10 0 v2.toNatClampNeg q8.1)) (P := [vp_in v2 12]) rfl ⟨g15, trivial⟩ ?_
              refine XW.loc [true, true, true, false, false] rfl ?_
              exact ih v1 (v2 + (1 : Int32)) (sA q8.2 10 0 v2.toNatClampNeg q8.1) hm
set_option maxRecDepth 100000 in
set_option maxHeartbeats 4000000 in
theorem c_X11_minuteGoes (x1 : Int32) (σ : SS) {σ' : SS} (hm : m_X11_minuteGoes x1 σ = some σ') : XM LM 66 M_X11_minuteGoes [aR 0 0, aI x1] σ none σ' := by
  refine XM.of (K := K11) (by decide) (by decide +kernel) K11_ok (Nat.le_of_ble_eq_true rfl) (fun Γ B q => ?_)
  unfold m_X11_minuteGoes at hm
  refine XW.bk B [(0, .iconst 0), (1, .istore_n 2)] (by decide +kernel) (pc1 := 2) (ls1 := [some (aR 0 0), some (aI x1), some (aI (0 : Int32)), none, none]) (st1 := []) (σ1 := σ) (P := []) rfl trivial ?_
  exact lp_X11_minuteGoes_2 B q FU x1 (0 : Int32) σ hm

def L_X11_soonest_26 : Nat → Int32 → Int32 → SS → Option (Int32 × SS)
  | 0, _, _, _ => none
  | n + 1, v1, v2, σ =>
    if (99 : Int32) < v2 then
      some ((-2 : Int32), σ)
    else
    if ((σ.1 0 0 6) - (1 : Int32)) < 0 ∨ 12 ≤ ((σ.1 0 0 6) - (1 : Int32)).toNatClampNeg then none else
    if (σ.2.1 9 0 ((σ.1 0 0 6) - (1 : Int32)).toNatClampNeg) < (0 : Int32) then
      Option.bind (m_X11_minuteGoes ((v1 + v2) + (1 : Int32)) σ) (fun q7 =>
      L_X11_soonest_26 n v1 (v2 + (1 : Int32)) q7)
    else
    some (v2, σ)
def m_X11_soonest (x1 : Int32) (σ : SS) : Option (Int32 × SS) :=
  if (m_X11_isMinute x1) = (0 : Int32) then
    some ((-1 : Int32), σ)
  else
  if (σ.1 0 0 6) = (0 : Int32) then
    some ((-5 : Int32), σ)
  else
  Option.bind (m_X11_begins1 x1 σ) (fun q3 =>
  L_X11_soonest_26 FU x1 (0 : Int32) q3)
set_option maxRecDepth 100000 in
set_option maxHeartbeats 4000000 in
theorem lp_X11_soonest_26 {Γ : XC} {r : Int32} {σ' : SS} (B : XB Γ cX11_soonest RX11 67 K11 LM 3) (q : XQ Γ (some .int) (some (aI r)) σ') : ∀ (n : Nat) (v1 : Int32) (v2 : Int32) (σ : SS), L_X11_soonest_26 n v1 v2 σ = some (r, σ') → XW Γ 26 [some (aR 0 0), some (aI v1), some (aI v2)] [] σ := by
  intro n
  induction n with
  | zero => intro v1 v2 σ hm; cases hm
  | succ n ih =>
    intro v1 v2 σ hm
    rw [L_X11_soonest_26] at hm
    refine XW.bb B [(26, .iload_n 2), (27, .bipush 99)] (by decide +kernel) (pc1 := 29) (ls1 := [some (aR 0 0), some (aI v1), some (aI v2)]) (st1 := [aI (99 : Int32), aI v2]) (σ1 := σ) (P := []) (i := .if_icmp .gt 34) (tgt := 63) (q := (99 : Int32) < v2) rfl trivial (by decide +kernel) rfl (by decide) (fun h4 => ?_) (fun h4 => ?_)
    · rw [if_pos h4] at hm
      refine XW.bk B [(63, .bipush (-2))] (by decide +kernel) (pc1 := 65) (ls1 := [some (aR 0 0), some (aI v1), some (aI v2)]) (st1 := [aI (-2 : Int32)]) (σ1 := σ) (P := []) rfl trivial ?_
      obtain ⟨rfl, rfl⟩ := Prod.mk.inj (Option.some.inj hm)
      exact XW.iret B q (by decide +kernel)
    · rw [if_neg h4] at hm
      refine XW.bk B [(32, .aload_n 0), (33, .getfield 36), (36, .aload_n 0), (37, .getfield 81), (40, .iconst 1), (41, .isub)] (by decide +kernel) (pc1 := 42) (ls1 := [some (aR 0 0), some (aI v1), some (aI v2)]) (st1 := [aI ((σ.1 0 0 6) - (1 : Int32)), aR 9 0]) (σ1 := σ) (P := []) rfl trivial ?_
      by_cases g5 : ((σ.1 0 0 6) - (1 : Int32)) < 0 ∨ 12 ≤ ((σ.1 0 0 6) - (1 : Int32)).toNatClampNeg
      · rw [if_pos g5] at hm; cases hm
      rw [if_neg g5] at hm
      refine XW.bb B [(42, .iaload)] (by decide +kernel) (pc1 := 43) (ls1 := [some (aR 0 0), some (aI v1), some (aI v2)]) (st1 := [aI (σ.2.1 9 0 ((σ.1 0 0 6) - (1 : Int32)).toNatClampNeg)]) (σ1 := σ) (P := [vp_in ((σ.1 0 0 6) - (1 : Int32)) 12]) (i := .ifCond .lt 5) (tgt := 48) (q := (σ.2.1 9 0 ((σ.1 0 0 6) - (1 : Int32)).toNatClampNeg) < (0 : Int32)) rfl ⟨g5, trivial⟩ (by decide +kernel) rfl (by decide) (fun h6 => ?_) (fun h6 => ?_)
      · rw [if_pos h6] at hm
        refine XW.bk B [(48, .aload_n 0), (49, .iload_n 1), (50, .iload_n 2), (51, .iadd), (52, .iconst 1), (53, .iadd)] (by decide +kernel) (pc1 := 54) (ls1 := [some (aR 0 0), some (aI v1), some (aI v2)]) (st1 := [aI ((v1 + v2) + (1 : Int32)), aR 0 0]) (σ1 := σ) (P := []) rfl trivial ?_
        obtain ⟨q7, hq7, hm⟩ := obind_eq hm
        refine XW.callV B (M := M_X11_minuteGoes) (t := 0) (j := 0) (cn := 1) (as := [aI ((v1 + v2) + (1 : Int32))]) (c_X11_minuteGoes ((v1 + v2) + (1 : Int32)) σ hq7) (by decide) wV_X11_minuteGoes wN_X11_minuteGoes lk_X11_256 rfl rfl rfl (by decide) rfl (Nat.le_of_ble_eq_true rfl) (by decide +kernel) ?_
        refine XW.bk B [(57, .iinc 2 1), (60, .goto (-34))] (by decide +kernel) (pc1 := 26) (ls1 := [some (aR 0 0), some (aI v1), some (aI (v2 + (1 : Int32)))]) (st1 := []) (σ1 := q7) (P := []) rfl trivial ?_
        exact ih v1 (v2 + (1 : Int32)) q7 hm
      · rw [if_neg h6] at hm
        refine XW.bk B [(46, .iload_n 2)] (by decide +kernel) (pc1 := 47) (ls1 := [some (aR 0 0), some (aI v1), some (aI v2)]) (st1 := [aI v2]) (σ1 := σ) (P := []) rfl trivial ?_
        obtain ⟨rfl, rfl⟩ := Prod.mk.inj (Option.some.inj hm)
        exact XW.iret B q (by decide +kernel)
set_option maxRecDepth 100000 in
set_option maxHeartbeats 4000000 in
theorem c_X11_soonest (x1 : Int32) (σ : SS) {r : Int32} {σ' : SS} (hm : m_X11_soonest x1 σ = some (r, σ')) : XM LM 67 M_X11_soonest [aR 0 0, aI x1] σ (some (aI r)) σ' := by
  refine XM.of (K := K11) (by decide) (by decide +kernel) K11_ok (Nat.le_of_ble_eq_true rfl) (fun Γ B q => ?_)
  unfold m_X11_soonest at hm
  refine XW.bk B [(0, .iload_n 1)] (by decide +kernel) (pc1 := 1) (ls1 := [some (aR 0 0), some (aI x1), none]) (st1 := [aI x1]) (σ1 := σ) (P := []) rfl trivial ?_
  refine XW.callS B (M := M_X11_isMinute) (as := [aI x1]) (c_X11_isMinute x1 σ rfl) (by decide) wS_X11_isMinute wN_X11_isMinute lk_X11_219 rfl (Nat.le_of_ble_eq_true rfl) (by decide +kernel) ?_
  refine XW.bn B [] (by decide +kernel) (pc1 := 4) (ls1 := [some (aR 0 0), some (aI x1), none]) (st1 := [aI (m_X11_isMinute x1)]) (σ1 := σ) (P := []) (i := .ifCond .ne 5) (tgt := 9) (q := (m_X11_isMinute x1) = (0 : Int32)) rfl trivial (by decide +kernel) rfl (by decide) (fun h1 => ?_) (fun h1 => ?_)
  · rw [if_pos h1] at hm
    refine XW.bk B [(7, .iconst (-1))] (by decide +kernel) (pc1 := 8) (ls1 := [some (aR 0 0), some (aI x1), none]) (st1 := [aI (-1 : Int32)]) (σ1 := σ) (P := []) rfl trivial ?_
    obtain ⟨rfl, rfl⟩ := Prod.mk.inj (Option.some.inj hm)
    exact XW.iret B q (by decide +kernel)
  · rw [if_neg h1] at hm
    refine XW.bn B [(9, .aload_n 0), (10, .getfield 81)] (by decide +kernel) (pc1 := 13) (ls1 := [some (aR 0 0), some (aI x1), none]) (st1 := [aI (σ.1 0 0 6)]) (σ1 := σ) (P := []) (i := .ifCond .ne 6) (tgt := 19) (q := (σ.1 0 0 6) = (0 : Int32)) rfl trivial (by decide +kernel) rfl (by decide) (fun h2 => ?_) (fun h2 => ?_)
    · rw [if_pos h2] at hm
      refine XW.bk B [(16, .bipush (-5))] (by decide +kernel) (pc1 := 18) (ls1 := [some (aR 0 0), some (aI x1), none]) (st1 := [aI (-5 : Int32)]) (σ1 := σ) (P := []) rfl trivial ?_
      obtain ⟨rfl, rfl⟩ := Prod.mk.inj (Option.some.inj hm)
      exact XW.iret B q (by decide +kernel)
    · rw [if_neg h2] at hm
      refine XW.bk B [(19, .aload_n 0), (20, .iload_n 1)] (by decide +kernel) (pc1 := 21) (ls1 := [some (aR 0 0), some (aI x1), none]) (st1 := [aI x1, aR 0 0]) (σ1 := σ) (P := []) rfl trivial ?_
      obtain ⟨q3, hq3, hm⟩ := obind_eq hm
      refine XW.callV B (M := M_X11_begins1) (t := 0) (j := 0) (cn := 1) (as := [aI x1]) (c_X11_begins1 x1 σ hq3) (by decide) wV_X11_begins1 wN_X11_begins1 lk_X11_253 rfl rfl rfl (by decide) rfl (Nat.le_of_ble_eq_true rfl) (by decide +kernel) ?_
      refine XW.bk B [(24, .iconst 0), (25, .istore_n 2)] (by decide +kernel) (pc1 := 26) (ls1 := [some (aR 0 0), some (aI x1), some (aI (0 : Int32))]) (st1 := []) (σ1 := q3) (P := []) rfl trivial ?_
      exact lp_X11_soonest_26 B q FU x1 (0 : Int32) q3 hm

def L_X11_safest_70 : Nat → Int32 → Int32 → Int32 → Int32 → SS → Option (Int32 × SS)
  | 0, _, _, _, _, _ => none
  | n + 1, v1, v2, v3, v4, σ =>
    if v2 < v4 then
      some (v3, σ)
    else
    if (σ.1 0 0 6) ≤ (1 : Int32) then
      some (v3, σ)
    else
    Option.bind (m_X11_minuteGoes (v1 + v4) σ) (fun q9 =>
    if ((q9.1 0 0 6) - (1 : Int32)) < 0 ∨ 12 ≤ ((q9.1 0 0 6) - (1 : Int32)).toNatClampNeg then none else
    if (q9.2.1 9 0 ((q9.1 0 0 6) - (1 : Int32)).toNatClampNeg) < (0 : Int32) then
      L_X11_safest_70 n v1 v2 v3 (v4 + (1 : Int32)) q9
    else
    if v3 < (0 : Int32) then
      L_X11_safest_70 n v1 v2 (q9.2.1 9 0 ((q9.1 0 0 6) - (1 : Int32)).toNatClampNeg) (v4 + (1 : Int32)) q9
    else
    if v3 ≤ (q9.2.1 9 0 ((q9.1 0 0 6) - (1 : Int32)).toNatClampNeg) then
      L_X11_safest_70 n v1 v2 v3 (v4 + (1 : Int32)) q9
    else
    L_X11_safest_70 n v1 v2 (q9.2.1 9 0 ((q9.1 0 0 6) - (1 : Int32)).toNatClampNeg) (v4 + (1 : Int32)) q9)
def m_X11_safest (x1 : Int32) (x2 : Int32) (σ : SS) : Option (Int32 × SS) :=
  if (m_X11_isMinute x1) = (0 : Int32) then
    some ((-1 : Int32), σ)
  else
  if (m_X11_within x2.toInt64 (0 : Int64) (60 : Int64)) = (0 : Int32) then
    some ((-1 : Int32), σ)
  else
  if (σ.1 0 0 6) = (0 : Int32) then
    some ((-5 : Int32), σ)
  else
  Option.bind (m_X11_begins1 x1 σ) (fun q4 =>
  if ((q4.1 0 0 6) - (1 : Int32)) < 0 ∨ 12 ≤ ((q4.1 0 0 6) - (1 : Int32)).toNatClampNeg then none else
  if (0 : Int32) ≤ (q4.2.1 9 0 ((q4.1 0 0 6) - (1 : Int32)).toNatClampNeg) then
    L_X11_safest_70 FU x1 x2 (q4.2.1 9 0 ((q4.1 0 0 6) - (1 : Int32)).toNatClampNeg) (1 : Int32) q4
  else
  L_X11_safest_70 FU x1 x2 (-2 : Int32) (1 : Int32) q4)
set_option maxRecDepth 100000 in
set_option maxHeartbeats 4000000 in
theorem lp_X11_safest_70 {Γ : XC} {r : Int32} {σ' : SS} (B : XB Γ cX11_safest RX11 67 K11 LM 6) (q : XQ Γ (some .int) (some (aI r)) σ') : ∀ (n : Nat) (v1 : Int32) (v2 : Int32) (v3 : Int32) (v4 : Int32) (σ : SS), L_X11_safest_70 n v1 v2 v3 v4 σ = some (r, σ') → XW Γ 70 [some (aR 0 0), some (aI v1), some (aI v2), some (aI v3), some (aI v4), none] [] σ := by
  intro n
  induction n with
  | zero => intro v1 v2 v3 v4 σ hm; cases hm
  | succ n ih =>
    intro v1 v2 v3 v4 σ hm
    rw [L_X11_safest_70] at hm
    refine XW.bb B [(70, .iload 4), (72, .iload_n 2)] (by decide +kernel) (pc1 := 73) (ls1 := [some (aR 0 0), some (aI v1), some (aI v2), some (aI v3), some (aI v4), none]) (st1 := [aI v2, aI v4]) (σ1 := σ) (P := []) (i := .if_icmp .gt 60) (tgt := 133) (q := v2 < v4) rfl trivial (by decide +kernel) rfl (by decide) (fun h7 => ?_) (fun h7 => ?_)
    · rw [if_pos h7] at hm
      refine XW.bk B [(133, .iload_n 3)] (by decide +kernel) (pc1 := 134) (ls1 := [some (aR 0 0), some (aI v1), some (aI v2), some (aI v3), some (aI v4), none]) (st1 := [aI v3]) (σ1 := σ) (P := []) rfl trivial ?_
      obtain ⟨rfl, rfl⟩ := Prod.mk.inj (Option.some.inj hm)
      exact XW.iret B q (by decide +kernel)
    · rw [if_neg h7] at hm
      refine XW.bb B [(76, .aload_n 0), (77, .getfield 81), (80, .iconst 1)] (by decide +kernel) (pc1 := 81) (ls1 := [some (aR 0 0), some (aI v1), some (aI v2), some (aI v3), some (aI v4), none]) (st1 := [aI (1 : Int32), aI (σ.1 0 0 6)]) (σ1 := σ) (P := []) (i := .if_icmp .le 52) (tgt := 133) (q := (σ.1 0 0 6) ≤ (1 : Int32)) rfl trivial (by decide +kernel) rfl (by decide) (fun h8 => ?_) (fun h8 => ?_)
      · rw [if_pos h8] at hm
        refine XW.bk B [(133, .iload_n 3)] (by decide +kernel) (pc1 := 134) (ls1 := [some (aR 0 0), some (aI v1), some (aI v2), some (aI v3), some (aI v4), none]) (st1 := [aI v3]) (σ1 := σ) (P := []) rfl trivial ?_
        obtain ⟨rfl, rfl⟩ := Prod.mk.inj (Option.some.inj hm)
        exact XW.iret B q (by decide +kernel)
      · rw [if_neg h8] at hm
        refine XW.bk B [(84, .aload_n 0), (85, .iload_n 1), (86, .iload 4), (88, .iadd)] (by decide +kernel) (pc1 := 89) (ls1 := [some (aR 0 0), some (aI v1), some (aI v2), some (aI v3), some (aI v4), none]) (st1 := [aI (v1 + v4), aR 0 0]) (σ1 := σ) (P := []) rfl trivial ?_
        obtain ⟨q9, hq9, hm⟩ := obind_eq hm
        refine XW.callV B (M := M_X11_minuteGoes) (t := 0) (j := 0) (cn := 1) (as := [aI (v1 + v4)]) (c_X11_minuteGoes (v1 + v4) σ hq9) (by decide) wV_X11_minuteGoes wN_X11_minuteGoes lk_X11_256 rfl rfl rfl (by decide) rfl (Nat.le_of_ble_eq_true rfl) (by decide +kernel) ?_
        refine XW.bk B [(92, .aload_n 0), (93, .getfield 36), (96, .aload_n 0), (97, .getfield 81), (100, .iconst 1), (101, .isub)] (by decide +kernel) (pc1 := 102) (ls1 := [some (aR 0 0), some (aI v1), some (aI v2), some (aI v3), some (aI v4), none]) (st1 := [aI ((q9.1 0 0 6) - (1 : Int32)), aR 9 0]) (σ1 := q9) (P := []) rfl trivial ?_
        by_cases g10 : ((q9.1 0 0 6) - (1 : Int32)) < 0 ∨ 12 ≤ ((q9.1 0 0 6) - (1 : Int32)).toNatClampNeg
        · rw [if_pos g10] at hm; cases hm
        rw [if_neg g10] at hm
        refine XW.bb B [(102, .iaload), (103, .istore 5), (105, .iload 5)] (by decide +kernel) (pc1 := 107) (ls1 := [some (aR 0 0), some (aI v1), some (aI v2), some (aI v3), some (aI v4), some (aI (q9.2.1 9 0 ((q9.1 0 0 6) - (1 : Int32)).toNatClampNeg))]) (st1 := [aI (q9.2.1 9 0 ((q9.1 0 0 6) - (1 : Int32)).toNatClampNeg)]) (σ1 := q9) (P := [vp_in ((q9.1 0 0 6) - (1 : Int32)) 12]) (i := .ifCond .lt 18) (tgt := 125) (q := (q9.2.1 9 0 ((q9.1 0 0 6) - (1 : Int32)).toNatClampNeg) < (0 : Int32)) rfl ⟨g10, trivial⟩ (by decide +kernel) rfl (by decide) (fun h11 => ?_) (fun h11 => ?_)
        · rw [if_pos h11] at hm
          refine XW.bk B [(125, .iload_n 3), (126, .istore_n 3), (127, .iinc 4 1), (130, .goto (-60))] (by decide +kernel) (pc1 := 70) (ls1 := [some (aR 0 0), some (aI v1), some (aI v2), some (aI v3), some (aI (v4 + (1 : Int32))), some (aI (q9.2.1 9 0 ((q9.1 0 0 6) - (1 : Int32)).toNatClampNeg))]) (st1 := []) (σ1 := q9) (P := []) rfl trivial ?_
          refine XW.loc [true, true, true, true, true, false] rfl ?_
          exact ih v1 v2 v3 (v4 + (1 : Int32)) q9 hm
        · rw [if_neg h11] at hm
          refine XW.bb B [(110, .iload_n 3)] (by decide +kernel) (pc1 := 111) (ls1 := [some (aR 0 0), some (aI v1), some (aI v2), some (aI v3), some (aI v4), some (aI (q9.2.1 9 0 ((q9.1 0 0 6) - (1 : Int32)).toNatClampNeg))]) (st1 := [aI v3]) (σ1 := q9) (P := []) (i := .ifCond .lt 9) (tgt := 120) (q := v3 < (0 : Int32)) rfl trivial (by decide +kernel) rfl (by decide) (fun h12 => ?_) (fun h12 => ?_)
          · rw [if_pos h12] at hm
            refine XW.bk B [(120, .iload 5), (122, .goto 4), (126, .istore_n 3), (127, .iinc 4 1), (130, .goto (-60))] (by decide +kernel) (pc1 := 70) (ls1 := [some (aR 0 0), some (aI v1), some (aI v2), some (aI (q9.2.1 9 0 ((q9.1 0 0 6) - (1 : Int32)).toNatClampNeg)), some (aI (v4 + (1 : Int32))), some (aI (q9.2.1 9 0 ((q9.1 0 0 6) - (1 : Int32)).toNatClampNeg))]) (st1 := []) (σ1 := q9) (P := []) rfl trivial ?_
            refine XW.loc [true, true, true, true, true, false] rfl ?_
            exact ih v1 v2 (q9.2.1 9 0 ((q9.1 0 0 6) - (1 : Int32)).toNatClampNeg) (v4 + (1 : Int32)) q9 hm
          · rw [if_neg h12] at hm
            refine XW.bb B [(114, .iload 5), (116, .iload_n 3)] (by decide +kernel) (pc1 := 117) (ls1 := [some (aR 0 0), some (aI v1), some (aI v2), some (aI v3), some (aI v4), some (aI (q9.2.1 9 0 ((q9.1 0 0 6) - (1 : Int32)).toNatClampNeg))]) (st1 := [aI v3, aI (q9.2.1 9 0 ((q9.1 0 0 6) - (1 : Int32)).toNatClampNeg)]) (σ1 := q9) (P := []) (i := .if_icmp .ge 8) (tgt := 125) (q := v3 ≤ (q9.2.1 9 0 ((q9.1 0 0 6) - (1 : Int32)).toNatClampNeg)) rfl trivial (by decide +kernel) rfl (by decide) (fun h13 => ?_) (fun h13 => ?_)
            · rw [if_pos h13] at hm
              refine XW.bk B [(125, .iload_n 3), (126, .istore_n 3), (127, .iinc 4 1), (130, .goto (-60))] (by decide +kernel) (pc1 := 70) (ls1 := [some (aR 0 0), some (aI v1), some (aI v2), some (aI v3), some (aI (v4 + (1 : Int32))), some (aI (q9.2.1 9 0 ((q9.1 0 0 6) - (1 : Int32)).toNatClampNeg))]) (st1 := []) (σ1 := q9) (P := []) rfl trivial ?_
              refine XW.loc [true, true, true, true, true, false] rfl ?_
              exact ih v1 v2 v3 (v4 + (1 : Int32)) q9 hm
            · rw [if_neg h13] at hm
              refine XW.bk B [(120, .iload 5), (122, .goto 4), (126, .istore_n 3), (127, .iinc 4 1), (130, .goto (-60))] (by decide +kernel) (pc1 := 70) (ls1 := [some (aR 0 0), some (aI v1), some (aI v2), some (aI (q9.2.1 9 0 ((q9.1 0 0 6) - (1 : Int32)).toNatClampNeg)), some (aI (v4 + (1 : Int32))), some (aI (q9.2.1 9 0 ((q9.1 0 0 6) - (1 : Int32)).toNatClampNeg))]) (st1 := []) (σ1 := q9) (P := []) rfl trivial ?_
              refine XW.loc [true, true, true, true, true, false] rfl ?_
              exact ih v1 v2 (q9.2.1 9 0 ((q9.1 0 0 6) - (1 : Int32)).toNatClampNeg) (v4 + (1 : Int32)) q9 hm
set_option maxRecDepth 100000 in
set_option maxHeartbeats 4000000 in
theorem c_X11_safest (x1 : Int32) (x2 : Int32) (σ : SS) {r : Int32} {σ' : SS} (hm : m_X11_safest x1 x2 σ = some (r, σ')) : XM LM 67 M_X11_safest [aR 0 0, aI x1, aI x2] σ (some (aI r)) σ' := by
  refine XM.of (K := K11) (by decide) (by decide +kernel) K11_ok (Nat.le_of_ble_eq_true rfl) (fun Γ B q => ?_)
  unfold m_X11_safest at hm
  refine XW.bk B [(0, .iload_n 1)] (by decide +kernel) (pc1 := 1) (ls1 := [some (aR 0 0), some (aI x1), some (aI x2), none, none, none]) (st1 := [aI x1]) (σ1 := σ) (P := []) rfl trivial ?_
  refine XW.callS B (M := M_X11_isMinute) (as := [aI x1]) (c_X11_isMinute x1 σ rfl) (by decide) wS_X11_isMinute wN_X11_isMinute lk_X11_219 rfl (Nat.le_of_ble_eq_true rfl) (by decide +kernel) ?_
  refine XW.bb B [] (by decide +kernel) (pc1 := 4) (ls1 := [some (aR 0 0), some (aI x1), some (aI x2), none, none, none]) (st1 := [aI (m_X11_isMinute x1)]) (σ1 := σ) (P := []) (i := .ifCond .eq 15) (tgt := 19) (q := (m_X11_isMinute x1) = (0 : Int32)) rfl trivial (by decide +kernel) rfl (by decide) (fun h1 => ?_) (fun h1 => ?_)
  · rw [if_pos h1] at hm
    refine XW.bk B [(19, .iconst (-1))] (by decide +kernel) (pc1 := 20) (ls1 := [some (aR 0 0), some (aI x1), some (aI x2), none, none, none]) (st1 := [aI (-1 : Int32)]) (σ1 := σ) (P := []) rfl trivial ?_
    obtain ⟨rfl, rfl⟩ := Prod.mk.inj (Option.some.inj hm)
    exact XW.iret B q (by decide +kernel)
  · rw [if_neg h1] at hm
    refine XW.bk B [(7, .iload_n 2), (8, .i2l), (9, .lconst 0), (10, .ldc2_w 118)] (by decide +kernel) (pc1 := 13) (ls1 := [some (aR 0 0), some (aI x1), some (aI x2), none, none, none]) (st1 := [aJ (60 : Int64), aJ (0 : Int64), aJ x2.toInt64]) (σ1 := σ) (P := []) rfl trivial ?_
    refine XW.callS B (M := M_X11_within) (as := [aJ x2.toInt64, aJ (0 : Int64), aJ (60 : Int64)]) (c_X11_within x2.toInt64 (0 : Int64) (60 : Int64) σ rfl) (by decide) wS_X11_within wN_X11_within lk_X11_84 rfl (Nat.le_of_ble_eq_true rfl) (by decide +kernel) ?_
    refine XW.bn B [] (by decide +kernel) (pc1 := 16) (ls1 := [some (aR 0 0), some (aI x1), some (aI x2), none, none, none]) (st1 := [aI (m_X11_within x2.toInt64 (0 : Int64) (60 : Int64))]) (σ1 := σ) (P := []) (i := .ifCond .ne 5) (tgt := 21) (q := (m_X11_within x2.toInt64 (0 : Int64) (60 : Int64)) = (0 : Int32)) rfl trivial (by decide +kernel) rfl (by decide) (fun h2 => ?_) (fun h2 => ?_)
    · rw [if_pos h2] at hm
      refine XW.bk B [(19, .iconst (-1))] (by decide +kernel) (pc1 := 20) (ls1 := [some (aR 0 0), some (aI x1), some (aI x2), none, none, none]) (st1 := [aI (-1 : Int32)]) (σ1 := σ) (P := []) rfl trivial ?_
      obtain ⟨rfl, rfl⟩ := Prod.mk.inj (Option.some.inj hm)
      exact XW.iret B q (by decide +kernel)
    · rw [if_neg h2] at hm
      refine XW.bn B [(21, .aload_n 0), (22, .getfield 81)] (by decide +kernel) (pc1 := 25) (ls1 := [some (aR 0 0), some (aI x1), some (aI x2), none, none, none]) (st1 := [aI (σ.1 0 0 6)]) (σ1 := σ) (P := []) (i := .ifCond .ne 6) (tgt := 31) (q := (σ.1 0 0 6) = (0 : Int32)) rfl trivial (by decide +kernel) rfl (by decide) (fun h3 => ?_) (fun h3 => ?_)
      · rw [if_pos h3] at hm
        refine XW.bk B [(28, .bipush (-5))] (by decide +kernel) (pc1 := 30) (ls1 := [some (aR 0 0), some (aI x1), some (aI x2), none, none, none]) (st1 := [aI (-5 : Int32)]) (σ1 := σ) (P := []) rfl trivial ?_
        obtain ⟨rfl, rfl⟩ := Prod.mk.inj (Option.some.inj hm)
        exact XW.iret B q (by decide +kernel)
      · rw [if_neg h3] at hm
        refine XW.bk B [(31, .aload_n 0), (32, .iload_n 1)] (by decide +kernel) (pc1 := 33) (ls1 := [some (aR 0 0), some (aI x1), some (aI x2), none, none, none]) (st1 := [aI x1, aR 0 0]) (σ1 := σ) (P := []) rfl trivial ?_
        obtain ⟨q4, hq4, hm⟩ := obind_eq hm
        refine XW.callV B (M := M_X11_begins1) (t := 0) (j := 0) (cn := 1) (as := [aI x1]) (c_X11_begins1 x1 σ hq4) (by decide) wV_X11_begins1 wN_X11_begins1 lk_X11_253 rfl rfl rfl (by decide) rfl (Nat.le_of_ble_eq_true rfl) (by decide +kernel) ?_
        refine XW.bk B [(36, .aload_n 0), (37, .getfield 36), (40, .aload_n 0), (41, .getfield 81), (44, .iconst 1), (45, .isub)] (by decide +kernel) (pc1 := 46) (ls1 := [some (aR 0 0), some (aI x1), some (aI x2), none, none, none]) (st1 := [aI ((q4.1 0 0 6) - (1 : Int32)), aR 9 0]) (σ1 := q4) (P := []) rfl trivial ?_
        by_cases g5 : ((q4.1 0 0 6) - (1 : Int32)) < 0 ∨ 12 ≤ ((q4.1 0 0 6) - (1 : Int32)).toNatClampNeg
        · rw [if_pos g5] at hm; cases hm
        rw [if_neg g5] at hm
        refine XW.bb B [(46, .iaload)] (by decide +kernel) (pc1 := 47) (ls1 := [some (aR 0 0), some (aI x1), some (aI x2), none, none, none]) (st1 := [aI (q4.2.1 9 0 ((q4.1 0 0 6) - (1 : Int32)).toNatClampNeg)]) (σ1 := q4) (P := [vp_in ((q4.1 0 0 6) - (1 : Int32)) 12]) (i := .ifCond .ge 8) (tgt := 55) (q := (0 : Int32) ≤ (q4.2.1 9 0 ((q4.1 0 0 6) - (1 : Int32)).toNatClampNeg)) rfl ⟨g5, trivial⟩ (by decide +kernel) rfl (by decide) (fun h6 => ?_) (fun h6 => ?_)
        · rw [if_pos h6] at hm
          refine XW.bk B [(55, .aload_n 0), (56, .getfield 36), (59, .aload_n 0), (60, .getfield 81), (63, .iconst 1), (64, .isub), (65, .iaload), (66, .istore_n 3), (67, .iconst 1), (68, .istore 4)] (by decide +kernel) (pc1 := 70) (ls1 := [some (aR 0 0), some (aI x1), some (aI x2), some (aI (q4.2.1 9 0 ((q4.1 0 0 6) - (1 : Int32)).toNatClampNeg)), some (aI (1 : Int32)), none]) (st1 := []) (σ1 := q4) (P := [vp_in ((q4.1 0 0 6) - (1 : Int32)) 12]) rfl ⟨g5, trivial⟩ ?_
          exact lp_X11_safest_70 B q FU x1 x2 (q4.2.1 9 0 ((q4.1 0 0 6) - (1 : Int32)).toNatClampNeg) (1 : Int32) q4 hm
        · rw [if_neg h6] at hm
          refine XW.bk B [(50, .bipush (-2)), (52, .goto 14), (66, .istore_n 3), (67, .iconst 1), (68, .istore 4)] (by decide +kernel) (pc1 := 70) (ls1 := [some (aR 0 0), some (aI x1), some (aI x2), some (aI (-2 : Int32)), some (aI (1 : Int32)), none]) (st1 := []) (σ1 := q4) (P := []) rfl trivial ?_
          exact lp_X11_safest_70 B q FU x1 x2 (-2 : Int32) (1 : Int32) q4 hm

def L_X11_menFor_48 : Nat → Int32 → Int32 → Int32 → Int32 → Int32 → SS → Option (Int32 × SS)
  | 0, _, _, _, _, _, _ => none
  | n + 1, v1, v2, v3, v4, v5, σ =>
    if v5 < (1 : Int32) then
      some (v4, (sA σ 1 0 (84 : Int32).toNatClampNeg v3))
    else
    Option.bind (m_X11_walks v1 (0 : Int32) v2 (sA σ 1 0 (84 : Int32).toNatClampNeg v5)) (fun q7 =>
    if (0 : Int32) ≤ (q7.1 0 0 18) then
      L_X11_menFor_48 n v1 v2 v3 v4 (v5 + (-1 : Int32)) q7
    else
    L_X11_menFor_48 n v1 v2 v3 v5 (v5 + (-1 : Int32)) q7)
def m_X11_menFor (x1 : Int32) (x2 : Int32) (σ : SS) : Option (Int32 × SS) :=
  Option.bind (m_X11_bytesIs x1 σ) (fun q1 =>
  if q1 = (-1 : Int32) then
    some ((-1 : Int32), σ)
  else
  if (m_X11_isMinute x2) = (0 : Int32) then
    some ((-1 : Int32), σ)
  else
  Option.bind (m_X11_walkIs x1 σ) (fun q4 =>
  if (0 : Int32) ≤ q4 then
    L_X11_menFor_48 FU x1 x2 (σ.2.1 1 0 (84 : Int32).toNatClampNeg) (-2 : Int32) (6 : Int32) σ
  else
  Option.bind (m_X11_walkIs x1 σ) (fun q9 =>
  some (q9, σ))))
set_option maxRecDepth 100000 in
set_option maxHeartbeats 4000000 in
theorem lp_X11_menFor_48 {Γ : XC} {r : Int32} {σ' : SS} (B : XB Γ cX11_menFor RX11 66 K11 LM 6) (q : XQ Γ (some .int) (some (aI r)) σ') : ∀ (n : Nat) (v1 : Int32) (v2 : Int32) (v3 : Int32) (v4 : Int32) (v5 : Int32) (σ : SS), L_X11_menFor_48 n v1 v2 v3 v4 v5 σ = some (r, σ') → XW Γ 48 [some (aR 0 0), some (aI v1), some (aI v2), some (aI v3), some (aI v4), some (aI v5)] [] σ := by
  intro n
  induction n with
  | zero => intro v1 v2 v3 v4 v5 σ hm; cases hm
  | succ n ih =>
    intro v1 v2 v3 v4 v5 σ hm
    rw [L_X11_menFor_48] at hm
    refine XW.bb B [(48, .iload 5), (50, .iconst 1)] (by decide +kernel) (pc1 := 51) (ls1 := [some (aR 0 0), some (aI v1), some (aI v2), some (aI v3), some (aI v4), some (aI v5)]) (st1 := [aI (1 : Int32), aI v5]) (σ1 := σ) (P := []) (i := .if_icmp .lt 41) (tgt := 92) (q := v5 < (1 : Int32)) rfl trivial (by decide +kernel) rfl (by decide) (fun h6 => ?_) (fun h6 => ?_)
    · rw [if_pos h6] at hm
      refine XW.bk B [(92, .aload_n 0), (93, .getfield 11), (96, .bipush 84), (98, .iload_n 3), (99, .iastore), (100, .iload 4)] (by decide +kernel) (pc1 := 102) (ls1 := [some (aR 0 0), some (aI v1), some (aI v2), some (aI v3), some (aI v4), some (aI v5)]) (st1 := [aI v4]) (σ1 := (sA σ 1 0 (84 : Int32).toNatClampNeg v3)) (P := [vp_in (84 : Int32) 88]) rfl ⟨(vin_lit (by decide +kernel)), trivial⟩ ?_
      obtain ⟨rfl, rfl⟩ := Prod.mk.inj (Option.some.inj hm)
      exact XW.iret B q (by decide +kernel)
    · rw [if_neg h6] at hm
      refine XW.bk B [(54, .aload_n 0), (55, .getfield 11), (58, .bipush 84), (60, .iload 5), (62, .iastore), (63, .aload_n 0), (64, .iload_n 1), (65, .iconst 0), (66, .iload_n 2)] (by decide +kernel) (pc1 := 67) (ls1 := [some (aR 0 0), some (aI v1), some (aI v2), some (aI v3), some (aI v4), some (aI v5)]) (st1 := [aI v2, aI (0 : Int32), aI v1, aR 0 0]) (σ1 := (sA σ 1 0 (84 : Int32).toNatClampNeg v5)) (P := [vp_in (84 : Int32) 88]) rfl ⟨(vin_lit (by decide +kernel)), trivial⟩ ?_
      obtain ⟨q7, hq7, hm⟩ := obind_eq hm
      refine XW.callV B (M := M_X11_walks) (t := 0) (j := 0) (cn := 1) (as := [aI v1, aI (0 : Int32), aI v2]) (c_X11_walks v1 (0 : Int32) v2 (sA σ 1 0 (84 : Int32).toNatClampNeg v5) hq7) (by decide) wV_X11_walks wN_X11_walks lk_X11_227 rfl rfl rfl (by decide) rfl (Nat.le_of_ble_eq_true rfl) (by decide +kernel) ?_
      refine XW.bb B [(70, .aload_n 0), (71, .getfield 207)] (by decide +kernel) (pc1 := 74) (ls1 := [some (aR 0 0), some (aI v1), some (aI v2), some (aI v3), some (aI v4), some (aI v5)]) (st1 := [aI (q7.1 0 0 18)]) (σ1 := q7) (P := []) (i := .ifCond .ge 8) (tgt := 82) (q := (0 : Int32) ≤ (q7.1 0 0 18)) rfl trivial (by decide +kernel) rfl (by decide) (fun h8 => ?_) (fun h8 => ?_)
      · rw [if_pos h8] at hm
        refine XW.bk B [(82, .iload 4), (84, .istore 4), (86, .iinc 5 (-1)), (89, .goto (-41))] (by decide +kernel) (pc1 := 48) (ls1 := [some (aR 0 0), some (aI v1), some (aI v2), some (aI v3), some (aI v4), some (aI (v5 + (-1 : Int32)))]) (st1 := []) (σ1 := q7) (P := []) rfl trivial ?_
        exact ih v1 v2 v3 v4 (v5 + (-1 : Int32)) q7 hm
      · rw [if_neg h8] at hm
        refine XW.bk B [(77, .iload 5), (79, .goto 5), (84, .istore 4), (86, .iinc 5 (-1)), (89, .goto (-41))] (by decide +kernel) (pc1 := 48) (ls1 := [some (aR 0 0), some (aI v1), some (aI v2), some (aI v3), some (aI v5), some (aI (v5 + (-1 : Int32)))]) (st1 := []) (σ1 := q7) (P := []) rfl trivial ?_
        exact ih v1 v2 v3 v5 (v5 + (-1 : Int32)) q7 hm
set_option maxRecDepth 100000 in
set_option maxHeartbeats 4000000 in
theorem c_X11_menFor (x1 : Int32) (x2 : Int32) (σ : SS) {r : Int32} {σ' : SS} (hm : m_X11_menFor x1 x2 σ = some (r, σ')) : XM LM 66 M_X11_menFor [aR 0 0, aI x1, aI x2] σ (some (aI r)) σ' := by
  refine XM.of (K := K11) (by decide) (by decide +kernel) K11_ok (Nat.le_of_ble_eq_true rfl) (fun Γ B q => ?_)
  unfold m_X11_menFor at hm
  refine XW.bk B [(0, .aload_n 0), (1, .iload_n 1)] (by decide +kernel) (pc1 := 2) (ls1 := [some (aR 0 0), some (aI x1), some (aI x2), none, none, none]) (st1 := [aI x1, aR 0 0]) (σ1 := σ) (P := []) rfl trivial ?_
  obtain ⟨q1, hq1, hm⟩ := obind_eq hm
  refine XW.callV B (M := M_X11_bytesIs) (t := 0) (j := 0) (cn := 1) (as := [aI x1]) (c_X11_bytesIs x1 σ hq1) (by decide) wV_X11_bytesIs wN_X11_bytesIs lk_X11_204 rfl rfl rfl (by decide) rfl (Nat.le_of_ble_eq_true rfl) (by decide +kernel) ?_
  refine XW.bb B [(5, .iconst (-1))] (by decide +kernel) (pc1 := 6) (ls1 := [some (aR 0 0), some (aI x1), some (aI x2), none, none, none]) (st1 := [aI (-1 : Int32), aI q1]) (σ1 := σ) (P := []) (i := .if_icmp .eq 10) (tgt := 16) (q := q1 = (-1 : Int32)) rfl trivial (by decide +kernel) rfl (by decide) (fun h2 => ?_) (fun h2 => ?_)
  · rw [if_pos h2] at hm
    refine XW.bk B [(16, .iconst (-1))] (by decide +kernel) (pc1 := 17) (ls1 := [some (aR 0 0), some (aI x1), some (aI x2), none, none, none]) (st1 := [aI (-1 : Int32)]) (σ1 := σ) (P := []) rfl trivial ?_
    obtain ⟨rfl, rfl⟩ := Prod.mk.inj (Option.some.inj hm)
    exact XW.iret B q (by decide +kernel)
  · rw [if_neg h2] at hm
    refine XW.bk B [(9, .iload_n 2)] (by decide +kernel) (pc1 := 10) (ls1 := [some (aR 0 0), some (aI x1), some (aI x2), none, none, none]) (st1 := [aI x2]) (σ1 := σ) (P := []) rfl trivial ?_
    refine XW.callS B (M := M_X11_isMinute) (as := [aI x2]) (c_X11_isMinute x2 σ rfl) (by decide) wS_X11_isMinute wN_X11_isMinute lk_X11_219 rfl (Nat.le_of_ble_eq_true rfl) (by decide +kernel) ?_
    refine XW.bn B [] (by decide +kernel) (pc1 := 13) (ls1 := [some (aR 0 0), some (aI x1), some (aI x2), none, none, none]) (st1 := [aI (m_X11_isMinute x2)]) (σ1 := σ) (P := []) (i := .ifCond .ne 5) (tgt := 18) (q := (m_X11_isMinute x2) = (0 : Int32)) rfl trivial (by decide +kernel) rfl (by decide) (fun h3 => ?_) (fun h3 => ?_)
    · rw [if_pos h3] at hm
      refine XW.bk B [(16, .iconst (-1))] (by decide +kernel) (pc1 := 17) (ls1 := [some (aR 0 0), some (aI x1), some (aI x2), none, none, none]) (st1 := [aI (-1 : Int32)]) (σ1 := σ) (P := []) rfl trivial ?_
      obtain ⟨rfl, rfl⟩ := Prod.mk.inj (Option.some.inj hm)
      exact XW.iret B q (by decide +kernel)
    · rw [if_neg h3] at hm
      refine XW.bk B [(18, .aload_n 0), (19, .iload_n 1)] (by decide +kernel) (pc1 := 20) (ls1 := [some (aR 0 0), some (aI x1), some (aI x2), none, none, none]) (st1 := [aI x1, aR 0 0]) (σ1 := σ) (P := []) rfl trivial ?_
      obtain ⟨q4, hq4, hm⟩ := obind_eq hm
      refine XW.callV B (M := M_X11_walkIs) (t := 0) (j := 0) (cn := 1) (as := [aI x1]) (c_X11_walkIs x1 σ hq4) (by decide) wV_X11_walkIs wN_X11_walkIs lk_X11_224 rfl rfl rfl (by decide) rfl (Nat.le_of_ble_eq_true rfl) (by decide +kernel) ?_
      refine XW.bb B [] (by decide +kernel) (pc1 := 23) (ls1 := [some (aR 0 0), some (aI x1), some (aI x2), none, none, none]) (st1 := [aI q4]) (σ1 := σ) (P := []) (i := .ifCond .ge 9) (tgt := 32) (q := (0 : Int32) ≤ q4) rfl trivial (by decide +kernel) rfl (by decide) (fun h5 => ?_) (fun h5 => ?_)
      · rw [if_pos h5] at hm
        refine XW.bk B [(32, .aload_n 0), (33, .getfield 11), (36, .bipush 84), (38, .iaload), (39, .istore_n 3), (40, .bipush (-2)), (42, .istore 4), (44, .bipush 6), (46, .istore 5)] (by decide +kernel) (pc1 := 48) (ls1 := [some (aR 0 0), some (aI x1), some (aI x2), some (aI (σ.2.1 1 0 (84 : Int32).toNatClampNeg)), some (aI (-2 : Int32)), some (aI (6 : Int32))]) (st1 := []) (σ1 := σ) (P := [vp_in (84 : Int32) 88]) rfl ⟨(vin_lit (by decide +kernel)), trivial⟩ ?_
        exact lp_X11_menFor_48 B q FU x1 x2 (σ.2.1 1 0 (84 : Int32).toNatClampNeg) (-2 : Int32) (6 : Int32) σ hm
      · rw [if_neg h5] at hm
        refine XW.bk B [(26, .aload_n 0), (27, .iload_n 1)] (by decide +kernel) (pc1 := 28) (ls1 := [some (aR 0 0), some (aI x1), some (aI x2), none, none, none]) (st1 := [aI x1, aR 0 0]) (σ1 := σ) (P := []) rfl trivial ?_
        obtain ⟨q9, hq9, hm⟩ := obind_eq hm
        refine XW.callV B (M := M_X11_walkIs) (t := 0) (j := 0) (cn := 1) (as := [aI x1]) (c_X11_walkIs x1 σ hq9) (by decide) wV_X11_walkIs wN_X11_walkIs lk_X11_224 rfl rfl rfl (by decide) rfl (Nat.le_of_ble_eq_true rfl) (by decide +kernel) ?_
        obtain ⟨rfl, rfl⟩ := Prod.mk.inj (Option.some.inj hm)
        exact XW.iret B q (by decide +kernel)

def L_X11_van_34 : Nat → Int32 → Int32 → Int32 → SS → Option (Int32 × SS)
  | 0, _, _, _, _ => none
  | n + 1, v1, v2, v3, σ =>
    if (σ.1 0 0 6) ≤ v3 then
      some ((-2 : Int32), σ)
    else
    Option.bind (m_X11_walks v1 v3 v2 σ) (fun q7 =>
    if (0 : Int32) ≤ (q7.1 0 0 18) then
      L_X11_van_34 n v1 v2 (v3 + (1 : Int32)) q7
    else
    some (v3, q7))
def m_X11_van (x1 : Int32) (x2 : Int32) (σ : SS) : Option (Int32 × SS) :=
  Option.bind (m_X11_bytesIs x1 σ) (fun q1 =>
  if q1 = (-1 : Int32) then
    some ((-1 : Int32), σ)
  else
  if (m_X11_isMinute x2) = (0 : Int32) then
    some ((-1 : Int32), σ)
  else
  Option.bind (m_X11_walkIs x1 σ) (fun q4 =>
  if (0 : Int32) ≤ q4 then
    L_X11_van_34 FU x1 x2 (0 : Int32) σ
  else
  Option.bind (m_X11_walkIs x1 σ) (fun q9 =>
  some (q9, σ))))
set_option maxRecDepth 100000 in
set_option maxHeartbeats 4000000 in
theorem lp_X11_van_34 {Γ : XC} {r : Int32} {σ' : SS} (B : XB Γ cX11_van RX11 66 K11 LM 4) (q : XQ Γ (some .int) (some (aI r)) σ') : ∀ (n : Nat) (v1 : Int32) (v2 : Int32) (v3 : Int32) (σ : SS), L_X11_van_34 n v1 v2 v3 σ = some (r, σ') → XW Γ 34 [some (aR 0 0), some (aI v1), some (aI v2), some (aI v3)] [] σ := by
  intro n
  induction n with
  | zero => intro v1 v2 v3 σ hm; cases hm
  | succ n ih =>
    intro v1 v2 v3 σ hm
    rw [L_X11_van_34] at hm
    refine XW.bb B [(34, .iload_n 3), (35, .aload_n 0), (36, .getfield 81)] (by decide +kernel) (pc1 := 39) (ls1 := [some (aR 0 0), some (aI v1), some (aI v2), some (aI v3)]) (st1 := [aI (σ.1 0 0 6), aI v3]) (σ1 := σ) (P := []) (i := .if_icmp .ge 25) (tgt := 64) (q := (σ.1 0 0 6) ≤ v3) rfl trivial (by decide +kernel) rfl (by decide) (fun h6 => ?_) (fun h6 => ?_)
    · rw [if_pos h6] at hm
      refine XW.bk B [(64, .bipush (-2))] (by decide +kernel) (pc1 := 66) (ls1 := [some (aR 0 0), some (aI v1), some (aI v2), some (aI v3)]) (st1 := [aI (-2 : Int32)]) (σ1 := σ) (P := []) rfl trivial ?_
      obtain ⟨rfl, rfl⟩ := Prod.mk.inj (Option.some.inj hm)
      exact XW.iret B q (by decide +kernel)
    · rw [if_neg h6] at hm
      refine XW.bk B [(42, .aload_n 0), (43, .iload_n 1), (44, .iload_n 3), (45, .iload_n 2)] (by decide +kernel) (pc1 := 46) (ls1 := [some (aR 0 0), some (aI v1), some (aI v2), some (aI v3)]) (st1 := [aI v2, aI v3, aI v1, aR 0 0]) (σ1 := σ) (P := []) rfl trivial ?_
      obtain ⟨q7, hq7, hm⟩ := obind_eq hm
      refine XW.callV B (M := M_X11_walks) (t := 0) (j := 0) (cn := 1) (as := [aI v1, aI v3, aI v2]) (c_X11_walks v1 v3 v2 σ hq7) (by decide) wV_X11_walks wN_X11_walks lk_X11_227 rfl rfl rfl (by decide) rfl (Nat.le_of_ble_eq_true rfl) (by decide +kernel) ?_
      refine XW.bb B [(49, .aload_n 0), (50, .getfield 207)] (by decide +kernel) (pc1 := 53) (ls1 := [some (aR 0 0), some (aI v1), some (aI v2), some (aI v3)]) (st1 := [aI (q7.1 0 0 18)]) (σ1 := q7) (P := []) (i := .ifCond .ge 5) (tgt := 58) (q := (0 : Int32) ≤ (q7.1 0 0 18)) rfl trivial (by decide +kernel) rfl (by decide) (fun h8 => ?_) (fun h8 => ?_)
      · rw [if_pos h8] at hm
        refine XW.bk B [(58, .iinc 3 1), (61, .goto (-27))] (by decide +kernel) (pc1 := 34) (ls1 := [some (aR 0 0), some (aI v1), some (aI v2), some (aI (v3 + (1 : Int32)))]) (st1 := []) (σ1 := q7) (P := []) rfl trivial ?_
        exact ih v1 v2 (v3 + (1 : Int32)) q7 hm
      · rw [if_neg h8] at hm
        refine XW.bk B [(56, .iload_n 3)] (by decide +kernel) (pc1 := 57) (ls1 := [some (aR 0 0), some (aI v1), some (aI v2), some (aI v3)]) (st1 := [aI v3]) (σ1 := q7) (P := []) rfl trivial ?_
        obtain ⟨rfl, rfl⟩ := Prod.mk.inj (Option.some.inj hm)
        exact XW.iret B q (by decide +kernel)
set_option maxRecDepth 100000 in
set_option maxHeartbeats 4000000 in
theorem c_X11_van (x1 : Int32) (x2 : Int32) (σ : SS) {r : Int32} {σ' : SS} (hm : m_X11_van x1 x2 σ = some (r, σ')) : XM LM 66 M_X11_van [aR 0 0, aI x1, aI x2] σ (some (aI r)) σ' := by
  refine XM.of (K := K11) (by decide) (by decide +kernel) K11_ok (Nat.le_of_ble_eq_true rfl) (fun Γ B q => ?_)
  unfold m_X11_van at hm
  refine XW.bk B [(0, .aload_n 0), (1, .iload_n 1)] (by decide +kernel) (pc1 := 2) (ls1 := [some (aR 0 0), some (aI x1), some (aI x2), none]) (st1 := [aI x1, aR 0 0]) (σ1 := σ) (P := []) rfl trivial ?_
  obtain ⟨q1, hq1, hm⟩ := obind_eq hm
  refine XW.callV B (M := M_X11_bytesIs) (t := 0) (j := 0) (cn := 1) (as := [aI x1]) (c_X11_bytesIs x1 σ hq1) (by decide) wV_X11_bytesIs wN_X11_bytesIs lk_X11_204 rfl rfl rfl (by decide) rfl (Nat.le_of_ble_eq_true rfl) (by decide +kernel) ?_
  refine XW.bb B [(5, .iconst (-1))] (by decide +kernel) (pc1 := 6) (ls1 := [some (aR 0 0), some (aI x1), some (aI x2), none]) (st1 := [aI (-1 : Int32), aI q1]) (σ1 := σ) (P := []) (i := .if_icmp .eq 10) (tgt := 16) (q := q1 = (-1 : Int32)) rfl trivial (by decide +kernel) rfl (by decide) (fun h2 => ?_) (fun h2 => ?_)
  · rw [if_pos h2] at hm
    refine XW.bk B [(16, .iconst (-1))] (by decide +kernel) (pc1 := 17) (ls1 := [some (aR 0 0), some (aI x1), some (aI x2), none]) (st1 := [aI (-1 : Int32)]) (σ1 := σ) (P := []) rfl trivial ?_
    obtain ⟨rfl, rfl⟩ := Prod.mk.inj (Option.some.inj hm)
    exact XW.iret B q (by decide +kernel)
  · rw [if_neg h2] at hm
    refine XW.bk B [(9, .iload_n 2)] (by decide +kernel) (pc1 := 10) (ls1 := [some (aR 0 0), some (aI x1), some (aI x2), none]) (st1 := [aI x2]) (σ1 := σ) (P := []) rfl trivial ?_
    refine XW.callS B (M := M_X11_isMinute) (as := [aI x2]) (c_X11_isMinute x2 σ rfl) (by decide) wS_X11_isMinute wN_X11_isMinute lk_X11_219 rfl (Nat.le_of_ble_eq_true rfl) (by decide +kernel) ?_
    refine XW.bn B [] (by decide +kernel) (pc1 := 13) (ls1 := [some (aR 0 0), some (aI x1), some (aI x2), none]) (st1 := [aI (m_X11_isMinute x2)]) (σ1 := σ) (P := []) (i := .ifCond .ne 5) (tgt := 18) (q := (m_X11_isMinute x2) = (0 : Int32)) rfl trivial (by decide +kernel) rfl (by decide) (fun h3 => ?_) (fun h3 => ?_)
    · rw [if_pos h3] at hm
      refine XW.bk B [(16, .iconst (-1))] (by decide +kernel) (pc1 := 17) (ls1 := [some (aR 0 0), some (aI x1), some (aI x2), none]) (st1 := [aI (-1 : Int32)]) (σ1 := σ) (P := []) rfl trivial ?_
      obtain ⟨rfl, rfl⟩ := Prod.mk.inj (Option.some.inj hm)
      exact XW.iret B q (by decide +kernel)
    · rw [if_neg h3] at hm
      refine XW.bk B [(18, .aload_n 0), (19, .iload_n 1)] (by decide +kernel) (pc1 := 20) (ls1 := [some (aR 0 0), some (aI x1), some (aI x2), none]) (st1 := [aI x1, aR 0 0]) (σ1 := σ) (P := []) rfl trivial ?_
      obtain ⟨q4, hq4, hm⟩ := obind_eq hm
      refine XW.callV B (M := M_X11_walkIs) (t := 0) (j := 0) (cn := 1) (as := [aI x1]) (c_X11_walkIs x1 σ hq4) (by decide) wV_X11_walkIs wN_X11_walkIs lk_X11_224 rfl rfl rfl (by decide) rfl (Nat.le_of_ble_eq_true rfl) (by decide +kernel) ?_
      refine XW.bb B [] (by decide +kernel) (pc1 := 23) (ls1 := [some (aR 0 0), some (aI x1), some (aI x2), none]) (st1 := [aI q4]) (σ1 := σ) (P := []) (i := .ifCond .ge 9) (tgt := 32) (q := (0 : Int32) ≤ q4) rfl trivial (by decide +kernel) rfl (by decide) (fun h5 => ?_) (fun h5 => ?_)
      · rw [if_pos h5] at hm
        refine XW.bk B [(32, .iconst 0), (33, .istore_n 3)] (by decide +kernel) (pc1 := 34) (ls1 := [some (aR 0 0), some (aI x1), some (aI x2), some (aI (0 : Int32))]) (st1 := []) (σ1 := σ) (P := []) rfl trivial ?_
        exact lp_X11_van_34 B q FU x1 x2 (0 : Int32) σ hm
      · rw [if_neg h5] at hm
        refine XW.bk B [(26, .aload_n 0), (27, .iload_n 1)] (by decide +kernel) (pc1 := 28) (ls1 := [some (aR 0 0), some (aI x1), some (aI x2), none]) (st1 := [aI x1, aR 0 0]) (σ1 := σ) (P := []) rfl trivial ?_
        obtain ⟨q9, hq9, hm⟩ := obind_eq hm
        refine XW.callV B (M := M_X11_walkIs) (t := 0) (j := 0) (cn := 1) (as := [aI x1]) (c_X11_walkIs x1 σ hq9) (by decide) wV_X11_walkIs wN_X11_walkIs lk_X11_224 rfl rfl rfl (by decide) rfl (Nat.le_of_ble_eq_true rfl) (by decide +kernel) ?_
        obtain ⟨rfl, rfl⟩ := Prod.mk.inj (Option.some.inj hm)
        exact XW.iret B q (by decide +kernel)
