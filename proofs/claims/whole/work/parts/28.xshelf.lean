theorem c_shelfAt0 {x1 : Int32} (h : x1 < 0 ∨ ¬ x1 < 6) (σ : SS) : XM LC 1 M_X10_shelfAt [aR 0 0, aI x1] σ (some aN) σ := by
  refine XM.of (K := K10) (by decide) (by decide +kernel) K10_ok (Nat.le_of_ble_eq_true rfl) (fun Γ B q => ?_)
  have e : XW Γ 22 [some (aR 0 0), some (aI x1)] [] σ := by
    refine XW.bk B [(22, .aconst_null)] (by decide +kernel) (pc1 := 23) (ls1 := [some (aR 0 0), some (aI x1)]) (st1 := [aN]) (σ1 := σ) (P := []) rfl trivial ?_
    exact XW.aret B (Or.inl rfl) q (by decide +kernel)
  refine XW.bb B [(0, .iload_n 1)] (by decide +kernel) (pc1 := 1) (ls1 := [some (aR 0 0), some (aI x1)]) (st1 := [aI x1]) (σ1 := σ) (P := []) (i := .ifCond .lt 21) (tgt := 22) (q := x1 < 0) rfl trivial (by decide +kernel) rfl (by decide) (fun h1 => e) (fun h1 => ?_)
  refine XW.bb B [(4, .iload_n 1), (5, .aload_n 0), (6, .getfield 74), (9, .arraylength)] (by decide +kernel) (pc1 := 10) (ls1 := [some (aR 0 0), some (aI x1)]) (st1 := [aI 6, aI x1]) (σ1 := σ) (P := []) (i := .if_icmp .ge 12) (tgt := 22) (q := (6 : Int32) ≤ x1) rfl trivial (by decide +kernel) rfl (by decide) (fun h2 => e) (fun h2 => ?_)
  exact absurd (h.resolve_left h1) (Classical.not_not.mpr (Int32.not_le.mp h2))
theorem c_shelfAt1 {x1 : Int32} (h : ¬ (x1 < 0 ∨ ¬ x1 < 6)) (σ : SS) : XM LC 1 M_X10_shelfAt [aR 0 0, aI x1] σ (some (aR 28 x1.toNatClampNeg)) σ := by
  refine XM.of (K := K10) (by decide) (by decide +kernel) K10_ok (Nat.le_of_ble_eq_true rfl) (fun Γ B q => ?_)
  refine XW.bb B [(0, .iload_n 1)] (by decide +kernel) (pc1 := 1) (ls1 := [some (aR 0 0), some (aI x1)]) (st1 := [aI x1]) (σ1 := σ) (P := []) (i := .ifCond .lt 21) (tgt := 22) (q := x1 < 0) rfl trivial (by decide +kernel) rfl (by decide) (fun h1 => absurd (Or.inl h1) h) (fun h1 => ?_)
  refine XW.bb B [(4, .iload_n 1), (5, .aload_n 0), (6, .getfield 74), (9, .arraylength)] (by decide +kernel) (pc1 := 10) (ls1 := [some (aR 0 0), some (aI x1)]) (st1 := [aI 6, aI x1]) (σ1 := σ) (P := []) (i := .if_icmp .ge 12) (tgt := 22) (q := (6 : Int32) ≤ x1) rfl trivial (by decide +kernel) rfl (by decide) (fun h2 => absurd (Or.inr (Int32.not_lt.mpr h2)) h) (fun h2 => ?_)
  refine XW.bk B [(13, .aload_n 0), (14, .getfield 74), (17, .iload_n 1), (18, .aaload), (19, .goto 4)] (by decide +kernel) (pc1 := 23) (ls1 := [some (aR 0 0), some (aI x1)]) (st1 := [aR 28 x1.toNatClampNeg]) (σ1 := σ) (P := [vp_in x1 6]) rfl ⟨vin_a h1 h2 (by decide +kernel), trivial⟩ ?_
  exact XW.aret B (Or.inr ⟨_, _, rfl⟩) q (by decide +kernel)
