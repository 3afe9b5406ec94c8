theorem sA_ne {σ : SS} {t j i a b : Nat} {v : Int32} (h : ¬ (a = t ∧ b = j)) : (sA σ t j i v).2.1 a b = σ.2.1 a b := by
  funext c
  exact if_neg (fun q => h ⟨q.1, q.2.1⟩)
theorem sL_ne {σ : SS} {t j i a b : Nat} {v : Int64} (h : ¬ (a = t ∧ b = j)) : (sL σ t j i v).2.2 a b = σ.2.2 a b := by
  funext c
  exact if_neg (fun q => h ⟨q.1, q.2.1⟩)
theorem sAf_ne {σ : SS} {t j a b : Nat} {f : Nat → Int32} (h : ¬ (a = t ∧ b = j)) : (sAf σ t j f).2.1 a b = σ.2.1 a b := by
  funext c
  exact if_neg h
theorem sLf_ne {σ : SS} {t j a b : Nat} {f : Nat → Int64} (h : ¬ (a = t ∧ b = j)) : (sLf σ t j f).2.2 a b = σ.2.2 a b := by
  funext c
  exact if_neg h
section XR
variable {Γ : XC} {cc : ByteArray} {own : String} {d pc : Nat} {ls : List (Option AV)} {r : List AV} {σ : SS}
theorem XW.getf (G : XG Γ cc own d) {x ci k t j cn nw : Nat} {b : Bool} {fl : List (Option (Nat × Bool))} {f : Option (Nat × Bool)} (hf : fldP own (x, ci, k, b, nw)) (hl : (xL Γ)[t]? = some (cn, .inl (ci, fl))) (hk : fl[k]? = some f) (hj : j < cn) (hd : decode cc pc = .ok (.getfield x, 3)) (kk : XW Γ (pc + 3) ls (aVf σ t j k f :: r) σ) : XW Γ pc ls (aR t j :: r) σ := by
  obtain ⟨⟨p, l, e, R⟩, ⟨s, m, args, below, meth, c⟩, ⟨Q, cells, slots, nL⟩, ⟨D, cs, ad, A, Λ⟩⟩ := Γ
  obtain ⟨hx, hb, hml, hown, hts, hK, hst, -⟩ := G
  intro H locs L hP hD hS hL
  have hl : Λ[t]? = some (cn, .inl (ci, fl)) := hl
  unfold fldP at hf
  dsimp only at hf
  split at hf
  · rename_i C T N hc
    obtain ⟨h1, h2, h3, -⟩ := hf
    obtain ⟨q0, -, hq⟩ := aWl_at (cs := cs) (ad := ad) (σ := σ) hl hj
    refine va_get (D := D) (ci := ci) (v := rv ad (aVf σ t j k f)) (C := C) (T := T) (N := N) (ref := C) hx hb hts (cl_ws ci C T N hc) hown hK hP q0 hq hc k h1 (hts _ h2) (fun y hy => by rw [h3] at hy; exact hy) ?_ hd (kk H locs L hP hD hS hL)
    rw [aFs_get ad σ t j fl 0 k hk, aVf_rv, Nat.zero_add]
  · cases hf
theorem XW.putf (G : XG Γ cc own d) {x ci k t j cn nw : Nat} {fl : List (Option (Nat × Bool))} {v : Int32} (hf : fldP own (x, ci, k, true, nw)) (hl : (xL Γ)[t]? = some (cn, .inl (ci, fl))) (hk : fl[k]? = some none) (hj : j < cn) (hd : decode cc pc = .ok (.putfield x, 3)) (kk : XW Γ (pc + 3) ls r (sI σ t j k v)) : XW Γ pc ls (aI v :: aR t j :: r) σ := by
  obtain ⟨⟨p, l, e, R⟩, ⟨s, m, args, below, meth, c⟩, ⟨Q, cells, slots, nL⟩, ⟨D, cs, ad, A, Λ⟩⟩ := Γ
  obtain ⟨hx, hb, hml, hown, hts, hK, hst, -⟩ := G
  intro H locs L hP hD hS hL
  have hl : Λ[t]? = some (cn, .inl (ci, fl)) := hl
  unfold fldP at hf
  dsimp only at hf
  split at hf
  · rename_i C T N hc
    obtain ⟨h1, h2, h3, h45⟩ := hf
    obtain ⟨h4, h5⟩ := h45 rfl
    obtain ⟨ty, hty, hnm⟩ := cl_ty ci C T N hc
    obtain ⟨q0, hq1, hq⟩ := aWl_at (cs := cs) (ad := ad) (σ := σ) hl hj
    refine va_put (D := D) (ci := ci) (v := .int v) (ty := .int) (C := C) (T := T) (N := N) (ref := C) hx hb hts (cl_ws ci C T N hc) ty hty hnm hown hK hP hD hS q0 hq hc k h1 (hts _ h2) (fun y hy => by rw [h3] at hy; exact hy) h4 h5 rfl rfl (by rw [aFs_len]; exact (List.getElem?_eq_some_iff.mp hk).1) hd (fun H1 locs1 hP1 hD1 hS1 => ?_)
    have e : (aWl Λ cs ad σ).set q0 (ad t j, .inr (ci, (aFs ad σ t j 0 fl).set k (.int v))) = aWl Λ cs ad (sI σ t j k v) := by
      rw [← aWl_set hq1 (fun q hq => aWc_sI q hq), aFs_set fl 0 k hk, Nat.zero_add]
      simp [aWc, aSpOf, show Λ[t]? = some (cn, .inl (ci, fl)) from hl, aCell]
    rw [e] at hP1 hD1
    exact kk H1 locs1 L hP1 hD1 hS1 hL
  · cases hf
theorem XW.iald (G : XG Γ cc own d) {t j cn n : Nat} {x : Int32} (hl : (xL Γ)[t]? = some (cn, .inr (0, n))) (hj : j < cn) (hin : vp_in x n) (hd : decode cc pc = .ok (.iaload, 1)) (kk : XW Γ (pc + 1) ls (aI (σ.2.1 t j x.toNatClampNeg) :: r) σ) : XW Γ pc ls (aI x :: aR t j :: r) σ := by
  obtain ⟨⟨p, l, e, R⟩, ⟨s, m, args, below, meth, c⟩, ⟨Q, cells, slots, nL⟩, ⟨D, cs, ad, A, Λ⟩⟩ := Γ
  obtain ⟨hx, hb, hml, hown, hts, hK, hst, -⟩ := G
  intro H locs L hP hD hS hL
  have hl : Λ[t]? = some (cn, .inr (0, n)) := hl
  obtain ⟨q0, -, hq⟩ := aWl_at (cs := cs) (ad := ad) (σ := σ) hl hj
  exact va_iald (D := D) (f := σ.2.1 t j) hx hb hK hP q0 0 hq rfl hin hd (kk H locs L hP hD hS hL)
theorem XW.lald (G : XG Γ cc own d) {t j cn n : Nat} {x : Int32} (hl : (xL Γ)[t]? = some (cn, .inr (1, n))) (hj : j < cn) (hin : vp_in x n) (hd : decode cc pc = .ok (.laload, 1)) (kk : XW Γ (pc + 1) ls (aJ (σ.2.2 t j x.toNatClampNeg) :: r) σ) : XW Γ pc ls (aI x :: aR t j :: r) σ := by
  obtain ⟨⟨p, l, e, R⟩, ⟨s, m, args, below, meth, c⟩, ⟨Q, cells, slots, nL⟩, ⟨D, cs, ad, A, Λ⟩⟩ := Γ
  obtain ⟨hx, hb, hml, hown, hts, hK, hst, -⟩ := G
  intro H locs L hP hD hS hL
  have hl : Λ[t]? = some (cn, .inr (1, n)) := hl
  obtain ⟨q0, -, hq⟩ := aWl_at (cs := cs) (ad := ad) (σ := σ) hl hj
  exact va_lald (D := D) (f := σ.2.2 t j) hx hb hK hP q0 1 hq rfl hin hd (kk H locs L hP hD hS hL)
theorem XW.aald (G : XG Γ cc own d) {t j cn n k : Nat} {x : Int32} (hl : (xL Γ)[t]? = some (cn, .inr (k + 2, n))) (hj : j < cn) (hin : vp_in x n) (hd : decode cc pc = .ok (.aaload, 1)) (kk : XW Γ (pc + 1) ls (aR k x.toNatClampNeg :: r) σ) : XW Γ pc ls (aI x :: aR t j :: r) σ := by
  obtain ⟨⟨p, l, e, R⟩, ⟨s, m, args, below, meth, c⟩, ⟨Q, cells, slots, nL⟩, ⟨D, cs, ad, A, Λ⟩⟩ := Γ
  obtain ⟨hx, hb, hml, hown, hts, hK, hst, -⟩ := G
  intro H locs L hP hD hS hL
  have hl : Λ[t]? = some (cn, .inr (k + 2, n)) := hl
  obtain ⟨q0, -, hq⟩ := aWl_at (cs := cs) (ad := ad) (σ := σ) hl hj
  exact va_aldq (D := D) (f := fun i => some (ad k i)) hx hb hK hP q0 2 hq rfl hin hd (kk H locs L hP hD hS hL)
theorem XW.alen (G : XG Γ cc own d) {t j cn n k : Nat} (hl : (xL Γ)[t]? = some (cn, .inr (k, n))) (hj : j < cn) (hd : decode cc pc = .ok (.arraylength, 1)) (kk : XW Γ (pc + 1) ls (aI (Int32.ofNat n) :: r) σ) : XW Γ pc ls (aR t j :: r) σ := by
  obtain ⟨⟨p, l, e, R⟩, ⟨s, m, args, below, meth, c⟩, ⟨Q, cells, slots, nL⟩, ⟨D, cs, ad, A, Λ⟩⟩ := Γ
  obtain ⟨hx, hb, hml, hown, hts, hK, hst, -⟩ := G
  intro H locs L hP hD hS hL
  have hl : Λ[t]? = some (cn, .inr (k, n)) := hl
  obtain ⟨q0, -, hq⟩ := aWl_at (cs := cs) (ad := ad) (σ := σ) hl hj
  match k, hq with
  | 0, hq => exact va_alen (D := D) hx hb hK hP q0 0 hq rfl rfl hd (kk H locs L hP hD hS hL)
  | 1, hq => exact va_alen (D := D) hx hb hK hP q0 1 hq rfl rfl hd (kk H locs L hP hD hS hL)
  | k + 2, hq => exact va_alen (D := D) hx hb hK hP q0 2 hq rfl rfl hd (kk H locs L hP hD hS hL)
theorem XW.iast (G : XG Γ cc own d) {t j cn n : Nat} {x v : Int32} (hl : (xL Γ)[t]? = some (cn, .inr (0, n))) (hj : j < cn) (hin : vp_in x n) (hd : decode cc pc = .ok (.iastore, 1)) (kk : XW Γ (pc + 1) ls r (sA σ t j x.toNatClampNeg v)) : XW Γ pc ls (aI v :: aI x :: aR t j :: r) σ := by
  obtain ⟨⟨p, l, e, R⟩, ⟨s, m, args, below, meth, c⟩, ⟨Q, cells, slots, nL⟩, ⟨D, cs, ad, A, Λ⟩⟩ := Γ
  obtain ⟨hx, hb, hml, hown, hts, hK, hst, -⟩ := G
  intro H locs L hP hD hS hL
  have hl : Λ[t]? = some (cn, .inr (0, n)) := hl
  obtain ⟨q0, hq1, hq⟩ := aWl_at (cs := cs) (ad := ad) (σ := σ) hl hj
  refine va_iast (D := D) (f := σ.2.1 t j) hx hb hK hP hD hS q0 0 hq rfl hin hd (fun H1 locs1 hP1 hD1 hS1 => ?_)
  have e2 : upd (σ.2.1 t j) x.toNatClampNeg v = (sA σ t j x.toNatClampNeg v).2.1 t j := by
    funext i
    simp [upd, sA]
  have e : (aWl Λ cs ad σ).set q0 (ad t j, .inl (cs.1, n, .inl (upd (σ.2.1 t j) x.toNatClampNeg v))) = aWl Λ cs ad (sA σ t j x.toNatClampNeg v) := by
    rw [← aWl_set (σ := σ) (σ' := sA σ t j x.toNatClampNeg v) hq1 (fun q hq => aWc_A (σ := σ) (σ' := sA σ t j x.toNatClampNeg v) rfl rfl (fun a b hab => sA_ne hab) q hq), e2]
    simp [aWc, aSpOf, show Λ[t]? = some (cn, .inr (0, n)) from hl, aCell]
  rw [e] at hP1 hD1
  exact kk H1 locs1 L hP1 hD1 hS1 hL
theorem XW.last (G : XG Γ cc own d) {t j cn n : Nat} {x : Int32} {v : Int64} (hl : (xL Γ)[t]? = some (cn, .inr (1, n))) (hj : j < cn) (hin : vp_in x n) (hd : decode cc pc = .ok (.lastore, 1)) (kk : XW Γ (pc + 1) ls r (sL σ t j x.toNatClampNeg v)) : XW Γ pc ls (aJ v :: aI x :: aR t j :: r) σ := by
  obtain ⟨⟨p, l, e, R⟩, ⟨s, m, args, below, meth, c⟩, ⟨Q, cells, slots, nL⟩, ⟨D, cs, ad, A, Λ⟩⟩ := Γ
  obtain ⟨hx, hb, hml, hown, hts, hK, hst, -⟩ := G
  intro H locs L hP hD hS hL
  have hl : Λ[t]? = some (cn, .inr (1, n)) := hl
  obtain ⟨q0, hq1, hq⟩ := aWl_at (cs := cs) (ad := ad) (σ := σ) hl hj
  refine va_last (D := D) (f := σ.2.2 t j) hx hb hK hP hD hS q0 1 hq rfl hin hd (fun H1 locs1 hP1 hD1 hS1 => ?_)
  have e2 : vp_updL (σ.2.2 t j) x.toNatClampNeg v = (sL σ t j x.toNatClampNeg v).2.2 t j := by
    funext i
    simp [vp_updL, sL]
  have e : (aWl Λ cs ad σ).set q0 (ad t j, .inl (cs.2.1, n, .inr (.inl (vp_updL (σ.2.2 t j) x.toNatClampNeg v)))) = aWl Λ cs ad (sL σ t j x.toNatClampNeg v) := by
    rw [← aWl_set (σ := σ) (σ' := sL σ t j x.toNatClampNeg v) hq1 (fun q hq => aWc_L (σ := σ) (σ' := sL σ t j x.toNatClampNeg v) rfl rfl (fun a b hab => sL_ne hab) q hq), e2]
    simp [aWc, aSpOf, show Λ[t]? = some (cn, .inr (1, n)) from hl, aCell]
  rw [e] at hP1 hD1
  exact kk H1 locs1 L hP1 hD1 hS1 hL
theorem XW.gets (G : XG Γ cc own d) {x k nw : Nat} (hf : stcP own (x, k, nw)) (hd : decode cc pc = .ok (.getstatic x, 3)) (kk : XW Γ (pc + 3) ls (aR (100 + k) 0 :: r) σ) : XW Γ pc ls r σ := by
  obtain ⟨⟨p, l, e, R⟩, ⟨s, m, args, below, meth, c⟩, ⟨Q, cells, slots, nL⟩, ⟨D, cs, ad, A, Λ⟩⟩ := Γ
  obtain ⟨hx, hb, hml, hown, hts, hK, hst, -⟩ := G
  intro H locs L hP hD hS hL
  exact va_gets hx hb (hst.1 k hf.1).1 hS hown (hts _ hf.2) (fun y hy => hy) hd (kk H locs L hP hD hS hL)
theorem XW.stld (G : XG Γ cc own d) {k : Nat} {x : Int32} (hk : k < 4) (hin : vp_in x (aStL k)) (hd : decode cc pc = .ok (.iaload, 1)) (kk : XW Γ (pc + 1) ls (aI (aStF k x.toNatClampNeg) :: r) σ) : XW Γ pc ls (aI x :: aR (100 + k) 0 :: r) σ := by
  obtain ⟨⟨p, l, e, R⟩, ⟨s, m, args, below, meth, c⟩, ⟨Q, cells, slots, nL⟩, ⟨D, cs, ad, A, Λ⟩⟩ := Γ
  obtain ⟨hx, hb, hml, hown, hts, hK, hst, -⟩ := G
  intro H locs L hP hD hS hL
  exact va_ti hx hb (hst.1 k hk).2 hS hin rfl hd (kk H locs L hP hD hS hL)
theorem XW.stlen (G : XG Γ cc own d) {k : Nat} (hk : k < 4) (hd : decode cc pc = .ok (.arraylength, 1)) (kk : XW Γ (pc + 1) ls (aI (Int32.ofNat (aStL k)) :: r) σ) : XW Γ pc ls (aR (100 + k) 0 :: r) σ := by
  obtain ⟨⟨p, l, e, R⟩, ⟨s, m, args, below, meth, c⟩, ⟨Q, cells, slots, nL⟩, ⟨D, cs, ad, A, Λ⟩⟩ := Γ
  obtain ⟨hx, hb, hml, hown, hts, hK, hst, -⟩ := G
  intro H locs L hP hD hS hL
  exact va_tlen hx hb (hst.1 k hk).2 hS rfl hd (kk H locs L hP hD hS hL)
theorem aCat_eq (ad1 ad2 : aMp) (r : List AV) : ((r.map (rv ad1)).map fun v => v.category) = r.map (fun v => (rv ad2 v).category) := by
  rw [List.map_map]
  refine List.map_congr_left fun v _ => ?_
  match v with
  | .inl w => rfl
  | .inr q => rfl
theorem XW.mmax (G : XG Γ cc own d) {x : Nat} {y z : Int32} (hf : Cond.methodLink own x Lib.Math.max.name ∈ GW) (hw : (r.map (fun v => (rv (fun _ _ => 0) v).category)).sum ≤ 8) (hd : decode cc pc = .ok (.invokestatic x, 3)) (kk : XW Γ (pc + 3) ls (aI (if z < y then y else z) :: r) σ) : XW Γ pc ls (aI y :: aI z :: r) σ := by
  obtain ⟨⟨p, l, e, R⟩, ⟨s, m, args, below, meth, c⟩, ⟨Q, cells, slots, nL⟩, ⟨D, cs, ad, A, Λ⟩⟩ := Γ
  obtain ⟨hx, hb, hml, hown, hts, hK, hst, g1, g2, g3, g4, g5⟩ := G
  intro H locs L hP hD hS hL
  rw [← aCat_eq ad] at hw
  exact va_mmax hx hb (hml.trans hL.1.symm) hown (hts _ hf) (hts _ GW_mx.1) (hts _ GW_mx.2.2.1) (hts _ GW_mx.2.2.2.1) (by omega) (by omega) g3 g4 hd (kk H locs L hP hD hS hL)
theorem XW.mmin (G : XG Γ cc own d) {x : Nat} {y z : Int32} (hf : Cond.methodLink own x Lib.Math.min.name ∈ GW) (hw : (r.map (fun v => (rv (fun _ _ => 0) v).category)).sum ≤ 8) (hd : decode cc pc = .ok (.invokestatic x, 3)) (kk : XW Γ (pc + 3) ls (aI (if y < z then y else z) :: r) σ) : XW Γ pc ls (aI y :: aI z :: r) σ := by
  obtain ⟨⟨p, l, e, R⟩, ⟨s, m, args, below, meth, c⟩, ⟨Q, cells, slots, nL⟩, ⟨D, cs, ad, A, Λ⟩⟩ := Γ
  obtain ⟨hx, hb, hml, hown, hts, hK, hst, g1, g2, g3, g4, g5⟩ := G
  intro H locs L hP hD hS hL
  rw [← aCat_eq ad] at hw
  exact va_mmin hx hb (hml.trans hL.1.symm) hown (hts _ hf) (hts _ GW_mx.2.1) (hts _ GW_mx.2.2.1) (hts _ GW_mx.2.2.2.2) (by omega) (by omega) g3 g4 hd (kk H locs L hP hD hS hL)
end XR
