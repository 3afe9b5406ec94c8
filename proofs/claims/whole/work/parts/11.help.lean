/-! helpers of the mirrored methods -/
def FU : Nat := 100000
def bnT {α β : Type} (x : α) (f : α → β) : β := f x
theorem bnT_eq {α β : Type} {x : α} {f : α → β} {r : β} (h : bnT x f = r) : ∃ q, x = q ∧ f q = r := ⟨x, rfl, h⟩
theorem obind_eq {α β : Type} {x : Option α} {f : α → Option β} {r : β} (h : Option.bind x f = some r) : ∃ q, x = some q ∧ f q = some r := by
  cases x with
  | none => cases h
  | some q => exact ⟨q, rfl, h⟩
theorem vin_lit {x : Int32} {n : Nat} (h : decide (¬ (x < 0 ∨ n ≤ x.toNatClampNeg)) = true) : vp_in x n := by
  have h1 : ¬ (x < 0 ∨ n ≤ x.toNatClampNeg) := of_decide_eq_true h
  exact h1
theorem vin_a {x c : Int32} {n : Nat} (h1 : ¬ x < 0) (h2 : ¬ c ≤ x) (hc : c.toInt ≤ (n : Int)) : vp_in x n := by
  refine vp_in_iff.mpr ⟨?_, ?_⟩
  · have := Int32.le_iff_toInt_le.mp (Int32.not_lt.mp h1)
    simpa using this
  · have := Int32.lt_iff_toInt_lt.mp (Int32.not_le.mp h2)
    omega
theorem vin_b {x c : Int32} {n : Nat} (h1 : ¬ x < 0) (h2 : x < c) (hc : c.toInt ≤ (n : Int)) : vp_in x n := vin_a h1 (Int32.not_le.mpr h2) hc
theorem vin_c {x c : Int32} {n : Nat} (h1 : 0 ≤ x) (h2 : ¬ c ≤ x) (hc : c.toInt ≤ (n : Int)) : vp_in x n := vin_a (Int32.not_lt.mpr h1) h2 hc
theorem vin_d {x c : Int32} {n : Nat} (h1 : 0 ≤ x) (h2 : x < c) (hc : c.toInt ≤ (n : Int)) : vp_in x n := vin_a (Int32.not_lt.mpr h1) (Int32.not_le.mpr h2) hc
theorem vin_cl {x : Int32} {n : Nat} (h : vp_in x n) : x.toNatClampNeg < n := Nat.not_le.mp (fun q => h (Or.inr q))
theorem nz_a {x : Int32} (h : ¬ x ≤ 0) : ¬ x = 0 := fun e => h (by rw [e]; exact Int32.le_refl 0)
theorem nz_b {x : Int32} (h : 0 < x) : ¬ x = 0 := fun e => by rw [e] at h; exact absurd h (by decide)
theorem nz_c {x : Int64} (h : ¬ lg_cmp x 0 = 0) : ¬ x = 0 := fun e => h (by rw [e]; rfl)
theorem sh_j {x : Int32} (h : ¬ (x < 0 ∨ ¬ x < 6)) : x.toNatClampNeg < 6 := vin_cl (vin_b (fun q => h (Or.inl q)) (Classical.not_not.mp (fun q => h (Or.inr q))) (by decide +kernel))
/-- a boolean field -/
def putzP (own : String) (x ci k : Nat) : Prop := ∃ C T N, vwCl[ci]? = some (C, T, N) ∧ k < N ∧ Cond.fieldLink own x C (T k).2.1 (T k).2.2.1 ∈ GW ∧ (T k).1 = C ∧ (T k).2.2.2 = false ∧ parseFieldDescriptor (T k).2.2.1 = some .boolean
theorem XW.putz {Γ : XC} {cc : ByteArray} {own : String} {d N : Nat} {K : aKt} {Λ : aLy} {pc : Nat} {ls : List (Option AV)} {r : List AV} {σ : SS} (B : XB Γ cc own d K Λ N) {x ci k t j cn : Nat} {fl : List (Option (Nat × Bool))} {v : Int32} (hf : putzP own x ci k) (hl : Λ[t]? = some (cn, .inl (ci, fl))) (hk : fl[k]? = some none) (hj : j < cn) (hv : v = 0 ∨ v = 1) (hd : decode cc pc = .ok (.putfield x, 3)) (kk : XW Γ (pc + 3) ls r (sI σ t j k v)) : XW Γ pc ls (aI v :: aR t j :: r) σ := by
  obtain ⟨⟨p, l, e, R⟩, ⟨s, m, args, below, meth, c⟩, ⟨Q, cells, slots, nL⟩, ⟨D, cs, ad, A, Λ'⟩⟩ := Γ
  obtain ⟨⟨hx, hb, hml, hown, hts, hK, hst, -⟩, -, hΛ, -⟩ := B
  have hΛ : Λ' = Λ := hΛ
  subst hΛ
  intro H locs L hP hD hS hL
  obtain ⟨C, T, N, hc, h1, h2, h3, h4, h5⟩ := hf
  · obtain ⟨ty, hty, hnm⟩ := cl_ty ci C T N hc
    obtain ⟨q0, hq1, hq⟩ := aWl_at (cs := cs) (ad := ad) (σ := σ) hl hj
    refine va_put (D := D) (ci := ci) (v := .int v) (ty := .boolean) (C := C) (T := T) (N := N) (ref := C) hx hb hts (cl_ws ci C T N hc) ty hty hnm hown hK hP hD hS q0 hq hc k h1 (hts _ h2) (fun y hy => by rw [h3] at hy; exact hy) h4 h5 (by rcases hv with rfl | rfl <;> rfl) (by rcases hv with rfl | rfl <;> rfl) (by rw [aFs_len]; exact (List.getElem?_eq_some_iff.mp hk).1) hd (fun H1 locs1 hP1 hD1 hS1 => ?_)
    have e : (aWl Λ' cs ad σ).set q0 (ad t j, .inr (ci, (aFs ad σ t j 0 fl).set k (.int v))) = aWl Λ' cs ad (sI σ t j k v) := by
      rw [← aWl_set hq1 (fun q hq => aWc_sI q hq), aFs_set fl 0 k hk, Nat.zero_add]
      simp [aWc, aSpOf, hl, aCell]
    rw [e] at hP1 hD1
    exact kk H1 locs1 L hP1 hD1 hS1 hL
