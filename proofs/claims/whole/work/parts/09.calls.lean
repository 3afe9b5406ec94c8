/-! methods: XM Λ d M as σ r σ': method M, called with as where the numbers are σ, with room for d more frames, answers r and leaves σ' -/
abbrev MR : Type := MethodName × ByteArray × Nat × Option FieldType
def aRm (d : Nat) : Room := { frames := d, cells := 0, slots := 0, locals := 64 * d }
def aDom (Λ : aLy) (ad : aMp) : Nat → Prop := fun q => ∃ t j, (t, j) ∈ aIds 0 Λ ∧ q = ad t j
def aWd (Λ : aLy) (D : va_G) (cs : aCs) (ad : aMp) (σ : SS) (U : State) : Prop := va_P D vwCl (aWl Λ cs ad σ) U.heap ∧ va_D (aDom Λ ad) (aWl Λ cs ad σ) ∧ va_K D vwCl (aTys cs) U ∧ aSt ad (aDom Λ ad) U U.heap
def aQ (Λ : aLy) (D : va_G) (cs : aCs) (ad : aMp) (r : Option AV) (σ' : SS) : Array Value → State → Outcome → State → Prop := fun _ st oc t => (oc = .returned (r.map (rv ad)) ∧ va_P D vwCl (aWl Λ cs ad σ') t.heap) ∧ va_F (aDom Λ ad) st t
def XM (Λ : aLy) (d : Nat) (M : MR) (as : List AV) (σ : SS) (r : Option AV) (σ' : SS) : Prop :=
  ∀ (l : Launch) (D : va_G) (cs : aCs) (ad : aMp), Met l M.1 (.code M.1 M.2.1 M.2.2.1 M.2.2.2 :: GW) (aRm d) (va_Pc (as.map (rv ad)) (aWd Λ D cs ad σ)) (aQ Λ D cs ad r σ') 0 0 (aDom Λ ad)
/-- what holds at a method's ends -/
def XQ (Γ : XC) (ret : Option FieldType) (r : Option AV) (σ' : SS) : Prop := match Γ with
  | ((p, l, e, R), (s, m, args, below, meth, c), (Q, cells, slots, nL), (D, cs, ad, A, Λ)) =>
    Q = MQ below (aQ Λ D cs ad r σ') args s cells slots (aDom Λ ad) ∧ meth.sig.returnType = ret ∧ meth.locks = false ∧ A = aDom Λ ad
theorem aWl_D {A : Nat → Prop} {Λ : aLy} {cs : aCs} {ad : aMp} {σ σ' : SS} (h : va_D A (aWl Λ cs ad σ)) : va_D A (aWl Λ cs ad σ') := by
  have key : ∀ (k : Nat) (q : Nat × va_E), (aWl Λ cs ad σ')[k]? = some q → ∃ q0, (aWl Λ cs ad σ)[k]? = some q0 ∧ q0.1 = q.1 := by
    intro k q hk
    unfold aWl at hk ⊢
    rw [List.getElem?_map] at hk ⊢
    cases hi : (aIds 0 Λ)[k]? with
    | none => rw [hi] at hk; cases hk
    | some z =>
      rw [hi] at hk
      cases hk
      exact ⟨_, rfl, rfl⟩
  refine ⟨fun i j x y hi hj hxy => ?_, fun k q hk => ?_⟩
  · obtain ⟨x0, h1, h2⟩ := key i x hi
    obtain ⟨y0, h3, h4⟩ := key j y hj
    exact h.1 i j x0 y0 h1 h3 (h2.trans (hxy.trans h4.symm))
  · obtain ⟨q0, h1, h2⟩ := key k q hk
    rw [← h2]
    exact h.2 k q0 h1
theorem aDom_sub {A : Nat → Prop} {Λ : aLy} {cs : aCs} {ad : aMp} {σ : SS} (h : va_D A (aWl Λ cs ad σ)) : ∀ q, aDom Λ ad q → A q := by
  rintro q ⟨t, j, hm, rfl⟩
  obtain ⟨p, hp⟩ := List.getElem?_of_mem hm
  exact h.2 p (ad t j, aWc Λ cs ad σ (t, j)) (by unfold aWl; rw [List.getElem?_map, hp]; rfl)
theorem aDom_D {A : Nat → Prop} {Λ : aLy} {cs : aCs} {ad : aMp} {σ : SS} (h : va_D A (aWl Λ cs ad σ)) : va_D (aDom Λ ad) (aWl Λ cs ad σ) := by
  refine ⟨h.1, fun k q hk => ?_⟩
  unfold aWl at hk
  rw [List.getElem?_map] at hk
  cases hi : (aIds 0 Λ)[k]? with
  | none => rw [hi] at hk; cases hk
  | some z =>
    rw [hi] at hk
    cases hk
    exact ⟨z.1, z.2, List.mem_of_getElem? hi, rfl⟩
theorem aSt_to {ad : aMp} {A B : Nat → Prop} {u U : State} {H : Heap} (h : aSt ad A u u.heap) (hvm : u.WarmedH U.vm) (hAB : ∀ q, B q → A q) (hq : ∀ a : Nat, a < u.heap.size → ¬ A a → H[a]? = u.heap[a]?) : aSt ad B U H :=
  ⟨fun k hk => ⟨(((h.1 k hk).1.kept hq).narrow hAB).moved hvm.alike, (((h.1 k hk).2.kept hq).narrow hAB).moved hvm.alike⟩, va_Nw.warmM hvm h.2.1, va_Nw.warmM hvm h.2.2⟩
theorem aBlind {Λ : aLy} {D : va_G} {cs : aCs} {ad : aMp} {σ : SS} {av : List Value} : FrameBlind (va_Pc av (aWd Λ D cs ad σ)) := by
  intro a U g mk h
  obtain ⟨h1, h2, h3, h4, h5⟩ := h
  exact ⟨h1, h2, h3, va_K.moved (u := U) (U := U.calling g mk a) (Vm.Alike.refl U.vm) h4, ⟨fun k hk => ⟨(h5.1 k hk).1.moved (u := U) (U := U.calling g mk a) (Vm.Alike.refl U.vm), (h5.1 k hk).2.moved (u := U) (U := U.calling g mk a) (Vm.Alike.refl U.vm)⟩, va_Nw.same (u := U) rfl rfl h5.2.1, va_Nw.same (u := U) rfl rfl h5.2.2⟩⟩
section XE
variable {Γ : XC} {cc : ByteArray} {own : String} {d N : Nat} {K : aKt} {Λ : aLy} {pc : Nat} {ls : List (Option AV)} {σ : SS}
theorem XW.iret (B : XB Γ cc own d K Λ N) {v : Int32} (q : XQ Γ (some .int) (some (aI v)) σ) (hd : decode cc pc = .ok (.ireturn, 1)) : XW Γ pc ls [aI v] σ := by
  obtain ⟨⟨p, l, e, R⟩, ⟨s, m, args, below, meth, c⟩, ⟨Q, cells, slots, nL⟩, ⟨D, cs, ad, A, Λ'⟩⟩ := Γ
  obtain ⟨⟨hx, hcb, -⟩, -, rfl, -⟩ := B
  obtain ⟨rfl, hr, hlk, rfl⟩ := q
  intro H locs L hP hD hS hL
  exact W.iret hx hcb hr (fun t ht hW => ⟨⟨rfl, by rw [ht]; exact hP⟩, hS.F ht⟩) hS.2.2 hd hlk
theorem XW.zret (B : XB Γ cc own d K Λ N) {v : Int32} (q : XQ Γ (some .boolean) (some (aI v)) σ) (hv : v = 0 ∨ v = 1) (hd : decode cc pc = .ok (.ireturn, 1)) : XW Γ pc ls [aI v] σ := by
  obtain ⟨⟨p, l, e, R⟩, ⟨s, m, args, below, meth, c⟩, ⟨Q, cells, slots, nL⟩, ⟨D, cs, ad, A, Λ'⟩⟩ := Γ
  obtain ⟨⟨hx, hcb, -⟩, -, rfl, -⟩ := B
  obtain ⟨rfl, hr, hlk, rfl⟩ := q
  intro H locs L hP hD hS hL
  refine W.zret (ty := .boolean) hx hcb hr ?_ (fun t ht hW => ⟨⟨rfl, by rw [ht]; exact hP⟩, hS.F ht⟩) hS.2.2 hd hlk
  rcases hv with rfl | rfl <;> rfl
theorem XW.lret (B : XB Γ cc own d K Λ N) {v : Int64} (q : XQ Γ (some .long) (some (aJ v)) σ) (hd : decode cc pc = .ok (.lreturn, 1)) : XW Γ pc ls [aJ v] σ := by
  obtain ⟨⟨p, l, e, R⟩, ⟨s, m, args, below, meth, c⟩, ⟨Q, cells, slots, nL⟩, ⟨D, cs, ad, A, Λ'⟩⟩ := Γ
  obtain ⟨⟨hx, hcb, -⟩, -, rfl, -⟩ := B
  obtain ⟨rfl, hr, hlk, rfl⟩ := q
  intro H locs L hP hD hS hL
  exact W.lret hx hcb hr (fun t ht hW => ⟨⟨rfl, by rw [ht]; exact hP⟩, hS.F ht⟩) hS.2.2 hd hlk
theorem XW.vret (B : XB Γ cc own d K Λ N) (q : XQ Γ none none σ) (hd : decode cc pc = .ok (.return_, 1)) : XW Γ pc ls [] σ := by
  obtain ⟨⟨p, l, e, R⟩, ⟨s, m, args, below, meth, c⟩, ⟨Q, cells, slots, nL⟩, ⟨D, cs, ad, A, Λ'⟩⟩ := Γ
  obtain ⟨⟨hx, hcb, -⟩, -, rfl, -⟩ := B
  obtain ⟨rfl, hr, hlk, rfl⟩ := q
  intro H locs L hP hD hS hL
  exact W.vret hx hcb hr (fun t ht hW => ⟨⟨rfl, by rw [ht]; exact hP⟩, hS.F ht⟩) hS.2.2 hd hlk
theorem XW.aret (B : XB Γ cc own d K Λ N) {n : String} {v : AV} (hv : v = aN ∨ ∃ t j, v = aR t j) (q : XQ Γ (some (.object n)) (some v) σ) (hd : decode cc pc = .ok (.areturn, 1)) : XW Γ pc ls [v] σ := by
  obtain ⟨⟨p, l, e, R⟩, ⟨s, m, args, below, meth, c⟩, ⟨Q, cells, slots, nL⟩, ⟨D, cs, ad, A, Λ'⟩⟩ := Γ
  obtain ⟨⟨hx, hcb, -⟩, -, rfl, -⟩ := B
  obtain ⟨rfl, hr, hlk, rfl⟩ := q
  intro H locs L hP hD hS hL
  refine W.aret hx hcb hr (Or.inl ⟨n, rfl⟩) ?_ (fun t ht hW => ⟨⟨rfl, by rw [ht]; exact hP⟩, hS.F ht⟩) hS.2.2 hd hlk
  rcases hv with rfl | ⟨t, j, rfl⟩
  · exact Or.inl rfl
  · exact Or.inr ⟨_, rfl⟩
end XE
/-- a method's first locals -/
def aEnt0 : List AV → List (Option AV)
  | [] => []
  | v :: r => cond (aLong v) (some v :: none :: aEnt0 r) (some v :: aEnt0 r)
def aPad : Nat → List (Option AV) → List (Option AV)
  | 0, _ => []
  | n + 1, [] => none :: aPad n []
  | n + 1, a :: r => a :: aPad n r
theorem aPad_get : ∀ (n : Nat) (l : List (Option AV)) (j : Nat) {v : AV}, (aPad n l)[j]? = some (some v) → l[j]? = some (some v)
  | 0, l, j, v, h => by simp [aPad] at h
  | n + 1, [], 0, v, h => by simp [aPad] at h
  | n + 1, [], j + 1, v, h => by
    have := aPad_get n [] j (v := v) (by simpa [aPad] using h)
    simp at this
  | n + 1, a :: r, 0, v, h => by simpa [aPad] using h
  | n + 1, a :: r, j + 1, v, h => by
    have := aPad_get n r j (v := v) (by simpa [aPad] using h)
    simpa using this
theorem aEnt0_args {ad : aMp} : ∀ (as : List AV) (i j : Nat) {v : AV}, (aEnt0 as)[j]? = some (some v) → (i + j, rv ad v) ∈ lv_args i (as.map (rv ad))
  | [], i, j, v, h => by simp [aEnt0] at h
  | a :: r, i, j, v, h => by
    unfold aEnt0 at h
    have hc := aLong_cat ad a
    cases hl : aLong a with
    | true =>
      rw [hl] at h hc
      have hc : (rv ad a).category = 2 := by simpa using hc
      rw [List.map_cons, lv_args, if_pos hc]
      match j, h with
      | 0, h =>
        simp at h
        rw [h]
        exact List.mem_cons_self
      | 1, h => simp at h
      | j + 2, h =>
        have := aEnt0_args r (i + 2) j (ad := ad) (v := v) (by simpa using h)
        rw [show i + 2 + j = i + (j + 2) by omega] at this
        exact List.mem_cons_of_mem _ this
    | false =>
      rw [hl] at h hc
      have hc : ¬ (rv ad a).category = 2 := by simpa using hc
      rw [List.map_cons, lv_args, if_neg hc]
      match j, h with
      | 0, h =>
        simp at h
        rw [h]
        exact List.mem_cons_self
      | j + 1, h =>
        have := aEnt0_args r (i + 1) j (ad := ad) (v := v) (by simpa using h)
        rw [show i + 1 + j = i + (j + 1) by omega] at this
        exact List.mem_cons_of_mem _ this
theorem lg_sl_len {ad : aMp} : ∀ (as : List AV), (lg_sl (as.map (rv ad))).length = (aEnt0 as).length
  | [] => rfl
  | a :: r => by
    have hc := aLong_cat ad a
    have ih := lg_sl_len (ad := ad) r
    unfold lg_sl at ih ⊢
    unfold aEnt0
    cases hl : aLong a with
    | true =>
      rw [hl] at hc
      have hc : (rv ad a).category = 2 := by simpa using hc
      simp [hc, ih]
    | false =>
      rw [hl] at hc
      have hc : ¬ (rv ad a).category = 2 := by simpa using hc
      simp [hc, ih]
theorem XM.of {Λ : aLy} {d : Nat} {y : MethodName} {cc : ByteArray} {nL : Nat} {ret : Option FieldType} {K : aKt} {as : List AV} {σ : SS} {r : Option AV} {σ' : SS} (hd : 1 ≤ d) (hy : plainName y.cls = true) (hK : KOK y.cls K) (hn : (aEnt0 as).length ≤ nL) (body : ∀ Γ, XB Γ cc y.cls d K Λ nL → XQ Γ ret r σ' → XW Γ 0 (aPad nL (aEnt0 as)) [] σ) : XM Λ d (y, cc, nL, ret) as σ r σ' := by
  intro l D cs ad
  refine Met.ofW (cc := cc) (maxL := nL) (ret := ret) hy rfl ?_
  intro p e s m args below meth c s₁ B hml hv
  obtain ⟨rfl, hP, hD, hK2, hst⟩ := hv
  have hts0 := atoms_spec (ws := Cond.code y cc nL ret :: GW) B.pre
  have k := body ((p, l, e, (headSpec (Cond.code y cc nL ret :: GW) (aRm d)).room), (s, m, (as.map (rv ad)).toArray, below, meth, c), (MQ below (aQ Λ D cs ad r σ') (as.map (rv ad)).toArray s 0 0 (aDom Λ ad), 0, 0, nL), (D, cs, ad, aDom Λ ad, Λ))
    ⟨⟨B.exec, B.bytes, hml, findClass_of_methodNamed B.named, fun w hw => hts0 w (List.mem_cons_of_mem _ hw), hK2, hst, Nat.le_refl _, Nat.le_refl _, Nat.zero_le _, Nat.zero_le _, hd⟩, hK, rfl, rfl⟩ ⟨rfl, B.returns, B.notSynchronized, rfl⟩
  have hl := lv_entry (as.map (rv ad)) (n := nL) (by rw [lg_sl_len]; exact hn)
  rw [lg_entry_eq]
  refine k s.heap [] _ hP hD va_S.rf ⟨hl.1, hl.2.1, fun j v hj => ?_⟩
  have h1 := hl.2.2 _ (aEnt0_args (ad := ad) as 0 j (aPad_get _ _ _ hj))
  simpa using h1
/-! calls -/
def calW (M : MR) : Prop := Cond.instanceMethod M.1 ∈ GW ∧ Cond.selects M.1.cls M.1 M.1 ∈ GW ∧ Cond.initialized M.1.cls ∈ GW ∧ Cond.code M.1 M.2.1 M.2.2.1 M.2.2.2 ∈ GW
def calS (M : MR) : Prop := Cond.static M.1 ∈ GW ∧ Cond.initialized M.1.cls ∈ GW ∧ Cond.code M.1 M.2.1 M.2.2.1 M.2.2.2 ∈ GW
def calN (M : MR) (n : Nat) : Prop := M.1.cls ≠ "java/lang/invoke/MethodHandle" ∧ M.1.cls ≠ "java/lang/invoke/VarHandle" ∧ (parseMethodDescriptor M.1.desc).map (fun d => d.parameters.length) = some n ∧ M.2.2.1 ≤ 45
theorem GW_code {M : MR} (h : Cond.code M.1 M.2.1 M.2.2.1 M.2.2.2 ∈ GW) : GoodIn GW (.code M.1 M.2.1 M.2.2.1 M.2.2.2 :: GW) := fun w hw => by
  rcases List.mem_cons.mp hw with e | hw
  · rw [e]; exact GW_good _ h
  · exact GW_good w hw
section XCL
variable {Γ : XC} {cc : ByteArray} {own : String} {d N d2 : Nat} {K : aKt} {Λ : aLy} {pc : Nat} {ls : List (Option AV)} {st as : List AV} {σ σ' : SS} {r : Option AV} {M : MR}
theorem run_end {p : Program} {l : Launch} {e : Env} {R : Room} {s : State} {m : MethodId} {args : Array Value} {below : List Frame} {meth : Method} {c : Code} {Q : State → Prop} {cells slots nL : Nat} {D : va_G} {cs : aCs} {ad : aMp} {A : Nat → Prop} {H : Heap} {locs : List Loc} {L : Array Slot} {st0 : List Value} {as0 : Array Value}
    (hD : va_D A (aWl Λ cs ad σ)) (hS : va_S A s.heap H locs) (hL : aHas ad L nL ls)
    (hr : va_Run p l e R s m args below meth c H locs cells slots 0 0 (F0 m pc L st0) (st.map (rv ad)) (aQ Λ D cs ad r σ' as0) (aDom Λ ad))
    (kk : XW ((p, l, e, R), (s, m, args, below, meth, c), (Q, cells, slots, nL), (D, cs, ad, A, Λ)) (pc + 3) ls (r.toList ++ st) σ') :
    W p l e R s m args below meth c H locs cells slots Q (F0 m pc L st0) := by
  have hsub := aDom_sub hD
  intro T hT X
  obtain ⟨v, st₀, t, T', L2, h0, X', hL2, e1, e2, ⟨⟨hv, hP'⟩, hz, hk⟩, stp⟩ := hr T hT X
  cases hv
  rw [h0] at hz hk
  have := kk T'.heap (locs ++ L2) L (by rw [e1]; exact hP') (aWl_D hD) ⟨Nat.le_trans hS.1 (by rw [e1]; exact hz), fun q h1 h2 => by rw [e1, hk q (Nat.lt_of_lt_of_le h1 hS.1) (fun z => h2 (hsub q z))]; exact hS.2.1 q h1 h2, fun q hq => by
      rcases List.mem_append.mp hq with h | h
      · exact hS.2.2 q h
      · exact hsub _ (hL2 q h)⟩ hL
  obtain ⟨t2, a1, b1⟩ := this T' rfl X'
  refine ⟨t2, stp t2 ?_, b1⟩
  cases r with
  | none => exact a1
  | some v => exact a1
theorem run_pre {s : State} {A : Nat → Prop} {H : Heap} {locs : List Loc} {D : va_G} {cs : aCs} {ad : aMp} (hP : va_P D vwCl (aWl Λ cs ad σ) H) (hD : va_D A (aWl Λ cs ad σ)) (hS : va_S A s.heap H locs) (hKK : va_K D vwCl (aTys cs) s) (hst : aSt ad A s s.heap) {vs : List Value} (U : State) (hU : U.heap = H) (hW : s.WarmedH U.vm) : va_Pc vs (aWd Λ D cs ad σ) vs.toArray U :=
  ⟨rfl, by rw [hU]; exact hP, aDom_D hD, va_K.moved hW.alike hKK, by rw [hU]; exact aSt_to hst hW (aDom_sub hD) (fun a h1 h2 => hS.2.1 a h1 h2)⟩
theorem XW.callV (B : XB Γ cc own d K Λ N) {x t j cn ci n : Nat} {fl : List (Option (Nat × Bool))} {q : vw_C} (C : XM Λ d2 M (aR t j :: as) σ r σ') (hd2 : d2 < d) (hw : calW M) (hN : calN M n) (hlk : Cond.methodLink own x M.1 ∈ GW) (hl : Λ[t]? = some (cn, .inl (ci, fl))) (hc : vwCl[ci]? = some q) (hq : q.1 = M.1.cls) (hj : j < cn) (hn : as.length = n) (hst : (st.map (fun v => (rv (fun _ _ => 0) v).category)).sum ≤ 8) (hd : decode cc pc = .ok (.invokevirtual x, 3)) (kk : XW Γ (pc + 3) ls (r.toList ++ st) σ') : XW Γ pc ls (as.reverse ++ aR t j :: st) σ := by
  obtain ⟨⟨p, l, e, R⟩, ⟨s, m, args, below, meth, c⟩, ⟨Q, cells, slots, nL⟩, ⟨D, cs, ad, A, Λ'⟩⟩ := Γ
  obtain ⟨⟨hx, hcb, hml, hown, hts, hKK, hstt, g1, g2, g3, g4, g5⟩, -, hΛ, -⟩ := B
  have hΛ : Λ' = Λ := hΛ
  subst hΛ
  intro H locs L hP hD hS hL
  rw [← aCat_eq ad] at hst
  obtain ⟨q0, -, hq0⟩ := aWl_at (cs := cs) (ad := ad) (σ := σ) hl hj
  obtain ⟨cellB, b1, b2, b3⟩ := va_recv hKK hP hc hq0
  refine run_end hD hS hL (va_runV (own := own) (C := M.1.cls) (b := ad t j) (As := as.map (rv ad)) (rest := st.map (rv ad)) (n := n) ⟨hx, hcb, hml, hown, hts⟩ (C l D cs ad) ⟨⟨rfl, rfl, by show d2 + 1 ≤ _; omega, by show 8 + (_ + 11) + 64 * d2 ≤ _; have := hN.2.2.2; omega, pay_in hts (GW_code hw.2.2.2), List.mem_cons_self, hts _ hw.2.2.2, hts _ hw.2.2.1, ⟨hN.1, hN.2.1⟩, fun sig h => ?_, hts _ hlk⟩, hts _ hw.1, hts _ hw.2.1⟩ ⟨aBlind, ⟨cellB, b1, b2, by rw [← hq]; exact b3⟩, fun U hU hW => run_pre hP hD hS hKK hstt U hU hW⟩ rfl (by rw [List.length_map]; exact hn) hL.1 (by simp [List.map_append, List.map_reverse, rv]) (by show 2 * 0 + _ ≤ 8; omega) hd ⟨g3, g4⟩) kk
  have h2 := hN.2.2.1
  rw [h] at h2
  exact (Option.some.inj h2).symm
theorem XW.callS (B : XB Γ cc own d K Λ N) {x n : Nat} (C : XM Λ d2 M as σ r σ') (hd2 : d2 < d) (hw : calS M) (hN : calN M n) (hlk : Cond.methodLink own x M.1 ∈ GW) (hn : as.length = n) (hst : (st.map (fun v => (rv (fun _ _ => 0) v).category)).sum ≤ 8) (hd : decode cc pc = .ok (.invokestatic x, 3)) (kk : XW Γ (pc + 3) ls (r.toList ++ st) σ') : XW Γ pc ls (as.reverse ++ st) σ := by
  obtain ⟨⟨p, l, e, R⟩, ⟨s, m, args, below, meth, c⟩, ⟨Q, cells, slots, nL⟩, ⟨D, cs, ad, A, Λ'⟩⟩ := Γ
  obtain ⟨⟨hx, hcb, hml, hown, hts, hKK, hstt, g1, g2, g3, g4, g5⟩, -, hΛ, -⟩ := B
  have hΛ : Λ' = Λ := hΛ
  subst hΛ
  intro H locs L hP hD hS hL
  rw [← aCat_eq ad] at hst
  refine run_end hD hS hL (va_runS (own := own) (As := as.map (rv ad)) (rest := st.map (rv ad)) (n := n) ⟨hx, hcb, hml, hown, hts⟩ (C l D cs ad) ⟨⟨rfl, rfl, by show d2 + 1 ≤ _; omega, by show 8 + (_ + 11) + 64 * d2 ≤ _; have := hN.2.2.2; omega, pay_in hts (GW_code hw.2.2), List.mem_cons_self, hts _ hw.2.2, hts _ hw.2.1, ⟨hN.1, hN.2.1⟩, fun sig h => ?_, hts _ hlk⟩, hts _ hw.1⟩ ⟨aBlind, fun U hU hW => run_pre hP hD hS hKK hstt U hU hW⟩ rfl (by rw [List.length_map]; exact hn) hL.1 (by simp [List.map_append, List.map_reverse]) (by show 2 * 0 + _ ≤ 8; omega) hd ⟨g3, g4⟩) kk
  have h2 := hN.2.2.1
  rw [h] at h2
  exact (Option.some.inj h2).symm
theorem XW.callSN (B : XB Γ cc own d K Λ N) {x n : Nat} {host : String} (C : XM Λ d2 M as σ r σ') (hd2 : d2 < d) (hw : calS M) (hN : calN M n) (hlk : ∀ U, aNw U → va_Nw (.methodLinkNest own x M.1 host) U) (hn : as.length = n) (hst : (st.map (fun v => (rv (fun _ _ => 0) v).category)).sum ≤ 8) (hd : decode cc pc = .ok (.invokestatic x, 3)) (kk : XW Γ (pc + 3) ls (r.toList ++ st) σ') : XW Γ pc ls (as.reverse ++ st) σ := by
  obtain ⟨⟨p, l, e, R⟩, ⟨s, m, args, below, meth, c⟩, ⟨Q, cells, slots, nL⟩, ⟨D, cs, ad, A, Λ'⟩⟩ := Γ
  obtain ⟨⟨hx, hcb, hml, hown, hts, hKK, hstt, g1, g2, g3, g4, g5⟩, -, hΛ, -⟩ := B
  have hΛ : Λ' = Λ := hΛ
  subst hΛ
  intro H locs L hP hD hS hL
  rw [← aCat_eq ad] at hst
  refine run_end hD hS hL (va_runSN (own := own) (host := host) (As := as.map (rv ad)) (rest := st.map (rv ad)) (n := n) ⟨hx, hcb, hml, hown, hts⟩ (C l D cs ad) ⟨⟨⟨rfl, rfl, by show d2 + 1 ≤ _; omega, by show 8 + (_ + 11) + 64 * d2 ≤ _; have := hN.2.2.2; omega, pay_in hts (GW_code hw.2.2), List.mem_cons_self⟩, hts _ hw.2.2, hts _ hw.2.1, ⟨hN.1, hN.2.1⟩, fun sig h => ?_, va_Nw.use rfl (hlk _ hstt.2)⟩, hts _ hw.1, trivial⟩ ⟨aBlind, fun U hU hW => run_pre hP hD hS hKK hstt U hU hW⟩ rfl (by rw [List.length_map]; exact hn) hL.1 (by simp [List.map_append, List.map_reverse]) (by show 2 * 0 + _ ≤ 8; omega) hd ⟨g3, g4⟩) kk
  have h2 := hN.2.2.1
  rw [h] at h2
  exact (Option.some.inj h2).symm
end XCL
