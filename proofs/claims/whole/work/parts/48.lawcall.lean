/-! the law's calls: two worlds side by side, the class's and the model's; a call changes one -/
theorem aDom_at {Λ : aLy} {cs : aCs} {ad : aMp} {σ : SS} {k : Nat} {q : Nat × va_E} (h : (aWl Λ cs ad σ)[k]? = some q) : aDom Λ ad q.1 := by
  unfold aWl at h
  rw [List.getElem?_map] at h
  cases hi : (aIds 0 Λ)[k]? with
  | none => rw [hi] at h; cases h
  | some z =>
    rw [hi] at h
    cases h
    exact ⟨z.1, z.2, List.mem_of_getElem? hi, rfl⟩
section LAWC
variable {p : Program} {l : Launch} {e : Env} {R : Room} {s : State} {m : MethodId} {args : Array Value} {below : List Frame} {meth : Method} {c : Code} {H : Heap} {locs : List Loc} {cells slots : Nat} {Q : State → Prop}
variable {cc : ByteArray} {nL pc : Nat} {ls : Array Slot} {rest : List Value} {D : va_G} {cs : aCs} {A : Nat → Prop} {own : String}
theorem law_call {Λ Λ2 : aLy} {ad ad2 : aMp} {σ σ' σ2 : SS} {M : MR} {as : List AV} {r : Option AV} {d x n cn ci : Nat} {fl : List (Option (Nat × Bool))} {q : vw_C} (hx : p.tables.exec = Jvm.exec) (hb : c.code = cc) (hml : c.maxLocals = nL) (hown : s.vm.findClass own = some m.cls) (hts : ∀ w ∈ GW, w.before args s = true) (hK : va_K D vwCl (aTys cs) s) (hst : aSt ad A s s.heap)
    (hD : va_D A (aWl Λ cs ad σ)) (hdis : ∀ z, aDom Λ2 ad2 z → ¬ aDom Λ ad z) (hf : d + 1 ≤ R.frames) (hlo : 64 * (d + 1) ≤ R.locals) (hc : cells ≤ R.cells) (hs : slots ≤ R.slots)
    (C : XM Λ d M (aR 0 0 :: as) σ r σ') (hw : calW M) (hN : calN M n) (hlk : Cond.methodLink own x M.1 ∈ GW) (hl : Λ[0]? = some (cn, .inl (ci, fl))) (hcl : vwCl[ci]? = some q) (hq : q.1 = M.1.cls) (hj : 0 < cn) (hn : as.length = n)
    (hP : va_P D vwCl (aWl Λ cs ad σ) H) (hP2 : va_P D vwCl (aWl Λ2 cs ad2 σ2) H) (hS : va_S A s.heap H locs) (hsz : ls.size = nL) (hst2 : (rest.map (fun v => v.category)).sum ≤ 8) (hd : decode cc pc = .ok (.invokevirtual x, 3))
    (kk : ∀ (H1 : Heap) (locs1 : List Loc), va_P D vwCl (aWl Λ cs ad σ') H1 → va_P D vwCl (aWl Λ2 cs ad2 σ2) H1 → va_S A s.heap H1 locs1 → W p l e R s m args below meth c H1 locs1 cells slots Q (F0 m (pc + 3) ls ((r.map (rv ad)).toList ++ rest))) :
    W p l e R s m args below meth c H locs cells slots Q (F0 m pc ls ((as.map (rv ad)).reverse ++ .ref (ad 0 0) :: rest)) := by
  have hsub := aDom_sub hD
  obtain ⟨q0, -, hq0⟩ := aWl_at (cs := cs) (ad := ad) (σ := σ) hl hj
  obtain ⟨cellB, b1, b2, b3⟩ := va_recv hK hP hcl hq0
  have hr := va_runV (p := p) (l := l) (e := e) (R := R) (s := s) (m := m) (args := args) (below := below) (meth := meth) (c := c) (H := H) (locs := locs) (cells := cells) (slots := slots) (g := F0 m pc ls ((as.map (rv ad)).reverse ++ .ref (ad 0 0) :: rest)) (own := own) (C := M.1.cls) (b := ad 0 0) (As := as.map (rv ad)) (rest := rest) (n := n) ⟨hx, hb, hml, hown, hts⟩ (C l D cs ad) ⟨⟨rfl, rfl, by show d + 1 ≤ _; omega, by show 8 + (_ + 11) + 64 * d ≤ _; have := hN.2.2.2; omega, pay_in hts (GW_code hw.2.2.2), List.mem_cons_self, hts _ hw.2.2.2, hts _ hw.2.2.1, ⟨hN.1, hN.2.1⟩, fun sig h => (by
      have h2 := hN.2.2.1
      rw [h] at h2
      exact (Option.some.inj h2).symm), hts _ hlk⟩, hts _ hw.1, hts _ hw.2.1⟩ ⟨aBlind, ⟨cellB, b1, b2, by rw [← hq]; exact b3⟩, fun U hU hW => run_pre hP hD hS hK hst U hU hW⟩ rfl (by rw [List.length_map]; exact hn) hsz rfl (by show 2 * 0 + _ ≤ 8; omega) hd ⟨hc, hs⟩
  intro T hT X
  obtain ⟨v, st₀, t, T', L2, h0, X', hL2, e1, e2, ⟨⟨hv, hP'⟩, hz, hk⟩, stp⟩ := hr T hT X
  cases hv
  rw [h0] at hz hk
  obtain ⟨t2, a1, b1⟩ := kk T'.heap (locs ++ L2) (by rw [e1]; exact hP') (hP2.kept (fun k z hz2 => by rw [e1]; exact hk z.1 (hP2 k z hz2).lt (hdis _ (aDom_at hz2)))) ⟨Nat.le_trans hS.1 (by rw [e1]; exact hz), fun z h1 h2 => by rw [e1, hk z (Nat.lt_of_lt_of_le h1 hS.1) (fun w => h2 (hsub z w))]; exact hS.2.1 z h1 h2, fun z hz2 => by
      rcases List.mem_append.mp hz2 with h | h
      · exact hS.2.2 z h
      · exact hsub _ (hL2 z h)⟩ T' rfl X'
  exact ⟨t2, stp t2 a1, b1⟩
end LAWC
