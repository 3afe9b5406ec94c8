theorem i8_of {v : Int} (h1 : -128 ≤ v) (h2 : v < 128) : (Int8.ofInt v).toInt32 = Int32.ofInt v := by
  apply Int32.toInt_inj.mp
  rw [Int8.toInt_toInt32, Int8.toInt_ofInt, Int32.toInt_ofInt, show (Int8.size : Nat) = 256 from rfl, show (Int32.size : Nat) = 4294967296 from rfl, Int.bmod_eq_of_le (by omega) (by omega), Int.bmod_eq_of_le (by omega) (by omega)]
theorem i16_of {v : Int} (h1 : -32768 ≤ v) (h2 : v < 32768) : (Int16.ofInt v).toInt32 = Int32.ofInt v := by
  apply Int32.toInt_inj.mp
  rw [Int16.toInt_toInt32, Int16.toInt_ofInt, Int32.toInt_ofInt, show (Int16.size : Nat) = 65536 from rfl, show (Int32.size : Nat) = 4294967296 from rfl, Int.bmod_eq_of_le (by omega) (by omega), Int.bmod_eq_of_le (by omega) (by omega)]
section XS
theorem ex1_ok {Γ : XC} {cc : ByteArray} {own : String} {d : Nat} {K : aKt} (G : XG Γ cc own d) (hK : KOK own K) {i : Instr} {pc : Nat} {ls : List (Option AV)} {st : List AV} {σ : SS} {s' : aSte} {P : List Prop} (hd : decode cc pc = .ok (i, aLen i)) (he : ex1 K (xL Γ) (xN Γ) i (pc, ls, st, σ) = some (s', P)) (hp : aAll P) (kk : XW Γ s'.1 s'.2.1 s'.2.2.1 s'.2.2.2) : XW Γ pc ls st σ := by
  have G0 := G
  obtain ⟨⟨p, l, e, R⟩, ⟨s, m, args, below, meth, c⟩, ⟨Q, cells, slots, nL⟩, ⟨D, cs, ad, A, Λ⟩⟩ := Γ
  obtain ⟨hx, hb, hml, hown, hts, hKK, hst, -⟩ := G
  have eN : xN ((p, l, e, R), (s, m, args, below, meth, c), (Q, cells, slots, nL), (D, cs, ad, A, Λ)) = nL := rfl
  cases i <;> try (exfalso; simp only [ex1] at he; cases he; done)
  case iadd =>
    simp only [ex1] at he
    split at he
    · cases he
      intro H locs L hP hD hS hL
      exact lv_iadd hx hb hd (kk H locs L hP hD hS hL)
    · cases he
  case isub =>
    simp only [ex1] at he
    split at he
    · cases he
      intro H locs L hP hD hS hL
      exact lv_isub hx hb hd (kk H locs L hP hD hS hL)
    · cases he
  case imul =>
    simp only [ex1] at he
    split at he
    · cases he
      intro H locs L hP hD hS hL
      exact lv_imul hx hb hd (kk H locs L hP hD hS hL)
    · cases he
  case iand =>
    simp only [ex1] at he
    split at he
    · cases he
      intro H locs L hP hD hS hL
      exact lv_iand hx hb hd (kk H locs L hP hD hS hL)
    · cases he
  case ixor =>
    simp only [ex1] at he
    split at he
    · cases he
      intro H locs L hP hD hS hL
      exact lv_ixor hx hb hd (kk H locs L hP hD hS hL)
    · cases he
  case ladd =>
    simp only [ex1] at he
    split at he
    · cases he
      intro H locs L hP hD hS hL
      exact lv_ladd hx hb hd (kk H locs L hP hD hS hL)
    · cases he
  case lsub =>
    simp only [ex1] at he
    split at he
    · cases he
      intro H locs L hP hD hS hL
      exact lv_lsub hx hb hd (kk H locs L hP hD hS hL)
    · cases he
  case lmul =>
    simp only [ex1] at he
    split at he
    · cases he
      intro H locs L hP hD hS hL
      exact lv_lmul hx hb hd (kk H locs L hP hD hS hL)
    · cases he
  case land =>
    simp only [ex1] at he
    split at he
    · cases he
      intro H locs L hP hD hS hL
      exact lv_land hx hb hd (kk H locs L hP hD hS hL)
    · cases he
  case lor =>
    simp only [ex1] at he
    split at he
    · cases he
      intro H locs L hP hD hS hL
      exact lv_lor hx hb hd (kk H locs L hP hD hS hL)
    · cases he
  case lcmp =>
    simp only [ex1] at he
    split at he
    · cases he
      intro H locs L hP hD hS hL
      exact W.lcmp hx hb hd (kk H locs L hP hD hS hL)
    · cases he
  case ineg =>
    simp only [ex1] at he
    split at he
    · cases he
      intro H locs L hP hD hS hL
      exact lv_ineg hx hb hd (kk H locs L hP hD hS hL)
    · cases he
  case idiv =>
    simp only [ex1] at he
    split at he
    · cases he
      intro H locs L hP hD hS hL
      exact lv_idiv hx hb hd hp.1 (kk H locs L hP hD hS hL)
    · cases he
  case irem =>
    simp only [ex1] at he
    split at he
    · cases he
      intro H locs L hP hD hS hL
      exact lv_irem hx hb hd hp.1 (kk H locs L hP hD hS hL)
    · cases he
  case ldiv =>
    simp only [ex1] at he
    split at he
    · cases he
      intro H locs L hP hD hS hL
      exact lv_ldiv hx hb hd hp.1 (kk H locs L hP hD hS hL)
    · cases he
  case lrem =>
    simp only [ex1] at he
    split at he
    · cases he
      intro H locs L hP hD hS hL
      exact lv_lrem hx hb hd hp.1 (kk H locs L hP hD hS hL)
    · cases he
  case i2b =>
    simp only [ex1] at he
    split at he
    · cases he
      intro H locs L hP hD hS hL
      exact lv_i2b hx hb hd rfl (kk H locs L hP hD hS hL)
    · cases he
  case i2l =>
    simp only [ex1] at he
    split at he
    · cases he
      intro H locs L hP hD hS hL
      exact lv_i2l hx hb hd rfl (kk H locs L hP hD hS hL)
    · cases he
  case i2s =>
    simp only [ex1] at he
    split at he
    · cases he
      intro H locs L hP hD hS hL
      exact lv_i2s hx hb hd rfl (kk H locs L hP hD hS hL)
    · cases he
  case iushr =>
    simp only [ex1] at he
    split at he
    · cases he
      intro H locs L hP hD hS hL
      exact lv_iushr hx hb hd rfl (kk H locs L hP hD hS hL)
    · cases he
  case l2i =>
    simp only [ex1] at he
    split at he
    · cases he
      intro H locs L hP hD hS hL
      exact lv_l2i hx hb hd rfl (kk H locs L hP hD hS hL)
    · cases he
  case lshl =>
    simp only [ex1] at he
    split at he
    · cases he
      intro H locs L hP hD hS hL
      exact lv_lshl hx hb hd rfl (kk H locs L hP hD hS hL)
    · cases he
  case aconst_null =>
    simp only [ex1] at he
    cases he
    intro H locs L hP hD hS hL
    exact lv_null hx hb hd (kk H locs L hP hD hS hL)
  case iconst v =>
    simp only [ex1] at he
    cases he
    intro H locs L hP hD hS hL
    exact lv_iconst hx hb hd rfl (kk H locs L hP hD hS hL)
  case bipush v =>
    simp only [ex1] at he
    cases hz : (decide (-128 ≤ v) && decide (v < 128)) with
    | false =>
      rw [hz] at he
      cases he
    | true =>
      rw [hz] at he
      rw [Bool.and_eq_true, decide_eq_true_eq, decide_eq_true_eq] at hz
      cases he
      intro H locs L hP hD hS hL
      exact lv_bipush hx hb hd (i8_of hz.1 hz.2) (kk H locs L hP hD hS hL)
  case sipush v =>
    simp only [ex1] at he
    cases hz : (decide (-32768 ≤ v) && decide (v < 32768)) with
    | false =>
      rw [hz] at he
      cases he
    | true =>
      rw [hz] at he
      rw [Bool.and_eq_true, decide_eq_true_eq, decide_eq_true_eq] at hz
      cases he
      intro H locs L hP hD hS hL
      exact lv_sipush hx hb hd (i16_of hz.1 hz.2) (kk H locs L hP hD hS hL)
  case lconst v =>
    simp only [ex1] at he
    cases he
    intro H locs L hP hD hS hL
    exact lv_lconst hx hb hd rfl (kk H locs L hP hD hS hL)
  case ldc x =>
    simp only [ex1] at he
    split at he
    · rename_i v nw hv
      cases he
      intro H locs L hP hD hS hL
      exact W.ldc hx hb hown (hts _ (hK.2.2.1 _ (aFd_mem hv))) rfl hd (kk H locs L hP hD hS hL)
    · cases he
  case ldc_w x =>
    simp only [ex1] at he
    split at he
    · rename_i v nw hv
      cases he
      intro H locs L hP hD hS hL
      exact lv_ldcw hx hb hown (hts _ (hK.2.2.1 _ (aFd_mem hv))) hd (kk H locs L hP hD hS hL)
    · cases he
  case ldc2_w x =>
    simp only [ex1] at he
    split at he
    · rename_i v nw hv
      cases he
      intro H locs L hP hD hS hL
      exact W.ldc2 hx hb hown (hts _ (hK.2.2.2.1 _ (aFd_mem hv))) rfl hd (kk H locs L hP hD hS hL)
    · cases he
  case iload_n k =>
    simp only [ex1] at he
    split at he
    · rename_i x hv
      cases he
      intro H locs L hP hD hS hL
      exact lv_iload_n hx hb hd rfl (hL.2.2 _ _ hv) (kk H locs L hP hD hS hL)
    · cases he
  case iload k =>
    simp only [ex1] at he
    split at he
    · rename_i x hv
      cases he
      intro H locs L hP hD hS hL
      exact lv_iload hx hb hd (hL.2.2 _ _ hv) (kk H locs L hP hD hS hL)
    · cases he
  case lload_n k =>
    simp only [ex1] at he
    split at he
    · rename_i x hv
      cases he
      intro H locs L hP hD hS hL
      exact lv_lload_n hx hb hd rfl (hL.2.2 _ _ hv) (kk H locs L hP hD hS hL)
    · cases he
  case lload k =>
    simp only [ex1] at he
    split at he
    · rename_i x hv
      cases he
      intro H locs L hP hD hS hL
      exact lv_lload hx hb hd (hL.2.2 _ _ hv) (kk H locs L hP hD hS hL)
    · cases he
  case aload_n k =>
    simp only [ex1] at he
    split at he
    · rename_i q hv
      cases he
      intro H locs L hP hD hS hL
      exact lv_aload_n hx hb hd rfl (hL.2.2 _ _ hv) (kk H locs L hP hD hS hL)
    · rename_i hv
      cases he
      intro H locs L hP hD hS hL
      exact lv_aload_nN hx hb hd rfl (hL.2.2 _ _ hv) (kk H locs L hP hD hS hL)
    · cases he
  case aload k =>
    simp only [ex1] at he
    split at he
    · rename_i q hv
      cases he
      intro H locs L hP hD hS hL
      exact lv_aload hx hb hd (hL.2.2 _ _ hv) (kk H locs L hP hD hS hL)
    · rename_i hv
      cases he
      intro H locs L hP hD hS hL
      exact lv_aloadN hx hb hd (hL.2.2 _ _ hv) (kk H locs L hP hD hS hL)
    · cases he
  case istore_n k =>
    simp only [ex1] at he
    split at he
    · cases hb2 : Nat.ble nL ((k : Nat)) with
      | true =>
        rw [eN, hb2] at he
        cases he
      | false =>
        rw [eN, hb2] at he
        have hlt : (k : Nat) < nL := by
          have := Nat.not_le_of_not_ble_eq_true (fun z => by rw [hb2] at z; cases z)
          omega
        cases he
        intro H locs L hP hD hS hL
        exact lv_istore_n hx hb hd rfl hL.lv hlt rfl (fun L2 hL2 => kk H locs L2 hP hD hS (aHas_put hL2))
    · cases he
  case istore k =>
    simp only [ex1] at he
    split at he
    · cases hb2 : Nat.ble nL (k) with
      | true =>
        rw [eN, hb2] at he
        cases he
      | false =>
        rw [eN, hb2] at he
        have hlt : k < nL := by
          have := Nat.not_le_of_not_ble_eq_true (fun z => by rw [hb2] at z; cases z)
          omega
        cases he
        intro H locs L hP hD hS hL
        exact lv_istore hx hb hd hL.lv hlt rfl (fun L2 hL2 => kk H locs L2 hP hD hS (aHas_put hL2))
    · cases he
  case lstore_n k =>
    simp only [ex1] at he
    split at he
    · cases hb2 : Nat.ble nL ((k : Nat) + 1) with
      | true =>
        rw [eN, hb2] at he
        cases he
      | false =>
        rw [eN, hb2] at he
        have hlt : (k : Nat) + 1 < nL := by
          have := Nat.not_le_of_not_ble_eq_true (fun z => by rw [hb2] at z; cases z)
          omega
        cases he
        intro H locs L hP hD hS hL
        exact lv_lstore_n hx hb hd rfl hL.lv hlt rfl (fun L2 hL2 => kk H locs L2 hP hD hS (aHas_put2 hL2))
    · cases he
  case lstore k =>
    simp only [ex1] at he
    split at he
    · cases hb2 : Nat.ble nL (k + 1) with
      | true =>
        rw [eN, hb2] at he
        cases he
      | false =>
        rw [eN, hb2] at he
        have hlt : k + 1 < nL := by
          have := Nat.not_le_of_not_ble_eq_true (fun z => by rw [hb2] at z; cases z)
          omega
        cases he
        intro H locs L hP hD hS hL
        exact lv_lstore hx hb hd hL.lv hlt rfl (fun L2 hL2 => kk H locs L2 hP hD hS (aHas_put2 hL2))
    · cases he
  case astore_n k =>
    simp only [ex1] at he
    split at he
    · cases hb2 : Nat.ble nL ((k : Nat)) with
      | true =>
        rw [eN, hb2] at he
        cases he
      | false =>
        rw [eN, hb2] at he
        have hlt : (k : Nat) < nL := by
          have := Nat.not_le_of_not_ble_eq_true (fun z => by rw [hb2] at z; cases z)
          omega
        cases he
        intro H locs L hP hD hS hL
        exact lv_astore_n hx hb hd rfl hL.lv hlt rfl (fun L2 hL2 => kk H locs L2 hP hD hS (aHas_put hL2))
    · cases hb2 : Nat.ble nL ((k : Nat)) with
      | true =>
        rw [eN, hb2] at he
        cases he
      | false =>
        rw [eN, hb2] at he
        have hlt : (k : Nat) < nL := by
          have := Nat.not_le_of_not_ble_eq_true (fun z => by rw [hb2] at z; cases z)
          omega
        cases he
        intro H locs L hP hD hS hL
        exact lv_astore_nN hx hb hd rfl hL.lv hlt rfl (fun L2 hL2 => kk H locs L2 hP hD hS (aHas_put hL2))
    · cases he
  case astore k =>
    simp only [ex1] at he
    split at he
    · cases hb2 : Nat.ble nL (k) with
      | true =>
        rw [eN, hb2] at he
        cases he
      | false =>
        rw [eN, hb2] at he
        have hlt : k < nL := by
          have := Nat.not_le_of_not_ble_eq_true (fun z => by rw [hb2] at z; cases z)
          omega
        cases he
        intro H locs L hP hD hS hL
        exact lv_astore hx hb hd hL.lv hlt rfl (fun L2 hL2 => kk H locs L2 hP hD hS (aHas_put hL2))
    · cases hb2 : Nat.ble nL (k) with
      | true =>
        rw [eN, hb2] at he
        cases he
      | false =>
        rw [eN, hb2] at he
        have hlt : k < nL := by
          have := Nat.not_le_of_not_ble_eq_true (fun z => by rw [hb2] at z; cases z)
          omega
        cases he
        intro H locs L hP hD hS hL
        exact lv_astoreN hx hb hd hL.lv hlt rfl (fun L2 hL2 => kk H locs L2 hP hD hS (aHas_put hL2))
    · cases he
  case iinc k v =>
    simp only [ex1] at he
    split at he
    · rename_i x hv
      cases he
      intro H locs L hP hD hS hL
      have hm : (k, Value.int x) ∈ aEnt ad 0 ls := (aEnt_mem ls 0).mpr ⟨_, Nat.zero_le _, by simpa using hv, rfl⟩
      obtain ⟨z, hz⟩ := List.getElem?_of_mem hm
      have hlt : k < nL := by
        have h1 := hL.2.2 _ _ hv
        rw [← hL.1]
        exact (Array.getElem?_eq_some_iff.mp h1).1
      exact lv_iinc hx hb hd hL.lv hz rfl hlt rfl (fun L2 hL2 => kk H locs L2 hP hD hS (aHas_put hL2))
    · cases he
  case goto off =>
    simp only [ex1] at he
    cases hb2 : Nat.beq (aJmp pc off) 0 with
    | true =>
      rw [hb2] at he
      cases he
    | false =>
      rw [hb2] at he
      cases he
      intro H locs L hP hD hS hL
      refine lv_goto (tgt := aJmp pc off) hx hb hd ?_ (kk H locs L hP hD hS hL)
      have h1 : aJmp pc off ≠ 0 := fun z => by rw [z] at hb2; cases hb2
      unfold aJmp at h1 ⊢
      omega
  case dup =>
    simp only [ex1] at he
    split at he
    · cases he
      intro H locs L hP hD hS hL
      exact lv_dup hx hb hd rfl (kk H locs L hP hD hS hL)
    · cases he
      intro H locs L hP hD hS hL
      exact lv_dup hx hb hd rfl (kk H locs L hP hD hS hL)
    · cases he
  case dup_x1 =>
    simp only [ex1] at he
    split at he
    · cases he
      intro H locs L hP hD hS hL
      exact lv_dup_x1 hx hb hd rfl rfl (kk H locs L hP hD hS hL)
    · cases he
      intro H locs L hP hD hS hL
      exact lv_dup_x1 hx hb hd rfl rfl (kk H locs L hP hD hS hL)
    · cases he
  case getfield x =>
    simp only [ex1] at he
    split at he
    · rename_i t j r
      split at he
      · rename_i ci k b nw cn c2 fl hf hl
        split at he
        · rename_i P2 hk hj
          cases hc : Nat.beq ci c2 with
          | true =>
            rw [hc] at he
            have e := Nat.eq_of_beq_eq_true hc
            subst e
            cases he
            exact XW.getf G0 (hK.1 _ (aFd_mem hf)) hl hk (aJok_lt hj hp) hd kk
          | false =>
            rw [hc] at he
            cases he
        · rename_i t2 b2 P2 hk hj
          cases hc : Nat.beq ci c2 with
          | true =>
            rw [hc] at he
            have e := Nat.eq_of_beq_eq_true hc
            subst e
            cases he
            exact XW.getf G0 (hK.1 _ (aFd_mem hf)) hl hk (aJok_lt hj hp) hd kk
          | false =>
            rw [hc] at he
            cases he
        · cases he
      · cases he
    · cases he
  case putfield x =>
    simp only [ex1] at he
    split at he
    · rename_i v t j r
      split at he
      · rename_i ci k nw cn c2 fl hf hl
        split at he
        · rename_i P2 hk hj
          cases hc : Nat.beq ci c2 with
          | true =>
            rw [hc] at he
            have e := Nat.eq_of_beq_eq_true hc
            subst e
            cases he
            exact XW.putf G0 (hK.1 _ (aFd_mem hf)) hl hk (aJok_lt hj hp) hd kk
          | false =>
            rw [hc] at he
            cases he
        · cases he
      · cases he
    · cases he
  case getstatic x =>
    simp only [ex1] at he
    split at he
    · rename_i k nw hf
      cases he
      exact XW.gets G0 (hK.2.1 _ (aFd_mem hf)) hd kk
    · cases he
  case invokestatic x =>
    simp only [ex1] at he
    split at he
    · rename_i y z r
      split at he
      · rename_i nw hf
        cases he
        exact XW.mmax G0 (hK.2.2.2.2 _ (aFd_mem hf)) hp.1 hd kk
      · rename_i nw hf
        cases he
        exact XW.mmin G0 (hK.2.2.2.2 _ (aFd_mem hf)) hp.1 hd kk
      · cases he
    · cases he
  case arraylength =>
    simp only [ex1] at he
    split at he
    · rename_i t j r
      cases h1 : Nat.ble 100 t with
      | true =>
        rw [h1] at he
        cases h2 : Nat.ble 104 t with
        | true =>
          rw [h2] at he
          cases he
        | false =>
          rw [h2] at he
          have g1 := Nat.le_of_ble_eq_true h1
          have g2 : t < 104 := by
            have := Nat.not_le_of_not_ble_eq_true (fun z => by rw [h2] at z; cases z)
            omega
          obtain ⟨k, rfl⟩ : ∃ k, t = 100 + k := ⟨t - 100, by omega⟩
          have g3 : 100 + k - 100 = k := by omega
          rw [g3] at he
          cases he
          obtain ⟨rfl, -⟩ := hp
          exact XW.stlen G0 (by omega) hd kk
      | false =>
        rw [h1] at he
        dsimp only [cond_false] at he
        split at he
        · rename_i cn k2 z hl
          split at he
          · rename_i P2 hj
            cases he
            exact XW.alen G0 hl (aJok_lt hj hp) hd kk
          · cases he
        · cases he
    · cases he
  case iaload =>
    simp only [ex1] at he
    split at he
    · rename_i x t j r
      cases h1 : Nat.ble 100 t with
      | true =>
        rw [h1] at he
        cases h2 : Nat.ble 104 t with
        | true =>
          rw [h2] at he
          cases he
        | false =>
          rw [h2] at he
          have g1 := Nat.le_of_ble_eq_true h1
          have g2 : t < 104 := by
            have := Nat.not_le_of_not_ble_eq_true (fun z => by rw [h2] at z; cases z)
            omega
          obtain ⟨k, rfl⟩ : ∃ k, t = 100 + k := ⟨t - 100, by omega⟩
          have g3 : 100 + k - 100 = k := by omega
          rw [g3] at he
          cases he
          obtain ⟨rfl, hp, -⟩ := hp
          exact XW.stld G0 (by omega) hp hd kk
      | false =>
        rw [h1] at he
        dsimp only [cond_false] at he
        split at he
        · rename_i cn z hl
          split at he
          · rename_i P2 hj
            cases he
            exact XW.iald G0 hl (aJok_lt hj (aAll_app hp).1) (aAll_app hp).2.1 hd kk
          · cases he
        · cases he
    · cases he
  case laload =>
    simp only [ex1] at he
    split at he
    · rename_i x t j r
      split at he
      · rename_i cn z hl
        split at he
        · rename_i P2 hj
          cases he
          exact XW.lald G0 hl (aJok_lt hj (aAll_app hp).1) (aAll_app hp).2.1 hd kk
        · cases he
      · cases he
    · cases he
  case aaload =>
    simp only [ex1] at he
    split at he
    · rename_i x t j r
      split at he
      · rename_i cn k2 z hl
        split at he
        · rename_i P2 hj
          cases he
          exact XW.aald G0 hl (aJok_lt hj (aAll_app hp).1) (aAll_app hp).2.1 hd kk
        · cases he
      · cases he
    · cases he
  case iastore =>
    simp only [ex1] at he
    split at he
    · rename_i v x t j r
      split at he
      · rename_i cn z hl
        split at he
        · rename_i P2 hj
          cases he
          exact XW.iast G0 hl (aJok_lt hj (aAll_app hp).1) (aAll_app hp).2.1 hd kk
        · cases he
      · cases he
    · cases he
  case lastore =>
    simp only [ex1] at he
    split at he
    · rename_i v x t j r
      split at he
      · rename_i cn z hl
        split at he
        · rename_i P2 hj
          cases he
          exact XW.last G0 hl (aJok_lt hj (aAll_app hp).1) (aAll_app hp).2.1 hd kk
        · cases he
      · cases he
    · cases he
end XS
