/-! rules over the small machine: blocks, branches, calls, ends -/
def exL (K : aKt) (Λ : aLy) (N : Nat) : List (Nat × Instr) → aSte → Option (aSte × List Prop)
  | [], s => some (s, [])
  | q :: r, s => cond (Nat.beq q.1 s.1) (match ex1 K Λ N q.2 s with
    | some (s2, P) => match exL K Λ N r s2 with
      | some (s3, P2) => some (s3, P ++ P2)
      | none => none
    | none => none) none
def decB (cc : ByteArray) (b : List (Nat × Instr)) : Bool := b.all (fun q => decide (decode cc q.1 = .ok (q.2, aLen q.2)))
/-- all that a method's body rests on -/
def XB (Γ : XC) (cc : ByteArray) (own : String) (d : Nat) (K : aKt) (Λ : aLy) (N : Nat) : Prop := XG Γ cc own d ∧ KOK own K ∧ xL Γ = Λ ∧ xN Γ = N
section XB
variable {Γ : XC} {cc : ByteArray} {own : String} {d N : Nat} {K : aKt} {Λ : aLy}
theorem XW.blk (B : XB Γ cc own d K Λ N) : ∀ (b : List (Nat × Instr)) {pc : Nat} {ls : List (Option AV)} {st : List AV} {σ : SS} {s' : aSte} {P : List Prop}, decB cc b = true → exL K Λ N b (pc, ls, st, σ) = some (s', P) → aAll P → XW Γ s'.1 s'.2.1 s'.2.2.1 s'.2.2.2 → XW Γ pc ls st σ
  | [], pc, ls, st, σ, s', P, _, he, _, k => by
    cases he
    exact k
  | q :: r, pc, ls, st, σ, s', P, hb, he, hp, k => by
    simp only [decB, List.all_cons, Bool.and_eq_true, decide_eq_true_eq] at hb
    unfold exL at he
    cases hq : Nat.beq q.1 (pc, ls, st, σ).1 with
    | false =>
      rw [hq] at he
      cases he
    | true =>
      rw [hq] at he
      have e := Nat.eq_of_beq_eq_true hq
      dsimp only at e
      dsimp only [cond_true] at he
      split at he
      · rename_i s2 P1 h1
        split at he
        · rename_i s3 P2 h2
          cases he
          obtain ⟨g1, g2⟩ := aAll_app hp
          rw [e] at hb
          obtain ⟨G, hK, hΛ, hN⟩ := B
          refine ex1_ok G hK hb.1 (by rw [hΛ, hN]; exact h1) g1 ?_
          exact XW.blk ⟨G, hK, hΛ, hN⟩ r (by simpa only [decB] using hb.2) h2 g2 k
        · cases he
      · cases he
/-- a branch: when it is taken, what is left of the stack, how far -/
def brn : Instr → List AV → Option (Prop × List AV × Int)
  | .if_icmp .eq off, .inl (.int y) :: .inl (.int x) :: r => some (x = y, r, off)
  | .if_icmp .ne off, .inl (.int y) :: .inl (.int x) :: r => some (¬ x = y, r, off)
  | .if_icmp .lt off, .inl (.int y) :: .inl (.int x) :: r => some (x < y, r, off)
  | .if_icmp .ge off, .inl (.int y) :: .inl (.int x) :: r => some (y ≤ x, r, off)
  | .if_icmp .gt off, .inl (.int y) :: .inl (.int x) :: r => some (y < x, r, off)
  | .if_icmp .le off, .inl (.int y) :: .inl (.int x) :: r => some (x ≤ y, r, off)
  | .ifCond .eq off, .inl (.int x) :: r => some (x = 0, r, off)
  | .ifCond .ne off, .inl (.int x) :: r => some (¬ x = 0, r, off)
  | .ifCond .lt off, .inl (.int x) :: r => some (x < 0, r, off)
  | .ifCond .ge off, .inl (.int x) :: r => some (0 ≤ x, r, off)
  | .ifCond .gt off, .inl (.int x) :: r => some (0 < x, r, off)
  | .ifCond .le off, .inl (.int x) :: r => some (x ≤ 0, r, off)
  | _, _ => none
theorem XW.br (B : XB Γ cc own d K Λ N) {i : Instr} {pc tgt : Nat} {ls : List (Option AV)} {st st2 : List AV} {σ : SS} {q : Prop} {off : Int} (hd : decode cc pc = .ok (i, 3)) (hb : brn i st = some (q, st2, off)) (ht : (pc : Int) + off = (tgt : Int)) (kt : q → XW Γ tgt ls st2 σ) (kf : ¬ q → XW Γ (pc + 3) ls st2 σ) : XW Γ pc ls st σ := by
  obtain ⟨⟨p, l, e, R⟩, ⟨s, m, args, below, meth, c⟩, ⟨Q, cells, slots, nL⟩, ⟨D, cs, ad, A, Λ'⟩⟩ := Γ
  obtain ⟨⟨hx, hcb, -⟩, -⟩ := B
  unfold brn at hb
  split at hb <;> first | (cases hb; done) | skip
  all_goals (cases hb; intro H locs L hP hD hS hL)
  · exact lv_icmp_eq hx hcb hd ht (fun h => kt h H locs L hP hD hS hL) (fun h => kf h H locs L hP hD hS hL)
  · exact lv_icmp_ne hx hcb hd ht (fun h => kt h H locs L hP hD hS hL) (fun h => kf (fun z => z h) H locs L hP hD hS hL)
  · exact lv_icmp_lt hx hcb hd ht (fun h => kt h H locs L hP hD hS hL) (fun h => kf h H locs L hP hD hS hL)
  · exact lv_icmp_ge hx hcb hd ht (fun h => kt h H locs L hP hD hS hL) (fun h => kf h H locs L hP hD hS hL)
  · exact lv_icmp_gt hx hcb hd ht (fun h => kt h H locs L hP hD hS hL) (fun h => kf h H locs L hP hD hS hL)
  · exact lv_icmp_le hx hcb hd ht (fun h => kt h H locs L hP hD hS hL) (fun h => kf h H locs L hP hD hS hL)
  · exact lv_if_eq hx hcb hd ht (fun h => kt h H locs L hP hD hS hL) (fun h => kf h H locs L hP hD hS hL)
  · exact lv_if_ne hx hcb hd ht (fun h => kt h H locs L hP hD hS hL) (fun h => kf (fun z => z h) H locs L hP hD hS hL)
  · exact lv_if_lt hx hcb hd ht (fun h => kt h H locs L hP hD hS hL) (fun h => kf h H locs L hP hD hS hL)
  · exact lv_if_ge hx hcb hd ht (fun h => kt h H locs L hP hD hS hL) (fun h => kf h H locs L hP hD hS hL)
  · exact lv_if_gt hx hcb hd ht (fun h => kt h H locs L hP hD hS hL) (fun h => kf h H locs L hP hD hS hL)
  · exact lv_if_le hx hcb hd ht (fun h => kt h H locs L hP hD hS hL) (fun h => kf h H locs L hP hD hS hL)
/-- a block and the branch at its end -/
theorem XW.bb (B : XB Γ cc own d K Λ N) (b : List (Nat × Instr)) (hdb : decB cc b = true) {i : Instr} {pc pc1 tgt : Nat} {ls ls1 : List (Option AV)} {st st1 st2 : List AV} {σ σ1 : SS} {P : List Prop} {q : Prop} {off : Int} (he : exL K Λ N b (pc, ls, st, σ) = some ((pc1, ls1, st1, σ1), P)) (hp : aAll P) (hd : decode cc pc1 = .ok (i, 3)) (hb : brn i st1 = some (q, st2, off)) (ht : (pc1 : Int) + off = (tgt : Int)) (kt : q → XW Γ tgt ls1 st2 σ1) (kf : ¬ q → XW Γ (pc1 + 3) ls1 st2 σ1) : XW Γ pc ls st σ :=
  XW.blk B b hdb he hp (XW.br B hd hb ht kt kf)
/-- the same, of a branch that is taken where two are unlike -/
theorem XW.bn (B : XB Γ cc own d K Λ N) (b : List (Nat × Instr)) (hdb : decB cc b = true) {i : Instr} {pc pc1 tgt : Nat} {ls ls1 : List (Option AV)} {st st1 st2 : List AV} {σ σ1 : SS} {P : List Prop} {q : Prop} {off : Int} (he : exL K Λ N b (pc, ls, st, σ) = some ((pc1, ls1, st1, σ1), P)) (hp : aAll P) (hd : decode cc pc1 = .ok (i, 3)) (hb : brn i st1 = some (¬ q, st2, off)) (ht : (pc1 : Int) + off = (tgt : Int)) (kf : q → XW Γ (pc1 + 3) ls1 st2 σ1) (kt : ¬ q → XW Γ tgt ls1 st2 σ1) : XW Γ pc ls st σ :=
  XW.blk B b hdb he hp (XW.br B hd hb ht kt (fun h => kf (Classical.not_not.mp h)))
/-- a block -/
theorem XW.bk (B : XB Γ cc own d K Λ N) (b : List (Nat × Instr)) (hdb : decB cc b = true) {pc pc1 : Nat} {ls ls1 : List (Option AV)} {st st1 : List AV} {σ σ1 : SS} {P : List Prop} (he : exL K Λ N b (pc, ls, st, σ) = some ((pc1, ls1, st1, σ1), P)) (hp : aAll P) (k : XW Γ pc1 ls1 st1 σ1) : XW Γ pc ls st σ :=
  XW.blk B b hdb he hp k
theorem XW.nullR (B : XB Γ cc own d K Λ N) {pc t j : Nat} {off : Int} {ls : List (Option AV)} {st : List AV} {σ : SS} (hd : decode cc pc = .ok (.ifnull off, 3)) (k : XW Γ (pc + 3) ls st σ) : XW Γ pc ls (aR t j :: st) σ := by
  obtain ⟨⟨p, l, e, R⟩, ⟨s, m, args, below, meth, c⟩, ⟨Q, cells, slots, nL⟩, ⟨D, cs, ad, A, Λ'⟩⟩ := Γ
  obtain ⟨⟨hx, hcb, -⟩, -⟩ := B
  intro H locs L hP hD hS hL
  exact lv_ifnull hx hcb hd (k H locs L hP hD hS hL)
theorem XW.nullN (B : XB Γ cc own d K Λ N) {pc tgt : Nat} {off : Int} {ls : List (Option AV)} {st : List AV} {σ : SS} (hd : decode cc pc = .ok (.ifnull off, 3)) (ht : (pc : Int) + off = (tgt : Int)) (k : XW Γ tgt ls st σ) : XW Γ pc ls (aN :: st) σ := by
  obtain ⟨⟨p, l, e, R⟩, ⟨s, m, args, below, meth, c⟩, ⟨Q, cells, slots, nL⟩, ⟨D, cs, ad, A, Λ'⟩⟩ := Γ
  obtain ⟨⟨hx, hcb, -⟩, -⟩ := B
  intro H locs L hP hD hS hL
  exact lv_ifnullN hx hcb hd ht (k H locs L hP hD hS hL)
theorem XW.nonR (B : XB Γ cc own d K Λ N) {pc t j tgt : Nat} {off : Int} {ls : List (Option AV)} {st : List AV} {σ : SS} (hd : decode cc pc = .ok (.ifnonnull off, 3)) (ht : (pc : Int) + off = (tgt : Int)) (k : XW Γ tgt ls st σ) : XW Γ pc ls (aR t j :: st) σ := by
  obtain ⟨⟨p, l, e, R⟩, ⟨s, m, args, below, meth, c⟩, ⟨Q, cells, slots, nL⟩, ⟨D, cs, ad, A, Λ'⟩⟩ := Γ
  obtain ⟨⟨hx, hcb, -⟩, -⟩ := B
  intro H locs L hP hD hS hL
  exact lv_ifnonnull hx hcb hd ht (k H locs L hP hD hS hL)
theorem XW.nonN (B : XB Γ cc own d K Λ N) {pc : Nat} {off : Int} {ls : List (Option AV)} {st : List AV} {σ : SS} (hd : decode cc pc = .ok (.ifnonnull off, 3)) (k : XW Γ (pc + 3) ls st σ) : XW Γ pc ls (aN :: st) σ := by
  obtain ⟨⟨p, l, e, R⟩, ⟨s, m, args, below, meth, c⟩, ⟨Q, cells, slots, nL⟩, ⟨D, cs, ad, A, Λ'⟩⟩ := Γ
  obtain ⟨⟨hx, hcb, -⟩, -⟩ := B
  intro H locs L hP hD hS hL
  exact lv_ifnonnullN hx hcb hd (k H locs L hP hD hS hL)
theorem XW.tsI (B : XB Γ cc own d K Λ N) {pc tgt n : Nat} {ls : List (Option AV)} {st : List AV} {σ : SS} {x : Int32} {dflt lo hi off : Int} {offs : Array Int} (k : Int32) (hd : decode cc pc = .ok (.tableswitch dflt lo hi offs, n)) (hx : x = k) (h : (decide (¬ k.toInt < lo) && decide (¬ hi < k.toInt) && decide (offs[(k.toInt - lo).toNat]? = some off)) = true) (ht : (pc : Int) + off = (tgt : Int)) (kk : XW Γ tgt ls st σ) : XW Γ pc ls (aI x :: st) σ := by
  obtain ⟨⟨p, l, e, R⟩, ⟨s, m, args, below, meth, c⟩, ⟨Q, cells, slots, nL⟩, ⟨D, cs, ad, A, Λ'⟩⟩ := Γ
  obtain ⟨⟨hxx, hcb, -⟩, -⟩ := B
  intro H locs L hP hD hS hL
  subst hx
  simp only [Bool.and_eq_true, decide_eq_true_eq] at h
  exact lv_tableIn hxx hcb hd h.1.1 h.1.2 h.2 ht (kk H locs L hP hD hS hL)
theorem XW.tsD (B : XB Γ cc own d K Λ N) {pc tgt n : Nat} {ls : List (Option AV)} {st : List AV} {σ : SS} {x : Int32} {dflt lo hi : Int} {offs : Array Int} (ks : List Int32) (hd : decode cc pc = .ok (.tableswitch dflt lo hi offs, n)) (hx : ∀ k ∈ ks, ¬ x = k) (h : (List.range offs.size).all (fun i => decide (offs[i]? = some dflt) || ks.any (fun k => decide (k.toInt = lo + (i : Int)))) = true) (hn : hi - lo + 1 = (offs.size : Int)) (ht : (pc : Int) + dflt = (tgt : Int)) (kk : XW Γ tgt ls st σ) : XW Γ pc ls (aI x :: st) σ := by
  obtain ⟨⟨p, l, e, R⟩, ⟨s, m, args, below, meth, c⟩, ⟨Q, cells, slots, nL⟩, ⟨D, cs, ad, A, Λ'⟩⟩ := Γ
  obtain ⟨⟨hxx, hcb, -⟩, -⟩ := B
  intro H locs L hP hD hS hL
  by_cases h1 : x.toInt < lo
  · exact lv_tableOut hxx hcb hd (Or.inl h1) ht (kk H locs L hP hD hS hL)
  by_cases h2 : hi < x.toInt
  · exact lv_tableOut hxx hcb hd (Or.inr h2) ht (kk H locs L hP hD hS hL)
  have h3 := List.all_eq_true.mp h (x.toInt - lo).toNat (List.mem_range.mpr (by omega))
  rw [Bool.or_eq_true, decide_eq_true_eq] at h3
  rcases h3 with h3 | h3
  · exact lv_tableIn hxx hcb hd h1 h2 h3 ht (kk H locs L hP hD hS hL)
  · obtain ⟨k, hk, he⟩ := List.any_eq_true.mp h3
    rw [decide_eq_true_eq] at he
    exact absurd (Int32.toInt_inj.mp (by omega)) (hx k hk)
theorem osw_at : ∀ (ps : List (Int × Int)) (d x : Int), (∀ q ∈ ps, ¬ x = q.1) → Op.lookupswitch.offset ps d x = d
  | [], d, x, _ => rfl
  | q :: r, d, x, h => by
    obtain ⟨a, o⟩ := q
    have h1 := h (a, o) List.mem_cons_self
    unfold Op.lookupswitch.offset
    rw [osw_at r d x (fun q hq => h q (List.mem_cons_of_mem _ hq))]
    simp
    exact fun e => absurd e.symm h1
theorem XW.lsI (B : XB Γ cc own d K Λ N) {pc tgt n : Nat} {ls : List (Option AV)} {st : List AV} {σ : SS} {x : Int32} {dflt off : Int} {ps : Array (Int × Int)} (k : Int32) (hd : decode cc pc = .ok (.lookupswitch dflt ps, n)) (hx : x = k) (h : ((ps.toList.zip (ps.toList.drop 1)).all (fun (a, next) => a.1 < next.1) && decide (Op.lookupswitch.offset ps.toList dflt k.toInt = off)) = true) (ht : (pc : Int) + off = (tgt : Int)) (kk : XW Γ tgt ls st σ) : XW Γ pc ls (aI x :: st) σ := by
  obtain ⟨⟨p, l, e, R⟩, ⟨s, m, args, below, meth, c⟩, ⟨Q, cells, slots, nL⟩, ⟨D, cs, ad, A, Λ'⟩⟩ := Γ
  obtain ⟨⟨hxx, hcb, -⟩, -⟩ := B
  intro H locs L hP hD hS hL
  subst hx
  rw [Bool.and_eq_true, decide_eq_true_eq] at h
  exact lv_lookup hxx hcb hd h.1 h.2 ht (kk H locs L hP hD hS hL)
theorem XW.lsD (B : XB Γ cc own d K Λ N) {pc tgt n : Nat} {ls : List (Option AV)} {st : List AV} {σ : SS} {x : Int32} {dflt : Int} {ps : Array (Int × Int)} (ks : List Int32) (hd : decode cc pc = .ok (.lookupswitch dflt ps, n)) (hx : ∀ k ∈ ks, ¬ x = k) (h : ((ps.toList.zip (ps.toList.drop 1)).all (fun (a, next) => a.1 < next.1) && ps.toList.all (fun q => ks.any (fun k => decide (k.toInt = q.1)))) = true) (ht : (pc : Int) + dflt = (tgt : Int)) (kk : XW Γ tgt ls st σ) : XW Γ pc ls (aI x :: st) σ := by
  obtain ⟨⟨p, l, e, R⟩, ⟨s, m, args, below, meth, c⟩, ⟨Q, cells, slots, nL⟩, ⟨D, cs, ad, A, Λ'⟩⟩ := Γ
  obtain ⟨⟨hxx, hcb, -⟩, -⟩ := B
  intro H locs L hP hD hS hL
  rw [Bool.and_eq_true] at h
  refine lv_lookup hxx hcb hd h.1 (osw_at _ _ _ (fun q hq he => ?_)) ht (kk H locs L hP hD hS hL)
  obtain ⟨k, hk, hk2⟩ := List.any_eq_true.mp (List.all_eq_true.mp h.2 q hq)
  rw [decide_eq_true_eq] at hk2
  exact hx k hk (Int32.toInt_inj.mp (by omega))
end XB
