/-! THE JUDGEMENT XW: from a place of a method's code, with locals, stack and numbers as told, the machine comes to Q. And XM: a method, called so, answers so and leaves the numbers so. -/
abbrev XC : Type := (Program × Launch × Env × Room) × (State × MethodId × Array Value × List Frame × Method × Code) × ((State → Prop) × Nat × Nat × Nat) × (va_G × aCs × aMp × (Nat → Prop) × aLy)
def XW (Γ : XC) (pc : Nat) (ls : List (Option AV)) (st : List AV) (σ : SS) : Prop := match Γ with
  | ((p, l, e, R), (s, m, args, below, meth, c), (Q, cells, slots, nL), (D, cs, ad, A, Λ)) =>
    ∀ (H : Heap) (locs : List Loc) (L : Array Slot), va_P D vwCl (aWl Λ cs ad σ) H → va_D A (aWl Λ cs ad σ) → va_S A s.heap H locs → aHas ad L nL ls →
      W p l e R s m args below meth c H locs cells slots Q (F0 m pc L (st.map (rv ad)))
/-- the good words of the tables: every method's words -/
def GW : List Cond := lw_tbl.filter goodWord
theorem GW_in {w : Cond} (h : w ∈ lw_tbl) (hg : goodWord w = true) : w ∈ GW := List.mem_filter.mpr ⟨h, hg⟩
theorem GW_0 {w : Cond} (n : Nat) (h : (k2_sels lw_privs)[n]? = some w) (hg : goodWord w = true) : w ∈ GW := GW_in (List.mem_append_left _ (List.mem_of_getElem? h)) hg
theorem GW_1 {w : Cond} (n : Nat) (h : tables_1_1[n]? = some w) (hg : goodWord w = true) : w ∈ GW := GW_in (List.mem_append_right _ (List.mem_append_left _ (List.mem_of_getElem? h))) hg
theorem GW_2 {w : Cond} (n : Nat) (h : tables_1_2[n]? = some w) (hg : goodWord w = true) : w ∈ GW := GW_in (List.mem_append_right _ (List.mem_append_right _ (List.mem_append_left _ (List.mem_of_getElem? h)))) hg
theorem GW_3 {w : Cond} (n : Nat) (h : tables_1_3[n]? = some w) (hg : goodWord w = true) : w ∈ GW := GW_in (List.mem_append_right _ (List.mem_append_right _ (List.mem_append_right _ (List.mem_append_left _ (List.mem_of_getElem? h))))) hg
theorem GW_4 {w : Cond} (n : Nat) (h : tables_1_4[n]? = some w) (hg : goodWord w = true) : w ∈ GW := GW_in (List.mem_append_right _ (List.mem_append_right _ (List.mem_append_right _ (List.mem_append_right _ (List.mem_append_left _ (List.mem_of_getElem? h)))))) hg
theorem GW_5 {w : Cond} (n : Nat) (h : tables_1_5[n]? = some w) (hg : goodWord w = true) : w ∈ GW := GW_in (List.mem_append_right _ (List.mem_append_right _ (List.mem_append_right _ (List.mem_append_right _ (List.mem_append_right _ (List.mem_append_left _ (List.mem_of_getElem? h))))))) hg
theorem GW_6 {w : Cond} (n : Nat) (h : tables_1_6[n]? = some w) (hg : goodWord w = true) : w ∈ GW := GW_in (List.mem_append_right _ (List.mem_append_right _ (List.mem_append_right _ (List.mem_append_right _ (List.mem_append_right _ (List.mem_append_right _ (List.mem_append_left _ (List.mem_of_getElem? h)))))))) hg
theorem GW_7 {w : Cond} (n : Nat) (h : tables_1_7[n]? = some w) (hg : goodWord w = true) : w ∈ GW := GW_in (List.mem_append_right _ (List.mem_append_right _ (List.mem_append_right _ (List.mem_append_right _ (List.mem_append_right _ (List.mem_append_right _ (List.mem_append_right _ (List.mem_of_getElem? h)))))))) hg
theorem GW_good : GoodIn GW GW := fun w hw => ⟨hw, good_of_word (List.mem_filter.mp hw).2⟩
def aTys (cs : aCs) : List (ClassId × FieldType) := [(cs.1, .int), (cs.2.1, .long), (cs.2.2, .object "PaneAcross$Shelf")]
/-- what holds all through a method's body -/
def XG (Γ : XC) (cc : ByteArray) (own : String) (d : Nat) : Prop := match Γ with
  | ((p, l, e, R), (s, m, args, below, meth, c), (Q, cells, slots, nL), (D, cs, ad, A, Λ)) =>
    p.tables.exec = Jvm.exec ∧ c.code = cc ∧ c.maxLocals = nL ∧ s.vm.findClass own = some m.cls ∧ (∀ w ∈ GW, w.before args s = true) ∧ va_K D vwCl (aTys cs) s ∧ aSt ad A s s.heap ∧
    d ≤ R.frames ∧ 64 * d ≤ R.locals ∧ cells ≤ R.cells ∧ slots ≤ R.slots ∧ 1 ≤ d
def xL (Γ : XC) : aLy := match Γ with
  | (_, _, _, (_, _, _, _, Λ)) => Λ
def xN (Γ : XC) : Nat := match Γ with
  | (_, _, (_, _, _, nL), _) => nL
theorem XW.loc {Γ : XC} {pc : Nat} {ls ls' : List (Option AV)} {st : List AV} {σ : SS} (m : List Bool) (h : aMsk m ls = ls') (k : XW Γ pc ls' st σ) : XW Γ pc ls st σ := by
  obtain ⟨⟨p, l, e, R⟩, ⟨s, m', args, below, meth, c⟩, ⟨Q, cells, slots, nL⟩, ⟨D, cs, ad, A, Λ⟩⟩ := Γ
  intro H locs L hP hD hS hL
  subst h
  exact k H locs L hP hD hS (aHas_sub hL (fun j w hw => aMsk_get _ _ _ hw))
def aLen : Instr → Nat
  | .bipush _ => 2
  | .ldc _ => 2
  | .iload _ => 2
  | .lload _ => 2
  | .aload _ => 2
  | .istore _ => 2
  | .lstore _ => 2
  | .astore _ => 2
  | .sipush _ => 3
  | .ldc_w _ => 3
  | .ldc2_w _ => 3
  | .iinc _ _ => 3
  | .goto _ => 3
  | .getfield _ => 3
  | .putfield _ => 3
  | .getstatic _ => 3
  | .invokestatic _ => 3
  | .invokevirtual _ => 3
  | .invokespecial _ => 3
  | .if_icmp _ _ => 3
  | .ifCond _ _ => 3
  | .ifnull _ => 3
  | .ifnonnull _ => 3
  | _ => 1
/-! one instruction that neither branches nor calls: the state behind it, and what must hold that it can be run -/
def aFd {α : Type} : List (Nat × α) → Nat → Option α
  | [], _ => none
  | q :: r, i => cond (Nat.beq q.1 i) (some q.2) (aFd r i)
theorem aFd_mem {α : Type} : ∀ {l : List (Nat × α)} {i : Nat} {v : α}, aFd l i = some v → (i, v) ∈ l
  | [], i, v, h => by simp [aFd] at h
  | q :: r, i, v, h => by
    unfold aFd at h
    cases hb : Nat.beq q.1 i with
    | true =>
      rw [hb] at h
      have e := Nat.eq_of_beq_eq_true hb
      obtain ⟨a, b⟩ := q
      simp at h e
      rw [e, h]
      exact List.mem_cons_self
    | false =>
      rw [hb] at h
      exact List.mem_cons_of_mem _ (aFd_mem h)
/-- a class's links: fields (class, place, whether a number may be put), statics, int and long constants, max (true) and min -/
abbrev aKt : Type := List (Nat × Nat × Nat × Bool × Nat) × List (Nat × Nat × Nat) × List (Nat × Int32 × Nat) × List (Nat × Int64 × Nat) × List (Nat × Bool × Nat)
def fldP (own : String) (q : Nat × Nat × Nat × Bool × Nat) : Prop := match vwCl[q.2.1]? with
  | some (C, T, N) => q.2.2.1 < N ∧ Cond.fieldLink own q.1 C (T q.2.2.1).2.1 (T q.2.2.1).2.2.1 ∈ GW ∧ (T q.2.2.1).1 = C ∧ (q.2.2.2.1 = true → (T q.2.2.1).2.2.2 = false ∧ parseFieldDescriptor (T q.2.2.1).2.2.1 = some .int)
  | none => False
theorem fldP_of {own C : String} {T : u_T} {x ci k N nw : Nat} {b : Bool} (hc : vwCl[ci]? = some (C, T, N)) (h1 : k < N) (h2 : Cond.fieldLink own x C (T k).2.1 (T k).2.2.1 ∈ GW) (h3 : (T k).1 = C) (h4 : (!b || (!(T k).2.2.2 && decide (parseFieldDescriptor (T k).2.2.1 = some .int))) = true) : fldP own (x, ci, k, b, nw) := by
  unfold fldP
  dsimp only
  rw [hc]
  refine ⟨h1, h2, h3, fun hb => ?_⟩
  subst hb
  simpa using h4
def stcP (own : String) (q : Nat × Nat × Nat) : Prop := q.2.1 < 4 ∧ Cond.fieldLink own q.1 (aStC q.2.1) (aStN q.2.1) "[I" ∈ GW
def mthP (own : String) (q : Nat × Bool × Nat) : Prop := match q.2.1 with
  | true => Cond.methodLink own q.1 Lib.Math.max.name ∈ GW
  | false => Cond.methodLink own q.1 Lib.Math.min.name ∈ GW
def KOK (own : String) (K : aKt) : Prop := (∀ q ∈ K.1, fldP own q) ∧ (∀ q ∈ K.2.1, stcP own q) ∧ (∀ q ∈ K.2.2.1, Cond.constant own q.1 q.2.1 ∈ GW) ∧ (∀ q ∈ K.2.2.2.1, Cond.constantLong own q.1 q.2.1 ∈ GW) ∧ (∀ q ∈ K.2.2.2.2, mthP own q)
abbrev aSte : Type := Nat × List (Option AV) × List AV × SS
def aJmp (pc : Nat) (off : Int) : Nat := ((pc : Int) + off).toNat
/-- which cells there are: the only one of its kind, or the j-th under a condition -/
def aJok : Nat → Nat → Option (List Prop)
  | 0, _ => none
  | 1, 0 => some []
  | 1, _ + 1 => none
  | n + 2, j => some [j < n + 2]
def aAll : List Prop → Prop
  | [] => True
  | p :: r => p ∧ aAll r
theorem aAll_app : ∀ {l1 l2 : List Prop}, aAll (l1 ++ l2) → aAll l1 ∧ aAll l2
  | [], _, h => ⟨trivial, h⟩
  | _ :: _, _, h => ⟨⟨h.1, (aAll_app h.2).1⟩, (aAll_app h.2).2⟩
def ex1 (K : aKt) (Λ : aLy) (N : Nat) (i : Instr) : aSte → Option (aSte × List Prop)
  | (pc, ls, st, σ) => match i with
    | .aconst_null => some ((pc + 1, ls, aN :: st, σ), [])
    | .iconst v => some ((pc + 1, ls, aI (Int32.ofInt v) :: st, σ), [])
    | .bipush v => cond (decide (-128 ≤ v) && decide (v < 128)) (some ((pc + 2, ls, aI (Int32.ofInt v) :: st, σ), [])) none
    | .sipush v => cond (decide (-32768 ≤ v) && decide (v < 32768)) (some ((pc + 3, ls, aI (Int32.ofInt v) :: st, σ), [])) none
    | .lconst v => some ((pc + 1, ls, aJ (Int64.ofNat (v : Nat)) :: st, σ), [])
    | .ldc x => match aFd K.2.2.1 x with
      | some (v, _) => some ((pc + 2, ls, aI v :: st, σ), [])
      | none => none
    | .ldc_w x => match aFd K.2.2.1 x with
      | some (v, _) => some ((pc + 3, ls, aI v :: st, σ), [])
      | none => none
    | .ldc2_w x => match aFd K.2.2.2.1 x with
      | some (v, _) => some ((pc + 3, ls, aJ v :: st, σ), [])
      | none => none
    | .iload_n k => match ls[(k : Nat)]? with
      | some (some (.inl (.int x))) => some ((pc + 1, ls, aI x :: st, σ), [])
      | _ => none
    | .iload k => match ls[k]? with
      | some (some (.inl (.int x))) => some ((pc + 2, ls, aI x :: st, σ), [])
      | _ => none
    | .lload_n k => match ls[(k : Nat)]? with
      | some (some (.inl (.long x))) => some ((pc + 1, ls, aJ x :: st, σ), [])
      | _ => none
    | .lload k => match ls[k]? with
      | some (some (.inl (.long x))) => some ((pc + 2, ls, aJ x :: st, σ), [])
      | _ => none
    | .aload_n k => match ls[(k : Nat)]? with
      | some (some (.inr q)) => some ((pc + 1, ls, .inr q :: st, σ), [])
      | some (some (.inl .null)) => some ((pc + 1, ls, aN :: st, σ), [])
      | _ => none
    | .aload k => match ls[k]? with
      | some (some (.inr q)) => some ((pc + 2, ls, .inr q :: st, σ), [])
      | some (some (.inl .null)) => some ((pc + 2, ls, aN :: st, σ), [])
      | _ => none
    | .istore_n k => match st with
      | .inl (.int x) :: r => cond (Nat.ble N k) none (some ((pc + 1, aPut ls k (aI x), r, σ), []))
      | _ => none
    | .istore k => match st with
      | .inl (.int x) :: r => cond (Nat.ble N k) none (some ((pc + 2, aPut ls k (aI x), r, σ), []))
      | _ => none
    | .lstore_n k => match st with
      | .inl (.long x) :: r => cond (Nat.ble N (k + 1)) none (some ((pc + 1, aPut2 ls k (aJ x), r, σ), []))
      | _ => none
    | .lstore k => match st with
      | .inl (.long x) :: r => cond (Nat.ble N (k + 1)) none (some ((pc + 2, aPut2 ls k (aJ x), r, σ), []))
      | _ => none
    | .astore_n k => match st with
      | .inr q :: r => cond (Nat.ble N k) none (some ((pc + 1, aPut ls k (.inr q), r, σ), []))
      | .inl .null :: r => cond (Nat.ble N k) none (some ((pc + 1, aPut ls k aN, r, σ), []))
      | _ => none
    | .astore k => match st with
      | .inr q :: r => cond (Nat.ble N k) none (some ((pc + 2, aPut ls k (.inr q), r, σ), []))
      | .inl .null :: r => cond (Nat.ble N k) none (some ((pc + 2, aPut ls k aN, r, σ), []))
      | _ => none
    | .iinc k v => match ls[k]? with
      | some (some (.inl (.int x))) => some ((pc + 3, aPut ls k (aI (x + Int32.ofInt v)), st, σ), [])
      | _ => none
    | .goto off => cond (Nat.beq (aJmp pc off) 0) none (some ((aJmp pc off, ls, st, σ), []))
    | .dup => match st with
      | .inl (.int x) :: r => some ((pc + 1, ls, aI x :: aI x :: r, σ), [])
      | .inr q :: r => some ((pc + 1, ls, .inr q :: .inr q :: r, σ), [])
      | _ => none
    | .dup_x1 => match st with
      | .inl (.int x) :: .inl (.int y) :: r => some ((pc + 1, ls, aI x :: aI y :: aI x :: r, σ), [])
      | .inl (.int x) :: .inr q :: r => some ((pc + 1, ls, aI x :: .inr q :: aI x :: r, σ), [])
      | _ => none
    | .iadd => match st with
      | .inl (.int y) :: .inl (.int x) :: r => some ((pc + 1, ls, aI (x + y) :: r, σ), [])
      | _ => none
    | .isub => match st with
      | .inl (.int y) :: .inl (.int x) :: r => some ((pc + 1, ls, aI (x - y) :: r, σ), [])
      | _ => none
    | .imul => match st with
      | .inl (.int y) :: .inl (.int x) :: r => some ((pc + 1, ls, aI (x * y) :: r, σ), [])
      | _ => none
    | .iand => match st with
      | .inl (.int y) :: .inl (.int x) :: r => some ((pc + 1, ls, aI (x &&& y) :: r, σ), [])
      | _ => none
    | .ixor => match st with
      | .inl (.int y) :: .inl (.int x) :: r => some ((pc + 1, ls, aI (x ^^^ y) :: r, σ), [])
      | _ => none
    | .idiv => match st with
      | .inl (.int y) :: .inl (.int x) :: r => some ((pc + 1, ls, aI (x / y) :: r, σ), [¬ y = 0])
      | _ => none
    | .irem => match st with
      | .inl (.int y) :: .inl (.int x) :: r => some ((pc + 1, ls, aI (x - x / y * y) :: r, σ), [¬ y = 0])
      | _ => none
    | .ineg => match st with
      | .inl (.int x) :: r => some ((pc + 1, ls, aI (-x) :: r, σ), [])
      | _ => none
    | .iushr => match st with
      | .inl (.int y) :: .inl (.int x) :: r => some ((pc + 1, ls, aI (x.toUInt32 >>> (y.toUInt32 &&& Int32.toUInt32 31)).toInt32 :: r, σ), [])
      | _ => none
    | .ladd => match st with
      | .inl (.long y) :: .inl (.long x) :: r => some ((pc + 1, ls, aJ (x + y) :: r, σ), [])
      | _ => none
    | .lsub => match st with
      | .inl (.long y) :: .inl (.long x) :: r => some ((pc + 1, ls, aJ (x - y) :: r, σ), [])
      | _ => none
    | .lmul => match st with
      | .inl (.long y) :: .inl (.long x) :: r => some ((pc + 1, ls, aJ (x * y) :: r, σ), [])
      | _ => none
    | .land => match st with
      | .inl (.long y) :: .inl (.long x) :: r => some ((pc + 1, ls, aJ (x &&& y) :: r, σ), [])
      | _ => none
    | .lor => match st with
      | .inl (.long y) :: .inl (.long x) :: r => some ((pc + 1, ls, aJ (x ||| y) :: r, σ), [])
      | _ => none
    | .ldiv => match st with
      | .inl (.long y) :: .inl (.long x) :: r => some ((pc + 1, ls, aJ (x / y) :: r, σ), [¬ y = 0])
      | _ => none
    | .lrem => match st with
      | .inl (.long y) :: .inl (.long x) :: r => some ((pc + 1, ls, aJ (x - x / y * y) :: r, σ), [¬ y = 0])
      | _ => none
    | .lshl => match st with
      | .inl (.int y) :: .inl (.long x) :: r => some ((pc + 1, ls, aJ (x <<< (y.toInt64 &&& 63)) :: r, σ), [])
      | _ => none
    | .lcmp => match st with
      | .inl (.long y) :: .inl (.long x) :: r => some ((pc + 1, ls, aI (lg_cmp x y) :: r, σ), [])
      | _ => none
    | .i2l => match st with
      | .inl (.int x) :: r => some ((pc + 1, ls, aJ x.toInt64 :: r, σ), [])
      | _ => none
    | .l2i => match st with
      | .inl (.long x) :: r => some ((pc + 1, ls, aI x.toInt32 :: r, σ), [])
      | _ => none
    | .i2b => match st with
      | .inl (.int x) :: r => some ((pc + 1, ls, aI x.toInt8.toInt32 :: r, σ), [])
      | _ => none
    | .i2s => match st with
      | .inl (.int x) :: r => some ((pc + 1, ls, aI x.toInt16.toInt32 :: r, σ), [])
      | _ => none
    | .getfield x => match st with
      | .inr (t, j) :: r => match aFd K.1 x, Λ[t]? with
        | some (ci, k, _, _), some (cn, .inl (c, fl)) => match fl[k]?, aJok cn j with
          | some none, some P => cond (Nat.beq ci c) (some ((pc + 3, ls, aI (σ.1 t j k) :: r, σ), P)) none
          | some (some (t2, b)), some P => cond (Nat.beq ci c) (some ((pc + 3, ls, aR t2 (cond b j 0) :: r, σ), P)) none
          | _, _ => none
        | _, _ => none
      | _ => none
    | .putfield x => match st with
      | .inl (.int v) :: .inr (t, j) :: r => match aFd K.1 x, Λ[t]? with
        | some (ci, k, true, _), some (cn, .inl (c, fl)) => match fl[k]?, aJok cn j with
          | some none, some P => cond (Nat.beq ci c) (some ((pc + 3, ls, r, sI σ t j k v), P)) none
          | _, _ => none
        | _, _ => none
      | _ => none
    | .getstatic x => match aFd K.2.1 x with
      | some (k, _) => some ((pc + 3, ls, aR (100 + k) 0 :: st, σ), [])
      | none => none
    | .invokestatic x => match st with
      | .inl (.int y) :: .inl (.int z) :: r => match aFd K.2.2.2.2 x with
        | some (true, _) => some ((pc + 3, ls, aI (if z < y then y else z) :: r, σ), [(r.map (fun v => (rv (fun _ _ => 0) v).category)).sum ≤ 8])
        | some (false, _) => some ((pc + 3, ls, aI (if y < z then y else z) :: r, σ), [(r.map (fun v => (rv (fun _ _ => 0) v).category)).sum ≤ 8])
        | none => none
      | _ => none
    | .arraylength => match st with
      | .inr (t, j) :: r => cond (Nat.ble 100 t) (cond (Nat.ble 104 t) none (some ((pc + 1, ls, aI (Int32.ofNat (aStL (t - 100))) :: r, σ), [j = 0]))) (match Λ[t]? with
        | some (cn, .inr (_, z)) => match aJok cn j with
          | some P => some ((pc + 1, ls, aI (Int32.ofNat z) :: r, σ), P)
          | none => none
        | _ => none)
      | _ => none
    | .iaload => match st with
      | .inl (.int x) :: .inr (t, j) :: r => cond (Nat.ble 100 t) (cond (Nat.ble 104 t) none (some ((pc + 1, ls, aI (aStF (t - 100) x.toNatClampNeg) :: r, σ), [j = 0, vp_in x (aStL (t - 100))]))) (match Λ[t]? with
        | some (cn, .inr (0, z)) => match aJok cn j with
          | some P => some ((pc + 1, ls, aI (σ.2.1 t j x.toNatClampNeg) :: r, σ), P ++ [vp_in x z])
          | none => none
        | _ => none)
      | _ => none
    | .laload => match st with
      | .inl (.int x) :: .inr (t, j) :: r => match Λ[t]? with
        | some (cn, .inr (1, z)) => match aJok cn j with
          | some P => some ((pc + 1, ls, aJ (σ.2.2 t j x.toNatClampNeg) :: r, σ), P ++ [vp_in x z])
          | none => none
        | _ => none
      | _ => none
    | .aaload => match st with
      | .inl (.int x) :: .inr (t, j) :: r => match Λ[t]? with
        | some (cn, .inr (k + 2, z)) => match aJok cn j with
          | some P => some ((pc + 1, ls, aR k x.toNatClampNeg :: r, σ), P ++ [vp_in x z])
          | none => none
        | _ => none
      | _ => none
    | .iastore => match st with
      | .inl (.int v) :: .inl (.int x) :: .inr (t, j) :: r => match Λ[t]? with
        | some (cn, .inr (0, z)) => match aJok cn j with
          | some P => some ((pc + 1, ls, r, sA σ t j x.toNatClampNeg v), P ++ [vp_in x z])
          | none => none
        | _ => none
      | _ => none
    | .lastore => match st with
      | .inl (.long v) :: .inl (.int x) :: .inr (t, j) :: r => match Λ[t]? with
        | some (cn, .inr (1, z)) => match aJok cn j with
          | some P => some ((pc + 1, ls, r, sL σ t j x.toNatClampNeg v), P ++ [vp_in x z])
          | none => none
        | _ => none
      | _ => none
    | _ => none
