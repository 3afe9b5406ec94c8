/-! THE LAYER: a small machine over a fixed lay-out of objects and arrays, sound for W. A cell is a pair (t, j): the j-th of its kind t. Numbers of all cells: SS. -/
abbrev AV : Type := Value ⊕ (Nat × Nat)
abbrev SS : Type := (Nat → Nat → Nat → Int32) × (Nat → Nat → Nat → Int32) × (Nat → Nat → Nat → Int64)
abbrev aI (x : Int32) : AV := .inl (.int x)
abbrev aJ (x : Int64) : AV := .inl (.long x)
abbrev aR (t j : Nat) : AV := .inr (t, j)
abbrev aN : AV := .inl .null
/-- what a kind of cell is: an object of a class, its fields (none: a number; some (t, b): the cell t, of the same place or the first), or an array: 0 of ints, 1 of longs, k + 2 of references to the cells of kind k; and how many of the kind there are -/
abbrev aSp : Type := (Nat × List (Option (Nat × Bool))) ⊕ (Nat × Nat)
abbrev aLy : Type := List (Nat × aSp)
abbrev aMp : Type := Nat → Nat → Nat
abbrev aCs : Type := ClassId × ClassId × ClassId
def rv (ad : aMp) : AV → Value
  | .inl v => v
  | .inr q => .ref (ad q.1 q.2)
def aFv (ad : aMp) (σ : SS) (t j k : Nat) : Option (Nat × Bool) → Value
  | none => .int (σ.1 t j k)
  | some (t2, b) => .ref (ad t2 (if b = true then j else 0))
def aFs (ad : aMp) (σ : SS) (t j : Nat) : Nat → List (Option (Nat × Bool)) → List Value
  | _, [] => []
  | k, f :: r => aFv ad σ t j k f :: aFs ad σ t j (k + 1) r
def aCell (cs : aCs) (ad : aMp) (σ : SS) (t j : Nat) : aSp → va_E
  | .inl (c, fl) => .inr (c, aFs ad σ t j 0 fl)
  | .inr (0, n) => .inl (cs.1, n, .inl (σ.2.1 t j))
  | .inr (1, n) => .inl (cs.2.1, n, .inr (.inl (σ.2.2 t j)))
  | .inr (k + 2, n) => .inl (cs.2.2, n, .inr (.inr (.inr (.inr (fun i => some (ad k i))))))
def aRow (t : Nat) : Nat → List (Nat × Nat)
  | 0 => []
  | n + 1 => aRow t n ++ [(t, n)]
def aIds : Nat → aLy → List (Nat × Nat)
  | _, [] => []
  | t, q :: r => aRow t q.1 ++ aIds (t + 1) r
def aSpOf (Λ : aLy) (t : Nat) : aSp := match Λ[t]? with
  | some q => q.2
  | none => .inr (0, 0)
def aWc (Λ : aLy) (cs : aCs) (ad : aMp) (σ : SS) (q : Nat × Nat) : va_E := aCell cs ad σ q.1 q.2 (aSpOf Λ q.1)
def aWl (Λ : aLy) (cs : aCs) (ad : aMp) (σ : SS) : va_W := (aIds 0 Λ).map (fun q => (ad q.1 q.2, aWc Λ cs ad σ q))
def sI (σ : SS) (t j k : Nat) (v : Int32) : SS := (fun a b c => if a = t ∧ b = j ∧ c = k then v else σ.1 a b c, σ.2.1, σ.2.2)
def sA (σ : SS) (t j i : Nat) (v : Int32) : SS := (σ.1, fun a b c => if a = t ∧ b = j ∧ c = i then v else σ.2.1 a b c, σ.2.2)
def sL (σ : SS) (t j i : Nat) (v : Int64) : SS := (σ.1, σ.2.1, fun a b c => if a = t ∧ b = j ∧ c = i then v else σ.2.2 a b c)
def sAf (σ : SS) (t j : Nat) (f : Nat → Int32) : SS := (σ.1, fun a b c => if a = t ∧ b = j then f c else σ.2.1 a b c, σ.2.2)
def sLf (σ : SS) (t j : Nat) (f : Nat → Int64) : SS := (σ.1, σ.2.1, fun a b c => if a = t ∧ b = j then f c else σ.2.2 a b c)
theorem aFs_len (ad : aMp) (σ : SS) (t j : Nat) : ∀ (fl : List (Option (Nat × Bool))) (i : Nat), (aFs ad σ t j i fl).length = fl.length
  | [], _ => rfl
  | _ :: r, i => by simp [aFs, aFs_len ad σ t j r (i + 1)]
theorem aFs_get (ad : aMp) (σ : SS) (t j : Nat) : ∀ (fl : List (Option (Nat × Bool))) (i k : Nat) {f : Option (Nat × Bool)}, fl[k]? = some f → (aFs ad σ t j i fl)[k]? = some (aFv ad σ t j (i + k) f)
  | [], _, _, _, h => by simp at h
  | g :: r, i, 0, f, h => by
    simp at h
    simp [aFs, h]
  | g :: r, i, k + 1, f, h => by
    have h1 : r[k]? = some f := by simpa using h
    have h2 := aFs_get ad σ t j r (i + 1) k h1
    rw [show i + 1 + k = i + (k + 1) by omega] at h2
    simpa [aFs] using h2
theorem aFs_eq {ad : aMp} {σ σ' : SS} {t j : Nat} (h : ∀ k, σ'.1 t j k = σ.1 t j k) : ∀ (fl : List (Option (Nat × Bool))) (i : Nat), aFs ad σ' t j i fl = aFs ad σ t j i fl
  | [], _ => rfl
  | g :: r, i => by
    have e : aFv ad σ' t j i g = aFv ad σ t j i g := by
      cases g with
      | none => simp [aFv, h]
      | some q => rfl
    simp [aFs, e, aFs_eq h r (i + 1)]
theorem aFs_set {ad : aMp} {σ : SS} {t j : Nat} {v : Int32} : ∀ (fl : List (Option (Nat × Bool))) (i k : Nat), fl[k]? = some none → (aFs ad σ t j i fl).set k (.int v) = aFs ad (sI σ t j (i + k) v) t j i fl
  | [], _, _, h => by simp at h
  | g :: r, i, 0, h => by
    simp at h
    subst h
    have e : ∀ (l : List (Option (Nat × Bool))) (n : Nat), i < n → aFs ad (sI σ t j i v) t j n l = aFs ad σ t j n l := by
      intro l
      induction l with
      | nil => intros; rfl
      | cons g l ih =>
        intro n hn
        have e : aFv ad (sI σ t j i v) t j n g = aFv ad σ t j n g := by
          cases g with
          | none =>
            have hne : ¬ n = i := by omega
            simp [aFv, sI, hne]
          | some q => rfl
        simp [aFs, e, ih (n + 1) (by omega)]
    simp [aFs, aFv, e r (i + 1) (by omega)]
    simp [sI]
  | g :: r, i, k + 1, h => by
    have h1 : r[k]? = some none := by simpa using h
    have h2 := aFs_set (ad := ad) (σ := σ) (t := t) (j := j) (v := v) r (i + 1) k h1
    rw [show i + 1 + k = i + (k + 1) by omega] at h2
    have e : aFv ad (sI σ t j (i + (k + 1)) v) t j i g = aFv ad σ t j i g := by
      cases g with
      | none =>
        have hne : ¬ i = i + (k + 1) := by omega
        simp [aFv, sI]
      | some q => rfl
    simp [aFs, e, h2]
theorem aRow_mem {t n : Nat} {q : Nat × Nat} : q ∈ aRow t n ↔ q.1 = t ∧ q.2 < n := by
  induction n with
  | zero => simp [aRow]
  | succ n ih =>
    simp only [aRow, List.mem_append, ih, List.mem_singleton]
    obtain ⟨a, b⟩ := q
    simp only [Prod.mk.injEq]
    omega
theorem aIds_mem : ∀ (Λ : aLy) (i : Nat) {q : Nat × Nat}, q ∈ aIds i Λ ↔ ∃ r, Λ[q.1 - i]? = some r ∧ i ≤ q.1 ∧ q.2 < r.1
  | [], i, q => by simp [aIds]
  | p :: r, i, q => by
    simp only [aIds, List.mem_append, aRow_mem, aIds_mem r (i + 1)]
    constructor
    · rintro (⟨h1, h2⟩ | ⟨s, h1, h2, h3⟩)
      · exact ⟨p, by rw [h1, Nat.sub_self]; rfl, by omega, h2⟩
      · refine ⟨s, ?_, by omega, h3⟩
        rw [show q.1 - i = (q.1 - (i + 1)) + 1 by omega]
        simpa using h1
    · rintro ⟨s, h1, h2, h3⟩
      by_cases he : q.1 = i
      · left
        rw [he, Nat.sub_self] at h1
        cases h1
        exact ⟨he, h3⟩
      · right
        refine ⟨s, ?_, by omega, h3⟩
        rw [show q.1 - i = (q.1 - (i + 1)) + 1 by omega] at h1
        simpa using h1
theorem aRow_nd (t n : Nat) : (aRow t n).Nodup := by
  induction n with
  | zero => simp [aRow]
  | succ n ih =>
    refine List.nodup_append.mpr ⟨ih, by simp, ?_⟩
    intro a ha b hb
    rw [List.mem_singleton.mp hb]
    intro e
    subst e
    have := (aRow_mem.mp ha).2
    simp at this
theorem aIds_nd : ∀ (Λ : aLy) (i : Nat), (aIds i Λ).Nodup
  | [], _ => by simp [aIds]
  | p :: r, i => by
    refine List.nodup_append.mpr ⟨aRow_nd i p.1, aIds_nd r (i + 1), ?_⟩
    intro a ha b hb e
    subst e
    have h1 := (aRow_mem.mp ha).1
    obtain ⟨s, -, h2, -⟩ := (aIds_mem r (i + 1)).mp hb
    omega
theorem aIds_at {Λ : aLy} {t j n : Nat} {sp : aSp} (h : Λ[t]? = some (n, sp)) (hj : j < n) : ∃ p : Nat, (aIds 0 Λ)[p]? = some (t, j) := by
  have : (t, j) ∈ aIds 0 Λ := (aIds_mem Λ 0).mpr ⟨(n, sp), by simpa using h, by omega, hj⟩
  exact List.getElem?_of_mem this
theorem aWl_at {Λ : aLy} {cs : aCs} {ad : aMp} {σ : SS} {t j n : Nat} {sp : aSp} (h : Λ[t]? = some (n, sp)) (hj : j < n) : ∃ p : Nat, (aIds 0 Λ)[p]? = some (t, j) ∧ (aWl Λ cs ad σ)[p]? = some (ad t j, aCell cs ad σ t j sp) := by
  obtain ⟨p, hp⟩ := aIds_at h hj
  refine ⟨p, hp, ?_⟩
  unfold aWl
  rw [List.getElem?_map, hp]
  simp [aWc, aSpOf, h]
/-- one cell changed: the list of the new numbers -/
theorem aWl_set {Λ : aLy} {cs : aCs} {ad : aMp} {σ σ' : SS} {t j p : Nat} (hp : (aIds 0 Λ)[p]? = some (t, j)) (ho : ∀ q : Nat × Nat, q ≠ (t, j) → aWc Λ cs ad σ' q = aWc Λ cs ad σ q) : (aWl Λ cs ad σ).set p (ad t j, aWc Λ cs ad σ' (t, j)) = aWl Λ cs ad σ' := by
  have key : ∀ (l : List (Nat × Nat)) (p : Nat), l[p]? = some (t, j) → l.Nodup → (l.map (fun q => (ad q.1 q.2, aWc Λ cs ad σ q))).set p (ad t j, aWc Λ cs ad σ' (t, j)) = l.map (fun q => (ad q.1 q.2, aWc Λ cs ad σ' q)) := by
    intro l
    induction l with
    | nil => intro p hp; simp at hp
    | cons a l ih =>
      intro p hp hnd
      obtain ⟨h1, h2⟩ := List.nodup_cons.mp hnd
      cases p with
      | zero =>
        simp at hp
        subst hp
        simp only [List.map_cons, List.set_cons_zero]
        congr 1
        refine List.map_congr_left fun q hq => ?_
        rw [ho q (fun e => h1 (by rw [← e]; exact hq))]
      | succ p =>
        have hp' : l[p]? = some (t, j) := by simpa using hp
        have hne : a ≠ (t, j) := fun e => h1 (by rw [e]; exact List.mem_of_getElem? hp')
        simp only [List.map_cons, List.set_cons_succ]
        rw [ih p hp' h2, ho a hne]
  exact key _ _ hp (aIds_nd Λ 0)
theorem aWc_sI {Λ : aLy} {cs : aCs} {ad : aMp} {σ : SS} {t j k : Nat} {v : Int32} (q : Nat × Nat) (hq : q ≠ (t, j)) : aWc Λ cs ad (sI σ t j k v) q = aWc Λ cs ad σ q := by
  obtain ⟨a, b⟩ := q
  have hne : ¬ (a = t ∧ b = j) := fun ⟨h1, h2⟩ => hq (by rw [h1, h2])
  have e : ∀ k', (sI σ t j k v).1 a b k' = σ.1 a b k' := fun k' => if_neg (fun ⟨h1, h2, _⟩ => hne ⟨h1, h2⟩)
  unfold aWc
  match aSpOf Λ a with
  | .inl (c, fl) => simp [aCell, aFs_eq e]
  | .inr (0, n) => rfl
  | .inr (1, n) => rfl
  | .inr (k + 2, n) => rfl
theorem aWc_A {Λ : aLy} {cs : aCs} {ad : aMp} {σ σ' : SS} {t j : Nat} (h1 : σ'.1 = σ.1) (h3 : σ'.2.2 = σ.2.2) (h2 : ∀ a b, ¬ (a = t ∧ b = j) → σ'.2.1 a b = σ.2.1 a b) (q : Nat × Nat) (hq : q ≠ (t, j)) : aWc Λ cs ad σ' q = aWc Λ cs ad σ q := by
  obtain ⟨a, b⟩ := q
  have hne : ¬ (a = t ∧ b = j) := fun ⟨h1, h2⟩ => hq (by rw [h1, h2])
  unfold aWc
  match aSpOf Λ a with
  | .inl (c, fl) =>
    have e : ∀ k', σ'.1 a b k' = σ.1 a b k' := fun k' => by rw [h1]
    simp [aCell, aFs_eq e]
  | .inr (0, n) => simp [aCell, h2 a b hne]
  | .inr (1, n) => simp [aCell, h3]
  | .inr (k + 2, n) => rfl
theorem aWc_L {Λ : aLy} {cs : aCs} {ad : aMp} {σ σ' : SS} {t j : Nat} (h1 : σ'.1 = σ.1) (h3 : σ'.2.1 = σ.2.1) (h2 : ∀ a b, ¬ (a = t ∧ b = j) → σ'.2.2 a b = σ.2.2 a b) (q : Nat × Nat) (hq : q ≠ (t, j)) : aWc Λ cs ad σ' q = aWc Λ cs ad σ q := by
  obtain ⟨a, b⟩ := q
  have hne : ¬ (a = t ∧ b = j) := fun ⟨h1, h2⟩ => hq (by rw [h1, h2])
  unfold aWc
  match aSpOf Λ a with
  | .inl (c, fl) =>
    have e : ∀ k', σ'.1 a b k' = σ.1 a b k' := fun k' => by rw [h1]
    simp [aCell, aFs_eq e]
  | .inr (0, n) => simp [aCell, h3]
  | .inr (1, n) => simp [aCell, h2 a b hne]
  | .inr (k + 2, n) => rfl
/-! locals by their places: none: nothing is known -/
def aHas (ad : aMp) (L : Array Slot) (nL : Nat) (ls : List (Option AV)) : Prop := L.size = nL ∧ lv_wf L ∧ ∀ (j : Nat) (v : AV), ls[j]? = some (some v) → L[j]? = some (.val (rv ad v))
def aEnt (ad : aMp) : Nat → List (Option AV) → List (Nat × Value)
  | _, [] => []
  | i, none :: r => aEnt ad (i + 1) r
  | i, some v :: r => (i, rv ad v) :: aEnt ad (i + 1) r
theorem aEnt_mem {ad : aMp} : ∀ (ls : List (Option AV)) (i : Nat) {q : Nat × Value}, q ∈ aEnt ad i ls ↔ ∃ v, i ≤ q.1 ∧ ls[q.1 - i]? = some (some v) ∧ q.2 = rv ad v
  | [], i, q => by simp [aEnt]
  | none :: r, i, q => by
    rw [aEnt, aEnt_mem r (i + 1)]
    constructor
    · rintro ⟨v, h1, h2, h3⟩
      refine ⟨v, by omega, ?_, h3⟩
      rw [show q.1 - i = (q.1 - (i + 1)) + 1 by omega]
      simpa using h2
    · rintro ⟨v, h1, h2, h3⟩
      by_cases he : q.1 = i
      · rw [he, Nat.sub_self] at h2
        simp at h2
      · refine ⟨v, by omega, ?_, h3⟩
        rw [show q.1 - i = (q.1 - (i + 1)) + 1 by omega] at h2
        simpa using h2
  | some w :: r, i, q => by
    rw [aEnt, List.mem_cons, aEnt_mem r (i + 1)]
    constructor
    · rintro (h | ⟨v, h1, h2, h3⟩)
      · subst h
        exact ⟨w, Nat.le_refl _, by simp, rfl⟩
      · refine ⟨v, by omega, ?_, h3⟩
        rw [show q.1 - i = (q.1 - (i + 1)) + 1 by omega]
        simpa using h2
    · rintro ⟨v, h1, h2, h3⟩
      by_cases he : q.1 = i
      · left
        rw [he, Nat.sub_self] at h2
        simp at h2
        obtain ⟨a, b⟩ := q
        simp at he h3
        rw [he, h3, h2]
      · right
        refine ⟨v, by omega, ?_, h3⟩
        rw [show q.1 - i = (q.1 - (i + 1)) + 1 by omega] at h2
        simpa using h2
theorem aHas.lv {ad : aMp} {L : Array Slot} {nL : Nat} {ls : List (Option AV)} (h : aHas ad L nL ls) : lv_has L nL (aEnt ad 0 ls) := ⟨h.1, h.2.1, fun q hq => by
  obtain ⟨v, -, h1, h2⟩ := (aEnt_mem ls 0).mp hq
  rw [h2]
  exact h.2.2 _ _ (by simpa using h1)⟩
def aLong : AV → Bool
  | .inl (.long _) => true
  | .inl (.double _) => true
  | _ => false
theorem aLong_cat (ad : aMp) (v : AV) : ((rv ad v).category == 2) = aLong v := by
  match v with
  | .inl w => cases w <;> rfl
  | .inr q => rfl
/-- a store: what stood there goes, and a long whose second half stood there -/
def aPut (ls : List (Option AV)) : Nat → AV → List (Option AV)
  | 0, v => ls.set 0 (some v)
  | k + 1, v => match ls[k]? with
    | some (some w) => cond (aLong w) ((ls.set k none).set (k + 1) (some v)) (ls.set (k + 1) (some v))
    | _ => ls.set (k + 1) (some v)
def aPut2 (ls : List (Option AV)) (i : Nat) (v : AV) : List (Option AV) := (aPut ls i v).set (i + 1) none
theorem set_get {α : Type} {l : List α} {i j : Nat} {v w : α} (h : (l.set i v)[j]? = some w) : (j = i ∧ w = v) ∨ (j ≠ i ∧ l[j]? = some w) := by
  rw [List.getElem?_set] at h
  by_cases hj : i = j
  · rw [if_pos hj] at h
    by_cases hl : i < l.length
    · rw [if_pos hl] at h
      exact Or.inl ⟨hj.symm, (Option.some.inj h).symm⟩
    · rw [if_neg hl] at h
      cases h
  · rw [if_neg hj] at h
    exact Or.inr ⟨fun e => hj e.symm, h⟩
theorem aPut_get {ls : List (Option AV)} {i : Nat} {v : AV} {j : Nat} {w : AV} (h : (aPut ls i v)[j]? = some (some w)) : (j = i ∧ w = v) ∨ (j ≠ i ∧ ls[j]? = some (some w) ∧ ¬ (j + 1 = i ∧ aLong w = true)) := by
  cases i with
  | zero =>
    rcases set_get h with ⟨h1, h2⟩ | ⟨h1, h2⟩
    · exact Or.inl ⟨h1, Option.some.inj h2⟩
    · exact Or.inr ⟨h1, h2, by omega⟩
  | succ k =>
    simp only [aPut] at h
    split at h
    · rename_i u hu
      cases hl : aLong u with
      | true =>
        rw [hl] at h
        rcases set_get h with ⟨h1, h2⟩ | ⟨h1, h2⟩
        · exact Or.inl ⟨h1, Option.some.inj h2⟩
        · rcases set_get h2 with ⟨h3, h4⟩ | ⟨h3, h4⟩
          · cases h4
          · exact Or.inr ⟨h1, h4, by omega⟩
      | false =>
        rw [hl] at h
        rcases set_get h with ⟨h1, h2⟩ | ⟨h1, h2⟩
        · exact Or.inl ⟨h1, Option.some.inj h2⟩
        · refine Or.inr ⟨h1, h2, fun ⟨e1, e2⟩ => ?_⟩
          rw [show j = k by omega, hu] at h2
          cases h2
          rw [hl] at e2
          cases e2
    · rename_i hu
      rcases set_get h with ⟨h1, h2⟩ | ⟨h1, h2⟩
      · exact Or.inl ⟨h1, Option.some.inj h2⟩
      · refine Or.inr ⟨h1, h2, fun ⟨e1, e2⟩ => ?_⟩
        rw [show j = k by omega] at h2
        exact hu _ h2
theorem aPut2_get {ls : List (Option AV)} {i : Nat} {v : AV} {j : Nat} {w : AV} (h : (aPut2 ls i v)[j]? = some (some w)) : (j = i ∧ w = v) ∨ (j ≠ i ∧ j ≠ i + 1 ∧ ls[j]? = some (some w) ∧ ¬ (j + 1 = i ∧ aLong w = true)) := by
  rcases set_get h with ⟨h1, h2⟩ | ⟨h1, h2⟩
  · cases h2
  · rcases aPut_get h2 with h3 | ⟨h3, h4, h5⟩
    · exact Or.inl h3
    · exact Or.inr ⟨h3, h1, h4, h5⟩
theorem aHas_put {ad : aMp} {L' : Array Slot} {nL i : Nat} {v : AV} {ls : List (Option AV)} (h : lv_has L' nL ((i, rv ad v) :: (aEnt ad 0 ls).filter (fun q => !(q.1 == i) && !(q.1 + 1 == i && q.2.category == 2)))) : aHas ad L' nL (aPut ls i v) := by
  refine ⟨h.1, h.2.1, fun j w hw => ?_⟩
  rcases aPut_get hw with ⟨h1, h2⟩ | ⟨h1, h2, h3⟩
  · subst h1; subst h2
    exact h.2.2 (j, rv ad w) List.mem_cons_self
  · refine h.2.2 (j, rv ad w) (List.mem_cons_of_mem _ (List.mem_filter.mpr ⟨(aEnt_mem ls 0).mpr ⟨w, Nat.zero_le _, by simpa using h2, rfl⟩, ?_⟩))
    rw [aLong_cat]
    have e1 : (j == i) = false := by simpa using h1
    have e2 : (j + 1 == i && aLong w) = false := by
      cases hb : aLong w with
      | false => simp
      | true =>
        have : ¬ j + 1 = i := fun e => h3 ⟨e, hb⟩
        simpa using this
    rw [e1, e2]
    rfl
theorem aHas_put2 {ad : aMp} {L' : Array Slot} {nL i : Nat} {v : AV} {ls : List (Option AV)} (h : lv_has L' nL ((i, rv ad v) :: (aEnt ad 0 ls).filter (fun q => !(q.1 == i) && (!(q.1 == i + 1) && !(q.1 + 1 == i && q.2.category == 2))))) : aHas ad L' nL (aPut2 ls i v) := by
  refine ⟨h.1, h.2.1, fun j w hw => ?_⟩
  rcases aPut2_get hw with ⟨h1, h2⟩ | ⟨h1, h0, h2, h3⟩
  · subst h1; subst h2
    exact h.2.2 (j, rv ad w) List.mem_cons_self
  · refine h.2.2 (j, rv ad w) (List.mem_cons_of_mem _ (List.mem_filter.mpr ⟨(aEnt_mem ls 0).mpr ⟨w, Nat.zero_le _, by simpa using h2, rfl⟩, ?_⟩))
    rw [aLong_cat]
    have e1 : (j == i) = false := by simpa using h1
    have e0 : (j == i + 1) = false := by simpa using h0
    have e2 : (j + 1 == i && aLong w) = false := by
      cases hb : aLong w with
      | false => simp
      | true =>
        have : ¬ j + 1 = i := fun e => h3 ⟨e, hb⟩
        simpa using this
    rw [e1, e0, e2]
    rfl
/-- less is known: by a mask -/
def aMsk : List Bool → List (Option AV) → List (Option AV)
  | true :: m, a :: r => a :: aMsk m r
  | false :: m, _ :: r => none :: aMsk m r
  | _, _ => []
theorem aMsk_get : ∀ (m : List Bool) (ls : List (Option AV)) (j : Nat) {w : AV}, (aMsk m ls)[j]? = some (some w) → ls[j]? = some (some w)
  | [], ls, j, w, h => by simp [aMsk] at h
  | true :: m, [], j, w, h => by simp [aMsk] at h
  | false :: m, [], j, w, h => by simp [aMsk] at h
  | true :: m, a :: r, 0, w, h => by simpa [aMsk] using h
  | true :: m, a :: r, j + 1, w, h => by
    have := aMsk_get m r j (w := w) (by simpa [aMsk] using h)
    simpa using this
  | false :: m, a :: r, 0, w, h => by simp [aMsk] at h
  | false :: m, a :: r, j + 1, w, h => by
    have := aMsk_get m r j (w := w) (by simpa [aMsk] using h)
    simpa using this
theorem aHas_sub {ad : aMp} {L : Array Slot} {nL : Nat} {ls ls' : List (Option AV)} (h : aHas ad L nL ls) (hs : ∀ (j : Nat) (w : AV), ls'[j]? = some (some w) → ls[j]? = some (some w)) : aHas ad L nL ls' := ⟨h.1, h.2.1, fun j v hv => h.2.2 j v (hs j v hv)⟩
/-! the static arrays: cells (100 + k, 0) -/
def aStC : Nat → String
  | 0 => "PaneAcross"
  | 1 => "PaneAcross"
  | _ => "PaneAcross$Paces"
def aStN : Nat → String
  | 0 => "LOWEST"
  | 1 => "HIGHEST"
  | 2 => "ABOVE"
  | _ => "OWN"
def aStV : Nat → List Int32
  | 0 => [0, 0, 1, 0, 0, 0, 0, 1, 0, 0, 0]
  | 1 => [30, 30, 60, 60, 9, 12, 3, 6, 999, 99, 999]
  | 2 => [-1, 0, 0, 2, 1, 3, 0, 4]
  | _ => [1, 10, 11, 2, 20, 0, 0, 0, 0, 30, 0, 0, 0, 41, 40, 0, 0, 0, 50, 0, 0, 0, 0, 60, 70, 0, 0, 0, 0, 80, 0, 81]
def aStF (k : Nat) (i : Nat) : Int32 := (aStV k).getD i 0
def aStL : Nat → Nat
  | 0 => 11
  | 1 => 11
  | 2 => 8
  | _ => 32
/-- the two private static methods that nest mates call -/
def aNw (U : State) : Prop := va_Nw (.methodLinkNest RX8 23 yX10_isWithin "PaneAcross") U ∧ va_Nw (.methodLinkNest RX6 39 yX10_isHold "PaneAcross") U
def aSt (ad : aMp) (A : Nat → Prop) (U : State) (H : Heap) : Prop := (∀ k, k < 4 → va_Z (aStC k) (aStN k) "[I" (.ref (ad (100 + k) 0)) A U H ∧ va_T .int (ad (100 + k) 0) (aStL k) (fun i => .int (aStF k i)) A U H) ∧ aNw U
