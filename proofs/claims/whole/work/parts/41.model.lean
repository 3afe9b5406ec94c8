def L_X11_either_5 (rec : Nat → SS → Option (Int32 × SS)) : Nat → Int32 → SS → Option (Int32 × SS)
  | 0, _, _ => none
  | n + 1, v1, σ =>
    Option.bind (m_X11_takes (124 : Int32) σ) (fun q2 =>
    if q2.1 = (0 : Int32) then
      some (v1, q2.2)
    else
    Option.bind (rec 1 q2.2) (fun q4 =>
    if v1 = (0 : Int32) then
      if q4.1 = (0 : Int32) then
        L_X11_either_5 rec n (0 : Int32) q4.2
      else
      L_X11_either_5 rec n (1 : Int32) q4.2
    else
    L_X11_either_5 rec n (1 : Int32) q4.2))
def m_X11_either (rec : Nat → SS → Option (Int32 × SS)) (σ : SS) : Option (Int32 × SS) :=
  Option.bind (rec 1 σ) (fun q1 =>
  L_X11_either_5 rec FU q1.1 q1.2)
set_option maxRecDepth 100000 in
set_option maxHeartbeats 4000000 in
theorem lp_X11_either_5 (rec : Nat → SS → Option (Int32 × SS)) (dr : Nat) (hdr : 2 ≤ dr) (hrec_0 : ∀ (σ : SS) {r : Int32} {σ' : SS}, rec 0 σ = some (r, σ') → XM LM dr M_X11_either [aR 0 0] σ (some (aI r)) σ') (hrec_1 : ∀ (σ : SS) {r : Int32} {σ' : SS}, rec 1 σ = some (r, σ') → XM LM dr M_X11_both [aR 0 0] σ (some (aI r)) σ') (hrec_2 : ∀ (σ : SS) {r : Int32} {σ' : SS}, rec 2 σ = some (r, σ') → XM LM dr M_X11_compared [aR 0 0] σ (some (aI r)) σ') (hrec_3 : ∀ (σ : SS) {r : Int32} {σ' : SS}, rec 3 σ = some (r, σ') → XM LM dr M_X11_sums [aR 0 0] σ (some (aI r)) σ') (hrec_4 : ∀ (σ : SS) {r : Int32} {σ' : SS}, rec 4 σ = some (r, σ') → XM LM dr M_X11_product [aR 0 0] σ (some (aI r)) σ') (hrec_5 : ∀ (σ : SS) {r : Int32} {σ' : SS}, rec 5 σ = some (r, σ') → XM LM dr M_X11_one [aR 0 0] σ (some (aI r)) σ') {Γ : XC} {r : Int32} {σ' : SS} (B : XB Γ cX11_either RX11 (dr + 1) K11 LM 3) (q : XQ Γ (some .int) (some (aI r)) σ') : ∀ (n : Nat) (v1 : Int32) (σ : SS), L_X11_either_5 rec n v1 σ = some (r, σ') → XW Γ 5 [some (aR 0 0), some (aI v1), none] [] σ := by
  intro n
  induction n with
  | zero => intro v1 σ hm; cases hm
  | succ n ih =>
    intro v1 σ hm
    rw [L_X11_either_5] at hm
    refine XW.bk B [(5, .aload_n 0), (6, .bipush 124)] (by decide +kernel) (pc1 := 8) (ls1 := [some (aR 0 0), some (aI v1), none]) (st1 := [aI (124 : Int32), aR 0 0]) (σ1 := σ) (P := []) rfl trivial ?_
    obtain ⟨q2, hq2, hm⟩ := obind_eq hm
    refine XW.callV B (M := M_X11_takes) (t := 0) (j := 0) (cn := 1) (as := [aI (124 : Int32)]) (c_X11_takes (124 : Int32) σ hq2) (by omega) wV_X11_takes wN_X11_takes lk_X11_169 rfl rfl rfl (by decide) rfl (Nat.le_of_ble_eq_true rfl) (by decide +kernel) ?_
    refine XW.bb B [] (by decide +kernel) (pc1 := 11) (ls1 := [some (aR 0 0), some (aI v1), none]) (st1 := [aI q2.1]) (σ1 := q2.2) (P := []) (i := .ifCond .eq 25) (tgt := 36) (q := q2.1 = (0 : Int32)) rfl trivial (by decide +kernel) rfl (by decide) (fun h3 => ?_) (fun h3 => ?_)
    · rw [if_pos h3] at hm
      refine XW.bk B [(36, .iload_n 1)] (by decide +kernel) (pc1 := 37) (ls1 := [some (aR 0 0), some (aI v1), none]) (st1 := [aI v1]) (σ1 := q2.2) (P := []) rfl trivial ?_
      obtain ⟨rfl, rfl⟩ := Prod.mk.inj (Option.some.inj hm)
      exact XW.iret B q (by decide +kernel)
    · rw [if_neg h3] at hm
      refine XW.bk B [(14, .aload_n 0)] (by decide +kernel) (pc1 := 15) (ls1 := [some (aR 0 0), some (aI v1), none]) (st1 := [aR 0 0]) (σ1 := q2.2) (P := []) rfl trivial ?_
      obtain ⟨q4, hq4, hm⟩ := obind_eq hm
      refine XW.callV B (M := M_X11_both) (t := 0) (j := 0) (cn := 1) (as := []) (hrec_1 q2.2 hq4) (Nat.lt_succ_self _) wV_X11_both wN_X11_both lk_X11_166 rfl rfl rfl (by decide) rfl (Nat.le_of_ble_eq_true rfl) (by decide +kernel) ?_
      refine XW.bn B [(18, .istore_n 2), (19, .iload_n 1)] (by decide +kernel) (pc1 := 20) (ls1 := [some (aR 0 0), some (aI v1), some (aI q4.1)]) (st1 := [aI v1]) (σ1 := q4.2) (P := []) (i := .ifCond .ne 7) (tgt := 27) (q := v1 = (0 : Int32)) rfl trivial (by decide +kernel) rfl (by decide) (fun h5 => ?_) (fun h5 => ?_)
      · rw [if_pos h5] at hm
        refine XW.bb B [(23, .iload_n 2)] (by decide +kernel) (pc1 := 24) (ls1 := [some (aR 0 0), some (aI v1), some (aI q4.1)]) (st1 := [aI q4.1]) (σ1 := q4.2) (P := []) (i := .ifCond .eq 7) (tgt := 31) (q := q4.1 = (0 : Int32)) rfl trivial (by decide +kernel) rfl (by decide) (fun h6 => ?_) (fun h6 => ?_)
        · rw [if_pos h6] at hm
          refine XW.bk B [(31, .iconst 0), (32, .istore_n 1), (33, .goto (-28))] (by decide +kernel) (pc1 := 5) (ls1 := [some (aR 0 0), some (aI (0 : Int32)), some (aI q4.1)]) (st1 := []) (σ1 := q4.2) (P := []) rfl trivial ?_
          refine XW.loc [true, true, false] rfl ?_
          exact ih (0 : Int32) q4.2 hm
        · rw [if_neg h6] at hm
          refine XW.bk B [(27, .iconst 1), (28, .goto 4), (32, .istore_n 1), (33, .goto (-28))] (by decide +kernel) (pc1 := 5) (ls1 := [some (aR 0 0), some (aI (1 : Int32)), some (aI q4.1)]) (st1 := []) (σ1 := q4.2) (P := []) rfl trivial ?_
          refine XW.loc [true, true, false] rfl ?_
          exact ih (1 : Int32) q4.2 hm
      · rw [if_neg h5] at hm
        refine XW.bk B [(27, .iconst 1), (28, .goto 4), (32, .istore_n 1), (33, .goto (-28))] (by decide +kernel) (pc1 := 5) (ls1 := [some (aR 0 0), some (aI (1 : Int32)), some (aI q4.1)]) (st1 := []) (σ1 := q4.2) (P := []) rfl trivial ?_
        refine XW.loc [true, true, false] rfl ?_
        exact ih (1 : Int32) q4.2 hm
set_option maxRecDepth 100000 in
set_option maxHeartbeats 4000000 in
theorem c_X11_either (rec : Nat → SS → Option (Int32 × SS)) (dr : Nat) (hdr : 2 ≤ dr) (hrec_0 : ∀ (σ : SS) {r : Int32} {σ' : SS}, rec 0 σ = some (r, σ') → XM LM dr M_X11_either [aR 0 0] σ (some (aI r)) σ') (hrec_1 : ∀ (σ : SS) {r : Int32} {σ' : SS}, rec 1 σ = some (r, σ') → XM LM dr M_X11_both [aR 0 0] σ (some (aI r)) σ') (hrec_2 : ∀ (σ : SS) {r : Int32} {σ' : SS}, rec 2 σ = some (r, σ') → XM LM dr M_X11_compared [aR 0 0] σ (some (aI r)) σ') (hrec_3 : ∀ (σ : SS) {r : Int32} {σ' : SS}, rec 3 σ = some (r, σ') → XM LM dr M_X11_sums [aR 0 0] σ (some (aI r)) σ') (hrec_4 : ∀ (σ : SS) {r : Int32} {σ' : SS}, rec 4 σ = some (r, σ') → XM LM dr M_X11_product [aR 0 0] σ (some (aI r)) σ') (hrec_5 : ∀ (σ : SS) {r : Int32} {σ' : SS}, rec 5 σ = some (r, σ') → XM LM dr M_X11_one [aR 0 0] σ (some (aI r)) σ') (σ : SS) {r : Int32} {σ' : SS} (hm : m_X11_either rec σ = some (r, σ')) : XM LM (dr + 1) M_X11_either [aR 0 0] σ (some (aI r)) σ' := by
  refine XM.of (K := K11) (Nat.succ_le_succ (Nat.zero_le _)) (by decide +kernel) K11_ok (Nat.le_of_ble_eq_true rfl) (fun Γ B q => ?_)
  unfold m_X11_either at hm
  refine XW.bk B [(0, .aload_n 0)] (by decide +kernel) (pc1 := 1) (ls1 := [some (aR 0 0), none, none]) (st1 := [aR 0 0]) (σ1 := σ) (P := []) rfl trivial ?_
  obtain ⟨q1, hq1, hm⟩ := obind_eq hm
  refine XW.callV B (M := M_X11_both) (t := 0) (j := 0) (cn := 1) (as := []) (hrec_1 σ hq1) (Nat.lt_succ_self _) wV_X11_both wN_X11_both lk_X11_166 rfl rfl rfl (by decide) rfl (Nat.le_of_ble_eq_true rfl) (by decide +kernel) ?_
  refine XW.bk B [(4, .istore_n 1)] (by decide +kernel) (pc1 := 5) (ls1 := [some (aR 0 0), some (aI q1.1), none]) (st1 := []) (σ1 := q1.2) (P := []) rfl trivial ?_
  exact lp_X11_either_5 rec dr hdr hrec_0 hrec_1 hrec_2 hrec_3 hrec_4 hrec_5 B q FU q1.1 q1.2 hm
def L_X11_both_5 (rec : Nat → SS → Option (Int32 × SS)) : Nat → Int32 → SS → Option (Int32 × SS)
  | 0, _, _ => none
  | n + 1, v1, σ =>
    Option.bind (m_X11_takes (38 : Int32) σ) (fun q2 =>
    if q2.1 = (0 : Int32) then
      some (v1, q2.2)
    else
    Option.bind (rec 2 q2.2) (fun q4 =>
    if v1 = (0 : Int32) then
      L_X11_both_5 rec n (0 : Int32) q4.2
    else
    if q4.1 = (0 : Int32) then
      L_X11_both_5 rec n (0 : Int32) q4.2
    else
    L_X11_both_5 rec n (1 : Int32) q4.2))
def m_X11_both (rec : Nat → SS → Option (Int32 × SS)) (σ : SS) : Option (Int32 × SS) :=
  Option.bind (rec 2 σ) (fun q1 =>
  L_X11_both_5 rec FU q1.1 q1.2)
set_option maxRecDepth 100000 in
set_option maxHeartbeats 4000000 in
theorem lp_X11_both_5 (rec : Nat → SS → Option (Int32 × SS)) (dr : Nat) (hdr : 2 ≤ dr) (hrec_0 : ∀ (σ : SS) {r : Int32} {σ' : SS}, rec 0 σ = some (r, σ') → XM LM dr M_X11_either [aR 0 0] σ (some (aI r)) σ') (hrec_1 : ∀ (σ : SS) {r : Int32} {σ' : SS}, rec 1 σ = some (r, σ') → XM LM dr M_X11_both [aR 0 0] σ (some (aI r)) σ') (hrec_2 : ∀ (σ : SS) {r : Int32} {σ' : SS}, rec 2 σ = some (r, σ') → XM LM dr M_X11_compared [aR 0 0] σ (some (aI r)) σ') (hrec_3 : ∀ (σ : SS) {r : Int32} {σ' : SS}, rec 3 σ = some (r, σ') → XM LM dr M_X11_sums [aR 0 0] σ (some (aI r)) σ') (hrec_4 : ∀ (σ : SS) {r : Int32} {σ' : SS}, rec 4 σ = some (r, σ') → XM LM dr M_X11_product [aR 0 0] σ (some (aI r)) σ') (hrec_5 : ∀ (σ : SS) {r : Int32} {σ' : SS}, rec 5 σ = some (r, σ') → XM LM dr M_X11_one [aR 0 0] σ (some (aI r)) σ') {Γ : XC} {r : Int32} {σ' : SS} (B : XB Γ cX11_both RX11 (dr + 1) K11 LM 3) (q : XQ Γ (some .int) (some (aI r)) σ') : ∀ (n : Nat) (v1 : Int32) (σ : SS), L_X11_both_5 rec n v1 σ = some (r, σ') → XW Γ 5 [some (aR 0 0), some (aI v1), none] [] σ := by
  intro n
  induction n with
  | zero => intro v1 σ hm; cases hm
  | succ n ih =>
    intro v1 σ hm
    rw [L_X11_both_5] at hm
    refine XW.bk B [(5, .aload_n 0), (6, .bipush 38)] (by decide +kernel) (pc1 := 8) (ls1 := [some (aR 0 0), some (aI v1), none]) (st1 := [aI (38 : Int32), aR 0 0]) (σ1 := σ) (P := []) rfl trivial ?_
    obtain ⟨q2, hq2, hm⟩ := obind_eq hm
    refine XW.callV B (M := M_X11_takes) (t := 0) (j := 0) (cn := 1) (as := [aI (38 : Int32)]) (c_X11_takes (38 : Int32) σ hq2) (by omega) wV_X11_takes wN_X11_takes lk_X11_169 rfl rfl rfl (by decide) rfl (Nat.le_of_ble_eq_true rfl) (by decide +kernel) ?_
    refine XW.bb B [] (by decide +kernel) (pc1 := 11) (ls1 := [some (aR 0 0), some (aI v1), none]) (st1 := [aI q2.1]) (σ1 := q2.2) (P := []) (i := .ifCond .eq 25) (tgt := 36) (q := q2.1 = (0 : Int32)) rfl trivial (by decide +kernel) rfl (by decide) (fun h3 => ?_) (fun h3 => ?_)
    · rw [if_pos h3] at hm
      refine XW.bk B [(36, .iload_n 1)] (by decide +kernel) (pc1 := 37) (ls1 := [some (aR 0 0), some (aI v1), none]) (st1 := [aI v1]) (σ1 := q2.2) (P := []) rfl trivial ?_
      obtain ⟨rfl, rfl⟩ := Prod.mk.inj (Option.some.inj hm)
      exact XW.iret B q (by decide +kernel)
    · rw [if_neg h3] at hm
      refine XW.bk B [(14, .aload_n 0)] (by decide +kernel) (pc1 := 15) (ls1 := [some (aR 0 0), some (aI v1), none]) (st1 := [aR 0 0]) (σ1 := q2.2) (P := []) rfl trivial ?_
      obtain ⟨q4, hq4, hm⟩ := obind_eq hm
      refine XW.callV B (M := M_X11_compared) (t := 0) (j := 0) (cn := 1) (as := []) (hrec_2 q2.2 hq4) (Nat.lt_succ_self _) wV_X11_compared wN_X11_compared lk_X11_172 rfl rfl rfl (by decide) rfl (Nat.le_of_ble_eq_true rfl) (by decide +kernel) ?_
      refine XW.bb B [(18, .istore_n 2), (19, .iload_n 1)] (by decide +kernel) (pc1 := 20) (ls1 := [some (aR 0 0), some (aI v1), some (aI q4.1)]) (st1 := [aI v1]) (σ1 := q4.2) (P := []) (i := .ifCond .eq 11) (tgt := 31) (q := v1 = (0 : Int32)) rfl trivial (by decide +kernel) rfl (by decide) (fun h5 => ?_) (fun h5 => ?_)
      · rw [if_pos h5] at hm
        refine XW.bk B [(31, .iconst 0), (32, .istore_n 1), (33, .goto (-28))] (by decide +kernel) (pc1 := 5) (ls1 := [some (aR 0 0), some (aI (0 : Int32)), some (aI q4.1)]) (st1 := []) (σ1 := q4.2) (P := []) rfl trivial ?_
        refine XW.loc [true, true, false] rfl ?_
        exact ih (0 : Int32) q4.2 hm
      · rw [if_neg h5] at hm
        refine XW.bb B [(23, .iload_n 2)] (by decide +kernel) (pc1 := 24) (ls1 := [some (aR 0 0), some (aI v1), some (aI q4.1)]) (st1 := [aI q4.1]) (σ1 := q4.2) (P := []) (i := .ifCond .eq 7) (tgt := 31) (q := q4.1 = (0 : Int32)) rfl trivial (by decide +kernel) rfl (by decide) (fun h6 => ?_) (fun h6 => ?_)
        · rw [if_pos h6] at hm
          refine XW.bk B [(31, .iconst 0), (32, .istore_n 1), (33, .goto (-28))] (by decide +kernel) (pc1 := 5) (ls1 := [some (aR 0 0), some (aI (0 : Int32)), some (aI q4.1)]) (st1 := []) (σ1 := q4.2) (P := []) rfl trivial ?_
          refine XW.loc [true, true, false] rfl ?_
          exact ih (0 : Int32) q4.2 hm
        · rw [if_neg h6] at hm
          refine XW.bk B [(27, .iconst 1), (28, .goto 4), (32, .istore_n 1), (33, .goto (-28))] (by decide +kernel) (pc1 := 5) (ls1 := [some (aR 0 0), some (aI (1 : Int32)), some (aI q4.1)]) (st1 := []) (σ1 := q4.2) (P := []) rfl trivial ?_
          refine XW.loc [true, true, false] rfl ?_
          exact ih (1 : Int32) q4.2 hm
set_option maxRecDepth 100000 in
set_option maxHeartbeats 4000000 in
theorem c_X11_both (rec : Nat → SS → Option (Int32 × SS)) (dr : Nat) (hdr : 2 ≤ dr) (hrec_0 : ∀ (σ : SS) {r : Int32} {σ' : SS}, rec 0 σ = some (r, σ') → XM LM dr M_X11_either [aR 0 0] σ (some (aI r)) σ') (hrec_1 : ∀ (σ : SS) {r : Int32} {σ' : SS}, rec 1 σ = some (r, σ') → XM LM dr M_X11_both [aR 0 0] σ (some (aI r)) σ') (hrec_2 : ∀ (σ : SS) {r : Int32} {σ' : SS}, rec 2 σ = some (r, σ') → XM LM dr M_X11_compared [aR 0 0] σ (some (aI r)) σ') (hrec_3 : ∀ (σ : SS) {r : Int32} {σ' : SS}, rec 3 σ = some (r, σ') → XM LM dr M_X11_sums [aR 0 0] σ (some (aI r)) σ') (hrec_4 : ∀ (σ : SS) {r : Int32} {σ' : SS}, rec 4 σ = some (r, σ') → XM LM dr M_X11_product [aR 0 0] σ (some (aI r)) σ') (hrec_5 : ∀ (σ : SS) {r : Int32} {σ' : SS}, rec 5 σ = some (r, σ') → XM LM dr M_X11_one [aR 0 0] σ (some (aI r)) σ') (σ : SS) {r : Int32} {σ' : SS} (hm : m_X11_both rec σ = some (r, σ')) : XM LM (dr + 1) M_X11_both [aR 0 0] σ (some (aI r)) σ' := by
  refine XM.of (K := K11) (Nat.succ_le_succ (Nat.zero_le _)) (by decide +kernel) K11_ok (Nat.le_of_ble_eq_true rfl) (fun Γ B q => ?_)
  unfold m_X11_both at hm
  refine XW.bk B [(0, .aload_n 0)] (by decide +kernel) (pc1 := 1) (ls1 := [some (aR 0 0), none, none]) (st1 := [aR 0 0]) (σ1 := σ) (P := []) rfl trivial ?_
  obtain ⟨q1, hq1, hm⟩ := obind_eq hm
  refine XW.callV B (M := M_X11_compared) (t := 0) (j := 0) (cn := 1) (as := []) (hrec_2 σ hq1) (Nat.lt_succ_self _) wV_X11_compared wN_X11_compared lk_X11_172 rfl rfl rfl (by decide) rfl (Nat.le_of_ble_eq_true rfl) (by decide +kernel) ?_
  refine XW.bk B [(4, .istore_n 1)] (by decide +kernel) (pc1 := 5) (ls1 := [some (aR 0 0), some (aI q1.1), none]) (st1 := []) (σ1 := q1.2) (P := []) rfl trivial ?_
  exact lp_X11_both_5 rec dr hdr hrec_0 hrec_1 hrec_2 hrec_3 hrec_4 hrec_5 B q FU q1.1 q1.2 hm
def m_X11_compared (rec : Nat → SS → Option (Int32 × SS)) (σ : SS) : Option (Int32 × SS) :=
  Option.bind (rec 3 σ) (fun q1 =>
  Option.bind (m_X11_byteAt q1.2) (fun q2 =>
  if (0 : Int32) ≤ (q1.2.1 0 0 15) then
    some (q1.1, q1.2)
  else
  if q2 = (60 : Int32) then
    Option.bind (rec 3 (sI q1.2 0 0 13 ((q1.2.1 0 0 13) + (1 : Int32)))) (fun q5 =>
    if q5.1 ≤ q1.1 then
      some ((0 : Int32), q5.2)
    else
    some ((1 : Int32), q5.2))
  else
  if q2 = (61 : Int32) then
    Option.bind (rec 3 (sI q1.2 0 0 13 ((q1.2.1 0 0 13) + (1 : Int32)))) (fun q8 =>
    if q1.1 = q8.1 then
      some ((1 : Int32), q8.2)
    else
    some ((0 : Int32), q8.2))
  else
  if q2 = (62 : Int32) then
    Option.bind (rec 3 (sI q1.2 0 0 13 ((q1.2.1 0 0 13) + (1 : Int32)))) (fun q11 =>
    if q1.1 ≤ q11.1 then
      some ((0 : Int32), q11.2)
    else
    some ((1 : Int32), q11.2))
  else
  some (q1.1, q1.2)))
set_option maxRecDepth 100000 in
set_option maxHeartbeats 4000000 in
theorem c_X11_compared (rec : Nat → SS → Option (Int32 × SS)) (dr : Nat) (hdr : 2 ≤ dr) (hrec_0 : ∀ (σ : SS) {r : Int32} {σ' : SS}, rec 0 σ = some (r, σ') → XM LM dr M_X11_either [aR 0 0] σ (some (aI r)) σ') (hrec_1 : ∀ (σ : SS) {r : Int32} {σ' : SS}, rec 1 σ = some (r, σ') → XM LM dr M_X11_both [aR 0 0] σ (some (aI r)) σ') (hrec_2 : ∀ (σ : SS) {r : Int32} {σ' : SS}, rec 2 σ = some (r, σ') → XM LM dr M_X11_compared [aR 0 0] σ (some (aI r)) σ') (hrec_3 : ∀ (σ : SS) {r : Int32} {σ' : SS}, rec 3 σ = some (r, σ') → XM LM dr M_X11_sums [aR 0 0] σ (some (aI r)) σ') (hrec_4 : ∀ (σ : SS) {r : Int32} {σ' : SS}, rec 4 σ = some (r, σ') → XM LM dr M_X11_product [aR 0 0] σ (some (aI r)) σ') (hrec_5 : ∀ (σ : SS) {r : Int32} {σ' : SS}, rec 5 σ = some (r, σ') → XM LM dr M_X11_one [aR 0 0] σ (some (aI r)) σ') (σ : SS) {r : Int32} {σ' : SS} (hm : m_X11_compared rec σ = some (r, σ')) : XM LM (dr + 1) M_X11_compared [aR 0 0] σ (some (aI r)) σ' := by
  refine XM.of (K := K11) (Nat.succ_le_succ (Nat.zero_le _)) (by decide +kernel) K11_ok (Nat.le_of_ble_eq_true rfl) (fun Γ B q => ?_)
  unfold m_X11_compared at hm
  refine XW.bk B [(0, .aload_n 0)] (by decide +kernel) (pc1 := 1) (ls1 := [some (aR 0 0), none, none, none]) (st1 := [aR 0 0]) (σ1 := σ) (P := []) rfl trivial ?_
  obtain ⟨q1, hq1, hm⟩ := obind_eq hm
  refine XW.callV B (M := M_X11_sums) (t := 0) (j := 0) (cn := 1) (as := []) (hrec_3 σ hq1) (Nat.lt_succ_self _) wV_X11_sums wN_X11_sums lk_X11_175 rfl rfl rfl (by decide) rfl (Nat.le_of_ble_eq_true rfl) (by decide +kernel) ?_
  refine XW.bk B [(4, .istore_n 1), (5, .aload_n 0)] (by decide +kernel) (pc1 := 6) (ls1 := [some (aR 0 0), some (aI q1.1), none, none]) (st1 := [aR 0 0]) (σ1 := q1.2) (P := []) rfl trivial ?_
  obtain ⟨q2, hq2, hm⟩ := obind_eq hm
  refine XW.callV B (M := M_X11_byteAt) (t := 0) (j := 0) (cn := 1) (as := []) (c_X11_byteAt q1.2 hq2) (by omega) wV_X11_byteAt wN_X11_byteAt lk_X11_162 rfl rfl rfl (by decide) rfl (Nat.le_of_ble_eq_true rfl) (by decide +kernel) ?_
  refine XW.bb B [(9, .istore_n 2), (10, .aload_n 0), (11, .getfield 159)] (by decide +kernel) (pc1 := 14) (ls1 := [some (aR 0 0), some (aI q1.1), some (aI q2), none]) (st1 := [aI (q1.2.1 0 0 15)]) (σ1 := q1.2) (P := []) (i := .ifCond .ge 21) (tgt := 35) (q := (0 : Int32) ≤ (q1.2.1 0 0 15)) rfl trivial (by decide +kernel) rfl (by decide) (fun h3 => ?_) (fun h3 => ?_)
  · rw [if_pos h3] at hm
    refine XW.bk B [(35, .iload_n 1)] (by decide +kernel) (pc1 := 36) (ls1 := [some (aR 0 0), some (aI q1.1), some (aI q2), none]) (st1 := [aI q1.1]) (σ1 := q1.2) (P := []) rfl trivial ?_
    obtain ⟨rfl, rfl⟩ := Prod.mk.inj (Option.some.inj hm)
    exact XW.iret B q (by decide +kernel)
  · rw [if_neg h3] at hm
    refine XW.bb B [(17, .iload_n 2), (18, .bipush 60)] (by decide +kernel) (pc1 := 20) (ls1 := [some (aR 0 0), some (aI q1.1), some (aI q2), none]) (st1 := [aI (60 : Int32), aI q2]) (σ1 := q1.2) (P := []) (i := .if_icmp .eq 17) (tgt := 37) (q := q2 = (60 : Int32)) rfl trivial (by decide +kernel) rfl (by decide) (fun h4 => ?_) (fun h4 => ?_)
    · rw [if_pos h4] at hm
      refine XW.bk B [(37, .aload_n 0), (38, .dup), (39, .getfield 150), (42, .iconst 1), (43, .iadd), (44, .putfield 150), (47, .aload_n 0)] (by decide +kernel) (pc1 := 48) (ls1 := [some (aR 0 0), some (aI q1.1), some (aI q2), none]) (st1 := [aR 0 0]) (σ1 := (sI q1.2 0 0 13 ((q1.2.1 0 0 13) + (1 : Int32)))) (P := []) rfl trivial ?_
      obtain ⟨q5, hq5, hm⟩ := obind_eq hm
      refine XW.callV B (M := M_X11_sums) (t := 0) (j := 0) (cn := 1) (as := []) (hrec_3 (sI q1.2 0 0 13 ((q1.2.1 0 0 13) + (1 : Int32))) hq5) (Nat.lt_succ_self _) wV_X11_sums wN_X11_sums lk_X11_175 rfl rfl rfl (by decide) rfl (Nat.le_of_ble_eq_true rfl) (by decide +kernel) ?_
      refine XW.bn B [(51, .istore_n 3), (52, .iload_n 2), (53, .bipush 60)] (by decide +kernel) (pc1 := 55) (ls1 := [some (aR 0 0), some (aI q1.1), some (aI q2), some (aI q5.1)]) (st1 := [aI (60 : Int32), aI q2]) (σ1 := q5.2) (P := []) (i := .if_icmp .ne 11) (tgt := 66) (q := q2 = (60 : Int32)) rfl trivial (by decide +kernel) rfl (by decide) (fun _ => ?_) (fun h => absurd h4 h)
      refine XW.bb B [(58, .iload_n 1), (59, .iload_n 3)] (by decide +kernel) (pc1 := 60) (ls1 := [some (aR 0 0), some (aI q1.1), some (aI q2), some (aI q5.1)]) (st1 := [aI q5.1, aI q1.1]) (σ1 := q5.2) (P := []) (i := .if_icmp .ge 29) (tgt := 89) (q := q5.1 ≤ q1.1) rfl trivial (by decide +kernel) rfl (by decide) (fun h6 => ?_) (fun h6 => ?_)
      · rw [if_pos h6] at hm
        refine XW.bk B [(89, .iconst 0)] (by decide +kernel) (pc1 := 90) (ls1 := [some (aR 0 0), some (aI q1.1), some (aI q2), some (aI q5.1)]) (st1 := [aI (0 : Int32)]) (σ1 := q5.2) (P := []) rfl trivial ?_
        obtain ⟨rfl, rfl⟩ := Prod.mk.inj (Option.some.inj hm)
        exact XW.iret B q (by decide +kernel)
      · rw [if_neg h6] at hm
        refine XW.bk B [(63, .goto 22), (85, .iconst 1), (86, .goto 4)] (by decide +kernel) (pc1 := 90) (ls1 := [some (aR 0 0), some (aI q1.1), some (aI q2), some (aI q5.1)]) (st1 := [aI (1 : Int32)]) (σ1 := q5.2) (P := []) rfl trivial ?_
        obtain ⟨rfl, rfl⟩ := Prod.mk.inj (Option.some.inj hm)
        exact XW.iret B q (by decide +kernel)
    · rw [if_neg h4] at hm
      refine XW.bb B [(23, .iload_n 2), (24, .bipush 61)] (by decide +kernel) (pc1 := 26) (ls1 := [some (aR 0 0), some (aI q1.1), some (aI q2), none]) (st1 := [aI (61 : Int32), aI q2]) (σ1 := q1.2) (P := []) (i := .if_icmp .eq 11) (tgt := 37) (q := q2 = (61 : Int32)) rfl trivial (by decide +kernel) rfl (by decide) (fun h7 => ?_) (fun h7 => ?_)
      · rw [if_pos h7] at hm
        refine XW.bk B [(37, .aload_n 0), (38, .dup), (39, .getfield 150), (42, .iconst 1), (43, .iadd), (44, .putfield 150), (47, .aload_n 0)] (by decide +kernel) (pc1 := 48) (ls1 := [some (aR 0 0), some (aI q1.1), some (aI q2), none]) (st1 := [aR 0 0]) (σ1 := (sI q1.2 0 0 13 ((q1.2.1 0 0 13) + (1 : Int32)))) (P := []) rfl trivial ?_
        obtain ⟨q8, hq8, hm⟩ := obind_eq hm
        refine XW.callV B (M := M_X11_sums) (t := 0) (j := 0) (cn := 1) (as := []) (hrec_3 (sI q1.2 0 0 13 ((q1.2.1 0 0 13) + (1 : Int32))) hq8) (Nat.lt_succ_self _) wV_X11_sums wN_X11_sums lk_X11_175 rfl rfl rfl (by decide) rfl (Nat.le_of_ble_eq_true rfl) (by decide +kernel) ?_
        refine XW.bn B [(51, .istore_n 3), (52, .iload_n 2), (53, .bipush 60)] (by decide +kernel) (pc1 := 55) (ls1 := [some (aR 0 0), some (aI q1.1), some (aI q2), some (aI q8.1)]) (st1 := [aI (60 : Int32), aI q2]) (σ1 := q8.2) (P := []) (i := .if_icmp .ne 11) (tgt := 66) (q := q2 = (60 : Int32)) rfl trivial (by decide +kernel) rfl (by decide) (fun h => absurd h h4) (fun _ => ?_)
        refine XW.bn B [(66, .iload_n 2), (67, .bipush 61)] (by decide +kernel) (pc1 := 69) (ls1 := [some (aR 0 0), some (aI q1.1), some (aI q2), some (aI q8.1)]) (st1 := [aI (61 : Int32), aI q2]) (σ1 := q8.2) (P := []) (i := .if_icmp .ne 11) (tgt := 80) (q := q2 = (61 : Int32)) rfl trivial (by decide +kernel) rfl (by decide) (fun _ => ?_) (fun h => absurd h7 h)
        refine XW.bn B [(72, .iload_n 1), (73, .iload_n 3)] (by decide +kernel) (pc1 := 74) (ls1 := [some (aR 0 0), some (aI q1.1), some (aI q2), some (aI q8.1)]) (st1 := [aI q8.1, aI q1.1]) (σ1 := q8.2) (P := []) (i := .if_icmp .ne 15) (tgt := 89) (q := q1.1 = q8.1) rfl trivial (by decide +kernel) rfl (by decide) (fun h9 => ?_) (fun h9 => ?_)
        · rw [if_pos h9] at hm
          refine XW.bk B [(77, .goto 8), (85, .iconst 1), (86, .goto 4)] (by decide +kernel) (pc1 := 90) (ls1 := [some (aR 0 0), some (aI q1.1), some (aI q2), some (aI q8.1)]) (st1 := [aI (1 : Int32)]) (σ1 := q8.2) (P := []) rfl trivial ?_
          obtain ⟨rfl, rfl⟩ := Prod.mk.inj (Option.some.inj hm)
          exact XW.iret B q (by decide +kernel)
        · rw [if_neg h9] at hm
          refine XW.bk B [(89, .iconst 0)] (by decide +kernel) (pc1 := 90) (ls1 := [some (aR 0 0), some (aI q1.1), some (aI q2), some (aI q8.1)]) (st1 := [aI (0 : Int32)]) (σ1 := q8.2) (P := []) rfl trivial ?_
          obtain ⟨rfl, rfl⟩ := Prod.mk.inj (Option.some.inj hm)
          exact XW.iret B q (by decide +kernel)
      · rw [if_neg h7] at hm
        refine XW.bb B [(29, .iload_n 2), (30, .bipush 62)] (by decide +kernel) (pc1 := 32) (ls1 := [some (aR 0 0), some (aI q1.1), some (aI q2), none]) (st1 := [aI (62 : Int32), aI q2]) (σ1 := q1.2) (P := []) (i := .if_icmp .eq 5) (tgt := 37) (q := q2 = (62 : Int32)) rfl trivial (by decide +kernel) rfl (by decide) (fun h10 => ?_) (fun h10 => ?_)
        · rw [if_pos h10] at hm
          refine XW.bk B [(37, .aload_n 0), (38, .dup), (39, .getfield 150), (42, .iconst 1), (43, .iadd), (44, .putfield 150), (47, .aload_n 0)] (by decide +kernel) (pc1 := 48) (ls1 := [some (aR 0 0), some (aI q1.1), some (aI q2), none]) (st1 := [aR 0 0]) (σ1 := (sI q1.2 0 0 13 ((q1.2.1 0 0 13) + (1 : Int32)))) (P := []) rfl trivial ?_
          obtain ⟨q11, hq11, hm⟩ := obind_eq hm
          refine XW.callV B (M := M_X11_sums) (t := 0) (j := 0) (cn := 1) (as := []) (hrec_3 (sI q1.2 0 0 13 ((q1.2.1 0 0 13) + (1 : Int32))) hq11) (Nat.lt_succ_self _) wV_X11_sums wN_X11_sums lk_X11_175 rfl rfl rfl (by decide) rfl (Nat.le_of_ble_eq_true rfl) (by decide +kernel) ?_
          refine XW.bn B [(51, .istore_n 3), (52, .iload_n 2), (53, .bipush 60)] (by decide +kernel) (pc1 := 55) (ls1 := [some (aR 0 0), some (aI q1.1), some (aI q2), some (aI q11.1)]) (st1 := [aI (60 : Int32), aI q2]) (σ1 := q11.2) (P := []) (i := .if_icmp .ne 11) (tgt := 66) (q := q2 = (60 : Int32)) rfl trivial (by decide +kernel) rfl (by decide) (fun h => absurd h h4) (fun _ => ?_)
          refine XW.bn B [(66, .iload_n 2), (67, .bipush 61)] (by decide +kernel) (pc1 := 69) (ls1 := [some (aR 0 0), some (aI q1.1), some (aI q2), some (aI q11.1)]) (st1 := [aI (61 : Int32), aI q2]) (σ1 := q11.2) (P := []) (i := .if_icmp .ne 11) (tgt := 80) (q := q2 = (61 : Int32)) rfl trivial (by decide +kernel) rfl (by decide) (fun h => absurd h h7) (fun _ => ?_)
          refine XW.bb B [(80, .iload_n 1), (81, .iload_n 3)] (by decide +kernel) (pc1 := 82) (ls1 := [some (aR 0 0), some (aI q1.1), some (aI q2), some (aI q11.1)]) (st1 := [aI q11.1, aI q1.1]) (σ1 := q11.2) (P := []) (i := .if_icmp .le 7) (tgt := 89) (q := q1.1 ≤ q11.1) rfl trivial (by decide +kernel) rfl (by decide) (fun h12 => ?_) (fun h12 => ?_)
          · rw [if_pos h12] at hm
            refine XW.bk B [(89, .iconst 0)] (by decide +kernel) (pc1 := 90) (ls1 := [some (aR 0 0), some (aI q1.1), some (aI q2), some (aI q11.1)]) (st1 := [aI (0 : Int32)]) (σ1 := q11.2) (P := []) rfl trivial ?_
            obtain ⟨rfl, rfl⟩ := Prod.mk.inj (Option.some.inj hm)
            exact XW.iret B q (by decide +kernel)
          · rw [if_neg h12] at hm
            refine XW.bk B [(85, .iconst 1), (86, .goto 4)] (by decide +kernel) (pc1 := 90) (ls1 := [some (aR 0 0), some (aI q1.1), some (aI q2), some (aI q11.1)]) (st1 := [aI (1 : Int32)]) (σ1 := q11.2) (P := []) rfl trivial ?_
            obtain ⟨rfl, rfl⟩ := Prod.mk.inj (Option.some.inj hm)
            exact XW.iret B q (by decide +kernel)
        · rw [if_neg h10] at hm
          refine XW.bk B [(35, .iload_n 1)] (by decide +kernel) (pc1 := 36) (ls1 := [some (aR 0 0), some (aI q1.1), some (aI q2), none]) (st1 := [aI q1.1]) (σ1 := q1.2) (P := []) rfl trivial ?_
          obtain ⟨rfl, rfl⟩ := Prod.mk.inj (Option.some.inj hm)
          exact XW.iret B q (by decide +kernel)
def L_X11_sums_5 (rec : Nat → SS → Option (Int32 × SS)) : Nat → Int32 → SS → Option (Int32 × SS)
  | 0, _, _ => none
  | n + 1, v1, σ =>
    if (0 : Int32) ≤ (σ.1 0 0 15) then
      some (v1, σ)
    else
    Option.bind (m_X11_byteAt σ) (fun q3 =>
    if q3 = (43 : Int32) then
      Option.bind (m_X11_byteAt σ) (fun q5 =>
      if q5 = (43 : Int32) then
        Option.bind (rec 4 (sI σ 0 0 13 ((σ.1 0 0 13) + (1 : Int32)))) (fun q7 =>
        L_X11_sums_5 rec n (v1 + q7.1) q7.2)
      else
      Option.bind (rec 4 (sI σ 0 0 13 ((σ.1 0 0 13) + (1 : Int32)))) (fun q8 =>
      L_X11_sums_5 rec n (v1 - q8.1) q8.2))
    else
    Option.bind (m_X11_byteAt σ) (fun q9 =>
    if q9 = (45 : Int32) then
      Option.bind (m_X11_byteAt σ) (fun q11 =>
      if q11 = (43 : Int32) then
        Option.bind (rec 4 (sI σ 0 0 13 ((σ.1 0 0 13) + (1 : Int32)))) (fun q13 =>
        L_X11_sums_5 rec n (v1 + q13.1) q13.2)
      else
      Option.bind (rec 4 (sI σ 0 0 13 ((σ.1 0 0 13) + (1 : Int32)))) (fun q14 =>
      L_X11_sums_5 rec n (v1 - q14.1) q14.2))
    else
    some (v1, σ)))
def m_X11_sums (rec : Nat → SS → Option (Int32 × SS)) (σ : SS) : Option (Int32 × SS) :=
  Option.bind (rec 4 σ) (fun q1 =>
  L_X11_sums_5 rec FU q1.1 q1.2)
set_option maxRecDepth 100000 in
set_option maxHeartbeats 4000000 in
theorem lp_X11_sums_5 (rec : Nat → SS → Option (Int32 × SS)) (dr : Nat) (hdr : 2 ≤ dr) (hrec_0 : ∀ (σ : SS) {r : Int32} {σ' : SS}, rec 0 σ = some (r, σ') → XM LM dr M_X11_either [aR 0 0] σ (some (aI r)) σ') (hrec_1 : ∀ (σ : SS) {r : Int32} {σ' : SS}, rec 1 σ = some (r, σ') → XM LM dr M_X11_both [aR 0 0] σ (some (aI r)) σ') (hrec_2 : ∀ (σ : SS) {r : Int32} {σ' : SS}, rec 2 σ = some (r, σ') → XM LM dr M_X11_compared [aR 0 0] σ (some (aI r)) σ') (hrec_3 : ∀ (σ : SS) {r : Int32} {σ' : SS}, rec 3 σ = some (r, σ') → XM LM dr M_X11_sums [aR 0 0] σ (some (aI r)) σ') (hrec_4 : ∀ (σ : SS) {r : Int32} {σ' : SS}, rec 4 σ = some (r, σ') → XM LM dr M_X11_product [aR 0 0] σ (some (aI r)) σ') (hrec_5 : ∀ (σ : SS) {r : Int32} {σ' : SS}, rec 5 σ = some (r, σ') → XM LM dr M_X11_one [aR 0 0] σ (some (aI r)) σ') {Γ : XC} {r : Int32} {σ' : SS} (B : XB Γ cX11_sums RX11 (dr + 1) K11 LM 4) (q : XQ Γ (some .int) (some (aI r)) σ') : ∀ (n : Nat) (v1 : Int32) (σ : SS), L_X11_sums_5 rec n v1 σ = some (r, σ') → XW Γ 5 [some (aR 0 0), some (aI v1), none, none] [] σ := by
  intro n
  induction n with
  | zero => intro v1 σ hm; cases hm
  | succ n ih =>
    intro v1 σ hm
    rw [L_X11_sums_5] at hm
    refine XW.bb B [(5, .aload_n 0), (6, .getfield 159)] (by decide +kernel) (pc1 := 9) (ls1 := [some (aR 0 0), some (aI v1), none, none]) (st1 := [aI (σ.1 0 0 15)]) (σ1 := σ) (P := []) (i := .ifCond .ge 68) (tgt := 77) (q := (0 : Int32) ≤ (σ.1 0 0 15)) rfl trivial (by decide +kernel) rfl (by decide) (fun h2 => ?_) (fun h2 => ?_)
    · rw [if_pos h2] at hm
      refine XW.bk B [(77, .iload_n 1)] (by decide +kernel) (pc1 := 78) (ls1 := [some (aR 0 0), some (aI v1), none, none]) (st1 := [aI v1]) (σ1 := σ) (P := []) rfl trivial ?_
      obtain ⟨rfl, rfl⟩ := Prod.mk.inj (Option.some.inj hm)
      exact XW.iret B q (by decide +kernel)
    · rw [if_neg h2] at hm
      refine XW.bk B [(12, .aload_n 0)] (by decide +kernel) (pc1 := 13) (ls1 := [some (aR 0 0), some (aI v1), none, none]) (st1 := [aR 0 0]) (σ1 := σ) (P := []) rfl trivial ?_
      obtain ⟨q3, hq3, hm⟩ := obind_eq hm
      refine XW.callV B (M := M_X11_byteAt) (t := 0) (j := 0) (cn := 1) (as := []) (c_X11_byteAt σ hq3) (by omega) wV_X11_byteAt wN_X11_byteAt lk_X11_162 rfl rfl rfl (by decide) rfl (Nat.le_of_ble_eq_true rfl) (by decide +kernel) ?_
      refine XW.bb B [(16, .bipush 43)] (by decide +kernel) (pc1 := 18) (ls1 := [some (aR 0 0), some (aI v1), none, none]) (st1 := [aI (43 : Int32), aI q3]) (σ1 := σ) (P := []) (i := .if_icmp .eq 12) (tgt := 30) (q := q3 = (43 : Int32)) rfl trivial (by decide +kernel) rfl (by decide) (fun h4 => ?_) (fun h4 => ?_)
      · rw [if_pos h4] at hm
        refine XW.bk B [(30, .aload_n 0)] (by decide +kernel) (pc1 := 31) (ls1 := [some (aR 0 0), some (aI v1), none, none]) (st1 := [aR 0 0]) (σ1 := σ) (P := []) rfl trivial ?_
        obtain ⟨q5, hq5, hm⟩ := obind_eq hm
        refine XW.callV B (M := M_X11_byteAt) (t := 0) (j := 0) (cn := 1) (as := []) (c_X11_byteAt σ hq5) (by omega) wV_X11_byteAt wN_X11_byteAt lk_X11_162 rfl rfl rfl (by decide) rfl (Nat.le_of_ble_eq_true rfl) (by decide +kernel) ?_
        refine XW.bn B [(34, .bipush 43)] (by decide +kernel) (pc1 := 36) (ls1 := [some (aR 0 0), some (aI v1), none, none]) (st1 := [aI (43 : Int32), aI q5]) (σ1 := σ) (P := []) (i := .if_icmp .ne 7) (tgt := 43) (q := q5 = (43 : Int32)) rfl trivial (by decide +kernel) rfl (by decide) (fun h6 => ?_) (fun h6 => ?_)
        · rw [if_pos h6] at hm
          refine XW.bk B [(39, .iconst 1), (40, .goto 4), (44, .istore_n 2), (45, .aload_n 0), (46, .dup), (47, .getfield 150), (50, .iconst 1), (51, .iadd), (52, .putfield 150), (55, .aload_n 0)] (by decide +kernel) (pc1 := 56) (ls1 := [some (aR 0 0), some (aI v1), some (aI (1 : Int32)), none]) (st1 := [aR 0 0]) (σ1 := (sI σ 0 0 13 ((σ.1 0 0 13) + (1 : Int32)))) (P := []) rfl trivial ?_
          obtain ⟨q7, hq7, hm⟩ := obind_eq hm
          refine XW.callV B (M := M_X11_product) (t := 0) (j := 0) (cn := 1) (as := []) (hrec_4 (sI σ 0 0 13 ((σ.1 0 0 13) + (1 : Int32))) hq7) (Nat.lt_succ_self _) wV_X11_product wN_X11_product lk_X11_178 rfl rfl rfl (by decide) rfl (Nat.le_of_ble_eq_true rfl) (by decide +kernel) ?_
          refine XW.bb B [(59, .istore_n 3), (60, .iload_n 2)] (by decide +kernel) (pc1 := 61) (ls1 := [some (aR 0 0), some (aI v1), some (aI (1 : Int32)), some (aI q7.1)]) (st1 := [aI (1 : Int32)]) (σ1 := q7.2) (P := []) (i := .ifCond .eq 9) (tgt := 70) (q := (1 : Int32) = (0 : Int32)) rfl trivial (by decide +kernel) rfl (by decide) (fun h => absurd h (by decide)) (fun _ => ?_)
          refine XW.bk B [(64, .iload_n 1), (65, .iload_n 3), (66, .iadd), (67, .goto 6), (73, .istore_n 1), (74, .goto (-69))] (by decide +kernel) (pc1 := 5) (ls1 := [some (aR 0 0), some (aI (v1 + q7.1)), some (aI (1 : Int32)), some (aI q7.1)]) (st1 := []) (σ1 := q7.2) (P := []) rfl trivial ?_
          refine XW.loc [true, true, false, false] rfl ?_
          exact ih (v1 + q7.1) q7.2 hm
        · rw [if_neg h6] at hm
          refine XW.bk B [(43, .iconst 0), (44, .istore_n 2), (45, .aload_n 0), (46, .dup), (47, .getfield 150), (50, .iconst 1), (51, .iadd), (52, .putfield 150), (55, .aload_n 0)] (by decide +kernel) (pc1 := 56) (ls1 := [some (aR 0 0), some (aI v1), some (aI (0 : Int32)), none]) (st1 := [aR 0 0]) (σ1 := (sI σ 0 0 13 ((σ.1 0 0 13) + (1 : Int32)))) (P := []) rfl trivial ?_
          obtain ⟨q8, hq8, hm⟩ := obind_eq hm
          refine XW.callV B (M := M_X11_product) (t := 0) (j := 0) (cn := 1) (as := []) (hrec_4 (sI σ 0 0 13 ((σ.1 0 0 13) + (1 : Int32))) hq8) (Nat.lt_succ_self _) wV_X11_product wN_X11_product lk_X11_178 rfl rfl rfl (by decide) rfl (Nat.le_of_ble_eq_true rfl) (by decide +kernel) ?_
          refine XW.bb B [(59, .istore_n 3), (60, .iload_n 2)] (by decide +kernel) (pc1 := 61) (ls1 := [some (aR 0 0), some (aI v1), some (aI (0 : Int32)), some (aI q8.1)]) (st1 := [aI (0 : Int32)]) (σ1 := q8.2) (P := []) (i := .ifCond .eq 9) (tgt := 70) (q := (0 : Int32) = (0 : Int32)) rfl trivial (by decide +kernel) rfl (by decide) (fun _ => ?_) (fun h => absurd (by decide) h)
          refine XW.bk B [(70, .iload_n 1), (71, .iload_n 3), (72, .isub), (73, .istore_n 1), (74, .goto (-69))] (by decide +kernel) (pc1 := 5) (ls1 := [some (aR 0 0), some (aI (v1 - q8.1)), some (aI (0 : Int32)), some (aI q8.1)]) (st1 := []) (σ1 := q8.2) (P := []) rfl trivial ?_
          refine XW.loc [true, true, false, false] rfl ?_
          exact ih (v1 - q8.1) q8.2 hm
      · rw [if_neg h4] at hm
        refine XW.bk B [(21, .aload_n 0)] (by decide +kernel) (pc1 := 22) (ls1 := [some (aR 0 0), some (aI v1), none, none]) (st1 := [aR 0 0]) (σ1 := σ) (P := []) rfl trivial ?_
        obtain ⟨q9, hq9, hm⟩ := obind_eq hm
        refine XW.callV B (M := M_X11_byteAt) (t := 0) (j := 0) (cn := 1) (as := []) (c_X11_byteAt σ hq9) (by omega) wV_X11_byteAt wN_X11_byteAt lk_X11_162 rfl rfl rfl (by decide) rfl (Nat.le_of_ble_eq_true rfl) (by decide +kernel) ?_
        refine XW.bn B [(25, .bipush 45)] (by decide +kernel) (pc1 := 27) (ls1 := [some (aR 0 0), some (aI v1), none, none]) (st1 := [aI (45 : Int32), aI q9]) (σ1 := σ) (P := []) (i := .if_icmp .ne 50) (tgt := 77) (q := q9 = (45 : Int32)) rfl trivial (by decide +kernel) rfl (by decide) (fun h10 => ?_) (fun h10 => ?_)
        · rw [if_pos h10] at hm
          refine XW.bk B [(30, .aload_n 0)] (by decide +kernel) (pc1 := 31) (ls1 := [some (aR 0 0), some (aI v1), none, none]) (st1 := [aR 0 0]) (σ1 := σ) (P := []) rfl trivial ?_
          obtain ⟨q11, hq11, hm⟩ := obind_eq hm
          refine XW.callV B (M := M_X11_byteAt) (t := 0) (j := 0) (cn := 1) (as := []) (c_X11_byteAt σ hq11) (by omega) wV_X11_byteAt wN_X11_byteAt lk_X11_162 rfl rfl rfl (by decide) rfl (Nat.le_of_ble_eq_true rfl) (by decide +kernel) ?_
          refine XW.bn B [(34, .bipush 43)] (by decide +kernel) (pc1 := 36) (ls1 := [some (aR 0 0), some (aI v1), none, none]) (st1 := [aI (43 : Int32), aI q11]) (σ1 := σ) (P := []) (i := .if_icmp .ne 7) (tgt := 43) (q := q11 = (43 : Int32)) rfl trivial (by decide +kernel) rfl (by decide) (fun h12 => ?_) (fun h12 => ?_)
          · rw [if_pos h12] at hm
            refine XW.bk B [(39, .iconst 1), (40, .goto 4), (44, .istore_n 2), (45, .aload_n 0), (46, .dup), (47, .getfield 150), (50, .iconst 1), (51, .iadd), (52, .putfield 150), (55, .aload_n 0)] (by decide +kernel) (pc1 := 56) (ls1 := [some (aR 0 0), some (aI v1), some (aI (1 : Int32)), none]) (st1 := [aR 0 0]) (σ1 := (sI σ 0 0 13 ((σ.1 0 0 13) + (1 : Int32)))) (P := []) rfl trivial ?_
            obtain ⟨q13, hq13, hm⟩ := obind_eq hm
            refine XW.callV B (M := M_X11_product) (t := 0) (j := 0) (cn := 1) (as := []) (hrec_4 (sI σ 0 0 13 ((σ.1 0 0 13) + (1 : Int32))) hq13) (Nat.lt_succ_self _) wV_X11_product wN_X11_product lk_X11_178 rfl rfl rfl (by decide) rfl (Nat.le_of_ble_eq_true rfl) (by decide +kernel) ?_
            refine XW.bb B [(59, .istore_n 3), (60, .iload_n 2)] (by decide +kernel) (pc1 := 61) (ls1 := [some (aR 0 0), some (aI v1), some (aI (1 : Int32)), some (aI q13.1)]) (st1 := [aI (1 : Int32)]) (σ1 := q13.2) (P := []) (i := .ifCond .eq 9) (tgt := 70) (q := (1 : Int32) = (0 : Int32)) rfl trivial (by decide +kernel) rfl (by decide) (fun h => absurd h (by decide)) (fun _ => ?_)
            refine XW.bk B [(64, .iload_n 1), (65, .iload_n 3), (66, .iadd), (67, .goto 6), (73, .istore_n 1), (74, .goto (-69))] (by decide +kernel) (pc1 := 5) (ls1 := [some (aR 0 0), some (aI (v1 + q13.1)), some (aI (1 : Int32)), some (aI q13.1)]) (st1 := []) (σ1 := q13.2) (P := []) rfl trivial ?_
            refine XW.loc [true, true, false, false] rfl ?_
            exact ih (v1 + q13.1) q13.2 hm
          · rw [if_neg h12] at hm
            refine XW.bk B [(43, .iconst 0), (44, .istore_n 2), (45, .aload_n 0), (46, .dup), (47, .getfield 150), (50, .iconst 1), (51, .iadd), (52, .putfield 150), (55, .aload_n 0)] (by decide +kernel) (pc1 := 56) (ls1 := [some (aR 0 0), some (aI v1), some (aI (0 : Int32)), none]) (st1 := [aR 0 0]) (σ1 := (sI σ 0 0 13 ((σ.1 0 0 13) + (1 : Int32)))) (P := []) rfl trivial ?_
            obtain ⟨q14, hq14, hm⟩ := obind_eq hm
            refine XW.callV B (M := M_X11_product) (t := 0) (j := 0) (cn := 1) (as := []) (hrec_4 (sI σ 0 0 13 ((σ.1 0 0 13) + (1 : Int32))) hq14) (Nat.lt_succ_self _) wV_X11_product wN_X11_product lk_X11_178 rfl rfl rfl (by decide) rfl (Nat.le_of_ble_eq_true rfl) (by decide +kernel) ?_
            refine XW.bb B [(59, .istore_n 3), (60, .iload_n 2)] (by decide +kernel) (pc1 := 61) (ls1 := [some (aR 0 0), some (aI v1), some (aI (0 : Int32)), some (aI q14.1)]) (st1 := [aI (0 : Int32)]) (σ1 := q14.2) (P := []) (i := .ifCond .eq 9) (tgt := 70) (q := (0 : Int32) = (0 : Int32)) rfl trivial (by decide +kernel) rfl (by decide) (fun _ => ?_) (fun h => absurd (by decide) h)
            refine XW.bk B [(70, .iload_n 1), (71, .iload_n 3), (72, .isub), (73, .istore_n 1), (74, .goto (-69))] (by decide +kernel) (pc1 := 5) (ls1 := [some (aR 0 0), some (aI (v1 - q14.1)), some (aI (0 : Int32)), some (aI q14.1)]) (st1 := []) (σ1 := q14.2) (P := []) rfl trivial ?_
            refine XW.loc [true, true, false, false] rfl ?_
            exact ih (v1 - q14.1) q14.2 hm
        · rw [if_neg h10] at hm
          refine XW.bk B [(77, .iload_n 1)] (by decide +kernel) (pc1 := 78) (ls1 := [some (aR 0 0), some (aI v1), none, none]) (st1 := [aI v1]) (σ1 := σ) (P := []) rfl trivial ?_
          obtain ⟨rfl, rfl⟩ := Prod.mk.inj (Option.some.inj hm)
          exact XW.iret B q (by decide +kernel)
set_option maxRecDepth 100000 in
set_option maxHeartbeats 4000000 in
theorem c_X11_sums (rec : Nat → SS → Option (Int32 × SS)) (dr : Nat) (hdr : 2 ≤ dr) (hrec_0 : ∀ (σ : SS) {r : Int32} {σ' : SS}, rec 0 σ = some (r, σ') → XM LM dr M_X11_either [aR 0 0] σ (some (aI r)) σ') (hrec_1 : ∀ (σ : SS) {r : Int32} {σ' : SS}, rec 1 σ = some (r, σ') → XM LM dr M_X11_both [aR 0 0] σ (some (aI r)) σ') (hrec_2 : ∀ (σ : SS) {r : Int32} {σ' : SS}, rec 2 σ = some (r, σ') → XM LM dr M_X11_compared [aR 0 0] σ (some (aI r)) σ') (hrec_3 : ∀ (σ : SS) {r : Int32} {σ' : SS}, rec 3 σ = some (r, σ') → XM LM dr M_X11_sums [aR 0 0] σ (some (aI r)) σ') (hrec_4 : ∀ (σ : SS) {r : Int32} {σ' : SS}, rec 4 σ = some (r, σ') → XM LM dr M_X11_product [aR 0 0] σ (some (aI r)) σ') (hrec_5 : ∀ (σ : SS) {r : Int32} {σ' : SS}, rec 5 σ = some (r, σ') → XM LM dr M_X11_one [aR 0 0] σ (some (aI r)) σ') (σ : SS) {r : Int32} {σ' : SS} (hm : m_X11_sums rec σ = some (r, σ')) : XM LM (dr + 1) M_X11_sums [aR 0 0] σ (some (aI r)) σ' := by
  refine XM.of (K := K11) (Nat.succ_le_succ (Nat.zero_le _)) (by decide +kernel) K11_ok (Nat.le_of_ble_eq_true rfl) (fun Γ B q => ?_)
  unfold m_X11_sums at hm
  refine XW.bk B [(0, .aload_n 0)] (by decide +kernel) (pc1 := 1) (ls1 := [some (aR 0 0), none, none, none]) (st1 := [aR 0 0]) (σ1 := σ) (P := []) rfl trivial ?_
  obtain ⟨q1, hq1, hm⟩ := obind_eq hm
  refine XW.callV B (M := M_X11_product) (t := 0) (j := 0) (cn := 1) (as := []) (hrec_4 σ hq1) (Nat.lt_succ_self _) wV_X11_product wN_X11_product lk_X11_178 rfl rfl rfl (by decide) rfl (Nat.le_of_ble_eq_true rfl) (by decide +kernel) ?_
  refine XW.bk B [(4, .istore_n 1)] (by decide +kernel) (pc1 := 5) (ls1 := [some (aR 0 0), some (aI q1.1), none, none]) (st1 := []) (σ1 := q1.2) (P := []) rfl trivial ?_
  exact lp_X11_sums_5 rec dr hdr hrec_0 hrec_1 hrec_2 hrec_3 hrec_4 hrec_5 B q FU q1.1 q1.2 hm
def L_X11_product_10 (rec : Nat → SS → Option (Int32 × SS)) : Nat → Int32 → Int32 → SS → Option (Int32 × SS)
  | 0, _, _, _ => none
  | n + 1, v1, v2, σ =>
    if (0 : Int32) ≤ (σ.1 0 0 15) then
      some (v1, σ)
    else
    if v2 = (42 : Int32) then
      Option.bind (rec 5 (sI σ 0 0 13 ((σ.1 0 0 13) + (1 : Int32)))) (fun q5 =>
      Option.bind (m_X11_byteAt q5.2) (fun q6 =>
      L_X11_product_10 rec n (v1 * q5.1) q6 q5.2))
    else
    if v2 = (47 : Int32) then
      Option.bind (rec 5 (sI σ 0 0 13 ((σ.1 0 0 13) + (1 : Int32)))) (fun q8 =>
      if q8.1 = (0 : Int32) then
        Option.bind (m_X11_byteAt q8.2) (fun q10 =>
        L_X11_product_10 rec n (0 : Int32) q10 q8.2)
      else
      Option.bind (m_X11_byteAt q8.2) (fun q11 =>
      L_X11_product_10 rec n (v1 / q8.1) q11 q8.2))
    else
    if v2 = (37 : Int32) then
      Option.bind (rec 5 (sI σ 0 0 13 ((σ.1 0 0 13) + (1 : Int32)))) (fun q13 =>
      if q13.1 = (0 : Int32) then
        Option.bind (m_X11_byteAt q13.2) (fun q15 =>
        L_X11_product_10 rec n (0 : Int32) q15 q13.2)
      else
      Option.bind (m_X11_byteAt q13.2) (fun q16 =>
      L_X11_product_10 rec n (v1 - (v1 / q13.1) * q13.1) q16 q13.2))
    else
    some (v1, σ)
def m_X11_product (rec : Nat → SS → Option (Int32 × SS)) (σ : SS) : Option (Int32 × SS) :=
  Option.bind (rec 5 σ) (fun q1 =>
  Option.bind (m_X11_byteAt q1.2) (fun q2 =>
  L_X11_product_10 rec FU q1.1 q2 q1.2))
set_option maxRecDepth 100000 in
set_option maxHeartbeats 4000000 in
theorem lp_X11_product_10 (rec : Nat → SS → Option (Int32 × SS)) (dr : Nat) (hdr : 2 ≤ dr) (hrec_0 : ∀ (σ : SS) {r : Int32} {σ' : SS}, rec 0 σ = some (r, σ') → XM LM dr M_X11_either [aR 0 0] σ (some (aI r)) σ') (hrec_1 : ∀ (σ : SS) {r : Int32} {σ' : SS}, rec 1 σ = some (r, σ') → XM LM dr M_X11_both [aR 0 0] σ (some (aI r)) σ') (hrec_2 : ∀ (σ : SS) {r : Int32} {σ' : SS}, rec 2 σ = some (r, σ') → XM LM dr M_X11_compared [aR 0 0] σ (some (aI r)) σ') (hrec_3 : ∀ (σ : SS) {r : Int32} {σ' : SS}, rec 3 σ = some (r, σ') → XM LM dr M_X11_sums [aR 0 0] σ (some (aI r)) σ') (hrec_4 : ∀ (σ : SS) {r : Int32} {σ' : SS}, rec 4 σ = some (r, σ') → XM LM dr M_X11_product [aR 0 0] σ (some (aI r)) σ') (hrec_5 : ∀ (σ : SS) {r : Int32} {σ' : SS}, rec 5 σ = some (r, σ') → XM LM dr M_X11_one [aR 0 0] σ (some (aI r)) σ') {Γ : XC} {r : Int32} {σ' : SS} (B : XB Γ cX11_product RX11 (dr + 1) K11 LM 4) (q : XQ Γ (some .int) (some (aI r)) σ') : ∀ (n : Nat) (v1 : Int32) (v2 : Int32) (σ : SS), L_X11_product_10 rec n v1 v2 σ = some (r, σ') → XW Γ 10 [some (aR 0 0), some (aI v1), some (aI v2), none] [] σ := by
  intro n
  induction n with
  | zero => intro v1 v2 σ hm; cases hm
  | succ n ih =>
    intro v1 v2 σ hm
    rw [L_X11_product_10] at hm
    refine XW.bb B [(10, .aload_n 0), (11, .getfield 159)] (by decide +kernel) (pc1 := 14) (ls1 := [some (aR 0 0), some (aI v1), some (aI v2), none]) (st1 := [aI (σ.1 0 0 15)]) (σ1 := σ) (P := []) (i := .ifCond .ge 80) (tgt := 94) (q := (0 : Int32) ≤ (σ.1 0 0 15)) rfl trivial (by decide +kernel) rfl (by decide) (fun h3 => ?_) (fun h3 => ?_)
    · rw [if_pos h3] at hm
      refine XW.bk B [(94, .iload_n 1)] (by decide +kernel) (pc1 := 95) (ls1 := [some (aR 0 0), some (aI v1), some (aI v2), none]) (st1 := [aI v1]) (σ1 := σ) (P := []) rfl trivial ?_
      obtain ⟨rfl, rfl⟩ := Prod.mk.inj (Option.some.inj hm)
      exact XW.iret B q (by decide +kernel)
    · rw [if_neg h3] at hm
      refine XW.bb B [(17, .iload_n 2), (18, .bipush 42)] (by decide +kernel) (pc1 := 20) (ls1 := [some (aR 0 0), some (aI v1), some (aI v2), none]) (st1 := [aI (42 : Int32), aI v2]) (σ1 := σ) (P := []) (i := .if_icmp .eq 15) (tgt := 35) (q := v2 = (42 : Int32)) rfl trivial (by decide +kernel) rfl (by decide) (fun h4 => ?_) (fun h4 => ?_)
      · rw [if_pos h4] at hm
        refine XW.bk B [(35, .aload_n 0), (36, .dup), (37, .getfield 150), (40, .iconst 1), (41, .iadd), (42, .putfield 150), (45, .aload_n 0)] (by decide +kernel) (pc1 := 46) (ls1 := [some (aR 0 0), some (aI v1), some (aI v2), none]) (st1 := [aR 0 0]) (σ1 := (sI σ 0 0 13 ((σ.1 0 0 13) + (1 : Int32)))) (P := []) rfl trivial ?_
        obtain ⟨q5, hq5, hm⟩ := obind_eq hm
        refine XW.callV B (M := M_X11_one) (t := 0) (j := 0) (cn := 1) (as := []) (hrec_5 (sI σ 0 0 13 ((σ.1 0 0 13) + (1 : Int32))) hq5) (Nat.lt_succ_self _) wV_X11_one wN_X11_one lk_X11_181 rfl rfl rfl (by decide) rfl (Nat.le_of_ble_eq_true rfl) (by decide +kernel) ?_
        refine XW.bn B [(49, .istore_n 3), (50, .iload_n 2), (51, .bipush 42)] (by decide +kernel) (pc1 := 53) (ls1 := [some (aR 0 0), some (aI v1), some (aI v2), some (aI q5.1)]) (st1 := [aI (42 : Int32), aI v2]) (σ1 := q5.2) (P := []) (i := .if_icmp .ne 9) (tgt := 62) (q := v2 = (42 : Int32)) rfl trivial (by decide +kernel) rfl (by decide) (fun _ => ?_) (fun h => absurd h4 h)
        refine XW.bk B [(56, .iload_n 1), (57, .iload_n 3), (58, .imul), (59, .goto 26), (85, .istore_n 1), (86, .aload_n 0)] (by decide +kernel) (pc1 := 87) (ls1 := [some (aR 0 0), some (aI (v1 * q5.1)), some (aI v2), some (aI q5.1)]) (st1 := [aR 0 0]) (σ1 := q5.2) (P := []) rfl trivial ?_
        obtain ⟨q6, hq6, hm⟩ := obind_eq hm
        refine XW.callV B (M := M_X11_byteAt) (t := 0) (j := 0) (cn := 1) (as := []) (c_X11_byteAt q5.2 hq6) (by omega) wV_X11_byteAt wN_X11_byteAt lk_X11_162 rfl rfl rfl (by decide) rfl (Nat.le_of_ble_eq_true rfl) (by decide +kernel) ?_
        refine XW.bk B [(90, .istore_n 2), (91, .goto (-81))] (by decide +kernel) (pc1 := 10) (ls1 := [some (aR 0 0), some (aI (v1 * q5.1)), some (aI q6), some (aI q5.1)]) (st1 := []) (σ1 := q5.2) (P := []) rfl trivial ?_
        refine XW.loc [true, true, true, false] rfl ?_
        exact ih (v1 * q5.1) q6 q5.2 hm
      · rw [if_neg h4] at hm
        refine XW.bb B [(23, .iload_n 2), (24, .bipush 47)] (by decide +kernel) (pc1 := 26) (ls1 := [some (aR 0 0), some (aI v1), some (aI v2), none]) (st1 := [aI (47 : Int32), aI v2]) (σ1 := σ) (P := []) (i := .if_icmp .eq 9) (tgt := 35) (q := v2 = (47 : Int32)) rfl trivial (by decide +kernel) rfl (by decide) (fun h7 => ?_) (fun h7 => ?_)
        · rw [if_pos h7] at hm
          refine XW.bk B [(35, .aload_n 0), (36, .dup), (37, .getfield 150), (40, .iconst 1), (41, .iadd), (42, .putfield 150), (45, .aload_n 0)] (by decide +kernel) (pc1 := 46) (ls1 := [some (aR 0 0), some (aI v1), some (aI v2), none]) (st1 := [aR 0 0]) (σ1 := (sI σ 0 0 13 ((σ.1 0 0 13) + (1 : Int32)))) (P := []) rfl trivial ?_
          obtain ⟨q8, hq8, hm⟩ := obind_eq hm
          refine XW.callV B (M := M_X11_one) (t := 0) (j := 0) (cn := 1) (as := []) (hrec_5 (sI σ 0 0 13 ((σ.1 0 0 13) + (1 : Int32))) hq8) (Nat.lt_succ_self _) wV_X11_one wN_X11_one lk_X11_181 rfl rfl rfl (by decide) rfl (Nat.le_of_ble_eq_true rfl) (by decide +kernel) ?_
          refine XW.bn B [(49, .istore_n 3), (50, .iload_n 2), (51, .bipush 42)] (by decide +kernel) (pc1 := 53) (ls1 := [some (aR 0 0), some (aI v1), some (aI v2), some (aI q8.1)]) (st1 := [aI (42 : Int32), aI v2]) (σ1 := q8.2) (P := []) (i := .if_icmp .ne 9) (tgt := 62) (q := v2 = (42 : Int32)) rfl trivial (by decide +kernel) rfl (by decide) (fun h => absurd h h4) (fun _ => ?_)
          refine XW.bn B [(62, .iload_n 3)] (by decide +kernel) (pc1 := 63) (ls1 := [some (aR 0 0), some (aI v1), some (aI v2), some (aI q8.1)]) (st1 := [aI q8.1]) (σ1 := q8.2) (P := []) (i := .ifCond .ne 7) (tgt := 70) (q := q8.1 = (0 : Int32)) rfl trivial (by decide +kernel) rfl (by decide) (fun h9 => ?_) (fun h9 => ?_)
          · rw [if_pos h9] at hm
            refine XW.bk B [(66, .iconst 0), (67, .goto 18), (85, .istore_n 1), (86, .aload_n 0)] (by decide +kernel) (pc1 := 87) (ls1 := [some (aR 0 0), some (aI (0 : Int32)), some (aI v2), some (aI q8.1)]) (st1 := [aR 0 0]) (σ1 := q8.2) (P := []) rfl trivial ?_
            obtain ⟨q10, hq10, hm⟩ := obind_eq hm
            refine XW.callV B (M := M_X11_byteAt) (t := 0) (j := 0) (cn := 1) (as := []) (c_X11_byteAt q8.2 hq10) (by omega) wV_X11_byteAt wN_X11_byteAt lk_X11_162 rfl rfl rfl (by decide) rfl (Nat.le_of_ble_eq_true rfl) (by decide +kernel) ?_
            refine XW.bk B [(90, .istore_n 2), (91, .goto (-81))] (by decide +kernel) (pc1 := 10) (ls1 := [some (aR 0 0), some (aI (0 : Int32)), some (aI q10), some (aI q8.1)]) (st1 := []) (σ1 := q8.2) (P := []) rfl trivial ?_
            refine XW.loc [true, true, true, false] rfl ?_
            exact ih (0 : Int32) q10 q8.2 hm
          · rw [if_neg h9] at hm
            refine XW.bn B [(70, .iload_n 2), (71, .bipush 47)] (by decide +kernel) (pc1 := 73) (ls1 := [some (aR 0 0), some (aI v1), some (aI v2), some (aI q8.1)]) (st1 := [aI (47 : Int32), aI v2]) (σ1 := q8.2) (P := []) (i := .if_icmp .ne 9) (tgt := 82) (q := v2 = (47 : Int32)) rfl trivial (by decide +kernel) rfl (by decide) (fun _ => ?_) (fun h => absurd h7 h)
            refine XW.bk B [(76, .iload_n 1), (77, .iload_n 3), (78, .idiv), (79, .goto 6), (85, .istore_n 1), (86, .aload_n 0)] (by decide +kernel) (pc1 := 87) (ls1 := [some (aR 0 0), some (aI (v1 / q8.1)), some (aI v2), some (aI q8.1)]) (st1 := [aR 0 0]) (σ1 := q8.2) (P := [¬ q8.1 = 0]) rfl ⟨h9, trivial⟩ ?_
            obtain ⟨q11, hq11, hm⟩ := obind_eq hm
            refine XW.callV B (M := M_X11_byteAt) (t := 0) (j := 0) (cn := 1) (as := []) (c_X11_byteAt q8.2 hq11) (by omega) wV_X11_byteAt wN_X11_byteAt lk_X11_162 rfl rfl rfl (by decide) rfl (Nat.le_of_ble_eq_true rfl) (by decide +kernel) ?_
            refine XW.bk B [(90, .istore_n 2), (91, .goto (-81))] (by decide +kernel) (pc1 := 10) (ls1 := [some (aR 0 0), some (aI (v1 / q8.1)), some (aI q11), some (aI q8.1)]) (st1 := []) (σ1 := q8.2) (P := []) rfl trivial ?_
            refine XW.loc [true, true, true, false] rfl ?_
            exact ih (v1 / q8.1) q11 q8.2 hm
        · rw [if_neg h7] at hm
          refine XW.bn B [(29, .iload_n 2), (30, .bipush 37)] (by decide +kernel) (pc1 := 32) (ls1 := [some (aR 0 0), some (aI v1), some (aI v2), none]) (st1 := [aI (37 : Int32), aI v2]) (σ1 := σ) (P := []) (i := .if_icmp .ne 62) (tgt := 94) (q := v2 = (37 : Int32)) rfl trivial (by decide +kernel) rfl (by decide) (fun h12 => ?_) (fun h12 => ?_)
          · rw [if_pos h12] at hm
            refine XW.bk B [(35, .aload_n 0), (36, .dup), (37, .getfield 150), (40, .iconst 1), (41, .iadd), (42, .putfield 150), (45, .aload_n 0)] (by decide +kernel) (pc1 := 46) (ls1 := [some (aR 0 0), some (aI v1), some (aI v2), none]) (st1 := [aR 0 0]) (σ1 := (sI σ 0 0 13 ((σ.1 0 0 13) + (1 : Int32)))) (P := []) rfl trivial ?_
            obtain ⟨q13, hq13, hm⟩ := obind_eq hm
            refine XW.callV B (M := M_X11_one) (t := 0) (j := 0) (cn := 1) (as := []) (hrec_5 (sI σ 0 0 13 ((σ.1 0 0 13) + (1 : Int32))) hq13) (Nat.lt_succ_self _) wV_X11_one wN_X11_one lk_X11_181 rfl rfl rfl (by decide) rfl (Nat.le_of_ble_eq_true rfl) (by decide +kernel) ?_
            refine XW.bn B [(49, .istore_n 3), (50, .iload_n 2), (51, .bipush 42)] (by decide +kernel) (pc1 := 53) (ls1 := [some (aR 0 0), some (aI v1), some (aI v2), some (aI q13.1)]) (st1 := [aI (42 : Int32), aI v2]) (σ1 := q13.2) (P := []) (i := .if_icmp .ne 9) (tgt := 62) (q := v2 = (42 : Int32)) rfl trivial (by decide +kernel) rfl (by decide) (fun h => absurd h h4) (fun _ => ?_)
            refine XW.bn B [(62, .iload_n 3)] (by decide +kernel) (pc1 := 63) (ls1 := [some (aR 0 0), some (aI v1), some (aI v2), some (aI q13.1)]) (st1 := [aI q13.1]) (σ1 := q13.2) (P := []) (i := .ifCond .ne 7) (tgt := 70) (q := q13.1 = (0 : Int32)) rfl trivial (by decide +kernel) rfl (by decide) (fun h14 => ?_) (fun h14 => ?_)
            · rw [if_pos h14] at hm
              refine XW.bk B [(66, .iconst 0), (67, .goto 18), (85, .istore_n 1), (86, .aload_n 0)] (by decide +kernel) (pc1 := 87) (ls1 := [some (aR 0 0), some (aI (0 : Int32)), some (aI v2), some (aI q13.1)]) (st1 := [aR 0 0]) (σ1 := q13.2) (P := []) rfl trivial ?_
              obtain ⟨q15, hq15, hm⟩ := obind_eq hm
              refine XW.callV B (M := M_X11_byteAt) (t := 0) (j := 0) (cn := 1) (as := []) (c_X11_byteAt q13.2 hq15) (by omega) wV_X11_byteAt wN_X11_byteAt lk_X11_162 rfl rfl rfl (by decide) rfl (Nat.le_of_ble_eq_true rfl) (by decide +kernel) ?_
              refine XW.bk B [(90, .istore_n 2), (91, .goto (-81))] (by decide +kernel) (pc1 := 10) (ls1 := [some (aR 0 0), some (aI (0 : Int32)), some (aI q15), some (aI q13.1)]) (st1 := []) (σ1 := q13.2) (P := []) rfl trivial ?_
              refine XW.loc [true, true, true, false] rfl ?_
              exact ih (0 : Int32) q15 q13.2 hm
            · rw [if_neg h14] at hm
              refine XW.bn B [(70, .iload_n 2), (71, .bipush 47)] (by decide +kernel) (pc1 := 73) (ls1 := [some (aR 0 0), some (aI v1), some (aI v2), some (aI q13.1)]) (st1 := [aI (47 : Int32), aI v2]) (σ1 := q13.2) (P := []) (i := .if_icmp .ne 9) (tgt := 82) (q := v2 = (47 : Int32)) rfl trivial (by decide +kernel) rfl (by decide) (fun h => absurd h h7) (fun _ => ?_)
              refine XW.bk B [(82, .iload_n 1), (83, .iload_n 3), (84, .irem), (85, .istore_n 1), (86, .aload_n 0)] (by decide +kernel) (pc1 := 87) (ls1 := [some (aR 0 0), some (aI (v1 - (v1 / q13.1) * q13.1)), some (aI v2), some (aI q13.1)]) (st1 := [aR 0 0]) (σ1 := q13.2) (P := [¬ q13.1 = 0]) rfl ⟨h14, trivial⟩ ?_
              obtain ⟨q16, hq16, hm⟩ := obind_eq hm
              refine XW.callV B (M := M_X11_byteAt) (t := 0) (j := 0) (cn := 1) (as := []) (c_X11_byteAt q13.2 hq16) (by omega) wV_X11_byteAt wN_X11_byteAt lk_X11_162 rfl rfl rfl (by decide) rfl (Nat.le_of_ble_eq_true rfl) (by decide +kernel) ?_
              refine XW.bk B [(90, .istore_n 2), (91, .goto (-81))] (by decide +kernel) (pc1 := 10) (ls1 := [some (aR 0 0), some (aI (v1 - (v1 / q13.1) * q13.1)), some (aI q16), some (aI q13.1)]) (st1 := []) (σ1 := q13.2) (P := []) rfl trivial ?_
              refine XW.loc [true, true, true, false] rfl ?_
              exact ih (v1 - (v1 / q13.1) * q13.1) q16 q13.2 hm
          · rw [if_neg h12] at hm
            refine XW.bk B [(94, .iload_n 1)] (by decide +kernel) (pc1 := 95) (ls1 := [some (aR 0 0), some (aI v1), some (aI v2), none]) (st1 := [aI v1]) (σ1 := σ) (P := []) rfl trivial ?_
            obtain ⟨rfl, rfl⟩ := Prod.mk.inj (Option.some.inj hm)
            exact XW.iret B q (by decide +kernel)
set_option maxRecDepth 100000 in
set_option maxHeartbeats 4000000 in
theorem c_X11_product (rec : Nat → SS → Option (Int32 × SS)) (dr : Nat) (hdr : 2 ≤ dr) (hrec_0 : ∀ (σ : SS) {r : Int32} {σ' : SS}, rec 0 σ = some (r, σ') → XM LM dr M_X11_either [aR 0 0] σ (some (aI r)) σ') (hrec_1 : ∀ (σ : SS) {r : Int32} {σ' : SS}, rec 1 σ = some (r, σ') → XM LM dr M_X11_both [aR 0 0] σ (some (aI r)) σ') (hrec_2 : ∀ (σ : SS) {r : Int32} {σ' : SS}, rec 2 σ = some (r, σ') → XM LM dr M_X11_compared [aR 0 0] σ (some (aI r)) σ') (hrec_3 : ∀ (σ : SS) {r : Int32} {σ' : SS}, rec 3 σ = some (r, σ') → XM LM dr M_X11_sums [aR 0 0] σ (some (aI r)) σ') (hrec_4 : ∀ (σ : SS) {r : Int32} {σ' : SS}, rec 4 σ = some (r, σ') → XM LM dr M_X11_product [aR 0 0] σ (some (aI r)) σ') (hrec_5 : ∀ (σ : SS) {r : Int32} {σ' : SS}, rec 5 σ = some (r, σ') → XM LM dr M_X11_one [aR 0 0] σ (some (aI r)) σ') (σ : SS) {r : Int32} {σ' : SS} (hm : m_X11_product rec σ = some (r, σ')) : XM LM (dr + 1) M_X11_product [aR 0 0] σ (some (aI r)) σ' := by
  refine XM.of (K := K11) (Nat.succ_le_succ (Nat.zero_le _)) (by decide +kernel) K11_ok (Nat.le_of_ble_eq_true rfl) (fun Γ B q => ?_)
  unfold m_X11_product at hm
  refine XW.bk B [(0, .aload_n 0)] (by decide +kernel) (pc1 := 1) (ls1 := [some (aR 0 0), none, none, none]) (st1 := [aR 0 0]) (σ1 := σ) (P := []) rfl trivial ?_
  obtain ⟨q1, hq1, hm⟩ := obind_eq hm
  refine XW.callV B (M := M_X11_one) (t := 0) (j := 0) (cn := 1) (as := []) (hrec_5 σ hq1) (Nat.lt_succ_self _) wV_X11_one wN_X11_one lk_X11_181 rfl rfl rfl (by decide) rfl (Nat.le_of_ble_eq_true rfl) (by decide +kernel) ?_
  refine XW.bk B [(4, .istore_n 1), (5, .aload_n 0)] (by decide +kernel) (pc1 := 6) (ls1 := [some (aR 0 0), some (aI q1.1), none, none]) (st1 := [aR 0 0]) (σ1 := q1.2) (P := []) rfl trivial ?_
  obtain ⟨q2, hq2, hm⟩ := obind_eq hm
  refine XW.callV B (M := M_X11_byteAt) (t := 0) (j := 0) (cn := 1) (as := []) (c_X11_byteAt q1.2 hq2) (by omega) wV_X11_byteAt wN_X11_byteAt lk_X11_162 rfl rfl rfl (by decide) rfl (Nat.le_of_ble_eq_true rfl) (by decide +kernel) ?_
  refine XW.bk B [(9, .istore_n 2)] (by decide +kernel) (pc1 := 10) (ls1 := [some (aR 0 0), some (aI q1.1), some (aI q2), none]) (st1 := []) (σ1 := q1.2) (P := []) rfl trivial ?_
  exact lp_X11_product_10 rec dr hdr hrec_0 hrec_1 hrec_2 hrec_3 hrec_4 hrec_5 B q FU q1.1 q2 q1.2 hm
def L_X11_one_176 (rec : Nat → SS → Option (Int32 × SS)) : Nat → Int32 → Int32 → SS → Option (Int32 × SS)
  | 0, _, _, _ => none
  | n + 1, v3, v4, σ =>
    if (4 : Int32) ≤ v4 then
      if v4 = (0 : Int32) then
        bnT (m_X11_wrong σ) (fun q33 =>
        some (q33.1, q33.2))
      else
      some (v3, σ)
    else
    Option.bind (m_X11_byteAt σ) (fun q34 =>
    if q34 < (48 : Int32) then
      if v4 = (0 : Int32) then
        bnT (m_X11_wrong σ) (fun q37 =>
        some (q37.1, q37.2))
      else
      some (v3, σ)
    else
    Option.bind (m_X11_byteAt σ) (fun q38 =>
    if (57 : Int32) < q38 then
      if v4 = (0 : Int32) then
        bnT (m_X11_wrong σ) (fun q41 =>
        some (q41.1, q41.2))
      else
      some (v3, σ)
    else
    Option.bind (m_X11_byteAt σ) (fun q42 =>
    L_X11_one_176 rec n ((((10 : Int32) * v3) + q42) - (48 : Int32)) (v4 + (1 : Int32)) (sI σ 0 0 13 ((σ.1 0 0 13) + (1 : Int32))))))
def m_X11_one (rec : Nat → SS → Option (Int32 × SS)) (σ : SS) : Option (Int32 × SS) :=
  if (σ.1 0 0 15) < (0 : Int32) then
    Option.bind (m_X11_byteAt σ) (fun q2 =>
    if q2 = (33 : Int32) then
      if (σ.1 0 0 16) = (6 : Int32) then
        bnT (m_X11_wrong σ) (fun q5 =>
        some (q5.1, q5.2))
      else
      if q2 = (40 : Int32) then
        Option.bind (rec 0 (sI (sI σ 0 0 16 ((σ.1 0 0 16) + (1 : Int32))) 0 0 13 ((σ.1 0 0 13) + (1 : Int32)))) (fun q7 =>
        Option.bind (m_X11_takes (41 : Int32) q7.2) (fun q8 =>
        if q8.1 = (0 : Int32) then
          bnT (m_X11_wrong q8.2) (fun q10 =>
          some (q10.1, q10.2))
        else
        some (q7.1, (sI q8.2 0 0 16 ((q8.2.1 0 0 16) - (1 : Int32))))))
      else
      Option.bind (rec 5 (sI (sI σ 0 0 16 ((σ.1 0 0 16) + (1 : Int32))) 0 0 13 ((σ.1 0 0 13) + (1 : Int32)))) (fun q11 =>
      if q2 = (45 : Int32) then
        some ((-q11.1), (sI q11.2 0 0 16 ((q11.2.1 0 0 16) - (1 : Int32))))
      else
      if q11.1 = (0 : Int32) then
        some ((1 : Int32), (sI q11.2 0 0 16 ((q11.2.1 0 0 16) - (1 : Int32))))
      else
      some ((0 : Int32), (sI q11.2 0 0 16 ((q11.2.1 0 0 16) - (1 : Int32)))))
    else
    if q2 = (45 : Int32) then
      if (σ.1 0 0 16) = (6 : Int32) then
        bnT (m_X11_wrong σ) (fun q16 =>
        some (q16.1, q16.2))
      else
      if q2 = (40 : Int32) then
        Option.bind (rec 0 (sI (sI σ 0 0 16 ((σ.1 0 0 16) + (1 : Int32))) 0 0 13 ((σ.1 0 0 13) + (1 : Int32)))) (fun q18 =>
        Option.bind (m_X11_takes (41 : Int32) q18.2) (fun q19 =>
        if q19.1 = (0 : Int32) then
          bnT (m_X11_wrong q19.2) (fun q21 =>
          some (q21.1, q21.2))
        else
        some (q18.1, (sI q19.2 0 0 16 ((q19.2.1 0 0 16) - (1 : Int32))))))
      else
      Option.bind (rec 5 (sI (sI σ 0 0 16 ((σ.1 0 0 16) + (1 : Int32))) 0 0 13 ((σ.1 0 0 13) + (1 : Int32)))) (fun q22 =>
      some ((-q22.1), (sI q22.2 0 0 16 ((q22.2.1 0 0 16) - (1 : Int32)))))
    else
    if q2 = (40 : Int32) then
      if (σ.1 0 0 16) = (6 : Int32) then
        bnT (m_X11_wrong σ) (fun q25 =>
        some (q25.1, q25.2))
      else
      Option.bind (rec 0 (sI (sI σ 0 0 16 ((σ.1 0 0 16) + (1 : Int32))) 0 0 13 ((σ.1 0 0 13) + (1 : Int32)))) (fun q26 =>
      Option.bind (m_X11_takes (41 : Int32) q26.2) (fun q27 =>
      if q27.1 = (0 : Int32) then
        bnT (m_X11_wrong q27.2) (fun q29 =>
        some (q29.1, q29.2))
      else
      some (q26.1, (sI q27.2 0 0 16 ((q27.2.1 0 0 16) - (1 : Int32))))))
    else
    if (m_X11_nameOf q2) < (0 : Int32) then
      L_X11_one_176 rec FU (0 : Int32) (0 : Int32) σ
    else
    if (m_X11_nameOf q2) < 0 ∨ 6 ≤ (m_X11_nameOf q2).toNatClampNeg then none else
    some ((σ.2.1 7 0 (m_X11_nameOf q2).toNatClampNeg), (sI σ 0 0 13 ((σ.1 0 0 13) + (1 : Int32)))))
  else
  some ((0 : Int32), σ)
set_option maxRecDepth 100000 in
set_option maxHeartbeats 4000000 in
theorem lp_X11_one_176 (rec : Nat → SS → Option (Int32 × SS)) (dr : Nat) (hdr : 2 ≤ dr) (hrec_0 : ∀ (σ : SS) {r : Int32} {σ' : SS}, rec 0 σ = some (r, σ') → XM LM dr M_X11_either [aR 0 0] σ (some (aI r)) σ') (hrec_1 : ∀ (σ : SS) {r : Int32} {σ' : SS}, rec 1 σ = some (r, σ') → XM LM dr M_X11_both [aR 0 0] σ (some (aI r)) σ') (hrec_2 : ∀ (σ : SS) {r : Int32} {σ' : SS}, rec 2 σ = some (r, σ') → XM LM dr M_X11_compared [aR 0 0] σ (some (aI r)) σ') (hrec_3 : ∀ (σ : SS) {r : Int32} {σ' : SS}, rec 3 σ = some (r, σ') → XM LM dr M_X11_sums [aR 0 0] σ (some (aI r)) σ') (hrec_4 : ∀ (σ : SS) {r : Int32} {σ' : SS}, rec 4 σ = some (r, σ') → XM LM dr M_X11_product [aR 0 0] σ (some (aI r)) σ') (hrec_5 : ∀ (σ : SS) {r : Int32} {σ' : SS}, rec 5 σ = some (r, σ') → XM LM dr M_X11_one [aR 0 0] σ (some (aI r)) σ') {Γ : XC} {r : Int32} {σ' : SS} (B : XB Γ cX11_one RX11 (dr + 1) K11 LM 5) (q : XQ Γ (some .int) (some (aI r)) σ') : ∀ (n : Nat) (v3 : Int32) (v4 : Int32) (σ : SS), L_X11_one_176 rec n v3 v4 σ = some (r, σ') → XW Γ 176 [some (aR 0 0), none, none, some (aI v3), some (aI v4)] [] σ := by
  intro n
  induction n with
  | zero => intro v3 v4 σ hm; cases hm
  | succ n ih =>
    intro v3 v4 σ hm
    rw [L_X11_one_176] at hm
    refine XW.bb B [(176, .iload 4), (178, .iconst 4)] (by decide +kernel) (pc1 := 179) (ls1 := [some (aR 0 0), none, none, some (aI v3), some (aI v4)]) (st1 := [aI (4 : Int32), aI v4]) (σ1 := σ) (P := []) (i := .if_icmp .ge 50) (tgt := 229) (q := (4 : Int32) ≤ v4) rfl trivial (by decide +kernel) rfl (by decide) (fun h31 => ?_) (fun h31 => ?_)
    · rw [if_pos h31] at hm
      refine XW.bn B [(229, .iload 4)] (by decide +kernel) (pc1 := 231) (ls1 := [some (aR 0 0), none, none, some (aI v3), some (aI v4)]) (st1 := [aI v4]) (σ1 := σ) (P := []) (i := .ifCond .ne 10) (tgt := 241) (q := v4 = (0 : Int32)) rfl trivial (by decide +kernel) rfl (by decide) (fun h32 => ?_) (fun h32 => ?_)
      · rw [if_pos h32] at hm
        refine XW.bk B [(234, .aload_n 0)] (by decide +kernel) (pc1 := 235) (ls1 := [some (aR 0 0), none, none, some (aI v3), some (aI v4)]) (st1 := [aR 0 0]) (σ1 := σ) (P := []) rfl trivial ?_
        obtain ⟨q33, hq33, hm⟩ := bnT_eq hm
        refine XW.callV B (M := M_X11_wrong) (t := 0) (j := 0) (cn := 1) (as := []) (c_X11_wrong σ hq33) (by omega) wV_X11_wrong wN_X11_wrong lk_X11_187 rfl rfl rfl (by decide) rfl (Nat.le_of_ble_eq_true rfl) (by decide +kernel) ?_
        refine XW.bk B [(238, .goto 4)] (by decide +kernel) (pc1 := 242) (ls1 := [some (aR 0 0), none, none, some (aI v3), some (aI v4)]) (st1 := [aI q33.1]) (σ1 := q33.2) (P := []) rfl trivial ?_
        obtain ⟨rfl, rfl⟩ := Prod.mk.inj (Option.some.inj hm)
        exact XW.iret B q (by decide +kernel)
      · rw [if_neg h32] at hm
        refine XW.bk B [(241, .iload_n 3)] (by decide +kernel) (pc1 := 242) (ls1 := [some (aR 0 0), none, none, some (aI v3), some (aI v4)]) (st1 := [aI v3]) (σ1 := σ) (P := []) rfl trivial ?_
        obtain ⟨rfl, rfl⟩ := Prod.mk.inj (Option.some.inj hm)
        exact XW.iret B q (by decide +kernel)
    · rw [if_neg h31] at hm
      refine XW.bk B [(182, .aload_n 0)] (by decide +kernel) (pc1 := 183) (ls1 := [some (aR 0 0), none, none, some (aI v3), some (aI v4)]) (st1 := [aR 0 0]) (σ1 := σ) (P := []) rfl trivial ?_
      obtain ⟨q34, hq34, hm⟩ := obind_eq hm
      refine XW.callV B (M := M_X11_byteAt) (t := 0) (j := 0) (cn := 1) (as := []) (c_X11_byteAt σ hq34) (by omega) wV_X11_byteAt wN_X11_byteAt lk_X11_162 rfl rfl rfl (by decide) rfl (Nat.le_of_ble_eq_true rfl) (by decide +kernel) ?_
      refine XW.bb B [(186, .bipush 48)] (by decide +kernel) (pc1 := 188) (ls1 := [some (aR 0 0), none, none, some (aI v3), some (aI v4)]) (st1 := [aI (48 : Int32), aI q34]) (σ1 := σ) (P := []) (i := .if_icmp .lt 41) (tgt := 229) (q := q34 < (48 : Int32)) rfl trivial (by decide +kernel) rfl (by decide) (fun h35 => ?_) (fun h35 => ?_)
      · rw [if_pos h35] at hm
        refine XW.bn B [(229, .iload 4)] (by decide +kernel) (pc1 := 231) (ls1 := [some (aR 0 0), none, none, some (aI v3), some (aI v4)]) (st1 := [aI v4]) (σ1 := σ) (P := []) (i := .ifCond .ne 10) (tgt := 241) (q := v4 = (0 : Int32)) rfl trivial (by decide +kernel) rfl (by decide) (fun h36 => ?_) (fun h36 => ?_)
        · rw [if_pos h36] at hm
          refine XW.bk B [(234, .aload_n 0)] (by decide +kernel) (pc1 := 235) (ls1 := [some (aR 0 0), none, none, some (aI v3), some (aI v4)]) (st1 := [aR 0 0]) (σ1 := σ) (P := []) rfl trivial ?_
          obtain ⟨q37, hq37, hm⟩ := bnT_eq hm
          refine XW.callV B (M := M_X11_wrong) (t := 0) (j := 0) (cn := 1) (as := []) (c_X11_wrong σ hq37) (by omega) wV_X11_wrong wN_X11_wrong lk_X11_187 rfl rfl rfl (by decide) rfl (Nat.le_of_ble_eq_true rfl) (by decide +kernel) ?_
          refine XW.bk B [(238, .goto 4)] (by decide +kernel) (pc1 := 242) (ls1 := [some (aR 0 0), none, none, some (aI v3), some (aI v4)]) (st1 := [aI q37.1]) (σ1 := q37.2) (P := []) rfl trivial ?_
          obtain ⟨rfl, rfl⟩ := Prod.mk.inj (Option.some.inj hm)
          exact XW.iret B q (by decide +kernel)
        · rw [if_neg h36] at hm
          refine XW.bk B [(241, .iload_n 3)] (by decide +kernel) (pc1 := 242) (ls1 := [some (aR 0 0), none, none, some (aI v3), some (aI v4)]) (st1 := [aI v3]) (σ1 := σ) (P := []) rfl trivial ?_
          obtain ⟨rfl, rfl⟩ := Prod.mk.inj (Option.some.inj hm)
          exact XW.iret B q (by decide +kernel)
      · rw [if_neg h35] at hm
        refine XW.bk B [(191, .aload_n 0)] (by decide +kernel) (pc1 := 192) (ls1 := [some (aR 0 0), none, none, some (aI v3), some (aI v4)]) (st1 := [aR 0 0]) (σ1 := σ) (P := []) rfl trivial ?_
        obtain ⟨q38, hq38, hm⟩ := obind_eq hm
        refine XW.callV B (M := M_X11_byteAt) (t := 0) (j := 0) (cn := 1) (as := []) (c_X11_byteAt σ hq38) (by omega) wV_X11_byteAt wN_X11_byteAt lk_X11_162 rfl rfl rfl (by decide) rfl (Nat.le_of_ble_eq_true rfl) (by decide +kernel) ?_
        refine XW.bb B [(195, .bipush 57)] (by decide +kernel) (pc1 := 197) (ls1 := [some (aR 0 0), none, none, some (aI v3), some (aI v4)]) (st1 := [aI (57 : Int32), aI q38]) (σ1 := σ) (P := []) (i := .if_icmp .gt 32) (tgt := 229) (q := (57 : Int32) < q38) rfl trivial (by decide +kernel) rfl (by decide) (fun h39 => ?_) (fun h39 => ?_)
        · rw [if_pos h39] at hm
          refine XW.bn B [(229, .iload 4)] (by decide +kernel) (pc1 := 231) (ls1 := [some (aR 0 0), none, none, some (aI v3), some (aI v4)]) (st1 := [aI v4]) (σ1 := σ) (P := []) (i := .ifCond .ne 10) (tgt := 241) (q := v4 = (0 : Int32)) rfl trivial (by decide +kernel) rfl (by decide) (fun h40 => ?_) (fun h40 => ?_)
          · rw [if_pos h40] at hm
            refine XW.bk B [(234, .aload_n 0)] (by decide +kernel) (pc1 := 235) (ls1 := [some (aR 0 0), none, none, some (aI v3), some (aI v4)]) (st1 := [aR 0 0]) (σ1 := σ) (P := []) rfl trivial ?_
            obtain ⟨q41, hq41, hm⟩ := bnT_eq hm
            refine XW.callV B (M := M_X11_wrong) (t := 0) (j := 0) (cn := 1) (as := []) (c_X11_wrong σ hq41) (by omega) wV_X11_wrong wN_X11_wrong lk_X11_187 rfl rfl rfl (by decide) rfl (Nat.le_of_ble_eq_true rfl) (by decide +kernel) ?_
            refine XW.bk B [(238, .goto 4)] (by decide +kernel) (pc1 := 242) (ls1 := [some (aR 0 0), none, none, some (aI v3), some (aI v4)]) (st1 := [aI q41.1]) (σ1 := q41.2) (P := []) rfl trivial ?_
            obtain ⟨rfl, rfl⟩ := Prod.mk.inj (Option.some.inj hm)
            exact XW.iret B q (by decide +kernel)
          · rw [if_neg h40] at hm
            refine XW.bk B [(241, .iload_n 3)] (by decide +kernel) (pc1 := 242) (ls1 := [some (aR 0 0), none, none, some (aI v3), some (aI v4)]) (st1 := [aI v3]) (σ1 := σ) (P := []) rfl trivial ?_
            obtain ⟨rfl, rfl⟩ := Prod.mk.inj (Option.some.inj hm)
            exact XW.iret B q (by decide +kernel)
        · rw [if_neg h39] at hm
          refine XW.bk B [(200, .bipush 10), (202, .iload_n 3), (203, .imul), (204, .aload_n 0)] (by decide +kernel) (pc1 := 205) (ls1 := [some (aR 0 0), none, none, some (aI v3), some (aI v4)]) (st1 := [aR 0 0, aI ((10 : Int32) * v3)]) (σ1 := σ) (P := []) rfl trivial ?_
          obtain ⟨q42, hq42, hm⟩ := obind_eq hm
          refine XW.callV B (M := M_X11_byteAt) (t := 0) (j := 0) (cn := 1) (as := []) (c_X11_byteAt σ hq42) (by omega) wV_X11_byteAt wN_X11_byteAt lk_X11_162 rfl rfl rfl (by decide) rfl (Nat.le_of_ble_eq_true rfl) (by decide +kernel) ?_
          refine XW.bk B [(208, .iadd), (209, .bipush 48), (211, .isub), (212, .istore_n 3), (213, .iinc 4 1), (216, .aload_n 0), (217, .dup), (218, .getfield 150), (221, .iconst 1), (222, .iadd), (223, .putfield 150), (226, .goto (-50))] (by decide +kernel) (pc1 := 176) (ls1 := [some (aR 0 0), none, none, some (aI ((((10 : Int32) * v3) + q42) - (48 : Int32))), some (aI (v4 + (1 : Int32)))]) (st1 := []) (σ1 := (sI σ 0 0 13 ((σ.1 0 0 13) + (1 : Int32)))) (P := []) rfl trivial ?_
          exact ih ((((10 : Int32) * v3) + q42) - (48 : Int32)) (v4 + (1 : Int32)) (sI σ 0 0 13 ((σ.1 0 0 13) + (1 : Int32))) hm
set_option maxRecDepth 100000 in
set_option maxHeartbeats 4000000 in
theorem c_X11_one (rec : Nat → SS → Option (Int32 × SS)) (dr : Nat) (hdr : 2 ≤ dr) (hrec_0 : ∀ (σ : SS) {r : Int32} {σ' : SS}, rec 0 σ = some (r, σ') → XM LM dr M_X11_either [aR 0 0] σ (some (aI r)) σ') (hrec_1 : ∀ (σ : SS) {r : Int32} {σ' : SS}, rec 1 σ = some (r, σ') → XM LM dr M_X11_both [aR 0 0] σ (some (aI r)) σ') (hrec_2 : ∀ (σ : SS) {r : Int32} {σ' : SS}, rec 2 σ = some (r, σ') → XM LM dr M_X11_compared [aR 0 0] σ (some (aI r)) σ') (hrec_3 : ∀ (σ : SS) {r : Int32} {σ' : SS}, rec 3 σ = some (r, σ') → XM LM dr M_X11_sums [aR 0 0] σ (some (aI r)) σ') (hrec_4 : ∀ (σ : SS) {r : Int32} {σ' : SS}, rec 4 σ = some (r, σ') → XM LM dr M_X11_product [aR 0 0] σ (some (aI r)) σ') (hrec_5 : ∀ (σ : SS) {r : Int32} {σ' : SS}, rec 5 σ = some (r, σ') → XM LM dr M_X11_one [aR 0 0] σ (some (aI r)) σ') (σ : SS) {r : Int32} {σ' : SS} (hm : m_X11_one rec σ = some (r, σ')) : XM LM (dr + 1) M_X11_one [aR 0 0] σ (some (aI r)) σ' := by
  refine XM.of (K := K11) (Nat.succ_le_succ (Nat.zero_le _)) (by decide +kernel) K11_ok (Nat.le_of_ble_eq_true rfl) (fun Γ B q => ?_)
  unfold m_X11_one at hm
  refine XW.bb B [(0, .aload_n 0), (1, .getfield 159)] (by decide +kernel) (pc1 := 4) (ls1 := [some (aR 0 0), none, none, none, none]) (st1 := [aI (σ.1 0 0 15)]) (σ1 := σ) (P := []) (i := .ifCond .lt 5) (tgt := 9) (q := (σ.1 0 0 15) < (0 : Int32)) rfl trivial (by decide +kernel) rfl (by decide) (fun h1 => ?_) (fun h1 => ?_)
  · rw [if_pos h1] at hm
    refine XW.bk B [(9, .aload_n 0)] (by decide +kernel) (pc1 := 10) (ls1 := [some (aR 0 0), none, none, none, none]) (st1 := [aR 0 0]) (σ1 := σ) (P := []) rfl trivial ?_
    obtain ⟨q2, hq2, hm⟩ := obind_eq hm
    refine XW.callV B (M := M_X11_byteAt) (t := 0) (j := 0) (cn := 1) (as := []) (c_X11_byteAt σ hq2) (by omega) wV_X11_byteAt wN_X11_byteAt lk_X11_162 rfl rfl rfl (by decide) rfl (Nat.le_of_ble_eq_true rfl) (by decide +kernel) ?_
    refine XW.bb B [(13, .istore_n 1), (14, .iload_n 1), (15, .bipush 33)] (by decide +kernel) (pc1 := 17) (ls1 := [some (aR 0 0), some (aI q2), none, none, none]) (st1 := [aI (33 : Int32), aI q2]) (σ1 := σ) (P := []) (i := .if_icmp .eq 15) (tgt := 32) (q := q2 = (33 : Int32)) rfl trivial (by decide +kernel) rfl (by decide) (fun h3 => ?_) (fun h3 => ?_)
    · rw [if_pos h3] at hm
      refine XW.bn B [(32, .aload_n 0), (33, .getfield 184), (36, .bipush 6)] (by decide +kernel) (pc1 := 38) (ls1 := [some (aR 0 0), some (aI q2), none, none, none]) (st1 := [aI (6 : Int32), aI (σ.1 0 0 16)]) (σ1 := σ) (P := []) (i := .if_icmp .ne 8) (tgt := 46) (q := (σ.1 0 0 16) = (6 : Int32)) rfl trivial (by decide +kernel) rfl (by decide) (fun h4 => ?_) (fun h4 => ?_)
      · rw [if_pos h4] at hm
        refine XW.bk B [(41, .aload_n 0)] (by decide +kernel) (pc1 := 42) (ls1 := [some (aR 0 0), some (aI q2), none, none, none]) (st1 := [aR 0 0]) (σ1 := σ) (P := []) rfl trivial ?_
        obtain ⟨q5, hq5, hm⟩ := bnT_eq hm
        refine XW.callV B (M := M_X11_wrong) (t := 0) (j := 0) (cn := 1) (as := []) (c_X11_wrong σ hq5) (by omega) wV_X11_wrong wN_X11_wrong lk_X11_187 rfl rfl rfl (by decide) rfl (Nat.le_of_ble_eq_true rfl) (by decide +kernel) ?_
        obtain ⟨rfl, rfl⟩ := Prod.mk.inj (Option.some.inj hm)
        exact XW.iret B q (by decide +kernel)
      · rw [if_neg h4] at hm
        refine XW.bn B [(46, .aload_n 0), (47, .dup), (48, .getfield 184), (51, .iconst 1), (52, .iadd), (53, .putfield 184), (56, .aload_n 0), (57, .dup), (58, .getfield 150), (61, .iconst 1), (62, .iadd), (63, .putfield 150), (66, .iload_n 1), (67, .bipush 40)] (by decide +kernel) (pc1 := 69) (ls1 := [some (aR 0 0), some (aI q2), none, none, none]) (st1 := [aI (40 : Int32), aI q2]) (σ1 := (sI (sI σ 0 0 16 ((σ.1 0 0 16) + (1 : Int32))) 0 0 13 ((σ.1 0 0 13) + (1 : Int32)))) (P := []) (i := .if_icmp .ne 10) (tgt := 79) (q := q2 = (40 : Int32)) rfl trivial (by decide +kernel) rfl (by decide) (fun h6 => ?_) (fun h6 => ?_)
        · rw [if_pos h6] at hm
          refine XW.bk B [(72, .aload_n 0)] (by decide +kernel) (pc1 := 73) (ls1 := [some (aR 0 0), some (aI q2), none, none, none]) (st1 := [aR 0 0]) (σ1 := (sI (sI σ 0 0 16 ((σ.1 0 0 16) + (1 : Int32))) 0 0 13 ((σ.1 0 0 13) + (1 : Int32)))) (P := []) rfl trivial ?_
          obtain ⟨q7, hq7, hm⟩ := obind_eq hm
          refine XW.callV B (M := M_X11_either) (t := 0) (j := 0) (cn := 1) (as := []) (hrec_0 (sI (sI σ 0 0 16 ((σ.1 0 0 16) + (1 : Int32))) 0 0 13 ((σ.1 0 0 13) + (1 : Int32))) hq7) (Nat.lt_succ_self _) wV_X11_either wN_X11_either lk_X11_190 rfl rfl rfl (by decide) rfl (Nat.le_of_ble_eq_true rfl) (by decide +kernel) ?_
          refine XW.bn B [(76, .goto 7), (83, .istore_n 2), (84, .iload_n 1), (85, .bipush 40)] (by decide +kernel) (pc1 := 87) (ls1 := [some (aR 0 0), some (aI q2), some (aI q7.1), none, none]) (st1 := [aI (40 : Int32), aI q2]) (σ1 := q7.2) (P := []) (i := .if_icmp .ne 17) (tgt := 104) (q := q2 = (40 : Int32)) rfl trivial (by decide +kernel) rfl (by decide) (fun _ => ?_) (fun h => absurd h6 h)
          refine XW.bk B [(90, .aload_n 0), (91, .bipush 41)] (by decide +kernel) (pc1 := 93) (ls1 := [some (aR 0 0), some (aI q2), some (aI q7.1), none, none]) (st1 := [aI (41 : Int32), aR 0 0]) (σ1 := q7.2) (P := []) rfl trivial ?_
          obtain ⟨q8, hq8, hm⟩ := obind_eq hm
          refine XW.callV B (M := M_X11_takes) (t := 0) (j := 0) (cn := 1) (as := [aI (41 : Int32)]) (c_X11_takes (41 : Int32) q7.2 hq8) (by omega) wV_X11_takes wN_X11_takes lk_X11_169 rfl rfl rfl (by decide) rfl (Nat.le_of_ble_eq_true rfl) (by decide +kernel) ?_
          refine XW.bn B [] (by decide +kernel) (pc1 := 96) (ls1 := [some (aR 0 0), some (aI q2), some (aI q7.1), none, none]) (st1 := [aI q8.1]) (σ1 := q8.2) (P := []) (i := .ifCond .ne 8) (tgt := 104) (q := q8.1 = (0 : Int32)) rfl trivial (by decide +kernel) rfl (by decide) (fun h9 => ?_) (fun h9 => ?_)
          · rw [if_pos h9] at hm
            refine XW.bk B [(99, .aload_n 0)] (by decide +kernel) (pc1 := 100) (ls1 := [some (aR 0 0), some (aI q2), some (aI q7.1), none, none]) (st1 := [aR 0 0]) (σ1 := q8.2) (P := []) rfl trivial ?_
            obtain ⟨q10, hq10, hm⟩ := bnT_eq hm
            refine XW.callV B (M := M_X11_wrong) (t := 0) (j := 0) (cn := 1) (as := []) (c_X11_wrong q8.2 hq10) (by omega) wV_X11_wrong wN_X11_wrong lk_X11_187 rfl rfl rfl (by decide) rfl (Nat.le_of_ble_eq_true rfl) (by decide +kernel) ?_
            obtain ⟨rfl, rfl⟩ := Prod.mk.inj (Option.some.inj hm)
            exact XW.iret B q (by decide +kernel)
          · rw [if_neg h9] at hm
            refine XW.bn B [(104, .aload_n 0), (105, .dup), (106, .getfield 184), (109, .iconst 1), (110, .isub), (111, .putfield 184), (114, .iload_n 1), (115, .bipush 40)] (by decide +kernel) (pc1 := 117) (ls1 := [some (aR 0 0), some (aI q2), some (aI q7.1), none, none]) (st1 := [aI (40 : Int32), aI q2]) (σ1 := (sI q8.2 0 0 16 ((q8.2.1 0 0 16) - (1 : Int32)))) (P := []) (i := .if_icmp .ne 7) (tgt := 124) (q := q2 = (40 : Int32)) rfl trivial (by decide +kernel) rfl (by decide) (fun _ => ?_) (fun h => absurd h6 h)
            refine XW.bk B [(120, .iload_n 2), (121, .goto 23)] (by decide +kernel) (pc1 := 144) (ls1 := [some (aR 0 0), some (aI q2), some (aI q7.1), none, none]) (st1 := [aI q7.1]) (σ1 := (sI q8.2 0 0 16 ((q8.2.1 0 0 16) - (1 : Int32)))) (P := []) rfl trivial ?_
            obtain ⟨rfl, rfl⟩ := Prod.mk.inj (Option.some.inj hm)
            exact XW.iret B q (by decide +kernel)
        · rw [if_neg h6] at hm
          refine XW.bk B [(79, .aload_n 0)] (by decide +kernel) (pc1 := 80) (ls1 := [some (aR 0 0), some (aI q2), none, none, none]) (st1 := [aR 0 0]) (σ1 := (sI (sI σ 0 0 16 ((σ.1 0 0 16) + (1 : Int32))) 0 0 13 ((σ.1 0 0 13) + (1 : Int32)))) (P := []) rfl trivial ?_
          obtain ⟨q11, hq11, hm⟩ := obind_eq hm
          refine XW.callV B (M := M_X11_one) (t := 0) (j := 0) (cn := 1) (as := []) (hrec_5 (sI (sI σ 0 0 16 ((σ.1 0 0 16) + (1 : Int32))) 0 0 13 ((σ.1 0 0 13) + (1 : Int32))) hq11) (Nat.lt_succ_self _) wV_X11_one wN_X11_one lk_X11_181 rfl rfl rfl (by decide) rfl (Nat.le_of_ble_eq_true rfl) (by decide +kernel) ?_
          refine XW.bn B [(83, .istore_n 2), (84, .iload_n 1), (85, .bipush 40)] (by decide +kernel) (pc1 := 87) (ls1 := [some (aR 0 0), some (aI q2), some (aI q11.1), none, none]) (st1 := [aI (40 : Int32), aI q2]) (σ1 := q11.2) (P := []) (i := .if_icmp .ne 17) (tgt := 104) (q := q2 = (40 : Int32)) rfl trivial (by decide +kernel) rfl (by decide) (fun h => absurd h h6) (fun _ => ?_)
          refine XW.bn B [(104, .aload_n 0), (105, .dup), (106, .getfield 184), (109, .iconst 1), (110, .isub), (111, .putfield 184), (114, .iload_n 1), (115, .bipush 40)] (by decide +kernel) (pc1 := 117) (ls1 := [some (aR 0 0), some (aI q2), some (aI q11.1), none, none]) (st1 := [aI (40 : Int32), aI q2]) (σ1 := (sI q11.2 0 0 16 ((q11.2.1 0 0 16) - (1 : Int32)))) (P := []) (i := .if_icmp .ne 7) (tgt := 124) (q := q2 = (40 : Int32)) rfl trivial (by decide +kernel) rfl (by decide) (fun h => absurd h h6) (fun _ => ?_)
          refine XW.bn B [(124, .iload_n 1), (125, .bipush 45)] (by decide +kernel) (pc1 := 127) (ls1 := [some (aR 0 0), some (aI q2), some (aI q11.1), none, none]) (st1 := [aI (45 : Int32), aI q2]) (σ1 := (sI q11.2 0 0 16 ((q11.2.1 0 0 16) - (1 : Int32)))) (P := []) (i := .if_icmp .ne 8) (tgt := 135) (q := q2 = (45 : Int32)) rfl trivial (by decide +kernel) rfl (by decide) (fun h12 => ?_) (fun h12 => ?_)
          · rw [if_pos h12] at hm
            refine XW.bk B [(130, .iload_n 2), (131, .ineg), (132, .goto 12)] (by decide +kernel) (pc1 := 144) (ls1 := [some (aR 0 0), some (aI q2), some (aI q11.1), none, none]) (st1 := [aI (-q11.1)]) (σ1 := (sI q11.2 0 0 16 ((q11.2.1 0 0 16) - (1 : Int32)))) (P := []) rfl trivial ?_
            obtain ⟨rfl, rfl⟩ := Prod.mk.inj (Option.some.inj hm)
            exact XW.iret B q (by decide +kernel)
          · rw [if_neg h12] at hm
            refine XW.bn B [(135, .iload_n 2)] (by decide +kernel) (pc1 := 136) (ls1 := [some (aR 0 0), some (aI q2), some (aI q11.1), none, none]) (st1 := [aI q11.1]) (σ1 := (sI q11.2 0 0 16 ((q11.2.1 0 0 16) - (1 : Int32)))) (P := []) (i := .ifCond .ne 7) (tgt := 143) (q := q11.1 = (0 : Int32)) rfl trivial (by decide +kernel) rfl (by decide) (fun h13 => ?_) (fun h13 => ?_)
            · rw [if_pos h13] at hm
              refine XW.bk B [(139, .iconst 1), (140, .goto 4)] (by decide +kernel) (pc1 := 144) (ls1 := [some (aR 0 0), some (aI q2), some (aI q11.1), none, none]) (st1 := [aI (1 : Int32)]) (σ1 := (sI q11.2 0 0 16 ((q11.2.1 0 0 16) - (1 : Int32)))) (P := []) rfl trivial ?_
              obtain ⟨rfl, rfl⟩ := Prod.mk.inj (Option.some.inj hm)
              exact XW.iret B q (by decide +kernel)
            · rw [if_neg h13] at hm
              refine XW.bk B [(143, .iconst 0)] (by decide +kernel) (pc1 := 144) (ls1 := [some (aR 0 0), some (aI q2), some (aI q11.1), none, none]) (st1 := [aI (0 : Int32)]) (σ1 := (sI q11.2 0 0 16 ((q11.2.1 0 0 16) - (1 : Int32)))) (P := []) rfl trivial ?_
              obtain ⟨rfl, rfl⟩ := Prod.mk.inj (Option.some.inj hm)
              exact XW.iret B q (by decide +kernel)
    · rw [if_neg h3] at hm
      refine XW.bb B [(20, .iload_n 1), (21, .bipush 45)] (by decide +kernel) (pc1 := 23) (ls1 := [some (aR 0 0), some (aI q2), none, none, none]) (st1 := [aI (45 : Int32), aI q2]) (σ1 := σ) (P := []) (i := .if_icmp .eq 9) (tgt := 32) (q := q2 = (45 : Int32)) rfl trivial (by decide +kernel) rfl (by decide) (fun h14 => ?_) (fun h14 => ?_)
      · rw [if_pos h14] at hm
        refine XW.bn B [(32, .aload_n 0), (33, .getfield 184), (36, .bipush 6)] (by decide +kernel) (pc1 := 38) (ls1 := [some (aR 0 0), some (aI q2), none, none, none]) (st1 := [aI (6 : Int32), aI (σ.1 0 0 16)]) (σ1 := σ) (P := []) (i := .if_icmp .ne 8) (tgt := 46) (q := (σ.1 0 0 16) = (6 : Int32)) rfl trivial (by decide +kernel) rfl (by decide) (fun h15 => ?_) (fun h15 => ?_)
        · rw [if_pos h15] at hm
          refine XW.bk B [(41, .aload_n 0)] (by decide +kernel) (pc1 := 42) (ls1 := [some (aR 0 0), some (aI q2), none, none, none]) (st1 := [aR 0 0]) (σ1 := σ) (P := []) rfl trivial ?_
          obtain ⟨q16, hq16, hm⟩ := bnT_eq hm
          refine XW.callV B (M := M_X11_wrong) (t := 0) (j := 0) (cn := 1) (as := []) (c_X11_wrong σ hq16) (by omega) wV_X11_wrong wN_X11_wrong lk_X11_187 rfl rfl rfl (by decide) rfl (Nat.le_of_ble_eq_true rfl) (by decide +kernel) ?_
          obtain ⟨rfl, rfl⟩ := Prod.mk.inj (Option.some.inj hm)
          exact XW.iret B q (by decide +kernel)
        · rw [if_neg h15] at hm
          refine XW.bn B [(46, .aload_n 0), (47, .dup), (48, .getfield 184), (51, .iconst 1), (52, .iadd), (53, .putfield 184), (56, .aload_n 0), (57, .dup), (58, .getfield 150), (61, .iconst 1), (62, .iadd), (63, .putfield 150), (66, .iload_n 1), (67, .bipush 40)] (by decide +kernel) (pc1 := 69) (ls1 := [some (aR 0 0), some (aI q2), none, none, none]) (st1 := [aI (40 : Int32), aI q2]) (σ1 := (sI (sI σ 0 0 16 ((σ.1 0 0 16) + (1 : Int32))) 0 0 13 ((σ.1 0 0 13) + (1 : Int32)))) (P := []) (i := .if_icmp .ne 10) (tgt := 79) (q := q2 = (40 : Int32)) rfl trivial (by decide +kernel) rfl (by decide) (fun h17 => ?_) (fun h17 => ?_)
          · rw [if_pos h17] at hm
            refine XW.bk B [(72, .aload_n 0)] (by decide +kernel) (pc1 := 73) (ls1 := [some (aR 0 0), some (aI q2), none, none, none]) (st1 := [aR 0 0]) (σ1 := (sI (sI σ 0 0 16 ((σ.1 0 0 16) + (1 : Int32))) 0 0 13 ((σ.1 0 0 13) + (1 : Int32)))) (P := []) rfl trivial ?_
            obtain ⟨q18, hq18, hm⟩ := obind_eq hm
            refine XW.callV B (M := M_X11_either) (t := 0) (j := 0) (cn := 1) (as := []) (hrec_0 (sI (sI σ 0 0 16 ((σ.1 0 0 16) + (1 : Int32))) 0 0 13 ((σ.1 0 0 13) + (1 : Int32))) hq18) (Nat.lt_succ_self _) wV_X11_either wN_X11_either lk_X11_190 rfl rfl rfl (by decide) rfl (Nat.le_of_ble_eq_true rfl) (by decide +kernel) ?_
            refine XW.bn B [(76, .goto 7), (83, .istore_n 2), (84, .iload_n 1), (85, .bipush 40)] (by decide +kernel) (pc1 := 87) (ls1 := [some (aR 0 0), some (aI q2), some (aI q18.1), none, none]) (st1 := [aI (40 : Int32), aI q2]) (σ1 := q18.2) (P := []) (i := .if_icmp .ne 17) (tgt := 104) (q := q2 = (40 : Int32)) rfl trivial (by decide +kernel) rfl (by decide) (fun _ => ?_) (fun h => absurd h17 h)
            refine XW.bk B [(90, .aload_n 0), (91, .bipush 41)] (by decide +kernel) (pc1 := 93) (ls1 := [some (aR 0 0), some (aI q2), some (aI q18.1), none, none]) (st1 := [aI (41 : Int32), aR 0 0]) (σ1 := q18.2) (P := []) rfl trivial ?_
            obtain ⟨q19, hq19, hm⟩ := obind_eq hm
            refine XW.callV B (M := M_X11_takes) (t := 0) (j := 0) (cn := 1) (as := [aI (41 : Int32)]) (c_X11_takes (41 : Int32) q18.2 hq19) (by omega) wV_X11_takes wN_X11_takes lk_X11_169 rfl rfl rfl (by decide) rfl (Nat.le_of_ble_eq_true rfl) (by decide +kernel) ?_
            refine XW.bn B [] (by decide +kernel) (pc1 := 96) (ls1 := [some (aR 0 0), some (aI q2), some (aI q18.1), none, none]) (st1 := [aI q19.1]) (σ1 := q19.2) (P := []) (i := .ifCond .ne 8) (tgt := 104) (q := q19.1 = (0 : Int32)) rfl trivial (by decide +kernel) rfl (by decide) (fun h20 => ?_) (fun h20 => ?_)
            · rw [if_pos h20] at hm
              refine XW.bk B [(99, .aload_n 0)] (by decide +kernel) (pc1 := 100) (ls1 := [some (aR 0 0), some (aI q2), some (aI q18.1), none, none]) (st1 := [aR 0 0]) (σ1 := q19.2) (P := []) rfl trivial ?_
              obtain ⟨q21, hq21, hm⟩ := bnT_eq hm
              refine XW.callV B (M := M_X11_wrong) (t := 0) (j := 0) (cn := 1) (as := []) (c_X11_wrong q19.2 hq21) (by omega) wV_X11_wrong wN_X11_wrong lk_X11_187 rfl rfl rfl (by decide) rfl (Nat.le_of_ble_eq_true rfl) (by decide +kernel) ?_
              obtain ⟨rfl, rfl⟩ := Prod.mk.inj (Option.some.inj hm)
              exact XW.iret B q (by decide +kernel)
            · rw [if_neg h20] at hm
              refine XW.bn B [(104, .aload_n 0), (105, .dup), (106, .getfield 184), (109, .iconst 1), (110, .isub), (111, .putfield 184), (114, .iload_n 1), (115, .bipush 40)] (by decide +kernel) (pc1 := 117) (ls1 := [some (aR 0 0), some (aI q2), some (aI q18.1), none, none]) (st1 := [aI (40 : Int32), aI q2]) (σ1 := (sI q19.2 0 0 16 ((q19.2.1 0 0 16) - (1 : Int32)))) (P := []) (i := .if_icmp .ne 7) (tgt := 124) (q := q2 = (40 : Int32)) rfl trivial (by decide +kernel) rfl (by decide) (fun _ => ?_) (fun h => absurd h17 h)
              refine XW.bk B [(120, .iload_n 2), (121, .goto 23)] (by decide +kernel) (pc1 := 144) (ls1 := [some (aR 0 0), some (aI q2), some (aI q18.1), none, none]) (st1 := [aI q18.1]) (σ1 := (sI q19.2 0 0 16 ((q19.2.1 0 0 16) - (1 : Int32)))) (P := []) rfl trivial ?_
              obtain ⟨rfl, rfl⟩ := Prod.mk.inj (Option.some.inj hm)
              exact XW.iret B q (by decide +kernel)
          · rw [if_neg h17] at hm
            refine XW.bk B [(79, .aload_n 0)] (by decide +kernel) (pc1 := 80) (ls1 := [some (aR 0 0), some (aI q2), none, none, none]) (st1 := [aR 0 0]) (σ1 := (sI (sI σ 0 0 16 ((σ.1 0 0 16) + (1 : Int32))) 0 0 13 ((σ.1 0 0 13) + (1 : Int32)))) (P := []) rfl trivial ?_
            obtain ⟨q22, hq22, hm⟩ := obind_eq hm
            refine XW.callV B (M := M_X11_one) (t := 0) (j := 0) (cn := 1) (as := []) (hrec_5 (sI (sI σ 0 0 16 ((σ.1 0 0 16) + (1 : Int32))) 0 0 13 ((σ.1 0 0 13) + (1 : Int32))) hq22) (Nat.lt_succ_self _) wV_X11_one wN_X11_one lk_X11_181 rfl rfl rfl (by decide) rfl (Nat.le_of_ble_eq_true rfl) (by decide +kernel) ?_
            refine XW.bn B [(83, .istore_n 2), (84, .iload_n 1), (85, .bipush 40)] (by decide +kernel) (pc1 := 87) (ls1 := [some (aR 0 0), some (aI q2), some (aI q22.1), none, none]) (st1 := [aI (40 : Int32), aI q2]) (σ1 := q22.2) (P := []) (i := .if_icmp .ne 17) (tgt := 104) (q := q2 = (40 : Int32)) rfl trivial (by decide +kernel) rfl (by decide) (fun h => absurd h h17) (fun _ => ?_)
            refine XW.bn B [(104, .aload_n 0), (105, .dup), (106, .getfield 184), (109, .iconst 1), (110, .isub), (111, .putfield 184), (114, .iload_n 1), (115, .bipush 40)] (by decide +kernel) (pc1 := 117) (ls1 := [some (aR 0 0), some (aI q2), some (aI q22.1), none, none]) (st1 := [aI (40 : Int32), aI q2]) (σ1 := (sI q22.2 0 0 16 ((q22.2.1 0 0 16) - (1 : Int32)))) (P := []) (i := .if_icmp .ne 7) (tgt := 124) (q := q2 = (40 : Int32)) rfl trivial (by decide +kernel) rfl (by decide) (fun h => absurd h h17) (fun _ => ?_)
            refine XW.bn B [(124, .iload_n 1), (125, .bipush 45)] (by decide +kernel) (pc1 := 127) (ls1 := [some (aR 0 0), some (aI q2), some (aI q22.1), none, none]) (st1 := [aI (45 : Int32), aI q2]) (σ1 := (sI q22.2 0 0 16 ((q22.2.1 0 0 16) - (1 : Int32)))) (P := []) (i := .if_icmp .ne 8) (tgt := 135) (q := q2 = (45 : Int32)) rfl trivial (by decide +kernel) rfl (by decide) (fun _ => ?_) (fun h => absurd h14 h)
            refine XW.bk B [(130, .iload_n 2), (131, .ineg), (132, .goto 12)] (by decide +kernel) (pc1 := 144) (ls1 := [some (aR 0 0), some (aI q2), some (aI q22.1), none, none]) (st1 := [aI (-q22.1)]) (σ1 := (sI q22.2 0 0 16 ((q22.2.1 0 0 16) - (1 : Int32)))) (P := []) rfl trivial ?_
            obtain ⟨rfl, rfl⟩ := Prod.mk.inj (Option.some.inj hm)
            exact XW.iret B q (by decide +kernel)
      · rw [if_neg h14] at hm
        refine XW.bn B [(26, .iload_n 1), (27, .bipush 40)] (by decide +kernel) (pc1 := 29) (ls1 := [some (aR 0 0), some (aI q2), none, none, none]) (st1 := [aI (40 : Int32), aI q2]) (σ1 := σ) (P := []) (i := .if_icmp .ne 116) (tgt := 145) (q := q2 = (40 : Int32)) rfl trivial (by decide +kernel) rfl (by decide) (fun h23 => ?_) (fun h23 => ?_)
        · rw [if_pos h23] at hm
          refine XW.bn B [(32, .aload_n 0), (33, .getfield 184), (36, .bipush 6)] (by decide +kernel) (pc1 := 38) (ls1 := [some (aR 0 0), some (aI q2), none, none, none]) (st1 := [aI (6 : Int32), aI (σ.1 0 0 16)]) (σ1 := σ) (P := []) (i := .if_icmp .ne 8) (tgt := 46) (q := (σ.1 0 0 16) = (6 : Int32)) rfl trivial (by decide +kernel) rfl (by decide) (fun h24 => ?_) (fun h24 => ?_)
          · rw [if_pos h24] at hm
            refine XW.bk B [(41, .aload_n 0)] (by decide +kernel) (pc1 := 42) (ls1 := [some (aR 0 0), some (aI q2), none, none, none]) (st1 := [aR 0 0]) (σ1 := σ) (P := []) rfl trivial ?_
            obtain ⟨q25, hq25, hm⟩ := bnT_eq hm
            refine XW.callV B (M := M_X11_wrong) (t := 0) (j := 0) (cn := 1) (as := []) (c_X11_wrong σ hq25) (by omega) wV_X11_wrong wN_X11_wrong lk_X11_187 rfl rfl rfl (by decide) rfl (Nat.le_of_ble_eq_true rfl) (by decide +kernel) ?_
            obtain ⟨rfl, rfl⟩ := Prod.mk.inj (Option.some.inj hm)
            exact XW.iret B q (by decide +kernel)
          · rw [if_neg h24] at hm
            refine XW.bn B [(46, .aload_n 0), (47, .dup), (48, .getfield 184), (51, .iconst 1), (52, .iadd), (53, .putfield 184), (56, .aload_n 0), (57, .dup), (58, .getfield 150), (61, .iconst 1), (62, .iadd), (63, .putfield 150), (66, .iload_n 1), (67, .bipush 40)] (by decide +kernel) (pc1 := 69) (ls1 := [some (aR 0 0), some (aI q2), none, none, none]) (st1 := [aI (40 : Int32), aI q2]) (σ1 := (sI (sI σ 0 0 16 ((σ.1 0 0 16) + (1 : Int32))) 0 0 13 ((σ.1 0 0 13) + (1 : Int32)))) (P := []) (i := .if_icmp .ne 10) (tgt := 79) (q := q2 = (40 : Int32)) rfl trivial (by decide +kernel) rfl (by decide) (fun _ => ?_) (fun h => absurd h23 h)
            refine XW.bk B [(72, .aload_n 0)] (by decide +kernel) (pc1 := 73) (ls1 := [some (aR 0 0), some (aI q2), none, none, none]) (st1 := [aR 0 0]) (σ1 := (sI (sI σ 0 0 16 ((σ.1 0 0 16) + (1 : Int32))) 0 0 13 ((σ.1 0 0 13) + (1 : Int32)))) (P := []) rfl trivial ?_
            obtain ⟨q26, hq26, hm⟩ := obind_eq hm
            refine XW.callV B (M := M_X11_either) (t := 0) (j := 0) (cn := 1) (as := []) (hrec_0 (sI (sI σ 0 0 16 ((σ.1 0 0 16) + (1 : Int32))) 0 0 13 ((σ.1 0 0 13) + (1 : Int32))) hq26) (Nat.lt_succ_self _) wV_X11_either wN_X11_either lk_X11_190 rfl rfl rfl (by decide) rfl (Nat.le_of_ble_eq_true rfl) (by decide +kernel) ?_
            refine XW.bn B [(76, .goto 7), (83, .istore_n 2), (84, .iload_n 1), (85, .bipush 40)] (by decide +kernel) (pc1 := 87) (ls1 := [some (aR 0 0), some (aI q2), some (aI q26.1), none, none]) (st1 := [aI (40 : Int32), aI q2]) (σ1 := q26.2) (P := []) (i := .if_icmp .ne 17) (tgt := 104) (q := q2 = (40 : Int32)) rfl trivial (by decide +kernel) rfl (by decide) (fun _ => ?_) (fun h => absurd h23 h)
            refine XW.bk B [(90, .aload_n 0), (91, .bipush 41)] (by decide +kernel) (pc1 := 93) (ls1 := [some (aR 0 0), some (aI q2), some (aI q26.1), none, none]) (st1 := [aI (41 : Int32), aR 0 0]) (σ1 := q26.2) (P := []) rfl trivial ?_
            obtain ⟨q27, hq27, hm⟩ := obind_eq hm
            refine XW.callV B (M := M_X11_takes) (t := 0) (j := 0) (cn := 1) (as := [aI (41 : Int32)]) (c_X11_takes (41 : Int32) q26.2 hq27) (by omega) wV_X11_takes wN_X11_takes lk_X11_169 rfl rfl rfl (by decide) rfl (Nat.le_of_ble_eq_true rfl) (by decide +kernel) ?_
            refine XW.bn B [] (by decide +kernel) (pc1 := 96) (ls1 := [some (aR 0 0), some (aI q2), some (aI q26.1), none, none]) (st1 := [aI q27.1]) (σ1 := q27.2) (P := []) (i := .ifCond .ne 8) (tgt := 104) (q := q27.1 = (0 : Int32)) rfl trivial (by decide +kernel) rfl (by decide) (fun h28 => ?_) (fun h28 => ?_)
            · rw [if_pos h28] at hm
              refine XW.bk B [(99, .aload_n 0)] (by decide +kernel) (pc1 := 100) (ls1 := [some (aR 0 0), some (aI q2), some (aI q26.1), none, none]) (st1 := [aR 0 0]) (σ1 := q27.2) (P := []) rfl trivial ?_
              obtain ⟨q29, hq29, hm⟩ := bnT_eq hm
              refine XW.callV B (M := M_X11_wrong) (t := 0) (j := 0) (cn := 1) (as := []) (c_X11_wrong q27.2 hq29) (by omega) wV_X11_wrong wN_X11_wrong lk_X11_187 rfl rfl rfl (by decide) rfl (Nat.le_of_ble_eq_true rfl) (by decide +kernel) ?_
              obtain ⟨rfl, rfl⟩ := Prod.mk.inj (Option.some.inj hm)
              exact XW.iret B q (by decide +kernel)
            · rw [if_neg h28] at hm
              refine XW.bn B [(104, .aload_n 0), (105, .dup), (106, .getfield 184), (109, .iconst 1), (110, .isub), (111, .putfield 184), (114, .iload_n 1), (115, .bipush 40)] (by decide +kernel) (pc1 := 117) (ls1 := [some (aR 0 0), some (aI q2), some (aI q26.1), none, none]) (st1 := [aI (40 : Int32), aI q2]) (σ1 := (sI q27.2 0 0 16 ((q27.2.1 0 0 16) - (1 : Int32)))) (P := []) (i := .if_icmp .ne 7) (tgt := 124) (q := q2 = (40 : Int32)) rfl trivial (by decide +kernel) rfl (by decide) (fun _ => ?_) (fun h => absurd h23 h)
              refine XW.bk B [(120, .iload_n 2), (121, .goto 23)] (by decide +kernel) (pc1 := 144) (ls1 := [some (aR 0 0), some (aI q2), some (aI q26.1), none, none]) (st1 := [aI q26.1]) (σ1 := (sI q27.2 0 0 16 ((q27.2.1 0 0 16) - (1 : Int32)))) (P := []) rfl trivial ?_
              obtain ⟨rfl, rfl⟩ := Prod.mk.inj (Option.some.inj hm)
              exact XW.iret B q (by decide +kernel)
        · rw [if_neg h23] at hm
          refine XW.bk B [(145, .iload_n 1)] (by decide +kernel) (pc1 := 146) (ls1 := [some (aR 0 0), some (aI q2), none, none, none]) (st1 := [aI q2]) (σ1 := σ) (P := []) rfl trivial ?_
          refine XW.callS B (M := M_X11_nameOf) (as := [aI q2]) (c_X11_nameOf q2 σ rfl) (by omega) wS_X11_nameOf wN_X11_nameOf lk_X11_193 rfl (Nat.le_of_ble_eq_true rfl) (by decide +kernel) ?_
          refine XW.bb B [(149, .istore_n 2), (150, .iload_n 2)] (by decide +kernel) (pc1 := 151) (ls1 := [some (aR 0 0), some (aI q2), some (aI (m_X11_nameOf q2)), none, none]) (st1 := [aI (m_X11_nameOf q2)]) (σ1 := σ) (P := []) (i := .ifCond .lt 20) (tgt := 171) (q := (m_X11_nameOf q2) < (0 : Int32)) rfl trivial (by decide +kernel) rfl (by decide) (fun h30 => ?_) (fun h30 => ?_)
          · rw [if_pos h30] at hm
            refine XW.bk B [(171, .iconst 0), (172, .istore_n 3), (173, .iconst 0), (174, .istore 4)] (by decide +kernel) (pc1 := 176) (ls1 := [some (aR 0 0), some (aI q2), some (aI (m_X11_nameOf q2)), some (aI (0 : Int32)), some (aI (0 : Int32))]) (st1 := []) (σ1 := σ) (P := []) rfl trivial ?_
            refine XW.loc [true, false, false, true, true] rfl ?_
            exact lp_X11_one_176 rec dr hdr hrec_0 hrec_1 hrec_2 hrec_3 hrec_4 hrec_5 B q FU (0 : Int32) (0 : Int32) σ hm
          · rw [if_neg h30] at hm
            refine XW.bk B [(154, .aload_n 0), (155, .dup), (156, .getfield 150), (159, .iconst 1), (160, .iadd), (161, .putfield 150), (164, .aload_n 0), (165, .getfield 30), (168, .iload_n 2)] (by decide +kernel) (pc1 := 169) (ls1 := [some (aR 0 0), some (aI q2), some (aI (m_X11_nameOf q2)), none, none]) (st1 := [aI (m_X11_nameOf q2), aR 7 0]) (σ1 := (sI σ 0 0 13 ((σ.1 0 0 13) + (1 : Int32)))) (P := []) rfl trivial ?_
            by_cases g43 : (m_X11_nameOf q2) < 0 ∨ 6 ≤ (m_X11_nameOf q2).toNatClampNeg
            · rw [if_pos g43] at hm; cases hm
            rw [if_neg g43] at hm
            refine XW.bk B [(169, .iaload)] (by decide +kernel) (pc1 := 170) (ls1 := [some (aR 0 0), some (aI q2), some (aI (m_X11_nameOf q2)), none, none]) (st1 := [aI (σ.2.1 7 0 (m_X11_nameOf q2).toNatClampNeg)]) (σ1 := (sI σ 0 0 13 ((σ.1 0 0 13) + (1 : Int32)))) (P := [vp_in (m_X11_nameOf q2) 6]) rfl ⟨g43, trivial⟩ ?_
            obtain ⟨rfl, rfl⟩ := Prod.mk.inj (Option.some.inj hm)
            exact XW.iret B q (by decide +kernel)
  · rw [if_neg h1] at hm
    refine XW.bk B [(7, .iconst 0)] (by decide +kernel) (pc1 := 8) (ls1 := [some (aR 0 0), none, none, none, none]) (st1 := [aI (0 : Int32)]) (σ1 := σ) (P := []) rfl trivial ?_
    obtain ⟨rfl, rfl⟩ := Prod.mk.inj (Option.some.inj hm)
    exact XW.iret B q (by decide +kernel)
def m_GEx : Nat → Nat → SS → Option (Int32 × SS)
  | 0, _, _ => none
  | n + 1, k, σ =>
    if k = 0 then m_X11_either (m_GEx n) σ else
    if k = 1 then m_X11_both (m_GEx n) σ else
    if k = 2 then m_X11_compared (m_GEx n) σ else
    if k = 3 then m_X11_sums (m_GEx n) σ else
    if k = 4 then m_X11_product (m_GEx n) σ else
    m_X11_one (m_GEx n) σ
set_option maxRecDepth 100000 in
set_option maxHeartbeats 4000000 in
theorem c_GEx : ∀ n : Nat, (∀ (σ : SS) {r : Int32} {σ' : SS}, m_GEx n 0 σ = some (r, σ') → XM LM (2 + n) M_X11_either [aR 0 0] σ (some (aI r)) σ') ∧ (∀ (σ : SS) {r : Int32} {σ' : SS}, m_GEx n 1 σ = some (r, σ') → XM LM (2 + n) M_X11_both [aR 0 0] σ (some (aI r)) σ') ∧ (∀ (σ : SS) {r : Int32} {σ' : SS}, m_GEx n 2 σ = some (r, σ') → XM LM (2 + n) M_X11_compared [aR 0 0] σ (some (aI r)) σ') ∧ (∀ (σ : SS) {r : Int32} {σ' : SS}, m_GEx n 3 σ = some (r, σ') → XM LM (2 + n) M_X11_sums [aR 0 0] σ (some (aI r)) σ') ∧ (∀ (σ : SS) {r : Int32} {σ' : SS}, m_GEx n 4 σ = some (r, σ') → XM LM (2 + n) M_X11_product [aR 0 0] σ (some (aI r)) σ') ∧ (∀ (σ : SS) {r : Int32} {σ' : SS}, m_GEx n 5 σ = some (r, σ') → XM LM (2 + n) M_X11_one [aR 0 0] σ (some (aI r)) σ') := by
  intro n
  induction n with
  | zero => exact ⟨fun _ _ _ hm => (by cases hm), fun _ _ _ hm => (by cases hm), fun _ _ _ hm => (by cases hm), fun _ _ _ hm => (by cases hm), fun _ _ _ hm => (by cases hm), fun _ _ _ hm => (by cases hm)⟩
  | succ n ih =>
    obtain ⟨i0, i1, i2, i3, i4, i5⟩ := ih
    refine ⟨?_, ?_, ?_, ?_, ?_, ?_⟩
    · intro σ r σ' hm
      rw [m_GEx] at hm
      rw [if_pos rfl] at hm
      exact c_X11_either (m_GEx n) (2 + n) (by omega) i0 i1 i2 i3 i4 i5 σ hm
    · intro σ r σ' hm
      rw [m_GEx] at hm
      rw [if_neg (by decide)] at hm
      rw [if_pos rfl] at hm
      exact c_X11_both (m_GEx n) (2 + n) (by omega) i0 i1 i2 i3 i4 i5 σ hm
    · intro σ r σ' hm
      rw [m_GEx] at hm
      rw [if_neg (by decide)] at hm
      rw [if_neg (by decide)] at hm
      rw [if_pos rfl] at hm
      exact c_X11_compared (m_GEx n) (2 + n) (by omega) i0 i1 i2 i3 i4 i5 σ hm
    · intro σ r σ' hm
      rw [m_GEx] at hm
      rw [if_neg (by decide)] at hm
      rw [if_neg (by decide)] at hm
      rw [if_neg (by decide)] at hm
      rw [if_pos rfl] at hm
      exact c_X11_sums (m_GEx n) (2 + n) (by omega) i0 i1 i2 i3 i4 i5 σ hm
    · intro σ r σ' hm
      rw [m_GEx] at hm
      rw [if_neg (by decide)] at hm
      rw [if_neg (by decide)] at hm
      rw [if_neg (by decide)] at hm
      rw [if_neg (by decide)] at hm
      rw [if_pos rfl] at hm
      exact c_X11_product (m_GEx n) (2 + n) (by omega) i0 i1 i2 i3 i4 i5 σ hm
    · intro σ r σ' hm
      rw [m_GEx] at hm
      rw [if_neg (by decide)] at hm
      rw [if_neg (by decide)] at hm
      rw [if_neg (by decide)] at hm
      rw [if_neg (by decide)] at hm
      rw [if_neg (by decide)] at hm
      exact c_X11_one (m_GEx n) (2 + n) (by omega) i0 i1 i2 i3 i4 i5 σ hm

def L_X11_workOut_33 : Nat → Int32 → Int32 → Int32 → SS → Option (Int32 × SS)
  | 0, _, _, _, _ => none
  | n + 1, v3, v4, v5, σ =>
    if v5 = (0 : Int32) then
      if (0 : Int32) ≤ (σ.1 0 0 15) then
        some (v4, σ)
      else
      if (σ.1 0 0 14) ≤ (σ.1 0 0 13) then
        some (v4, σ)
      else
      bnT (m_X11_wrong σ) (fun q4 =>
      some (q4.1, q4.2))
    else
    Option.bind (m_GEx 60 0 σ) (fun q5 =>
    Option.bind (m_X11_takes (63 : Int32) q5.2) (fun q6 =>
    if q6.1 = (0 : Int32) then
      if (0 : Int32) ≤ (q6.2.1 0 0 15) then
        Option.bind (m_X11_takes (59 : Int32) q6.2) (fun q9 =>
        L_X11_workOut_33 n v3 v4 q9.1 q9.2)
      else
      if v3 = (0 : Int32) then
        Option.bind (m_X11_takes (59 : Int32) q6.2) (fun q11 =>
        L_X11_workOut_33 n (1 : Int32) q5.1 q11.1 q11.2)
      else
      Option.bind (m_X11_takes (59 : Int32) q6.2) (fun q12 =>
      L_X11_workOut_33 n v3 v4 q12.1 q12.2)
    else
    if q5.1 = (0 : Int32) then
      Option.bind (m_GEx 60 0 q6.2) (fun q14 =>
      if (0 : Int32) ≤ (q14.2.1 0 0 15) then
        Option.bind (m_X11_takes (59 : Int32) q14.2) (fun q16 =>
        L_X11_workOut_33 n v3 v4 q16.1 q16.2)
      else
      Option.bind (m_X11_takes (59 : Int32) q14.2) (fun q17 =>
      L_X11_workOut_33 n v3 v4 q17.1 q17.2))
    else
    Option.bind (m_GEx 60 0 q6.2) (fun q18 =>
    if (0 : Int32) ≤ (q18.2.1 0 0 15) then
      Option.bind (m_X11_takes (59 : Int32) q18.2) (fun q20 =>
      L_X11_workOut_33 n v3 v4 q20.1 q20.2)
    else
    if v3 = (0 : Int32) then
      Option.bind (m_X11_takes (59 : Int32) q18.2) (fun q22 =>
      L_X11_workOut_33 n (1 : Int32) q18.1 q22.1 q22.2)
    else
    Option.bind (m_X11_takes (59 : Int32) q18.2) (fun q23 =>
    L_X11_workOut_33 n v3 v4 q23.1 q23.2))))
def m_X11_workOut (x1 : Int32) (x2 : Int32) (σ : SS) : Option (Int32 × SS) :=
  L_X11_workOut_33 FU (0 : Int32) (0 : Int32) (1 : Int32) (sI (sI (sI (sI (sI σ 0 0 12 x1) 0 0 13 (0 : Int32)) 0 0 14 x2) 0 0 15 (-1 : Int32)) 0 0 16 (0 : Int32))
set_option maxRecDepth 100000 in
set_option maxHeartbeats 4000000 in
theorem lp_X11_workOut_33 {Γ : XC} {r : Int32} {σ' : SS} (B : XB Γ cX11_workOut RX11 63 K11 LM 8) (q : XQ Γ (some .int) (some (aI r)) σ') : ∀ (n : Nat) (v3 : Int32) (v4 : Int32) (v5 : Int32) (σ : SS), L_X11_workOut_33 n v3 v4 v5 σ = some (r, σ') → XW Γ 33 [some (aR 0 0), none, none, some (aI v3), some (aI v4), some (aI v5), none, none] [] σ := by
  intro n
  induction n with
  | zero => intro v3 v4 v5 σ hm; cases hm
  | succ n ih =>
    intro v3 v4 v5 σ hm
    rw [L_X11_workOut_33] at hm
    refine XW.bb B [(33, .iload 5)] (by decide +kernel) (pc1 := 35) (ls1 := [some (aR 0 0), none, none, some (aI v3), some (aI v4), some (aI v5), none, none]) (st1 := [aI v5]) (σ1 := σ) (P := []) (i := .ifCond .eq 72) (tgt := 107) (q := v5 = (0 : Int32)) rfl trivial (by decide +kernel) rfl (by decide) (fun h1 => ?_) (fun h1 => ?_)
    · rw [if_pos h1] at hm
      refine XW.bb B [(107, .aload_n 0), (108, .getfield 159)] (by decide +kernel) (pc1 := 111) (ls1 := [some (aR 0 0), none, none, some (aI v3), some (aI v4), some (aI v5), none, none]) (st1 := [aI (σ.1 0 0 15)]) (σ1 := σ) (P := []) (i := .ifCond .ge 19) (tgt := 130) (q := (0 : Int32) ≤ (σ.1 0 0 15)) rfl trivial (by decide +kernel) rfl (by decide) (fun h2 => ?_) (fun h2 => ?_)
      · rw [if_pos h2] at hm
        refine XW.bk B [(130, .iload 4)] (by decide +kernel) (pc1 := 132) (ls1 := [some (aR 0 0), none, none, some (aI v3), some (aI v4), some (aI v5), none, none]) (st1 := [aI v4]) (σ1 := σ) (P := []) rfl trivial ?_
        obtain ⟨rfl, rfl⟩ := Prod.mk.inj (Option.some.inj hm)
        exact XW.iret B q (by decide +kernel)
      · rw [if_neg h2] at hm
        refine XW.bb B [(114, .aload_n 0), (115, .getfield 150), (118, .aload_n 0), (119, .getfield 153)] (by decide +kernel) (pc1 := 122) (ls1 := [some (aR 0 0), none, none, some (aI v3), some (aI v4), some (aI v5), none, none]) (st1 := [aI (σ.1 0 0 14), aI (σ.1 0 0 13)]) (σ1 := σ) (P := []) (i := .if_icmp .ge 8) (tgt := 130) (q := (σ.1 0 0 14) ≤ (σ.1 0 0 13)) rfl trivial (by decide +kernel) rfl (by decide) (fun h3 => ?_) (fun h3 => ?_)
        · rw [if_pos h3] at hm
          refine XW.bk B [(130, .iload 4)] (by decide +kernel) (pc1 := 132) (ls1 := [some (aR 0 0), none, none, some (aI v3), some (aI v4), some (aI v5), none, none]) (st1 := [aI v4]) (σ1 := σ) (P := []) rfl trivial ?_
          obtain ⟨rfl, rfl⟩ := Prod.mk.inj (Option.some.inj hm)
          exact XW.iret B q (by decide +kernel)
        · rw [if_neg h3] at hm
          refine XW.bk B [(125, .aload_n 0)] (by decide +kernel) (pc1 := 126) (ls1 := [some (aR 0 0), none, none, some (aI v3), some (aI v4), some (aI v5), none, none]) (st1 := [aR 0 0]) (σ1 := σ) (P := []) rfl trivial ?_
          obtain ⟨q4, hq4, hm⟩ := bnT_eq hm
          refine XW.callV B (M := M_X11_wrong) (t := 0) (j := 0) (cn := 1) (as := []) (c_X11_wrong σ hq4) (by decide) wV_X11_wrong wN_X11_wrong lk_X11_187 rfl rfl rfl (by decide) rfl (Nat.le_of_ble_eq_true rfl) (by decide +kernel) ?_
          obtain ⟨rfl, rfl⟩ := Prod.mk.inj (Option.some.inj hm)
          exact XW.iret B q (by decide +kernel)
    · rw [if_neg h1] at hm
      refine XW.bk B [(38, .aload_n 0)] (by decide +kernel) (pc1 := 39) (ls1 := [some (aR 0 0), none, none, some (aI v3), some (aI v4), some (aI v5), none, none]) (st1 := [aR 0 0]) (σ1 := σ) (P := []) rfl trivial ?_
      obtain ⟨q5, hq5, hm⟩ := obind_eq hm
      refine XW.callV B (M := M_X11_either) (t := 0) (j := 0) (cn := 1) (as := []) ((c_GEx 60).1 σ hq5) (by decide) wV_X11_either wN_X11_either lk_X11_190 rfl rfl rfl (by decide) rfl (Nat.le_of_ble_eq_true rfl) (by decide +kernel) ?_
      refine XW.bk B [(42, .istore 6), (44, .iconst 1), (45, .istore 7), (47, .aload_n 0), (48, .bipush 63)] (by decide +kernel) (pc1 := 50) (ls1 := [some (aR 0 0), none, none, some (aI v3), some (aI v4), some (aI v5), some (aI q5.1), some (aI (1 : Int32))]) (st1 := [aI (63 : Int32), aR 0 0]) (σ1 := q5.2) (P := []) rfl trivial ?_
      obtain ⟨q6, hq6, hm⟩ := obind_eq hm
      refine XW.callV B (M := M_X11_takes) (t := 0) (j := 0) (cn := 1) (as := [aI (63 : Int32)]) (c_X11_takes (63 : Int32) q5.2 hq6) (by decide) wV_X11_takes wN_X11_takes lk_X11_169 rfl rfl rfl (by decide) rfl (Nat.le_of_ble_eq_true rfl) (by decide +kernel) ?_
      refine XW.bb B [] (by decide +kernel) (pc1 := 53) (ls1 := [some (aR 0 0), none, none, some (aI v3), some (aI v4), some (aI v5), some (aI q5.1), some (aI (1 : Int32))]) (st1 := [aI q6.1]) (σ1 := q6.2) (P := []) (i := .ifCond .eq 21) (tgt := 74) (q := q6.1 = (0 : Int32)) rfl trivial (by decide +kernel) rfl (by decide) (fun h7 => ?_) (fun h7 => ?_)
      · rw [if_pos h7] at hm
        refine XW.bb B [(74, .aload_n 0), (75, .getfield 159)] (by decide +kernel) (pc1 := 78) (ls1 := [some (aR 0 0), none, none, some (aI v3), some (aI v4), some (aI v5), some (aI q5.1), some (aI (1 : Int32))]) (st1 := [aI (q6.2.1 0 0 15)]) (σ1 := q6.2) (P := []) (i := .ifCond .ge 18) (tgt := 96) (q := (0 : Int32) ≤ (q6.2.1 0 0 15)) rfl trivial (by decide +kernel) rfl (by decide) (fun h8 => ?_) (fun h8 => ?_)
        · rw [if_pos h8] at hm
          refine XW.bk B [(96, .aload_n 0), (97, .bipush 59)] (by decide +kernel) (pc1 := 99) (ls1 := [some (aR 0 0), none, none, some (aI v3), some (aI v4), some (aI v5), some (aI q5.1), some (aI (1 : Int32))]) (st1 := [aI (59 : Int32), aR 0 0]) (σ1 := q6.2) (P := []) rfl trivial ?_
          obtain ⟨q9, hq9, hm⟩ := obind_eq hm
          refine XW.callV B (M := M_X11_takes) (t := 0) (j := 0) (cn := 1) (as := [aI (59 : Int32)]) (c_X11_takes (59 : Int32) q6.2 hq9) (by decide) wV_X11_takes wN_X11_takes lk_X11_169 rfl rfl rfl (by decide) rfl (Nat.le_of_ble_eq_true rfl) (by decide +kernel) ?_
          refine XW.bk B [(102, .istore 5), (104, .goto (-71))] (by decide +kernel) (pc1 := 33) (ls1 := [some (aR 0 0), none, none, some (aI v3), some (aI v4), some (aI q9.1), some (aI q5.1), some (aI (1 : Int32))]) (st1 := []) (σ1 := q9.2) (P := []) rfl trivial ?_
          refine XW.loc [true, false, false, true, true, true, false, false] rfl ?_
          exact ih v3 v4 q9.1 q9.2 hm
        · rw [if_neg h8] at hm
          refine XW.bb B [(81, .iload 7)] (by decide +kernel) (pc1 := 83) (ls1 := [some (aR 0 0), none, none, some (aI v3), some (aI v4), some (aI v5), some (aI q5.1), some (aI (1 : Int32))]) (st1 := [aI (1 : Int32)]) (σ1 := q6.2) (P := []) (i := .ifCond .eq 13) (tgt := 96) (q := (1 : Int32) = (0 : Int32)) rfl trivial (by decide +kernel) rfl (by decide) (fun h => absurd h (by decide)) (fun _ => ?_)
          refine XW.bn B [(86, .iload_n 3)] (by decide +kernel) (pc1 := 87) (ls1 := [some (aR 0 0), none, none, some (aI v3), some (aI v4), some (aI v5), some (aI q5.1), some (aI (1 : Int32))]) (st1 := [aI v3]) (σ1 := q6.2) (P := []) (i := .ifCond .ne 9) (tgt := 96) (q := v3 = (0 : Int32)) rfl trivial (by decide +kernel) rfl (by decide) (fun h10 => ?_) (fun h10 => ?_)
          · rw [if_pos h10] at hm
            refine XW.bk B [(90, .iconst 1), (91, .istore_n 3), (92, .iload 6), (94, .istore 4), (96, .aload_n 0), (97, .bipush 59)] (by decide +kernel) (pc1 := 99) (ls1 := [some (aR 0 0), none, none, some (aI (1 : Int32)), some (aI q5.1), some (aI v5), some (aI q5.1), some (aI (1 : Int32))]) (st1 := [aI (59 : Int32), aR 0 0]) (σ1 := q6.2) (P := []) rfl trivial ?_
            obtain ⟨q11, hq11, hm⟩ := obind_eq hm
            refine XW.callV B (M := M_X11_takes) (t := 0) (j := 0) (cn := 1) (as := [aI (59 : Int32)]) (c_X11_takes (59 : Int32) q6.2 hq11) (by decide) wV_X11_takes wN_X11_takes lk_X11_169 rfl rfl rfl (by decide) rfl (Nat.le_of_ble_eq_true rfl) (by decide +kernel) ?_
            refine XW.bk B [(102, .istore 5), (104, .goto (-71))] (by decide +kernel) (pc1 := 33) (ls1 := [some (aR 0 0), none, none, some (aI (1 : Int32)), some (aI q5.1), some (aI q11.1), some (aI q5.1), some (aI (1 : Int32))]) (st1 := []) (σ1 := q11.2) (P := []) rfl trivial ?_
            refine XW.loc [true, false, false, true, true, true, false, false] rfl ?_
            exact ih (1 : Int32) q5.1 q11.1 q11.2 hm
          · rw [if_neg h10] at hm
            refine XW.bk B [(96, .aload_n 0), (97, .bipush 59)] (by decide +kernel) (pc1 := 99) (ls1 := [some (aR 0 0), none, none, some (aI v3), some (aI v4), some (aI v5), some (aI q5.1), some (aI (1 : Int32))]) (st1 := [aI (59 : Int32), aR 0 0]) (σ1 := q6.2) (P := []) rfl trivial ?_
            obtain ⟨q12, hq12, hm⟩ := obind_eq hm
            refine XW.callV B (M := M_X11_takes) (t := 0) (j := 0) (cn := 1) (as := [aI (59 : Int32)]) (c_X11_takes (59 : Int32) q6.2 hq12) (by decide) wV_X11_takes wN_X11_takes lk_X11_169 rfl rfl rfl (by decide) rfl (Nat.le_of_ble_eq_true rfl) (by decide +kernel) ?_
            refine XW.bk B [(102, .istore 5), (104, .goto (-71))] (by decide +kernel) (pc1 := 33) (ls1 := [some (aR 0 0), none, none, some (aI v3), some (aI v4), some (aI q12.1), some (aI q5.1), some (aI (1 : Int32))]) (st1 := []) (σ1 := q12.2) (P := []) rfl trivial ?_
            refine XW.loc [true, false, false, true, true, true, false, false] rfl ?_
            exact ih v3 v4 q12.1 q12.2 hm
      · rw [if_neg h7] at hm
        refine XW.bb B [(56, .iload 6)] (by decide +kernel) (pc1 := 58) (ls1 := [some (aR 0 0), none, none, some (aI v3), some (aI v4), some (aI v5), some (aI q5.1), some (aI (1 : Int32))]) (st1 := [aI q5.1]) (σ1 := q6.2) (P := []) (i := .ifCond .eq 7) (tgt := 65) (q := q5.1 = (0 : Int32)) rfl trivial (by decide +kernel) rfl (by decide) (fun h13 => ?_) (fun h13 => ?_)
        · rw [if_pos h13] at hm
          refine XW.bk B [(65, .iconst 0), (66, .istore 7), (68, .aload_n 0)] (by decide +kernel) (pc1 := 69) (ls1 := [some (aR 0 0), none, none, some (aI v3), some (aI v4), some (aI v5), some (aI q5.1), some (aI (0 : Int32))]) (st1 := [aR 0 0]) (σ1 := q6.2) (P := []) rfl trivial ?_
          obtain ⟨q14, hq14, hm⟩ := obind_eq hm
          refine XW.callV B (M := M_X11_either) (t := 0) (j := 0) (cn := 1) (as := []) ((c_GEx 60).1 q6.2 hq14) (by decide) wV_X11_either wN_X11_either lk_X11_190 rfl rfl rfl (by decide) rfl (Nat.le_of_ble_eq_true rfl) (by decide +kernel) ?_
          refine XW.bb B [(72, .istore 6), (74, .aload_n 0), (75, .getfield 159)] (by decide +kernel) (pc1 := 78) (ls1 := [some (aR 0 0), none, none, some (aI v3), some (aI v4), some (aI v5), some (aI q14.1), some (aI (0 : Int32))]) (st1 := [aI (q14.2.1 0 0 15)]) (σ1 := q14.2) (P := []) (i := .ifCond .ge 18) (tgt := 96) (q := (0 : Int32) ≤ (q14.2.1 0 0 15)) rfl trivial (by decide +kernel) rfl (by decide) (fun h15 => ?_) (fun h15 => ?_)
          · rw [if_pos h15] at hm
            refine XW.bk B [(96, .aload_n 0), (97, .bipush 59)] (by decide +kernel) (pc1 := 99) (ls1 := [some (aR 0 0), none, none, some (aI v3), some (aI v4), some (aI v5), some (aI q14.1), some (aI (0 : Int32))]) (st1 := [aI (59 : Int32), aR 0 0]) (σ1 := q14.2) (P := []) rfl trivial ?_
            obtain ⟨q16, hq16, hm⟩ := obind_eq hm
            refine XW.callV B (M := M_X11_takes) (t := 0) (j := 0) (cn := 1) (as := [aI (59 : Int32)]) (c_X11_takes (59 : Int32) q14.2 hq16) (by decide) wV_X11_takes wN_X11_takes lk_X11_169 rfl rfl rfl (by decide) rfl (Nat.le_of_ble_eq_true rfl) (by decide +kernel) ?_
            refine XW.bk B [(102, .istore 5), (104, .goto (-71))] (by decide +kernel) (pc1 := 33) (ls1 := [some (aR 0 0), none, none, some (aI v3), some (aI v4), some (aI q16.1), some (aI q14.1), some (aI (0 : Int32))]) (st1 := []) (σ1 := q16.2) (P := []) rfl trivial ?_
            refine XW.loc [true, false, false, true, true, true, false, false] rfl ?_
            exact ih v3 v4 q16.1 q16.2 hm
          · rw [if_neg h15] at hm
            refine XW.bb B [(81, .iload 7)] (by decide +kernel) (pc1 := 83) (ls1 := [some (aR 0 0), none, none, some (aI v3), some (aI v4), some (aI v5), some (aI q14.1), some (aI (0 : Int32))]) (st1 := [aI (0 : Int32)]) (σ1 := q14.2) (P := []) (i := .ifCond .eq 13) (tgt := 96) (q := (0 : Int32) = (0 : Int32)) rfl trivial (by decide +kernel) rfl (by decide) (fun _ => ?_) (fun h => absurd (by decide) h)
            refine XW.bk B [(96, .aload_n 0), (97, .bipush 59)] (by decide +kernel) (pc1 := 99) (ls1 := [some (aR 0 0), none, none, some (aI v3), some (aI v4), some (aI v5), some (aI q14.1), some (aI (0 : Int32))]) (st1 := [aI (59 : Int32), aR 0 0]) (σ1 := q14.2) (P := []) rfl trivial ?_
            obtain ⟨q17, hq17, hm⟩ := obind_eq hm
            refine XW.callV B (M := M_X11_takes) (t := 0) (j := 0) (cn := 1) (as := [aI (59 : Int32)]) (c_X11_takes (59 : Int32) q14.2 hq17) (by decide) wV_X11_takes wN_X11_takes lk_X11_169 rfl rfl rfl (by decide) rfl (Nat.le_of_ble_eq_true rfl) (by decide +kernel) ?_
            refine XW.bk B [(102, .istore 5), (104, .goto (-71))] (by decide +kernel) (pc1 := 33) (ls1 := [some (aR 0 0), none, none, some (aI v3), some (aI v4), some (aI q17.1), some (aI q14.1), some (aI (0 : Int32))]) (st1 := []) (σ1 := q17.2) (P := []) rfl trivial ?_
            refine XW.loc [true, false, false, true, true, true, false, false] rfl ?_
            exact ih v3 v4 q17.1 q17.2 hm
        · rw [if_neg h13] at hm
          refine XW.bk B [(61, .iconst 1), (62, .goto 4), (66, .istore 7), (68, .aload_n 0)] (by decide +kernel) (pc1 := 69) (ls1 := [some (aR 0 0), none, none, some (aI v3), some (aI v4), some (aI v5), some (aI q5.1), some (aI (1 : Int32))]) (st1 := [aR 0 0]) (σ1 := q6.2) (P := []) rfl trivial ?_
          obtain ⟨q18, hq18, hm⟩ := obind_eq hm
          refine XW.callV B (M := M_X11_either) (t := 0) (j := 0) (cn := 1) (as := []) ((c_GEx 60).1 q6.2 hq18) (by decide) wV_X11_either wN_X11_either lk_X11_190 rfl rfl rfl (by decide) rfl (Nat.le_of_ble_eq_true rfl) (by decide +kernel) ?_
          refine XW.bb B [(72, .istore 6), (74, .aload_n 0), (75, .getfield 159)] (by decide +kernel) (pc1 := 78) (ls1 := [some (aR 0 0), none, none, some (aI v3), some (aI v4), some (aI v5), some (aI q18.1), some (aI (1 : Int32))]) (st1 := [aI (q18.2.1 0 0 15)]) (σ1 := q18.2) (P := []) (i := .ifCond .ge 18) (tgt := 96) (q := (0 : Int32) ≤ (q18.2.1 0 0 15)) rfl trivial (by decide +kernel) rfl (by decide) (fun h19 => ?_) (fun h19 => ?_)
          · rw [if_pos h19] at hm
            refine XW.bk B [(96, .aload_n 0), (97, .bipush 59)] (by decide +kernel) (pc1 := 99) (ls1 := [some (aR 0 0), none, none, some (aI v3), some (aI v4), some (aI v5), some (aI q18.1), some (aI (1 : Int32))]) (st1 := [aI (59 : Int32), aR 0 0]) (σ1 := q18.2) (P := []) rfl trivial ?_
            obtain ⟨q20, hq20, hm⟩ := obind_eq hm
            refine XW.callV B (M := M_X11_takes) (t := 0) (j := 0) (cn := 1) (as := [aI (59 : Int32)]) (c_X11_takes (59 : Int32) q18.2 hq20) (by decide) wV_X11_takes wN_X11_takes lk_X11_169 rfl rfl rfl (by decide) rfl (Nat.le_of_ble_eq_true rfl) (by decide +kernel) ?_
            refine XW.bk B [(102, .istore 5), (104, .goto (-71))] (by decide +kernel) (pc1 := 33) (ls1 := [some (aR 0 0), none, none, some (aI v3), some (aI v4), some (aI q20.1), some (aI q18.1), some (aI (1 : Int32))]) (st1 := []) (σ1 := q20.2) (P := []) rfl trivial ?_
            refine XW.loc [true, false, false, true, true, true, false, false] rfl ?_
            exact ih v3 v4 q20.1 q20.2 hm
          · rw [if_neg h19] at hm
            refine XW.bb B [(81, .iload 7)] (by decide +kernel) (pc1 := 83) (ls1 := [some (aR 0 0), none, none, some (aI v3), some (aI v4), some (aI v5), some (aI q18.1), some (aI (1 : Int32))]) (st1 := [aI (1 : Int32)]) (σ1 := q18.2) (P := []) (i := .ifCond .eq 13) (tgt := 96) (q := (1 : Int32) = (0 : Int32)) rfl trivial (by decide +kernel) rfl (by decide) (fun h => absurd h (by decide)) (fun _ => ?_)
            refine XW.bn B [(86, .iload_n 3)] (by decide +kernel) (pc1 := 87) (ls1 := [some (aR 0 0), none, none, some (aI v3), some (aI v4), some (aI v5), some (aI q18.1), some (aI (1 : Int32))]) (st1 := [aI v3]) (σ1 := q18.2) (P := []) (i := .ifCond .ne 9) (tgt := 96) (q := v3 = (0 : Int32)) rfl trivial (by decide +kernel) rfl (by decide) (fun h21 => ?_) (fun h21 => ?_)
            · rw [if_pos h21] at hm
              refine XW.bk B [(90, .iconst 1), (91, .istore_n 3), (92, .iload 6), (94, .istore 4), (96, .aload_n 0), (97, .bipush 59)] (by decide +kernel) (pc1 := 99) (ls1 := [some (aR 0 0), none, none, some (aI (1 : Int32)), some (aI q18.1), some (aI v5), some (aI q18.1), some (aI (1 : Int32))]) (st1 := [aI (59 : Int32), aR 0 0]) (σ1 := q18.2) (P := []) rfl trivial ?_
              obtain ⟨q22, hq22, hm⟩ := obind_eq hm
              refine XW.callV B (M := M_X11_takes) (t := 0) (j := 0) (cn := 1) (as := [aI (59 : Int32)]) (c_X11_takes (59 : Int32) q18.2 hq22) (by decide) wV_X11_takes wN_X11_takes lk_X11_169 rfl rfl rfl (by decide) rfl (Nat.le_of_ble_eq_true rfl) (by decide +kernel) ?_
              refine XW.bk B [(102, .istore 5), (104, .goto (-71))] (by decide +kernel) (pc1 := 33) (ls1 := [some (aR 0 0), none, none, some (aI (1 : Int32)), some (aI q18.1), some (aI q22.1), some (aI q18.1), some (aI (1 : Int32))]) (st1 := []) (σ1 := q22.2) (P := []) rfl trivial ?_
              refine XW.loc [true, false, false, true, true, true, false, false] rfl ?_
              exact ih (1 : Int32) q18.1 q22.1 q22.2 hm
            · rw [if_neg h21] at hm
              refine XW.bk B [(96, .aload_n 0), (97, .bipush 59)] (by decide +kernel) (pc1 := 99) (ls1 := [some (aR 0 0), none, none, some (aI v3), some (aI v4), some (aI v5), some (aI q18.1), some (aI (1 : Int32))]) (st1 := [aI (59 : Int32), aR 0 0]) (σ1 := q18.2) (P := []) rfl trivial ?_
              obtain ⟨q23, hq23, hm⟩ := obind_eq hm
              refine XW.callV B (M := M_X11_takes) (t := 0) (j := 0) (cn := 1) (as := [aI (59 : Int32)]) (c_X11_takes (59 : Int32) q18.2 hq23) (by decide) wV_X11_takes wN_X11_takes lk_X11_169 rfl rfl rfl (by decide) rfl (Nat.le_of_ble_eq_true rfl) (by decide +kernel) ?_
              refine XW.bk B [(102, .istore 5), (104, .goto (-71))] (by decide +kernel) (pc1 := 33) (ls1 := [some (aR 0 0), none, none, some (aI v3), some (aI v4), some (aI q23.1), some (aI q18.1), some (aI (1 : Int32))]) (st1 := []) (σ1 := q23.2) (P := []) rfl trivial ?_
              refine XW.loc [true, false, false, true, true, true, false, false] rfl ?_
              exact ih v3 v4 q23.1 q23.2 hm
set_option maxRecDepth 100000 in
set_option maxHeartbeats 4000000 in
theorem c_X11_workOut (x1 : Int32) (x2 : Int32) (σ : SS) {r : Int32} {σ' : SS} (hm : m_X11_workOut x1 x2 σ = some (r, σ')) : XM LM 63 M_X11_workOut [aR 0 0, aI x1, aI x2] σ (some (aI r)) σ' := by
  refine XM.of (K := K11) (by decide) (by decide +kernel) K11_ok (Nat.le_of_ble_eq_true rfl) (fun Γ B q => ?_)
  unfold m_X11_workOut at hm
  refine XW.bk B [(0, .aload_n 0), (1, .iload_n 1), (2, .putfield 156), (5, .aload_n 0), (6, .iconst 0), (7, .putfield 150), (10, .aload_n 0), (11, .iload_n 2), (12, .putfield 153), (15, .aload_n 0), (16, .iconst (-1)), (17, .putfield 159), (20, .aload_n 0), (21, .iconst 0), (22, .putfield 184), (25, .iconst 0), (26, .istore_n 3), (27, .iconst 0), (28, .istore 4), (30, .iconst 1), (31, .istore 5)] (by decide +kernel) (pc1 := 33) (ls1 := [some (aR 0 0), some (aI x1), some (aI x2), some (aI (0 : Int32)), some (aI (0 : Int32)), some (aI (1 : Int32)), none, none]) (st1 := []) (σ1 := (sI (sI (sI (sI (sI σ 0 0 12 x1) 0 0 13 (0 : Int32)) 0 0 14 x2) 0 0 15 (-1 : Int32)) 0 0 16 (0 : Int32))) (P := []) rfl trivial ?_
  refine XW.loc [true, false, false, true, true, true, false, false] rfl ?_
  exact lp_X11_workOut_33 B q FU (0 : Int32) (0 : Int32) (1 : Int32) (sI (sI (sI (sI (sI σ 0 0 12 x1) 0 0 13 (0 : Int32)) 0 0 14 x2) 0 0 15 (-1 : Int32)) 0 0 16 (0 : Int32)) hm

def L_X11_law_37 : Nat → Int32 → Int32 → SS → Option (Int32 × SS)
  | 0, _, _, _ => none
  | n + 1, v2, v3, σ =>
    if v2 ≤ v3 then
      some ((1 : Int32), (sI σ 0 0 11 v2))
    else
    if v3 < 0 ∨ 120 ≤ v3.toNatClampNeg then none else
    L_X11_law_37 n v2 (v3 + (1 : Int32)) (sA σ 6 0 v3.toNatClampNeg (σ.2.1 5 0 v3.toNatClampNeg))
def m_X11_law (σ : SS) : Option (Int32 × SS) :=
  Option.bind (m_X11_workOut (-1 : Int32) (σ.1 0 0 9) σ) (fun q1 =>
  if (q1.2.1 0 0 15) < (0 : Int32) then
    L_X11_law_37 FU (q1.2.1 0 0 9) (0 : Int32) (sI q1.2 0 0 9 (0 : Int32))
  else
  some (((-100 : Int32) - (q1.2.1 0 0 15)), (sI q1.2 0 0 9 (0 : Int32))))
set_option maxRecDepth 100000 in
set_option maxHeartbeats 4000000 in
theorem lp_X11_law_37 {Γ : XC} {r : Int32} {σ' : SS} (B : XB Γ cX11_law RX11 64 K11 LM 4) (q : XQ Γ (some .int) (some (aI r)) σ') : ∀ (n : Nat) (v2 : Int32) (v3 : Int32) (σ : SS), L_X11_law_37 n v2 v3 σ = some (r, σ') → XW Γ 37 [some (aR 0 0), none, some (aI v2), some (aI v3)] [] σ := by
  intro n
  induction n with
  | zero => intro v2 v3 σ hm; cases hm
  | succ n ih =>
    intro v2 v3 σ hm
    rw [L_X11_law_37] at hm
    refine XW.bb B [(37, .iload_n 3), (38, .iload_n 2)] (by decide +kernel) (pc1 := 39) (ls1 := [some (aR 0 0), none, some (aI v2), some (aI v3)]) (st1 := [aI v2, aI v3]) (σ1 := σ) (P := []) (i := .if_icmp .ge 21) (tgt := 60) (q := v2 ≤ v3) rfl trivial (by decide +kernel) rfl (by decide) (fun h3 => ?_) (fun h3 => ?_)
    · rw [if_pos h3] at hm
      refine XW.bk B [(60, .aload_n 0), (61, .iload_n 2), (62, .putfield 64), (65, .iconst 1)] (by decide +kernel) (pc1 := 66) (ls1 := [some (aR 0 0), none, some (aI v2), some (aI v3)]) (st1 := [aI (1 : Int32)]) (σ1 := (sI σ 0 0 11 v2)) (P := []) rfl trivial ?_
      obtain ⟨rfl, rfl⟩ := Prod.mk.inj (Option.some.inj hm)
      exact XW.iret B q (by decide +kernel)
    · rw [if_neg h3] at hm
      refine XW.bk B [(42, .aload_n 0), (43, .getfield 27), (46, .iload_n 3), (47, .aload_n 0), (48, .getfield 24), (51, .iload_n 3)] (by decide +kernel) (pc1 := 52) (ls1 := [some (aR 0 0), none, some (aI v2), some (aI v3)]) (st1 := [aI v3, aR 5 0, aI v3, aR 6 0]) (σ1 := σ) (P := []) rfl trivial ?_
      by_cases g4 : v3 < 0 ∨ 120 ≤ v3.toNatClampNeg
      · rw [if_pos g4] at hm; cases hm
      rw [if_neg g4] at hm
      refine XW.bk B [(52, .iaload), (53, .iastore), (54, .iinc 3 1), (57, .goto (-20))] (by decide +kernel) (pc1 := 37) (ls1 := [some (aR 0 0), none, some (aI v2), some (aI (v3 + (1 : Int32)))]) (st1 := []) (σ1 := (sA σ 6 0 v3.toNatClampNeg (σ.2.1 5 0 v3.toNatClampNeg))) (P := [vp_in v3 120, vp_in v3 120]) rfl ⟨g4, g4, trivial⟩ ?_
      exact ih v2 (v3 + (1 : Int32)) (sA σ 6 0 v3.toNatClampNeg (σ.2.1 5 0 v3.toNatClampNeg)) hm
set_option maxRecDepth 100000 in
set_option maxHeartbeats 4000000 in
theorem c_X11_law (σ : SS) {r : Int32} {σ' : SS} (hm : m_X11_law σ = some (r, σ')) : XM LM 64 M_X11_law [aR 0 0] σ (some (aI r)) σ' := by
  refine XM.of (K := K11) (by decide) (by decide +kernel) K11_ok (Nat.le_of_ble_eq_true rfl) (fun Γ B q => ?_)
  unfold m_X11_law at hm
  refine XW.bk B [(0, .aload_n 0), (1, .iconst (-1)), (2, .aload_n 0), (3, .getfield 147)] (by decide +kernel) (pc1 := 6) (ls1 := [some (aR 0 0), none, none, none]) (st1 := [aI (σ.1 0 0 9), aI (-1 : Int32), aR 0 0]) (σ1 := σ) (P := []) rfl trivial ?_
  obtain ⟨q1, hq1, hm⟩ := obind_eq hm
  refine XW.callV B (M := M_X11_workOut) (t := 0) (j := 0) (cn := 1) (as := [aI (-1 : Int32), aI (σ.1 0 0 9)]) (c_X11_workOut (-1 : Int32) (σ.1 0 0 9) σ hq1) (by decide) wV_X11_workOut wN_X11_workOut lk_X11_197 rfl rfl rfl (by decide) rfl (Nat.le_of_ble_eq_true rfl) (by decide +kernel) ?_
  refine XW.bb B [(9, .istore_n 1), (10, .aload_n 0), (11, .getfield 147), (14, .istore_n 2), (15, .aload_n 0), (16, .iconst 0), (17, .putfield 147), (20, .aload_n 0), (21, .getfield 159)] (by decide +kernel) (pc1 := 24) (ls1 := [some (aR 0 0), some (aI q1.1), some (aI (q1.2.1 0 0 9)), none]) (st1 := [aI (q1.2.1 0 0 15)]) (σ1 := (sI q1.2 0 0 9 (0 : Int32))) (P := []) (i := .ifCond .lt 11) (tgt := 35) (q := (q1.2.1 0 0 15) < (0 : Int32)) rfl trivial (by decide +kernel) rfl (by decide) (fun h2 => ?_) (fun h2 => ?_)
  · rw [if_pos h2] at hm
    refine XW.bk B [(35, .iconst 0), (36, .istore_n 3)] (by decide +kernel) (pc1 := 37) (ls1 := [some (aR 0 0), some (aI q1.1), some (aI (q1.2.1 0 0 9)), some (aI (0 : Int32))]) (st1 := []) (σ1 := (sI q1.2 0 0 9 (0 : Int32))) (P := []) rfl trivial ?_
    refine XW.loc [true, false, true, true] rfl ?_
    exact lp_X11_law_37 B q FU (q1.2.1 0 0 9) (0 : Int32) (sI q1.2 0 0 9 (0 : Int32)) hm
  · rw [if_neg h2] at hm
    refine XW.bk B [(27, .bipush (-100)), (29, .aload_n 0), (30, .getfield 159), (33, .isub)] (by decide +kernel) (pc1 := 34) (ls1 := [some (aR 0 0), some (aI q1.1), some (aI (q1.2.1 0 0 9)), none]) (st1 := [aI ((-100 : Int32) - (q1.2.1 0 0 15))]) (σ1 := (sI q1.2 0 0 9 (0 : Int32))) (P := []) rfl trivial ?_
    obtain ⟨rfl, rfl⟩ := Prod.mk.inj (Option.some.inj hm)
    exact XW.iret B q (by decide +kernel)

def m_X11_strainAt (x1 : Int32) (x2 : Int32) (x3 : Int32) (σ : SS) : Option (Int32 × SS) :=
  Option.bind (m_X11_windAt x1 x3 σ) (fun q1 =>
  if (σ.2.1 1 0 (84 : Int32).toNatClampNeg) = 0 then none else
  if ((48 : Int32) + x1) < 0 ∨ 88 ≤ ((48 : Int32) + x1).toNatClampNeg then none else
  if x2 = (0 : Int32) then
    if (σ.1 0 0 11) < (0 : Int32) then
      if (0 : Int32) ≤ ((((q1 * x2) / (σ.2.1 1 0 (84 : Int32).toNatClampNeg)) + (σ.2.1 1 0 ((48 : Int32) + x1).toNatClampNeg)) + (q1 / (4 : Int32))) then
        if ((((q1 * x2) / (σ.2.1 1 0 (84 : Int32).toNatClampNeg)) + (σ.2.1 1 0 ((48 : Int32) + x1).toNatClampNeg)) + (q1 / (4 : Int32))) ≤ (99 : Int32) then
          some (((((q1 * x2) / (σ.2.1 1 0 (84 : Int32).toNatClampNeg)) + (σ.2.1 1 0 ((48 : Int32) + x1).toNatClampNeg)) + (q1 / (4 : Int32))), σ)
        else
        some ((99 : Int32), σ)
      else
      some ((0 : Int32), σ)
    else
    Option.bind (m_X11_workOut (0 : Int32) (σ.1 0 0 11) (sA (sA (sA (sA (sA (sA σ 7 0 (0 : Int32).toNatClampNeg q1) 7 0 (1 : Int32).toNatClampNeg x2) 7 0 (2 : Int32).toNatClampNeg (σ.2.1 1 0 (84 : Int32).toNatClampNeg)) 7 0 (3 : Int32).toNatClampNeg (σ.2.1 1 0 ((48 : Int32) + x1).toNatClampNeg)) 7 0 (4 : Int32).toNatClampNeg (σ.2.1 1 0 (86 : Int32).toNatClampNeg)) 7 0 (5 : Int32).toNatClampNeg x1)) (fun q8 =>
    if (0 : Int32) ≤ q8.1 then
      if q8.1 ≤ (99 : Int32) then
        some (q8.1, q8.2)
      else
      some ((99 : Int32), q8.2)
    else
    some ((0 : Int32), q8.2))
  else
  if (σ.1 0 0 11) < (0 : Int32) then
    if (0 : Int32) ≤ ((((q1 * x2) / (σ.2.1 1 0 (84 : Int32).toNatClampNeg)) + (σ.2.1 1 0 ((48 : Int32) + x1).toNatClampNeg)) + (0 : Int32)) then
      if ((((q1 * x2) / (σ.2.1 1 0 (84 : Int32).toNatClampNeg)) + (σ.2.1 1 0 ((48 : Int32) + x1).toNatClampNeg)) + (0 : Int32)) ≤ (99 : Int32) then
        some (((((q1 * x2) / (σ.2.1 1 0 (84 : Int32).toNatClampNeg)) + (σ.2.1 1 0 ((48 : Int32) + x1).toNatClampNeg)) + (0 : Int32)), σ)
      else
      some ((99 : Int32), σ)
    else
    some ((0 : Int32), σ)
  else
  Option.bind (m_X11_workOut (0 : Int32) (σ.1 0 0 11) (sA (sA (sA (sA (sA (sA σ 7 0 (0 : Int32).toNatClampNeg q1) 7 0 (1 : Int32).toNatClampNeg x2) 7 0 (2 : Int32).toNatClampNeg (σ.2.1 1 0 (84 : Int32).toNatClampNeg)) 7 0 (3 : Int32).toNatClampNeg (σ.2.1 1 0 ((48 : Int32) + x1).toNatClampNeg)) 7 0 (4 : Int32).toNatClampNeg (σ.2.1 1 0 (86 : Int32).toNatClampNeg)) 7 0 (5 : Int32).toNatClampNeg x1)) (fun q14 =>
  if (0 : Int32) ≤ q14.1 then
    if q14.1 ≤ (99 : Int32) then
      some (q14.1, q14.2)
    else
    some ((99 : Int32), q14.2)
  else
  some ((0 : Int32), q14.2)))
set_option maxRecDepth 100000 in
set_option maxHeartbeats 4000000 in
theorem c_X11_strainAt (x1 : Int32) (x2 : Int32) (x3 : Int32) (σ : SS) {r : Int32} {σ' : SS} (hm : m_X11_strainAt x1 x2 x3 σ = some (r, σ')) : XM LM 64 M_X11_strainAt [aR 0 0, aI x1, aI x2, aI x3] σ (some (aI r)) σ' := by
  refine XM.of (K := K11) (by decide) (by decide +kernel) K11_ok (Nat.le_of_ble_eq_true rfl) (fun Γ B q => ?_)
  unfold m_X11_strainAt at hm
  refine XW.bk B [(0, .aload_n 0), (1, .iload_n 1), (2, .iload_n 3)] (by decide +kernel) (pc1 := 3) (ls1 := [some (aR 0 0), some (aI x1), some (aI x2), some (aI x3), none, none]) (st1 := [aI x3, aI x1, aR 0 0]) (σ1 := σ) (P := []) rfl trivial ?_
  obtain ⟨q1, hq1, hm⟩ := obind_eq hm
  refine XW.callV B (M := M_X11_windAt) (t := 0) (j := 0) (cn := 1) (as := [aI x1, aI x3]) (c_X11_windAt x1 x3 σ hq1) (by decide) wV_X11_windAt wN_X11_windAt lk_X11_142 rfl rfl rfl (by decide) rfl (Nat.le_of_ble_eq_true rfl) (by decide +kernel) ?_
  refine XW.bk B [(6, .istore 4), (8, .iload 4), (10, .iload_n 2), (11, .imul), (12, .aload_n 0), (13, .getfield 11), (16, .bipush 84), (18, .iaload)] (by decide +kernel) (pc1 := 19) (ls1 := [some (aR 0 0), some (aI x1), some (aI x2), some (aI x3), some (aI q1), none]) (st1 := [aI (σ.2.1 1 0 (84 : Int32).toNatClampNeg), aI (q1 * x2)]) (σ1 := σ) (P := [vp_in (84 : Int32) 88]) rfl ⟨(vin_lit (by decide +kernel)), trivial⟩ ?_
  by_cases g2 : (σ.2.1 1 0 (84 : Int32).toNatClampNeg) = 0
  · rw [if_pos g2] at hm; cases hm
  rw [if_neg g2] at hm
  refine XW.bk B [(19, .idiv), (20, .aload_n 0), (21, .getfield 11), (24, .bipush 48), (26, .iload_n 1), (27, .iadd)] (by decide +kernel) (pc1 := 28) (ls1 := [some (aR 0 0), some (aI x1), some (aI x2), some (aI x3), some (aI q1), none]) (st1 := [aI ((48 : Int32) + x1), aR 1 0, aI ((q1 * x2) / (σ.2.1 1 0 (84 : Int32).toNatClampNeg))]) (σ1 := σ) (P := [¬ (σ.2.1 1 0 (84 : Int32).toNatClampNeg) = 0]) rfl ⟨g2, trivial⟩ ?_
  by_cases g3 : ((48 : Int32) + x1) < 0 ∨ 88 ≤ ((48 : Int32) + x1).toNatClampNeg
  · rw [if_pos g3] at hm; cases hm
  rw [if_neg g3] at hm
  refine XW.bn B [(28, .iaload), (29, .iadd), (30, .iload_n 2)] (by decide +kernel) (pc1 := 31) (ls1 := [some (aR 0 0), some (aI x1), some (aI x2), some (aI x3), some (aI q1), none]) (st1 := [aI x2, aI (((q1 * x2) / (σ.2.1 1 0 (84 : Int32).toNatClampNeg)) + (σ.2.1 1 0 ((48 : Int32) + x1).toNatClampNeg))]) (σ1 := σ) (P := [vp_in ((48 : Int32) + x1) 88]) (i := .ifCond .ne 10) (tgt := 41) (q := x2 = (0 : Int32)) rfl ⟨g3, trivial⟩ (by decide +kernel) rfl (by decide) (fun h4 => ?_) (fun h4 => ?_)
  · rw [if_pos h4] at hm
    refine XW.bb B [(34, .iload 4), (36, .iconst 4), (37, .idiv), (38, .goto 4), (42, .iadd), (43, .istore 5), (45, .aload_n 0), (46, .getfield 64)] (by decide +kernel) (pc1 := 49) (ls1 := [some (aR 0 0), some (aI x1), some (aI x2), some (aI x3), some (aI q1), some (aI ((((q1 * x2) / (σ.2.1 1 0 (84 : Int32).toNatClampNeg)) + (σ.2.1 1 0 ((48 : Int32) + x1).toNatClampNeg)) + (q1 / (4 : Int32))))]) (st1 := [aI (σ.1 0 0 11)]) (σ1 := σ) (P := [¬ (4 : Int32) = 0]) (i := .ifCond .lt 77) (tgt := 126) (q := (σ.1 0 0 11) < (0 : Int32)) rfl ⟨(by decide), trivial⟩ (by decide +kernel) rfl (by decide) (fun h5 => ?_) (fun h5 => ?_)
    · rw [if_pos h5] at hm
      refine XW.bb B [(126, .iload 5)] (by decide +kernel) (pc1 := 128) (ls1 := [some (aR 0 0), some (aI x1), some (aI x2), some (aI x3), some (aI q1), some (aI ((((q1 * x2) / (σ.2.1 1 0 (84 : Int32).toNatClampNeg)) + (σ.2.1 1 0 ((48 : Int32) + x1).toNatClampNeg)) + (q1 / (4 : Int32))))]) (st1 := [aI ((((q1 * x2) / (σ.2.1 1 0 (84 : Int32).toNatClampNeg)) + (σ.2.1 1 0 ((48 : Int32) + x1).toNatClampNeg)) + (q1 / (4 : Int32)))]) (σ1 := σ) (P := []) (i := .ifCond .ge 7) (tgt := 135) (q := (0 : Int32) ≤ ((((q1 * x2) / (σ.2.1 1 0 (84 : Int32).toNatClampNeg)) + (σ.2.1 1 0 ((48 : Int32) + x1).toNatClampNeg)) + (q1 / (4 : Int32)))) rfl trivial (by decide +kernel) rfl (by decide) (fun h6 => ?_) (fun h6 => ?_)
      · rw [if_pos h6] at hm
        refine XW.bb B [(135, .iload 5), (137, .bipush 99)] (by decide +kernel) (pc1 := 139) (ls1 := [some (aR 0 0), some (aI x1), some (aI x2), some (aI x3), some (aI q1), some (aI ((((q1 * x2) / (σ.2.1 1 0 (84 : Int32).toNatClampNeg)) + (σ.2.1 1 0 ((48 : Int32) + x1).toNatClampNeg)) + (q1 / (4 : Int32))))]) (st1 := [aI (99 : Int32), aI ((((q1 * x2) / (σ.2.1 1 0 (84 : Int32).toNatClampNeg)) + (σ.2.1 1 0 ((48 : Int32) + x1).toNatClampNeg)) + (q1 / (4 : Int32)))]) (σ1 := σ) (P := []) (i := .if_icmp .le 8) (tgt := 147) (q := ((((q1 * x2) / (σ.2.1 1 0 (84 : Int32).toNatClampNeg)) + (σ.2.1 1 0 ((48 : Int32) + x1).toNatClampNeg)) + (q1 / (4 : Int32))) ≤ (99 : Int32)) rfl trivial (by decide +kernel) rfl (by decide) (fun h7 => ?_) (fun h7 => ?_)
        · rw [if_pos h7] at hm
          refine XW.bk B [(147, .iload 5)] (by decide +kernel) (pc1 := 149) (ls1 := [some (aR 0 0), some (aI x1), some (aI x2), some (aI x3), some (aI q1), some (aI ((((q1 * x2) / (σ.2.1 1 0 (84 : Int32).toNatClampNeg)) + (σ.2.1 1 0 ((48 : Int32) + x1).toNatClampNeg)) + (q1 / (4 : Int32))))]) (st1 := [aI ((((q1 * x2) / (σ.2.1 1 0 (84 : Int32).toNatClampNeg)) + (σ.2.1 1 0 ((48 : Int32) + x1).toNatClampNeg)) + (q1 / (4 : Int32)))]) (σ1 := σ) (P := []) rfl trivial ?_
          obtain ⟨rfl, rfl⟩ := Prod.mk.inj (Option.some.inj hm)
          exact XW.iret B q (by decide +kernel)
        · rw [if_neg h7] at hm
          refine XW.bk B [(142, .bipush 99), (144, .goto 5)] (by decide +kernel) (pc1 := 149) (ls1 := [some (aR 0 0), some (aI x1), some (aI x2), some (aI x3), some (aI q1), some (aI ((((q1 * x2) / (σ.2.1 1 0 (84 : Int32).toNatClampNeg)) + (σ.2.1 1 0 ((48 : Int32) + x1).toNatClampNeg)) + (q1 / (4 : Int32))))]) (st1 := [aI (99 : Int32)]) (σ1 := σ) (P := []) rfl trivial ?_
          obtain ⟨rfl, rfl⟩ := Prod.mk.inj (Option.some.inj hm)
          exact XW.iret B q (by decide +kernel)
      · rw [if_neg h6] at hm
        refine XW.bk B [(131, .iconst 0), (132, .goto 17)] (by decide +kernel) (pc1 := 149) (ls1 := [some (aR 0 0), some (aI x1), some (aI x2), some (aI x3), some (aI q1), some (aI ((((q1 * x2) / (σ.2.1 1 0 (84 : Int32).toNatClampNeg)) + (σ.2.1 1 0 ((48 : Int32) + x1).toNatClampNeg)) + (q1 / (4 : Int32))))]) (st1 := [aI (0 : Int32)]) (σ1 := σ) (P := []) rfl trivial ?_
        obtain ⟨rfl, rfl⟩ := Prod.mk.inj (Option.some.inj hm)
        exact XW.iret B q (by decide +kernel)
    · rw [if_neg h5] at hm
      refine XW.bk B [(52, .aload_n 0), (53, .getfield 30), (56, .iconst 0), (57, .iload 4), (59, .iastore), (60, .aload_n 0), (61, .getfield 30), (64, .iconst 1), (65, .iload_n 2), (66, .iastore), (67, .aload_n 0), (68, .getfield 30), (71, .iconst 2), (72, .aload_n 0), (73, .getfield 11), (76, .bipush 84), (78, .iaload), (79, .iastore), (80, .aload_n 0), (81, .getfield 30), (84, .iconst 3), (85, .aload_n 0), (86, .getfield 11), (89, .bipush 48), (91, .iload_n 1), (92, .iadd), (93, .iaload), (94, .iastore), (95, .aload_n 0), (96, .getfield 30), (99, .iconst 4), (100, .aload_n 0), (101, .getfield 11), (104, .bipush 86), (106, .iaload), (107, .iastore), (108, .aload_n 0), (109, .getfield 30), (112, .iconst 5), (113, .iload_n 1), (114, .iastore), (115, .aload_n 0), (116, .iconst 0), (117, .aload_n 0), (118, .getfield 64)] (by decide +kernel) (pc1 := 121) (ls1 := [some (aR 0 0), some (aI x1), some (aI x2), some (aI x3), some (aI q1), some (aI ((((q1 * x2) / (σ.2.1 1 0 (84 : Int32).toNatClampNeg)) + (σ.2.1 1 0 ((48 : Int32) + x1).toNatClampNeg)) + (q1 / (4 : Int32))))]) (st1 := [aI (σ.1 0 0 11), aI (0 : Int32), aR 0 0]) (σ1 := (sA (sA (sA (sA (sA (sA σ 7 0 (0 : Int32).toNatClampNeg q1) 7 0 (1 : Int32).toNatClampNeg x2) 7 0 (2 : Int32).toNatClampNeg (σ.2.1 1 0 (84 : Int32).toNatClampNeg)) 7 0 (3 : Int32).toNatClampNeg (σ.2.1 1 0 ((48 : Int32) + x1).toNatClampNeg)) 7 0 (4 : Int32).toNatClampNeg (σ.2.1 1 0 (86 : Int32).toNatClampNeg)) 7 0 (5 : Int32).toNatClampNeg x1)) (P := [vp_in (0 : Int32) 6, vp_in (1 : Int32) 6, vp_in (84 : Int32) 88, vp_in (2 : Int32) 6, vp_in ((48 : Int32) + x1) 88, vp_in (3 : Int32) 6, vp_in (86 : Int32) 88, vp_in (4 : Int32) 6, vp_in (5 : Int32) 6]) rfl ⟨(vin_lit (by decide +kernel)), (vin_lit (by decide +kernel)), (vin_lit (by decide +kernel)), (vin_lit (by decide +kernel)), g3, (vin_lit (by decide +kernel)), (vin_lit (by decide +kernel)), (vin_lit (by decide +kernel)), (vin_lit (by decide +kernel)), trivial⟩ ?_
      obtain ⟨q8, hq8, hm⟩ := obind_eq hm
      refine XW.callV B (M := M_X11_workOut) (t := 0) (j := 0) (cn := 1) (as := [aI (0 : Int32), aI (σ.1 0 0 11)]) (c_X11_workOut (0 : Int32) (σ.1 0 0 11) (sA (sA (sA (sA (sA (sA σ 7 0 (0 : Int32).toNatClampNeg q1) 7 0 (1 : Int32).toNatClampNeg x2) 7 0 (2 : Int32).toNatClampNeg (σ.2.1 1 0 (84 : Int32).toNatClampNeg)) 7 0 (3 : Int32).toNatClampNeg (σ.2.1 1 0 ((48 : Int32) + x1).toNatClampNeg)) 7 0 (4 : Int32).toNatClampNeg (σ.2.1 1 0 (86 : Int32).toNatClampNeg)) 7 0 (5 : Int32).toNatClampNeg x1) hq8) (by decide) wV_X11_workOut wN_X11_workOut lk_X11_197 rfl rfl rfl (by decide) rfl (Nat.le_of_ble_eq_true rfl) (by decide +kernel) ?_
      refine XW.bb B [(124, .istore 5), (126, .iload 5)] (by decide +kernel) (pc1 := 128) (ls1 := [some (aR 0 0), some (aI x1), some (aI x2), some (aI x3), some (aI q1), some (aI q8.1)]) (st1 := [aI q8.1]) (σ1 := q8.2) (P := []) (i := .ifCond .ge 7) (tgt := 135) (q := (0 : Int32) ≤ q8.1) rfl trivial (by decide +kernel) rfl (by decide) (fun h9 => ?_) (fun h9 => ?_)
      · rw [if_pos h9] at hm
        refine XW.bb B [(135, .iload 5), (137, .bipush 99)] (by decide +kernel) (pc1 := 139) (ls1 := [some (aR 0 0), some (aI x1), some (aI x2), some (aI x3), some (aI q1), some (aI q8.1)]) (st1 := [aI (99 : Int32), aI q8.1]) (σ1 := q8.2) (P := []) (i := .if_icmp .le 8) (tgt := 147) (q := q8.1 ≤ (99 : Int32)) rfl trivial (by decide +kernel) rfl (by decide) (fun h10 => ?_) (fun h10 => ?_)
        · rw [if_pos h10] at hm
          refine XW.bk B [(147, .iload 5)] (by decide +kernel) (pc1 := 149) (ls1 := [some (aR 0 0), some (aI x1), some (aI x2), some (aI x3), some (aI q1), some (aI q8.1)]) (st1 := [aI q8.1]) (σ1 := q8.2) (P := []) rfl trivial ?_
          obtain ⟨rfl, rfl⟩ := Prod.mk.inj (Option.some.inj hm)
          exact XW.iret B q (by decide +kernel)
        · rw [if_neg h10] at hm
          refine XW.bk B [(142, .bipush 99), (144, .goto 5)] (by decide +kernel) (pc1 := 149) (ls1 := [some (aR 0 0), some (aI x1), some (aI x2), some (aI x3), some (aI q1), some (aI q8.1)]) (st1 := [aI (99 : Int32)]) (σ1 := q8.2) (P := []) rfl trivial ?_
          obtain ⟨rfl, rfl⟩ := Prod.mk.inj (Option.some.inj hm)
          exact XW.iret B q (by decide +kernel)
      · rw [if_neg h9] at hm
        refine XW.bk B [(131, .iconst 0), (132, .goto 17)] (by decide +kernel) (pc1 := 149) (ls1 := [some (aR 0 0), some (aI x1), some (aI x2), some (aI x3), some (aI q1), some (aI q8.1)]) (st1 := [aI (0 : Int32)]) (σ1 := q8.2) (P := []) rfl trivial ?_
        obtain ⟨rfl, rfl⟩ := Prod.mk.inj (Option.some.inj hm)
        exact XW.iret B q (by decide +kernel)
  · rw [if_neg h4] at hm
    refine XW.bb B [(41, .iconst 0), (42, .iadd), (43, .istore 5), (45, .aload_n 0), (46, .getfield 64)] (by decide +kernel) (pc1 := 49) (ls1 := [some (aR 0 0), some (aI x1), some (aI x2), some (aI x3), some (aI q1), some (aI ((((q1 * x2) / (σ.2.1 1 0 (84 : Int32).toNatClampNeg)) + (σ.2.1 1 0 ((48 : Int32) + x1).toNatClampNeg)) + (0 : Int32)))]) (st1 := [aI (σ.1 0 0 11)]) (σ1 := σ) (P := []) (i := .ifCond .lt 77) (tgt := 126) (q := (σ.1 0 0 11) < (0 : Int32)) rfl trivial (by decide +kernel) rfl (by decide) (fun h11 => ?_) (fun h11 => ?_)
    · rw [if_pos h11] at hm
      refine XW.bb B [(126, .iload 5)] (by decide +kernel) (pc1 := 128) (ls1 := [some (aR 0 0), some (aI x1), some (aI x2), some (aI x3), some (aI q1), some (aI ((((q1 * x2) / (σ.2.1 1 0 (84 : Int32).toNatClampNeg)) + (σ.2.1 1 0 ((48 : Int32) + x1).toNatClampNeg)) + (0 : Int32)))]) (st1 := [aI ((((q1 * x2) / (σ.2.1 1 0 (84 : Int32).toNatClampNeg)) + (σ.2.1 1 0 ((48 : Int32) + x1).toNatClampNeg)) + (0 : Int32))]) (σ1 := σ) (P := []) (i := .ifCond .ge 7) (tgt := 135) (q := (0 : Int32) ≤ ((((q1 * x2) / (σ.2.1 1 0 (84 : Int32).toNatClampNeg)) + (σ.2.1 1 0 ((48 : Int32) + x1).toNatClampNeg)) + (0 : Int32))) rfl trivial (by decide +kernel) rfl (by decide) (fun h12 => ?_) (fun h12 => ?_)
      · rw [if_pos h12] at hm
        refine XW.bb B [(135, .iload 5), (137, .bipush 99)] (by decide +kernel) (pc1 := 139) (ls1 := [some (aR 0 0), some (aI x1), some (aI x2), some (aI x3), some (aI q1), some (aI ((((q1 * x2) / (σ.2.1 1 0 (84 : Int32).toNatClampNeg)) + (σ.2.1 1 0 ((48 : Int32) + x1).toNatClampNeg)) + (0 : Int32)))]) (st1 := [aI (99 : Int32), aI ((((q1 * x2) / (σ.2.1 1 0 (84 : Int32).toNatClampNeg)) + (σ.2.1 1 0 ((48 : Int32) + x1).toNatClampNeg)) + (0 : Int32))]) (σ1 := σ) (P := []) (i := .if_icmp .le 8) (tgt := 147) (q := ((((q1 * x2) / (σ.2.1 1 0 (84 : Int32).toNatClampNeg)) + (σ.2.1 1 0 ((48 : Int32) + x1).toNatClampNeg)) + (0 : Int32)) ≤ (99 : Int32)) rfl trivial (by decide +kernel) rfl (by decide) (fun h13 => ?_) (fun h13 => ?_)
        · rw [if_pos h13] at hm
          refine XW.bk B [(147, .iload 5)] (by decide +kernel) (pc1 := 149) (ls1 := [some (aR 0 0), some (aI x1), some (aI x2), some (aI x3), some (aI q1), some (aI ((((q1 * x2) / (σ.2.1 1 0 (84 : Int32).toNatClampNeg)) + (σ.2.1 1 0 ((48 : Int32) + x1).toNatClampNeg)) + (0 : Int32)))]) (st1 := [aI ((((q1 * x2) / (σ.2.1 1 0 (84 : Int32).toNatClampNeg)) + (σ.2.1 1 0 ((48 : Int32) + x1).toNatClampNeg)) + (0 : Int32))]) (σ1 := σ) (P := []) rfl trivial ?_
          obtain ⟨rfl, rfl⟩ := Prod.mk.inj (Option.some.inj hm)
          exact XW.iret B q (by decide +kernel)
        · rw [if_neg h13] at hm
          refine XW.bk B [(142, .bipush 99), (144, .goto 5)] (by decide +kernel) (pc1 := 149) (ls1 := [some (aR 0 0), some (aI x1), some (aI x2), some (aI x3), some (aI q1), some (aI ((((q1 * x2) / (σ.2.1 1 0 (84 : Int32).toNatClampNeg)) + (σ.2.1 1 0 ((48 : Int32) + x1).toNatClampNeg)) + (0 : Int32)))]) (st1 := [aI (99 : Int32)]) (σ1 := σ) (P := []) rfl trivial ?_
          obtain ⟨rfl, rfl⟩ := Prod.mk.inj (Option.some.inj hm)
          exact XW.iret B q (by decide +kernel)
      · rw [if_neg h12] at hm
        refine XW.bk B [(131, .iconst 0), (132, .goto 17)] (by decide +kernel) (pc1 := 149) (ls1 := [some (aR 0 0), some (aI x1), some (aI x2), some (aI x3), some (aI q1), some (aI ((((q1 * x2) / (σ.2.1 1 0 (84 : Int32).toNatClampNeg)) + (σ.2.1 1 0 ((48 : Int32) + x1).toNatClampNeg)) + (0 : Int32)))]) (st1 := [aI (0 : Int32)]) (σ1 := σ) (P := []) rfl trivial ?_
        obtain ⟨rfl, rfl⟩ := Prod.mk.inj (Option.some.inj hm)
        exact XW.iret B q (by decide +kernel)
    · rw [if_neg h11] at hm
      refine XW.bk B [(52, .aload_n 0), (53, .getfield 30), (56, .iconst 0), (57, .iload 4), (59, .iastore), (60, .aload_n 0), (61, .getfield 30), (64, .iconst 1), (65, .iload_n 2), (66, .iastore), (67, .aload_n 0), (68, .getfield 30), (71, .iconst 2), (72, .aload_n 0), (73, .getfield 11), (76, .bipush 84), (78, .iaload), (79, .iastore), (80, .aload_n 0), (81, .getfield 30), (84, .iconst 3), (85, .aload_n 0), (86, .getfield 11), (89, .bipush 48), (91, .iload_n 1), (92, .iadd), (93, .iaload), (94, .iastore), (95, .aload_n 0), (96, .getfield 30), (99, .iconst 4), (100, .aload_n 0), (101, .getfield 11), (104, .bipush 86), (106, .iaload), (107, .iastore), (108, .aload_n 0), (109, .getfield 30), (112, .iconst 5), (113, .iload_n 1), (114, .iastore), (115, .aload_n 0), (116, .iconst 0), (117, .aload_n 0), (118, .getfield 64)] (by decide +kernel) (pc1 := 121) (ls1 := [some (aR 0 0), some (aI x1), some (aI x2), some (aI x3), some (aI q1), some (aI ((((q1 * x2) / (σ.2.1 1 0 (84 : Int32).toNatClampNeg)) + (σ.2.1 1 0 ((48 : Int32) + x1).toNatClampNeg)) + (0 : Int32)))]) (st1 := [aI (σ.1 0 0 11), aI (0 : Int32), aR 0 0]) (σ1 := (sA (sA (sA (sA (sA (sA σ 7 0 (0 : Int32).toNatClampNeg q1) 7 0 (1 : Int32).toNatClampNeg x2) 7 0 (2 : Int32).toNatClampNeg (σ.2.1 1 0 (84 : Int32).toNatClampNeg)) 7 0 (3 : Int32).toNatClampNeg (σ.2.1 1 0 ((48 : Int32) + x1).toNatClampNeg)) 7 0 (4 : Int32).toNatClampNeg (σ.2.1 1 0 (86 : Int32).toNatClampNeg)) 7 0 (5 : Int32).toNatClampNeg x1)) (P := [vp_in (0 : Int32) 6, vp_in (1 : Int32) 6, vp_in (84 : Int32) 88, vp_in (2 : Int32) 6, vp_in ((48 : Int32) + x1) 88, vp_in (3 : Int32) 6, vp_in (86 : Int32) 88, vp_in (4 : Int32) 6, vp_in (5 : Int32) 6]) rfl ⟨(vin_lit (by decide +kernel)), (vin_lit (by decide +kernel)), (vin_lit (by decide +kernel)), (vin_lit (by decide +kernel)), g3, (vin_lit (by decide +kernel)), (vin_lit (by decide +kernel)), (vin_lit (by decide +kernel)), (vin_lit (by decide +kernel)), trivial⟩ ?_
      obtain ⟨q14, hq14, hm⟩ := obind_eq hm
      refine XW.callV B (M := M_X11_workOut) (t := 0) (j := 0) (cn := 1) (as := [aI (0 : Int32), aI (σ.1 0 0 11)]) (c_X11_workOut (0 : Int32) (σ.1 0 0 11) (sA (sA (sA (sA (sA (sA σ 7 0 (0 : Int32).toNatClampNeg q1) 7 0 (1 : Int32).toNatClampNeg x2) 7 0 (2 : Int32).toNatClampNeg (σ.2.1 1 0 (84 : Int32).toNatClampNeg)) 7 0 (3 : Int32).toNatClampNeg (σ.2.1 1 0 ((48 : Int32) + x1).toNatClampNeg)) 7 0 (4 : Int32).toNatClampNeg (σ.2.1 1 0 (86 : Int32).toNatClampNeg)) 7 0 (5 : Int32).toNatClampNeg x1) hq14) (by decide) wV_X11_workOut wN_X11_workOut lk_X11_197 rfl rfl rfl (by decide) rfl (Nat.le_of_ble_eq_true rfl) (by decide +kernel) ?_
      refine XW.bb B [(124, .istore 5), (126, .iload 5)] (by decide +kernel) (pc1 := 128) (ls1 := [some (aR 0 0), some (aI x1), some (aI x2), some (aI x3), some (aI q1), some (aI q14.1)]) (st1 := [aI q14.1]) (σ1 := q14.2) (P := []) (i := .ifCond .ge 7) (tgt := 135) (q := (0 : Int32) ≤ q14.1) rfl trivial (by decide +kernel) rfl (by decide) (fun h15 => ?_) (fun h15 => ?_)
      · rw [if_pos h15] at hm
        refine XW.bb B [(135, .iload 5), (137, .bipush 99)] (by decide +kernel) (pc1 := 139) (ls1 := [some (aR 0 0), some (aI x1), some (aI x2), some (aI x3), some (aI q1), some (aI q14.1)]) (st1 := [aI (99 : Int32), aI q14.1]) (σ1 := q14.2) (P := []) (i := .if_icmp .le 8) (tgt := 147) (q := q14.1 ≤ (99 : Int32)) rfl trivial (by decide +kernel) rfl (by decide) (fun h16 => ?_) (fun h16 => ?_)
        · rw [if_pos h16] at hm
          refine XW.bk B [(147, .iload 5)] (by decide +kernel) (pc1 := 149) (ls1 := [some (aR 0 0), some (aI x1), some (aI x2), some (aI x3), some (aI q1), some (aI q14.1)]) (st1 := [aI q14.1]) (σ1 := q14.2) (P := []) rfl trivial ?_
          obtain ⟨rfl, rfl⟩ := Prod.mk.inj (Option.some.inj hm)
          exact XW.iret B q (by decide +kernel)
        · rw [if_neg h16] at hm
          refine XW.bk B [(142, .bipush 99), (144, .goto 5)] (by decide +kernel) (pc1 := 149) (ls1 := [some (aR 0 0), some (aI x1), some (aI x2), some (aI x3), some (aI q1), some (aI q14.1)]) (st1 := [aI (99 : Int32)]) (σ1 := q14.2) (P := []) rfl trivial ?_
          obtain ⟨rfl, rfl⟩ := Prod.mk.inj (Option.some.inj hm)
          exact XW.iret B q (by decide +kernel)
      · rw [if_neg h15] at hm
        refine XW.bk B [(131, .iconst 0), (132, .goto 17)] (by decide +kernel) (pc1 := 149) (ls1 := [some (aR 0 0), some (aI x1), some (aI x2), some (aI x3), some (aI q1), some (aI q14.1)]) (st1 := [aI (0 : Int32)]) (σ1 := q14.2) (P := []) rfl trivial ?_
        obtain ⟨rfl, rfl⟩ := Prod.mk.inj (Option.some.inj hm)
        exact XW.iret B q (by decide +kernel)

def m_X11_strain (x1 : Int32) (x2 : Int32) (σ : SS) : Option (Int32 × SS) :=
  if x1 < (0 : Int32) then
    some ((-1 : Int32), σ)
  else
  if (m_X11_isPlace (x1 / (10 : Int32)) σ) = (0 : Int32) then
    some ((-1 : Int32), σ)
  else
  if (m_X11_isHeld ((x1 - (x1 / (10 : Int32)) * (10 : Int32)).toInt64)) = (0 : Int32) then
    some ((-1 : Int32), σ)
  else
  if (m_X11_within x2.toInt64 (0 : Int64) (9999 : Int64)) = (0 : Int32) then
    some ((-1 : Int32), σ)
  else
  Option.bind (m_X11_strainAt (x1 / (10 : Int32)) (x1 - (x1 / (10 : Int32)) * (10 : Int32)) x2 σ) (fun q5 =>
  some (q5.1, q5.2))
set_option maxRecDepth 100000 in
set_option maxHeartbeats 4000000 in
theorem c_X11_strain (x1 : Int32) (x2 : Int32) (σ : SS) {r : Int32} {σ' : SS} (hm : m_X11_strain x1 x2 σ = some (r, σ')) : XM LM 65 M_X11_strain [aR 0 0, aI x1, aI x2] σ (some (aI r)) σ' := by
  refine XM.of (K := K11) (by decide) (by decide +kernel) K11_ok (Nat.le_of_ble_eq_true rfl) (fun Γ B q => ?_)
  unfold m_X11_strain at hm
  refine XW.bb B [(0, .iload_n 1)] (by decide +kernel) (pc1 := 1) (ls1 := [some (aR 0 0), some (aI x1), some (aI x2)]) (st1 := [aI x1]) (σ1 := σ) (P := []) (i := .ifCond .lt 53) (tgt := 54) (q := x1 < (0 : Int32)) rfl trivial (by decide +kernel) rfl (by decide) (fun h1 => ?_) (fun h1 => ?_)
  · rw [if_pos h1] at hm
    refine XW.bk B [(54, .iconst (-1))] (by decide +kernel) (pc1 := 55) (ls1 := [some (aR 0 0), some (aI x1), some (aI x2)]) (st1 := [aI (-1 : Int32)]) (σ1 := σ) (P := []) rfl trivial ?_
    obtain ⟨rfl, rfl⟩ := Prod.mk.inj (Option.some.inj hm)
    exact XW.iret B q (by decide +kernel)
  · rw [if_neg h1] at hm
    refine XW.bk B [(4, .aload_n 0), (5, .iload_n 1), (6, .bipush 10), (8, .idiv)] (by decide +kernel) (pc1 := 9) (ls1 := [some (aR 0 0), some (aI x1), some (aI x2)]) (st1 := [aI (x1 / (10 : Int32)), aR 0 0]) (σ1 := σ) (P := [¬ (10 : Int32) = 0]) rfl ⟨(by decide), trivial⟩ ?_
    refine XW.callV B (M := M_X11_isPlace) (t := 0) (j := 0) (cn := 1) (as := [aI (x1 / (10 : Int32))]) (c_X11_isPlace (x1 / (10 : Int32)) σ rfl) (by decide) wV_X11_isPlace wN_X11_isPlace lk_X11_111 rfl rfl rfl (by decide) rfl (Nat.le_of_ble_eq_true rfl) (by decide +kernel) ?_
    refine XW.bb B [] (by decide +kernel) (pc1 := 12) (ls1 := [some (aR 0 0), some (aI x1), some (aI x2)]) (st1 := [aI (m_X11_isPlace (x1 / (10 : Int32)) σ)]) (σ1 := σ) (P := []) (i := .ifCond .eq 42) (tgt := 54) (q := (m_X11_isPlace (x1 / (10 : Int32)) σ) = (0 : Int32)) rfl trivial (by decide +kernel) rfl (by decide) (fun h2 => ?_) (fun h2 => ?_)
    · rw [if_pos h2] at hm
      refine XW.bk B [(54, .iconst (-1))] (by decide +kernel) (pc1 := 55) (ls1 := [some (aR 0 0), some (aI x1), some (aI x2)]) (st1 := [aI (-1 : Int32)]) (σ1 := σ) (P := []) rfl trivial ?_
      obtain ⟨rfl, rfl⟩ := Prod.mk.inj (Option.some.inj hm)
      exact XW.iret B q (by decide +kernel)
    · rw [if_neg h2] at hm
      refine XW.bk B [(15, .iload_n 1), (16, .bipush 10), (18, .irem), (19, .i2l)] (by decide +kernel) (pc1 := 20) (ls1 := [some (aR 0 0), some (aI x1), some (aI x2)]) (st1 := [aJ ((x1 - (x1 / (10 : Int32)) * (10 : Int32)).toInt64)]) (σ1 := σ) (P := [¬ (10 : Int32) = 0]) rfl ⟨(by decide), trivial⟩ ?_
      refine XW.callS B (M := M_X11_isHeld) (as := [aJ ((x1 - (x1 / (10 : Int32)) * (10 : Int32)).toInt64)]) (c_X11_isHeld ((x1 - (x1 / (10 : Int32)) * (10 : Int32)).toInt64) σ rfl) (by decide) wS_X11_isHeld wN_X11_isHeld lk_X11_120 rfl (Nat.le_of_ble_eq_true rfl) (by decide +kernel) ?_
      refine XW.bb B [] (by decide +kernel) (pc1 := 23) (ls1 := [some (aR 0 0), some (aI x1), some (aI x2)]) (st1 := [aI (m_X11_isHeld ((x1 - (x1 / (10 : Int32)) * (10 : Int32)).toInt64))]) (σ1 := σ) (P := []) (i := .ifCond .eq 31) (tgt := 54) (q := (m_X11_isHeld ((x1 - (x1 / (10 : Int32)) * (10 : Int32)).toInt64)) = (0 : Int32)) rfl trivial (by decide +kernel) rfl (by decide) (fun h3 => ?_) (fun h3 => ?_)
      · rw [if_pos h3] at hm
        refine XW.bk B [(54, .iconst (-1))] (by decide +kernel) (pc1 := 55) (ls1 := [some (aR 0 0), some (aI x1), some (aI x2)]) (st1 := [aI (-1 : Int32)]) (σ1 := σ) (P := []) rfl trivial ?_
        obtain ⟨rfl, rfl⟩ := Prod.mk.inj (Option.some.inj hm)
        exact XW.iret B q (by decide +kernel)
      · rw [if_neg h3] at hm
        refine XW.bk B [(26, .iload_n 2), (27, .i2l), (28, .lconst 0), (29, .ldc2_w 140)] (by decide +kernel) (pc1 := 32) (ls1 := [some (aR 0 0), some (aI x1), some (aI x2)]) (st1 := [aJ (9999 : Int64), aJ (0 : Int64), aJ x2.toInt64]) (σ1 := σ) (P := []) rfl trivial ?_
        refine XW.callS B (M := M_X11_within) (as := [aJ x2.toInt64, aJ (0 : Int64), aJ (9999 : Int64)]) (c_X11_within x2.toInt64 (0 : Int64) (9999 : Int64) σ rfl) (by decide) wS_X11_within wN_X11_within lk_X11_84 rfl (Nat.le_of_ble_eq_true rfl) (by decide +kernel) ?_
        refine XW.bb B [] (by decide +kernel) (pc1 := 35) (ls1 := [some (aR 0 0), some (aI x1), some (aI x2)]) (st1 := [aI (m_X11_within x2.toInt64 (0 : Int64) (9999 : Int64))]) (σ1 := σ) (P := []) (i := .ifCond .eq 19) (tgt := 54) (q := (m_X11_within x2.toInt64 (0 : Int64) (9999 : Int64)) = (0 : Int32)) rfl trivial (by decide +kernel) rfl (by decide) (fun h4 => ?_) (fun h4 => ?_)
        · rw [if_pos h4] at hm
          refine XW.bk B [(54, .iconst (-1))] (by decide +kernel) (pc1 := 55) (ls1 := [some (aR 0 0), some (aI x1), some (aI x2)]) (st1 := [aI (-1 : Int32)]) (σ1 := σ) (P := []) rfl trivial ?_
          obtain ⟨rfl, rfl⟩ := Prod.mk.inj (Option.some.inj hm)
          exact XW.iret B q (by decide +kernel)
        · rw [if_neg h4] at hm
          refine XW.bk B [(38, .aload_n 0), (39, .iload_n 1), (40, .bipush 10), (42, .idiv), (43, .iload_n 1), (44, .bipush 10), (46, .irem), (47, .iload_n 2)] (by decide +kernel) (pc1 := 48) (ls1 := [some (aR 0 0), some (aI x1), some (aI x2)]) (st1 := [aI x2, aI (x1 - (x1 / (10 : Int32)) * (10 : Int32)), aI (x1 / (10 : Int32)), aR 0 0]) (σ1 := σ) (P := [¬ (10 : Int32) = 0, ¬ (10 : Int32) = 0]) rfl ⟨(by decide), (by decide), trivial⟩ ?_
          obtain ⟨q5, hq5, hm⟩ := obind_eq hm
          refine XW.callV B (M := M_X11_strainAt) (t := 0) (j := 0) (cn := 1) (as := [aI (x1 / (10 : Int32)), aI (x1 - (x1 / (10 : Int32)) * (10 : Int32)), aI x2]) (c_X11_strainAt (x1 / (10 : Int32)) (x1 - (x1 / (10 : Int32)) * (10 : Int32)) x2 σ hq5) (by decide) wV_X11_strainAt wN_X11_strainAt lk_X11_200 rfl rfl rfl (by decide) rfl (Nat.le_of_ble_eq_true rfl) (by decide +kernel) ?_
          refine XW.bk B [(51, .goto 4)] (by decide +kernel) (pc1 := 55) (ls1 := [some (aR 0 0), some (aI x1), some (aI x2)]) (st1 := [aI q5.1]) (σ1 := q5.2) (P := []) rfl trivial ?_
          obtain ⟨rfl, rfl⟩ := Prod.mk.inj (Option.some.inj hm)
          exact XW.iret B q (by decide +kernel)

def m_X11_bears (σ : SS) : Int32 :=
  ((σ.2.1 1 0 (85 : Int32).toNatClampNeg) - ((5 : Int32) * (σ.2.1 1 0 (86 : Int32).toNatClampNeg)))
set_option maxRecDepth 100000 in
set_option maxHeartbeats 4000000 in
theorem c_X11_bears (σ : SS) {r : Int32} (hm : m_X11_bears σ = r) : XM LM 1 M_X11_bears [aR 0 0] σ (some (aI r)) σ := by
  refine XM.of (K := K11) (by decide) (by decide +kernel) K11_ok (Nat.le_of_ble_eq_true rfl) (fun Γ B q => ?_)
  unfold m_X11_bears at hm
  refine XW.bk B [(0, .aload_n 0), (1, .getfield 11), (4, .bipush 85), (6, .iaload), (7, .iconst 5), (8, .aload_n 0), (9, .getfield 11), (12, .bipush 86), (14, .iaload), (15, .imul), (16, .isub)] (by decide +kernel) (pc1 := 17) (ls1 := [some (aR 0 0)]) (st1 := [aI ((σ.2.1 1 0 (85 : Int32).toNatClampNeg) - ((5 : Int32) * (σ.2.1 1 0 (86 : Int32).toNatClampNeg)))]) (σ1 := σ) (P := [vp_in (85 : Int32) 88, vp_in (86 : Int32) 88]) rfl ⟨(vin_lit (by decide +kernel)), (vin_lit (by decide +kernel)), trivial⟩ ?_
  subst hm
  exact XW.iret B q (by decide +kernel)

def m_X11_bytesIs (x1 : Int32) (σ : SS) : Option (Int32) :=
  if (m_X11_isShelf x1) = (0 : Int32) then
    some (-1 : Int32)
  else
  if x1 < 0 ∨ 6 ≤ x1.toNatClampNeg then none else
  if (0 : Int32) ≤ (σ.2.1 14 0 x1.toNatClampNeg) then
    if (σ.2.1 14 0 x1.toNatClampNeg) = (50 : Int32) then
      some (1 : Int32)
    else
    some (-12 : Int32)
  else
  some (-11 : Int32)
set_option maxRecDepth 100000 in
set_option maxHeartbeats 4000000 in
theorem c_X11_bytesIs (x1 : Int32) (σ : SS) {r : Int32} (hm : m_X11_bytesIs x1 σ = some r) : XM LM 3 M_X11_bytesIs [aR 0 0, aI x1] σ (some (aI r)) σ := by
  refine XM.of (K := K11) (by decide) (by decide +kernel) K11_ok (Nat.le_of_ble_eq_true rfl) (fun Γ B q => ?_)
  unfold m_X11_bytesIs at hm
  refine XW.bk B [(0, .iload_n 1)] (by decide +kernel) (pc1 := 1) (ls1 := [some (aR 0 0), some (aI x1)]) (st1 := [aI x1]) (σ1 := σ) (P := []) rfl trivial ?_
  refine XW.callS B (M := M_X11_isShelf) (as := [aI x1]) (c_X11_isShelf x1 σ rfl) (by decide) wS_X11_isShelf wN_X11_isShelf lk_X11_105 rfl (Nat.le_of_ble_eq_true rfl) (by decide +kernel) ?_
  refine XW.bn B [] (by decide +kernel) (pc1 := 4) (ls1 := [some (aR 0 0), some (aI x1)]) (st1 := [aI (m_X11_isShelf x1)]) (σ1 := σ) (P := []) (i := .ifCond .ne 7) (tgt := 11) (q := (m_X11_isShelf x1) = (0 : Int32)) rfl trivial (by decide +kernel) rfl (by decide) (fun h1 => ?_) (fun h1 => ?_)
  · rw [if_pos h1] at hm
    refine XW.bk B [(7, .iconst (-1)), (8, .goto 34)] (by decide +kernel) (pc1 := 42) (ls1 := [some (aR 0 0), some (aI x1)]) (st1 := [aI (-1 : Int32)]) (σ1 := σ) (P := []) rfl trivial ?_
    obtain rfl := Option.some.inj hm
    exact XW.iret B q (by decide +kernel)
  · rw [if_neg h1] at hm
    refine XW.bk B [(11, .aload_n 0), (12, .getfield 51), (15, .iload_n 1)] (by decide +kernel) (pc1 := 16) (ls1 := [some (aR 0 0), some (aI x1)]) (st1 := [aI x1, aR 14 0]) (σ1 := σ) (P := []) rfl trivial ?_
    by_cases g2 : x1 < 0 ∨ 6 ≤ x1.toNatClampNeg
    · rw [if_pos g2] at hm; cases hm
    rw [if_neg g2] at hm
    refine XW.bb B [(16, .iaload)] (by decide +kernel) (pc1 := 17) (ls1 := [some (aR 0 0), some (aI x1)]) (st1 := [aI (σ.2.1 14 0 x1.toNatClampNeg)]) (σ1 := σ) (P := [vp_in x1 6]) (i := .ifCond .ge 8) (tgt := 25) (q := (0 : Int32) ≤ (σ.2.1 14 0 x1.toNatClampNeg)) rfl ⟨g2, trivial⟩ (by decide +kernel) rfl (by decide) (fun h3 => ?_) (fun h3 => ?_)
    · rw [if_pos h3] at hm
      refine XW.bn B [(25, .aload_n 0), (26, .getfield 51), (29, .iload_n 1), (30, .iaload), (31, .bipush 50)] (by decide +kernel) (pc1 := 33) (ls1 := [some (aR 0 0), some (aI x1)]) (st1 := [aI (50 : Int32), aI (σ.2.1 14 0 x1.toNatClampNeg)]) (σ1 := σ) (P := [vp_in x1 6]) (i := .if_icmp .ne 7) (tgt := 40) (q := (σ.2.1 14 0 x1.toNatClampNeg) = (50 : Int32)) rfl ⟨g2, trivial⟩ (by decide +kernel) rfl (by decide) (fun h4 => ?_) (fun h4 => ?_)
      · rw [if_pos h4] at hm
        refine XW.bk B [(36, .iconst 1), (37, .goto 5)] (by decide +kernel) (pc1 := 42) (ls1 := [some (aR 0 0), some (aI x1)]) (st1 := [aI (1 : Int32)]) (σ1 := σ) (P := []) rfl trivial ?_
        obtain rfl := Option.some.inj hm
        exact XW.iret B q (by decide +kernel)
      · rw [if_neg h4] at hm
        refine XW.bk B [(40, .bipush (-12))] (by decide +kernel) (pc1 := 42) (ls1 := [some (aR 0 0), some (aI x1)]) (st1 := [aI (-12 : Int32)]) (σ1 := σ) (P := []) rfl trivial ?_
        obtain rfl := Option.some.inj hm
        exact XW.iret B q (by decide +kernel)
    · rw [if_neg h3] at hm
      refine XW.bk B [(20, .bipush (-11)), (22, .goto 20)] (by decide +kernel) (pc1 := 42) (ls1 := [some (aR 0 0), some (aI x1)]) (st1 := [aI (-11 : Int32)]) (σ1 := σ) (P := []) rfl trivial ?_
      obtain rfl := Option.some.inj hm
      exact XW.iret B q (by decide +kernel)

def m_X11_walkIs (x1 : Int32) (σ : SS) : Option (Int32) :=
  Option.bind (m_X11_bytesIs x1 σ) (fun q1 =>
  if (0 : Int32) ≤ q1 then
    if (σ.1 0 0 6) = (0 : Int32) then
      some (-5 : Int32)
    else
    some (1 : Int32)
  else
  Option.bind (m_X11_bytesIs x1 σ) (fun q4 =>
  some q4))
set_option maxRecDepth 100000 in
set_option maxHeartbeats 4000000 in
theorem c_X11_walkIs (x1 : Int32) (σ : SS) {r : Int32} (hm : m_X11_walkIs x1 σ = some r) : XM LM 4 M_X11_walkIs [aR 0 0, aI x1] σ (some (aI r)) σ := by
  refine XM.of (K := K11) (by decide) (by decide +kernel) K11_ok (Nat.le_of_ble_eq_true rfl) (fun Γ B q => ?_)
  unfold m_X11_walkIs at hm
  refine XW.bk B [(0, .aload_n 0), (1, .iload_n 1)] (by decide +kernel) (pc1 := 2) (ls1 := [some (aR 0 0), some (aI x1)]) (st1 := [aI x1, aR 0 0]) (σ1 := σ) (P := []) rfl trivial ?_
  obtain ⟨q1, hq1, hm⟩ := obind_eq hm
  refine XW.callV B (M := M_X11_bytesIs) (t := 0) (j := 0) (cn := 1) (as := [aI x1]) (c_X11_bytesIs x1 σ hq1) (by decide) wV_X11_bytesIs wN_X11_bytesIs lk_X11_204 rfl rfl rfl (by decide) rfl (Nat.le_of_ble_eq_true rfl) (by decide +kernel) ?_
  refine XW.bb B [] (by decide +kernel) (pc1 := 5) (ls1 := [some (aR 0 0), some (aI x1)]) (st1 := [aI q1]) (σ1 := σ) (P := []) (i := .ifCond .ge 11) (tgt := 16) (q := (0 : Int32) ≤ q1) rfl trivial (by decide +kernel) rfl (by decide) (fun h2 => ?_) (fun h2 => ?_)
  · rw [if_pos h2] at hm
    refine XW.bn B [(16, .aload_n 0), (17, .getfield 81)] (by decide +kernel) (pc1 := 20) (ls1 := [some (aR 0 0), some (aI x1)]) (st1 := [aI (σ.1 0 0 6)]) (σ1 := σ) (P := []) (i := .ifCond .ne 8) (tgt := 28) (q := (σ.1 0 0 6) = (0 : Int32)) rfl trivial (by decide +kernel) rfl (by decide) (fun h3 => ?_) (fun h3 => ?_)
    · rw [if_pos h3] at hm
      refine XW.bk B [(23, .bipush (-5)), (25, .goto 4)] (by decide +kernel) (pc1 := 29) (ls1 := [some (aR 0 0), some (aI x1)]) (st1 := [aI (-5 : Int32)]) (σ1 := σ) (P := []) rfl trivial ?_
      obtain rfl := Option.some.inj hm
      exact XW.iret B q (by decide +kernel)
    · rw [if_neg h3] at hm
      refine XW.bk B [(28, .iconst 1)] (by decide +kernel) (pc1 := 29) (ls1 := [some (aR 0 0), some (aI x1)]) (st1 := [aI (1 : Int32)]) (σ1 := σ) (P := []) rfl trivial ?_
      obtain rfl := Option.some.inj hm
      exact XW.iret B q (by decide +kernel)
  · rw [if_neg h2] at hm
    refine XW.bk B [(8, .aload_n 0), (9, .iload_n 1)] (by decide +kernel) (pc1 := 10) (ls1 := [some (aR 0 0), some (aI x1)]) (st1 := [aI x1, aR 0 0]) (σ1 := σ) (P := []) rfl trivial ?_
    obtain ⟨q4, hq4, hm⟩ := obind_eq hm
    refine XW.callV B (M := M_X11_bytesIs) (t := 0) (j := 0) (cn := 1) (as := [aI x1]) (c_X11_bytesIs x1 σ hq4) (by decide) wV_X11_bytesIs wN_X11_bytesIs lk_X11_204 rfl rfl rfl (by decide) rfl (Nat.le_of_ble_eq_true rfl) (by decide +kernel) ?_
    refine XW.bk B [(13, .goto 16)] (by decide +kernel) (pc1 := 29) (ls1 := [some (aR 0 0), some (aI x1)]) (st1 := [aI q4]) (σ1 := σ) (P := []) rfl trivial ?_
    obtain rfl := Option.some.inj hm
    exact XW.iret B q (by decide +kernel)

def m_X11_heldBy (x1 : Int32) (x2 : Int32) (σ : SS) : Option (Int32) :=
  if x1 < 0 ∨ 6 ≤ x1.toNatClampNeg then none else
  if (σ.2.1 15 0 x1.toNatClampNeg) ≤ x2 then
    if (m_X11_isHeld (0 : Int64)) = (0 : Int32) then
      some (0 : Int32)
    else
    some ((0 : Int64).toInt32)
  else
  if (((60 : Int32) * x1) + x2) < 0 ∨ 360 ≤ (((60 : Int32) * x1) + x2).toNatClampNeg then none else
  if (m_X11_isHeld (σ.2.2 16 0 (((60 : Int32) * x1) + x2).toNatClampNeg)) = (0 : Int32) then
    some (0 : Int32)
  else
  some ((σ.2.2 16 0 (((60 : Int32) * x1) + x2).toNatClampNeg).toInt32)
set_option maxRecDepth 100000 in
set_option maxHeartbeats 4000000 in
theorem c_X11_heldBy (x1 : Int32) (x2 : Int32) (σ : SS) {r : Int32} (hm : m_X11_heldBy x1 x2 σ = some r) : XM LM 3 M_X11_heldBy [aR 0 0, aI x1, aI x2] σ (some (aI r)) σ := by
  refine XM.of (K := K11) (by decide) (by decide +kernel) K11_ok (Nat.le_of_ble_eq_true rfl) (fun Γ B q => ?_)
  unfold m_X11_heldBy at hm
  refine XW.bk B [(0, .iload_n 2), (1, .aload_n 0), (2, .getfield 54), (5, .iload_n 1)] (by decide +kernel) (pc1 := 6) (ls1 := [some (aR 0 0), some (aI x1), some (aI x2), none, none]) (st1 := [aI x1, aR 15 0, aI x2]) (σ1 := σ) (P := []) rfl trivial ?_
  by_cases g1 : x1 < 0 ∨ 6 ≤ x1.toNatClampNeg
  · rw [if_pos g1] at hm; cases hm
  rw [if_neg g1] at hm
  refine XW.bb B [(6, .iaload)] (by decide +kernel) (pc1 := 7) (ls1 := [some (aR 0 0), some (aI x1), some (aI x2), none, none]) (st1 := [aI (σ.2.1 15 0 x1.toNatClampNeg), aI x2]) (σ1 := σ) (P := [vp_in x1 6]) (i := .if_icmp .ge 17) (tgt := 24) (q := (σ.2.1 15 0 x1.toNatClampNeg) ≤ x2) rfl ⟨g1, trivial⟩ (by decide +kernel) rfl (by decide) (fun h2 => ?_) (fun h2 => ?_)
  · rw [if_pos h2] at hm
    refine XW.bk B [(24, .lconst 0), (25, .lstore_n 3), (26, .lload_n 3)] (by decide +kernel) (pc1 := 27) (ls1 := [some (aR 0 0), some (aI x1), some (aI x2), some (aJ (0 : Int64)), none]) (st1 := [aJ (0 : Int64)]) (σ1 := σ) (P := []) rfl trivial ?_
    refine XW.callS B (M := M_X11_isHeld) (as := [aJ (0 : Int64)]) (c_X11_isHeld (0 : Int64) σ rfl) (by decide) wS_X11_isHeld wN_X11_isHeld lk_X11_120 rfl (Nat.le_of_ble_eq_true rfl) (by decide +kernel) ?_
    refine XW.bb B [] (by decide +kernel) (pc1 := 30) (ls1 := [some (aR 0 0), some (aI x1), some (aI x2), some (aJ (0 : Int64)), none]) (st1 := [aI (m_X11_isHeld (0 : Int64))]) (σ1 := σ) (P := []) (i := .ifCond .eq 8) (tgt := 38) (q := (m_X11_isHeld (0 : Int64)) = (0 : Int32)) rfl trivial (by decide +kernel) rfl (by decide) (fun h3 => ?_) (fun h3 => ?_)
    · rw [if_pos h3] at hm
      refine XW.bk B [(38, .iconst 0)] (by decide +kernel) (pc1 := 39) (ls1 := [some (aR 0 0), some (aI x1), some (aI x2), some (aJ (0 : Int64)), none]) (st1 := [aI (0 : Int32)]) (σ1 := σ) (P := []) rfl trivial ?_
      obtain rfl := Option.some.inj hm
      exact XW.iret B q (by decide +kernel)
    · rw [if_neg h3] at hm
      refine XW.bk B [(33, .lload_n 3), (34, .l2i), (35, .goto 4)] (by decide +kernel) (pc1 := 39) (ls1 := [some (aR 0 0), some (aI x1), some (aI x2), some (aJ (0 : Int64)), none]) (st1 := [aI ((0 : Int64).toInt32)]) (σ1 := σ) (P := []) rfl trivial ?_
      obtain rfl := Option.some.inj hm
      exact XW.iret B q (by decide +kernel)
  · rw [if_neg h2] at hm
    refine XW.bk B [(10, .aload_n 0), (11, .getfield 57), (14, .bipush 60), (16, .iload_n 1), (17, .imul), (18, .iload_n 2), (19, .iadd)] (by decide +kernel) (pc1 := 20) (ls1 := [some (aR 0 0), some (aI x1), some (aI x2), none, none]) (st1 := [aI (((60 : Int32) * x1) + x2), aR 16 0]) (σ1 := σ) (P := []) rfl trivial ?_
    by_cases g4 : (((60 : Int32) * x1) + x2) < 0 ∨ 360 ≤ (((60 : Int32) * x1) + x2).toNatClampNeg
    · rw [if_pos g4] at hm; cases hm
    rw [if_neg g4] at hm
    refine XW.bk B [(20, .laload), (21, .goto 4), (25, .lstore_n 3), (26, .lload_n 3)] (by decide +kernel) (pc1 := 27) (ls1 := [some (aR 0 0), some (aI x1), some (aI x2), some (aJ (σ.2.2 16 0 (((60 : Int32) * x1) + x2).toNatClampNeg)), none]) (st1 := [aJ (σ.2.2 16 0 (((60 : Int32) * x1) + x2).toNatClampNeg)]) (σ1 := σ) (P := [vp_in (((60 : Int32) * x1) + x2) 360]) rfl ⟨g4, trivial⟩ ?_
    refine XW.callS B (M := M_X11_isHeld) (as := [aJ (σ.2.2 16 0 (((60 : Int32) * x1) + x2).toNatClampNeg)]) (c_X11_isHeld (σ.2.2 16 0 (((60 : Int32) * x1) + x2).toNatClampNeg) σ rfl) (by decide) wS_X11_isHeld wN_X11_isHeld lk_X11_120 rfl (Nat.le_of_ble_eq_true rfl) (by decide +kernel) ?_
    refine XW.bb B [] (by decide +kernel) (pc1 := 30) (ls1 := [some (aR 0 0), some (aI x1), some (aI x2), some (aJ (σ.2.2 16 0 (((60 : Int32) * x1) + x2).toNatClampNeg)), none]) (st1 := [aI (m_X11_isHeld (σ.2.2 16 0 (((60 : Int32) * x1) + x2).toNatClampNeg))]) (σ1 := σ) (P := []) (i := .ifCond .eq 8) (tgt := 38) (q := (m_X11_isHeld (σ.2.2 16 0 (((60 : Int32) * x1) + x2).toNatClampNeg)) = (0 : Int32)) rfl trivial (by decide +kernel) rfl (by decide) (fun h5 => ?_) (fun h5 => ?_)
    · rw [if_pos h5] at hm
      refine XW.bk B [(38, .iconst 0)] (by decide +kernel) (pc1 := 39) (ls1 := [some (aR 0 0), some (aI x1), some (aI x2), some (aJ (σ.2.2 16 0 (((60 : Int32) * x1) + x2).toNatClampNeg)), none]) (st1 := [aI (0 : Int32)]) (σ1 := σ) (P := []) rfl trivial ?_
      obtain rfl := Option.some.inj hm
      exact XW.iret B q (by decide +kernel)
    · rw [if_neg h5] at hm
      refine XW.bk B [(33, .lload_n 3), (34, .l2i), (35, .goto 4)] (by decide +kernel) (pc1 := 39) (ls1 := [some (aR 0 0), some (aI x1), some (aI x2), some (aJ (σ.2.2 16 0 (((60 : Int32) * x1) + x2).toNatClampNeg)), none]) (st1 := [aI ((σ.2.2 16 0 (((60 : Int32) * x1) + x2).toNatClampNeg).toInt32)]) (σ1 := σ) (P := []) rfl trivial ?_
      obtain rfl := Option.some.inj hm
      exact XW.iret B q (by decide +kernel)
