theorem aJok_lt {n j : Nat} {P : List Prop} (h : aJok n j = some P) (hp : aAll P) : j < n := by
  match n, j, h with
  | 1, 0, _ => omega
  | n + 2, j, h =>
    simp only [aJok] at h
    cases h
    exact hp.1
def aVf (σ : SS) (t j k : Nat) : Option (Nat × Bool) → AV
  | none => aI (σ.1 t j k)
  | some (t2, b) => aR t2 (cond b j 0)
theorem aVf_rv (ad : aMp) (σ : SS) (t j k : Nat) (f : Option (Nat × Bool)) : aFv ad σ t j k f = rv ad (aVf σ t j k f) := by
  match f with
  | none => rfl
  | some (t2, true) => rfl
  | some (t2, false) => rfl
theorem cl_ws0 : ∀ w ∈ u_ws RX0 TX0 1, w ∈ GW := by
  intro w hw
  obtain ⟨k, hk, rfl⟩ := List.mem_map.mp hw
  have hk := List.mem_range.mp hk
  match k, hk with
  | 0, _ => exact GW_1 211 rfl rfl
  | n + 1, h => exact absurd h (by omega)
theorem cl_ws1 : ∀ w ∈ u_ws RX1 TX1 5, w ∈ GW := by
  intro w hw
  obtain ⟨k, hk, rfl⟩ := List.mem_map.mp hw
  have hk := List.mem_range.mp hk
  match k, hk with
  | 0, _ => exact GW_1 155 rfl rfl
  | 1, _ => exact GW_1 157 rfl rfl
  | 2, _ => exact GW_1 159 rfl rfl
  | 3, _ => exact GW_1 161 rfl rfl
  | 4, _ => exact GW_1 163 rfl rfl
  | n + 5, h => exact absurd h (by omega)
theorem cl_ws2 : ∀ w ∈ u_ws RX2 TX2 5, w ∈ GW := by
  intro w hw
  obtain ⟨k, hk, rfl⟩ := List.mem_map.mp hw
  have hk := List.mem_range.mp hk
  match k, hk with
  | 0, _ => exact GW_2 36 rfl rfl
  | 1, _ => exact GW_2 38 rfl rfl
  | 2, _ => exact GW_2 40 rfl rfl
  | 3, _ => exact GW_2 42 rfl rfl
  | 4, _ => exact GW_2 44 rfl rfl
  | n + 5, h => exact absurd h (by omega)
theorem cl_ws3 : ∀ w ∈ u_ws RX3 TX3 12, w ∈ GW := by
  intro w hw
  obtain ⟨k, hk, rfl⟩ := List.mem_map.mp hw
  have hk := List.mem_range.mp hk
  match k, hk with
  | 0, _ => exact GW_1 61 rfl rfl
  | 1, _ => exact GW_1 63 rfl rfl
  | 2, _ => exact GW_1 65 rfl rfl
  | 3, _ => exact GW_1 67 rfl rfl
  | 4, _ => exact GW_1 69 rfl rfl
  | 5, _ => exact GW_1 71 rfl rfl
  | 6, _ => exact GW_1 73 rfl rfl
  | 7, _ => exact GW_1 75 rfl rfl
  | 8, _ => exact GW_1 77 rfl rfl
  | 9, _ => exact GW_1 79 rfl rfl
  | 10, _ => exact GW_1 81 rfl rfl
  | 11, _ => exact GW_1 83 rfl rfl
  | n + 12, h => exact absurd h (by omega)
theorem cl_ws4 : ∀ w ∈ u_ws RX4 TX4 10, w ∈ GW := by
  intro w hw
  obtain ⟨k, hk, rfl⟩ := List.mem_map.mp hw
  have hk := List.mem_range.mp hk
  match k, hk with
  | 0, _ => exact GW_2 8 rfl rfl
  | 1, _ => exact GW_2 10 rfl rfl
  | 2, _ => exact GW_2 12 rfl rfl
  | 3, _ => exact GW_2 14 rfl rfl
  | 4, _ => exact GW_2 16 rfl rfl
  | 5, _ => exact GW_2 18 rfl rfl
  | 6, _ => exact GW_2 20 rfl rfl
  | 7, _ => exact GW_2 22 rfl rfl
  | 8, _ => exact GW_2 24 rfl rfl
  | 9, _ => exact GW_2 26 rfl rfl
  | n + 10, h => exact absurd h (by omega)
theorem cl_ws5 : ∀ w ∈ u_ws RX5 TX5 6, w ∈ GW := by
  intro w hw
  obtain ⟨k, hk, rfl⟩ := List.mem_map.mp hw
  have hk := List.mem_range.mp hk
  match k, hk with
  | 0, _ => exact GW_2 61 rfl rfl
  | 1, _ => exact GW_2 63 rfl rfl
  | 2, _ => exact GW_2 65 rfl rfl
  | 3, _ => exact GW_2 67 rfl rfl
  | 4, _ => exact GW_2 69 rfl rfl
  | 5, _ => exact GW_2 71 rfl rfl
  | n + 6, h => exact absurd h (by omega)
theorem cl_ws6 : ∀ w ∈ u_ws RX6 TX6 4, w ∈ GW := by
  intro w hw
  obtain ⟨k, hk, rfl⟩ := List.mem_map.mp hw
  have hk := List.mem_range.mp hk
  match k, hk with
  | 0, _ => exact GW_1 132 rfl rfl
  | 1, _ => exact GW_1 134 rfl rfl
  | 2, _ => exact GW_1 136 rfl rfl
  | 3, _ => exact GW_1 138 rfl rfl
  | n + 4, h => exact absurd h (by omega)
theorem cl_ws7 : ∀ w ∈ u_ws RX7 TX7 8, w ∈ GW := by
  intro w hw
  obtain ⟨k, hk, rfl⟩ := List.mem_map.mp hw
  have hk := List.mem_range.mp hk
  match k, hk with
  | 0, _ => exact GW_1 100 rfl rfl
  | 1, _ => exact GW_1 102 rfl rfl
  | 2, _ => exact GW_1 104 rfl rfl
  | 3, _ => exact GW_1 106 rfl rfl
  | 4, _ => exact GW_1 108 rfl rfl
  | 5, _ => exact GW_1 110 rfl rfl
  | 6, _ => exact GW_1 112 rfl rfl
  | 7, _ => exact GW_1 114 rfl rfl
  | n + 8, h => exact absurd h (by omega)
theorem cl_ws8 : ∀ w ∈ u_ws RX8 TX8 2, w ∈ GW := by
  intro w hw
  obtain ⟨k, hk, rfl⟩ := List.mem_map.mp hw
  have hk := List.mem_range.mp hk
  match k, hk with
  | 0, _ => exact GW_1 36 rfl rfl
  | 1, _ => exact GW_1 38 rfl rfl
  | n + 2, h => exact absurd h (by omega)
theorem cl_ws9 : ∀ w ∈ u_ws RX9 TX9 9, w ∈ GW := by
  intro w hw
  obtain ⟨k, hk, rfl⟩ := List.mem_map.mp hw
  have hk := List.mem_range.mp hk
  match k, hk with
  | 0, _ => exact GW_1 185 rfl rfl
  | 1, _ => exact GW_1 187 rfl rfl
  | 2, _ => exact GW_1 189 rfl rfl
  | 3, _ => exact GW_1 191 rfl rfl
  | 4, _ => exact GW_1 193 rfl rfl
  | 5, _ => exact GW_1 195 rfl rfl
  | 6, _ => exact GW_1 197 rfl rfl
  | 7, _ => exact GW_1 199 rfl rfl
  | 8, _ => exact GW_1 201 rfl rfl
  | n + 9, h => exact absurd h (by omega)
theorem cl_ws10 : ∀ w ∈ u_ws RX10 TX10 9, w ∈ GW := by
  intro w hw
  obtain ⟨k, hk, rfl⟩ := List.mem_map.mp hw
  have hk := List.mem_range.mp hk
  match k, hk with
  | 0, _ => exact GW_2 83 rfl rfl
  | 1, _ => exact GW_2 85 rfl rfl
  | 2, _ => exact GW_2 87 rfl rfl
  | 3, _ => exact GW_2 89 rfl rfl
  | 4, _ => exact GW_2 91 rfl rfl
  | 5, _ => exact GW_2 93 rfl rfl
  | 6, _ => exact GW_2 95 rfl rfl
  | 7, _ => exact GW_2 97 rfl rfl
  | 8, _ => exact GW_2 99 rfl rfl
  | n + 9, h => exact absurd h (by omega)
theorem cl_ws11 : ∀ w ∈ u_ws RX11 TX11 44, w ∈ GW := by
  intro w hw
  obtain ⟨k, hk, rfl⟩ := List.mem_map.mp hw
  have hk := List.mem_range.mp hk
  match k, hk with
  | 0, _ => exact GW_5 36 rfl rfl
  | 1, _ => exact GW_5 38 rfl rfl
  | 2, _ => exact GW_5 40 rfl rfl
  | 3, _ => exact GW_5 42 rfl rfl
  | 4, _ => exact GW_5 44 rfl rfl
  | 5, _ => exact GW_5 46 rfl rfl
  | 6, _ => exact GW_5 48 rfl rfl
  | 7, _ => exact GW_5 50 rfl rfl
  | 8, _ => exact GW_5 52 rfl rfl
  | 9, _ => exact GW_5 54 rfl rfl
  | 10, _ => exact GW_5 56 rfl rfl
  | 11, _ => exact GW_5 58 rfl rfl
  | 12, _ => exact GW_5 60 rfl rfl
  | 13, _ => exact GW_5 62 rfl rfl
  | 14, _ => exact GW_5 64 rfl rfl
  | 15, _ => exact GW_5 66 rfl rfl
  | 16, _ => exact GW_5 68 rfl rfl
  | 17, _ => exact GW_5 70 rfl rfl
  | 18, _ => exact GW_5 72 rfl rfl
  | 19, _ => exact GW_5 74 rfl rfl
  | 20, _ => exact GW_5 76 rfl rfl
  | 21, _ => exact GW_5 78 rfl rfl
  | 22, _ => exact GW_5 80 rfl rfl
  | 23, _ => exact GW_5 82 rfl rfl
  | 24, _ => exact GW_5 84 rfl rfl
  | 25, _ => exact GW_5 86 rfl rfl
  | 26, _ => exact GW_5 88 rfl rfl
  | 27, _ => exact GW_5 90 rfl rfl
  | 28, _ => exact GW_5 92 rfl rfl
  | 29, _ => exact GW_5 94 rfl rfl
  | 30, _ => exact GW_5 96 rfl rfl
  | 31, _ => exact GW_5 98 rfl rfl
  | 32, _ => exact GW_5 100 rfl rfl
  | 33, _ => exact GW_5 102 rfl rfl
  | 34, _ => exact GW_5 104 rfl rfl
  | 35, _ => exact GW_5 106 rfl rfl
  | 36, _ => exact GW_5 108 rfl rfl
  | 37, _ => exact GW_5 110 rfl rfl
  | 38, _ => exact GW_5 112 rfl rfl
  | 39, _ => exact GW_5 114 rfl rfl
  | 40, _ => exact GW_5 116 rfl rfl
  | 41, _ => exact GW_5 118 rfl rfl
  | 42, _ => exact GW_5 120 rfl rfl
  | 43, _ => exact GW_5 122 rfl rfl
  | n + 44, h => exact absurd h (by omega)
theorem cl_ws : ∀ (ci : Nat) (C : String) (T : u_T) (N : Nat), vwCl[ci]? = some (C, T, N) → ∀ w ∈ u_ws C T N, w ∈ GW := by
  intro ci C T N h w hw
  match ci, h with
  | 0, h => cases h; exact cl_ws0 w hw
  | 1, h => cases h; exact cl_ws1 w hw
  | 2, h => cases h; exact cl_ws2 w hw
  | 3, h => cases h; exact cl_ws3 w hw
  | 4, h => cases h; exact cl_ws4 w hw
  | 5, h => cases h; exact cl_ws5 w hw
  | 6, h => cases h; exact cl_ws6 w hw
  | 7, h => cases h; exact cl_ws7 w hw
  | 8, h => cases h; exact cl_ws8 w hw
  | 9, h => cases h; exact cl_ws9 w hw
  | 10, h => cases h; exact cl_ws10 w hw
  | 11, h => cases h; exact cl_ws11 w hw
  | n + 12, h => simp [vwCl] at h
theorem cl_ty : ∀ (ci : Nat) (C : String) (T : u_T) (N : Nat), vwCl[ci]? = some (C, T, N) → ∃ ty : Nat → FieldType, (∀ k, k < N → parseFieldDescriptor (T k).2.2.1 = some (ty k)) ∧ ∀ a, a < N → ∀ b, b < N → a ≠ b → (T a).2.1 ≠ (T b).2.1 := by
  intro ci C T N h
  match ci, h with
  | 0, h => cases h; exact ⟨_, tyX0_ok, nmX0⟩
  | 1, h => cases h; exact ⟨_, tyX1_ok, nmX1⟩
  | 2, h => cases h; exact ⟨_, tyX2_ok, nmX2⟩
  | 3, h => cases h; exact ⟨_, tyX3_ok, nmX3⟩
  | 4, h => cases h; exact ⟨_, tyX4_ok, nmX4⟩
  | 5, h => cases h; exact ⟨_, tyX5_ok, nmX5⟩
  | 6, h => cases h; exact ⟨_, tyX6_ok, nmX6⟩
  | 7, h => cases h; exact ⟨_, tyX7_ok, nmX7⟩
  | 8, h => cases h; exact ⟨_, tyX8_ok, nmX8⟩
  | 9, h => cases h; exact ⟨_, tyX9_ok, nmX9⟩
  | 10, h => cases h; exact ⟨_, tyX10_ok, nmX10⟩
  | 11, h => cases h; exact ⟨_, tyX11_ok, nmX11⟩
  | n + 12, h => simp [vwCl] at h
theorem GW_mx : Cond.static Lib.Math.max.name ∈ GW ∧ Cond.static Lib.Math.min.name ∈ GW ∧ Cond.initialized "java/lang/Math" ∈ GW ∧ Cond.code Lib.Math.max.name Lib.Math.max.code 2 (some .int) ∈ GW ∧ Cond.code Lib.Math.min.name Lib.Math.min.code 2 (some .int) ∈ GW :=
  ⟨GW_3 63 rfl rfl, GW_3 60 rfl rfl, GW_1 15 rfl rfl, GW_3 64 rfl rfl, GW_3 61 rfl rfl⟩
