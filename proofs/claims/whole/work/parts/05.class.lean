theorem aJok_lt {n j : Nat} {P : List Prop} (h : aJok n j = some P) (hp : aAll P) : j < n := by
  match n, j, h with
  | 1, 0, _ => omega
  | n + 2, j, h =>
    simp only [aJok] at h
    cases h
    exact hp.1
def aVf (σ : SS) (t j k : Nat) : Option (Nat × Bool) → AV
  | none => aI (σ.1 t j k)
  | some (t2, b) => aR t2 (cond b j 0)
theorem aVf_rv (ad : aMp) (σ : SS) (t j k : Nat) (f : Option (Nat × Bool)) : aFv ad σ t j k f = rv ad (aVf σ t j k f) := by
  match f with
  | none => rfl
  | some (t2, true) => rfl
  | some (t2, false) => rfl
theorem GW_all : ∀ {ws : List Cond} {ns : List Nat}, ws.length = ns.length → (ws.zip ns).all (fun q => GWn q.2 q.1) = true → ∀ w ∈ ws, w ∈ GW
  | [], _, _, _, w, hw => by cases hw
  | a :: r, [], h, _, w, hw => by cases h
  | a :: r, n :: ns, h, hq, w, hw => by
    simp only [List.zip_cons_cons, List.all_cons, Bool.and_eq_true] at hq
    rcases List.mem_cons.mp hw with e | hw
    · rw [e]; exact GW_of hq.1
    · exact GW_all (Nat.succ.inj h) hq.2 w hw
theorem cl_ws0 : ∀ w ∈ u_ws RX0 TX0 1, w ∈ GW := by
  have h : ((u_ws RX0 TX0 1).zip ([277] : List Nat)).all (fun q => GWn q.2 q.1) = true := by decide +kernel
  exact GW_all rfl h
theorem cl_ws1 : ∀ w ∈ u_ws RX1 TX1 5, w ∈ GW := by
  have h : ((u_ws RX1 TX1 5).zip ([221, 223, 225, 227, 229] : List Nat)).all (fun q => GWn q.2 q.1) = true := by decide +kernel
  exact GW_all rfl h
theorem cl_ws2 : ∀ w ∈ u_ws RX2 TX2 5, w ∈ GW := by
  have h : ((u_ws RX2 TX2 5).zip ([342, 344, 346, 348, 350] : List Nat)).all (fun q => GWn q.2 q.1) = true := by decide +kernel
  exact GW_all rfl h
theorem cl_ws3 : ∀ w ∈ u_ws RX3 TX3 12, w ∈ GW := by
  have h : ((u_ws RX3 TX3 12).zip ([127, 129, 131, 133, 135, 137, 139, 141, 143, 145, 147, 149] : List Nat)).all (fun q => GWn q.2 q.1) = true := by decide +kernel
  exact GW_all rfl h
theorem cl_ws4 : ∀ w ∈ u_ws RX4 TX4 10, w ∈ GW := by
  have h : ((u_ws RX4 TX4 10).zip ([314, 316, 318, 320, 322, 324, 326, 328, 330, 332] : List Nat)).all (fun q => GWn q.2 q.1) = true := by decide +kernel
  exact GW_all rfl h
theorem cl_ws5 : ∀ w ∈ u_ws RX5 TX5 6, w ∈ GW := by
  have h : ((u_ws RX5 TX5 6).zip ([367, 369, 371, 373, 375, 377] : List Nat)).all (fun q => GWn q.2 q.1) = true := by decide +kernel
  exact GW_all rfl h
theorem cl_ws6 : ∀ w ∈ u_ws RX6 TX6 4, w ∈ GW := by
  have h : ((u_ws RX6 TX6 4).zip ([198, 200, 202, 204] : List Nat)).all (fun q => GWn q.2 q.1) = true := by decide +kernel
  exact GW_all rfl h
theorem cl_ws7 : ∀ w ∈ u_ws RX7 TX7 8, w ∈ GW := by
  have h : ((u_ws RX7 TX7 8).zip ([166, 168, 170, 172, 174, 176, 178, 180] : List Nat)).all (fun q => GWn q.2 q.1) = true := by decide +kernel
  exact GW_all rfl h
theorem cl_ws8 : ∀ w ∈ u_ws RX8 TX8 2, w ∈ GW := by
  have h : ((u_ws RX8 TX8 2).zip ([102, 104] : List Nat)).all (fun q => GWn q.2 q.1) = true := by decide +kernel
  exact GW_all rfl h
theorem cl_ws9 : ∀ w ∈ u_ws RX9 TX9 9, w ∈ GW := by
  have h : ((u_ws RX9 TX9 9).zip ([251, 253, 255, 257, 259, 261, 263, 265, 267] : List Nat)).all (fun q => GWn q.2 q.1) = true := by decide +kernel
  exact GW_all rfl h
theorem cl_ws10 : ∀ w ∈ u_ws RX10 TX10 9, w ∈ GW := by
  have h : ((u_ws RX10 TX10 9).zip ([389, 391, 393, 395, 397, 399, 401, 403, 405] : List Nat)).all (fun q => GWn q.2 q.1) = true := by decide +kernel
  exact GW_all rfl h
theorem cl_ws11 : ∀ w ∈ u_ws RX11 TX11 44, w ∈ GW := by
  have h : ((u_ws RX11 TX11 44).zip ([1062, 1064, 1066, 1068, 1070, 1072, 1074, 1076, 1078, 1080, 1082, 1084, 1086, 1088, 1090, 1092, 1094, 1096, 1098, 1100, 1102, 1104, 1106, 1108, 1110, 1112, 1114, 1116, 1118, 1120, 1122, 1124, 1126, 1128, 1130, 1132, 1134, 1136, 1138, 1140, 1142, 1144, 1146, 1148] : List Nat)).all (fun q => GWn q.2 q.1) = true := by decide +kernel
  exact GW_all rfl h
theorem cl_ws : ∀ (ci : Nat) (C : String) (T : u_T) (N : Nat), vwCl[ci]? = some (C, T, N) → ∀ w ∈ u_ws C T N, w ∈ GW := by
  intro ci C T N h w hw
  match ci, h with
  | 0, h => cases h; exact cl_ws0 w hw
  | 1, h => cases h; exact cl_ws1 w hw
  | 2, h => cases h; exact cl_ws2 w hw
  | 3, h => cases h; exact cl_ws3 w hw
  | 4, h => cases h; exact cl_ws4 w hw
  | 5, h => cases h; exact cl_ws5 w hw
  | 6, h => cases h; exact cl_ws6 w hw
  | 7, h => cases h; exact cl_ws7 w hw
  | 8, h => cases h; exact cl_ws8 w hw
  | 9, h => cases h; exact cl_ws9 w hw
  | 10, h => cases h; exact cl_ws10 w hw
  | 11, h => cases h; exact cl_ws11 w hw
  | n + 12, h => simp [vwCl] at h
theorem cl_ty : ∀ (ci : Nat) (C : String) (T : u_T) (N : Nat), vwCl[ci]? = some (C, T, N) → ∃ ty : Nat → FieldType, (∀ k, k < N → parseFieldDescriptor (T k).2.2.1 = some (ty k)) ∧ ∀ a, a < N → ∀ b, b < N → a ≠ b → (T a).2.1 ≠ (T b).2.1 := by
  intro ci C T N h
  match ci, h with
  | 0, h => cases h; exact ⟨_, tyX0_ok, nmX0⟩
  | 1, h => cases h; exact ⟨_, tyX1_ok, nmX1⟩
  | 2, h => cases h; exact ⟨_, tyX2_ok, nmX2⟩
  | 3, h => cases h; exact ⟨_, tyX3_ok, nmX3⟩
  | 4, h => cases h; exact ⟨_, tyX4_ok, nmX4⟩
  | 5, h => cases h; exact ⟨_, tyX5_ok, nmX5⟩
  | 6, h => cases h; exact ⟨_, tyX6_ok, nmX6⟩
  | 7, h => cases h; exact ⟨_, tyX7_ok, nmX7⟩
  | 8, h => cases h; exact ⟨_, tyX8_ok, nmX8⟩
  | 9, h => cases h; exact ⟨_, tyX9_ok, nmX9⟩
  | 10, h => cases h; exact ⟨_, tyX10_ok, nmX10⟩
  | 11, h => cases h; exact ⟨_, tyX11_ok, nmX11⟩
  | n + 12, h => simp [vwCl] at h
theorem GW_mx : Cond.static Lib.Math.max.name ∈ GW ∧ Cond.static Lib.Math.min.name ∈ GW ∧ Cond.initialized "java/lang/Math" ∈ GW ∧ Cond.code Lib.Math.max.name Lib.Math.max.code 2 (some .int) ∈ GW ∧ Cond.code Lib.Math.min.name Lib.Math.min.code 2 (some .int) ∈ GW :=
  ⟨GW_of (n := 609) (by decide +kernel), GW_of (n := 606) (by decide +kernel), GW_of (n := 81) (by decide +kernel), GW_of (n := 610) (by decide +kernel), GW_of (n := 607) (by decide +kernel)⟩
