def tbC : List vv_Sh := [.inl (8, [2, 5, 24, 43, 47, 51, 66, 0, 67, 70, 72]), .inl (7, [3, 0, 4, 0]), .inr (.inl 200), .inr (.inl 4), .inl (4, [6, 7, 0, 0, 0, 0, 0, 8, 15]), .inr (.inl 8), .inr (.inl 8), .inl (1, [9, 10, 0, 11, 12, 13, 0, 14]), .inr (.inl 4), .inr (.inl 4), .inr (.inl 4), .inr (.inl 4), .inr (.inl 4), .inr (.inl 101), .inl (2, [16, 0, 21, 22, 0, 23]), .inr (.inr (2, 4, 16, 1)), .inr (.inl 4), .inr (.inl 4), .inr (.inl 4), .inr (.inl 4), .inr (.inl 5), .inr (.inl 5), .inr (.inl 4), .inl (4, [25, 26, 0, 0, 0, 0, 0, 27, 34]), .inr (.inl 8), .inr (.inl 8), .inl (1, [28, 29, 0, 30, 31, 32, 0, 33]), .inr (.inl 4), .inr (.inl 4), .inr (.inl 4), .inr (.inl 4), .inr (.inl 4), .inr (.inl 101), .inl (2, [35, 0, 40, 41, 0, 42]), .inr (.inr (2, 4, 35, 1)), .inr (.inl 4), .inr (.inl 4), .inr (.inl 4), .inr (.inl 4), .inr (.inl 5), .inr (.inl 5), .inr (.inl 4), .inl (3, [5, 44, 45, 46, 0, 0, 0, 0, 0, 0, 0, 0, 0, 0, 0, 0]), .inr (.inl 8), .inr (.inl 8), .inr (.inl 8), .inl (3, [5, 48, 49, 50, 0, 0, 0, 0, 0, 0, 0, 0, 0, 0, 0, 0]), .inr (.inl 8), .inr (.inl 8), .inr (.inl 8), .inl (0, [52, 53, 54, 55, 0]), .inr (.inl 30), .inr (.inl 30), .inr (.inl 30), .inr (.inl 30), .inl (0, [57, 58, 59, 60, 0]), .inr (.inl 30), .inr (.inl 30), .inr (.inl 30), .inr (.inl 30), .inl (0, [62, 63, 64, 65, 0]), .inr (.inl 30), .inr (.inl 30), .inr (.inl 30), .inr (.inl 30), .inr (.inr (1, 2, 55, 5)), .inl (6, [68, 69, 0]), .inr (.inl 8), .inr (.inl 8), .inl (5, [71, 0]), .inr (.inl 8), .inl (5, [73, 0]), .inr (.inl 8)]
def wC : vv_Wd := (fun k => tbC.getD k (.inr (.inl 0)), 73)
def tbM : List vv_Sh := [.inl (9, [0, 2, 3, 4, 5, 6, 7, 8, 9, 10, 11, 12, 13, 14, 15, 16, 17, 18, 19, 20, 21, 22, 23, 24, 25, 0, 0, 26, 27, 0, 28, 29, 30, 31, 32, 33, 34, 35, 0, 0, 0, 0, 36, 37, 38, 39, 40, 0]), .inr (.inl 200), .inr (.inl 2), .inr (.inl 16), .inr (.inl 16), .inr (.inl 4), .inr (.inl 4), .inr (.inl 2), .inr (.inl 8), .inr (.inl 8), .inr (.inl 2), .inr (.inl 8), .inr (.inl 8), .inr (.inl 8), .inr (.inl 2), .inr (.inl 32), .inr (.inl 2), .inr (.inl 10), .inr (.inl 10), .inr (.inl 10), .inr (.inl 3), .inr (.inl 90), .inr (.inl 90), .inr (.inl 90), .inr (.inl 90), .inr (.inl 8), .inr (.inl 8), .inr (.inl 4), .inr (.inl 16), .inr (.inl 16), .inr (.inl 16), .inr (.inl 2), .inr (.inl 2), .inr (.inl 2), .inr (.inl 2), .inr (.inl 8), .inr (.inl 8), .inr (.inl 4), .inr (.inl 5), .inr (.inl 5)]
def wM : vv_Wd := (fun k => tbM.getD k (.inr (.inl 0)), 40)
abbrev is_X0 (d : Nat) : Prop := d = 50 ∨ d = 55 ∨ d = 60
theorem s_X0 {Y : vv_Y} (hY : Y.2.2.2.2 = wC) {d : Nat} (hd : is_X0 d) : d < Y.2.2.2.2.2 ∧ vv_sh Y d = .inl (0, [d + 1 + 1, d + 2 + 1, d + 3 + 1, d + 4 + 1, 0]) := by
  unfold vv_sh
  rw [hY]
  rcases hd with rfl | rfl | rfl <;> exact ⟨by decide, rfl⟩
theorem a_X0_kinds {Y : vv_Y} (hY : Y.2.2.2.2 = wC) {d : Nat} (hd : is_X0 d) : d + 1 < Y.2.2.2.2.2 ∧ vv_sh Y (d + 1) = .inr (.inl 30) := by
  unfold vv_sh
  rw [hY]
  rcases hd with rfl | rfl | rfl <;> exact ⟨by decide, rfl⟩
theorem a_X0_places {Y : vv_Y} (hY : Y.2.2.2.2 = wC) {d : Nat} (hd : is_X0 d) : d + 2 < Y.2.2.2.2.2 ∧ vv_sh Y (d + 2) = .inr (.inl 30) := by
  unfold vv_sh
  rw [hY]
  rcases hd with rfl | rfl | rfl <;> exact ⟨by decide, rfl⟩
theorem a_X0_stuffs {Y : vv_Y} (hY : Y.2.2.2.2 = wC) {d : Nat} (hd : is_X0 d) : d + 3 < Y.2.2.2.2.2 ∧ vv_sh Y (d + 3) = .inr (.inl 30) := by
  unfold vv_sh
  rw [hY]
  rcases hd with rfl | rfl | rfl <;> exact ⟨by decide, rfl⟩
theorem a_X0_amounts {Y : vv_Y} (hY : Y.2.2.2.2 = wC) {d : Nat} (hd : is_X0 d) : d + 4 < Y.2.2.2.2.2 ∧ vv_sh Y (d + 4) = .inr (.inl 30) := by
  unfold vv_sh
  rw [hY]
  rcases hd with rfl | rfl | rfl <;> exact ⟨by decide, rfl⟩
abbrev is_X1 (d : Nat) : Prop := d = 7 ∨ d = 26
theorem s_X1 {Y : vv_Y} (hY : Y.2.2.2.2 = wC) {d : Nat} (hd : is_X1 d) : d < Y.2.2.2.2.2 ∧ vv_sh Y d = .inl (1, [d + 1 + 1, d + 2 + 1, 0, d + 3 + 1, d + 4 + 1, d + 5 + 1, 0, d + 6 + 1]) := by
  unfold vv_sh
  rw [hY]
  rcases hd with rfl | rfl <;> exact ⟨by decide, rfl⟩
theorem a_X1_flowFrom {Y : vv_Y} (hY : Y.2.2.2.2 = wC) {d : Nat} (hd : is_X1 d) : d + 1 < Y.2.2.2.2.2 ∧ vv_sh Y (d + 1) = .inr (.inl 4) := by
  unfold vv_sh
  rw [hY]
  rcases hd with rfl | rfl <;> exact ⟨by decide, rfl⟩
theorem a_X1_flowUnits {Y : vv_Y} (hY : Y.2.2.2.2 = wC) {d : Nat} (hd : is_X1 d) : d + 2 < Y.2.2.2.2.2 ∧ vv_sh Y (d + 2) = .inr (.inl 4) := by
  unfold vv_sh
  rw [hY]
  rcases hd with rfl | rfl <;> exact ⟨by decide, rfl⟩
theorem a_X1_rainFrom {Y : vv_Y} (hY : Y.2.2.2.2 = wC) {d : Nat} (hd : is_X1 d) : d + 3 < Y.2.2.2.2.2 ∧ vv_sh Y (d + 3) = .inr (.inl 4) := by
  unfold vv_sh
  rw [hY]
  rcases hd with rfl | rfl <;> exact ⟨by decide, rfl⟩
theorem a_X1_rainTo {Y : vv_Y} (hY : Y.2.2.2.2 = wC) {d : Nat} (hd : is_X1 d) : d + 4 < Y.2.2.2.2.2 ∧ vv_sh Y (d + 4) = .inr (.inl 4) := by
  unfold vv_sh
  rw [hY]
  rcases hd with rfl | rfl <;> exact ⟨by decide, rfl⟩
theorem a_X1_rainUnits {Y : vv_Y} (hY : Y.2.2.2.2 = wC) {d : Nat} (hd : is_X1 d) : d + 5 < Y.2.2.2.2.2 ∧ vv_sh Y (d + 5) = .inr (.inl 4) := by
  unfold vv_sh
  rw [hY]
  rcases hd with rfl | rfl <;> exact ⟨by decide, rfl⟩
theorem a_X1_byMinute {Y : vv_Y} (hY : Y.2.2.2.2 = wC) {d : Nat} (hd : is_X1 d) : d + 6 < Y.2.2.2.2.2 ∧ vv_sh Y (d + 6) = .inr (.inl 101) := by
  unfold vv_sh
  rw [hY]
  rcases hd with rfl | rfl <;> exact ⟨by decide, rfl⟩
abbrev is_X2 (d : Nat) : Prop := d = 14 ∨ d = 33
theorem s_X2 {Y : vv_Y} (hY : Y.2.2.2.2 = wC) {d : Nat} (hd : is_X2 d) : d < Y.2.2.2.2.2 ∧ vv_sh Y d = .inl (2, [d + 1 + 1, 0, d + 6 + 1, d + 7 + 1, 0, d + 8 + 1]) := by
  unfold vv_sh
  rw [hY]
  rcases hd with rfl | rfl <;> exact ⟨by decide, rfl⟩
theorem a_X2_jobStuff {Y : vv_Y} (hY : Y.2.2.2.2 = wC) {d : Nat} (hd : is_X2 d) : d + 6 < Y.2.2.2.2.2 ∧ vv_sh Y (d + 6) = .inr (.inl 5) := by
  unfold vv_sh
  rw [hY]
  rcases hd with rfl | rfl <;> exact ⟨by decide, rfl⟩
theorem a_X2_jobInches {Y : vv_Y} (hY : Y.2.2.2.2 = wC) {d : Nat} (hd : is_X2 d) : d + 7 < Y.2.2.2.2.2 ∧ vv_sh Y (d + 7) = .inr (.inl 5) := by
  unfold vv_sh
  rw [hY]
  rcases hd with rfl | rfl <;> exact ⟨by decide, rfl⟩
theorem a_X2_busy {Y : vv_Y} (hY : Y.2.2.2.2 = wC) {d : Nat} (hd : is_X2 d) : d + 8 < Y.2.2.2.2.2 ∧ vv_sh Y (d + 8) = .inr (.inl 4) := by
  unfold vv_sh
  rw [hY]
  rcases hd with rfl | rfl <;> exact ⟨by decide, rfl⟩
abbrev is_X3 (d : Nat) : Prop := d = 42 ∨ d = 46
theorem s_X3 {Y : vv_Y} (hY : Y.2.2.2.2 = wC) {d : Nat} (hd : is_X3 d) : d < Y.2.2.2.2.2 ∧ vv_sh Y d = .inl (3, [4 + 1, d + 1 + 1, d + 2 + 1, d + 3 + 1, 0, 0, 0, 0, 0, 0, 0, 0, 0, 0, 0, 0]) := by
  unfold vv_sh
  rw [hY]
  rcases hd with rfl | rfl <;> exact ⟨by decide, rfl⟩
theorem a_X3_heights {Y : vv_Y} (hY : Y.2.2.2.2 = wC) {d : Nat} (hd : is_X3 d) : d + 1 < Y.2.2.2.2.2 ∧ vv_sh Y (d + 1) = .inr (.inl 8) := by
  unfold vv_sh
  rw [hY]
  rcases hd with rfl | rfl <;> exact ⟨by decide, rfl⟩
theorem a_X3_stuffs {Y : vv_Y} (hY : Y.2.2.2.2 = wC) {d : Nat} (hd : is_X3 d) : d + 2 < Y.2.2.2.2.2 ∧ vv_sh Y (d + 2) = .inr (.inl 8) := by
  unfold vv_sh
  rw [hY]
  rcases hd with rfl | rfl <;> exact ⟨by decide, rfl⟩
theorem a_X3_breaches {Y : vv_Y} (hY : Y.2.2.2.2 = wC) {d : Nat} (hd : is_X3 d) : d + 3 < Y.2.2.2.2.2 ∧ vv_sh Y (d + 3) = .inr (.inl 8) := by
  unfold vv_sh
  rw [hY]
  rcases hd with rfl | rfl <;> exact ⟨by decide, rfl⟩
abbrev is_X4 (d : Nat) : Prop := d = 4 ∨ d = 23
theorem s_X4 {Y : vv_Y} (hY : Y.2.2.2.2 = wC) {d : Nat} (hd : is_X4 d) : d < Y.2.2.2.2.2 ∧ vv_sh Y d = .inl (4, [d + 1 + 1, d + 2 + 1, 0, 0, 0, 0, 0, d + 3 + 1, d + 10 + 1]) := by
  unfold vv_sh
  rw [hY]
  rcases hd with rfl | rfl <;> exact ⟨by decide, rfl⟩
theorem a_X4_heights {Y : vv_Y} (hY : Y.2.2.2.2 = wC) {d : Nat} (hd : is_X4 d) : d + 1 < Y.2.2.2.2.2 ∧ vv_sh Y (d + 1) = .inr (.inl 8) := by
  unfold vv_sh
  rw [hY]
  rcases hd with rfl | rfl <;> exact ⟨by decide, rfl⟩
theorem a_X4_stuffs {Y : vv_Y} (hY : Y.2.2.2.2 = wC) {d : Nat} (hd : is_X4 d) : d + 2 < Y.2.2.2.2.2 ∧ vv_sh Y (d + 2) = .inr (.inl 8) := by
  unfold vv_sh
  rw [hY]
  rcases hd with rfl | rfl <;> exact ⟨by decide, rfl⟩
abbrev is_X5 (d : Nat) : Prop := d = 69 ∨ d = 71
theorem s_X5 {Y : vv_Y} (hY : Y.2.2.2.2 = wC) {d : Nat} (hd : is_X5 d) : d < Y.2.2.2.2.2 ∧ vv_sh Y d = .inl (5, [d + 1 + 1, 0]) := by
  unfold vv_sh
  rw [hY]
  rcases hd with rfl | rfl <;> exact ⟨by decide, rfl⟩
theorem a_X5_inches {Y : vv_Y} (hY : Y.2.2.2.2 = wC) {d : Nat} (hd : is_X5 d) : d + 1 < Y.2.2.2.2.2 ∧ vv_sh Y (d + 1) = .inr (.inl 8) := by
  unfold vv_sh
  rw [hY]
  rcases hd with rfl | rfl <;> exact ⟨by decide, rfl⟩
theorem s_X6 {Y : vv_Y} (hY : Y.2.2.2.2 = wC) : 66 < Y.2.2.2.2.2 ∧ vv_sh Y 66 = .inl (6, [67 + 1, 68 + 1, 0]) := by
  unfold vv_sh
  rw [hY]
  exact ⟨by decide, rfl⟩
theorem a_X6_levels {Y : vv_Y} (hY : Y.2.2.2.2 = wC) : 67 < Y.2.2.2.2.2 ∧ vv_sh Y 67 = .inr (.inl 8) := by
  unfold vv_sh
  rw [hY]
  exact ⟨by decide, rfl⟩
theorem a_X6_times {Y : vv_Y} (hY : Y.2.2.2.2 = wC) : 68 < Y.2.2.2.2.2 ∧ vv_sh Y 68 = .inr (.inl 8) := by
  unfold vv_sh
  rw [hY]
  exact ⟨by decide, rfl⟩
theorem s_X7 {Y : vv_Y} (hY : Y.2.2.2.2 = wC) : 1 < Y.2.2.2.2.2 ∧ vv_sh Y 1 = .inl (7, [2 + 1, 0, 3 + 1, 0]) := by
  unfold vv_sh
  rw [hY]
  exact ⟨by decide, rfl⟩
theorem a_X7_letters {Y : vv_Y} (hY : Y.2.2.2.2 = wC) : 2 < Y.2.2.2.2.2 ∧ vv_sh Y 2 = .inr (.inl 200) := by
  unfold vv_sh
  rw [hY]
  exact ⟨by decide, rfl⟩
theorem a_X7_numbers {Y : vv_Y} (hY : Y.2.2.2.2 = wC) : 3 < Y.2.2.2.2.2 ∧ vv_sh Y 3 = .inr (.inl 4) := by
  unfold vv_sh
  rw [hY]
  exact ⟨by decide, rfl⟩
theorem s_X8 {Y : vv_Y} (hY : Y.2.2.2.2 = wC) : 0 < Y.2.2.2.2.2 ∧ vv_sh Y 0 = .inl (8, [1 + 1, 4 + 1, 23 + 1, 42 + 1, 46 + 1, 50 + 1, 65 + 1, 0, 66 + 1, 69 + 1, 71 + 1]) := by
  unfold vv_sh
  rw [hY]
  exact ⟨by decide, rfl⟩
theorem s_X9 {Y : vv_Y} (hY : Y.2.2.2.2 = wM) : 0 < Y.2.2.2.2.2 ∧ vv_sh Y 0 = .inl (9, [0, 1 + 1, 2 + 1, 3 + 1, 4 + 1, 5 + 1, 6 + 1, 7 + 1, 8 + 1, 9 + 1, 10 + 1, 11 + 1, 12 + 1, 13 + 1, 14 + 1, 15 + 1, 16 + 1, 17 + 1, 18 + 1, 19 + 1, 20 + 1, 21 + 1, 22 + 1, 23 + 1, 24 + 1, 0, 0, 25 + 1, 26 + 1, 0, 27 + 1, 28 + 1, 29 + 1, 30 + 1, 31 + 1, 32 + 1, 33 + 1, 34 + 1, 0, 0, 0, 0, 35 + 1, 36 + 1, 37 + 1, 38 + 1, 39 + 1, 0]) := by
  unfold vv_sh
  rw [hY]
  exact ⟨by decide, rfl⟩
theorem a_X9_text {Y : vv_Y} (hY : Y.2.2.2.2 = wM) : 1 < Y.2.2.2.2.2 ∧ vv_sh Y 1 = .inr (.inl 200) := by
  unfold vv_sh
  rw [hY]
  exact ⟨by decide, rfl⟩
theorem a_X9_cells {Y : vv_Y} (hY : Y.2.2.2.2 = wM) : 2 < Y.2.2.2.2.2 ∧ vv_sh Y 2 = .inr (.inl 2) := by
  unfold vv_sh
  rw [hY]
  exact ⟨by decide, rfl⟩
theorem a_X9_tall {Y : vv_Y} (hY : Y.2.2.2.2 = wM) : 3 < Y.2.2.2.2.2 ∧ vv_sh Y 3 = .inr (.inl 16) := by
  unfold vv_sh
  rw [hY]
  exact ⟨by decide, rfl⟩
theorem a_X9_stuffs {Y : vv_Y} (hY : Y.2.2.2.2 = wM) : 4 < Y.2.2.2.2.2 ∧ vv_sh Y 4 = .inr (.inl 16) := by
  unfold vv_sh
  rw [hY]
  exact ⟨by decide, rfl⟩
theorem a_X9_banks {Y : vv_Y} (hY : Y.2.2.2.2 = wM) : 5 < Y.2.2.2.2.2 ∧ vv_sh Y 5 = .inr (.inl 4) := by
  unfold vv_sh
  rw [hY]
  exact ⟨by decide, rfl⟩
theorem a_X9_basin {Y : vv_Y} (hY : Y.2.2.2.2 = wM) : 6 < Y.2.2.2.2.2 ∧ vv_sh Y 6 = .inr (.inl 4) := by
  unfold vv_sh
  rw [hY]
  exact ⟨by decide, rfl⟩
theorem a_X9_flows {Y : vv_Y} (hY : Y.2.2.2.2 = wM) : 7 < Y.2.2.2.2.2 ∧ vv_sh Y 7 = .inr (.inl 2) := by
  unfold vv_sh
  rw [hY]
  exact ⟨by decide, rfl⟩
theorem a_X9_flowFrom {Y : vv_Y} (hY : Y.2.2.2.2 = wM) : 8 < Y.2.2.2.2.2 ∧ vv_sh Y 8 = .inr (.inl 8) := by
  unfold vv_sh
  rw [hY]
  exact ⟨by decide, rfl⟩
theorem a_X9_flowBy {Y : vv_Y} (hY : Y.2.2.2.2 = wM) : 9 < Y.2.2.2.2.2 ∧ vv_sh Y 9 = .inr (.inl 8) := by
  unfold vv_sh
  rw [hY]
  exact ⟨by decide, rfl⟩
theorem a_X9_rains {Y : vv_Y} (hY : Y.2.2.2.2 = wM) : 10 < Y.2.2.2.2.2 ∧ vv_sh Y 10 = .inr (.inl 2) := by
  unfold vv_sh
  rw [hY]
  exact ⟨by decide, rfl⟩
theorem a_X9_rainFrom {Y : vv_Y} (hY : Y.2.2.2.2 = wM) : 11 < Y.2.2.2.2.2 ∧ vv_sh Y 11 = .inr (.inl 8) := by
  unfold vv_sh
  rw [hY]
  exact ⟨by decide, rfl⟩
theorem a_X9_rainTo {Y : vv_Y} (hY : Y.2.2.2.2 = wM) : 12 < Y.2.2.2.2.2 ∧ vv_sh Y 12 = .inr (.inl 8) := by
  unfold vv_sh
  rw [hY]
  exact ⟨by decide, rfl⟩
theorem a_X9_rainBy {Y : vv_Y} (hY : Y.2.2.2.2 = wM) : 13 < Y.2.2.2.2.2 ∧ vv_sh Y 13 = .inr (.inl 8) := by
  unfold vv_sh
  rw [hY]
  exact ⟨by decide, rfl⟩
theorem a_X9_children {Y : vv_Y} (hY : Y.2.2.2.2 = wM) : 14 < Y.2.2.2.2.2 ∧ vv_sh Y 14 = .inr (.inl 2) := by
  unfold vv_sh
  rw [hY]
  exact ⟨by decide, rfl⟩
theorem a_X9_lays {Y : vv_Y} (hY : Y.2.2.2.2 = wM) : 15 < Y.2.2.2.2.2 ∧ vv_sh Y 15 = .inr (.inl 32) := by
  unfold vv_sh
  rw [hY]
  exact ⟨by decide, rfl⟩
theorem a_X9_jobs {Y : vv_Y} (hY : Y.2.2.2.2 = wM) : 16 < Y.2.2.2.2.2 ∧ vv_sh Y 16 = .inr (.inl 2) := by
  unfold vv_sh
  rw [hY]
  exact ⟨by decide, rfl⟩
theorem a_X9_jobCell {Y : vv_Y} (hY : Y.2.2.2.2 = wM) : 17 < Y.2.2.2.2.2 ∧ vv_sh Y 17 = .inr (.inl 10) := by
  unfold vv_sh
  rw [hY]
  exact ⟨by decide, rfl⟩
theorem a_X9_jobStuff {Y : vv_Y} (hY : Y.2.2.2.2 = wM) : 18 < Y.2.2.2.2.2 ∧ vv_sh Y 18 = .inr (.inl 10) := by
  unfold vv_sh
  rw [hY]
  exact ⟨by decide, rfl⟩
theorem a_X9_jobInches {Y : vv_Y} (hY : Y.2.2.2.2 = wM) : 19 < Y.2.2.2.2.2 ∧ vv_sh Y 19 = .inr (.inl 10) := by
  unfold vv_sh
  rw [hY]
  exact ⟨by decide, rfl⟩
theorem a_X9_acts {Y : vv_Y} (hY : Y.2.2.2.2 = wM) : 20 < Y.2.2.2.2.2 ∧ vv_sh Y 20 = .inr (.inl 3) := by
  unfold vv_sh
  rw [hY]
  exact ⟨by decide, rfl⟩
theorem a_X9_actKind {Y : vv_Y} (hY : Y.2.2.2.2 = wM) : 21 < Y.2.2.2.2.2 ∧ vv_sh Y 21 = .inr (.inl 90) := by
  unfold vv_sh
  rw [hY]
  exact ⟨by decide, rfl⟩
theorem a_X9_actCell {Y : vv_Y} (hY : Y.2.2.2.2 = wM) : 22 < Y.2.2.2.2.2 ∧ vv_sh Y 22 = .inr (.inl 90) := by
  unfold vv_sh
  rw [hY]
  exact ⟨by decide, rfl⟩
theorem a_X9_actStuff {Y : vv_Y} (hY : Y.2.2.2.2 = wM) : 23 < Y.2.2.2.2.2 ∧ vv_sh Y 23 = .inr (.inl 90) := by
  unfold vv_sh
  rw [hY]
  exact ⟨by decide, rfl⟩
theorem a_X9_actMany {Y : vv_Y} (hY : Y.2.2.2.2 = wM) : 24 < Y.2.2.2.2.2 ∧ vv_sh Y 24 = .inr (.inl 90) := by
  unfold vv_sh
  rw [hY]
  exact ⟨by decide, rfl⟩
theorem a_X9_seenLevel {Y : vv_Y} (hY : Y.2.2.2.2 = wM) : 25 < Y.2.2.2.2.2 ∧ vv_sh Y 25 = .inr (.inl 8) := by
  unfold vv_sh
  rw [hY]
  exact ⟨by decide, rfl⟩
theorem a_X9_seenBy {Y : vv_Y} (hY : Y.2.2.2.2 = wM) : 26 < Y.2.2.2.2.2 ∧ vv_sh Y 26 = .inr (.inl 8) := by
  unfold vv_sh
  rw [hY]
  exact ⟨by decide, rfl⟩
theorem a_X9_told {Y : vv_Y} (hY : Y.2.2.2.2 = wM) : 27 < Y.2.2.2.2.2 ∧ vv_sh Y 27 = .inr (.inl 4) := by
  unfold vv_sh
  rw [hY]
  exact ⟨by decide, rfl⟩
theorem a_X9_high {Y : vv_Y} (hY : Y.2.2.2.2 = wM) : 28 < Y.2.2.2.2.2 ∧ vv_sh Y 28 = .inr (.inl 16) := by
  unfold vv_sh
  rw [hY]
  exact ⟨by decide, rfl⟩
theorem a_X9_of {Y : vv_Y} (hY : Y.2.2.2.2 = wM) : 29 < Y.2.2.2.2.2 ∧ vv_sh Y 29 = .inr (.inl 16) := by
  unfold vv_sh
  rw [hY]
  exact ⟨by decide, rfl⟩
theorem a_X9_breached {Y : vv_Y} (hY : Y.2.2.2.2 = wM) : 30 < Y.2.2.2.2.2 ∧ vv_sh Y 30 = .inr (.inl 16) := by
  unfold vv_sh
  rw [hY]
  exact ⟨by decide, rfl⟩
theorem a_X9_water {Y : vv_Y} (hY : Y.2.2.2.2 = wM) : 31 < Y.2.2.2.2.2 ∧ vv_sh Y 31 = .inr (.inl 2) := by
  unfold vv_sh
  rw [hY]
  exact ⟨by decide, rfl⟩
theorem a_X9_minutes {Y : vv_Y} (hY : Y.2.2.2.2 = wM) : 32 < Y.2.2.2.2.2 ∧ vv_sh Y 32 = .inr (.inl 2) := by
  unfold vv_sh
  rw [hY]
  exact ⟨by decide, rfl⟩
theorem a_X9_overAll {Y : vv_Y} (hY : Y.2.2.2.2 = wM) : 33 < Y.2.2.2.2.2 ∧ vv_sh Y 33 = .inr (.inl 2) := by
  unfold vv_sh
  rw [hY]
  exact ⟨by decide, rfl⟩
theorem a_X9_seepAll {Y : vv_Y} (hY : Y.2.2.2.2 = wM) : 34 < Y.2.2.2.2.2 ∧ vv_sh Y 34 = .inr (.inl 2) := by
  unfold vv_sh
  rw [hY]
  exact ⟨by decide, rfl⟩
theorem a_X9_row {Y : vv_Y} (hY : Y.2.2.2.2 = wM) : 35 < Y.2.2.2.2.2 ∧ vv_sh Y 35 = .inr (.inl 8) := by
  unfold vv_sh
  rw [hY]
  exact ⟨by decide, rfl⟩
theorem a_X9_bestRow {Y : vv_Y} (hY : Y.2.2.2.2 = wM) : 36 < Y.2.2.2.2.2 ∧ vv_sh Y 36 = .inr (.inl 8) := by
  unfold vv_sh
  rw [hY]
  exact ⟨by decide, rfl⟩
theorem a_X9_busy {Y : vv_Y} (hY : Y.2.2.2.2 = wM) : 37 < Y.2.2.2.2.2 ∧ vv_sh Y 37 = .inr (.inl 4) := by
  unfold vv_sh
  rw [hY]
  exact ⟨by decide, rfl⟩
theorem a_X9_doer {Y : vv_Y} (hY : Y.2.2.2.2 = wM) : 38 < Y.2.2.2.2.2 ∧ vv_sh Y 38 = .inr (.inl 5) := by
  unfold vv_sh
  rw [hY]
  exact ⟨by decide, rfl⟩
theorem a_X9_bestDoer {Y : vv_Y} (hY : Y.2.2.2.2 = wM) : 39 < Y.2.2.2.2.2 ∧ vv_sh Y 39 = .inr (.inl 5) := by
  unfold vv_sh
  rw [hY]
  exact ⟨by decide, rfl⟩
theorem a_X2_lays {Y : vv_Y} (hY : Y.2.2.2.2 = wC) {d : Nat} (hd : is_X2 d) : d + 1 < Y.2.2.2.2.2 ∧ vv_sh Y (d + 1) = .inr (.inr (2, 4, d + 2, 1)) := by
  unfold vv_sh
  rw [hY]
  rcases hd with rfl | rfl <;> exact ⟨by decide, rfl⟩
theorem vv_in4 {i : Int32} (h : vp_in i 4) : i.toNatClampNeg = 0 ∨ i.toNatClampNeg = 1 ∨ i.toNatClampNeg = 2 ∨ i.toNatClampNeg = 3 := by
  have : i.toNatClampNeg < 4 := Nat.not_le.mp fun q => h (Or.inr q)
  omega
theorem vv_in2 {i : Int32} (h : vp_in i 2) : i.toNatClampNeg = 0 ∨ i.toNatClampNeg = 1 := by
  have : i.toNatClampNeg < 2 := Nat.not_le.mp fun q => h (Or.inr q)
  omega
theorem r_X2_lays {Y : vv_Y} (hY : Y.2.2.2.2 = wC) {d : Nat} (hd : is_X2 d) {i : Int32} (hi : vp_in i 4) : d + 2 + 1 * i.toNatClampNeg < Y.2.2.2.2.2 ∧ vv_sh Y (d + 2 + 1 * i.toNatClampNeg) = .inr (.inl 4) := by
  unfold vv_sh
  rw [hY]
  rcases vv_in4 hi with h | h | h | h <;> rw [h] <;> rcases hd with rfl | rfl <;> exact ⟨by decide, rfl⟩
theorem a_X8_kept {Y : vv_Y} (hY : Y.2.2.2.2 = wC) : 65 < Y.2.2.2.2.2 ∧ vv_sh Y 65 = .inr (.inr (1, 2, 55, 5)) := by
  unfold vv_sh
  rw [hY]
  exact ⟨by decide, rfl⟩
theorem is_X0_kept {i : Int32} (hi : vp_in i 2) : is_X0 (55 + 5 * i.toNatClampNeg) := by
  rcases vv_in2 hi with h | h <;> rw [h] <;> decide
theorem is_X1_of {d : Nat} (hd : is_X4 d) : is_X1 (d + 3) := by rcases hd with rfl | rfl <;> decide
theorem is_X2_of {d : Nat} (hd : is_X4 d) : is_X2 (d + 10) := by rcases hd with rfl | rfl <;> decide
