/-! THE WORLD BY WHAT IT HOLDS: grids by their places, ints by place * 8 + slot, rows by their places -/
def up {α : Type} (f : Nat → α) (k : Nat) (x : α) : Nat → α := fun j => if j = k then x else f j
theorem up_s {α : Type} (f : Nat → α) (k : Nat) (x : α) : up f k x k = x := by unfold up; rw [if_pos rfl]
theorem up_n {α : Type} (f : Nat → α) {k j : Nat} (x : α) (h : j ≠ k) : up f k x j = f j := by unfold up; rw [if_neg h]
theorem up_up {α : Type} (f : Nat → α) (k : Nat) (x y : α) : up (up f k x) k y = up f k y := by funext j; unfold up; split <;> rfl
theorem up_id {α : Type} (f : Nat → α) (k : Nat) : up f k (f k) = f := by
  funext j
  unfold up
  split
  · next h => rw [h]
  · rfl
theorem up_comm {α : Type} (f : Nat → α) {k j : Nat} (x y : α) (h : k ≠ j) : up (up f k x) j y = up (up f j y) k x := by
  funext i
  unfold up
  by_cases h1 : i = j
  · rw [if_pos h1, if_neg (by omega), if_pos h1]
  · simp only [if_neg h1]
def am_oc (j : Nat) : Int32 := [1, 2, 3, 4, 5, 6, 2, 3, 4, 5, 6, 7, 3, 4, 6, 7, 8, 9, 4, 5, 7, 9, 10, 12, 5, 6, 8, 10, 12, 14, 6, 7, 9, 12, 14, 16, 7, 8, 10, 13, 15, 18, 8, 9, 11, 14, 17, 19].getD j 0
def am_g4 (j : Nat) : Int32 := [103, 114, 105, 100].getD j 0
def am_g3 (j : Nat) : Int32 := [114, 111, 119].getD j 0
abbrev GR : Type := Nat × Nat × Nat × (Nat → Int64)
def hf8 : Nat → Option Nat := va_up (va_up (va_up (va_up (va_up (va_up (va_up (va_up (fun _ => none) 0 (some 28)) 1 (some 30)) 2 (some 32)) 3 (some 34)) 4 (some 36)) 5 (some 38)) 6 (some 40)) 7 (some 42)
def hf2 : Nat → Option Nat := va_up (va_up (fun _ => none) 0 (some 47)) 1 (some 49)
def mk (n1 n2 L : Nat) (xs : Nat → Int32) (g : Nat → GR) (i : Nat → Int32) (A : Nat → Nat → Int32) (m : Nat → Int32) (B : Nat → Nat → Int32) (J : Nat → Int64) (wd : Int64) (o : Nat → Int64) : am_W := (n1, n2, [some (.inl (0, L, .inl xs)),
  some (.inl (0, 48, .inl am_oc)),
  some (.inl (9, 4, .inl am_g4)),
  some (.inl (9, 3, .inl am_g3)),
  none,
  none,
  none,
  none,
  some (.inr (0, [.ref 9, .ref 11, .ref 13, .ref 15, .ref 18, .ref 24, .ref 44, .int (i 71)])),
  some (.inr (6, [.ref 10, .int (i 73)])),
  some (.inl (0, 440, .inl (A 10))),
  some (.inr (1, [.ref 12, .int (nI (g 11).1), .int (nI (g 11).2.1), .int (nI (g 11).2.2.1)])),
  some (.inl (1, 5, .inr (.inl (g 11).2.2.2))),
  some (.inr (1, [.ref 14, .int (nI (g 13).1), .int (nI (g 13).2.1), .int (nI (g 13).2.2.1)])),
  some (.inl (1, 5, .inr (.inl (g 13).2.2.2))),
  some (.inr (3, [.ref 16, .int (i 121), .int (i 122), .int (i 123), .int (i 124), .int (i 125), .int (i 126), .int (i 127)])),
  some (.inr (1, [.ref 17, .int (nI (g 16).1), .int (nI (g 16).2.1), .int (nI (g 16).2.2.1)])),
  some (.inl (1, 5, .inr (.inl (g 16).2.2.2))),
  some (.inr (4, [.ref 19, .ref 21, .ref 23, .int (i 147), .int (i 148), .int (i 149)])),
  some (.inr (1, [.ref 20, .int (nI (g 19).1), .int (nI (g 19).2.1), .int (nI (g 19).2.2.1)])),
  some (.inl (1, 5, .inr (.inl (g 19).2.2.2))),
  some (.inr (1, [.ref 22, .int (nI (g 21).1), .int (nI (g 21).2.1), .int (nI (g 21).2.2.1)])),
  some (.inl (1, 5, .inr (.inl (g 21).2.2.2))),
  some (.inl (0, 64, .inl (A 23))),
  some (.inr (2, [.ref 25, .int (i 193), .int (i 194)])),
  some (.inr (5, [.ref 26, .ref 27])),
  some (.inl (3, 8, .inr (.inr (.inr (.inr hf8))))),
  some (.inl (2, 8, .inl (A 27))),
  some (.inr (1, [.ref 29, .int (nI (g 28).1), .int (nI (g 28).2.1), .int (nI (g 28).2.2.1)])),
  some (.inl (1, 5, .inr (.inl (g 28).2.2.2))),
  some (.inr (1, [.ref 31, .int (nI (g 30).1), .int (nI (g 30).2.1), .int (nI (g 30).2.2.1)])),
  some (.inl (1, 5, .inr (.inl (g 30).2.2.2))),
  some (.inr (1, [.ref 33, .int (nI (g 32).1), .int (nI (g 32).2.1), .int (nI (g 32).2.2.1)])),
  some (.inl (1, 5, .inr (.inl (g 32).2.2.2))),
  some (.inr (1, [.ref 35, .int (nI (g 34).1), .int (nI (g 34).2.1), .int (nI (g 34).2.2.1)])),
  some (.inl (1, 5, .inr (.inl (g 34).2.2.2))),
  some (.inr (1, [.ref 37, .int (nI (g 36).1), .int (nI (g 36).2.1), .int (nI (g 36).2.2.1)])),
  some (.inl (1, 5, .inr (.inl (g 36).2.2.2))),
  some (.inr (1, [.ref 39, .int (nI (g 38).1), .int (nI (g 38).2.1), .int (nI (g 38).2.2.1)])),
  some (.inl (1, 5, .inr (.inl (g 38).2.2.2))),
  some (.inr (1, [.ref 41, .int (nI (g 40).1), .int (nI (g 40).2.1), .int (nI (g 40).2.2.1)])),
  some (.inl (1, 5, .inr (.inl (g 40).2.2.2))),
  some (.inr (1, [.ref 43, .int (nI (g 42).1), .int (nI (g 42).2.1), .int (nI (g 42).2.2.1)])),
  some (.inl (1, 5, .inr (.inl (g 42).2.2.2))),
  some (.inr (5, [.ref 45, .ref 46])),
  some (.inl (3, 2, .inr (.inr (.inr (.inr hf2))))),
  some (.inl (2, 2, .inl (A 46))),
  some (.inr (1, [.ref 48, .int (nI (g 47).1), .int (nI (g 47).2.1), .int (nI (g 47).2.2.1)])),
  some (.inl (1, 5, .inr (.inl (g 47).2.2.2))),
  some (.inr (1, [.ref 50, .int (nI (g 49).1), .int (nI (g 49).2.1), .int (nI (g 49).2.2.1)])),
  some (.inl (1, 5, .inr (.inl (g 49).2.2.2))),
  some (.inr (7, [.int (m 0), .ref 52, .int (m 2), .int (m 3), .int (m 4), .int (m 5), .int (m 6), .int (m 7), .int (m 8), .int (m 9), .long wd, .ref 53, .ref 54, .ref 55, .ref 56, .ref 57, .ref 58, .ref 59, .ref 60, .int (m 19), .int (m 20), .ref 61, .ref 62, .int (m 23), .ref 63, .ref 64, .ref 65, .ref 66, .int (m 28), .int (m 29), .ref 67, .ref 68, .ref 69, .int (m 33)])),
  some (.inl (0, 440, .inl (B 52))),
  some (.inl (0, 67, .inl (B 53))),
  some (.inl (0, 67, .inl (B 54))),
  some (.inl (0, 134, .inl (B 55))),
  some (.inl (0, 536, .inl (B 56))),
  some (.inl (0, 67, .inl (B 57))),
  some (.inl (0, 67, .inl (B 58))),
  some (.inl (0, 67, .inl (B 59))),
  some (.inl (2, 2, .inl (B 60))),
  some (.inl (0, 784, .inl (B 61))),
  some (.inl (1, 784, .inr (.inl J))),
  some (.inl (0, 32768, .inl (B 63))),
  some (.inl (0, 63, .inl (B 64))),
  some (.inl (0, 64, .inl (B 65))),
  some (.inl (0, 64, .inl (B 66))),
  some (.inl (0, 4, .inl (B 67))),
  some (.inl (0, 4, .inl (B 68))),
  some (.inl (0, 5, .inl (B 69))),
  some (.inl (1, 1, .inr (.inl o)))])
section STA
variable {n1 n2 L : Nat} {xs : Nat → Int32} {g : Nat → GR} {i : Nat → Int32} {A : Nat → Nat → Int32} {m : Nat → Int32} {B : Nat → Nat → Int32} {J : Nat → Int64} {wd : Int64} {o : Nat → Int64}
theorem g11 : gr (mk n1 n2 L xs g i A m B J wd o) 11 12 (g 11).1 (g 11).2.1 (g 11).2.2.1 (g 11).2.2.2 := ⟨rfl, rfl, by decide, by decide⟩
theorem gp11 (h v s : Nat) (f : Nat → Int64) : gput (mk n1 n2 L xs g i A m B J wd o) 11 12 h v s f = mk n1 n2 L xs (up g 11 (h, v, s, f)) i A m B J wd o := rfl
theorem g13 : gr (mk n1 n2 L xs g i A m B J wd o) 13 14 (g 13).1 (g 13).2.1 (g 13).2.2.1 (g 13).2.2.2 := ⟨rfl, rfl, by decide, by decide⟩
theorem gp13 (h v s : Nat) (f : Nat → Int64) : gput (mk n1 n2 L xs g i A m B J wd o) 13 14 h v s f = mk n1 n2 L xs (up g 13 (h, v, s, f)) i A m B J wd o := rfl
theorem g16 : gr (mk n1 n2 L xs g i A m B J wd o) 16 17 (g 16).1 (g 16).2.1 (g 16).2.2.1 (g 16).2.2.2 := ⟨rfl, rfl, by decide, by decide⟩
theorem gp16 (h v s : Nat) (f : Nat → Int64) : gput (mk n1 n2 L xs g i A m B J wd o) 16 17 h v s f = mk n1 n2 L xs (up g 16 (h, v, s, f)) i A m B J wd o := rfl
theorem g19 : gr (mk n1 n2 L xs g i A m B J wd o) 19 20 (g 19).1 (g 19).2.1 (g 19).2.2.1 (g 19).2.2.2 := ⟨rfl, rfl, by decide, by decide⟩
theorem gp19 (h v s : Nat) (f : Nat → Int64) : gput (mk n1 n2 L xs g i A m B J wd o) 19 20 h v s f = mk n1 n2 L xs (up g 19 (h, v, s, f)) i A m B J wd o := rfl
theorem g21 : gr (mk n1 n2 L xs g i A m B J wd o) 21 22 (g 21).1 (g 21).2.1 (g 21).2.2.1 (g 21).2.2.2 := ⟨rfl, rfl, by decide, by decide⟩
theorem gp21 (h v s : Nat) (f : Nat → Int64) : gput (mk n1 n2 L xs g i A m B J wd o) 21 22 h v s f = mk n1 n2 L xs (up g 21 (h, v, s, f)) i A m B J wd o := rfl
theorem g28 : gr (mk n1 n2 L xs g i A m B J wd o) 28 29 (g 28).1 (g 28).2.1 (g 28).2.2.1 (g 28).2.2.2 := ⟨rfl, rfl, by decide, by decide⟩
theorem gp28 (h v s : Nat) (f : Nat → Int64) : gput (mk n1 n2 L xs g i A m B J wd o) 28 29 h v s f = mk n1 n2 L xs (up g 28 (h, v, s, f)) i A m B J wd o := rfl
theorem g30 : gr (mk n1 n2 L xs g i A m B J wd o) 30 31 (g 30).1 (g 30).2.1 (g 30).2.2.1 (g 30).2.2.2 := ⟨rfl, rfl, by decide, by decide⟩
theorem gp30 (h v s : Nat) (f : Nat → Int64) : gput (mk n1 n2 L xs g i A m B J wd o) 30 31 h v s f = mk n1 n2 L xs (up g 30 (h, v, s, f)) i A m B J wd o := rfl
theorem g32 : gr (mk n1 n2 L xs g i A m B J wd o) 32 33 (g 32).1 (g 32).2.1 (g 32).2.2.1 (g 32).2.2.2 := ⟨rfl, rfl, by decide, by decide⟩
theorem gp32 (h v s : Nat) (f : Nat → Int64) : gput (mk n1 n2 L xs g i A m B J wd o) 32 33 h v s f = mk n1 n2 L xs (up g 32 (h, v, s, f)) i A m B J wd o := rfl
theorem g34 : gr (mk n1 n2 L xs g i A m B J wd o) 34 35 (g 34).1 (g 34).2.1 (g 34).2.2.1 (g 34).2.2.2 := ⟨rfl, rfl, by decide, by decide⟩
theorem gp34 (h v s : Nat) (f : Nat → Int64) : gput (mk n1 n2 L xs g i A m B J wd o) 34 35 h v s f = mk n1 n2 L xs (up g 34 (h, v, s, f)) i A m B J wd o := rfl
theorem g36 : gr (mk n1 n2 L xs g i A m B J wd o) 36 37 (g 36).1 (g 36).2.1 (g 36).2.2.1 (g 36).2.2.2 := ⟨rfl, rfl, by decide, by decide⟩
theorem gp36 (h v s : Nat) (f : Nat → Int64) : gput (mk n1 n2 L xs g i A m B J wd o) 36 37 h v s f = mk n1 n2 L xs (up g 36 (h, v, s, f)) i A m B J wd o := rfl
theorem g38 : gr (mk n1 n2 L xs g i A m B J wd o) 38 39 (g 38).1 (g 38).2.1 (g 38).2.2.1 (g 38).2.2.2 := ⟨rfl, rfl, by decide, by decide⟩
theorem gp38 (h v s : Nat) (f : Nat → Int64) : gput (mk n1 n2 L xs g i A m B J wd o) 38 39 h v s f = mk n1 n2 L xs (up g 38 (h, v, s, f)) i A m B J wd o := rfl
theorem g40 : gr (mk n1 n2 L xs g i A m B J wd o) 40 41 (g 40).1 (g 40).2.1 (g 40).2.2.1 (g 40).2.2.2 := ⟨rfl, rfl, by decide, by decide⟩
theorem gp40 (h v s : Nat) (f : Nat → Int64) : gput (mk n1 n2 L xs g i A m B J wd o) 40 41 h v s f = mk n1 n2 L xs (up g 40 (h, v, s, f)) i A m B J wd o := rfl
theorem g42 : gr (mk n1 n2 L xs g i A m B J wd o) 42 43 (g 42).1 (g 42).2.1 (g 42).2.2.1 (g 42).2.2.2 := ⟨rfl, rfl, by decide, by decide⟩
theorem gp42 (h v s : Nat) (f : Nat → Int64) : gput (mk n1 n2 L xs g i A m B J wd o) 42 43 h v s f = mk n1 n2 L xs (up g 42 (h, v, s, f)) i A m B J wd o := rfl
theorem g47 : gr (mk n1 n2 L xs g i A m B J wd o) 47 48 (g 47).1 (g 47).2.1 (g 47).2.2.1 (g 47).2.2.2 := ⟨rfl, rfl, by decide, by decide⟩
theorem gp47 (h v s : Nat) (f : Nat → Int64) : gput (mk n1 n2 L xs g i A m B J wd o) 47 48 h v s f = mk n1 n2 L xs (up g 47 (h, v, s, f)) i A m B J wd o := rfl
theorem g49 : gr (mk n1 n2 L xs g i A m B J wd o) 49 50 (g 49).1 (g 49).2.1 (g 49).2.2.1 (g 49).2.2.2 := ⟨rfl, rfl, by decide, by decide⟩
theorem gp49 (h v s : Nat) (f : Nat → Int64) : gput (mk n1 n2 L xs g i A m B J wd o) 49 50 h v s f = mk n1 n2 L xs (up g 49 (h, v, s, f)) i A m B J wd o := rfl
theorem is8 : am_is (mk n1 n2 L xs g i A m B J wd o) 8 0 = true := rfl
theorem sf8 {α : Type} (x : Option α) : am_self (mk n1 n2 L xs g i A m B J wd o) 8 0 x = x := by unfold am_self; rw [if_pos is8]
theorem rd8_0 : am_gr (mk n1 n2 L xs g i A m B J wd o) 8 0 0 = some 9 := rfl
theorem rd8_1 : am_gr (mk n1 n2 L xs g i A m B J wd o) 8 0 1 = some 11 := rfl
theorem rd8_2 : am_gr (mk n1 n2 L xs g i A m B J wd o) 8 0 2 = some 13 := rfl
theorem rd8_3 : am_gr (mk n1 n2 L xs g i A m B J wd o) 8 0 3 = some 15 := rfl
theorem rd8_4 : am_gr (mk n1 n2 L xs g i A m B J wd o) 8 0 4 = some 18 := rfl
theorem rd8_5 : am_gr (mk n1 n2 L xs g i A m B J wd o) 8 0 5 = some 24 := rfl
theorem rd8_6 : am_gr (mk n1 n2 L xs g i A m B J wd o) 8 0 6 = some 44 := rfl
theorem rd8_7 : am_gi (mk n1 n2 L xs g i A m B J wd o) 8 0 7 = some (i 71) := rfl
theorem wr8_7 (x : Int32) : am_pv (mk n1 n2 L xs g i A m B J wd o) 8 0 7 (.int x) = some (mk n1 n2 L xs g (up i 71 x) A m B J wd o) := rfl
theorem is9 : am_is (mk n1 n2 L xs g i A m B J wd o) 9 6 = true := rfl
theorem sf9 {α : Type} (x : Option α) : am_self (mk n1 n2 L xs g i A m B J wd o) 9 6 x = x := by unfold am_self; rw [if_pos is9]
theorem rd9_0 : am_gr (mk n1 n2 L xs g i A m B J wd o) 9 6 0 = some 10 := rfl
theorem rd9_1 : am_gi (mk n1 n2 L xs g i A m B J wd o) 9 6 1 = some (i 73) := rfl
theorem wr9_1 (x : Int32) : am_pv (mk n1 n2 L xs g i A m B J wd o) 9 6 1 (.int x) = some (mk n1 n2 L xs g (up i 73 x) A m B J wd o) := rfl
theorem is15 : am_is (mk n1 n2 L xs g i A m B J wd o) 15 3 = true := rfl
theorem sf15 {α : Type} (x : Option α) : am_self (mk n1 n2 L xs g i A m B J wd o) 15 3 x = x := by unfold am_self; rw [if_pos is15]
theorem rd15_0 : am_gr (mk n1 n2 L xs g i A m B J wd o) 15 3 0 = some 16 := rfl
theorem rd15_1 : am_gi (mk n1 n2 L xs g i A m B J wd o) 15 3 1 = some (i 121) := rfl
theorem wr15_1 (x : Int32) : am_pv (mk n1 n2 L xs g i A m B J wd o) 15 3 1 (.int x) = some (mk n1 n2 L xs g (up i 121 x) A m B J wd o) := rfl
theorem rd15_2 : am_gi (mk n1 n2 L xs g i A m B J wd o) 15 3 2 = some (i 122) := rfl
theorem wr15_2 (x : Int32) : am_pv (mk n1 n2 L xs g i A m B J wd o) 15 3 2 (.int x) = some (mk n1 n2 L xs g (up i 122 x) A m B J wd o) := rfl
theorem rd15_3 : am_gi (mk n1 n2 L xs g i A m B J wd o) 15 3 3 = some (i 123) := rfl
theorem wr15_3 (x : Int32) : am_pv (mk n1 n2 L xs g i A m B J wd o) 15 3 3 (.int x) = some (mk n1 n2 L xs g (up i 123 x) A m B J wd o) := rfl
theorem rd15_4 : am_gi (mk n1 n2 L xs g i A m B J wd o) 15 3 4 = some (i 124) := rfl
theorem wr15_4 (x : Int32) : am_pv (mk n1 n2 L xs g i A m B J wd o) 15 3 4 (.int x) = some (mk n1 n2 L xs g (up i 124 x) A m B J wd o) := rfl
theorem rd15_5 : am_gi (mk n1 n2 L xs g i A m B J wd o) 15 3 5 = some (i 125) := rfl
theorem wr15_5 (x : Int32) : am_pv (mk n1 n2 L xs g i A m B J wd o) 15 3 5 (.int x) = some (mk n1 n2 L xs g (up i 125 x) A m B J wd o) := rfl
theorem rd15_6 : am_gi (mk n1 n2 L xs g i A m B J wd o) 15 3 6 = some (i 126) := rfl
theorem wr15_6 (x : Int32) : am_pv (mk n1 n2 L xs g i A m B J wd o) 15 3 6 (.int x) = some (mk n1 n2 L xs g (up i 126 x) A m B J wd o) := rfl
theorem rd15_7 : am_gi (mk n1 n2 L xs g i A m B J wd o) 15 3 7 = some (i 127) := rfl
theorem wr15_7 (x : Int32) : am_pv (mk n1 n2 L xs g i A m B J wd o) 15 3 7 (.int x) = some (mk n1 n2 L xs g (up i 127 x) A m B J wd o) := rfl
theorem is18 : am_is (mk n1 n2 L xs g i A m B J wd o) 18 4 = true := rfl
theorem sf18 {α : Type} (x : Option α) : am_self (mk n1 n2 L xs g i A m B J wd o) 18 4 x = x := by unfold am_self; rw [if_pos is18]
theorem rd18_0 : am_gr (mk n1 n2 L xs g i A m B J wd o) 18 4 0 = some 19 := rfl
theorem rd18_1 : am_gr (mk n1 n2 L xs g i A m B J wd o) 18 4 1 = some 21 := rfl
theorem rd18_2 : am_gr (mk n1 n2 L xs g i A m B J wd o) 18 4 2 = some 23 := rfl
theorem rd18_3 : am_gi (mk n1 n2 L xs g i A m B J wd o) 18 4 3 = some (i 147) := rfl
theorem wr18_3 (x : Int32) : am_pv (mk n1 n2 L xs g i A m B J wd o) 18 4 3 (.int x) = some (mk n1 n2 L xs g (up i 147 x) A m B J wd o) := rfl
theorem rd18_4 : am_gi (mk n1 n2 L xs g i A m B J wd o) 18 4 4 = some (i 148) := rfl
theorem wr18_4 (x : Int32) : am_pv (mk n1 n2 L xs g i A m B J wd o) 18 4 4 (.int x) = some (mk n1 n2 L xs g (up i 148 x) A m B J wd o) := rfl
theorem rd18_5 : am_gi (mk n1 n2 L xs g i A m B J wd o) 18 4 5 = some (i 149) := rfl
theorem wr18_5 (x : Int32) : am_pv (mk n1 n2 L xs g i A m B J wd o) 18 4 5 (.int x) = some (mk n1 n2 L xs g (up i 149 x) A m B J wd o) := rfl
theorem is24 : am_is (mk n1 n2 L xs g i A m B J wd o) 24 2 = true := rfl
theorem sf24 {α : Type} (x : Option α) : am_self (mk n1 n2 L xs g i A m B J wd o) 24 2 x = x := by unfold am_self; rw [if_pos is24]
theorem rd24_0 : am_gr (mk n1 n2 L xs g i A m B J wd o) 24 2 0 = some 25 := rfl
theorem rd24_1 : am_gi (mk n1 n2 L xs g i A m B J wd o) 24 2 1 = some (i 193) := rfl
theorem wr24_1 (x : Int32) : am_pv (mk n1 n2 L xs g i A m B J wd o) 24 2 1 (.int x) = some (mk n1 n2 L xs g (up i 193 x) A m B J wd o) := rfl
theorem rd24_2 : am_gi (mk n1 n2 L xs g i A m B J wd o) 24 2 2 = some (i 194) := rfl
theorem wr24_2 (x : Int32) : am_pv (mk n1 n2 L xs g i A m B J wd o) 24 2 2 (.int x) = some (mk n1 n2 L xs g (up i 194 x) A m B J wd o) := rfl
theorem is25 : am_is (mk n1 n2 L xs g i A m B J wd o) 25 5 = true := rfl
theorem sf25 {α : Type} (x : Option α) : am_self (mk n1 n2 L xs g i A m B J wd o) 25 5 x = x := by unfold am_self; rw [if_pos is25]
theorem rd25_0 : am_gr (mk n1 n2 L xs g i A m B J wd o) 25 5 0 = some 26 := rfl
theorem rd25_1 : am_gr (mk n1 n2 L xs g i A m B J wd o) 25 5 1 = some 27 := rfl
theorem is44 : am_is (mk n1 n2 L xs g i A m B J wd o) 44 5 = true := rfl
theorem sf44 {α : Type} (x : Option α) : am_self (mk n1 n2 L xs g i A m B J wd o) 44 5 x = x := by unfold am_self; rw [if_pos is44]
theorem rd44_0 : am_gr (mk n1 n2 L xs g i A m B J wd o) 44 5 0 = some 45 := rfl
theorem rd44_1 : am_gr (mk n1 n2 L xs g i A m B J wd o) 44 5 1 = some 46 := rfl
theorem is51 : am_is (mk n1 n2 L xs g i A m B J wd o) 51 7 = true := rfl
theorem sf51 {α : Type} (x : Option α) : am_self (mk n1 n2 L xs g i A m B J wd o) 51 7 x = x := by unfold am_self; rw [if_pos is51]
theorem rd51_0 : am_gi (mk n1 n2 L xs g i A m B J wd o) 51 7 0 = some (m 0) := rfl
theorem wr51_0 (x : Int32) : am_pv (mk n1 n2 L xs g i A m B J wd o) 51 7 0 (.int x) = some (mk n1 n2 L xs g i A (up m 0 x) B J wd o) := rfl
theorem rd51_1 : am_gr (mk n1 n2 L xs g i A m B J wd o) 51 7 1 = some 52 := rfl
theorem rd51_2 : am_gi (mk n1 n2 L xs g i A m B J wd o) 51 7 2 = some (m 2) := rfl
theorem wr51_2 (x : Int32) : am_pv (mk n1 n2 L xs g i A m B J wd o) 51 7 2 (.int x) = some (mk n1 n2 L xs g i A (up m 2 x) B J wd o) := rfl
theorem rd51_3 : am_gi (mk n1 n2 L xs g i A m B J wd o) 51 7 3 = some (m 3) := rfl
theorem wr51_3 (x : Int32) : am_pv (mk n1 n2 L xs g i A m B J wd o) 51 7 3 (.int x) = some (mk n1 n2 L xs g i A (up m 3 x) B J wd o) := rfl
theorem rd51_4 : am_gi (mk n1 n2 L xs g i A m B J wd o) 51 7 4 = some (m 4) := rfl
theorem wr51_4 (x : Int32) : am_pv (mk n1 n2 L xs g i A m B J wd o) 51 7 4 (.int x) = some (mk n1 n2 L xs g i A (up m 4 x) B J wd o) := rfl
theorem rd51_5 : am_gi (mk n1 n2 L xs g i A m B J wd o) 51 7 5 = some (m 5) := rfl
theorem wr51_5 (x : Int32) : am_pv (mk n1 n2 L xs g i A m B J wd o) 51 7 5 (.int x) = some (mk n1 n2 L xs g i A (up m 5 x) B J wd o) := rfl
theorem rd51_6 : am_gi (mk n1 n2 L xs g i A m B J wd o) 51 7 6 = some (m 6) := rfl
theorem wr51_6 (x : Int32) : am_pv (mk n1 n2 L xs g i A m B J wd o) 51 7 6 (.int x) = some (mk n1 n2 L xs g i A (up m 6 x) B J wd o) := rfl
theorem rd51_7 : am_gi (mk n1 n2 L xs g i A m B J wd o) 51 7 7 = some (m 7) := rfl
theorem wr51_7 (x : Int32) : am_pv (mk n1 n2 L xs g i A m B J wd o) 51 7 7 (.int x) = some (mk n1 n2 L xs g i A (up m 7 x) B J wd o) := rfl
theorem rd51_8 : am_gi (mk n1 n2 L xs g i A m B J wd o) 51 7 8 = some (m 8) := rfl
theorem wr51_8 (x : Int32) : am_pv (mk n1 n2 L xs g i A m B J wd o) 51 7 8 (.int x) = some (mk n1 n2 L xs g i A (up m 8 x) B J wd o) := rfl
theorem rd51_9 : am_gi (mk n1 n2 L xs g i A m B J wd o) 51 7 9 = some (m 9) := rfl
theorem wr51_9 (x : Int32) : am_pv (mk n1 n2 L xs g i A m B J wd o) 51 7 9 (.int x) = some (mk n1 n2 L xs g i A (up m 9 x) B J wd o) := rfl
theorem rd51_10 : am_gl (mk n1 n2 L xs g i A m B J wd o) 51 7 10 = some wd := rfl
theorem wr51_10 (x : Int64) : am_pv (mk n1 n2 L xs g i A m B J wd o) 51 7 10 (.long x) = some (mk n1 n2 L xs g i A m B J x o) := rfl
theorem rd51_11 : am_gr (mk n1 n2 L xs g i A m B J wd o) 51 7 11 = some 53 := rfl
theorem rd51_12 : am_gr (mk n1 n2 L xs g i A m B J wd o) 51 7 12 = some 54 := rfl
theorem rd51_13 : am_gr (mk n1 n2 L xs g i A m B J wd o) 51 7 13 = some 55 := rfl
theorem rd51_14 : am_gr (mk n1 n2 L xs g i A m B J wd o) 51 7 14 = some 56 := rfl
theorem rd51_15 : am_gr (mk n1 n2 L xs g i A m B J wd o) 51 7 15 = some 57 := rfl
theorem rd51_16 : am_gr (mk n1 n2 L xs g i A m B J wd o) 51 7 16 = some 58 := rfl
theorem rd51_17 : am_gr (mk n1 n2 L xs g i A m B J wd o) 51 7 17 = some 59 := rfl
theorem rd51_18 : am_gr (mk n1 n2 L xs g i A m B J wd o) 51 7 18 = some 60 := rfl
theorem rd51_19 : am_gi (mk n1 n2 L xs g i A m B J wd o) 51 7 19 = some (m 19) := rfl
theorem wr51_19 (x : Int32) : am_pv (mk n1 n2 L xs g i A m B J wd o) 51 7 19 (.int x) = some (mk n1 n2 L xs g i A (up m 19 x) B J wd o) := rfl
theorem rd51_20 : am_gi (mk n1 n2 L xs g i A m B J wd o) 51 7 20 = some (m 20) := rfl
theorem wr51_20 (x : Int32) : am_pv (mk n1 n2 L xs g i A m B J wd o) 51 7 20 (.int x) = some (mk n1 n2 L xs g i A (up m 20 x) B J wd o) := rfl
theorem rd51_21 : am_gr (mk n1 n2 L xs g i A m B J wd o) 51 7 21 = some 61 := rfl
theorem rd51_22 : am_gr (mk n1 n2 L xs g i A m B J wd o) 51 7 22 = some 62 := rfl
theorem rd51_23 : am_gi (mk n1 n2 L xs g i A m B J wd o) 51 7 23 = some (m 23) := rfl
theorem wr51_23 (x : Int32) : am_pv (mk n1 n2 L xs g i A m B J wd o) 51 7 23 (.int x) = some (mk n1 n2 L xs g i A (up m 23 x) B J wd o) := rfl
theorem rd51_24 : am_gr (mk n1 n2 L xs g i A m B J wd o) 51 7 24 = some 63 := rfl
theorem rd51_25 : am_gr (mk n1 n2 L xs g i A m B J wd o) 51 7 25 = some 64 := rfl
theorem rd51_26 : am_gr (mk n1 n2 L xs g i A m B J wd o) 51 7 26 = some 65 := rfl
theorem rd51_27 : am_gr (mk n1 n2 L xs g i A m B J wd o) 51 7 27 = some 66 := rfl
theorem rd51_28 : am_gi (mk n1 n2 L xs g i A m B J wd o) 51 7 28 = some (m 28) := rfl
theorem wr51_28 (x : Int32) : am_pv (mk n1 n2 L xs g i A m B J wd o) 51 7 28 (.int x) = some (mk n1 n2 L xs g i A (up m 28 x) B J wd o) := rfl
theorem rd51_29 : am_gi (mk n1 n2 L xs g i A m B J wd o) 51 7 29 = some (m 29) := rfl
theorem wr51_29 (x : Int32) : am_pv (mk n1 n2 L xs g i A m B J wd o) 51 7 29 (.int x) = some (mk n1 n2 L xs g i A (up m 29 x) B J wd o) := rfl
theorem rd51_30 : am_gr (mk n1 n2 L xs g i A m B J wd o) 51 7 30 = some 67 := rfl
theorem rd51_31 : am_gr (mk n1 n2 L xs g i A m B J wd o) 51 7 31 = some 68 := rfl
theorem rd51_32 : am_gr (mk n1 n2 L xs g i A m B J wd o) 51 7 32 = some 69 := rfl
theorem rd51_33 : am_gi (mk n1 n2 L xs g i A m B J wd o) 51 7 33 = some (m 33) := rfl
theorem wr51_33 (x : Int32) : am_pv (mk n1 n2 L xs g i A m B J wd o) 51 7 33 (.int x) = some (mk n1 n2 L xs g i A (up m 33 x) B J wd o) := rfl
theorem ar10 : am_ar (mk n1 n2 L xs g i A m B J wd o) 10 = some (0, 440, .inl (A 10)) := rfl
theorem st10 (f : Nat → Int32) : am_st1 (mk n1 n2 L xs g i A m B J wd o) 10 (.inl (0, 440, .inl f)) = mk n1 n2 L xs g i (up A 10 f) m B J wd o := rfl
theorem ar23 : am_ar (mk n1 n2 L xs g i A m B J wd o) 23 = some (0, 64, .inl (A 23)) := rfl
theorem st23 (f : Nat → Int32) : am_st1 (mk n1 n2 L xs g i A m B J wd o) 23 (.inl (0, 64, .inl f)) = mk n1 n2 L xs g i (up A 23 f) m B J wd o := rfl
theorem ar27 : am_ar (mk n1 n2 L xs g i A m B J wd o) 27 = some (2, 8, .inl (A 27)) := rfl
theorem st27 (f : Nat → Int32) : am_st1 (mk n1 n2 L xs g i A m B J wd o) 27 (.inl (2, 8, .inl f)) = mk n1 n2 L xs g i (up A 27 f) m B J wd o := rfl
theorem ar46 : am_ar (mk n1 n2 L xs g i A m B J wd o) 46 = some (2, 2, .inl (A 46)) := rfl
theorem st46 (f : Nat → Int32) : am_st1 (mk n1 n2 L xs g i A m B J wd o) 46 (.inl (2, 2, .inl f)) = mk n1 n2 L xs g i (up A 46 f) m B J wd o := rfl
theorem ar52 : am_ar (mk n1 n2 L xs g i A m B J wd o) 52 = some (0, 440, .inl (B 52)) := rfl
theorem st52 (f : Nat → Int32) : am_st1 (mk n1 n2 L xs g i A m B J wd o) 52 (.inl (0, 440, .inl f)) = mk n1 n2 L xs g i A m (up B 52 f) J wd o := rfl
theorem ar53 : am_ar (mk n1 n2 L xs g i A m B J wd o) 53 = some (0, 67, .inl (B 53)) := rfl
theorem st53 (f : Nat → Int32) : am_st1 (mk n1 n2 L xs g i A m B J wd o) 53 (.inl (0, 67, .inl f)) = mk n1 n2 L xs g i A m (up B 53 f) J wd o := rfl
theorem ar54 : am_ar (mk n1 n2 L xs g i A m B J wd o) 54 = some (0, 67, .inl (B 54)) := rfl
theorem st54 (f : Nat → Int32) : am_st1 (mk n1 n2 L xs g i A m B J wd o) 54 (.inl (0, 67, .inl f)) = mk n1 n2 L xs g i A m (up B 54 f) J wd o := rfl
theorem ar55 : am_ar (mk n1 n2 L xs g i A m B J wd o) 55 = some (0, 134, .inl (B 55)) := rfl
theorem st55 (f : Nat → Int32) : am_st1 (mk n1 n2 L xs g i A m B J wd o) 55 (.inl (0, 134, .inl f)) = mk n1 n2 L xs g i A m (up B 55 f) J wd o := rfl
theorem ar56 : am_ar (mk n1 n2 L xs g i A m B J wd o) 56 = some (0, 536, .inl (B 56)) := rfl
theorem st56 (f : Nat → Int32) : am_st1 (mk n1 n2 L xs g i A m B J wd o) 56 (.inl (0, 536, .inl f)) = mk n1 n2 L xs g i A m (up B 56 f) J wd o := rfl
theorem ar57 : am_ar (mk n1 n2 L xs g i A m B J wd o) 57 = some (0, 67, .inl (B 57)) := rfl
theorem st57 (f : Nat → Int32) : am_st1 (mk n1 n2 L xs g i A m B J wd o) 57 (.inl (0, 67, .inl f)) = mk n1 n2 L xs g i A m (up B 57 f) J wd o := rfl
theorem ar58 : am_ar (mk n1 n2 L xs g i A m B J wd o) 58 = some (0, 67, .inl (B 58)) := rfl
theorem st58 (f : Nat → Int32) : am_st1 (mk n1 n2 L xs g i A m B J wd o) 58 (.inl (0, 67, .inl f)) = mk n1 n2 L xs g i A m (up B 58 f) J wd o := rfl
theorem ar59 : am_ar (mk n1 n2 L xs g i A m B J wd o) 59 = some (0, 67, .inl (B 59)) := rfl
theorem st59 (f : Nat → Int32) : am_st1 (mk n1 n2 L xs g i A m B J wd o) 59 (.inl (0, 67, .inl f)) = mk n1 n2 L xs g i A m (up B 59 f) J wd o := rfl
theorem ar60 : am_ar (mk n1 n2 L xs g i A m B J wd o) 60 = some (2, 2, .inl (B 60)) := rfl
theorem st60 (f : Nat → Int32) : am_st1 (mk n1 n2 L xs g i A m B J wd o) 60 (.inl (2, 2, .inl f)) = mk n1 n2 L xs g i A m (up B 60 f) J wd o := rfl
theorem ar61 : am_ar (mk n1 n2 L xs g i A m B J wd o) 61 = some (0, 784, .inl (B 61)) := rfl
theorem st61 (f : Nat → Int32) : am_st1 (mk n1 n2 L xs g i A m B J wd o) 61 (.inl (0, 784, .inl f)) = mk n1 n2 L xs g i A m (up B 61 f) J wd o := rfl
theorem ar63 : am_ar (mk n1 n2 L xs g i A m B J wd o) 63 = some (0, 32768, .inl (B 63)) := rfl
theorem st63 (f : Nat → Int32) : am_st1 (mk n1 n2 L xs g i A m B J wd o) 63 (.inl (0, 32768, .inl f)) = mk n1 n2 L xs g i A m (up B 63 f) J wd o := rfl
theorem ar64 : am_ar (mk n1 n2 L xs g i A m B J wd o) 64 = some (0, 63, .inl (B 64)) := rfl
theorem st64 (f : Nat → Int32) : am_st1 (mk n1 n2 L xs g i A m B J wd o) 64 (.inl (0, 63, .inl f)) = mk n1 n2 L xs g i A m (up B 64 f) J wd o := rfl
theorem ar65 : am_ar (mk n1 n2 L xs g i A m B J wd o) 65 = some (0, 64, .inl (B 65)) := rfl
theorem st65 (f : Nat → Int32) : am_st1 (mk n1 n2 L xs g i A m B J wd o) 65 (.inl (0, 64, .inl f)) = mk n1 n2 L xs g i A m (up B 65 f) J wd o := rfl
theorem ar66 : am_ar (mk n1 n2 L xs g i A m B J wd o) 66 = some (0, 64, .inl (B 66)) := rfl
theorem st66 (f : Nat → Int32) : am_st1 (mk n1 n2 L xs g i A m B J wd o) 66 (.inl (0, 64, .inl f)) = mk n1 n2 L xs g i A m (up B 66 f) J wd o := rfl
theorem ar67 : am_ar (mk n1 n2 L xs g i A m B J wd o) 67 = some (0, 4, .inl (B 67)) := rfl
theorem st67 (f : Nat → Int32) : am_st1 (mk n1 n2 L xs g i A m B J wd o) 67 (.inl (0, 4, .inl f)) = mk n1 n2 L xs g i A m (up B 67 f) J wd o := rfl
theorem ar68 : am_ar (mk n1 n2 L xs g i A m B J wd o) 68 = some (0, 4, .inl (B 68)) := rfl
theorem st68 (f : Nat → Int32) : am_st1 (mk n1 n2 L xs g i A m B J wd o) 68 (.inl (0, 4, .inl f)) = mk n1 n2 L xs g i A m (up B 68 f) J wd o := rfl
theorem ar69 : am_ar (mk n1 n2 L xs g i A m B J wd o) 69 = some (0, 5, .inl (B 69)) := rfl
theorem st69 (f : Nat → Int32) : am_st1 (mk n1 n2 L xs g i A m B J wd o) 69 (.inl (0, 5, .inl f)) = mk n1 n2 L xs g i A m (up B 69 f) J wd o := rfl
theorem ar62 : am_ar (mk n1 n2 L xs g i A m B J wd o) 62 = some (1, 784, .inr (.inl J)) := rfl
theorem st62 (f : Nat → Int64) : am_st1 (mk n1 n2 L xs g i A m B J wd o) 62 (.inl (1, 784, .inr (.inl f))) = mk n1 n2 L xs g i A m B f wd o := rfl
theorem ar70 : am_ar (mk n1 n2 L xs g i A m B J wd o) 70 = some (1, 1, .inr (.inl o)) := rfl
theorem st70 (f : Nat → Int64) : am_st1 (mk n1 n2 L xs g i A m B J wd o) 70 (.inl (1, 1, .inr (.inl f))) = mk n1 n2 L xs g i A m B J wd f := rfl
theorem ar0 : am_ar (mk n1 n2 L xs g i A m B J wd o) 0 = some (0, L, .inl xs) := rfl
theorem ar1 : am_ar (mk n1 n2 L xs g i A m B J wd o) 1 = some (0, 48, .inl am_oc) := rfl
theorem ar2 : am_ar (mk n1 n2 L xs g i A m B J wd o) 2 = some (9, 4, .inl am_g4) := rfl
theorem ar3 : am_ar (mk n1 n2 L xs g i A m B J wd o) 3 = some (9, 3, .inl am_g3) := rfl
theorem ar26 : am_ar (mk n1 n2 L xs g i A m B J wd o) 26 = some (3, 8, .inr (.inr (.inr (.inr hf8)))) := rfl
theorem ar45 : am_ar (mk n1 n2 L xs g i A m B J wd o) 45 = some (3, 2, .inr (.inr (.inr (.inr hf2)))) := rfl
end STA
/-! rows: read and written -/
theorem r_ai {w : am_W} {a n j : Nat} {f : Nat → Int32} (h : am_ar w a = some (0, n, .inl f)) (hj : j < n) (hn : n < 2 ^ 31) : am_ai w a (nI j) = some (f j) := by
  simp only [am_ai, h]
  rw [if_neg (nI_in hj hn), nI_clamp (by omega)]
theorem w_si {w : am_W} {a n j : Nat} {f : Nat → Int32} (h : am_ar w a = some (0, n, .inl f)) (hj : j < n) (hn : n < 2 ^ 31) (ha : 8 ≤ a) (x : Int32) : am_si w a (nI j) x = some (am_st1 w a (.inl (0, n, .inl (upd f j x)))) := by
  simp only [am_si, h]
  have h2 := nI_in hj hn
  rw [if_neg (by rintro (q | q | q); exact h2 (Or.inl q); exact h2 (Or.inr q); omega), nI_clamp (by omega)]
theorem r_az {w : am_W} {a n j : Nat} {f : Nat → Int32} (h : am_ar w a = some (2, n, .inl f)) (hj : j < n) (hn : n < 2 ^ 31) : am_az w a (nI j) = some (f j) := by
  simp only [am_az, h]
  rw [if_neg (nI_in hj hn), nI_clamp (by omega)]
theorem w_sz {w : am_W} {a n j : Nat} {f : Nat → Int32} (h : am_ar w a = some (2, n, .inl f)) (hj : j < n) (hn : n < 2 ^ 31) (ha : 8 ≤ a) : am_sz w a (nI j) 1 = some (am_st1 w a (.inl (2, n, .inl (upd f j 1)))) := by
  simp only [am_sz, h]
  have h2 := nI_in hj hn
  rw [if_neg (by rintro (q | q | q); exact h2 (Or.inl q); exact h2 (Or.inr q); omega), nI_clamp (by omega)]
  rfl
theorem r_aj {w : am_W} {a n j : Nat} {f : Nat → Int64} (h : am_ar w a = some (1, n, .inr (.inl f))) (hj : j < n) (hn : n < 2 ^ 31) : am_aj w a (nI j) = some (f j) := by
  simp only [am_aj, h]
  rw [if_neg (nI_in hj hn), nI_clamp (by omega)]
theorem w_sj {w : am_W} {a n j : Nat} {f : Nat → Int64} (h : am_ar w a = some (1, n, .inr (.inl f))) (hj : j < n) (hn : n < 2 ^ 31) (ha : 8 ≤ a) (x : Int64) : am_sj w a (nI j) x = some (am_st1 w a (.inl (1, n, .inr (.inl (vp_updL f j x))))) := by
  simp only [am_sj, h]
  have h2 := nI_in hj hn
  rw [if_neg (by rintro (q | q | q); exact h2 (Or.inl q); exact h2 (Or.inr q); omega), nI_clamp (by omega)]
theorem r_al {w : am_W} {a t : Nat} {x : vp_A} (h : am_ar w a = some (t, x)) (ht : t < 4) : am_al w a = some (nI x.1) := by
  simp only [am_al, h]
  rw [if_pos ht]
  rfl
