/-! QUESTIONS: both answer alike -/
def cg (g : Nat → GR) (a h v s : Nat) (col : Nat → Nat) : Prop := (g a).1 = h ∧ (g a).2.1 = v ∧ (g a).2.2.1 = s ∧ fs (g a).2.2.2 h v col
def keep (m : Nat → Int32) (B : Nat → Nat → Int32) (m' : Nat → Int32) (B' : Nat → Nat → Int32) : Prop := m' 2 = m 2 ∧ m' 8 = m 8 ∧ m' 19 = m 19 ∧ B' 52 = B 52 ∧ B' 53 = B 53 ∧ B' 55 = B 55 ∧ B' 56 = B 56 ∧ B' 60 = B 60 ∧ B' 64 = B 64
theorem swap_r {a b : Nat} (h : a < b) (e : b < 64) : a ≠ b := by omega
section QRA
variable {n1 n2 L : Nat} {xs : Nat → Int32} {g : Nat → GR} {i : Nat → Int32} {A : Nat → Nat → Int32} {m : Nat → Int32} {B : Nat → Nat → Int32} {J : Nat → Int64} {wd : Int64} {o : Nat → Int64} {h v s : Nat} {col : Nat → Nat}
theorem cg.g11 (C : cg g 11 h v s col) : gr (mk n1 n2 L xs g i A m B J wd o) 11 12 h v s (g 11).2.2.2 := by obtain ⟨rfl, rfl, rfl, -⟩ := C; exact g11
theorem q_at (C : cg g 11 h v s col) (M : mN B 53 h v s col) (O : gok h v s col) (x : Int32) : ∃ r, f_C_at 8 x (mk n1 n2 L xs g i A m B J wd o) = some (mk n1 n2 L xs g i A m B J wd o, r) ∧ f_M_at 51 x (mk n1 n2 L xs g i A m B J wd o) = some (mk n1 n2 L xs g i A (up m 0 0) B J wd o, r) := by
  have h64 := O.hv
  have h4 := O.2.2.1
  unfold f_C_at e_C_at f_C_at_p23 f_M_at e_M_at f_M_at_p25
  rw [sf8, rd8_1, Option.bind_some, sf51, wr51_0, Option.bind_some]
  rcases pk_ix x (n := h * v) (by omega) with q | q | ⟨k, hk, rfl⟩
  · exact ⟨-1, by rw [G_hasCell_f C.g11 (Or.inl q)]; rfl, by rw [M_isCell_f M O (Or.inl q)]; rfl⟩
  · exact ⟨-1, by rw [G_hasCell_f C.g11 (Or.inr q)]; rfl, by rw [M_isCell_f M O (Or.inr q)]; rfl⟩
  · refine ⟨nI (col k), ?_, ?_⟩
    · rw [G_hasCell_t C.g11 O hk, Option.bind_some, if_neg (show ¬ (1 : Int32) = 0 by decide), rd8_1, Option.bind_some, G_colourOf C.g11 C.2.2.2 O hk]
      rfl
    · rw [M_isCell_t M O hk, Option.bind_some, if_neg (show ¬ (1 : Int32) = 0 by decide), rd51_11, Option.bind_some, (mN.gr M).cl (by omega)]
      rfl
theorem q_through (C : cg g 11 h v s col) (M : mN B 53 h v s col) (O : gok h v s col) (x : Int32) : ∃ r, f_C_through 8 x (mk n1 n2 L xs g i A m B J wd o) = some (mk n1 n2 L xs g i A m B J wd o, r) ∧ f_M_through 51 x (mk n1 n2 L xs g i A m B J wd o) = some (mk n1 n2 L xs g i A (up m 0 0) B J wd o, r) := by
  have h64 := O.hv
  have h4 := O.2.2.1
  unfold f_C_through e_C_through f_C_through_p31 f_M_through e_M_through f_M_through_p40
  rw [sf8, rd8_1, Option.bind_some, sf51, wr51_0, Option.bind_some]
  rcases pk_ix x (n := h * v) (by omega) with q | q | ⟨k, hk, rfl⟩
  · exact ⟨-1, by rw [G_hasCell_f C.g11 (Or.inl q)]; rfl, by rw [M_isCell_f M O (Or.inl q)]; rfl⟩
  · exact ⟨-1, by rw [G_hasCell_f C.g11 (Or.inr q)]; rfl, by rw [M_isCell_f M O (Or.inr q)]; rfl⟩
  · have ho := O.2.2.2.2.2 k hk
    refine ⟨nI (cth h v col k (col k)), ?_, ?_⟩
    · rw [G_hasCell_t C.g11 O hk, Option.bind_some, if_neg (show ¬ (1 : Int32) = 0 by decide), rd8_1, Option.bind_some, Option.bind_some, G_colourOf C.g11 C.2.2.2 O hk, Option.bind_some, G_countThrough C.g11 C.2.2.2 O hk (by omega)]
      rfl
    · rw [M_isCell_t M O hk, Option.bind_some, if_neg (show ¬ (1 : Int32) = 0 by decide), rd51_11, Option.bind_some, (mN.gr M).cl (by omega), Option.bind_some]
      by_cases z : col k = 0
      · rw [z, if_neg (by decide)]
        rfl
      · rw [if_pos (nI_ne0 (by omega) (by omega)), Option.bind_some, M_through1 (mN.gr M) O hk]
        rfl
theorem q_rectangles (C : cg g 11 h v s col) (M : mN B 53 h v s col) (O : gok h v s col) (x : Int32) : ∃ r, f_C_rectangles 8 x (mk n1 n2 L xs g i A m B J wd o) = some (mk n1 n2 L xs g i A m B J wd o, r) ∧ ∃ m' B' J', f_M_rectangles 51 x (mk n1 n2 L xs g i A m B J wd o) = some (mk n1 n2 L xs g i A m' B' J' wd o, r) ∧ keep m B m' B' := by
  have h8 := O.1
  have h4 := O.2.2.1
  unfold f_C_rectangles e_C_rectangles f_C_rectangles_p35 f_M_rectangles e_M_rectangles
  rw [sf8, rd8_1, Option.bind_some, sf51, wr51_0, Option.bind_some]
  have hcase : (h = 0 ∨ x < 0 ∨ nI s < x) ∨ (0 < h ∧ ∃ c, c ≤ s ∧ x = nI c) := by
    rcases Nat.eq_zero_or_pos h with z | z
    · exact Or.inl (Or.inl z)
    · rcases pk_ix x (n := s + 1) (by omega) with q | q | ⟨c, hc, rfl⟩
      · exact Or.inl (Or.inr (Or.inl q))
      · refine Or.inl (Or.inr (Or.inr ?_))
        rw [fa_lt, nI_toInt (by omega)]
        rw [fa_le, nI_toInt (by omega)] at q
        omega
      · exact Or.inr ⟨z, c, by omega, rfl⟩
  rcases hcase with q | ⟨h0, c, hc, rfl⟩
  · refine ⟨-1, by rw [G_hasCol_f C.g11 q]; rfl, up m 0 0, B, J, ?_, ⟨rfl, rfl, rfl, rfl, rfl, rfl, rfl, rfl, rfl⟩⟩
    rw [M_isColour_f M O q]
    rfl
  · rw [G_hasCol_t C.g11 O h0 hc, Option.bind_some, if_pos (show ¬ (1 : Int32) = 0 by decide)]
    obtain ⟨S', J', hl, e⟩ := M_laysFours (n1 := n1) (n2 := n2) (L := L) (xs := xs) (g := g) (i := i) (A := A) (m := up m 0 0) (J := J) (wd := wd) (o := o) M O (x := c) (by omega)
    refine ⟨nI (rcs h v col c).length, ?_, up (up m 0 0) 23 (nI (rcs h v col c).length), up B 61 S', J', ?_, ⟨rfl, rfl, rfl, rfl, rfl, rfl, rfl, rfl, rfl⟩⟩
    · by_cases z : c = 0
      · subst z
        rw [if_neg (by decide), rd8_1, Option.bind_some, G_countAll C.g11 C.2.2.2 O, call_len O]
        rfl
      · rw [if_pos (nI_ne0 (by omega) (by omega)), rd8_1, Option.bind_some, G_countOf C.g11 C.2.2.2 O (by omega), cof_len h v col z]
        rfl
    · rw [show (0 : Int32) = nI 0 from rfl] at *
      rw [M_isColour_t M O h0 (Nat.zero_le _) hc, Option.bind_some, if_pos (show ¬ (1 : Int32) = nI 0 by decide), e, Option.bind_some, rd51_23, Option.bind_some, up_s]
theorem sd_pick {h v : Nat} {col : Nat → Nat} {x : Nat} {t : Nat × Nat × Nat × Nat} (h8 : h ≤ 8) (v8 : v ≤ 8) (ht : t ∈ rcs h v col x) {wh : Nat} (hw : wh < 4) : (sd4 t >>> ((9 - 3 * nI wh) &&& 31)) &&& 7 = nI (pkw wh t) := by
  obtain ⟨r, q, c, d⟩ := t
  obtain ⟨h1, h2, h3, h4, -⟩ := mem_rcs.mp ht
  unfold sd4
  simp only []
  have hb : 512 * r + 64 * q + 8 * c + d < 2 ^ 31 := by omega
  rcases (show wh = 0 ∨ wh = 1 ∨ wh = 2 ∨ wh = 3 by omega) with rfl | rfl | rfl | rfl
  · rw [show ((9 : Int32) - 3 * nI 0) = nI 9 by decide, nI_shr hb (by decide), show (7 : Int32) = nI (2 ^ 3 - 1) from rfl, fa_mask]
    show nI _ = nI r
    congr 1
    omega
  · rw [show ((9 : Int32) - 3 * nI 1) = nI 6 by decide, nI_shr hb (by decide), show (7 : Int32) = nI (2 ^ 3 - 1) from rfl, fa_mask]
    show nI _ = nI q
    congr 1
    omega
  · rw [show ((9 : Int32) - 3 * nI 2) = nI 3 by decide, nI_shr hb (by decide), show (7 : Int32) = nI (2 ^ 3 - 1) from rfl, fa_mask]
    show nI _ = nI c
    congr 1
    omega
  · rw [show ((9 : Int32) - 3 * nI 3) = nI 0 by decide, nI_shr hb (by decide), show (7 : Int32) = nI (2 ^ 3 - 1) from rfl, fa_mask]
    show nI _ = nI d
    congr 1
    omega
theorem q_rectangle (C : cg g 11 h v s col) (M : mN B 53 h v s col) (O : gok h v s col) (x y : Int32) : ∃ r, f_C_rectangle 8 x y (mk n1 n2 L xs g i A m B J wd o) = some (mk n1 n2 L xs g i A m B J wd o, r) ∧ ∃ m' B' J', f_M_rectangle 51 x y (mk n1 n2 L xs g i A m B J wd o) = some (mk n1 n2 L xs g i A m' B' J' wd o, r) ∧ keep m B m' B' := by
  have h8 := O.1
  have v8 := O.2.1
  have hle := rcs_le h v col 0 h8 v8
  obtain ⟨S', J', hl, e⟩ := M_laysFours (n1 := n1) (n2 := n2) (L := L) (xs := xs) (g := g) (i := i) (A := A) (m := up m 0 0) (J := J) (wd := wd) (o := o) M O (x := 0) (by omega)
  unfold f_C_rectangle e_C_rectangle f_C_rectangle_p13 f_M_rectangle e_M_rectangle f_M_rectangle_p33
  rw [sf8, sf51, wr51_0, Option.bind_some, show f_M_laysFours 51 0 = f_M_laysFours 51 (nI 0) from rfl, e, Option.bind_some, rd51_23, Option.bind_some, up_s]
  simp only []
  have hkeep : keep m B (up (up m 0 0) 23 (nI (rcs h v col 0).length)) (up B 61 S') := ⟨rfl, rfl, rfl, rfl, rfl, rfl, rfl, rfl, rfl⟩
  rcases pk_ix x (n := (rcs h v col 0).length) (by omega) with q | q | ⟨k, hk, rfl⟩
  · refine ⟨-1, by rw [if_pos q], _, _, J', ?_, hkeep⟩
    rw [M_isIn_f (Or.inl q), Option.bind_some]
    rfl
  · refine ⟨-1, ?_, _, _, J', ?_, hkeep⟩
    · obtain ⟨k, hk, rfl⟩ : ∃ k, k < 2 ^ 31 ∧ x = nI k := nI_of (by
        rw [fa_lt]
        rw [fa_le, nI_toInt (by omega)] at q
        have e0 : (0 : Int32).toInt = 0 := by decide
        omega)
      rw [nI_leI (by omega) hk] at q
      rw [if_neg (nI_pos hk)]
      rcases pk_ix y (n := 4) (by decide) with z | z | ⟨wh, hwh, rfl⟩
      · rw [if_pos z]
      · have z1 : ¬ y < 0 := by
          rw [fa_lt]
          rw [fa_le, nI_toInt (by omega)] at z
          have e0 : (0 : Int32).toInt = 0 := by decide
          omega
        have z2 : ¬ y ≤ 3 := by
          rw [fa_le]
          rw [fa_le, nI_toInt (by omega)] at z
          have e0 : (3 : Int32).toInt = 3 := by decide
          omega
        rw [if_neg z1, if_neg z2]
      · have z2 : nI wh ≤ 3 := nI_le (b := 3) (by omega) (by decide)
        rw [if_neg (nI_pos (by omega)), if_pos z2, rd8_1, Option.bind_some, G_sideOf C.g11 C.2.2.2 O hk hwh, sel_out q]
        rfl
    · rw [M_isIn_f (Or.inr (nI_m1lt (by omega) q)), Option.bind_some]
      rfl
  · rw [M_isIn_t (nI_pos (by omega)) (nI_m1nlt hk (by omega)), Option.bind_some, if_neg (nI_pos (by omega)), if_neg (show ¬ (1 : Int32) = 0 by decide)]
    rcases pk_ix y (n := 4) (by decide) with z | z | ⟨wh, hwh, rfl⟩
    · refine ⟨-1, by rw [if_pos z], _, _, J', ?_, hkeep⟩
      rw [M_isIn_f (Or.inl z), Option.bind_some]
      rfl
    · have z1 : ¬ y < 0 := by
        rw [fa_lt]
        rw [fa_le, nI_toInt (by omega)] at z
        have e0 : (0 : Int32).toInt = 0 := by decide
        omega
      have z2 : ¬ y ≤ 3 := by
        rw [fa_le]
        rw [fa_le, nI_toInt (by omega)] at z
        have e0 : (3 : Int32).toInt = 3 := by decide
        omega
      refine ⟨-1, by rw [if_neg z1, if_neg z2], _, _, J', ?_, hkeep⟩
      rw [M_isIn_f (Or.inr (fa_of_nle z2)), Option.bind_some]
      rfl
    · have z2 : nI wh ≤ 3 := nI_le (b := 3) (by omega) (by decide)
      have z3 : ¬ (3 : Int32) < nI wh := nI_nlt (b := 3) (a := 3) (by omega) (by decide) |> fun _ => (nI_nlt (a := 3) (b := wh) (by omega) (by decide))
      have hg := List.getElem?_eq_getElem hk
      refine ⟨nI (pkw wh (rcs h v col 0)[k]), ?_, _, _, J', ?_, hkeep⟩
      · rw [if_neg (nI_pos (by omega)), if_pos z2, rd8_1, Option.bind_some, G_sideOf C.g11 C.2.2.2 O (by omega) hwh]
        unfold sel
        rw [hg]
        rfl
      · rw [M_isIn_t (nI_pos (by omega)) z3, Option.bind_some, if_pos (show ¬ (1 : Int32) = 0 by decide), rd51_21, Option.bind_some, r_ai ar61 (by omega) (by decide), Option.bind_some, up_s, (hl k _ hg).1, sd_pick h8 v8 (List.getElem_mem hk) hwh]
end QRA
