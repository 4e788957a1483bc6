/-! SEARCH, FOUND, FILL -/
theorem two_le {x : Int32} (q : nI 2 ≤ x) : ¬ x ≤ 1 ∧ (1 : Int32) < x := by
  rw [fa_le] at q
  have h1 : (1 : Int32).toInt = 1 := rfl
  have h2 : (nI 2).toInt = 2 := rfl
  constructor
  · intro y; rw [fa_le] at y; omega
  · rw [fa_lt]; omega
theorem cg_of {g g' : Nat → GR} {a h v s : Nat} {col : Nat → Nat} (C : cg g a h v s col) (e : g' a = g a) : cg g' a h v s col := by
  unfold cg
  rw [e]
  exact C
theorem cg11 {g : Nat → GR} {h v s : Nat} {col : Nat → Nat} {f' : Nat → Int64} (F : fs f' h v col) : cg (up g 11 (h, v, s, f')) 11 h v s col := by unfold cg; rw [up_s]; exact ⟨rfl, rfl, rfl, F⟩
theorem zadd (f : Nat → Int32) : (fun k => f (0 + k)) = f := funext (fun k => by rw [Nat.zero_add])
section FLA
variable {n1 n2 L : Nat} {xs : Nat → Int32} {g : Nat → GR} {i : Nat → Int32} {A : Nat → Nat → Int32} {m : Nat → Int32} {B : Nat → Nat → Int32} {J : Nat → Int64} {wd : Int64} {o : Nat → Int64} {h v s : Nat} {col : Nat → Nat}
theorem C_isFillable (S : SI g i) (C : cg g 11 h v s col) (O : gokz h v s col) (h0 : 0 < h) : ∃ g' i' A', f_C_isFillable 8 (mk n1 n2 L xs g i A m B J wd o) = some (mk n1 n2 L xs g' i' A' m B J wd o, if (sres h v s col).1 = 1 then 1 else 0) ∧ (∀ a, a ≠ 19 → a ≠ 21 → g' a = g a) ∧ (∀ a, a ≠ 147 → a ≠ 148 → a ≠ 149 → i' a = i a) ∧ (∀ a, a ≠ 23 → A' a = A a) ∧ SI g' i' ∧ ((sres h v s col).1 = 1 → cg g' 21 h v s (sres h v s col).2.2 ∧ gokz h v s (sres h v s col).2.2) := by
  obtain ⟨g', i', A', e, hg, hi, hA, t0, t1, t2, t3, t4⟩ := S_seek (n1 := n1) (n2 := n2) (L := L) (xs := xs) (A := A) (m := m) (B := B) (J := J) (wd := wd) (o := o) S C O h0
  refine ⟨g', i', A', ?_, hg, hi, hA, ⟨h, v, s, col, O, t0, fun _ => ⟨t1, t2, t3, t4⟩⟩, t4⟩
  unfold f_C_isFillable e_C_isFillable f_C_isFillable_p39 f_S_outcome e_S_outcome
  rw [sf8, rd8_1, Option.bind_some, G_exists C.g11 O.1.1, Option.bind_some, if_pos h0, if_pos (show ¬ (1 : Int32) = 0 by decide), rd8_4, Option.bind_some, rd8_1, Option.bind_some, e, Option.bind_some, rd8_4, Option.bind_some, sf18, rd18_5, Option.bind_some, Option.bind_some, t2]
  by_cases z : (sres h v s col).1 = 1
  · rw [if_pos z, z, if_neg (show ¬ ¬ nI 1 = (1 : Int32) from fun y => y rfl)]
    rfl
  · rw [if_neg z, if_pos (show ¬ nI (sres h v s col).1 = (1 : Int32) by rw [show (1 : Int32) = nI 1 from rfl, nI_eq (by omega) (by decide)]; exact z)]
    rfl
theorem M_blanks53 (M : mN B 53 h v s col) (O : gok h v s col) : f_M_blanks 51 53 (mk n1 n2 L xs g i A m B J wd o) = some (mk n1 n2 L xs g i A m B J wd o, nI (fb_ct (fun k => decide (col k = 0)) (h * v))) := by
  have h64 := O.hv
  unfold f_M_blanks e_M_blanks
  rw [sf51]
  have e := blanks_loop (mN.gr (n1 := n1) (n2 := n2) (L := L) (xs := xs) (g := g) (i := i) (A := A) (m := m) (J := J) (wd := wd) (o := o) M) O (h * v) am_N 0 (by omega) (by unfold am_N; omega)
  rw [show nI (fb_ct (fun k => decide (col k = 0)) 0) = (0 : Int32) from rfl, show nI 0 = (0 : Int32) from rfl] at e
  exact e
theorem C_ct0 (C : cg g 11 h v s col) (O : gok h v s col) {β : Type} (k : am_W × Int32 → Option β) : ((f_G_cellsOf 11 0 (mk n1 n2 L xs g i A m B J wd o)).bind fun r6 => (f_J_bitCount r6.2 r6.1).bind k) = k (mk n1 n2 L xs g i A m B J wd o, nI (fb_ct (fun k => decide (col k = 0)) (h * v))) := by
  have h64 := O.hv
  rw [show f_G_cellsOf 11 0 = f_G_cellsOf 11 (nI 0) from rfl, G_cellsOf C.g11 (by decide), Option.bind_some]
  simp only [C.2.2.2 0 (by decide)]
  rw [J_bitCount (stc_lt O 0), Option.bind_some]
  unfold stc
  rw [ct64 _ h64]
theorem cp1121 : f_G_copy 11 21 (mk n1 n2 L xs g i A m B J wd o) = some (mk n1 n2 L xs (up g 11 (cpG (g 21) (g 11))) i A m B J wd o, ()) := by
  rw [G_copy g11 g21 (by decide) (by decide), gp11]
  rfl
theorem cpM5953 : f_M_copy 59 0 53 0 (mk n1 n2 L xs g i A m B J wd o) = some (mk n1 n2 L xs g i A m (up B 53 (fb_put (B 53) (B 59) 0 67)) J wd o, ()) := by
  have := M_copy (w := mk n1 n2 L xs g i A m B J wd o) (o1 := 0) (o2 := 0) ar59 ar53 (by decide) (by decide) (by decide) (by decide) (by decide) (by decide)
  rw [st53, zadd] at this
  exact this
end FLA
theorem p_search (x : Int32) : pOk (f_C_search 8 x) (f_M_search 51 x) := by
  intro n1 n2 L xs g i A m B J wd o H
  obtain ⟨⟨h, v, s, col, O, C, M⟩, -, -, -, -, S, -⟩ := id H
  have h8 := O.1.1
  unfold f_C_search e_C_search f_C_search_p19 f_C_search_p53 f_M_search e_M_search f_M_search_p21 f_M_search_p42
  rw [sf8, rd8_1, Option.bind_some, G_exists C.g11 h8, Option.bind_some]
  rcases Nat.eq_zero_or_pos h with z | z
  · refine ⟨-1, g, i, A, ?_, up m 0 0, B, J, wd, ?_, INV_keep H (keep0 m B 0)⟩
    · subst z; exact if_pos rfl
    · rw [sf51, wr51_0, Option.bind_some, M_high M, Option.bind_some]
      subst z; exact if_pos rfl
  · rw [if_pos z, if_neg (show ¬ (1 : Int32) = 0 by decide)]
    rcases pk_ix x (n := 2) (by decide) with q | q | ⟨c, hc, rfl⟩
    · refine ⟨-1, g, i, A, if_pos q, up m 0 0, B, J, wd, ?_, INV_keep H (keep0 m B 0)⟩
      rw [sf51, wr51_0, Option.bind_some, M_high M, Option.bind_some, if_neg (nI_ne0 (by omega) (by omega)), M_isIn_f (Or.inl q), Option.bind_some]
      rfl
    · refine ⟨-1, g, i, A, ?_, up m 0 0, B, J, wd, ?_, INV_keep H (keep0 m B 0)⟩
      · rw [if_neg (two_le q).1]
        split <;> rfl
      · rw [sf51, wr51_0, Option.bind_some, M_high M, Option.bind_some, if_neg (nI_ne0 (by omega) (by omega)), M_isIn_f (Or.inr (two_le q).2), Option.bind_some]
        rfl
    · obtain ⟨g', i', A', e, hg, hi, hA, t0, t1, t2, t3, t4⟩ := S_seek (n1 := n1) (n2 := n2) (L := L) (xs := xs) (A := A) (m := m) (B := B) (J := J) (wd := wd) (o := o) S C O z
      have H' : INV g' i' A' m B := INV_seek H hg hi hA ⟨h, v, s, col, O, t0, fun _ => ⟨t1, t2, t3, t4⟩⟩
      obtain ⟨m', B', J', e2, K, u1, u2, -⟩ := M_searches (n1 := n1) (n2 := n2) (L := L) (xs := xs) (g := g') (i := i') (A := A') (m := up m 0 0) (B := B) (J := J) (wd := wd) (o := o) M O.1
      rcases (show c = 0 ∨ c = 1 by omega) with rfl | rfl
      · refine ⟨nI (sres h v s col).2.1, g', i', A', ?_, m', B', J', wd, ?_, INV_keep H' (keep_t (keep0 m B 0) K)⟩
        · rw [if_neg (by decide), if_pos (by decide), rd8_4, Option.bind_some, rd8_1, Option.bind_some, e, Option.bind_some, if_neg (show ¬ ¬ nI 0 = (0 : Int32) from fun y => y rfl), rd8_4, Option.bind_some]
          unfold f_S_triesMade e_S_triesMade
          rw [sf18, rd18_4, Option.bind_some, t1]
          rfl
        · rw [sf51, wr51_0, Option.bind_some, M_high M, Option.bind_some, if_neg (nI_ne0 (by omega) (by omega)), M_isIn_t (by decide) (by decide), Option.bind_some, if_pos (show ¬ (1 : Int32) = 0 by decide), e2, Option.bind_some, if_neg (show ¬ ¬ nI 0 = (0 : Int32) from fun y => y rfl), rd51_28, Option.bind_some, u1]
      · refine ⟨nI (sres h v s col).1, g', i', A', ?_, m', B', J', wd, ?_, INV_keep H' (keep_t (keep0 m B 0) K)⟩
        · rw [if_neg (by decide), if_pos (by decide), rd8_4, Option.bind_some, rd8_1, Option.bind_some, e, Option.bind_some, if_pos (show ¬ nI 1 = (0 : Int32) by decide), rd8_4, Option.bind_some]
          unfold f_S_outcome e_S_outcome
          rw [sf18, rd18_5, Option.bind_some, t2]
          rfl
        · rw [sf51, wr51_0, Option.bind_some, M_high M, Option.bind_some, if_neg (nI_ne0 (by omega) (by omega)), M_isIn_t (by decide) (by decide), Option.bind_some, if_pos (show ¬ (1 : Int32) = 0 by decide), e2, Option.bind_some, if_pos (show ¬ nI 1 = (0 : Int32) by decide), rd51_29, Option.bind_some, u2]
theorem cell_case (x : Int32) {n : Nat} (hn : n < 2 ^ 31) : (x < 0 ∨ nI n ≤ x) ∨ ∃ k, k < n ∧ x = nI k := by
  rcases pk_ix x (n := n) hn with q | q | ⟨k, hk, rfl⟩
  · exact Or.inl (Or.inl q)
  · exact Or.inl (Or.inr q)
  · exact Or.inr ⟨k, hk, rfl⟩
theorem p_found (x : Int32) : pOk (f_C_found 8 x) (f_M_found 51 x) := by
  intro n1 n2 L xs g i A m B J wd o H
  obtain ⟨⟨h, v, s, col, O, C, M⟩, -, -, -, -, S, -⟩ := id H
  have h64 := O.1.hv
  unfold f_C_found e_C_found f_C_found_p32 f_C_found_p33 f_M_found e_M_found f_M_found_p39
  rcases cell_case x (n := h * v) (by omega) with q | ⟨k, hk, rfl⟩
  · refine ⟨-1, g, i, A, ?_, up m 0 0, B, J, wd, ?_, INV_keep H (keep0 m B 0)⟩
    · rw [sf8, rd8_1, Option.bind_some, G_hasCell_f C.g11 q]; rfl
    · rw [sf51, wr51_0, Option.bind_some, M_isCell_f M O.1 q]; rfl
  · have h0 : 0 < h := by
      rcases Nat.eq_zero_or_pos h with z | z
      · subst z; omega
      · exact z
    obtain ⟨g', i', A', e, hg, hi, hA, S', t4⟩ := C_isFillable (n1 := n1) (n2 := n2) (L := L) (xs := xs) (A := A) (m := m) (B := B) (J := J) (wd := wd) (o := o) S C O h0
    have H' : INV g' i' A' m B := INV_seek H hg hi hA S'
    obtain ⟨m', B', J', e2, K, u1, u2, u3⟩ := M_searches (n1 := n1) (n2 := n2) (L := L) (xs := xs) (g := g') (i := i') (A := A') (m := up m 0 0) (B := B) (J := J) (wd := wd) (o := o) M O.1
    refine ⟨if (sres h v s col).1 = 1 then nI ((sres h v s col).2.2 k) else -1, g', i', A', ?_, m', B', J', wd, ?_, INV_keep H' (keep_t (keep0 m B 0) K)⟩
    · rw [sf8, rd8_1, Option.bind_some, G_hasCell_t C.g11 O.1 hk, Option.bind_some, if_neg (show ¬ (1 : Int32) = 0 by decide), e, Option.bind_some]
      by_cases z : (sres h v s col).1 = 1
      · obtain ⟨C2, O2⟩ := t4 z
        rw [if_pos z, if_neg (show ¬ (1 : Int32) = 0 by decide), rd8_4, Option.bind_some]
        unfold f_S_result e_S_result
        rw [sf18, rd18_1, Option.bind_some, Option.bind_some, G_colourOf C2.g21 C2.2.2.2 O2.1 hk, Option.bind_some, if_pos z]
      · rw [if_neg z, if_pos rfl, if_neg z]
    · rw [sf51, wr51_0, Option.bind_some, M_isCell_t M O.1 hk, Option.bind_some, if_pos (show ¬ (1 : Int32) = 0 by decide), e2, Option.bind_some, rd51_29, Option.bind_some, u2]
      by_cases z : (sres h v s col).1 = 1
      · rw [if_pos z, z, if_neg (show ¬ ¬ nI 1 = (1 : Int32) from fun y => y rfl), rd51_17, Option.bind_some, (mN.gt (u3 z)).cl (by omega), Option.bind_some]
      · obtain ⟨-, -, t3⟩ : True ∧ True ∧ (sres h v s col).1 ≤ 2 := by
          obtain ⟨_, _, _, _, _, _, _, _, _, _, t3, _⟩ := S_seek (n1 := n1) (n2 := n2) (L := L) (xs := xs) (A := A) (m := m) (B := B) (J := J) (wd := wd) (o := o) S C O h0
          exact ⟨trivial, trivial, t3⟩
        rw [if_neg z, if_pos (show ¬ nI (sres h v s col).1 = (1 : Int32) by rw [show (1 : Int32) = nI 1 from rfl, nI_eq (by omega) (by decide)]; exact z)]
theorem p_fill : pOk (f_C_fill 8) (f_M_fill 51) := by
  intro n1 n2 L xs g i A m B J wd o H
  obtain ⟨⟨h, v, s, col, O, C, M⟩, -, -, -, -, S, -⟩ := id H
  have h64 := O.1.hv
  have h8 := O.1.1
  unfold f_C_fill e_C_fill f_M_fill e_M_fill
  rcases Nat.eq_zero_or_pos h with z | h0
  · refine ⟨-1, g, i, A, ?_, up m 0 0, B, J, wd, ?_, INV_keep H (keep0 m B 0)⟩
    · unfold f_C_isFillable e_C_isFillable
      rw [sf8, sf8, rd8_1, Option.bind_some, G_exists C.g11 h8, Option.bind_some]
      subst z; rfl
    · rw [sf51, wr51_0, Option.bind_some, M_high M, Option.bind_some]
      subst z; rfl
  · obtain ⟨g', i', A', e, hg, hi, hA, S', t4⟩ := C_isFillable (n1 := n1) (n2 := n2) (L := L) (xs := xs) (A := A) (m := m) (B := B) (J := J) (wd := wd) (o := o) S C O h0
    have H' : INV g' i' A' m B := INV_seek H hg hi hA S'
    have C' : cg g' 11 h v s col := cg_of C (hg 11 (by decide) (by decide))
    by_cases z : (sres h v s col).1 = 1
    · obtain ⟨C2, O2⟩ := t4 z
      obtain ⟨-, -, -, Hh, -⟩ := id H'
      obtain ⟨gk, ik, Ak, eK, a1, a2, a3, m9, f9, eS, a4⟩ := keep_C Hh C' O M
      obtain ⟨m', B', J', e2, K, u1, u2, u3⟩ := M_searches (n1 := n1) (n2 := n2) (L := L) (xs := xs) (g := up gk 11 (cpG (gk 21) (gk 11))) (i := ik) (A := Ak) (m := up m 0 0) (B := B) (J := J) (wd := wd) (o := o) M O.1
      have K0 := keep_t (keep0 m B 0) K
      have C3 : cg gk 21 h v s (sres h v s col).2.2 := cg_of C2 (a1 21 (by decide))
      refine ⟨nI (fb_ct (fun k => decide (col k = 0)) (h * v)), up gk 11 (cpG (gk 21) (gk 11)), ik, Ak, ?_, up m' 19 m9, up (up B' 56 f9) 53 (fb_put (B' 53) (B' 59) 0 67), J', wd, ?_, INV_act H' a1 a2 a3 a4 (fun a h1 _ => up_n _ _ h1) K0.1 K0.2.1 rfl K0.2.2.2.1 K0.2.2.2.2.2.1 rfl K0.2.2.2.2.2.2.2.1 K0.2.2.2.2.2.2.2.2 O2 (cg_cp C3 _ _) (fun j hj => by rw [up_s, fb_put_in (by omega) (by omega)]; exact u3 z j hj)⟩
      · rw [sf8, e, Option.bind_some, if_pos z, if_pos (show ¬ (1 : Int32) = 0 by decide), rd8_1, Option.bind_some, C_ct0 C' O.1, rd8_5, Option.bind_some, rd8_1, Option.bind_some, eK, Option.bind_some, rd8_1, Option.bind_some, rd8_4, Option.bind_some]
        unfold f_S_result e_S_result
        rw [sf18, rd18_1, Option.bind_some, Option.bind_some, cp1121, Option.bind_some]
      · rw [sf51, wr51_0, Option.bind_some, M_high M, Option.bind_some, if_pos (nI_ne0 h0 (by omega)), e2, Option.bind_some, rd51_29, Option.bind_some, u2, z, if_pos (show nI 1 = (1 : Int32) from rfl), rd51_11, Option.bind_some, M_blanks53 (keep_mN K M) O.1, Option.bind_some, eS _ _ _ _ _ _ _ _ _ _ _ _ K.2.2.1 K.2.2.2.2.1 K.2.2.2.2.2.2.1, Option.bind_some, rd51_17, Option.bind_some, rd51_11, Option.bind_some, cpM5953, Option.bind_some]
        rfl
    · obtain ⟨m', B', J', e2, K, u1, u2, u3⟩ := M_searches (n1 := n1) (n2 := n2) (L := L) (xs := xs) (g := g') (i := i') (A := A') (m := up m 0 0) (B := B) (J := J) (wd := wd) (o := o) M O.1
      have t3 : (sres h v s col).1 ≤ 2 := by
        obtain ⟨_, _, _, _, _, _, _, _, _, _, t3, _⟩ := S_seek (n1 := n1) (n2 := n2) (L := L) (xs := xs) (A := A) (m := m) (B := B) (J := J) (wd := wd) (o := o) S C O h0
        exact t3
      refine ⟨-1, g', i', A', ?_, m', B', J', wd, ?_, INV_keep H' (keep_t (keep0 m B 0) K)⟩
      · rw [sf8, e, Option.bind_some, if_neg z]
        rfl
      · rw [sf51, wr51_0, Option.bind_some, M_high M, Option.bind_some, if_pos (nI_ne0 h0 (by omega)), e2, Option.bind_some, rd51_29, Option.bind_some, u2, if_neg (show ¬ nI (sres h v s col).1 = (1 : Int32) by rw [show (1 : Int32) = nI 1 from rfl, nI_eq (by omega) (by decide)]; exact z)]
