/-! MORE QUESTIONS -/
theorem ct64 (p : Nat → Bool) {n : Nat} (hn : n ≤ 64) : fb_ct (fun k => (bs p n).testBit k) 64 = fb_ct p n := by
  rw [show (64 : Nat) = n + (64 - n) by omega, fb_ct_split]
  have h1 : fb_ct (fun k => (bs p n).testBit (n + k)) (64 - n) = 0 := by
    rw [fb_ct_zero]
    intro k _
    rw [bs_bit]
    simp
    omega
  rw [h1, Nat.add_zero]
  exact ct_bs p n
theorem rcs_good {h v : Nat} {col : Nat → Nat} : (rcs h v col 0).length = 0 ↔ ∀ r q c d, ¬ isR h v col r q c d := by
  constructor
  · intro hl r q c d hR
    have hm : (r, q, c, d) ∈ rcs h v col 0 := mem_rcs.mpr ⟨hR.1, hR.2.1, hR.2.2.1, hR.2.2.2.1, (okc_0 _).mpr hR.2.2.2.2⟩
    rw [List.length_eq_zero_iff] at hl
    rw [hl] at hm
    cases hm
  · intro hn
    rw [List.length_eq_zero_iff]
    cases hL : rcs h v col 0 with
    | nil => rfl
    | cons t T =>
      exfalso
      obtain ⟨r, q, c, d⟩ := t
      have hm : (r, q, c, d) ∈ rcs h v col 0 := by rw [hL]; exact List.mem_cons_self
      obtain ⟨h1, h2, h3, h4, h5⟩ := mem_rcs.mp hm
      exact hn r q c d ⟨h1, h2, h3, h4, (okc_0 _).mp h5⟩
theorem lN_bit1 {n k : Nat} (hn : n < 2 ^ 64) (hk : k < 64) : (lg_cmp (am_lu (lN n) (nI k) &&& 1) 1 = 0) ↔ n.testBit k = true := by
  rw [lg_cmp_eq, am_lu_eq hn hk, g_and1 (Nat.lt_of_le_of_lt (Nat.div_le_self _ _) hn), lN_one, lN_e (by omega) (by decide), Nat.testBit_eq_decide_div_mod_eq]
  simp
theorem cr4_lt {h v : Nat} {col : Nat → Nat} {x : Nat} {t : Nat × Nat × Nat × Nat} (h64 : h * v ≤ 64) (ht : t ∈ rcs h v col x) : cr4 v t < 2 ^ 64 := by
  obtain ⟨r, q, c, d⟩ := t
  obtain ⟨h1, h2, h3, h4, -⟩ := mem_rcs.mp ht
  have l1 := row_lt (show r < h by omega) (show c < v by omega)
  have l2 := row_lt (show r < h by omega) h4
  have l3 := row_lt h2 (show c < v by omega)
  have l4 := row_lt h2 h4
  unfold cr4
  simp only []
  exact Nat.or_lt_two_pow (Nat.or_lt_two_pow (Nat.or_lt_two_pow (wb_lt2 (by omega)) (wb_lt2 (by omega))) (wb_lt2 (by omega))) (wb_lt2 (by omega))
section QRB
variable {n1 n2 L : Nat} {xs : Nat → Int32} {g : Nat → GR} {i : Nat → Int32} {A : Nat → Nat → Int32} {m : Nat → Int32} {B : Nat → Nat → Int32} {J : Nat → Int64} {wd : Int64} {o : Nat → Int64} {h v s : Nat} {col : Nat → Nat}
theorem M_isGood (M : mN B 53 h v s col) (O : gok h v s col) : ∃ S' J', f_M_isGood 51 (mk n1 n2 L xs g i A m B J wd o) = some (mk n1 n2 L xs g i A (up m 23 (nI (rcs h v col 0).length)) (up B 61 S') J' wd o, if (rcs h v col 0).length = 0 then 1 else 0) := by
  have hle := rcs_le h v col 0 O.1 O.2.1
  obtain ⟨S', J', hl, e⟩ := M_laysFours (n1 := n1) (n2 := n2) (L := L) (xs := xs) (g := g) (i := i) (A := A) (m := m) (J := J) (wd := wd) (o := o) M O (x := 0) (by omega)
  refine ⟨S', J', ?_⟩
  unfold f_M_isGood e_M_isGood f_M_isGood_p17
  rw [sf51, show f_M_laysFours 51 0 = f_M_laysFours 51 (nI 0) from rfl, e, Option.bind_some, rd51_23, Option.bind_some, up_s]
  by_cases z : (rcs h v col 0).length = 0
  · rw [if_pos z, z, if_neg (by decide)]
    rfl
  · rw [if_neg z, if_pos (nI_ne0 (by omega) (by omega))]
    rfl
theorem C_isGood (C : cg g 11 h v s col) (O : gok h v s col) : f_G_isGood 11 (mk n1 n2 L xs g i A m B J wd o) = some (mk n1 n2 L xs g i A m B J wd o, if (rcs h v col 0).length = 0 then 1 else 0) := by
  rcases G_isGood (C.g11 (n1 := n1) (n2 := n2) (L := L) (xs := xs) (i := i) (A := A) (m := m) (B := B) (J := J) (wd := wd) (o := o)) C.2.2.2 O with ⟨h1, h2⟩ | ⟨⟨r, q, c, d, h1⟩, h2⟩
  · rw [h2, if_pos (rcs_good.mpr h1)]
  · rw [h2, if_neg (fun z => rcs_good.mp z r q c d h1)]
theorem q_now (C : cg g 11 h v s col) (M : mN B 53 h v s col) (O : gok h v s col) (h5 : i 194 = m 19) (h6 : i 73 = m 2) (x : Int32) : ∃ r, f_C_now 8 x (mk n1 n2 L xs g i A m B J wd o) = some (mk n1 n2 L xs g i A m B J wd o, r) ∧ ∃ m' B' J', f_M_now 51 x (mk n1 n2 L xs g i A m B J wd o) = some (mk n1 n2 L xs g i A m' B' J' wd o, r) ∧ keep m B m' B' := by
  have h64 := O.hv
  have hk0 : keep m B (up m 0 0) B := ⟨rfl, rfl, rfl, rfl, rfl, rfl, rfl, rfl, rfl⟩
  unfold f_C_now e_C_now f_C_now_p95 f_M_now e_M_now f_M_now_p86 am_sw7
  rw [sf8, sf51, wr51_0, Option.bind_some]
  by_cases z0 : x = 0
  · rw [if_pos z0, if_pos z0]
    refine ⟨nI h, ?_, _, _, J, ?_, hk0⟩
    · rw [rd8_1, Option.bind_some, G_high C.g11]; rfl
    · rw [M_high M]; rfl
  rw [if_neg z0, if_neg z0]
  by_cases z1 : x = 1
  · rw [if_pos z1, if_pos z1]
    refine ⟨nI v, ?_, _, _, J, ?_, hk0⟩
    · rw [rd8_1, Option.bind_some, G_wide C.g11]; rfl
    · rw [M_broad M]; rfl
  rw [if_neg z1, if_neg z1]
  by_cases z2 : x = 2
  · rw [if_pos z2, if_pos z2]
    refine ⟨nI s, ?_, _, _, J, ?_, hk0⟩
    · rw [rd8_1, Option.bind_some, G_shades C.g11]; rfl
    · rw [rd51_11, Option.bind_some, (mN.gr M).sh]; rfl
  rw [if_neg z2, if_neg z2]
  by_cases z3 : x = 3
  · rw [if_pos z3, if_pos z3]
    refine ⟨nI (fb_ct (fun k => decide (col k = 0)) (h * v)), ?_, _, _, J, ?_, hk0⟩
    · rw [rd8_1, Option.bind_some, show f_G_cellsOf 11 0 = f_G_cellsOf 11 (nI 0) from rfl, G_cellsOf C.g11 (by decide), Option.bind_some]
      simp only [C.2.2.2 0 (by decide)]
      rw [J_bitCount (stc_lt O 0), Option.bind_some]
      unfold stc
      rw [ct64 _ h64]
    · rw [rd51_11, Option.bind_some]
      unfold f_M_blanks e_M_blanks
      rw [sf51]
      have e := blanks_loop (mN.gr (n1 := n1) (n2 := n2) (L := L) (xs := xs) (g := g) (i := i) (A := A) (m := up m 0 0) (J := J) (wd := wd) (o := o) M) O (h * v) am_N 0 (by omega) (by unfold am_N; omega)
      rw [show nI (fb_ct (fun k => decide (col k = 0)) 0) = (0 : Int32) from rfl, show nI 0 = (0 : Int32) from rfl] at e
      rw [e]
      rfl
  rw [if_neg z3, if_neg z3]
  by_cases z4 : x = 4
  · rw [if_pos z4, if_pos z4]
    obtain ⟨S', J', e⟩ := M_isGood (n1 := n1) (n2 := n2) (L := L) (xs := xs) (g := g) (i := i) (A := A) (m := up m 0 0) (J := J) (wd := wd) (o := o) M O
    refine ⟨if (rcs h v col 0).length = 0 then 1 else 0, ?_, up (up m 0 0) 23 (nI (rcs h v col 0).length), up B 61 S', J', ?_, ⟨rfl, rfl, rfl, rfl, rfl, rfl, rfl, rfl, rfl⟩⟩
    · rw [rd8_1, Option.bind_some, C_isGood C O, Option.bind_some]
      split
      · exact if_neg (show ¬ (1 : Int32) = 0 by decide)
      · exact if_pos rfl
    · rw [e, Option.bind_some]
      split
      · exact if_neg (show ¬ (1 : Int32) = 0 by decide)
      · exact if_pos rfl
  rw [if_neg z4, if_neg z4]
  by_cases z5 : x = 5
  · rw [if_pos z5, if_pos z5]
    refine ⟨m 19, ?_, _, _, J, ?_, hk0⟩
    · rw [rd8_5, Option.bind_some]
      unfold f_H_size e_H_size
      rw [sf24, rd24_2, h5]; rfl
    · rw [rd51_19]; rfl
  rw [if_neg z5, if_neg z5]
  by_cases z6 : x = 6
  · rw [if_pos z6, if_pos z6]
    refine ⟨m 2, ?_, _, _, J, ?_, hk0⟩
    · rw [rd8_0, Option.bind_some]
      unfold f_T_length e_T_length
      rw [sf9, rd9_1, h6]; rfl
    · rw [rd51_2]; rfl
  rw [if_neg z6, if_neg z6]
  exact ⟨-1, rfl, _, _, J, rfl, hk0⟩
theorem hav_loop (M : mN B 53 h v s col) (O : gok h v s col) {c : Nat} (hc : c ≤ 4) :
    ∀ d n k, k + d = h * v → d < n → f_M_having_p25 n 51 (nI c) (lN (bs (fun k => decide (col k = c)) k)) (nI k) (mk n1 n2 L xs g i A m B J wd o) = some (mk n1 n2 L xs g i A m B J wd o, lN (stc h v col c)) := by
  have h64 := O.hv
  have h4 := O.2.2.1
  intro d
  induction d with
  | zero =>
    intro n k hk hn
    obtain ⟨n, rfl⟩ : ∃ m, n = m + 1 := ⟨n - 1, by omega⟩
    rw [f_M_having_p25, M_cellMany M, Option.bind_some, if_pos (nI_le (by omega) (by omega)), show k = h * v by omega]
    rfl
  | succ d ih =>
    intro n k hk hn
    obtain ⟨n, rfl⟩ : ∃ m, n = m + 1 := ⟨n - 1, by omega⟩
    have hkk : k < h * v := by omega
    have ho := O.2.2.2.2.2 k hkk
    rw [f_M_having_p25, M_cellMany M, Option.bind_some, if_neg (nI_ge hkk (by omega)), rd51_11, Option.bind_some, (mN.gr M).cl (by omega), Option.bind_some]
    unfold f_M_having_p54
    by_cases z : col k = c
    · rw [if_neg (by rw [z]; simp), nI_1, lN_shl1 (by omega), fb_orL]
      have e : bs (fun k => decide (col k = c)) k ||| 2 ^ k = bs (fun k => decide (col k = c)) (k + 1) := by
        refine bs_ext (Nat.or_lt_two_pow (Nat.lt_trans (bs_lt _ _) (wb_lt2 (by omega))) (wb_lt2 (by omega))) (fun j hj => ?_)
        rw [Nat.testBit_or, bs_bit, bit_pow]
        rcases Nat.lt_or_ge j k with y | y
        · simp [y]; omega
        · have : j = k := by omega
          subst this
          simp [z]
      rw [e]
      exact ih n (k + 1) (by omega) (by omega)
    · rw [if_pos (by rw [nI_eq (by omega) (by omega)]; exact z), nI_1]
      have e : bs (fun k => decide (col k = c)) k = bs (fun k => decide (col k = c)) (k + 1) := by
        rw [bs]
        simp [z]
      rw [e]
      exact ih n (k + 1) (by omega) (by omega)
theorem q_having (C : cg g 11 h v s col) (M : mN B 53 h v s col) (O : gok h v s col) (x : Int32) :
    (∃ r, f_C_having 8 x (mk n1 n2 L xs g i A m B J wd o) = some (mk n1 n2 L xs g i A m B J wd o, some r) ∧ ∀ n1 n2 o, f_M_having 51 x (mk n1 n2 L xs g i A m B J wd o) = some (mk n1 n2 L xs g i A (up m 0 0) B J wd o, r)) ∨
    (f_C_having 8 x (mk n1 n2 L xs g i A m B J wd o) = some (mk (n1 + 1) (n2 + 6) L xs g i A m B J wd o, none) ∧ ∀ n1 n2 o, f_M_having 51 x (mk n1 n2 L xs g i A m B J wd o) = some (mk n1 n2 L xs g i A (up (up m 0 0) 0 1) B J wd o, 0)) := by
  have h8 := O.1
  have h4 := O.2.2.1
  have hcase : (h = 0 ∨ x < 0 ∨ nI s < x) ∨ (0 < h ∧ ∃ c, c ≤ s ∧ x = nI c) := by
    rcases Nat.eq_zero_or_pos h with z | z
    · exact Or.inl (Or.inl z)
    · rcases pk_ix x (n := s + 1) (by omega) with q | q | ⟨c, hc, rfl⟩
      · exact Or.inl (Or.inr (Or.inl q))
      · refine Or.inl (Or.inr (Or.inr ?_))
        rw [fa_lt, nI_toInt (by omega)]
        rw [fa_le, nI_toInt (by omega)] at q
        omega
      · exact Or.inr ⟨z, c, by omega, rfl⟩
  unfold f_C_having e_C_having f_M_having e_M_having
  rw [sf8, rd8_1, Option.bind_some]
  rcases hcase with q | ⟨h0, c, hc, rfl⟩
  · refine Or.inr ⟨?_, fun n1 n2 o => ?_⟩
    · rw [G_hasCol_f C.g11 q, Option.bind_some]; rfl
    · rw [sf51, wr51_0, Option.bind_some, M_isColour_f M O q, Option.bind_some, if_neg (show ¬ ¬ (0 : Int32) = 0 by decide)]
      rfl
  · refine Or.inl ⟨lN (stc h v col c), ?_, fun n1 n2 o => ?_⟩
    · rw [G_hasCol_t C.g11 O h0 hc, Option.bind_some, if_pos (show ¬ (1 : Int32) = 0 by decide), rd8_1, Option.bind_some, G_cellsOf C.g11 (by omega), Option.bind_some]
      simp only [C.2.2.2 c (by omega)]
    · have h64 := O.hv
      rw [sf51, wr51_0, Option.bind_some, show f_M_isColour 51 0 = f_M_isColour 51 (nI 0) from rfl, M_isColour_t M O h0 (Nat.zero_le _) hc, Option.bind_some, if_pos (show ¬ (1 : Int32) = 0 by decide)]
      exact hav_loop M O (by omega) (h * v) am_N 0 (by omega) (by unfold am_N; omega)
/-- the worst cell, by any count of cells -/
def wst (F : Nat → Nat) (n : Nat) : Nat → Int32 → Nat → Int32
  | 0, b, _ => b
  | d + 1, b, t => if t < F (n - (d + 1)) then wst F n d (nI (n - (d + 1))) (F (n - (d + 1))) else wst F n d b t
theorem cth_le (h v : Nat) (col : Nat → Nat) (k c : Nat) (h8 : h ≤ 8) (v8 : v ≤ 8) : cth h v col k c ≤ 64 := by
  unfold cth
  split
  · omega
  · have h1 : fb_sm (cthR v col k c) h ≤ fb_sm (fun _ => 8) h := by
      refine fb_sm_le (fun q _ => ?_)
      unfold cthR
      split
      · exact Nat.le_trans (fb_ct_le _ _) v8
      · omega
    rw [fb_sm_const] at h1
    omega
theorem cw_loop (C : cg g 11 h v s col) (O : gok h v s col) : ∀ d n k b t, k + d = h * v → d < n → t ≤ 64 → f_C_worst_p6 n 8 b (nI t) (nI k) (mk n1 n2 L xs g i A m B J wd o) = some (mk n1 n2 L xs g i A m B J wd o, wst (fun k => cth h v col k (col k)) (h * v) d b t) := by
  have h64 := O.hv
  have h4 := O.2.2.1
  intro d
  induction d with
  | zero =>
    intro n k b t hk hn ht
    obtain ⟨n, rfl⟩ : ∃ m, n = m + 1 := ⟨n - 1, by omega⟩
    rw [f_C_worst_p6, rd8_1, Option.bind_some, G_size C.g11, Option.bind_some, if_pos (nI_le (by omega) (by omega))]
    rfl
  | succ d ih =>
    intro n k b t hk hn ht
    obtain ⟨n, rfl⟩ : ∃ m, n = m + 1 := ⟨n - 1, by omega⟩
    have hkk : k < h * v := by omega
    have ho := O.2.2.2.2.2 k hkk
    have hc := cth_le h v col k (col k) O.1 O.2.1
    rw [f_C_worst_p6, rd8_1, Option.bind_some, G_size C.g11, Option.bind_some, if_neg (nI_ge hkk (by omega)), rd8_1, Option.bind_some, Option.bind_some, G_colourOf C.g11 C.2.2.2 O hkk, Option.bind_some, G_countThrough C.g11 C.2.2.2 O hkk (by omega), Option.bind_some]
    unfold f_C_worst_p46
    simp only []
    rw [wst, show h * v - (d + 1) = k by omega]
    by_cases z : t < cth h v col k (col k)
    · rw [if_neg (nI_ge z (by omega)), nI_1, if_pos z]
      exact ih n (k + 1) _ _ (by omega) (by omega) hc
    · rw [if_pos (nI_le (by omega) (by omega)), nI_1, if_neg z]
      exact ih n (k + 1) _ _ (by omega) (by omega) ht
theorem mw_in (M : mN B 53 h v s col) (O : gok h v s col) (hl : laid v (rcs h v col 0) (B 61) J) (hm : m 23 = nI (rcs h v col 0).length) {k t : Nat} (hk : k < h * v) (ht : t ≤ 64) (b : Int32) (k16 : Nat → Int32 → Int32 → Int32 → am_W → Option (am_W × Int32)) :
    ∀ d n j, j + d = (rcs h v col 0).length → d < n → f_M_worst_p30 k16 n 51 b (nI t) (nI k) (nI (fb_ct (lp (fun t => (cr4 v t).testBit k) (rcs h v col 0)) j)) (nI j) (mk n1 n2 L xs g i A m B J wd o) =
      if t < cth h v col k (col k) then k16 51 (nI k) (nI (cth h v col k (col k))) (nI (k + 1)) (mk n1 n2 L xs g i A m B J wd o) else k16 51 b (nI t) (nI (k + 1)) (mk n1 n2 L xs g i A m B J wd o) := by
  have h64 := O.hv
  have hle := rcs_le h v col 0 O.1 O.2.1
  have hc := cth_le h v col k (col k) O.1 O.2.1
  intro d
  induction d with
  | zero =>
    intro n j hj hn
    obtain ⟨n, rfl⟩ : ∃ m, n = m + 1 := ⟨n - 1, by omega⟩
    have e : j = (rcs h v col 0).length := by omega
    rw [f_M_worst_p30, rd51_23, Option.bind_some, hm, if_pos (nI_le (by omega) (by omega)), e, ct_list (fun t => (cr4 v t).testBit k), hit_cnt hk]
    unfold f_M_worst_p78
    rw [nI_1]
    by_cases z : t < cth h v col k (col k)
    · rw [if_pos z, if_pos (nI_lt z (by omega))]
    · rw [if_neg z, if_neg (nI_nlt (by omega) (by omega))]
  | succ d ih =>
    intro n j hj hn
    obtain ⟨n, rfl⟩ : ∃ m, n = m + 1 := ⟨n - 1, by omega⟩
    have hjl : j < (rcs h v col 0).length := by omega
    have hg := List.getElem?_eq_getElem hjl
    have hJ := (hl j _ hg).2
    rw [f_M_worst_p30, rd51_23, Option.bind_some, hm, if_neg (nI_ge hjl (by omega)), rd51_22, Option.bind_some, r_aj ar62 (by omega) (by decide), Option.bind_some, hJ]
    unfold f_M_worst_p58
    have hs := fb_ct_succ (lp (fun t => (cr4 v t).testBit k) (rcs h v col 0)) j
    rw [lp_at _ hjl] at hs
    have hlt := cr4_lt h64 (List.getElem_mem hjl)
    by_cases z : (cr4 v (rcs h v col 0)[j]).testBit k = true
    · rw [if_neg (by rw [lN_bit1 hlt (by omega)]; simp [z]), nI_1, nI_1]
      rw [z, if_pos rfl] at hs
      rw [← hs]
      exact ih n (j + 1) (by omega) (by omega)
    · rw [if_pos (by rw [lN_bit1 hlt (by omega)]; exact z), nI_1]
      have hs' : fb_ct (lp (fun t => (cr4 v t).testBit k) (rcs h v col 0)) (j + 1) = fb_ct (lp (fun t => (cr4 v t).testBit k) (rcs h v col 0)) j := by rw [hs, if_neg z]; rfl
      rw [← hs']
      exact ih n (j + 1) (by omega) (by omega)
theorem mw_loop (M : mN B 53 h v s col) (O : gok h v s col) (hl : laid v (rcs h v col 0) (B 61) J) (hm : m 23 = nI (rcs h v col 0).length) : ∀ d n k b t, k + d = h * v → d < n → t ≤ 64 → f_M_worst_p16 n 51 b (nI t) (nI k) (mk n1 n2 L xs g i A m B J wd o) = some (mk n1 n2 L xs g i A m B J wd o, wst (fun k => cth h v col k (col k)) (h * v) d b t) := by
  have h64 := O.hv
  have hle := rcs_le h v col 0 O.1 O.2.1
  intro d
  induction d with
  | zero =>
    intro n k b t hk hn ht
    obtain ⟨n, rfl⟩ : ∃ m, n = m + 1 := ⟨n - 1, by omega⟩
    rw [f_M_worst_p16, M_cellMany M, Option.bind_some, if_pos (nI_le (by omega) (by omega))]
    rfl
  | succ d ih =>
    intro n k b t hk hn ht
    obtain ⟨n, rfl⟩ : ∃ m, n = m + 1 := ⟨n - 1, by omega⟩
    have hkk : k < h * v := by omega
    have hc := cth_le h v col k (col k) O.1 O.2.1
    rw [f_M_worst_p16, M_cellMany M, Option.bind_some, if_neg (nI_ge hkk (by omega))]
    have e := mw_in (n1 := n1) (n2 := n2) (L := L) (xs := xs) (g := g) (i := i) (A := A) (wd := wd) (o := o) M O hl hm hkk ht b (f_M_worst_p16 n) (rcs h v col 0).length am_N 0 (by omega) (by unfold am_N; omega)
    have e0 : nI (fb_ct (lp (fun t => (cr4 v t).testBit k) (rcs h v col 0)) 0) = 0 := rfl
    rw [e0, show nI 0 = (0 : Int32) from rfl] at e
    simp only []
    rw [e, wst, show h * v - (d + 1) = k by omega]
    split
    · exact ih n (k + 1) _ _ (by omega) (by omega) hc
    · exact ih n (k + 1) _ _ (by omega) (by omega) ht
theorem q_worst (C : cg g 11 h v s col) (M : mN B 53 h v s col) (O : gok h v s col) : ∃ r, f_C_worst 8 (mk n1 n2 L xs g i A m B J wd o) = some (mk n1 n2 L xs g i A m B J wd o, r) ∧ ∃ m' B' J', f_M_worst 51 (mk n1 n2 L xs g i A m B J wd o) = some (mk n1 n2 L xs g i A m' B' J' wd o, r) ∧ keep m B m' B' := by
  have h64 := O.hv
  obtain ⟨S', J', hl, e⟩ := M_laysFours (n1 := n1) (n2 := n2) (L := L) (xs := xs) (g := g) (i := i) (A := A) (m := up m 0 0) (J := J) (wd := wd) (o := o) M O (x := 0) (by omega)
  refine ⟨wst (fun k => cth h v col k (col k)) (h * v) (h * v) (-1) 0, ?_, up (up m 0 0) 23 (nI (rcs h v col 0).length), up B 61 S', J', ?_, ⟨rfl, rfl, rfl, rfl, rfl, rfl, rfl, rfl, rfl⟩⟩
  · unfold f_C_worst e_C_worst
    rw [sf8]
    exact cw_loop C O (h * v) am_N 0 (-1) 0 (by omega) (by unfold am_N; omega) (by omega)
  · unfold f_M_worst e_M_worst
    rw [sf51, wr51_0, Option.bind_some, show f_M_laysFours 51 0 = f_M_laysFours 51 (nI 0) from rfl, e, Option.bind_some]
    exact mw_loop (M.up (a := 61) (by decide) S') O (show laid v (rcs h v col 0) (up B 61 S' 61) J' from hl) rfl (h * v) am_N 0 (-1) 0 (by omega) (by unfold am_N; omega) (by omega)
end QRB
