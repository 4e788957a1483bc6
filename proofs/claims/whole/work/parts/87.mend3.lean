/-! MEND, BOTH SIDES -/
section MEC
variable {n1 n2 L : Nat} {xs : Nat → Int32} {g : Nat → GR} {i : Nat → Int32} {A : Nat → Nat → Int32} {m : Nat → Int32} {B : Nat → Nat → Int32} {J : Nat → Int64} {wd : Int64} {o : Nat → Int64} {h v s : Nat} {col : Nat → Nat}
theorem meets_loop (h64 : h * v ≤ 64) (h8 : h ≤ 8) (v8 : v ≤ 8) (hl : laid v (rcs h v col 0) (B 61) J) (hm : m 23 = nI (rcs h v col 0).length) {X : Nat} (hX : X < 2 ^ 64) : ∀ d n j, j + d = (rcs h v col 0).length → d < n → ((∀ k t, j ≤ k → (rcs h v col 0)[k]? = some t → cr4 v t &&& X ≠ 0) ∧ f_M_meets_p2 n 51 (lN X) (nI j) (mk n1 n2 L xs g i A m B J wd o) = some (mk n1 n2 L xs g i A m B J wd o, 1)) ∨ (¬ mts h v col X ∧ f_M_meets_p2 n 51 (lN X) (nI j) (mk n1 n2 L xs g i A m B J wd o) = some (mk n1 n2 L xs g i A m B J wd o, 0)) := by
  have hle := rcs_le h v col 0 h8 v8
  intro d
  induction d with
  | zero =>
    intro n j hj hn
    obtain ⟨n, rfl⟩ : ∃ m, n = m + 1 := ⟨n - 1, by omega⟩
    refine Or.inl ⟨fun k t hk ht => ?_, ?_⟩
    · have := (List.getElem?_eq_some_iff.mp ht).1
      omega
    · rw [f_M_meets_p2, rd51_23, Option.bind_some, hm, if_pos (nI_le (by omega) (by omega))]
  | succ d ih =>
    intro n j hj hn
    obtain ⟨n, rfl⟩ : ∃ m, n = m + 1 := ⟨n - 1, by omega⟩
    have hjl : j < (rcs h v col 0).length := by omega
    have hg := List.getElem?_eq_getElem hjl
    have hmem := List.getElem_mem hjl
    have hJ := (hl j _ hg).2
    have hlt := cr4_lt h64 hmem
    rw [f_M_meets_p2, rd51_23, Option.bind_some, hm, if_neg (nI_ge hjl (by omega)), rd51_22, Option.bind_some, r_aj ar62 (by omega) (by decide), Option.bind_some, hJ, wb_and hlt hX]
    by_cases z : cr4 v (rcs h v col 0)[j] &&& X = 0
    · refine Or.inr ⟨fun q => q _ hmem z, ?_⟩
      rw [if_neg (by rw [lg_cmp_eq, z]; exact fun q => q rfl)]
    · rw [if_pos (by rw [lg_cmp_eq, lN_0, lN_e (Nat.lt_of_le_of_lt Nat.and_le_left hlt) (by decide)]; exact z), nI_1]
      rcases ih n (j + 1) (by omega) (by omega) with ⟨a, e⟩ | ⟨a, e⟩
      · refine Or.inl ⟨fun k t hk ht => ?_, e⟩
        by_cases y : k = j
        · subst y
          rw [hg] at ht
          cases ht
          exact z
        · exact a k t (by omega) ht
      · exact Or.inr ⟨a, e⟩
theorem M_meets (O : gok h v s col) (hl : laid v (rcs h v col 0) (B 61) J) (hm : m 23 = nI (rcs h v col 0).length) (X : Nat) (hX : X < 2 ^ 64) : (mts h v col X ∧ f_M_meets 51 (lN X) (mk n1 n2 L xs g i A m B J wd o) = some (mk n1 n2 L xs g i A m B J wd o, 1)) ∨ (¬ mts h v col X ∧ f_M_meets 51 (lN X) (mk n1 n2 L xs g i A m B J wd o) = some (mk n1 n2 L xs g i A m B J wd o, 0)) := by
  have hle := rcs_le h v col 0 O.1 O.2.1
  unfold f_M_meets e_M_meets
  rw [sf51]
  rcases meets_loop (n1 := n1) (n2 := n2) (L := L) (xs := xs) (g := g) (i := i) (A := A) (wd := wd) (o := o) O.hv O.1 O.2.1 hl hm hX (rcs h v col 0).length am_N 0 (by omega) (by unfold am_N; omega) with ⟨a, e⟩ | ⟨a, e⟩
  · refine Or.inl ⟨fun t ht => ?_, e⟩
    obtain ⟨k, hk⟩ := List.mem_iff_getElem?.mp ht
    exact a k t (Nat.zero_le _) hk
  · exact Or.inr ⟨a, e⟩
/-- what the class answers: a set of cells -/
def goodM (g : Nat → GR) (Y : Nat) : Prop := ∀ (n1 n2 L : Nat) (xs : Nat → Int32) (i : Nat → Int32) (A : Nat → Nat → Int32) (m : Nat → Int32) (B : Nat → Nat → Int32) (J : Nat → Int64) (wd : Int64) (o : Nat → Int64), f_C_mend 8 (mk n1 n2 L xs g i A m B J wd o) = some (mk n1 n2 L xs g i A m B J wd o, some (lN Y))
/-- or nothing -/
def badM (g : Nat → GR) : Prop := ∀ (n1 n2 L : Nat) (xs : Nat → Int32) (i : Nat → Int32) (A : Nat → Nat → Int32) (m : Nat → Int32) (B : Nat → Nat → Int32) (J : Nat → Int64) (wd : Int64) (o : Nat → Int64), f_C_mend 8 (mk n1 n2 L xs g i A m B J wd o) = some (mk (n1 + 1) (n2 + 6) L xs g i A m B J wd o, none)
theorem cm_go {n k r : Nat} (hr : r < 2 ^ 64) (hk : k ≤ 3) (e : f_C_leastMend 6 11 (lN 0) (nI k) (mk n1 n2 L xs g i A m B J wd o) = some (mk n1 n2 L xs g i A m B J wd o, lN r)) : f_C_mend_p2 (n + 1) 8 (nI k) (mk n1 n2 L xs g i A m B J wd o) = if r = 2 ^ 64 - 1 then f_C_mend_p2 n 8 (nI (k + 1)) (mk n1 n2 L xs g i A m B J wd o) else some (mk n1 n2 L xs g i A m B J wd o, some (lN r)) := by
  have q : ¬ (3 : Int32) < nI k := nI_nlt (a := 3) (by omega) (by omega)
  have e' : f_C_leastMend 6 11 0 (nI k) (mk n1 n2 L xs g i A m B J wd o) = some (mk n1 n2 L xs g i A m B J wd o, lN r) := e
  rw [f_C_mend_p2, if_neg q, rd8_1, Option.bind_some, e', Option.bind_some, nI_1]
  by_cases z : r = 2 ^ 64 - 1
  · rw [if_pos z, if_pos (by rw [lg_cmp_eq, z]; exact lN_m1.symm)]
  · rw [if_neg z, if_neg (by rw [lg_cmp_eq, lN_m1, lN_e hr (by decide)]; exact z)]
theorem C_mend_of (C : cg g 11 h v s col) (O : gok h v s col) {k Y : Nat} (hk : k ≤ 3) (hY : Y < 2 ^ 64 - 1) (hno : ∀ j, j < k → ∀ Z, ad j 0 Z → ¬ mts h v col Z) (h1 : ad k 0 Y) (h2 : mts h v col Y) (h3 : ∀ Z, ad k 0 Z → mts h v col Z → Y ≤ Z) : goodM g Y := by
  intro n1 n2 L xs i A m B J wd o
  unfold f_C_mend e_C_mend
  rw [sf8]
  obtain ⟨r0, a0, b0, c0, d0⟩ := C_lm (n1 := n1) (n2 := n2) (L := L) (xs := xs) (i := i) (A := A) (m := m) (B := B) (J := J) (wd := wd) (o := o) C O 0 6 0 (by decide) (by decide) (by decide)
  obtain ⟨r1, a1, b1, c1, d1⟩ := C_lm (n1 := n1) (n2 := n2) (L := L) (xs := xs) (i := i) (A := A) (m := m) (B := B) (J := J) (wd := wd) (o := o) C O 1 6 0 (by decide) (by decide) (by decide)
  obtain ⟨r2, a2, b2, c2, d2⟩ := C_lm (n1 := n1) (n2 := n2) (L := L) (xs := xs) (i := i) (A := A) (m := m) (B := B) (J := J) (wd := wd) (o := o) C O 2 6 0 (by decide) (by decide) (by decide)
  obtain ⟨r3, a3, b3, c3, d3⟩ := C_lm (n1 := n1) (n2 := n2) (L := L) (xs := xs) (i := i) (A := A) (m := m) (B := B) (J := J) (wd := wd) (o := o) C O 3 6 0 (by decide) (by decide) (by decide)
  have fin : ∀ r, (∀ Z, ad k 0 Z ∧ mts h v col Z → r ≤ Z) → (r = 2 ^ 64 - 1 ∨ (ad k 0 r ∧ mts h v col r)) → r = Y := by
    intro r hr hs
    have l1 := hr Y ⟨h1, h2⟩
    rcases hs with hs | hs
    · omega
    · have := h3 r hs.1 hs.2
      omega
  have non : ∀ j r, j < k → (r = 2 ^ 64 - 1 ∨ (ad j 0 r ∧ mts h v col r)) → r = 2 ^ 64 - 1 := by
    intro j r hj hs
    rcases hs with hs | hs
    · exact hs
    · exact absurd hs.2 (hno j hj r hs.1)
  have hYn : ¬ Y = 2 ^ 64 - 1 := by omega
  show f_C_mend_p2 (1048575 + 1) 8 (nI 0) _ = _
  rcases (show k = 0 ∨ k = 1 ∨ k = 2 ∨ k = 3 by omega) with rfl | rfl | rfl | rfl
  · rw [cm_go a0 (by decide) b0, fin r0 c0 d0, if_neg hYn]
  · rw [cm_go a0 (by decide) b0, if_pos (non 0 r0 (by decide) d0)]
    show f_C_mend_p2 (1048574 + 1) 8 (nI 1) _ = _
    rw [cm_go a1 (by decide) b1, fin r1 c1 d1, if_neg hYn]
  · rw [cm_go a0 (by decide) b0, if_pos (non 0 r0 (by decide) d0)]
    show f_C_mend_p2 (1048574 + 1) 8 (nI 1) _ = _
    rw [cm_go a1 (by decide) b1, if_pos (non 1 r1 (by decide) d1)]
    show f_C_mend_p2 (1048573 + 1) 8 (nI 2) _ = _
    rw [cm_go a2 (by decide) b2, fin r2 c2 d2, if_neg hYn]
  · rw [cm_go a0 (by decide) b0, if_pos (non 0 r0 (by decide) d0)]
    show f_C_mend_p2 (1048574 + 1) 8 (nI 1) _ = _
    rw [cm_go a1 (by decide) b1, if_pos (non 1 r1 (by decide) d1)]
    show f_C_mend_p2 (1048573 + 1) 8 (nI 2) _ = _
    rw [cm_go a2 (by decide) b2, if_pos (non 2 r2 (by decide) d2)]
    show f_C_mend_p2 (1048572 + 1) 8 (nI 3) _ = _
    rw [cm_go a3 (by decide) b3, fin r3 c3 d3, if_neg hYn]
theorem C_mend_no (C : cg g 11 h v s col) (O : gok h v s col) (hno : ∀ j, j ≤ 3 → ∀ Z, ad j 0 Z → ¬ mts h v col Z) : badM g := by
  intro n1 n2 L xs i A m B J wd o
  unfold f_C_mend e_C_mend
  rw [sf8]
  obtain ⟨r0, a0, b0, c0, d0⟩ := C_lm (n1 := n1) (n2 := n2) (L := L) (xs := xs) (i := i) (A := A) (m := m) (B := B) (J := J) (wd := wd) (o := o) C O 0 6 0 (by decide) (by decide) (by decide)
  obtain ⟨r1, a1, b1, c1, d1⟩ := C_lm (n1 := n1) (n2 := n2) (L := L) (xs := xs) (i := i) (A := A) (m := m) (B := B) (J := J) (wd := wd) (o := o) C O 1 6 0 (by decide) (by decide) (by decide)
  obtain ⟨r2, a2, b2, c2, d2⟩ := C_lm (n1 := n1) (n2 := n2) (L := L) (xs := xs) (i := i) (A := A) (m := m) (B := B) (J := J) (wd := wd) (o := o) C O 2 6 0 (by decide) (by decide) (by decide)
  obtain ⟨r3, a3, b3, c3, d3⟩ := C_lm (n1 := n1) (n2 := n2) (L := L) (xs := xs) (i := i) (A := A) (m := m) (B := B) (J := J) (wd := wd) (o := o) C O 3 6 0 (by decide) (by decide) (by decide)
  have non : ∀ j r, j ≤ 3 → (r = 2 ^ 64 - 1 ∨ (ad j 0 r ∧ mts h v col r)) → r = 2 ^ 64 - 1 := by
    intro j r hj hs
    rcases hs with hs | hs
    · exact hs
    · exact absurd hs.2 (hno j hj r hs.1)
  show f_C_mend_p2 (1048575 + 1) 8 (nI 0) _ = _
  rw [cm_go a0 (by decide) b0, if_pos (non 0 r0 (by decide) d0)]
  show f_C_mend_p2 (1048574 + 1) 8 (nI 1) _ = _
  rw [cm_go a1 (by decide) b1, if_pos (non 1 r1 (by decide) d1)]
  show f_C_mend_p2 (1048573 + 1) 8 (nI 2) _ = _
  rw [cm_go a2 (by decide) b2, if_pos (non 2 r2 (by decide) d2)]
  show f_C_mend_p2 (1048572 + 1) 8 (nI 3) _ = _
  rw [cm_go a3 (by decide) b3, if_pos (non 3 r3 (by decide) d3)]
  show f_C_mend_p2 (1048571 + 1) 8 (nI 4) _ = _
  rw [f_C_mend_p2, if_pos (by decide)]
  rfl
theorem ad_up : ∀ k W Y, ad k W Y → ad (k + 1) W Y := by
  intro k
  induction k with
  | zero => intro W Y h; exact Or.inl h
  | succ k ih =>
    intro W Y h
    rcases h with h | ⟨c, hc, h⟩
    · exact Or.inl h
    · exact Or.inr ⟨c, hc, ih _ _ h⟩
theorem q_mend (C : cg g 11 h v s col) (M : mN B 53 h v s col) (O : gok h v s col) : ∃ m' B' J', keep m B m' B' ∧
    ((∃ Y, goodM g Y ∧ m' 0 = 0 ∧ f_M_mend 51 (mk n1 n2 L xs g i A m B J wd o) = some (mk n1 n2 L xs g i A m' B' J' wd o, lN Y)) ∨
     (badM g ∧ m' 0 = 1 ∧ f_M_mend 51 (mk n1 n2 L xs g i A m B J wd o) = some (mk n1 n2 L xs g i A m' B' J' wd o, 0))) := by
  have h64 := O.hv
  have hle := rcs_le h v col 0 O.1 O.2.1
  obtain ⟨S', J', hl, e⟩ := M_laysFours (n1 := n1) (n2 := n2) (L := L) (xs := xs) (g := g) (i := i) (A := A) (m := up m 0 0) (J := J) (wd := wd) (o := o) M O (x := 0) (by decide)
  have e' : f_M_laysFours 51 0 (mk n1 n2 L xs g i A (up m 0 0) B J wd o) = _ := e
  have K : keep m B (up (up m 0 0) 23 (nI (rcs h v col 0).length)) (up B 61 S') := ⟨rfl, rfl, rfl, rfl, rfl, rfl, rfl, rfl, rfl⟩
  have start : f_M_mend 51 (mk n1 n2 L xs g i A m B J wd o) = (if ¬ nI (rcs h v col 0).length = 0 then f_M_mend_p26 am_N 51 (nI (h * v)) 0 (mk n1 n2 L xs g i A (up (up m 0 0) 23 (nI (rcs h v col 0).length)) (up B 61 S') J' wd o) else some (mk n1 n2 L xs g i A (up (up m 0 0) 23 (nI (rcs h v col 0).length)) (up B 61 S') J' wd o, 0)) := by
    unfold f_M_mend e_M_mend
    rw [sf51, wr51_0, Option.bind_some, e', Option.bind_some, rd51_23, Option.bind_some, up_s, M_cellMany (M.up (by decide) S'), Option.bind_some]
  by_cases z : (rcs h v col 0).length = 0
  · refine ⟨_, _, J', K, Or.inl ⟨0, ?_, rfl, ?_⟩⟩
    · have hm : mts h v col 0 := fun t ht => by rw [List.eq_nil_of_length_eq_zero z] at ht; cases ht
      exact C_mend_of C O (k := 0) (by decide) (by decide) (fun j hj => by omega) rfl hm (fun Z _ _ => Nat.zero_le _)
    · rw [start, z, if_neg (fun q => q rfl)]
      rfl
  · rw [start, if_pos (nI_ne0 (by omega) (by omega))]
    obtain ⟨t0, ht0⟩ : ∃ t, t ∈ rcs h v col 0 := by
      cases hq : rcs h v col 0 with
      | nil => rw [hq] at z; exact absurd rfl z
      | cons t _ => exact ⟨t, List.mem_cons_self⟩
    have nz : ¬ mts h v col 0 := fun q => q t0 ht0 (Nat.and_zero _)
    have red : ∀ X c, h * v ≤ c → mts h v col (X ||| 2 ^ c) → mts h v col X := by
      intro X c hc hm t ht
      obtain ⟨k, k1, k2⟩ := and_ne0.mp (hm t ht)
      have kl := cr4_in ht k1
      rw [or_bit] at k2
      have : decide (c = k) = false := decide_eq_false (by omega)
      rw [this, Bool.or_false] at k2
      exact and_ne0.mpr ⟨k, k1, k2⟩
    have n4 : 2 ≤ h * v := by
      obtain ⟨r, q, c, d⟩ := t0
      obtain ⟨h1, h2, h3, h4, -⟩ := mem_rcs.mp ht0
      have := row_lt h2 h4
      have : 1 ≤ q * v := Nat.mul_pos (by omega) (by omega)
      omega
    have HM := M_meets (n1 := n1) (n2 := n2) (L := L) (xs := xs) (g := g) (i := i) (A := A) (m := up (up m 0 0) 23 (nI (rcs h v col 0).length)) (B := up B 61 S') (J := J') (wd := wd) (o := o) O hl (up_s _ _ _)
    have no0 : ∀ Z, ad 0 0 Z → ¬ mts h v col Z := fun Z hZ => by cases hZ; exact nz
    have b63 : ∀ a, a < 64 → 2 ^ a ≤ 2 ^ 63 := fun a ha => Nat.pow_le_pow_right (by decide) (by omega)
    rcases md1 HM h64 (h * v) am_N 0 (by omega) (by unfold am_N; omega) (fun a' h => by omega) with ⟨a, y1, y2, y3, ee⟩ | ⟨y, ee⟩
    · refine ⟨_, _, _, K, Or.inl ⟨2 ^ a, ?_, rfl, ee⟩⟩
      have := b63 a (by omega)
      refine C_mend_of C O (k := 1) (by decide) (by omega) (fun j hj => by
        rcases (show j = 0 by omega) with rfl
        exact no0) (ad1 (by omega)) y2 (fun Z hZ hm => ?_)
      obtain ⟨a', -, rfl⟩ := cls1 nz hZ hm
      rcases Nat.lt_or_ge a' a with q | q
      · exact absurd hm (y3 a' q)
      · exact Nat.pow_le_pow_right (by decide) q
    · have no1 := none1 nz red y
      have ee' : f_M_mend_p26 am_N 51 (nI (h * v)) 0 (mk n1 n2 L xs g i A (up (up m 0 0) 23 (nI (rcs h v col 0).length)) (up B 61 S') J' wd o) = _ := ee
      rw [ee']
      rcases md2 HM h64 (h * v - 1) am_N 1 (by omega) (by unfold am_N; omega) (fun a' b' h h' => by omega) with ⟨a, b, y0, y1, y2, y3, y4, e2⟩ | ⟨y', e2⟩
      · refine ⟨_, _, _, K, Or.inl ⟨2 ^ a ||| 2 ^ b, ?_, rfl, e2⟩⟩
        have := b63 a (by omega)
        have := pw y0
        have ts := two_sum y0
        refine C_mend_of C O (k := 2) (by decide) (by omega) (fun j hj => by
          rcases (show j = 0 ∨ j = 1 by omega) with rfl | rfl
          · exact no0
          · exact no1) (ad2 (by omega) (by omega)) y2 (fun Z hZ hm => ?_)
        obtain ⟨a', b', u1, u2, rfl⟩ := cls2 nz red no1 hZ hm
        refine lex2 y0 u1 ?_
        rcases Nat.lt_trichotomy a a' with q | q | q
        · exact Or.inl q
        · subst q
          refine Or.inr ⟨rfl, ?_⟩
          rcases Nat.lt_or_ge b' b with p | p
          · exact absurd hm (y4 b' p)
          · exact p
        · exact absurd hm (y3 a' b' q u1)
      · have no2 : ∀ Z, ad 2 0 Z → ¬ mts h v col Z := by
          intro Z hZ hm
          obtain ⟨a', b', u1, u2, rfl⟩ := cls2 nz red no1 hZ hm
          exact y' a' b' u2 u1 hm
        have e2' : f_M_mend_p53 am_N 51 (nI (h * v)) 1 (mk n1 n2 L xs g i A (up (up m 0 0) 23 (nI (rcs h v col 0).length)) (up B 61 S') J' wd o) = _ := e2
        rw [e2']
        rcases md3 HM h64 (h * v - 2) am_N 2 (by omega) (by omega) (by unfold am_N; omega) (fun a' b' c' h h' h'' => by omega) with ⟨a, b, c, y00, y0, y1, y2, y3, y4, y5, e3⟩ | ⟨y'', e3⟩
        · refine ⟨_, _, _, K, Or.inl ⟨2 ^ a ||| 2 ^ b ||| 2 ^ c, ?_, rfl, e3⟩⟩
          have := b63 a (by omega)
          have := pw y0
          have := pw y00
          have ts := three_sum y0 y00
          refine C_mend_of C O (k := 3) (by decide) (by omega) (fun j hj => by
            rcases (show j = 0 ∨ j = 1 ∨ j = 2 by omega) with rfl | rfl | rfl
            · exact no0
            · exact no1
            · exact no2) (ad3 (by omega) (by omega) (by omega)) y2 (fun Z hZ hm => ?_)
          obtain ⟨a', b', c', u0, u1, u2, rfl⟩ := cls3 nz red no2 hZ hm
          refine lex3 y0 y00 u1 u0 ?_
          rcases Nat.lt_trichotomy a a' with q | q | q
          · exact Or.inl q
          · subst q
            refine Or.inr ⟨rfl, ?_⟩
            rcases Nat.lt_trichotomy b b' with p | p | p
            · exact Or.inl p
            · subst p
              refine Or.inr ⟨rfl, ?_⟩
              rcases Nat.lt_or_ge c' c with r | r
              · exact absurd hm (y5 c' r)
              · exact r
            · exact absurd hm (y4 b' c' p u0)
          · exact absurd hm (y3 a' b' c' q u1 u0)
        · have no3 : ∀ Z, ad 3 0 Z → ¬ mts h v col Z := by
            intro Z hZ hm
            obtain ⟨a', b', c', u0, u1, u2, rfl⟩ := cls3 nz red no2 hZ hm
            exact y'' a' b' c' u2 u1 u0 hm
          have e3' : f_M_mend_p101 am_N 51 (nI (h * v)) 2 (mk n1 n2 L xs g i A (up (up m 0 0) 23 (nI (rcs h v col 0).length)) (up B 61 S') J' wd o) = _ := e3
          rw [e3']
          refine ⟨up (up (up m 0 0) 23 (nI (rcs h v col 0).length)) 0 1, up B 61 S', J', keep_t K (keep0 _ _ _), Or.inr ⟨C_mend_no C O (fun j hj => by
            rcases (show j = 0 ∨ j = 1 ∨ j = 2 ∨ j = 3 by omega) with rfl | rfl | rfl | rfl
            · exact no0
            · exact no1
            · exact no2
            · exact no3), up_s _ _ _, ?_⟩⟩
          unfold f_M_refuse e_M_refuse
          rw [sf51, wr51_0, Option.bind_some, Option.bind_some]
          rfl
end MEC
