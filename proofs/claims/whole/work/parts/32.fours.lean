/-! THE MODEL'S GRID, ITS RECTANGLES LAID OUT -/
def mN (B : Nat → Nat → Int32) (a : Nat) (h v s : Nat) (col : Nat → Nat) : Prop := ∀ j, j < 67 → B a j = enc h v s col j
def sd4 (t : Nat × Nat × Nat × Nat) : Int32 := nI (512 * t.1 + 64 * t.2.1 + 8 * t.2.2.1 + t.2.2.2)
def cr4 (v : Nat) (t : Nat × Nat × Nat × Nat) : Nat := ((2 ^ (t.1 * v + t.2.2.1) ||| 2 ^ (t.1 * v + t.2.2.2)) ||| 2 ^ (t.2.1 * v + t.2.2.1)) ||| 2 ^ (t.2.1 * v + t.2.2.2)
def laid (v : Nat) (P : List (Nat × Nat × Nat × Nat)) (S : Nat → Int32) (J : Nat → Int64) : Prop := ∀ i t, P[i]? = some t → S i = sd4 t ∧ J i = lN (cr4 v t)
theorem laid_nil (v : Nat) (S : Nat → Int32) (J : Nat → Int64) : laid v [] S J := fun i t h => by simp at h
theorem laid_push {v : Nat} {P : List (Nat × Nat × Nat × Nat)} {S : Nat → Int32} {J : Nat → Int64} (h : laid v P S J) (t : Nat × Nat × Nat × Nat) : laid v (P ++ [t]) (upd S P.length (sd4 t)) (vp_updL J P.length (lN (cr4 v t))) := by
  intro i t' ht
  rcases Nat.lt_or_ge i P.length with q | q
  · rw [List.getElem?_append_left q] at ht
    have h1 := h i t' ht
    rw [pk_un (by omega), pk_uLn (by omega)]
    exact h1
  · rw [List.getElem?_append_right q] at ht
    have e : i = P.length := by
      have := (List.getElem?_eq_some_iff.mp ht).1
      simp at this
      omega
    subst e
    rw [Nat.sub_self] at ht
    cases ht
    rw [pk_us, pk_uLs]
    exact ⟨rfl, rfl⟩
section MDC
variable {n1 n2 L : Nat} {xs : Nat → Int32} {g : Nat → GR} {i : Nat → Int32} {A : Nat → Nat → Int32} {m : Nat → Int32} {B : Nat → Nat → Int32} {J : Nat → Int64} {wd : Int64} {o : Nat → Int64} {h v s : Nat} {col : Nat → Nat}
theorem mN.gr (H : mN B 53 h v s col) : mgr (mk n1 n2 L xs g i A m B J wd o) 53 h v s col := ⟨B 53, rfl, H⟩
theorem mN.gt (H : mN B 59 h v s col) : mgr (mk n1 n2 L xs g i A m B J wd o) 59 h v s col := ⟨B 59, rfl, H⟩
theorem mN.up (H : mN B 53 h v s col) {a : Nat} (ha : a ≠ 53) (f : Nat → Int32) : mN (up B a f) 53 h v s col := fun j hj => by rw [up_n B f (Ne.symm ha)]; exact H j hj
theorem M_high (H : mN B 53 h v s col) : f_M_high 51 (mk n1 n2 L xs g i A m B J wd o) = some (mk n1 n2 L xs g i A m B J wd o, nI h) := by
  unfold f_M_high e_M_high
  rw [sf51, rd51_11, Option.bind_some, H.gr.hi, Option.bind_some]
theorem M_broad (H : mN B 53 h v s col) : f_M_broad 51 (mk n1 n2 L xs g i A m B J wd o) = some (mk n1 n2 L xs g i A m B J wd o, nI v) := by
  unfold f_M_broad e_M_broad
  rw [sf51, rd51_11, Option.bind_some, H.gr.wi, Option.bind_some]
theorem M_cellMany (H : mN B 53 h v s col) : f_M_cellMany 51 (mk n1 n2 L xs g i A m B J wd o) = some (mk n1 n2 L xs g i A m B J wd o, nI (h * v)) := by
  unfold f_M_cellMany e_M_cellMany
  rw [sf51, M_high H, Option.bind_some, M_broad H, Option.bind_some, pk_mul]
theorem M_isIn_t {x a b : Int32} (h1 : ¬ x < a) (h2 : ¬ b < x) (w : am_W) : f_M_isIn x a b w = some (w, 1) := by
  unfold f_M_isIn e_M_isIn
  rw [if_neg h1, if_neg h2]
  rfl
theorem M_isIn_f {x a b : Int32} (h1 : x < a ∨ b < x) (w : am_W) : f_M_isIn x a b w = some (w, 0) := by
  unfold f_M_isIn e_M_isIn
  rcases h1 with q | q
  · rw [if_pos q]; rfl
  · rw [if_pos q]; split <;> rfl
theorem nI_m1lt {n : Nat} (hn : n < 2 ^ 31) {x : Int32} (hx : nI n ≤ x) : nI n - 1 < x := by
  rcases Nat.eq_zero_or_pos n with q | q
  · subst q
    rw [fa_lt]
    rw [fa_le] at hx
    have e : (nI 0 - 1).toInt = -1 := by decide
    have e2 : (nI 0).toInt = 0 := by decide
    omega
  · have e : nI n - 1 = nI (n - 1) := pk_sub (b := 1) q
    rw [e, fa_lt, nI_toInt (by omega)]
    rw [fa_le, nI_toInt hn] at hx
    omega
theorem nI_m1nlt {k n : Nat} (hk : k < n) (hn : n < 2 ^ 31) : ¬ nI n - 1 < nI k := by
  have e : nI n - 1 = nI (n - 1) := pk_sub (b := 1) (by omega)
  rw [e]
  exact nI_nlt (by omega) (by omega)
theorem M_isCell_t (H : mN B 53 h v s col) (O : gok h v s col) {k : Nat} (hk : k < h * v) : f_M_isCell 51 (nI k) (mk n1 n2 L xs g i A m B J wd o) = some (mk n1 n2 L xs g i A m B J wd o, 1) := by
  have h64 := O.hv
  unfold f_M_isCell e_M_isCell
  rw [sf51, M_cellMany H, Option.bind_some, M_isIn_t (nI_pos (by omega)) (nI_m1nlt hk (by omega)), Option.bind_some]
  rfl
theorem M_isCell_f (H : mN B 53 h v s col) (O : gok h v s col) {x : Int32} (hx : x < 0 ∨ nI (h * v) ≤ x) : f_M_isCell 51 x (mk n1 n2 L xs g i A m B J wd o) = some (mk n1 n2 L xs g i A m B J wd o, 0) := by
  have h64 := O.hv
  unfold f_M_isCell e_M_isCell
  rw [sf51, M_cellMany H, Option.bind_some, M_isIn_f (hx.imp id (nI_m1lt (by omega))), Option.bind_some]
  rfl
theorem M_isColour_t (H : mN B 53 h v s col) (O : gok h v s col) (h0 : 0 < h) {a c : Nat} (ha : a ≤ c) (hc : c ≤ s) : f_M_isColour 51 (nI a) (nI c) (mk n1 n2 L xs g i A m B J wd o) = some (mk n1 n2 L xs g i A m B J wd o, 1) := by
  have h8 := O.1
  have h4 := O.2.2.1
  unfold f_M_isColour e_M_isColour
  rw [sf51, M_high H, Option.bind_some, if_neg (nI_nle h0 (by omega)), rd51_11, Option.bind_some, H.gr.sh, Option.bind_some, M_isIn_t (nI_nlt ha (by omega)) (nI_nlt hc (by omega)), Option.bind_some]
  rfl
theorem M_isColour_f (H : mN B 53 h v s col) (O : gok h v s col) {x y : Int32} (hx : h = 0 ∨ x < y ∨ nI s < x) : f_M_isColour 51 y x (mk n1 n2 L xs g i A m B J wd o) = some (mk n1 n2 L xs g i A m B J wd o, 0) := by
  have h8 := O.1
  unfold f_M_isColour e_M_isColour
  rw [sf51, M_high H, Option.bind_some]
  rcases hx with q | q
  · subst q
    rfl
  · split
    · rfl
    · rw [rd51_11, Option.bind_some, H.gr.sh, Option.bind_some, M_isIn_f q, Option.bind_some]
      rfl
theorem M_cellBit (H : mN B 53 h v s col) (O : gok h v s col) {r c : Nat} (hr : r < h) (hc : c < v) : f_M_cellBit 51 (nI r) (nI c) (mk n1 n2 L xs g i A m B J wd o) = some (mk n1 n2 L xs g i A m B J wd o, lN (2 ^ (r * v + c))) := by
  have hl := row_lt hr hc
  have h64 := O.hv
  unfold f_M_cellBit e_M_cellBit
  rw [sf51, M_broad H, Option.bind_some, pk_mul, nI_add, Nat.mul_comm v r, lN_shl1 (by omega)]
theorem four_in (H : mN B 53 h v s col) (O : gok h v s col) {x r q c : Nat} (hx : x < 5) (hr : r < q) (hq : q < h) (hc : c < v)
    (k7 : Nat → Int32 → Int32 → am_W → Option (am_W × Unit)) (k19 : Nat → Int32 → Int32 → Int32 → am_W → Option (am_W × Unit)) (k30 : Nat → Int32 → Int32 → Int32 → Int32 → am_W → Option (am_W × Unit)) :
    ∀ d' n d P S J, d + d' = v → d' < n → laid v P S J → P.length + (enum (fun d => if okc x (fr v col r q c d) then [(r, q, c, d)] else []) d d').length ≤ 784 → ∃ S' J', laid v (P ++ enum (fun d => if okc x (fr v col r q c d) then [(r, q, c, d)] else []) d d') S' J' ∧
      f_M_laysFours_p45 k7 k19 k30 n 51 (nI x) (nI r) (nI q) (nI c) (nI d) (mk n1 n2 L xs g i A (up m 23 (nI P.length)) (up B 61 S) J wd o) = k30 51 (nI x) (nI r) (nI q) (nI (c + 1)) (mk n1 n2 L xs g i A (up m 23 (nI (P ++ enum (fun d => if okc x (fr v col r q c d) then [(r, q, c, d)] else []) d d').length)) (up B 61 S') J' wd o) := by
  have h8 := O.1
  have hv8 := O.2.1
  have h4 := O.2.2.1
  have h64 := O.hv
  intro d'
  induction d' with
  | zero =>
    intro n d P S J hd hn hl hP
    obtain ⟨n, rfl⟩ : ∃ m, n = m + 1 := ⟨n - 1, by omega⟩
    refine ⟨S, J, by rw [enum, List.append_nil]; exact hl, ?_⟩
    rw [f_M_laysFours_p45, M_broad (H.up (by decide) S), Option.bind_some, if_pos (nI_le (by omega) (by omega)), nI_1, enum, List.append_nil]
  | succ d' ih =>
    intro n d P S J hd hn hl hP
    obtain ⟨n, rfl⟩ : ∃ m, n = m + 1 := ⟨n - 1, by omega⟩
    have hdv : d < v := by omega
    have hf := fr_le O (r := r) (q := q) (c := c) (d := d) (by omega) hc
    rw [f_M_laysFours_p45, M_broad (H.up (by decide) S), Option.bind_some, if_neg (nI_ge hdv (by omega)), rd51_11, Option.bind_some, M_four (H.up (by decide) S).gr O (by omega) hq hc hdv, Option.bind_some, enum]
    rw [enum, List.length_append] at hP
    simp only []
    by_cases z : okc x (fr v col r q c d) = true
    · have key : ∃ S' J', laid v (P ++ ((if okc x (fr v col r q c d) then [(r, q, c, d)] else []) ++ enum (fun d => if okc x (fr v col r q c d) then [(r, q, c, d)] else []) (d + 1) d')) S' J' ∧
          f_M_laysFours_p87 k7 k19 k30 (f_M_laysFours_p45 k7 k19 k30 n) 51 (nI x) (nI r) (nI q) (nI c) (nI d) (mk n1 n2 L xs g i A (up m 23 (nI P.length)) (up B 61 S) J wd o) = k30 51 (nI x) (nI r) (nI q) (nI (c + 1)) (mk n1 n2 L xs g i A (up m 23 (nI (P ++ ((if okc x (fr v col r q c d) then [(r, q, c, d)] else []) ++ enum (fun d => if okc x (fr v col r q c d) then [(r, q, c, d)] else []) (d + 1) d')).length)) (up B 61 S') J' wd o) := by
        rw [if_pos z] at hP
        simp only [List.length_cons, List.length_nil] at hP
        rw [if_pos z]
        unfold f_M_laysFours_p87 f_M_laysFours_p165
        have eS : (512 : Int32) * nI r + 64 * nI q + 8 * nI c + nI d = sd4 (r, q, c, d) := by
          rw [show (512 : Int32) = nI 512 from rfl, show (64 : Int32) = nI 64 from rfl, show (8 : Int32) = nI 8 from rfl, pk_mul, pk_mul, pk_mul, nI_add, nI_add, nI_add]
          rfl
        have H' : mN (up B 61 (upd S P.length (sd4 (r, q, c, d)))) 53 h v s col := H.up (by decide) _
        have eC : (lN (2 ^ (r * v + c)) ||| lN (2 ^ (r * v + d)) ||| lN (2 ^ (q * v + c)) ||| lN (2 ^ (q * v + d))) = lN (cr4 v (r, q, c, d)) := by
          rw [fb_orL, fb_orL, fb_orL]
          rfl
        obtain ⟨S', J', l', e'⟩ := ih n (d + 1) (P ++ [(r, q, c, d)]) (upd S P.length (sd4 (r, q, c, d))) (vp_updL J P.length (lN (cr4 v (r, q, c, d)))) (by omega) (by omega) (laid_push hl (r, q, c, d)) (by simp; omega)
        rw [← List.append_assoc]
        refine ⟨S', J', l', ?_⟩
        rw [← e', rd51_21, Option.bind_some, rd51_23, Option.bind_some, up_s, eS, w_si ar61 (by omega) (by decide) (by decide), Option.bind_some, up_s, st61, up_up, rd51_22, Option.bind_some, rd51_23, Option.bind_some, up_s]
        rw [M_cellBit H' O (by omega) hc, Option.bind_some, M_cellBit H' O (by omega) hdv, Option.bind_some, M_cellBit H' O hq hc, Option.bind_some, M_cellBit H' O hq hdv, Option.bind_some]
        simp only []
        rw [eC, w_sj ar62 (by omega) (by decide) (by decide), Option.bind_some, st62, rd51_23, Option.bind_some, wr51_23, Option.bind_some, up_s, up_up, nI_1, nI_1]
        simp only [List.length_append, List.length_cons, List.length_nil]
      have hf0 : fr v col r q c d ≠ 0 := by
        unfold okc at z
        simp only [Bool.and_eq_true, decide_eq_true_eq] at z
        exact z.1
      obtain ⟨S', J', l', e'⟩ := key
      refine ⟨S', J', l', ?_⟩
      rw [if_neg (nI_ne0 (by omega) (by omega)), ← e']
      by_cases z2 : x = 0
      · rw [if_pos (by rw [z2]; rfl)]
      · rw [if_neg (nI_ne0 (by omega) (by omega)), if_pos (by rw [(okc_x z2 _).mp z])]
    · rw [if_neg z] at hP
      simp only [List.length_nil] at hP
      obtain ⟨S', J', l', e'⟩ := ih n (d + 1) P S J (by omega) (by omega) hl (by omega)
      rw [if_neg z, List.nil_append]
      refine ⟨S', J', l', ?_⟩
      rw [← e']
      unfold f_M_laysFours_p165
      rw [nI_1]
      by_cases z1 : fr v col r q c d = 0
      · rw [if_pos (by rw [z1]; rfl)]
      · rw [if_neg (nI_ne0 (by omega) (by omega))]
        have z2 : x ≠ 0 := by
          intro hx0
          subst hx0
          exact z ((okc_0 _).mpr z1)
        have z3 : fr v col r q c d ≠ x := fun hh => z ((okc_x z2 _).mpr hh)
        rw [if_neg (nI_ne0 (by omega) (by omega)), if_neg (by rw [nI_eq (by omega) (by omega)]; exact z3)]
theorem four_c (H : mN B 53 h v s col) (O : gok h v s col) {x r q : Nat} (hx : x < 5) (hr : r < q) (hq : q < h)
    (k7 : Nat → Int32 → Int32 → am_W → Option (am_W × Unit)) (k19 : Nat → Int32 → Int32 → Int32 → am_W → Option (am_W × Unit)) :
    ∀ d' n c P S J, c + d' = v → d' < n → laid v P S J → P.length + (enum (blC v col x r q) c d').length ≤ 784 → ∃ S' J', laid v (P ++ enum (blC v col x r q) c d') S' J' ∧
      f_M_laysFours_p30 k7 k19 n 51 (nI x) (nI r) (nI q) (nI c) (mk n1 n2 L xs g i A (up m 23 (nI P.length)) (up B 61 S) J wd o) = k19 51 (nI x) (nI r) (nI (q + 1)) (mk n1 n2 L xs g i A (up m 23 (nI (P ++ enum (blC v col x r q) c d').length)) (up B 61 S') J' wd o) := by
  have hv8 := O.2.1
  intro d'
  induction d' with
  | zero =>
    intro n c P S J hd hn hl hP
    obtain ⟨n, rfl⟩ : ∃ m, n = m + 1 := ⟨n - 1, by omega⟩
    refine ⟨S, J, by rw [enum, List.append_nil]; exact hl, ?_⟩
    rw [f_M_laysFours_p30, M_broad (H.up (by decide) S), Option.bind_some, if_pos (nI_le (by omega) (by omega)), nI_1, enum, List.append_nil]
  | succ d' ih =>
    intro n c P S J hd hn hl hP
    obtain ⟨n, rfl⟩ : ∃ m, n = m + 1 := ⟨n - 1, by omega⟩
    have hcv : c < v := by omega
    rw [enum, List.length_append] at hP
    rw [f_M_laysFours_p30, M_broad (H.up (by decide) S), Option.bind_some, if_neg (nI_ge hcv (by omega)), nI_1, enum]
    obtain ⟨S1, J1, l1, e1⟩ := four_in (n1 := n1) (n2 := n2) (L := L) (xs := xs) (g := g) (i := i) (A := A) (m := m) (wd := wd) (o := o) H O hx hr hq hcv k7 k19 (f_M_laysFours_p30 k7 k19 n) (v - (c + 1)) am_N (c + 1) P S J (by omega) (by unfold am_N; omega) hl (by unfold blC at hP; omega)
    obtain ⟨S2, J2, l2, e2⟩ := ih n (c + 1) (P ++ blC v col x r q c) S1 J1 (by omega) (by omega) l1 (by rw [List.length_append]; omega)
    rw [← List.append_assoc]
    refine ⟨S2, J2, l2, ?_⟩
    rw [e1]
    exact e2
theorem four_q (H : mN B 53 h v s col) (O : gok h v s col) {x r : Nat} (hx : x < 5) (k7 : Nat → Int32 → Int32 → am_W → Option (am_W × Unit)) :
    ∀ d' n q P S J, q + d' = h → r < q → d' < n → laid v P S J → P.length + (enum (blk v col x r) q d').length ≤ 784 → ∃ S' J', laid v (P ++ enum (blk v col x r) q d') S' J' ∧
      f_M_laysFours_p19 k7 n 51 (nI x) (nI r) (nI q) (mk n1 n2 L xs g i A (up m 23 (nI P.length)) (up B 61 S) J wd o) = k7 51 (nI x) (nI (r + 1)) (mk n1 n2 L xs g i A (up m 23 (nI (P ++ enum (blk v col x r) q d').length)) (up B 61 S') J' wd o) := by
  have h8 := O.1
  have hv8 := O.2.1
  intro d'
  induction d' with
  | zero =>
    intro n q P S J hd hrq hn hl hP
    obtain ⟨n, rfl⟩ : ∃ m, n = m + 1 := ⟨n - 1, by omega⟩
    refine ⟨S, J, by rw [enum, List.append_nil]; exact hl, ?_⟩
    rw [f_M_laysFours_p19, M_high (H.up (by decide) S), Option.bind_some, if_pos (nI_le (by omega) (by omega)), nI_1, enum, List.append_nil]
  | succ d' ih =>
    intro n q P S J hd hrq hn hl hP
    obtain ⟨n, rfl⟩ : ∃ m, n = m + 1 := ⟨n - 1, by omega⟩
    have hqh : q < h := by omega
    rw [enum, List.length_append] at hP
    rw [f_M_laysFours_p19, M_high (H.up (by decide) S), Option.bind_some, if_neg (nI_ge hqh (by omega)), enum]
    obtain ⟨S1, J1, l1, e1⟩ := four_c (n1 := n1) (n2 := n2) (L := L) (xs := xs) (g := g) (i := i) (A := A) (m := m) (wd := wd) (o := o) H O hx hrq hqh k7 (f_M_laysFours_p19 k7 n) v am_N 0 P S J (by omega) (by unfold am_N; omega) hl (by unfold blk at hP; omega)
    obtain ⟨S2, J2, l2, e2⟩ := ih n (q + 1) (P ++ blk v col x r q) S1 J1 (by omega) (by omega) (by omega) l1 (by rw [List.length_append]; omega)
    rw [← List.append_assoc]
    refine ⟨S2, J2, l2, ?_⟩
    rw [show (0 : Int32) = nI 0 from rfl, e1]
    exact e2
theorem four_r (H : mN B 53 h v s col) (O : gok h v s col) {x : Nat} (hx : x < 5) :
    ∀ d' n r P S J, r + d' = h → d' < n → laid v P S J → P.length + (enum (rcR h v col x) r d').length ≤ 784 → ∃ S' J', laid v (P ++ enum (rcR h v col x) r d') S' J' ∧
      f_M_laysFours_p7 n 51 (nI x) (nI r) (mk n1 n2 L xs g i A (up m 23 (nI P.length)) (up B 61 S) J wd o) = some (mk n1 n2 L xs g i A (up m 23 (nI (P ++ enum (rcR h v col x) r d').length)) (up B 61 S') J' wd o, ()) := by
  have h8 := O.1
  intro d'
  induction d' with
  | zero =>
    intro n r P S J hd hn hl hP
    obtain ⟨n, rfl⟩ : ∃ m, n = m + 1 := ⟨n - 1, by omega⟩
    refine ⟨S, J, by rw [enum, List.append_nil]; exact hl, ?_⟩
    rw [f_M_laysFours_p7, M_high (H.up (by decide) S), Option.bind_some, if_pos (nI_le (by omega) (by omega)), enum, List.append_nil]
  | succ d' ih =>
    intro n r P S J hd hn hl hP
    obtain ⟨n, rfl⟩ : ∃ m, n = m + 1 := ⟨n - 1, by omega⟩
    have hrh : r < h := by omega
    rw [enum, List.length_append] at hP
    rw [f_M_laysFours_p7, M_high (H.up (by decide) S), Option.bind_some, if_neg (nI_ge hrh (by omega)), nI_1, enum]
    obtain ⟨S1, J1, l1, e1⟩ := four_q (n1 := n1) (n2 := n2) (L := L) (xs := xs) (g := g) (i := i) (A := A) (m := m) (wd := wd) (o := o) H O (r := r) hx (f_M_laysFours_p7 n) (h - (r + 1)) am_N (r + 1) P S J (by omega) (by omega) (by unfold am_N; omega) hl (by unfold rcR at hP; omega)
    obtain ⟨S2, J2, l2, e2⟩ := ih n (r + 1) (P ++ rcR h v col x r) S1 J1 (by omega) (by omega) l1 (by rw [List.length_append]; omega)
    rw [← List.append_assoc]
    refine ⟨S2, J2, l2, ?_⟩
    rw [e1]
    exact e2
theorem M_laysFours (H : mN B 53 h v s col) (O : gok h v s col) {x : Nat} (hx : x < 5) : ∃ S' J', laid v (rcs h v col x) S' J' ∧
      f_M_laysFours 51 (nI x) (mk n1 n2 L xs g i A m B J wd o) = some (mk n1 n2 L xs g i A (up m 23 (nI (rcs h v col x).length)) (up B 61 S') J' wd o, ()) := by
  have h8 := O.1
  obtain ⟨S', J', l, e⟩ := four_r (n1 := n1) (n2 := n2) (L := L) (xs := xs) (g := g) (i := i) (A := A) (m := m) (wd := wd) (o := o) H O hx h am_N 0 [] (B 61) J (by omega) (by unfold am_N; omega) (laid_nil v _ _) (by have := rcs_le h v col x O.1 O.2.1; unfold rcs at this; simpa using this)
  refine ⟨S', J', l, ?_⟩
  unfold f_M_laysFours e_M_laysFours
  rw [sf51, wr51_23, Option.bind_some]
  rw [up_id] at e
  exact e
end MDC
