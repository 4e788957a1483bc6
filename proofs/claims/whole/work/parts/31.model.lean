/-! THE MODEL'S ROWS -/
def enc (h v s : Nat) (col : Nat → Nat) : Nat → Int32
  | 0 => nI h
  | 1 => nI v
  | 2 => nI s
  | k + 3 => nI (col k)
def mgr (w : am_W) (a h v s : Nat) (col : Nat → Nat) : Prop := ∃ f, am_ar w a = some (0, 67, .inl f) ∧ ∀ j, j < 67 → f j = enc h v s col j
section MDA
variable {w : am_W} {a h v s : Nat} {col : Nat → Nat}
theorem mgr.at (H : mgr w a h v s col) {j : Nat} (hj : j < 67) : am_ai w a (nI j) = some (enc h v s col j) := by
  obtain ⟨f, h1, h2⟩ := H
  rw [r_ai h1 hj (by decide), h2 j hj]
theorem mgr.hi (H : mgr w a h v s col) : am_ai w a 0 = some (nI h) := H.at (j := 0) (by decide)
theorem mgr.wi (H : mgr w a h v s col) : am_ai w a 1 = some (nI v) := H.at (j := 1) (by decide)
theorem mgr.sh (H : mgr w a h v s col) : am_ai w a 2 = some (nI s) := H.at (j := 2) (by decide)
theorem mgr.cl (H : mgr w a h v s col) {k : Nat} (hk : k < 64) : am_ai w a (3 + nI k) = some (nI (col k)) := by
  have e : (3 : Int32) + nI k = nI (k + 3) := by
    rw [show (3 : Int32) = nI 3 from rfl, nI_add, Nat.add_comm]
  rw [e, H.at (by omega)]
  rfl
theorem M_colourAt (H : mgr w a h v s col) (O : gok h v s col) {r c : Nat} (hr : r < h) (hc : c < v) : f_M_colourAt a (nI r) (nI c) w = some (w, nI (col (r * v + c))) := by
  have hl := row_lt hr hc
  have h64 := O.hv
  unfold f_M_colourAt e_M_colourAt
  have e : (3 : Int32) + nI v * nI r + nI c = 3 + nI (r * v + c) := by
    rw [pk_mul, Int32.add_assoc, nI_add, Nat.mul_comm]
  rw [H.wi, Option.bind_some, e, H.cl (by omega), Option.bind_some]
theorem M_four (H : mgr w a h v s col) (O : gok h v s col) {r q c d : Nat} (hr : r < h) (hq : q < h) (hc : c < v) (hd : d < v) : f_M_four a (nI r) (nI q) (nI c) (nI d) w = some (w, nI (fr v col r q c d)) := by
  have h4 := O.2.2.1
  have o1 := O.2.2.2.2.2 _ (row_lt hr hc)
  have o2 := O.2.2.2.2.2 _ (row_lt hr hd)
  have o3 := O.2.2.2.2.2 _ (row_lt hq hc)
  have o4 := O.2.2.2.2.2 _ (row_lt hq hd)
  unfold f_M_four e_M_four f_M_four_p48 f_M_four_p49
  rw [M_colourAt H O hr hc, Option.bind_some, M_colourAt H O hr hd, Option.bind_some]
  simp only []
  unfold fr
  by_cases z1 : col (r * v + c) = col (r * v + d)
  · rw [if_neg (by rw [z1]; simp), M_colourAt H O hq hc, Option.bind_some]
    simp only []
    by_cases z2 : col (r * v + c) = col (q * v + c)
    · rw [if_neg (by rw [z2]; simp), M_colourAt H O hq hd, Option.bind_some]
      simp only []
      by_cases z3 : col (r * v + c) = col (q * v + d)
      · rw [if_neg (by rw [z3]; simp), if_pos ⟨z1, z2, z3⟩]
      · rw [if_pos (by rw [nI_eq (by omega) (by omega)]; exact z3), if_neg (fun z => z3 z.2.2)]
        rfl
    · rw [if_pos (by rw [nI_eq (by omega) (by omega)]; exact z2), if_neg (fun z => z2 z.2.1)]
      rfl
  · rw [if_pos (by rw [nI_eq (by omega) (by omega)]; exact z1), if_neg (fun z => z1 z.1)]
    rfl
def thP (v : Nat) (col : Nat → Nat) (k q d : Nat) : Bool := decide (q ≠ k / v) && (decide (d ≠ k % v) && decide (fr v col (k / v) q (k % v) d ≠ 0))
theorem thr_in (H : mgr w a h v s col) (O : gok h v s col) {k q : Nat} (hk : k < h * v) (hq : q < h) (k18 : Nat → Int32 → Int32 → Int32 → Int32 → am_W → Option (am_W × Int32)) (T : Nat) :
    ∀ m n d, d + m = v → m < n → f_M_through_1_p29 k18 n a (nI (k / v)) (nI (k % v)) (nI (T + fb_ct (thP v col k q) d)) (nI q) (nI d) w = k18 a (nI (k / v)) (nI (k % v)) (nI (T + fb_ct (thP v col k q) v)) (nI (q + 1)) w := by
  have h8 := O.1
  have hv8 := O.2.1
  have h4 := O.2.2.1
  have hv0 : 0 < v := by
    rcases Nat.eq_zero_or_pos v with z | z
    · rw [z, Nat.mul_zero] at hk; omega
    · exact z
  have hr : k / v < h := Nat.div_lt_of_lt_mul (by rw [Nat.mul_comm]; exact hk)
  have hm : k % v < v := Nat.mod_lt _ hv0
  intro m
  induction m with
  | zero =>
    intro n d hd hn
    obtain ⟨n, rfl⟩ : ∃ m, n = m + 1 := ⟨n - 1, by omega⟩
    rw [f_M_through_1_p29, H.wi, Option.bind_some, if_pos (nI_le (by omega) (by omega)), nI_1, show d = v by omega]
  | succ m ih =>
    intro n d hd hn
    obtain ⟨n, rfl⟩ : ∃ m, n = m + 1 := ⟨n - 1, by omega⟩
    have hdv : d < v := by omega
    rw [f_M_through_1_p29, H.wi, Option.bind_some, if_neg (nI_ge hdv (by omega))]
    unfold f_M_through_1_p65
    have hs := fb_ct_succ (thP v col k q) d
    by_cases z1 : q = k / v
    · rw [if_pos (by rw [z1]), nI_1]
      have e : thP v col k q d = false := by unfold thP; simp [z1]
      rw [e] at hs
      simp only [Bool.false_eq_true, if_false, Nat.add_zero] at hs
      rw [← hs]
      exact ih n (d + 1) (by omega) (by omega)
    · rw [if_neg (by rw [nI_eq (by omega) (by omega)]; exact z1)]
      by_cases z2 : d = k % v
      · rw [if_pos (by rw [z2]), nI_1]
        have e : thP v col k q d = false := by unfold thP; simp [z2]
        rw [e] at hs
        simp only [Bool.false_eq_true, if_false, Nat.add_zero] at hs
        rw [← hs]
        exact ih n (d + 1) (by omega) (by omega)
      · have hf := fr_le O (r := k / v) (q := q) (c := k % v) (d := d) hr hm
        rw [if_neg (by rw [nI_eq (by omega) (by omega)]; exact z2), M_four H O hr hq hm hdv, Option.bind_some]
        simp only []
        by_cases z3 : fr v col (k / v) q (k % v) d = 0
        · rw [if_pos (by rw [z3]; rfl), nI_1]
          have e : thP v col k q d = false := by unfold thP; simp [z3]
          rw [e] at hs
          simp only [Bool.false_eq_true, if_false, Nat.add_zero] at hs
          rw [← hs]
          exact ih n (d + 1) (by omega) (by omega)
        · rw [if_neg (nI_ne0 (by omega) (by omega)), nI_1, nI_1]
          have e : thP v col k q d = true := by unfold thP; simp [z1, z2, z3]
          rw [e] at hs
          simp only [if_true] at hs
          rw [show T + fb_ct (thP v col k q) d + 1 = T + fb_ct (thP v col k q) (d + 1) by omega]
          exact ih n (d + 1) (by omega) (by omega)
theorem thr_out (H : mgr w a h v s col) (O : gok h v s col) {k : Nat} (hk : k < h * v) :
    ∀ m n q, q + m = h → m < n → f_M_through_1_p18 n a (nI (k / v)) (nI (k % v)) (nI (fb_sm (fun q => fb_ct (thP v col k q) v) q)) (nI q) w = some (w, nI (fb_sm (fun q => fb_ct (thP v col k q) v) h)) := by
  have h8 := O.1
  have hv8 := O.2.1
  intro m
  induction m with
  | zero =>
    intro n q hd hn
    obtain ⟨n, rfl⟩ : ∃ m, n = m + 1 := ⟨n - 1, by omega⟩
    rw [f_M_through_1_p18, H.hi, Option.bind_some, if_pos (nI_le (by omega) (by omega)), show q = h by omega]
  | succ m ih =>
    intro n q hd hn
    obtain ⟨n, rfl⟩ : ∃ m, n = m + 1 := ⟨n - 1, by omega⟩
    have hq : q < h := by omega
    rw [f_M_through_1_p18, H.hi, Option.bind_some, if_neg (nI_ge hq (by omega))]
    have e := thr_in H O hk hq (f_M_through_1_p18 n) (fb_sm (fun q => fb_ct (thP v col k q) v) q) v am_N 0 (by omega) (by unfold am_N; omega)
    rw [show fb_ct (thP v col k q) 0 = 0 from rfl, Nat.add_zero] at e
    rw [show (0 : Int32) = nI 0 from rfl, e]
    exact ih n (q + 1) (by omega) (by omega)
theorem th_cth {h v : Nat} {col : Nat → Nat} {k : Nat} (hk : k < h * v) : fb_sm (fun q => fb_ct (thP v col k q) v) h = cth h v col k (col k) := by
  have hkk : k / v * v + k % v = k := by
    have := Nat.div_add_mod k v
    rw [Nat.mul_comm] at this
    exact this
  unfold cth
  split
  · next z =>
    have : ∀ q, fb_ct (thP v col k q) v = 0 := by
      intro q
      rw [fb_ct_zero]
      intro d _
      unfold thP
      have : fr v col (k / v) q (k % v) d = 0 := by
        unfold fr
        rw [hkk, z]
        split <;> rfl
      simp [this]
    have e : (fun q => fb_ct (thP v col k q) v) = fun _ => 0 := funext this
    rw [e, fb_sm_z]
  · next z =>
    refine fb_sm_cong (fun q _ => ?_)
    unfold cthR
    have hfr : ∀ d, fr v col (k / v) q (k % v) d ≠ 0 ↔ (col (k / v * v + d) = col k ∧ col (q * v + k % v) = col k ∧ col (q * v + d) = col k) := by
      intro d
      constructor
      · intro hh
        have h1 := (fr_iff v col (k / v) q (k % v) d hh).mp rfl
        rw [hkk] at h1
        exact ⟨by omega, by omega, by omega⟩
      · rintro ⟨y1, y2, y3⟩
        rw [(fr_iff v col (k / v) q (k % v) d z).mpr ⟨by rw [hkk], y1, y2, y3⟩]
        exact z
    split
    · next z2 =>
      refine fb_ct_cong (fun d _ => ?_)
      unfold thP
      rw [Bool.eq_iff_iff]
      simp only [Bool.and_eq_true, decide_eq_true_eq, hfr]
      constructor
      · rintro ⟨-, y1, y2, -, y3⟩; exact ⟨y1, y2, y3⟩
      · rintro ⟨y1, y2, y3⟩; exact ⟨z2.1, y1, y2, z2.2, y3⟩
    · next z2 =>
      rw [fb_ct_zero]
      intro d _
      rw [← Bool.not_eq_true]
      unfold thP
      simp only [Bool.and_eq_true, decide_eq_true_eq, hfr]
      rintro ⟨y0, -, -, y2, -⟩
      exact z2 ⟨y0, y2⟩
theorem M_through1 (H : mgr w a h v s col) (O : gok h v s col) {k : Nat} (hk : k < h * v) : f_M_through_1 a (nI k) w = some (w, nI (cth h v col k (col k))) := by
  have h8 := O.1
  have hv8 := O.2.1
  have hk64 : k < 64 := Nat.lt_of_lt_of_le hk O.hv
  have hv0 : 0 < v := by
    rcases Nat.eq_zero_or_pos v with z | z
    · rw [z, Nat.mul_zero] at hk; omega
    · exact z
  unfold f_M_through_1 e_M_through_1
  have hmm : k - k / v * v = k % v := by
    have := Nat.div_add_mod k v
    rw [Nat.mul_comm] at this
    omega
  rw [H.wi, Option.bind_some, if_neg (nI_ne0 hv0 (by omega)), Option.bind_some, if_neg (nI_ne0 hv0 (by omega)), pk_div (by omega) hv0 (by omega), pk_mul, pk_sub (Nat.div_mul_le_self k v), hmm, ← th_cth hk]
  exact thr_out H O hk h am_N 0 (by omega) (by unfold am_N; omega)
theorem blanks_loop (H : mgr w a h v s col) (O : gok h v s col) :
    ∀ m n k, k + m = h * v → m < n → f_M_blanks_p4 n a (nI (fb_ct (fun k => decide (col k = 0)) k)) (nI k) w = some (w, nI (fb_ct (fun k => decide (col k = 0)) (h * v))) := by
  have h64 := O.hv
  have h4 := O.2.2.1
  intro m
  induction m with
  | zero =>
    intro n k hd hn
    obtain ⟨n, rfl⟩ : ∃ m, n = m + 1 := ⟨n - 1, by omega⟩
    rw [f_M_blanks_p4, H.hi, Option.bind_some, H.wi, Option.bind_some, pk_mul, if_pos (nI_le (by omega) (by omega)), show k = h * v by omega]
  | succ m ih =>
    intro n k hd hn
    obtain ⟨n, rfl⟩ : ∃ m, n = m + 1 := ⟨n - 1, by omega⟩
    have hk : k < h * v := by omega
    have ho := O.2.2.2.2.2 k hk
    rw [f_M_blanks_p4, H.hi, Option.bind_some, H.wi, Option.bind_some, pk_mul, if_neg (nI_ge hk (by omega)), H.cl (by omega), Option.bind_some]
    unfold f_M_blanks_p26
    have hs := fb_ct_succ (fun k => decide (col k = 0)) k
    by_cases z : col k = 0
    · rw [if_neg (by rw [z]; decide), nI_1, nI_1]
      simp only [z, decide_true, if_true] at hs
      rw [← hs]
      exact ih n (k + 1) (by omega) (by omega)
    · rw [if_pos (nI_ne0 (by omega) (by omega)), nI_1]
      simp only [z, decide_false, Bool.false_eq_true, if_false, Nat.add_zero] at hs
      rw [← hs]
      exact ih n (k + 1) (by omega) (by omega)
end MDA
section MDB
theorem ar_st {w : am_W} {d : Nat} {y : Nat × vp_A} (z : Nat × vp_A) (h : am_ar w d = some y) : am_ar (am_st1 w d (.inl z)) d = some z := by
  have hd : d < w.2.2.length := by
    unfold am_ar at h
    split at h
    · next q => exact (List.getElem?_eq_some_iff.mp q).1
    · cases h
  unfold am_ar am_st1
  simp only [List.getElem?_set_self hd]
theorem ar_ne {w : am_W} {d a : Nat} (e : (Nat × vp_A) ⊕ (Nat × List Value)) (h : d ≠ a) : am_ar (am_st1 w d e) a = am_ar w a := by
  unfold am_ar am_st1
  simp only [List.getElem?_set_ne h]
theorem st_st (w : am_W) (d : Nat) (e e' : (Nat × vp_A) ⊕ (Nat × List Value)) : am_st1 (am_st1 w d e) d e' = am_st1 w d e' := by
  unfold am_st1
  simp only [List.set_set]
theorem st_self {w : am_W} {d : Nat} {y : Nat × vp_A} (h : am_ar w d = some y) : am_st1 w d (.inl y) = w := by
  unfold am_ar at h
  split at h
  · next q =>
    cases h
    unfold am_st1
    refine Prod.ext rfl (Prod.ext rfl ?_)
    show w.2.2.set d _ = w.2.2
    apply List.ext_getElem?
    intro i
    rcases Nat.decEq d i with z | z
    · rw [List.getElem?_set_ne z]
    · subst z; rw [List.getElem?_set_self (List.getElem?_eq_some_iff.mp q).1, q]
  · cases h
theorem copy_lp {w : am_W} {a d N1 N2 o1 o2 : Nat} {f1 f2 : Nat → Int32} (h1 : am_ar w a = some (0, N1, .inl f1)) (h2 : am_ar w d = some (0, N2, .inl f2)) (ne : d ≠ a) (h8 : 8 ≤ d) (b1 : o1 + 67 ≤ N1) (b2 : o2 + 67 ≤ N2) (c1 : N1 < 2 ^ 31) (c2 : N2 < 2 ^ 31) :
    ∀ m n j, j + m = 67 → m < n → f_M_copy_p3 n a (nI o1) d (nI o2) (nI j) (am_st1 w d (.inl (0, N2, .inl (fb_put f2 (fun k => f1 (o1 + k)) o2 j)))) = some (am_st1 w d (.inl (0, N2, .inl (fb_put f2 (fun k => f1 (o1 + k)) o2 67))), ()) := by
  intro m
  induction m with
  | zero =>
    intro n j hj hn
    obtain ⟨n, rfl⟩ : ∃ m, n = m + 1 := ⟨n - 1, by omega⟩
    have e : (67 : Int32) ≤ nI j := nI_le (a := 67) (by omega) (by omega)
    rw [f_M_copy_p3, if_pos e, show j = 67 by omega]
  | succ m ih =>
    intro n j hj hn
    obtain ⟨n, rfl⟩ : ∃ m, n = m + 1 := ⟨n - 1, by omega⟩
    have e : ¬ (67 : Int32) ≤ nI j := nI_ge (b := 67) (by omega) (by decide)
    have h1' : am_ar (am_st1 w d (.inl (0, N2, .inl (fb_put f2 (fun k => f1 (o1 + k)) o2 j)))) a = some (0, N1, .inl f1) := by rw [ar_ne _ ne, h1]
    have h2' := ar_st (0, N2, .inl (fb_put f2 (fun k => f1 (o1 + k)) o2 j)) h2
    rw [f_M_copy_p3, if_neg e, nI_add, r_ai h1' (by omega) c1, Option.bind_some, nI_add, w_si h2' (by omega) c2 h8, Option.bind_some, st_st, nI_1]
    have e2 := fb_put_succ f2 (fun k => f1 (o1 + k)) o2 j
    rw [e2]
    exact ih n (j + 1) (by omega) (by omega)
theorem M_copy {w : am_W} {a d N1 N2 o1 o2 : Nat} {f1 f2 : Nat → Int32} (h1 : am_ar w a = some (0, N1, .inl f1)) (h2 : am_ar w d = some (0, N2, .inl f2)) (ne : d ≠ a) (h8 : 8 ≤ d) (b1 : o1 + 67 ≤ N1) (b2 : o2 + 67 ≤ N2) (c1 : N1 < 2 ^ 31) (c2 : N2 < 2 ^ 31) :
    f_M_copy a (nI o1) d (nI o2) w = some (am_st1 w d (.inl (0, N2, .inl (fb_put f2 (fun k => f1 (o1 + k)) o2 67))), ()) := by
  unfold f_M_copy e_M_copy
  have e := copy_lp h1 h2 ne h8 b1 b2 c1 c2 67 am_N 0 (by omega) (by unfold am_N; omega)
  rw [fb_put_0, st_self h2] at e
  exact e
end MDB
