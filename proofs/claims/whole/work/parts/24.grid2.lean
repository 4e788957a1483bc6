/-! A NEW GRID, LIKE GRIDS, CELLS AND COLOURS EXCHANGED -/
theorem stc_blank (h v c : Nat) : stc h v (fun _ => 0) c = if c = 0 then 2 ^ (h * v) - 1 else 0 := by
  unfold stc
  split
  · next q =>
    subst q
    symm
    refine bs_ext (by have := Nat.two_pow_pos (h * v); omega) (fun k hk => ?_)
    rw [Nat.testBit_two_pow_sub_one]
    simp [hk]
  · next q =>
    rw [bs_zero]
    intro k _
    simp
    omega
section GRE
variable {w : am_W} {g a h v s : Nat} {f : Nat → Int64} {col : Nat → Nat}
theorem start_loop (H : gr w g a h v s f) (h' v' s' : Nat) (hb : h' * v' ≤ 64) :
    ∀ d n i, i + d = 5 → d < n → f_G_start_p18 n g (nI i) (gput w g a h' v' s' (mixL (fun _ => 0) f i)) = some (gput w g a h' v' s' (vp_updL (mixL (fun _ => 0) f 5) 0 (lN (2 ^ (h' * v') - 1))), ()) := by
  intro d
  induction d with
  | zero =>
    intro n i hi hn
    obtain ⟨n, rfl⟩ : ∃ m, n = m + 1 := ⟨n - 1, by omega⟩
    have H' := gput_gr H h' v' s' (mixL (fun _ => 0) f i)
    have h5 : (5 : Int32) ≤ nI i := nI_le (a := 5) (by omega) (by omega)
    rw [f_G_start_p18, H'.rf, Option.bind_some, H'.al, Option.bind_some, if_pos h5, Option.bind_some, G_size H', Option.bind_some]
    have e5 : i = 5 := by omega
    subst e5
    unfold f_G_start_p69
    have e0 : (0 : Int32) = nI 0 := rfl
    rcases Nat.eq_zero_or_pos (h' * v') with q | q
    · simp only [q]
      rw [if_pos (by decide), e0, H'.sj (by decide), Option.bind_some, gput_gput H.ga]
      rfl
    · simp only []
      rw [if_neg (nI_nle q (by omega)), G_size H', Option.bind_some]
      simp only []
      have e64 : (64 : Int32) - nI (h' * v') = nI (64 - h' * v') := pk_sub (a := 64) hb
      rw [e64, lN_m1, am_lu_eq (by decide) (by omega), e0, H'.sj (by decide), Option.bind_some, gput_gput H.ga]
      have e1 : (2 ^ 64 - 1) / 2 ^ (64 - h' * v') = 2 ^ (h' * v') - 1 := by
        apply Nat.eq_of_testBit_eq
        intro k
        rw [Nat.testBit_div_two_pow, Nat.testBit_two_pow_sub_one, Nat.testBit_two_pow_sub_one]
        congr 1
        simp
        omega
      rw [e1]
  | succ d ih =>
    intro n i hi hn
    obtain ⟨n, rfl⟩ : ∃ m, n = m + 1 := ⟨n - 1, by omega⟩
    have hi5 : i < 5 := by omega
    have H' := gput_gr H h' v' s' (mixL (fun _ => 0) f i)
    have h5 : ¬ (5 : Int32) ≤ nI i := nI_ge hi5 (by decide)
    rw [f_G_start_p18, H'.rf, Option.bind_some, H'.al, Option.bind_some, if_neg h5, Option.bind_some, H'.sj hi5, Option.bind_some, gput_gput H.ga, nI_1, mixL_s (fun _ => (0 : Int64))]
    exact ih n (i + 1) (by omega) (by omega)
theorem G_start (H : gr w g a h v s f) (h' v' s' : Nat) (hb : h' * v' ≤ 64) : ∃ f', f_G_start g (nI h') (nI v') (nI s') w = some (gput w g a h' v' s' f', ()) ∧ fs f' h' v' (fun _ => 0) := by
  refine ⟨vp_updL (mixL (fun _ => 0) f 5) 0 (lN (2 ^ (h' * v') - 1)), ?_, fun c hc => ?_⟩
  · unfold f_G_start e_G_start
    have B1 := gput_gr H h' v s f
    have B2 := gput_gr H h' v' s f
    rw [H.self, H.pv1, Option.bind_some, B1.pv2, Option.bind_some, gput_gput H.ga, B2.pv3, Option.bind_some, gput_gput H.ga]
    have h1 := start_loop H h' v' s' hb 5 am_N 0 (by omega) (by unfold am_N; omega)
    rw [mixL_0] at h1
    exact h1
  · rw [stc_blank]
    unfold vp_updL mixL
    split
    · rfl
    · rfl
theorem same_loop (H : gr w g a h v s f) {g2 a2 h2 v2 s2 : Nat} {f2 : Nat → Int64} (H2 : gr w g2 a2 h2 v2 s2 f2) :
    ∀ d n i, i + d = 5 → d < n → ((∀ c, c < 5 → i ≤ c → f c = f2 c) ∧ f_G_isSame_p37 n g g2 (nI i) w = some (w, 1)) ∨ ((¬ ∀ c, c < 5 → f c = f2 c) ∧ f_G_isSame_p37 n g g2 (nI i) w = some (w, 0)) := by
  intro d
  induction d with
  | zero =>
    intro n i hi hn
    obtain ⟨n, rfl⟩ : ∃ m, n = m + 1 := ⟨n - 1, by omega⟩
    have h5 : (5 : Int32) ≤ nI i := nI_le (a := 5) (by omega) (by omega)
    refine Or.inl ⟨fun c h1 h2 => by omega, ?_⟩
    rw [f_G_isSame_p37, H.rf, Option.bind_some, H.al, Option.bind_some, if_pos h5]
  | succ d ih =>
    intro n i hi hn
    obtain ⟨n, rfl⟩ : ∃ m, n = m + 1 := ⟨n - 1, by omega⟩
    have hi5 : i < 5 := by omega
    have h5 : ¬ (5 : Int32) ≤ nI i := nI_ge hi5 (by decide)
    rw [f_G_isSame_p37, H.rf, Option.bind_some, H.al, Option.bind_some, if_neg h5, Option.bind_some, H.aj hi5, Option.bind_some, G_cellsOf H2 hi5, Option.bind_some]
    simp only [lg_cmp_eq]
    by_cases q : f i = f2 i
    · rw [if_pos q, nI_1]
      rcases ih n (i + 1) (by omega) (by omega) with ⟨h1, h2⟩ | ⟨h1, h2⟩
      · refine Or.inl ⟨fun c c1 c2 => ?_, h2⟩
        rcases Nat.lt_or_ge i c with z | z
        · exact h1 c c1 z
        · have : c = i := by omega
          rw [this]; exact q
      · exact Or.inr ⟨h1, h2⟩
    · rw [if_neg q]
      exact Or.inr ⟨fun h => q (h i hi5), rfl⟩
theorem G_isSame (H : gr w g a h v s f) (O : gok h v s col) {g2 a2 h2 v2 s2 : Nat} {f2 : Nat → Int64} {col2 : Nat → Nat} (H2 : gr w g2 a2 h2 v2 s2 f2) (O2 : gok h2 v2 s2 col2) : ((h = h2 ∧ v = v2 ∧ s = s2 ∧ ∀ c, c < 5 → f c = f2 c) ∧ f_G_isSame g g2 w = some (w, 1)) ∨ ((¬ (h = h2 ∧ v = v2 ∧ s = s2 ∧ ∀ c, c < 5 → f c = f2 c)) ∧ f_G_isSame g g2 w = some (w, 0)) := by
  have a1 := O.1
  have a2 := O.2.1
  have a3 := O.2.2.1
  have b1 := O2.1
  have b2 := O2.2.1
  have b3 := O2.2.2.1
  unfold f_G_isSame e_G_isSame f_G_isSame_p33
  rw [H.self, H.hi, Option.bind_some, H2.hi, Option.bind_some]
  by_cases q1 : h = h2
  · rw [if_neg (by rw [q1]; simp), H.wi, Option.bind_some, H2.wi, Option.bind_some]
    by_cases q2 : v = v2
    · rw [if_neg (by rw [q2]; simp), H.sh, Option.bind_some, H2.sh, Option.bind_some]
      by_cases q3 : s = s2
      · rw [if_pos (by rw [q3])]
        rcases same_loop H H2 5 am_N 0 (by omega) (by unfold am_N; omega) with ⟨e1, e2⟩ | ⟨e1, e2⟩
        · exact Or.inl ⟨⟨q1, q2, q3, fun c hc => e1 c hc (Nat.zero_le _)⟩, e2⟩
        · exact Or.inr ⟨fun z => e1 z.2.2.2, e2⟩
      · rw [if_neg (by rw [nI_eq (by omega) (by omega)]; exact q3)]
        exact Or.inr ⟨fun z => q3 z.2.2.1, rfl⟩
    · rw [if_pos (by rw [nI_eq (by omega) (by omega)]; exact q2)]
      exact Or.inr ⟨fun z => q2 z.2.1, rfl⟩
  · rw [if_pos (by rw [nI_eq (by omega) (by omega)]; exact q1)]
    exact Or.inr ⟨fun z => q1 z.1, rfl⟩
theorem fs_same {f2 : Nat → Int64} {col2 : Nat → Nat} (O : gok h v s col) (O2 : gok h v s col2) (F : fs f h v col) (F2 : fs f2 h v col2) (e : ∀ c, c < 5 → f c = f2 c) {k : Nat} (hk : k < h * v) : col k = col2 k := by
  have h1 := O.2.2.2.2.2 k hk
  have h2 := O.2.2.1
  have h3 := e (col k) (by omega)
  rw [F _ (by omega), F2 _ (by omega), lN_e (stc_lt O _) (stc_lt O2 _)] at h3
  have h4 := bs_inj h3 k hk
  exact (by simpa using h4 : col2 k = col k).symm
theorem G_exchange (H : gr w g a h v s f) (F : fs f h v col) (O : gok h v s col) {k j : Nat} (hk : k < h * v) (hj : j < h * v) : ∃ f', f_G_exchange g (nI k) (nI j) w = some (gput w g a h v s f', ()) ∧ fs f' h v (updN (updN col k (col j)) j (col k)) := by
  obtain ⟨f1, h1, F1⟩ := G_put H F O hk (O.2.2.2.2.2 j hj)
  have H1 := gput_gr H h v s f1
  have O1 := updN_ok O k (O.2.2.2.2.2 j hj)
  obtain ⟨f2, h2, F2⟩ := G_put H1 F1 O1 hj (O.2.2.2.2.2 k hk)
  refine ⟨f2, ?_, F2⟩
  unfold f_G_exchange e_G_exchange
  rw [H.self, G_colourOf H F O hk, Option.bind_some, G_colourOf H F O hj, Option.bind_some, h1, Option.bind_some, h2, Option.bind_some, gput_gput H.ga]
def swC (col : Nat → Nat) (x y : Nat) : Nat → Nat := fun k => if col k = x then y else if col k = y then x else col k
theorem swC_ok (O : gok h v s col) {x y : Nat} (hx : x ≤ s) (hy : y ≤ s) : gok h v s (swC col x y) := by
  refine ⟨O.1, O.2.1, O.2.2.1, O.2.2.2.1, O.2.2.2.2.1, fun j hj => ?_⟩
  unfold swC
  split
  · exact hy
  · split
    · exact hx
    · exact O.2.2.2.2.2 j hj
theorem swC_iff1 {x y : Nat} (h : y ≠ x) (k : Nat) : col k = x ↔ swC col x y k = y := by
  unfold swC
  split
  · next z => simp [z]
  · next z =>
    split
    · next z2 => constructor
                 · intro q; exact absurd q z
                 · intro q; exact absurd q.symm h
    · next z2 => constructor
                 · intro q; exact absurd q z
                 · intro q; exact absurd q z2
theorem swC_iff2 {x y : Nat} (k : Nat) : col k = y ↔ swC col x y k = x := by
  unfold swC
  split
  · next z => constructor
              · intro q; rw [← z, q]
              · intro q; rw [z, q]
  · next z =>
    split
    · next z2 => simp [z2]
    · next z2 => constructor
                 · intro q; exact absurd q z2
                 · intro q; exact absurd q z
theorem swC_iff3 {x y c : Nat} (h1 : ¬ c = x) (h2 : ¬ c = y) (k : Nat) : col k = c ↔ swC col x y k = c := by
  unfold swC
  split
  · next z => constructor
              · intro q; exact absurd (q.symm.trans z) h1
              · intro q; exact absurd q.symm h2
  · split
    · next z2 => constructor
                 · intro q; exact absurd (q.symm.trans z2) h2
                 · intro q; exact absurd q.symm h1
    · exact Iff.rfl
theorem G_exchangeColours (H : gr w g a h v s f) (F : fs f h v col) {x y : Nat} (hx : x < 5) (hy : y < 5) (q0 : x ≠ y) : ∃ f', f_G_exchangeColours g (nI x) (nI y) w = some (gput w g a h v s f', ()) ∧ fs f' h v (swC col x y) := by
  refine ⟨vp_updL (vp_updL f x (f y)) y (f x), ?_, fun c hc => ?_⟩
  · unfold f_G_exchangeColours e_G_exchangeColours f_G_exchangeColours_p52
    have h1 : ¬ (5 : Int32) ≤ nI x := nI_ge hx (by decide)
    have h2 : ¬ (5 : Int32) ≤ nI y := nI_ge hy (by decide)
    have H1 := gput_gr H h v s (vp_updL f x (f y))
    rw [H.self, if_neg (nI_pos (by omega)), H.rf, Option.bind_some, H.al, Option.bind_some, if_neg h1, if_neg (nI_pos (by omega)), Option.bind_some, H.al, Option.bind_some, if_neg h2]
    simp only [Option.bind_some, H.aj hx, H.aj hy, H.sj hx]
    rw [H1.rf, Option.bind_some, H1.sj hy, Option.bind_some, gput_gput H.ga]
  · unfold vp_updL
    by_cases q1 : c = y
    · rw [if_pos q1, F x hx]
      congr 1
      unfold stc
      refine bs_cong (fun k _ => ?_)
      subst q1
      exact decide_eq_decide.mpr (swC_iff1 (Ne.symm q0) k)
    · rw [if_neg q1]
      by_cases q2 : c = x
      · rw [if_pos q2, F y hy]
        congr 1
        unfold stc
        refine bs_cong (fun k _ => ?_)
        subst q2
        exact decide_eq_decide.mpr (swC_iff2 k)
      · rw [if_neg q2, F c hc]
        congr 1
        unfold stc
        refine bs_cong (fun k _ => ?_)
        exact decide_eq_decide.mpr (swC_iff3 q2 q1 k)
end GRE
/-! COUNTS -/
def pr (n : Nat) : Nat := n * (n - 1) / 2
theorem C_pairsOf {n : Nat} (hn : n < 30000) (w : am_W) : f_C_pairsOf (nI n) w = some (w, nI (pr n)) := by
  unfold f_C_pairsOf e_C_pairsOf pr
  rw [if_neg (by decide)]
  refine congrArg some (Prod.ext rfl ?_)
  show nI n * (nI n - 1) / 2 = _
  rcases Nat.eq_zero_or_pos n with q | q
  · subst q; rfl
  · have h1 : nI n - 1 = nI (n - 1) := pk_sub (b := 1) q
    have h2 : n * (n - 1) ≤ 30000 * 30000 := Nat.mul_le_mul (by omega) (by omega)
    rw [h1, pk_mul]
    exact pk_div (d := 2) (by omega) (by decide) (by decide)
theorem pr_le {n : Nat} (hn : n ≤ 8) : pr n ≤ 28 := by
  have : ∀ n : Fin 9, pr n.val ≤ 28 := by decide
  exact this ⟨n, by omega⟩
def rowP (v : Nat) (col : Nat → Nat) (c r q : Nat) : Nat := pr (fb_ct (fun d => decide (col (r * v + d) = c) && decide (col (q * v + d) = c)) v)
def cofR (h v : Nat) (col : Nat → Nat) (c r : Nat) : Nat := fb_sm (fun j => rowP v col c r (r + 1 + j)) (h - (r + 1))
def cof (h v : Nat) (col : Nat → Nat) (c : Nat) : Nat := fb_sm (cofR h v col c) h
section GRF
variable {w : am_W} {g a h v s : Nat} {f : Nat → Int64} {col : Nat → Nat}
theorem cof_in (H : gr w g a h v s f) (O : gok h v s col) {c r : Nat} (hr : r < h) (k12 : Nat → Int64 → Int32 → Int32 → am_W → Option (am_W × Int32)) (A : Nat) :
    ∀ d n j, j + d = h - (r + 1) → d < n → f_G_countOf_p36 k12 n g (lN (stc h v col c)) (nI (A + fb_sm (fun j => rowP v col c r (r + 1 + j)) j)) (nI r) (nI (bs (fun d => decide (col (r * v + d) = c)) v)) (nI (r + 1 + j)) w = k12 g (lN (stc h v col c)) (nI (A + cofR h v col c r)) (nI (r + 1)) w := by
  have h8 := O.1
  have hv8 := O.2.1
  intro d
  induction d with
  | zero =>
    intro n j hj hn
    obtain ⟨n, rfl⟩ : ∃ m, n = m + 1 := ⟨n - 1, by omega⟩
    rw [f_G_countOf_p36, H.hi, Option.bind_some, if_pos (nI_le (by omega) (by omega)), nI_1, show j = h - (r + 1) by omega]
    rfl
  | succ d ih =>
    intro n j hj hn
    obtain ⟨n, rfl⟩ : ∃ m, n = m + 1 := ⟨n - 1, by omega⟩
    have hq : r + 1 + j < h := by omega
    rw [f_G_countOf_p36, H.hi, Option.bind_some, if_neg (nI_ge hq (by omega))]
    unfold stc
    rw [G_cols H O (fun k => decide (col k = c)) hq, Option.bind_some]
    simp only [fa_and, bs_and]
    have hct := fb_ct_le (fun k => decide (col (r * v + k) = c) && decide (col ((r + 1 + j) * v + k) = c)) v
    rw [I_ct _ hv8, Option.bind_some, C_pairsOf (by omega), Option.bind_some, nI_1, nI_add, Nat.add_assoc A]
    have e : fb_sm (fun j => rowP v col c r (r + 1 + j)) j + pr (fb_ct (fun k => decide (col (r * v + k) = c) && decide (col ((r + 1 + j) * v + k) = c)) v) = fb_sm (fun j => rowP v col c r (r + 1 + j)) (j + 1) := by
      rw [fb_sm_succ]; rfl
    rw [e, show r + 1 + j + 1 = r + 1 + (j + 1) by omega]
    exact ih n (j + 1) (by omega) (by omega)
theorem cof_out (H : gr w g a h v s f) (O : gok h v s col) {c : Nat} :
    ∀ d n r, r + d = h → d < n → f_G_countOf_p12 n g (lN (stc h v col c)) (nI (fb_sm (cofR h v col c) r)) (nI r) w = some (w, nI (cof h v col c)) := by
  have h8 := O.1
  intro d
  induction d with
  | zero =>
    intro n r hj hn
    obtain ⟨n, rfl⟩ : ∃ m, n = m + 1 := ⟨n - 1, by omega⟩
    rw [f_G_countOf_p12, H.hi, Option.bind_some, if_pos (nI_le (by omega) (by omega)), show r = h by omega]
    rfl
  | succ d ih =>
    intro n r hj hn
    obtain ⟨n, rfl⟩ : ∃ m, n = m + 1 := ⟨n - 1, by omega⟩
    have hr : r < h := by omega
    rw [f_G_countOf_p12, H.hi, Option.bind_some, if_neg (nI_ge hr (by omega))]
    have e1 : f_G_columnsOf g (lN (stc h v col c)) (nI r) w = some (w, nI (bs (fun d => decide (col (r * v + d) = c)) v)) := by
      unfold stc
      rw [G_cols H O (fun k => decide (col k = c)) hr]
    rw [e1, Option.bind_some, nI_1]
    have e2 := cof_in H O (c := c) hr (f_G_countOf_p12 n) (fb_sm (cofR h v col c) r) (h - (r + 1)) am_N 0 (by omega) (by unfold am_N; omega)
    rw [show fb_sm (cofR h v col c) r + fb_sm (fun j => rowP v col c r (r + 1 + j)) 0 = fb_sm (cofR h v col c) r from rfl, Nat.add_zero] at e2
    simp only []
    rw [e2]
    exact ih n (r + 1) (by omega) (by omega)
theorem G_countOf (H : gr w g a h v s f) (F : fs f h v col) (O : gok h v s col) {c : Nat} (hc : c < 5) : f_G_countOf g (nI c) w = some (w, nI (cof h v col c)) := by
  have h8 := O.1
  unfold f_G_countOf e_G_countOf
  rw [H.self, G_cellsOf H hc, Option.bind_some]
  simp only [F c hc]
  exact cof_out H O h am_N 0 (by omega) (by unfold am_N; omega)
theorem call_loop (H : gr w g a h v s f) (F : fs f h v col) (O : gok h v s col) :
    ∀ d n c, c + d = s → d < n → f_G_countAll_p4 n g (nI (fb_sm (fun x => cof h v col (x + 1)) c)) (nI (c + 1)) w = some (w, nI (fb_sm (fun x => cof h v col (x + 1)) s)) := by
  have h4 := O.2.2.1
  intro d
  induction d with
  | zero =>
    intro n c hj hn
    obtain ⟨n, rfl⟩ : ∃ m, n = m + 1 := ⟨n - 1, by omega⟩
    rw [f_G_countAll_p4, H.sh, Option.bind_some, if_pos (nI_lt (by omega) (by omega)), show c = s by omega]
  | succ d ih =>
    intro n c hj hn
    obtain ⟨n, rfl⟩ : ∃ m, n = m + 1 := ⟨n - 1, by omega⟩
    rw [f_G_countAll_p4, H.sh, Option.bind_some, if_neg (nI_nlt (by omega) (by omega)), G_countOf H F O (by omega), Option.bind_some, nI_add, nI_1]
    exact ih n (c + 1) (by omega) (by omega)
theorem G_countAll (H : gr w g a h v s f) (F : fs f h v col) (O : gok h v s col) : f_G_countAll g w = some (w, nI (fb_sm (fun x => cof h v col (x + 1)) s)) := by
  have h4 := O.2.2.1
  unfold f_G_countAll e_G_countAll
  rw [H.self]
  exact call_loop H F O s am_N 0 (by omega) (by unfold am_N; omega)
end GRF
