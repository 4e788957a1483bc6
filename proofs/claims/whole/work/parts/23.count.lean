/-! THROUGH A CELL -/
def cthR (v : Nat) (col : Nat → Nat) (k c : Nat) (r' : Nat) : Nat := if r' ≠ k / v ∧ col (r' * v + k % v) = c then fb_ct (fun d => decide (d ≠ k % v ∧ col (k / v * v + d) = c ∧ col (r' * v + d) = c)) v else 0
def cth (h v : Nat) (col : Nat → Nat) (k c : Nat) : Nat := if c = 0 then 0 else fb_sm (cthR v col k c) h
theorem ct8 (p : Nat → Bool) {v : Nat} (hv : v ≤ 8) : fb_ct (fun k => (bs p v).testBit k) 8 = fb_ct p v := by
  rw [show (8 : Nat) = v + (8 - v) by omega, fb_ct_split]
  have h1 : fb_ct (fun k => (bs p v).testBit (v + k)) (8 - v) = 0 := by
    rw [fb_ct_zero]
    intro k _
    rw [bs_bit]
    simp
    omega
  rw [h1, Nat.add_zero]
  exact ct_bs p v
theorem bs256 (p : Nat → Bool) {v : Nat} (hv : v ≤ 8) : bs p v < 256 := Nat.lt_of_lt_of_le (bs_lt p v) (Nat.pow_le_pow_right (by decide) hv)
theorem I_ct (p : Nat → Bool) {v : Nat} (hv : v ≤ 8) (w : am_W) : f_I_bitCount (nI (bs p v)) w = some (w, nI (fb_ct p v)) := by
  rw [I_bitCount (bs256 p hv), ct8 p hv]
section GRC
variable {w : am_W} {g a h v s : Nat} {f : Nat → Int64} {col : Nat → Nat}
theorem through_loop (H : gr w g a h v s f) (O : gok h v s col) {k c : Nat} (hk : k < h * v) (hb : bs (fun d => decide (d ≠ k % v) && decide (col (k / v * v + d) = c)) v ≠ 0) :
    ∀ d n i, i + d = h → d < n → f_G_countThrough_p65 n g (lN (stc h v col c)) (nI (k / v)) (nI (2 ^ (k % v))) (nI (bs (fun d => decide (d ≠ k % v) && decide (col (k / v * v + d) = c)) v)) (nI (fb_sm (cthR v col k c) i)) (nI i) w = some (w, nI (fb_sm (cthR v col k c) h)) := by
  have h8 := O.1
  have hv8 := O.2.1
  have hk64 : k < 64 := Nat.lt_of_lt_of_le hk O.hv
  have hv0 : 0 < v := by
    rcases Nat.eq_zero_or_pos v with q | q
    · rw [q, Nat.mul_zero] at hk; omega
    · exact q
  have hm : k % v < v := Nat.mod_lt _ hv0
  have hB := bs256 (fun d => decide (d ≠ k % v) && decide (col (k / v * v + d) = c)) hv8
  intro d
  induction d with
  | zero =>
    intro n i hi hn
    obtain ⟨n, rfl⟩ : ∃ m, n = m + 1 := ⟨n - 1, by omega⟩
    rw [f_G_countThrough_p65, if_neg (nI_ne0 (by omega) (by omega)), H.hi, Option.bind_some, if_pos (nI_le (by omega) (by omega)), show i = h by omega]
    rfl
  | succ d ih =>
    intro n i hi hn
    obtain ⟨n, rfl⟩ : ∃ m, n = m + 1 := ⟨n - 1, by omega⟩
    have hih : i < h := by omega
    rw [f_G_countThrough_p65, if_neg (nI_ne0 (by omega) (by omega)), H.hi, Option.bind_some, if_neg (nI_ge hih (by omega))]
    unfold stc
    rw [G_cols H O (fun k => decide (col k = c)) hih, Option.bind_some]
    have hkv : k / v < 64 := Nat.lt_of_le_of_lt (Nat.div_le_self _ _) hk64
    by_cases q1 : i = k / v
    · rw [if_pos (by rw [q1])]
      unfold f_G_countThrough_p116
      have h0 : fb_sm (cthR v col k c) i = fb_sm (cthR v col k c) (i + 1) := by
        rw [fb_sm_succ]
        unfold cthR
        rw [if_neg (by simp [q1])]
        rfl
      rw [nI_1, h0]
      exact ih n (i + 1) (by omega) (by omega)
    · rw [if_neg (by rw [nI_eq (by omega) (by omega)]; exact q1)]
      have hbit : (bs (fun d => decide (col (i * v + d) = c)) v).testBit (k % v) = decide (col (i * v + k % v) = c) := by
        rw [bs_bit]; simp [hm]
      by_cases q2 : col (i * v + k % v) = c
      · rw [if_neg (by rw [fa_bit (by omega), hbit]; simp [q2]), fa_and, bs_and, I_ct _ hv8, Option.bind_some]
        unfold f_G_countThrough_p116
        have h0 : fb_sm (cthR v col k c) i + fb_ct (fun k_1 => decide (col (i * v + k_1) = c) && (decide (k_1 ≠ k % v) && decide (col (k / v * v + k_1) = c))) v = fb_sm (cthR v col k c) (i + 1) := by
          rw [fb_sm_succ]
          congr 1
          unfold cthR
          rw [if_pos ⟨q1, q2⟩]
          refine fb_ct_cong (fun d _ => ?_)
          by_cases z1 : d = k % v <;> by_cases z2 : col (k / v * v + d) = c <;> by_cases z3 : col (i * v + d) = c <;> simp [z1, z2, z3]
        rw [nI_1, nI_add, h0]
        exact ih n (i + 1) (by omega) (by omega)
      · rw [if_pos (by rw [fa_bit (by omega), hbit]; simp [q2])]
        unfold f_G_countThrough_p116
        have h0 : fb_sm (cthR v col k c) i = fb_sm (cthR v col k c) (i + 1) := by
          rw [fb_sm_succ]
          unfold cthR
          rw [if_neg (by simp [q2])]
          rfl
        rw [nI_1, h0]
        exact ih n (i + 1) (by omega) (by omega)
theorem G_countThrough (H : gr w g a h v s f) (F : fs f h v col) (O : gok h v s col) {k c : Nat} (hk : k < h * v) (hc : c < 5) : f_G_countThrough g (nI k) (nI c) w = some (w, nI (cth h v col k c)) := by
  have h8 := O.1
  have hv8 := O.2.1
  have hk64 : k < 64 := Nat.lt_of_lt_of_le hk O.hv
  have hv0 : 0 < v := by
    rcases Nat.eq_zero_or_pos v with q | q
    · rw [q, Nat.mul_zero] at hk; omega
    · exact q
  have hm : k % v < v := Nat.mod_lt _ hv0
  have hr : k / v < h := Nat.div_lt_of_lt_mul (by rw [Nat.mul_comm]; exact hk)
  unfold f_G_countThrough e_G_countThrough
  rw [H.self, G_hasCell_t H O hk, Option.bind_some, if_neg (show ¬ (1 : Int32) = 0 by decide), H.wi, Option.bind_some, if_neg (nI_nle hv0 (by omega))]
  rcases Nat.eq_zero_or_pos c with q | q
  · subst q
    rw [if_neg (by decide)]
    rfl
  · have hcp : (0 : Int32) < nI c := nI_lt q (by omega)
    rw [if_pos hcp, G_cellsOf H hc, Option.bind_some]
    simp only [H.wi, Option.bind_some]
    rw [if_neg (nI_ne0 hv0 (by omega)), pk_div (by omega) hv0 (by omega), F c hc, pk_mul, pk_sub (Nat.div_mul_le_self k v)]
    have hmm : k - k / v * v = k % v := by
      have := Nat.div_add_mod k v
      rw [Nat.mul_comm] at this
      omega
    rw [hmm, if_neg (nI_ne0 hv0 (by omega)), nI_shl1 (by omega)]
    unfold stc
    rw [G_cols H O (fun k => decide (col k = c)) hr, Option.bind_some]
    have hbes : nI (bs (fun d => decide (col (k / v * v + d) = c)) v) &&& (nI (2 ^ (k % v)) ^^^ (-1)) = nI (bs (fun d => decide (d ≠ k % v) && decide (col (k / v * v + d) = c)) v) := by
      rw [nI_not (Nat.lt_of_lt_of_le (bs256 _ hv8) (by decide)) (by omega)]
      congr 1
      refine bs_ext (Nat.lt_of_le_of_lt Nat.and_le_left (bs_lt _ _)) (fun d hd => ?_)
      have hp : 2 ^ (k % v) < 2 ^ 31 := wb_lt2 (by omega)
      rw [Nat.testBit_and, bs_bit, show 2 ^ 31 - 1 - 2 ^ (k % v) = 2 ^ 31 - (2 ^ (k % v) + 1) by omega, Nat.testBit_two_pow_sub_succ hp, bit_pow]
      have : decide (d < 31) = true := by simp; omega
      rw [this]
      by_cases z : d = k % v
      · simp [z]
      · simp [z, hd, Ne.symm z]
    simp only [hbes]
    unfold cth
    rw [if_neg (by omega)]
    by_cases q2 : bs (fun d => decide (d ≠ k % v) && decide (col (k / v * v + d) = c)) v = 0
    · have hz : ∀ i, fb_sm (cthR v col k c) i = 0 := by
        intro i
        induction i with
        | zero => rfl
        | succ i ih =>
          rw [fb_sm_succ, ih]
          unfold cthR
          split
          · rw [Nat.zero_add, fb_ct_zero]
            intro d hd
            have h3 := bs_zero.mp q2 d hd
            simp only [Bool.and_eq_false_iff, decide_eq_false_iff_not] at h3 ⊢
            rintro ⟨z1, z2, -⟩
            rcases h3 with h3 | h3
            · exact h3 z1
            · exact h3 z2
          · rfl
      rw [q2, hz]
      have hN : am_N = 1048575 + 1 := rfl
      rw [hN, f_G_countThrough_p65, if_pos (show nI 0 = 0 from rfl)]
      rfl
    · have := through_loop H O hk q2 h am_N 0 (by omega) (by unfold am_N; omega)
      exact this
end GRC
def updN (col : Nat → Nat) (k c : Nat) : Nat → Nat := fun j => if j = k then c else col j
theorem updN_s (col : Nat → Nat) (k c : Nat) : updN col k c k = c := by unfold updN; simp
theorem updN_n (col : Nat → Nat) {k c j : Nat} (h : j ≠ k) : updN col k c j = col j := by unfold updN; simp [h]
theorem updN_ok {h v s : Nat} {col : Nat → Nat} (O : gok h v s col) (k : Nat) {c : Nat} (hc : c ≤ s) : gok h v s (updN col k c) := by
  refine ⟨O.1, O.2.1, O.2.2.1, O.2.2.2.1, O.2.2.2.2.1, fun j hj => ?_⟩
  unfold updN
  split
  · exact hc
  · exact O.2.2.2.2.2 j hj
def mixL (F f : Nat → Int64) (i : Nat) : Nat → Int64 := fun j => if j < i then F j else f j
theorem mixL_0 (F f : Nat → Int64) : mixL F f 0 = f := by funext j; unfold mixL; simp
theorem mixL_s (F f : Nat → Int64) (i : Nat) : vp_updL (mixL F f i) i (F i) = mixL F f (i + 1) := by
  funext j
  unfold vp_updL mixL
  by_cases q : j = i
  · subst q; simp
  · rw [if_neg q]
    by_cases z : j < i
    · rw [if_pos z, if_pos (by omega)]
    · rw [if_neg z, if_neg (by omega)]
section GRD
variable {w : am_W} {g a h v s : Nat} {f : Nat → Int64} {col : Nat → Nat}
theorem put_step (O : gok h v s col) {k c : Nat} (hk : k < h * v) (x : Nat) : (x ≠ c → lN (stc h v col x) &&& (lN (2 ^ k) ^^^ (-1)) = lN (stc h v (updN col k c) x)) ∧ (x = c → lN (stc h v col x) ||| lN (2 ^ k) = lN (stc h v (updN col k c) x)) := by
  have hk64 : k < 64 := Nat.lt_of_lt_of_le hk O.hv
  have hp : 2 ^ k < 2 ^ 64 := wb_lt2 hk64
  constructor
  · intro hx
    rw [lN_not hp, fb_andL]
    congr 1
    unfold stc
    refine bs_ext (Nat.lt_of_le_of_lt Nat.and_le_left (bs_lt _ _)) (fun j hj => ?_)
    have hj64 : j < 64 := Nat.lt_of_lt_of_le hj O.hv
    rw [Nat.testBit_and, bs_bit, not_bit hp, bit_pow]
    by_cases z : j = k
    · subst z; rw [updN_s]; simp [Ne.symm hx]
    · rw [updN_n col z]; simp [hj, hj64, Ne.symm z]
  · intro hx
    subst hx
    rw [fb_orL]
    congr 1
    unfold stc
    refine bs_ext (Nat.or_lt_two_pow (bs_lt _ _) (wb_lt2 hk)) (fun j hj => ?_)
    rw [Nat.testBit_or, bs_bit, bit_pow]
    by_cases z : j = k
    · subst z; rw [updN_s]; simp
    · rw [updN_n col z]; simp [hj, Ne.symm z]
theorem put_loop (H : gr w g a h v s f) (F : fs f h v col) (O : gok h v s col) {k c : Nat} (hk : k < h * v) (hc : c < 5) :
    ∀ d n i, i + d = 5 → d < n → f_G_put_p24 n g (nI c) (lN (2 ^ k)) (nI i) (gput w g a h v s (mixL (fun x => lN (stc h v (updN col k c) x)) f i)) = some (gput w g a h v s (mixL (fun x => lN (stc h v (updN col k c) x)) f 5), ()) := by
  intro d
  induction d with
  | zero =>
    intro n i hi hn
    obtain ⟨n, rfl⟩ : ∃ m, n = m + 1 := ⟨n - 1, by omega⟩
    have H' := gput_gr H h v s (mixL (fun x => lN (stc h v (updN col k c) x)) f i)
    have h5 : (5 : Int32) ≤ nI i := nI_le (a := 5) (by omega) (by omega)
    rw [f_G_put_p24, H'.rf, Option.bind_some, H'.al, Option.bind_some, if_pos h5, show i = 5 by omega]
  | succ d ih =>
    intro n i hi hn
    obtain ⟨n, rfl⟩ : ∃ m, n = m + 1 := ⟨n - 1, by omega⟩
    have hi5 : i < 5 := by omega
    have H' := gput_gr H h v s (mixL (fun x => lN (stc h v (updN col k c) x)) f i)
    have h5 : ¬ (5 : Int32) ≤ nI i := nI_ge hi5 (by decide)
    have hv : mixL (fun x => lN (stc h v (updN col k c) x)) f i i = lN (stc h v col i) := by
      unfold mixL
      rw [if_neg (by omega), F i hi5]
    have hst := put_step O (c := c) hk i
    rw [f_G_put_p24, H'.rf, Option.bind_some, H'.al, Option.bind_some, if_neg h5]
    simp only [Option.bind_some, H'.aj hi5, hv]
    by_cases q : i = c
    · rw [if_neg (by rw [q]; simp), hst.2 q]
      unfold f_G_put_p71
      rw [H'.sj hi5, Option.bind_some, gput_gput H.ga, nI_1, mixL_s (fun x => lN (stc h v (updN col k c) x))]
      exact ih n (i + 1) (by omega) (by omega)
    · rw [if_pos (by rw [nI_eq (by omega) (by omega)]; exact q), hst.1 q]
      unfold f_G_put_p71
      rw [H'.sj hi5, Option.bind_some, gput_gput H.ga, nI_1, mixL_s (fun x => lN (stc h v (updN col k c) x))]
      exact ih n (i + 1) (by omega) (by omega)
theorem G_put (H : gr w g a h v s f) (F : fs f h v col) (O : gok h v s col) {k c : Nat} (hk : k < h * v) (hc : c ≤ s) : ∃ f', f_G_put g (nI k) (nI c) w = some (gput w g a h v s f', ()) ∧ fs f' h v (updN col k c) := by
  have hs4 := O.2.2.1
  have hk64 : k < 64 := Nat.lt_of_lt_of_le hk O.hv
  have h0 : 0 < h := by
    rcases Nat.eq_zero_or_pos h with q | q
    · rw [q, Nat.zero_mul] at hk; omega
    · exact q
  refine ⟨mixL (fun x => lN (stc h v (updN col k c) x)) f 5, ?_, fun x hx => by unfold mixL; rw [if_pos hx]⟩
  unfold f_G_put e_G_put
  rw [H.self, G_hasCell_t H O hk, Option.bind_some, if_neg (show ¬ (1 : Int32) = 0 by decide), G_hasCol_t H O h0 hc, Option.bind_some, if_pos (show ¬ (1 : Int32) = 0 by decide), lN_shl1 hk64]
  have h1 := put_loop H F O hk (c := c) (by omega) 5 am_N 0 (by omega) (by unfold am_N; omega)
  rw [mixL_0, gput_self H] at h1
  exact h1
/-- one grid made like another -/
theorem copy_loop (H : gr w g a h v s f) {g2 a2 h2 v2 s2 : Nat} {f2 : Nat → Int64} (H2 : gr w g2 a2 h2 v2 s2 f2) (ng : g ≠ g2) (na : a ≠ a2) (h' v' s' : Nat) :
    ∀ d n i, i + d = 5 → d < n → f_G_copy_p26 n g g2 (nI i) (gput w g a h' v' s' (mixL f2 f i)) = some (gput w g a h' v' s' (mixL f2 f 5), ()) := by
  intro d
  induction d with
  | zero =>
    intro n i hi hn
    obtain ⟨n, rfl⟩ : ∃ m, n = m + 1 := ⟨n - 1, by omega⟩
    have H' := gput_gr H h' v' s' (mixL f2 f i)
    have h5 : (5 : Int32) ≤ nI i := nI_le (a := 5) (by omega) (by omega)
    rw [f_G_copy_p26, H'.rf, Option.bind_some, H'.al, Option.bind_some, if_pos h5, show i = 5 by omega]
  | succ d ih =>
    intro n i hi hn
    obtain ⟨n, rfl⟩ : ∃ m, n = m + 1 := ⟨n - 1, by omega⟩
    have hi5 : i < 5 := by omega
    have H' := gput_gr H h' v' s' (mixL f2 f i)
    have H2' := H.other H2 ng na h' v' s' (mixL f2 f i)
    have h5 : ¬ (5 : Int32) ≤ nI i := nI_ge hi5 (by decide)
    rw [f_G_copy_p26, H'.rf, Option.bind_some, H'.al, Option.bind_some, if_neg h5, Option.bind_some, G_cellsOf H2' hi5, Option.bind_some]
    simp only []
    rw [H'.sj hi5, Option.bind_some, gput_gput H.ga, nI_1, mixL_s]
    exact ih n (i + 1) (by omega) (by omega)
theorem G_copy (H : gr w g a h v s f) {g2 a2 h2 v2 s2 : Nat} {f2 : Nat → Int64} (H2 : gr w g2 a2 h2 v2 s2 f2) (ng : g ≠ g2) (na : a ≠ a2) : f_G_copy g g2 w = some (gput w g a h2 v2 s2 (mixL f2 f 5), ()) := by
  unfold f_G_copy e_G_copy
  have A1 := H.other H2 ng na h2 v s f
  have A2 := H.other H2 ng na h2 v2 s f
  have B1 := gput_gr H h2 v s f
  have B2 := gput_gr H h2 v2 s f
  rw [H.self, H2.hi, Option.bind_some, H.pv1, Option.bind_some, A1.wi, Option.bind_some, B1.pv2, Option.bind_some, gput_gput H.ga, A2.sh, Option.bind_some, B2.pv3, Option.bind_some, gput_gput H.ga]
  have h1 := copy_loop H H2 ng na h2 v2 s2 5 am_N 0 (by omega) (by unfold am_N; omega)
  rw [mixL_0] at h1
  exact h1
theorem fs_mix {f2 : Nat → Int64} {h2 v2 : Nat} {col2 : Nat → Nat} (F : fs f2 h2 v2 col2) : fs (mixL f2 f 5) h2 v2 col2 := fun c hc => by unfold mixL; rw [if_pos hc, F c hc]
end GRD
