/-! A GRID IN THE WORLD: its object at g, its sets at a -/
def gr (w : am_W) (g a h v s : Nat) (f : Nat → Int64) : Prop := w.2.2[g]? = some (some (.inr (1, [.ref a, .int (nI h), .int (nI v), .int (nI s)]))) ∧ w.2.2[a]? = some (some (.inl (1, 5, .inr (.inl f)))) ∧ 8 ≤ g ∧ 8 ≤ a
def gput (w : am_W) (g a h v s : Nat) (f : Nat → Int64) : am_W := (w.1, w.2.1, (w.2.2.set g (some (.inr (1, [.ref a, .int (nI h), .int (nI v), .int (nI s)])))).set a (some (.inl (1, 5, .inr (.inl f)))))
section GRA
variable {w : am_W} {g a h v s : Nat} {f : Nat → Int64}
theorem gr.ob (H : gr w g a h v s f) : am_ob w g = some (1, [.ref a, .int (nI h), .int (nI v), .int (nI s)]) := by simp only [am_ob, H.1]
theorem gr.ar (H : gr w g a h v s f) : am_ar w a = some (1, 5, .inr (.inl f)) := by simp only [am_ar, H.2.1]
theorem gr.is (H : gr w g a h v s f) : am_is w g 1 = true := by simp only [am_is, H.ob]; simp [H.2.2.1]
theorem gr.self (H : gr w g a h v s f) {α : Type} (o : Option α) : am_self w g 1 o = o := by simp only [am_self, H.is, if_true]
theorem gr.hi (H : gr w g a h v s f) : am_gi w g 1 1 = some (nI h) := by simp [am_gi, am_gv, H.ob]
theorem gr.wi (H : gr w g a h v s f) : am_gi w g 1 2 = some (nI v) := by simp [am_gi, am_gv, H.ob]
theorem gr.sh (H : gr w g a h v s f) : am_gi w g 1 3 = some (nI s) := by simp [am_gi, am_gv, H.ob]
theorem gr.rf (H : gr w g a h v s f) : am_gr w g 1 0 = some a := by simp [am_gr, am_gv, H.ob]
theorem gr.al (H : gr w g a h v s f) : am_al w a = some 5 := by simp [am_al, H.ar]
theorem gr.aj (H : gr w g a h v s f) {c : Nat} (hc : c < 5) : am_aj w a (nI c) = some (f c) := by
  simp only [am_aj, H.ar]
  rw [if_neg (nI_in hc (by decide)), nI_clamp (by omega)]
theorem gr.ga (H : gr w g a h v s f) : g ≠ a := by
  intro e
  have h1 := H.1
  rw [e, H.2.1] at h1
  cases h1
theorem gr.lg (H : gr w g a h v s f) : g < w.2.2.length := (List.getElem?_eq_some_iff.mp H.1).1
theorem gr.la (H : gr w g a h v s f) : a < w.2.2.length := (List.getElem?_eq_some_iff.mp H.2.1).1
theorem gput_gr (H : gr w g a h v s f) (h' v' s' : Nat) (f' : Nat → Int64) : gr (gput w g a h' v' s' f') g a h' v' s' f' := by
  refine ⟨?_, ?_, H.2.2.1, H.2.2.2⟩
  · show ((w.2.2.set g _).set a _)[g]? = _
    rw [List.getElem?_set_ne (Ne.symm H.ga), List.getElem?_set_self H.lg]
  · show ((w.2.2.set g _).set a _)[a]? = _
    rw [List.getElem?_set_self (by rw [List.length_set]; exact H.la)]
theorem gput_self (H : gr w g a h v s f) : gput w g a h v s f = w := by
  unfold gput
  have h1 : w.2.2.set g (some (.inr (1, [.ref a, .int (nI h), .int (nI v), .int (nI s)]))) = w.2.2 := by
    apply List.ext_getElem?
    intro i
    rcases Nat.decEq g i with q | q
    · rw [List.getElem?_set_ne q]
    · subst q; rw [List.getElem?_set_self H.lg, H.1]
  have h2 : w.2.2.set a (some (.inl (1, 5, .inr (.inl f)))) = w.2.2 := by
    apply List.ext_getElem?
    intro i
    rcases Nat.decEq a i with q | q
    · rw [List.getElem?_set_ne q]
    · subst q; rw [List.getElem?_set_self H.la, H.2.1]
  rw [h1, h2]
theorem gput_gput (ne : g ≠ a) (h v s h' v' s' : Nat) (f f' : Nat → Int64) : gput (gput w g a h v s f) g a h' v' s' f' = gput w g a h' v' s' f' := by
  unfold gput
  refine Prod.ext rfl (Prod.ext rfl ?_)
  show ((((w.2.2.set g _).set a _).set g _).set a _) = ((w.2.2.set g _).set a _)
  rw [List.set_comm _ _ (Ne.symm ne), List.set_set, List.set_set]
theorem gr.sj (H : gr w g a h v s f) {c : Nat} (hc : c < 5) (x : Int64) : am_sj w a (nI c) x = some (gput w g a h v s (vp_updL f c x)) := by
  simp only [am_sj, H.ar]
  have h1 : ¬ (nI c < 0 ∨ 5 ≤ (nI c).toNatClampNeg ∨ a < 8) := by
    have h2 := nI_in hc (by decide : 5 < 2 ^ 31)
    have h3 := H.2.2.2
    rintro (q | q | q)
    · exact h2 (Or.inl q)
    · exact h2 (Or.inr q)
    · omega
  rw [if_neg h1, nI_clamp (by omega)]
  have h4 := gput_self H
  conv => rhs; rw [← h4]
  rw [gput_gput H.ga]
  unfold gput am_st1
  refine congrArg some (Prod.ext rfl (Prod.ext rfl ?_))
  show w.2.2.set a _ = (w.2.2.set g _).set a _
  congr 1
  apply List.ext_getElem?
  intro i
  rcases Nat.decEq g i with q | q
  · rw [List.getElem?_set_ne q]
  · subst q; rw [List.getElem?_set_self H.lg, H.1]
theorem gr.pv (H : gr w g a h v s f) {k h' v' s' : Nat} {x : Int32} (hk : k < 4) (he : [Value.ref a, .int (nI h), .int (nI v), .int (nI s)].set k (.int x) = [.ref a, .int (nI h'), .int (nI v'), .int (nI s')]) : am_pv w g 1 k (.int x) = some (gput w g a h' v' s' f) := by
  simp only [am_pv, H.ob]
  rw [if_pos ⟨trivial, hk, H.2.2.1⟩, he]
  unfold gput am_st1
  refine congrArg some (Prod.ext rfl (Prod.ext rfl ?_))
  show w.2.2.set g _ = (w.2.2.set g _).set a _
  apply List.ext_getElem?
  intro i
  rcases Nat.decEq a i with q | q
  · rw [List.getElem?_set_ne q]
  · subst q
    rw [List.getElem?_set_self (by rw [List.length_set]; exact H.la), List.getElem?_set_ne H.ga, H.2.1]
theorem gr.pv1 (H : gr w g a h v s f) (x : Nat) : am_pv w g 1 1 (.int (nI x)) = some (gput w g a x v s f) := H.pv (by decide) rfl
theorem gr.pv2 (H : gr w g a h v s f) (x : Nat) : am_pv w g 1 2 (.int (nI x)) = some (gput w g a h x s f) := H.pv (by decide) rfl
theorem gr.pv3 (H : gr w g a h v s f) (x : Nat) : am_pv w g 1 3 (.int (nI x)) = some (gput w g a h v x f) := H.pv (by decide) rfl
theorem gr.other (H : gr w g a h v s f) {g2 a2 h2 v2 s2 : Nat} {f2 : Nat → Int64} (H2 : gr w g2 a2 h2 v2 s2 f2) (ng : g ≠ g2) (na : a ≠ a2) (h' v' s' : Nat) (f' : Nat → Int64) : gr (gput w g a h' v' s' f') g2 a2 h2 v2 s2 f2 := by
  have n1 : g ≠ a2 := by
    intro e
    have h1 := H.1
    rw [e, H2.2.1] at h1
    cases h1
  have n2 : a ≠ g2 := by
    intro e
    have h1 := H.2.1
    rw [e, H2.1] at h1
    cases h1
  refine ⟨?_, ?_, H2.2.2.1, H2.2.2.2⟩
  · show ((w.2.2.set g _).set a _)[g2]? = _
    rw [List.getElem?_set_ne n2, List.getElem?_set_ne ng, H2.1]
  · show ((w.2.2.set g _).set a _)[a2]? = _
    rw [List.getElem?_set_ne na, List.getElem?_set_ne n1, H2.2.1]
end GRA
/-! colours by cells -/
def stc (h v : Nat) (col : Nat → Nat) (c : Nat) : Nat := bs (fun k => decide (col k = c)) (h * v)
def fs (f : Nat → Int64) (h v : Nat) (col : Nat → Nat) : Prop := ∀ c, c < 5 → f c = lN (stc h v col c)
def gok (h v s : Nat) (col : Nat → Nat) : Prop := h ≤ 8 ∧ v ≤ 8 ∧ s ≤ 4 ∧ (h = 0 ↔ v = 0) ∧ (h = 0 ↔ s = 0) ∧ ∀ k, k < h * v → col k ≤ s
theorem gok.hv {h v s : Nat} {col : Nat → Nat} (O : gok h v s col) : h * v ≤ 64 := Nat.mul_le_mul O.1 O.2.1
theorem stc_lt {h v s : Nat} {col : Nat → Nat} (O : gok h v s col) (c : Nat) : stc h v col c < 2 ^ 64 := bs_lt64 _ O.hv
section GRB
variable {w : am_W} {g a h v s : Nat} {f : Nat → Int64} {col : Nat → Nat}
theorem G_cellsOf (H : gr w g a h v s f) {c : Nat} (hc : c < 5) : f_G_cellsOf g (nI c) w = some (w, f c) := by
  unfold f_G_cellsOf e_G_cellsOf
  have h5 : ¬ ((5 : Int32) ≤ nI c) := nI_ge hc (by decide)
  rw [H.self, if_neg (nI_pos (by omega)), H.rf, Option.bind_some, H.al, Option.bind_some, if_neg h5, Option.bind_some, H.aj hc]
  rfl
theorem G_high (H : gr w g a h v s f) : f_G_high g w = some (w, nI h) := by
  unfold f_G_high e_G_high
  rw [H.self, H.hi]; rfl
theorem G_wide (H : gr w g a h v s f) : f_G_wide g w = some (w, nI v) := by
  unfold f_G_wide e_G_wide
  rw [H.self, H.wi]; rfl
theorem G_shades (H : gr w g a h v s f) : f_G_shades g w = some (w, nI s) := by
  unfold f_G_shades e_G_shades
  rw [H.self, H.sh]; rfl
theorem G_size (H : gr w g a h v s f) : f_G_size g w = some (w, nI (h * v)) := by
  unfold f_G_size e_G_size
  rw [H.self, H.hi, Option.bind_some, H.wi, Option.bind_some, pk_mul]
theorem G_cellAt (H : gr w g a h v s f) (r c : Nat) : f_G_cellAt g (nI r) (nI c) w = some (w, nI (r * v + c)) := by
  unfold f_G_cellAt e_G_cellAt
  rw [H.self, H.wi, Option.bind_some, pk_mul, nI_add]
theorem G_exists (H : gr w g a h v s f) (hh : h ≤ 8) : f_G_exists g w = some (w, if 0 < h then 1 else 0) := by
  unfold f_G_exists e_G_exists
  rw [H.self, H.hi, Option.bind_some]
  rcases Nat.eq_zero_or_pos h with q | q
  · subst q; rfl
  · rw [if_neg (nI_nle q (by omega)), if_pos q]; rfl
theorem G_hasCell_t (H : gr w g a h v s f) (O : gok h v s col) {k : Nat} (hk : k < h * v) : f_G_hasCell g (nI k) w = some (w, 1) := by
  have := O.hv
  unfold f_G_hasCell e_G_hasCell
  rw [H.self, if_neg (nI_pos (by omega)), H.hi, Option.bind_some, H.wi, Option.bind_some, pk_mul, if_neg (nI_ge hk (by omega))]
  rfl
theorem G_hasCell_f (H : gr w g a h v s f) {x : Int32} (hx : x < 0 ∨ nI (h * v) ≤ x) : f_G_hasCell g x w = some (w, 0) := by
  unfold f_G_hasCell e_G_hasCell
  rw [H.self, H.hi, Option.bind_some, H.wi, Option.bind_some, pk_mul]
  rcases hx with q | q
  · rw [if_pos q]; rfl
  · rw [if_pos q]; split <;> rfl
theorem G_hasCol_t (H : gr w g a h v s f) (O : gok h v s col) (h0 : 0 < h) {c : Nat} (hc : c ≤ s) : f_G_hasColourOrBlank g (nI c) w = some (w, 1) := by
  have h1 := O.1
  have h2 := O.2.2.1
  unfold f_G_hasColourOrBlank e_G_hasColourOrBlank
  rw [H.self, H.hi, Option.bind_some, if_neg (nI_nle h0 (by omega)), if_neg (nI_pos (by omega)), H.sh, Option.bind_some, if_neg (nI_nlt hc (by omega))]
  rfl
theorem G_hasCol_f (H : gr w g a h v s f) {x : Int32} (hx : h = 0 ∨ x < 0 ∨ nI s < x) : f_G_hasColourOrBlank g x w = some (w, 0) := by
  unfold f_G_hasColourOrBlank e_G_hasColourOrBlank
  rw [H.self, H.hi, Option.bind_some, H.sh, Option.bind_some]
  rcases hx with q | q | q
  · subst q; rfl
  · rw [if_pos q]; split <;> rfl
  · rw [if_pos q]; split
    · rfl
    · split <;> rfl
theorem colourOf_loop (H : gr w g a h v s f) (F : fs f h v col) (O : gok h v s col) {k : Nat} (hk : k < h * v) : ∀ d n c, c + d = s + 1 → 1 ≤ c → d < n → (∀ c', 1 ≤ c' → c' < c → col k ≠ c') → f_G_colourOf_p2 n g (nI k) (nI c) w = some (w, nI (col k)) := by
  have h64 := O.hv
  have hs4 := O.2.2.1
  intro d
  induction d with
  | zero =>
    intro n c hc h1 hn hb
    obtain ⟨n, rfl⟩ : ∃ m, n = m + 1 := ⟨n - 1, by omega⟩
    have h0 : col k = 0 := by
      have h2 := O.2.2.2.2.2 k hk
      rcases Nat.eq_zero_or_pos (col k) with q | q
      · exact q
      · exact absurd rfl (hb (col k) q (by omega))
    rw [f_G_colourOf_p2, H.sh, Option.bind_some, if_pos (nI_lt (by omega) (by omega)), h0]
    rfl
  | succ d ih =>
    intro n c hc h1 hn hb
    obtain ⟨n, rfl⟩ : ∃ m, n = m + 1 := ⟨n - 1, by omega⟩
    have hc5 : c < 5 := by omega
    rw [f_G_colourOf_p2, H.sh, Option.bind_some, if_neg (nI_nlt (by omega) (by omega)), G_cellsOf H hc5, Option.bind_some]
    have hbit : (stc h v col c).testBit k = decide (col k = c) := by
      unfold stc
      rw [bs_bit]
      simp [hk]
    simp only [F c hc5]
    by_cases q : col k = c
    · rw [if_neg (by rw [lN_bit (stc_lt O c) (by omega), hbit]; simp [q]), q]
    · rw [if_pos (by rw [lN_bit (stc_lt O c) (by omega), hbit]; simp [q]), nI_1]
      refine ih n (c + 1) (by omega) (by omega) (by omega) (fun c' h1' h2' => ?_)
      rcases Nat.lt_or_ge c' c with z | z
      · exact hb c' h1' z
      · have : c' = c := by omega
        rw [this]; exact q
theorem G_colourOf (H : gr w g a h v s f) (F : fs f h v col) (O : gok h v s col) {k : Nat} (hk : k < h * v) : f_G_colourOf g (nI k) w = some (w, nI (col k)) := by
  have hs4 := O.2.2.1
  unfold f_G_colourOf e_G_colourOf
  rw [H.self]
  exact colourOf_loop H F O hk s am_N 1 (by omega) (by omega) (by unfold am_N; omega) (fun c' h1 h2 => by omega)
theorem G_columnsOf (H : gr w g a h v s f) {X r : Nat} (hX : X < 2 ^ 64) (hr : r * v < 64) (hv : v ≤ 8) : f_G_columnsOf g (lN X) (nI r) w = some (w, nI (X / 2 ^ (r * v) % 2 ^ v)) := by
  unfold f_G_columnsOf e_G_columnsOf
  rw [H.self, H.wi, Option.bind_some, Option.bind_some, pk_mul, am_lu_eq hX hr, lN_toI, nI_shl1 (by omega)]
  have h1 : (1 : Int32) = nI 1 := rfl
  rw [h1, pk_sub (Nat.two_pow_pos v), fa_mask]
theorem bs_row (p : Nat → Bool) {h v r : Nat} (hr : r < h) : bs p (h * v) / 2 ^ (r * v) % 2 ^ v = bs (fun c => p (r * v + c)) v := by
  refine bs_ext (Nat.mod_lt _ (Nat.two_pow_pos v)) (fun k hk => ?_)
  rw [Nat.testBit_mod_two_pow, Nat.testBit_div_two_pow, bs_bit]
  have h1 : k + r * v < h * v := by
    have h2 : (r + 1) * v ≤ h * v := Nat.mul_le_mul_right v hr
    rw [Nat.succ_mul] at h2
    omega
  rw [Nat.add_comm] at h1
  simp [hk, h1, Nat.add_comm k (r * v)]
theorem row_lt {h v r c : Nat} (hr : r < h) (hc : c < v) : r * v + c < h * v := by
  have h2 : (r + 1) * v ≤ h * v := Nat.mul_le_mul_right v hr
  rw [Nat.succ_mul] at h2
  omega
theorem G_cols (H : gr w g a h v s f) (O : gok h v s col) (p : Nat → Bool) {r : Nat} (hr : r < h) : f_G_columnsOf g (lN (bs p (h * v))) (nI r) w = some (w, nI (bs (fun c => p (r * v + c)) v)) := by
  have h64 := O.hv
  have hv0 : 0 < v := by
    rcases Nat.eq_zero_or_pos v with q | q
    · have := O.2.2.2.1.mpr q; omega
    · exact q
  have hl := row_lt hr hv0
  rw [G_columnsOf H (bs_lt64 p h64) (by omega) O.2.1, bs_row p hr]
end GRB
