/-! IMAGES -/
section IMA
variable {n1 n2 L : Nat} {xs : Nat → Int32} {g : Nat → GR} {i : Nat → Int32} {A : Nat → Nat → Int32} {m : Nat → Int32} {B : Nat → Nat → Int32} {J : Nat → Int64} {wd : Int64} {o : Nat → Int64} {h v s : Nat} {col : Nat → Nat}
theorem gi2 {l : Nat} (hl : l < 2) : gr (mk n1 n2 L xs g i A m B J wd o) (47 + 2 * l) (48 + 2 * l) (g (47 + 2 * l)).1 (g (47 + 2 * l)).2.1 (g (47 + 2 * l)).2.2.1 (g (47 + 2 * l)).2.2.2 := by
  rcases (show l = 0 ∨ l = 1 by omega) with rfl | rfl
  · exact g47
  · exact g49
theorem gpi {l : Nat} (hl : l < 2) (h v s : Nat) (f : Nat → Int64) : gput (mk n1 n2 L xs g i A m B J wd o) (47 + 2 * l) (48 + 2 * l) h v s f = mk n1 n2 L xs (up g (47 + 2 * l) (h, v, s, f)) i A m B J wd o := by
  rcases (show l = 0 ∨ l = 1 by omega) with rfl | rfl
  · exact gp47 h v s f
  · exact gp49 h v s f
theorem ax45 {l : Nat} (hl : l < 2) : am_ax (mk n1 n2 L xs g i A m B J wd o) 45 (nI l) = some (47 + 2 * l) := by
  have h1 : am_ax (mk n1 n2 L xs g i A m B J wd o) 45 (nI l) = hf2 l := by
    simp only [am_ax, ar45]
    rw [if_neg (nI_in hl (by decide)), nI_clamp (by omega)]
  rw [h1]
  rcases (show l = 0 ∨ l = 1 by omega) with rfl | rfl <;> rfl
theorem F_hasPlace44 {l : Nat} (hl : l < 2) : f_F_hasPlace 44 (nI l) (mk n1 n2 L xs g i A m B J wd o) = some (mk n1 n2 L xs g i A m B J wd o, 1) := by
  unfold f_F_hasPlace e_F_hasPlace
  have e1 : am_al (mk n1 n2 L xs g i A m B J wd o) 45 = some (nI 2) := r_al ar45 (by decide)
  have e2 : am_al (mk n1 n2 L xs g i A m B J wd o) 46 = some (nI 2) := r_al ar46 (by decide)
  rw [sf44, if_neg (nI_pos (by omega)), rd44_0, Option.bind_some, e1, Option.bind_some, if_neg (nI_ge hl (by decide)), rd44_1, Option.bind_some, e2, Option.bind_some, if_neg (nI_ge hl (by decide)), Option.bind_some, ax45 hl, Option.bind_some]
  rfl
theorem F_hasPlace44_f {x : Int32} (q : x < 0 ∨ nI 2 ≤ x) : f_F_hasPlace 44 x (mk n1 n2 L xs g i A m B J wd o) = some (mk n1 n2 L xs g i A m B J wd o, 0) := by
  unfold f_F_hasPlace e_F_hasPlace
  have e1 : am_al (mk n1 n2 L xs g i A m B J wd o) 45 = some (nI 2) := r_al ar45 (by decide)
  rw [sf44]
  by_cases z : x < 0
  · rw [if_pos z]; rfl
  · rw [if_neg z, rd44_0, Option.bind_some, e1, Option.bind_some, if_pos (by rcases q with q | q; exact absurd q z; exact q)]
    rfl
theorem F_store44 {l : Nat} (hl : l < 2) : f_F_store 44 (nI l) 11 (mk n1 n2 L xs g i A m B J wd o) = some (mk n1 n2 L xs (up g (47 + 2 * l) (cpG (g 11) (g (47 + 2 * l)))) i (up A 46 (upd (A 46) l 1)) m B J wd o, 1) := by
  unfold f_F_store e_F_store
  rw [sf44, F_hasPlace44 hl, Option.bind_some, if_pos (show ¬ (1 : Int32) = 0 by decide), rd44_0, Option.bind_some, ax45 hl, Option.bind_some, G_copy (gi2 hl) g11 (by omega) (by omega), Option.bind_some, gpi hl]
  simp only []
  rw [rd44_1, Option.bind_some, w_sz ar46 hl (by decide) (by decide), Option.bind_some, st46]
  rfl
theorem F_fetch44 {l : Nat} (hl : l < 2) (hA : A 46 l = 1) : f_F_fetch 44 (nI l) 11 (mk n1 n2 L xs g i A m B J wd o) = some (mk n1 n2 L xs (up g 11 (cpG (g (47 + 2 * l)) (g 11))) i A m B J wd o, 1) := by
  unfold f_F_fetch e_F_fetch
  rw [sf44, F_hasPlace44 hl, Option.bind_some, if_neg (show ¬ (1 : Int32) = 0 by decide), rd44_1, Option.bind_some, r_az ar46 hl (by decide), Option.bind_some, hA, if_pos (show ¬ (1 : Int32) = 0 by decide), rd44_0, Option.bind_some, ax45 hl, Option.bind_some, G_copy g11 (gi2 hl) (by omega) (by omega), Option.bind_some, gp11]
  rfl
theorem F_fetch44_0 {l : Nat} (hl : l < 2) (hA : A 46 l = 0) : f_F_fetch 44 (nI l) 11 (mk n1 n2 L xs g i A m B J wd o) = some (mk n1 n2 L xs g i A m B J wd o, 0) := by
  unfold f_F_fetch e_F_fetch
  rw [sf44, F_hasPlace44 hl, Option.bind_some, if_neg (show ¬ (1 : Int32) = 0 by decide), rd44_1, Option.bind_some, r_az ar46 hl (by decide), Option.bind_some, hA, if_neg (show ¬ ¬ (0 : Int32) = 0 from fun y => y rfl)]
  rfl
theorem m67 (k : Nat) : (67 : Int32) * nI k = nI (67 * k) := by rw [show (67 : Int32) = nI 67 from rfl, pk_mul]
end IMA
theorem p_image (x : Int32) : pOk (f_C_image 8 x) (f_M_image 51 x) := by
  intro n1 n2 L xs g i A m B J wd o H
  obtain ⟨⟨h, v, s, col, O, C, M⟩, e8, T, Hh, I, S, K⟩ := id H
  unfold f_C_image e_C_image f_M_image e_M_image
  rcases cell_case x (n := 2) (by decide) with q | ⟨k, hk, rfl⟩
  · refine ⟨0, g, i, A, ?_, up m 0 0, B, J, wd, ?_, INV_keep H (keep0 m B 0)⟩
    · unfold f_F_store e_F_store
      rw [sf8, rd8_6, Option.bind_some, rd8_1, Option.bind_some, sf44, F_hasPlace44_f q, Option.bind_some, if_neg (show ¬ ¬ (0 : Int32) = 0 from fun y => y rfl)]
      rfl
    · rw [sf51, wr51_0, Option.bind_some, M_isIn_f (by rcases q with q | q; exact Or.inl q; exact Or.inr (two_le q).2)]
      rfl
  · have kin : f_M_isIn (nI k) 0 1 (mk n1 n2 L xs (up g (47 + 2 * k) (cpG (g 11) (g (47 + 2 * k)))) i (up A 46 (upd (A 46) k 1)) (up m 0 0) B J wd o) = some (mk n1 n2 L xs (up g (47 + 2 * k) (cpG (g 11) (g (47 + 2 * k)))) i (up A 46 (upd (A 46) k 1)) (up m 0 0) B J wd o, 1) := M_isIn_t (nI_pos (by omega)) (nI_nlt (a := 1) (by omega) (by omega)) _
    refine ⟨1, up g (47 + 2 * k) (cpG (g 11) (g (47 + 2 * k))), i, up A 46 (upd (A 46) k 1), ?_, up m 0 0, up (up B 55 (fb_put (B 55) (B 53) (67 * k) 67)) 60 (upd (B 60) k 1), J, wd, ?_, ?_⟩
    · rw [sf8, rd8_6, Option.bind_some, rd8_1, Option.bind_some, F_store44 hk, Option.bind_some]
      rfl
    · have ec := M_copy (w := mk n1 n2 L xs (up g (47 + 2 * k) (cpG (g 11) (g (47 + 2 * k)))) i (up A 46 (upd (A 46) k 1)) (up m 0 0) B J wd o) (o1 := 0) (o2 := 67 * k) ar53 ar55 (by decide) (by decide) (by decide) (by omega) (by decide) (by decide)
      rw [st55, zadd] at ec
      have ec' : f_M_copy 53 0 55 (nI (67 * k)) (mk n1 n2 L xs (up g (47 + 2 * k) (cpG (g 11) (g (47 + 2 * k)))) i (up A 46 (upd (A 46) k 1)) (up m 0 0) B J wd o) = _ := ec
      rw [sf51, wr51_0, Option.bind_some, kin, Option.bind_some, if_pos (show ¬ (1 : Int32) = 0 by decide), rd51_11, Option.bind_some, rd51_13, Option.bind_some, m67, ec', Option.bind_some, rd51_18, Option.bind_some, w_sz ar60 hk (by decide) (by decide), Option.bind_some, st60]
      rfl
    · refine ⟨⟨h, v, s, col, O, cg_ne C _ (by omega), M⟩, e8, TI_same T rfl rfl rfl rfl, HI_same Hh rfl rfl rfl rfl rfl (fun l hl => up_n _ _ (by omega)), fun j hj => ?_, SI_same S (up_n _ _ (by omega)) (up_n _ _ (by omega)) rfl rfl, KI_same K rfl⟩
      by_cases z : j = k
      · subst z
        refine Or.inr ⟨by rw [up_s, pk_us], by rw [up_s, pk_us], h, v, s, col, O, cg_cp C _ _, fun y hy => ?_⟩
        show fb_put (B 55) (B 53) (67 * j) 67 (67 * j + y) = _
        rw [fb_put_in (by omega) (by omega), Nat.add_sub_cancel_left]
        exact M y hy
      · have f1 : up A 46 (upd (A 46) k 1) 46 j = A 46 j := by rw [up_s, pk_un z]
        have f2 : up (up B 55 (fb_put (B 55) (B 53) (67 * k) 67)) 60 (upd (B 60) k 1) 60 j = B 60 j := by rw [up_s, pk_un z]
        rcases I j hj with ⟨a, b⟩ | ⟨a, b, h2, v2, s2, col2, O2, C2, E2⟩
        · exact Or.inl ⟨by rw [f1, a], by rw [f2, b]⟩
        · refine Or.inr ⟨by rw [f1, a], by rw [f2, b], h2, v2, s2, col2, O2, cg_ne C2 _ (by omega), fun y hy => ?_⟩
          show fb_put (B 55) (B 53) (67 * k) 67 (67 * j + y) = _
          rw [fb_put_out (by omega)]
          exact E2 y hy
theorem p_restore (x : Int32) : pOk (f_C_restore 8 x) (f_M_restore 51 x) := by
  intro n1 n2 L xs g i A m B J wd o H
  obtain ⟨⟨h, v, s, col, O, C, M⟩, e8, T, Hh, I, S, K⟩ := id H
  unfold f_C_restore e_C_restore f_M_restore e_M_restore f_M_restore_p23
  rcases cell_case x (n := 2) (by decide) with q | ⟨k, hk, rfl⟩
  · refine ⟨0, g, i, A, ?_, up m 0 0, B, J, wd, ?_, INV_keep H (keep0 m B 0)⟩
    · unfold f_F_fetch e_F_fetch
      rw [sf8, rd8_6, Option.bind_some, rd8_1, Option.bind_some, sf44, F_hasPlace44_f q, Option.bind_some, if_pos rfl]
      rfl
    · rw [sf51, wr51_0, Option.bind_some, M_isIn_f (by rcases q with q | q; exact Or.inl q; exact Or.inr (two_le q).2)]
      rfl
  · have kin : ∀ w, f_M_isIn (nI k) 0 1 w = some (w, 1) := fun w => M_isIn_t (nI_pos (by omega)) (nI_nlt (a := 1) (by omega) (by omega)) w
    rcases I k hk with ⟨a, b⟩ | ⟨a, b, h2, v2, s2, col2, O2, C2, E2⟩
    · refine ⟨0, g, i, A, ?_, up m 0 0, B, J, wd, ?_, INV_keep H (keep0 m B 0)⟩
      · rw [sf8, rd8_6, Option.bind_some, rd8_1, Option.bind_some, F_fetch44_0 hk a, Option.bind_some]
        rfl
      · rw [sf51, wr51_0, Option.bind_some, kin, Option.bind_some, if_neg (show ¬ (1 : Int32) = 0 by decide), rd51_18, Option.bind_some, r_az ar60 hk (by decide), Option.bind_some, b, if_neg (show ¬ ¬ (0 : Int32) = 0 from fun y => y rfl)]
    · refine ⟨1, up g 11 (cpG (g (47 + 2 * k)) (g 11)), up i 194 0, A, ?_, up (up m 0 0) 19 0, up B 53 (fb_put (B 53) (fun j => B 55 (67 * k + j)) 0 67), J, wd, ?_, ?_⟩
      · unfold f_H_forget e_H_forget
        rw [sf8, rd8_6, Option.bind_some, rd8_1, Option.bind_some, F_fetch44 hk a, Option.bind_some, if_pos (show ¬ (1 : Int32) = 0 by decide), rd8_5, Option.bind_some, sf24, wr24_2, Option.bind_some, Option.bind_some]
      · have ec := M_copy (w := mk n1 n2 L xs (up g 11 (cpG (g (47 + 2 * k)) (g 11))) (up i 194 0) A (up m 0 0) B J wd o) (o1 := 67 * k) (o2 := 0) ar55 ar53 (by decide) (by decide) (by omega) (by decide) (by decide) (by decide)
        rw [st53] at ec
        have ec' : f_M_copy 55 (nI (67 * k)) 53 0 (mk n1 n2 L xs (up g 11 (cpG (g (47 + 2 * k)) (g 11))) (up i 194 0) A (up m 0 0) B J wd o) = _ := ec
        rw [sf51, wr51_0, Option.bind_some, kin, Option.bind_some, if_neg (show ¬ (1 : Int32) = 0 by decide), rd51_18, Option.bind_some, r_az ar60 hk (by decide), Option.bind_some, b, if_pos (show ¬ (1 : Int32) = 0 by decide), rd51_13, Option.bind_some, rd51_11, Option.bind_some, m67, ec', Option.bind_some, wr51_19, Option.bind_some]
      · exact ⟨⟨h2, v2, s2, col2, O2, cg_cp C2 _ _, fun j hj => by rw [up_s, fb_put_in (by omega) (by omega), Nat.sub_zero]; exact E2 j hj⟩, e8, TI_same T rfl rfl rfl rfl, HI_forget Hh _ _ _ rfl rfl rfl, II_same I rfl rfl rfl (fun j hj => up_n _ _ (by omega)), SI_same S rfl rfl rfl rfl, KI_same K rfl⟩
/-! the grid turned -/
def trn (h v : Nat) (col base : Nat → Nat) (r c : Nat) : Nat → Nat := fun j => if j < v * h ∧ (j % h < r ∨ (j % h = r ∧ j / h < c)) then col (j % h * v + j / h) else base j
theorem trn_s {h v : Nat} (col base : Nat → Nat) {r c : Nat} (hr : r < h) (hc : c < v) : updN (trn h v col base r c) (c * h + r) (col (r * v + c)) = trn h v col base r (c + 1) := by
  funext j
  have hq := cell_eq (v := h) (k := j) (r := c) (c := r) hr
  unfold updN
  by_cases q : j = c * h + r
  · rw [if_pos q]
    obtain ⟨e1, e2⟩ := hq.mp q
    have := row_lt hc hr
    unfold trn
    rw [if_pos ⟨by omega, Or.inr ⟨e2, by omega⟩⟩, e1, e2]
  · rw [if_neg q]
    unfold trn
    have : (j < v * h ∧ (j % h < r ∨ (j % h = r ∧ j / h < c))) ↔ (j < v * h ∧ (j % h < r ∨ (j % h = r ∧ j / h < c + 1))) := by
      constructor
      · rintro ⟨a, b | ⟨b, d⟩⟩
        · exact ⟨a, Or.inl b⟩
        · exact ⟨a, Or.inr ⟨b, by omega⟩⟩
      · rintro ⟨a, b | ⟨b, d⟩⟩
        · exact ⟨a, Or.inl b⟩
        · refine ⟨a, Or.inr ⟨b, ?_⟩⟩
          rcases Nat.lt_or_ge (j / h) c with z | z
          · exact z
          · exact absurd (hq.mpr ⟨by omega, b⟩) q
    by_cases z : j < v * h ∧ (j % h < r ∨ (j % h = r ∧ j / h < c))
    · rw [if_pos z, if_pos (this.mp z)]
    · rw [if_neg z, if_neg (fun y => z (this.mpr y))]
theorem trn_r {h v : Nat} (col base : Nat → Nat) (r : Nat) : trn h v col base r v = trn h v col base (r + 1) 0 := by
  funext j
  unfold trn
  have : (j < v * h ∧ (j % h < r ∨ (j % h = r ∧ j / h < v))) ↔ (j < v * h ∧ (j % h < r + 1 ∨ (j % h = r + 1 ∧ j / h < 0))) := by
    constructor
    · rintro ⟨a, b | ⟨b, d⟩⟩
      · exact ⟨a, Or.inl (by omega)⟩
      · exact ⟨a, Or.inl (by omega)⟩
    · rintro ⟨a, b | ⟨b, d⟩⟩
      · have : j / h < v := Nat.div_lt_of_lt_mul (by rw [Nat.mul_comm]; exact a)
        rcases Nat.lt_or_ge (j % h) r with z | z
        · exact ⟨a, Or.inl z⟩
        · exact ⟨a, Or.inr ⟨by omega, this⟩⟩
      · exact absurd d (Nat.not_lt_zero _)
  by_cases z : j < v * h ∧ (j % h < r ∨ (j % h = r ∧ j / h < v))
  · rw [if_pos z, if_pos (this.mp z)]
  · rw [if_neg z, if_neg (fun y => z (this.mpr y))]
theorem trn_0 {h v : Nat} (col base : Nat → Nat) : trn h v col base 0 0 = base := by
  funext j
  unfold trn
  rw [if_neg (by
    rintro ⟨a, b | ⟨b, d⟩⟩
    · exact absurd b (Nat.not_lt_zero _)
    · exact absurd d (Nat.not_lt_zero _))]
def tcl (h v : Nat) (col : Nat → Nat) : Nat → Nat := fun j => if j < v * h then col (j % h * v + j / h) else 0
theorem trn_e {h v : Nat} (h0 : 0 < h) (col : Nat → Nat) {base : Nat → Nat} (hb : ∀ j, v * h ≤ j → base j = 0) : trn h v col base h 0 = tcl h v col := by
  funext j
  unfold trn tcl
  by_cases z : j < v * h
  · rw [if_pos ⟨z, Or.inl (Nat.mod_lt _ h0)⟩, if_pos z]
  · rw [if_neg (fun y => z y.1), if_neg z, hb j (by omega)]
theorem trn_ok {h v s : Nat} {col base : Nat → Nat} (O : gok h v s col) (h0 : 0 < h) (hb : ∀ j, j < v * h → base j ≤ s) (r c : Nat) : gok v h s (trn h v col base r c) := by
  obtain ⟨o1, o2, o3, o4, o5, o6⟩ := O
  refine ⟨o2, o1, o3, o4.symm, ⟨fun z => o5.mp (o4.mpr z), fun z => o4.mp (o5.mpr z)⟩, fun j hj => ?_⟩
  unfold trn
  split
  · next q =>
    have h1 : j / h < v := Nat.div_lt_of_lt_mul (by rw [Nat.mul_comm]; exact hj)
    exact o6 _ (row_lt (Nat.mod_lt _ h0) h1)
  · exact hb j hj
section TUA
variable {n1 n2 L : Nat} {xs : Nat → Int32} {g : Nat → GR} {i : Nat → Int32} {A : Nat → Nat → Int32} {m : Nat → Int32} {B : Nat → Nat → Int32} {J : Nat → Int64} {wd : Int64} {o : Nat → Int64} {h v s : Nat} {col : Nat → Nat}
theorem cg.g13 (C : cg g 13 h v s col) : gr (mk n1 n2 L xs g i A m B J wd o) 13 14 h v s (g 13).2.2.2 := by obtain ⟨rfl, rfl, rfl, -⟩ := C; exact g13
theorem ctu_in (O : gok h v s col) (h0 : 0 < h) {r : Nat} (hr : r < h) (k64 : Nat → Int32 → am_W → Option (am_W × Int32)) : ∀ d n c g, c + d = v → d < n → cg g 13 h v s col → cg g 11 v h s (trn h v col (fun _ => 0) r c) → ∃ f', fs f' v h (trn h v col (fun _ => 0) (r + 1) 0) ∧ f_C_turn_p77 k64 n 8 (nI r) (nI c) (mk n1 n2 L xs g i A m B J wd o) = k64 8 (nI (r + 1)) (mk n1 n2 L xs (up g 11 (v, h, s, f')) i A m B J wd o) := by
  have v8 := O.2.1
  have h4 := O.2.2.1
  intro d
  induction d with
  | zero =>
    intro n c g hc hn C3 C1
    obtain ⟨n, rfl⟩ : ∃ m, n = m + 1 := ⟨n - 1, by omega⟩
    have ec : c = v := by omega
    subst ec
    refine ⟨(g 11).2.2.2, by rw [← trn_r]; exact C1.2.2.2, ?_⟩
    rw [f_C_turn_p77, rd8_2, Option.bind_some, G_wide C3.g13, Option.bind_some, if_pos (nI_le (by omega) (by omega)), nI_1]
    obtain ⟨e1, e2, e3, -⟩ := C1
    have : up g 11 (c, h, s, (g 11).2.2.2) = g := by
      have e : (c, h, s, (g 11).2.2.2) = g 11 := by rw [← e1, ← e2, ← e3]
      rw [e, up_id]
    rw [this]
  | succ d ih =>
    intro n c g hc hn C3 C1
    obtain ⟨n, rfl⟩ : ∃ m, n = m + 1 := ⟨n - 1, by omega⟩
    have hcv : c < v := by omega
    have k1 := row_lt hr hcv
    have k2 := row_lt hcv hr
    have O1 := trn_ok O h0 (base := fun _ => 0) (fun _ _ => Nat.zero_le _) r c
    obtain ⟨f', e, F⟩ := G_put (C1.g11 (n1 := n1) (n2 := n2) (L := L) (xs := xs) (i := i) (A := A) (m := m) (B := B) (J := J) (wd := wd) (o := o)) C1.2.2.2 O1 k2 (O.2.2.2.2.2 _ k1)
    rw [trn_s col _ hr hcv] at F
    rw [f_C_turn_p77, rd8_2, Option.bind_some, G_wide C3.g13, Option.bind_some, if_neg (nI_ge hcv (by omega)), rd8_1, Option.bind_some, Option.bind_some, G_cellAt C1.g11, Option.bind_some, rd8_2, Option.bind_some, Option.bind_some, G_cellAt C3.g13, Option.bind_some, G_colourOf C3.g13 C3.2.2.2 O k1, Option.bind_some, e, Option.bind_some, gp11, nI_1]
    obtain ⟨f2, F2, e2⟩ := ih n (c + 1) (up g 11 (v, h, s, f')) (by omega) (by omega) (cg_ne C3 _ (by decide)) (cg11 F)
    rw [up_up] at e2
    exact ⟨f2, F2, e2⟩
theorem ctu_out (O : gok h v s col) (h0 : 0 < h) : ∀ d n r g, r + d = h → d < n → cg g 13 h v s col → cg g 11 v h s (trn h v col (fun _ => 0) r 0) → ∃ f', fs f' v h (trn h v col (fun _ => 0) h 0) ∧ f_C_turn_p64 n 8 (nI r) (mk n1 n2 L xs g i A m B J wd o) = some (mk n1 n2 L xs (up g 11 (v, h, s, f')) i A m B J wd o, nI v) := by
  have h8 := O.1
  have v8 := O.2.1
  intro d
  induction d with
  | zero =>
    intro n r g hr hn C3 C1
    obtain ⟨n, rfl⟩ : ∃ m, n = m + 1 := ⟨n - 1, by omega⟩
    have er : r = h := by omega
    subst er
    refine ⟨(g 11).2.2.2, C1.2.2.2, ?_⟩
    rw [f_C_turn_p64, rd8_2, Option.bind_some, G_high C3.g13, Option.bind_some, if_pos (nI_le (by omega) (by omega)), rd8_1, Option.bind_some, G_high C1.g11, Option.bind_some]
    obtain ⟨e1, e2, e3, -⟩ := C1
    have : up g 11 (v, r, s, (g 11).2.2.2) = g := by
      have e : (v, r, s, (g 11).2.2.2) = g 11 := by rw [← e1, ← e2, ← e3]
      rw [e, up_id]
    rw [this]
  | succ d ih =>
    intro n r g hr hn C3 C1
    obtain ⟨n, rfl⟩ : ∃ m, n = m + 1 := ⟨n - 1, by omega⟩
    obtain ⟨f', F, e⟩ := ctu_in (n1 := n1) (n2 := n2) (L := L) (xs := xs) (i := i) (A := A) (m := m) (B := B) (J := J) (wd := wd) (o := o) O h0 (r := r) (by omega) (f_C_turn_p64 n) v am_N 0 g (by omega) (by unfold am_N; omega) C3 C1
    rw [f_C_turn_p64, rd8_2, Option.bind_some, G_high C3.g13, Option.bind_some, if_neg (nI_ge (by omega) (by omega))]
    obtain ⟨f2, F2, e2⟩ := ih n (r + 1) (up g 11 (v, h, s, f')) (by omega) (by omega) (cg_ne C3 _ (by decide)) (cg11 F)
    rw [up_up] at e2
    refine ⟨f2, F2, ?_⟩
    rw [← e2, ← e]
    rfl
theorem mtu_in (O : gok h v s col) (h0 : 0 < h) {r : Nat} (hr : r < h) (M9 : mN B 59 h v s col) (k57 : Nat → Int32 → am_W → Option (am_W × Int32)) : ∀ d n c f, c + d = v → d < n → (∀ j, j < 67 → f j = enc v h s (trn h v col col r c) j) → ∃ f', (∀ j, j < 67 → f' j = enc v h s (trn h v col col (r + 1) 0) j) ∧ f_M_turn_p69 k57 n 51 (nI r) (nI c) (mk n1 n2 L xs g i A m (up B 53 f) J wd o) = k57 51 (nI (r + 1)) (mk n1 n2 L xs g i A m (up B 53 f') J wd o) := by
  have v8 := O.2.1
  have h64 := O.hv
  intro d
  induction d with
  | zero =>
    intro n c f hc hn hf
    obtain ⟨n, rfl⟩ : ∃ m, n = m + 1 := ⟨n - 1, by omega⟩
    have ec : c = v := by omega
    subst ec
    have M9' : mN (up B 53 f) 59 h c s col := M9
    refine ⟨f, by rw [← trn_r]; exact hf, ?_⟩
    rw [f_M_turn_p69, rd51_17, Option.bind_some, (mN.gt M9').wi, Option.bind_some, if_pos (nI_le (by omega) (by omega)), nI_1]
  | succ d ih =>
    intro n c f hc hn hf
    obtain ⟨n, rfl⟩ : ∃ m, n = m + 1 := ⟨n - 1, by omega⟩
    have hcv : c < v := by omega
    have k1 := row_lt hr hcv
    have k2 := row_lt hcv hr
    have k3 : v * h = h * v := Nat.mul_comm v h
    have M9' : mN (up B 53 f) 59 h v s col := M9
    have M3 : mN (up B 53 f) 53 v h s _ := fun x hx => by rw [up_s]; exact hf x hx
    have ei : (3 : Int32) + nI h * nI c + nI r = nI (c * h + r + 3) := by rw [pk_mul, Int32.add_assoc, nI_add, three, Nat.mul_comm h c]
    rw [f_M_turn_p69, rd51_17, Option.bind_some, (mN.gt M9').wi, Option.bind_some, if_neg (nI_ge hcv (by omega)), rd51_11, Option.bind_some, Option.bind_some, (mN.gr M3).wi, Option.bind_some, Option.bind_some, M_colourAt (mN.gt M9') O hr hcv, Option.bind_some, ei, w_si ar53 (by omega) (by decide) (by decide), Option.bind_some, st53, up_s, up_up, nI_1]
    have hf2 := enc_upd v h s _ (c * h + r) (col (r * v + c)) hf
    rw [trn_s col _ hr hcv] at hf2
    exact ih n (c + 1) _ (by omega) (by omega) hf2
theorem mtu_out (O : gok h v s col) (h0 : 0 < h) (M9 : mN B 59 h v s col) : ∀ d n r f, r + d = h → d < n → (∀ j, j < 67 → f j = enc v h s (trn h v col col r 0) j) → ∃ f', (∀ j, j < 67 → f' j = enc v h s (trn h v col col h 0) j) ∧ f_M_turn_p57 n 51 (nI r) (mk n1 n2 L xs g i A m (up B 53 f) J wd o) = some (mk n1 n2 L xs g i A m (up B 53 f') J wd o, nI v) := by
  have h8 := O.1
  have v8 := O.2.1
  intro d
  induction d with
  | zero =>
    intro n r f hr hn hf
    obtain ⟨n, rfl⟩ : ∃ m, n = m + 1 := ⟨n - 1, by omega⟩
    have er : r = h := by omega
    subst er
    have M9' : mN (up B 53 f) 59 r v s col := M9
    have M3 : mN (up B 53 f) 53 v r s _ := fun x hx => by rw [up_s]; exact hf x hx
    refine ⟨f, hf, ?_⟩
    rw [f_M_turn_p57, rd51_17, Option.bind_some, (mN.gt M9').hi, Option.bind_some, if_pos (nI_le (by omega) (by omega)), M_high M3, Option.bind_some]
  | succ d ih =>
    intro n r f hr hn hf
    obtain ⟨n, rfl⟩ : ∃ m, n = m + 1 := ⟨n - 1, by omega⟩
    have M9' : mN (up B 53 f) 59 h v s col := M9
    obtain ⟨f', F, e⟩ := mtu_in (n1 := n1) (n2 := n2) (L := L) (xs := xs) (g := g) (i := i) (A := A) (m := m) (J := J) (wd := wd) (o := o) O h0 (r := r) (by omega) M9 (f_M_turn_p57 n) v am_N 0 f (by omega) (by unfold am_N; omega) hf
    rw [f_M_turn_p57, rd51_17, Option.bind_some, (mN.gt M9').hi, Option.bind_some, if_neg (nI_ge (by omega) (by omega))]
    obtain ⟨f2, F2, e2⟩ := ih n (r + 1) f' (by omega) (by omega) F
    refine ⟨f2, F2, ?_⟩
    rw [← e2, ← e]
    rfl
theorem cp1311 : f_G_copy 13 11 (mk n1 n2 L xs g i A m B J wd o) = some (mk n1 n2 L xs (up g 13 (cpG (g 11) (g 13))) i A m B J wd o, ()) := by
  rw [G_copy g13 g11 (by decide) (by decide), gp13]
  rfl
theorem cpM5359 : f_M_copy 53 0 59 0 (mk n1 n2 L xs g i A m B J wd o) = some (mk n1 n2 L xs g i A m (up B 59 (fb_put (B 59) (B 53) 0 67)) J wd o, ()) := by
  have := M_copy (w := mk n1 n2 L xs g i A m B J wd o) (o1 := 0) (o2 := 0) ar53 ar59 (by decide) (by decide) (by decide) (by decide) (by decide) (by decide)
  rw [st59, zadd] at this
  exact this
end TUA
theorem p_turn : pOk (f_C_turn 8) (f_M_turn 51) := by
  intro n1 n2 L xs g i A m B J wd o H
  obtain ⟨⟨h, v, s, col, O, C, M⟩, -, -, Hh, -⟩ := id H
  have h8 := O.1.1
  have v8 := O.1.2.1
  have h64 := O.1.hv
  have hvc : v * h = h * v := Nat.mul_comm v h
  unfold f_C_turn e_C_turn f_M_turn e_M_turn
  rcases Nat.eq_zero_or_pos h with z | h0
  · refine ⟨-1, g, i, A, ?_, up m 0 0, B, J, wd, ?_, INV_keep H (keep0 m B 0)⟩
    · rw [sf8, rd8_1, Option.bind_some, G_exists C.g11 h8, Option.bind_some]
      subst z; rfl
    · rw [sf51, wr51_0, Option.bind_some, M_high M, Option.bind_some]
      subst z; rfl
  · obtain ⟨gk, ik, Ak, eK, a1, a2, a3, m9, f9, eS, a4⟩ := keep_C Hh C O M
    have C1 : cg gk 11 h v s col := cg_of C (a1 11 (by decide))
    have C2 : cg (up gk 13 (cpG (gk 11) (gk 13))) 13 h v s col := cg_cp C1 _ _
    have C2' : cg (up gk 13 (cpG (gk 11) (gk 13))) 11 h v s col := cg_ne C1 _ (by decide)
    have hg : ∀ a, a ≠ 13 → up gk 13 (cpG (gk 11) (gk 13)) a = gk a := fun a ha => up_n _ _ ha
    obtain ⟨f', e, F⟩ := G_start (C2'.g11 (n1 := n1) (n2 := n2) (L := L) (xs := xs) (i := ik) (A := Ak) (m := m) (B := B) (J := J) (wd := wd) (o := o)) v h s (by omega)
    rw [gp11] at e
    generalize e13 : up gk 13 (cpG (gk 11) (gk 13)) = g2 at *
    obtain ⟨f2, F2, e2⟩ := ctu_out (n1 := n1) (n2 := n2) (L := L) (xs := xs) (i := ik) (A := Ak) (m := m) (B := B) (J := J) (wd := wd) (o := o) O.1 h0 h am_N 0 (up g2 11 (v, h, s, f')) (by omega) (by unfold am_N; omega) (cg_ne C2 _ (by decide)) (by rw [trn_0]; exact cg11 F)
    rw [up_up] at e2
    have te := trn_e h0 col (base := fun _ => 0) (v := v) (fun _ _ => rfl)
    have te2 := trn_e h0 col (base := col) (v := v) (fun j hj => O.2 j (by omega))
    rw [te] at F2
    have O2 : gokz v h s (tcl h v col) := ⟨by rw [← te]; exact trn_ok O.1 h0 (fun _ _ => Nat.zero_le _) h 0, fun j hj => by unfold tcl; rw [if_neg (by omega)]⟩
    have M9 : mN (up (up B 56 f9) 59 (fb_put (B 59) (B 53) 0 67)) 59 h v s col := fun j hj => by rw [up_s, fb_put_in (by omega) (by omega)]; exact M j hj
    have hf0 : ∀ j, j < 67 → upd (upd (B 53) 0 (nI v)) 1 (nI h) j = enc v h s (trn h v col col 0 0) j := by
      intro j hj
      rw [trn_0]
      rcases j with _ | _ | j
      · rfl
      · rfl
      · rw [pk_un (by omega), pk_un (by omega), M _ hj]
        rcases j with _ | j <;> rfl
    obtain ⟨f3, F3, e3⟩ := mtu_out (n1 := n1) (n2 := n2) (L := L) (xs := xs) (g := up g2 11 (v, h, s, f2)) (i := ik) (A := Ak) (m := up (up m 0 0) 19 m9) (J := J) (wd := wd) (o := o) O.1 h0 M9 h am_N 0 _ (by omega) (by unfold am_N; omega) hf0
    rw [te2] at F3
    refine ⟨nI v, up g2 11 (v, h, s, f2), ik, Ak, ?_, up (up m 0 0) 19 m9, up (up (up B 56 f9) 59 (fb_put (B 59) (B 53) 0 67)) 53 f3, J, wd, ?_, INV_act H a1 a2 a3 a4 (fun a h1 h2 => by rw [up_n _ _ h1, hg a h2]) rfl rfl rfl rfl rfl rfl rfl rfl O2 (cg11 F2) (fun j hj => by rw [up_s]; exact F3 j hj)⟩
    · rw [sf8, rd8_1, Option.bind_some, G_exists C.g11 h8, Option.bind_some, if_pos h0, if_pos (show ¬ (1 : Int32) = 0 by decide), rd8_5, Option.bind_some, rd8_1, Option.bind_some, eK, Option.bind_some, rd8_2, Option.bind_some, rd8_1, Option.bind_some, cp1311, Option.bind_some, e13, rd8_1, Option.bind_some, rd8_2, Option.bind_some, G_wide C2.g13, Option.bind_some, rd8_2, Option.bind_some, G_high C2.g13, Option.bind_some, rd8_2, Option.bind_some, G_shades C2.g13, Option.bind_some, e, Option.bind_some]
      exact e2
    · have w0 : am_ai (mk n1 n2 L xs (up g2 11 (v, h, s, f2)) ik Ak (up (up m 0 0) 19 m9) (up (up B 56 f9) 59 (fb_put (B 59) (B 53) 0 67)) J wd o) 59 1 = some (nI v) := (mN.gt M9).wi
      have s0 : am_si (mk n1 n2 L xs (up g2 11 (v, h, s, f2)) ik Ak (up (up m 0 0) 19 m9) (up (up B 56 f9) 59 (fb_put (B 59) (B 53) 0 67)) J wd o) 53 0 (nI v) = some (mk n1 n2 L xs (up g2 11 (v, h, s, f2)) ik Ak (up (up m 0 0) 19 m9) (up (up (up B 56 f9) 59 (fb_put (B 59) (B 53) 0 67)) 53 (upd (B 53) 0 (nI v))) J wd o) := by
        have := w_si (w := mk n1 n2 L xs (up g2 11 (v, h, s, f2)) ik Ak (up (up m 0 0) 19 m9) (up (up B 56 f9) 59 (fb_put (B 59) (B 53) 0 67)) J wd o) (j := 0) ar53 (by decide) (by decide) (by decide) (nI v)
        rw [st53] at this
        exact this
      have M9' : mN (up (up (up B 56 f9) 59 (fb_put (B 59) (B 53) 0 67)) 53 (upd (B 53) 0 (nI v))) 59 h v s col := M9
      have s1 : am_si (mk n1 n2 L xs (up g2 11 (v, h, s, f2)) ik Ak (up (up m 0 0) 19 m9) (up (up (up B 56 f9) 59 (fb_put (B 59) (B 53) 0 67)) 53 (upd (B 53) 0 (nI v))) J wd o) 53 1 (nI h) = some (mk n1 n2 L xs (up g2 11 (v, h, s, f2)) ik Ak (up (up m 0 0) 19 m9) (up (up (up B 56 f9) 59 (fb_put (B 59) (B 53) 0 67)) 53 (upd (upd (B 53) 0 (nI v)) 1 (nI h))) J wd o) := by
        have := w_si (w := mk n1 n2 L xs (up g2 11 (v, h, s, f2)) ik Ak (up (up m 0 0) 19 m9) (up (up (up B 56 f9) 59 (fb_put (B 59) (B 53) 0 67)) 53 (upd (B 53) 0 (nI v))) J wd o) (j := 1) ar53 (by decide) (by decide) (by decide) (nI h)
        rw [st53, up_up, up_s] at this
        exact this
      rw [sf51, wr51_0, Option.bind_some, M_high M, Option.bind_some, if_pos (nI_ne0 h0 (by omega)), eS _ _ _ _ _ _ _ (up m 0 0) B _ _ _ rfl rfl rfl, Option.bind_some, rd51_11, Option.bind_some, rd51_17, Option.bind_some, cpM5359, Option.bind_some]
      rw [show up B 56 f9 59 = B 59 from rfl, show up B 56 f9 53 = B 53 from rfl]
      rw [rd51_11, Option.bind_some, rd51_17, Option.bind_some, w0, Option.bind_some, s0, Option.bind_some, rd51_11, Option.bind_some, rd51_17, Option.bind_some, (mN.gt M9').hi, Option.bind_some, s1, Option.bind_some]
      exact e3
