/-! THE i-TH RECTANGLE -/
def sel {α : Type} (L : List (Nat × Nat × Nat × Nat)) (k : Nat) (pick : Nat × Nat × Nat × Nat → Nat) (w : am_W) (e : Option (am_W × Int32)) : Option (am_W × Int32) := match L[k]? with
  | some t => some (w, nI (pick t))
  | none => e
theorem sel_nil {α : Type} (k : Nat) (pick : Nat × Nat × Nat × Nat → Nat) (w : am_W) (e : Option (am_W × Int32)) : sel (α := α) [] k pick w e = e := rfl
theorem sel_app {α : Type} (L1 L2 : List (Nat × Nat × Nat × Nat)) (k : Nat) (pick : Nat × Nat × Nat × Nat → Nat) (w : am_W) (e : Option (am_W × Int32)) : sel (α := α) (L1 ++ L2) k pick w e = sel (α := α) L1 k pick w (sel (α := α) L2 (k - L1.length) pick w e) := by
  unfold sel
  rcases Nat.lt_or_ge k L1.length with h | h
  · rw [List.getElem?_append_left h, List.getElem?_eq_getElem h]
  · rw [List.getElem?_append_right h, List.getElem?_eq_none h]
theorem sel_in {α : Type} {L : List (Nat × Nat × Nat × Nat)} {k : Nat} (h : k < L.length) (pick : Nat × Nat × Nat × Nat → Nat) (w : am_W) (e e' : Option (am_W × Int32)) : sel (α := α) L k pick w e = sel (α := α) L k pick w e' := by
  unfold sel
  rw [List.getElem?_eq_getElem h]
theorem sel_out {α : Type} {L : List (Nat × Nat × Nat × Nat)} {k : Nat} (h : L.length ≤ k) (pick : Nat × Nat × Nat × Nat → Nat) (w : am_W) (e : Option (am_W × Int32)) : sel (α := α) L k pick w e = e := by
  unfold sel
  rw [List.getElem?_eq_none h]
theorem nI_bit {B d : Nat} (hB : B < 2 ^ 31) (hd : d < 32) : ((nI B >>> (nI d &&& 31)) &&& 1 = 0) ↔ B.testBit d = false := by
  rw [nI_shr hB hd, show (1 : Int32) = nI (2 ^ 1 - 1) from rfl, fa_mask, show (0 : Int32) = nI 0 from rfl, nI_eq (by omega) (by decide), Nat.testBit_eq_decide_div_mod_eq]
  simp
section SDA
variable {w : am_W} {g a h v s : Nat} {f : Nat → Int64} {col : Nat → Nat}
theorem cb_loop (H : gr w g a h v s f) (F : fs f h v col) (O : gok h v s col) {r q : Nat} (hr : r < h) (hq : q < h) : ∀ d n x, x + d = s → d < n → f_G_countBetween_p5 n g (nI r) (nI q) (nI (fb_sm (fun x => rowP v col (x + 1) r q) x)) (nI (x + 1)) w = some (w, nI (fb_sm (fun x => rowP v col (x + 1) r q) s)) := by
  have h4 := O.2.2.1
  have hv8 := O.2.1
  intro d
  induction d with
  | zero =>
    intro n x hx hn
    obtain ⟨n, rfl⟩ : ∃ m, n = m + 1 := ⟨n - 1, by omega⟩
    rw [f_G_countBetween_p5, H.sh, Option.bind_some, if_pos (nI_lt (by omega) (by omega)), show x = s by omega]
  | succ d ih =>
    intro n x hx hn
    obtain ⟨n, rfl⟩ : ∃ m, n = m + 1 := ⟨n - 1, by omega⟩
    rw [f_G_countBetween_p5, H.sh, Option.bind_some, if_neg (nI_nlt (by omega) (by omega)), G_cellsOf H (by omega), Option.bind_some]
    simp only [F (x + 1) (show x + 1 < 5 by omega)]
    unfold stc
    rw [G_cols H O (fun k => decide (col k = x + 1)) hr, Option.bind_some, G_cols H O (fun k => decide (col k = x + 1)) hq, Option.bind_some]
    simp only [fa_and, bs_and]
    have hct := fb_ct_le (fun k => decide (col (r * v + k) = x + 1) && decide (col (q * v + k) = x + 1)) v
    rw [I_ct _ hv8, Option.bind_some, C_pairsOf (by omega), Option.bind_some, nI_1, nI_add]
    exact ih n (x + 1) (by omega) (by omega)
theorem G_countBetween (H : gr w g a h v s f) (F : fs f h v col) (O : gok h v s col) {r q : Nat} (hr : r < h) (hq : q < h) : f_G_countBetween g (nI r) (nI q) w = some (w, nI (blk v col 0 r q).length) := by
  have h4 := O.2.2.1
  unfold f_G_countBetween e_G_countBetween
  rw [H.self, blk_all O hr]
  exact cb_loop H F O hr hq s am_N 0 (by omega) (by unfold am_N; omega)
theorem G_columnsBetween (H : gr w g a h v s f) (F : fs f h v col) (O : gok h v s col) {r q c : Nat} (hr : r < h) (hq : q < h) (hc : c < v) : ∃ B, B < 256 ∧ f_G_columnsBetween g (nI r) (nI q) (nI c) w = some (w, nI B) ∧ ∀ d, d < v → B.testBit d = okc 0 (fr v col r q c d) := by
  have h4 := O.2.2.1
  have hv8 := O.2.1
  have k1 := row_lt hr hc
  have k2 := row_lt hq hc
  have o1 := O.2.2.2.2.2 _ k1
  have o2 := O.2.2.2.2.2 _ k2
  unfold f_G_columnsBetween e_G_columnsBetween f_G_columnsBetween_p32
  rw [H.self, G_cellAt H, Option.bind_some, G_colourOf H F O k1, Option.bind_some]
  by_cases z1 : col (r * v + c) = 0
  · refine ⟨0, by decide, ?_, fun d hd => ?_⟩
    · rw [z1]; exact if_pos (show (w, nI 0).snd = 0 from rfl)
    · rw [Nat.zero_testBit]
      symm
      rw [← Bool.not_eq_true, okc_0]
      intro hh
      have := (fr_iff v col r q c d hh).mp rfl
      omega
  · rw [if_neg (nI_ne0 (by omega) (by omega)), G_cellAt H, Option.bind_some, G_colourOf H F O k2, Option.bind_some]
    simp only []
    by_cases z2 : col (r * v + c) = col (q * v + c)
    · rw [if_pos (by rw [z2]), G_cellsOf H (by omega), Option.bind_some]
      simp only [F (col (r * v + c)) (show col (r * v + c) < 5 by omega)]
      unfold stc
      rw [G_cols H O (fun k => decide (col k = col (r * v + c))) hr, Option.bind_some, G_cols H O (fun k => decide (col k = col (r * v + c))) hq, Option.bind_some]
      simp only [fa_and, bs_and]
      refine ⟨_, bs256 _ hv8, rfl, fun d hd => ?_⟩
      rw [bs_bit, Bool.eq_iff_iff, okc_0]
      simp only [hd, decide_true, Bool.true_and, Bool.and_eq_true, decide_eq_true_eq]
      constructor
      · rintro ⟨y1, y2⟩
        rw [(fr_iff v col r q c d z1).mpr ⟨rfl, y1, z2.symm, y2⟩]
        exact z1
      · intro hh
        have := (fr_iff v col r q c d hh).mp rfl
        exact ⟨by omega, by omega⟩
    · refine ⟨0, by decide, ?_, fun d hd => ?_⟩
      · rw [if_neg (by rw [nI_eq (by omega) (by omega)]; exact z2)]; rfl
      · rw [Nat.zero_testBit]
        symm
        rw [← Bool.not_eq_true, okc_0]
        intro hh
        have := (fr_iff v col r q c d hh).mp rfl
        omega
def pk4 (b : Bool) (t : Nat × Nat × Nat × Nat) : Nat := if b then t.2.2.1 else t.2.2.2
theorem col_in (H : gr w g a h v s f) (O : gok h v s col) {r q c i B : Nat} (b : Bool) (hi : i < 30000) (hB : B < 256) (hb : ∀ d, d < v → B.testBit d = okc 0 (fr v col r q c d)) (hc : c < v) (k6 : Nat → Int32 → Int32 → Int32 → Int32 → Int32 → Int32 → am_W → Option (am_W × Int32)) :
    ∀ m n A d, d + m = v → m < n → A ≤ i → f_G_columnBetween_p31 k6 n g (nI r) (nI q) (nI i) (if b then 1 else 0) (nI A) (nI c) (nI B) (nI d) w = sel (α := Unit) (enum (fun d => if okc 0 (fr v col r q c d) then [(r, q, c, d)] else []) d m) (i - A) (pk4 b) w (k6 g (nI r) (nI q) (nI i) (if b then 1 else 0) (nI (A + (enum (fun d => if okc 0 (fr v col r q c d) then [(r, q, c, d)] else []) d m).length)) (nI (c + 1)) w) := by
  have hv8 := O.2.1
  intro m
  induction m with
  | zero =>
    intro n A d hd hn hA
    obtain ⟨n, rfl⟩ : ∃ m, n = m + 1 := ⟨n - 1, by omega⟩
    rw [f_G_columnBetween_p31, H.wi, Option.bind_some, if_pos (nI_le (by omega) (by omega)), nI_1]
    rfl
  | succ m ih =>
    intro n A d hd hn hA
    obtain ⟨n, rfl⟩ : ∃ m, n = m + 1 := ⟨n - 1, by omega⟩
    have hdv : d < v := by omega
    rw [f_G_columnBetween_p31, H.wi, Option.bind_some, if_neg (nI_ge hdv (by omega)), enum, sel_app]
    unfold f_G_columnBetween_p72
    by_cases z : okc 0 (fr v col r q c d) = true
    · rw [if_neg (by rw [nI_bit (by omega) (by omega), hb d hdv, z]; decide), if_pos z]
      by_cases z2 : A = i
      · rw [if_neg (by rw [z2]; simp)]
        subst z2
        rw [Nat.sub_self]
        cases b <;> rfl
      · rw [if_pos (by rw [nI_eq (by omega) (by omega)]; exact z2), nI_1, nI_1, ih n (A + 1) (d + 1) (by omega) (by omega) (by omega)]
        rw [sel_out (L := [(r, q, c, d)]) (by simp; omega)]
        simp only [List.length_cons, List.length_nil, List.length_append]
        rw [show i - A - (0 + 1) = i - (A + 1) by omega, show A + 1 + (enum (fun d => if okc 0 (fr v col r q c d) = true then [(r, q, c, d)] else []) (d + 1) m).length = A + (0 + 1 + (enum (fun d => if okc 0 (fr v col r q c d) = true then [(r, q, c, d)] else []) (d + 1) m).length) by omega]
    · rw [if_pos (by rw [nI_bit (by omega) (by omega), hb d hdv]; simpa using z), if_neg z, nI_1, ih n A (d + 1) (by omega) (by omega) hA]
      rfl
theorem col_out (H : gr w g a h v s f) (F : fs f h v col) (O : gok h v s col) {r q i : Nat} (b : Bool) (hi : i < 30000) (hr : r < h) (hq : q < h) :
    ∀ m n A c, c + m = v → m < n → A ≤ i → f_G_columnBetween_p6 n g (nI r) (nI q) (nI i) (if b then 1 else 0) (nI A) (nI c) w = sel (α := Unit) (enum (blC v col 0 r q) c m) (i - A) (pk4 b) w (some (w, -1)) := by
  have hv8 := O.2.1
  intro m
  induction m with
  | zero =>
    intro n A c hd hn hA
    obtain ⟨n, rfl⟩ : ∃ m, n = m + 1 := ⟨n - 1, by omega⟩
    rw [f_G_columnBetween_p6, H.wi, Option.bind_some, if_pos (nI_le (by omega) (by omega))]
    rfl
  | succ m ih =>
    intro n A c hd hn hA
    obtain ⟨n, rfl⟩ : ∃ m, n = m + 1 := ⟨n - 1, by omega⟩
    have hc : c < v := by omega
    obtain ⟨B, hB, e1, hb⟩ := G_columnsBetween H F O hr hq hc
    rw [f_G_columnBetween_p6, H.wi, Option.bind_some, if_neg (nI_ge hc (by omega)), e1, Option.bind_some, nI_1]
    simp only []
    rw [col_in H O b hi hB hb hc (f_G_columnBetween_p6 n) (v - (c + 1)) am_N A (c + 1) (by omega) (by unfold am_N; omega) hA, enum, sel_app]
    rcases Nat.lt_or_ge (i - A) (blC v col 0 r q c).length with z | z
    · exact sel_in z _ _ _ _
    · unfold blC at z ⊢
      rw [sel_out z, sel_out z, ih n _ (c + 1) (by omega) (by omega) (by omega)]
      rw [show i - (A + (enum (fun d => if okc 0 (fr v col r q c d) = true then [(r, q, c, d)] else []) (c + 1) (v - (c + 1))).length) = i - A - (enum (fun d => if okc 0 (fr v col r q c d) = true then [(r, q, c, d)] else []) (c + 1) (v - (c + 1))).length by omega]
      rfl
theorem G_columnBetween (H : gr w g a h v s f) (F : fs f h v col) (O : gok h v s col) {r q i : Nat} (b : Bool) (hi : i < 30000) (hr : r < h) (hq : q < h) : f_G_columnBetween g (nI r) (nI q) (nI i) (if b then 1 else 0) w = sel (α := Unit) (blk v col 0 r q) i (pk4 b) w (some (w, -1)) := by
  have hv8 := O.2.1
  unfold f_G_columnBetween e_G_columnBetween
  rw [H.self]
  exact col_out H F O b hi hr hq v am_N 0 0 (by omega) (by unfold am_N; omega) (Nat.zero_le _)
def pkw (wh : Nat) (t : Nat × Nat × Nat × Nat) : Nat := if wh = 0 then t.1 else if wh = 1 then t.2.1 else if wh = 2 then t.2.2.1 else t.2.2.2
theorem blk_rq {v : Nat} {col : Nat → Nat} {x r q : Nat} {t : Nat × Nat × Nat × Nat} (h : t ∈ blk v col x r q) : t.1 = r ∧ t.2.1 = q := by
  unfold blk blC at h
  obtain ⟨c, -, -, h⟩ := enum_mem.mp h
  obtain ⟨d, -, -, h⟩ := enum_mem.mp h
  split at h
  · rw [List.mem_singleton] at h; rw [h]; exact ⟨rfl, rfl⟩
  · cases h
theorem sel_pick {α : Type} {L : List (Nat × Nat × Nat × Nat)} {k y : Nat} {pick : Nat × Nat × Nat × Nat → Nat} (h : k < L.length) (hp : ∀ t ∈ L, pick t = y) (w : am_W) (e : Option (am_W × Int32)) : sel (α := α) L k pick w e = some (w, nI y) := by
  unfold sel
  rw [List.getElem?_eq_getElem h]
  show some (w, nI (pick L[k])) = _
  rw [hp _ (List.getElem_mem h)]
theorem sel_same {α : Type} {L : List (Nat × Nat × Nat × Nat)} {k : Nat} {pick pick' : Nat × Nat × Nat × Nat → Nat} (h : k < L.length) (hp : ∀ t, pick t = pick' t) (w : am_W) (e e' : Option (am_W × Int32)) : sel (α := α) L k pick w e = sel (α := α) L k pick' w e' := by
  unfold sel
  rw [List.getElem?_eq_getElem h]
  show some (w, nI (pick L[k])) = some (w, nI (pick' L[k]))
  rw [hp]
theorem side_in (H : gr w g a h v s f) (F : fs f h v col) (O : gok h v s col) {r i wh : Nat} (hi : i < 2 ^ 31) (hwh : wh < 4) (hr : r < h) (k5 : Nat → Int32 → Int32 → Int32 → Int32 → am_W → Option (am_W × Int32)) :
    ∀ m n A q, q + m = h → m < n → A ≤ i → A + 64 * m ≤ 30000 → f_G_sideOf_p20 k5 n g (nI i) (nI wh) (nI A) (nI r) (nI q) w = sel (α := Unit) (enum (blk v col 0 r) q m) (i - A) (pkw wh) w (k5 g (nI i) (nI wh) (nI (A + (enum (blk v col 0 r) q m).length)) (nI (r + 1)) w) := by
  have h8 := O.1
  have hv8 := O.2.1
  intro m
  induction m with
  | zero =>
    intro n A q hd hn hA hA2
    obtain ⟨n, rfl⟩ : ∃ m, n = m + 1 := ⟨n - 1, by omega⟩
    rw [f_G_sideOf_p20, H.hi, Option.bind_some, if_pos (nI_le (by omega) (by omega)), nI_1]
    rfl
  | succ m ih =>
    intro n A q hd hn hA hA2
    obtain ⟨n, rfl⟩ : ∃ m, n = m + 1 := ⟨n - 1, by omega⟩
    have hq : q < h := by omega
    have hl := blk_le v col 0 r q hv8
    rw [f_G_sideOf_p20, H.hi, Option.bind_some, if_neg (nI_ge hq (by omega)), G_countBetween H F O hr hq, Option.bind_some, nI_add, enum, sel_app]
    simp only []
    rcases Nat.lt_or_ge (i - A) (blk v col 0 r q).length with z | z
    · rw [if_neg (nI_ge (by omega) (by omega))]
      unfold f_G_sideOf_p84 f_G_sideOf_p87
      rcases (show wh = 0 ∨ wh = 1 ∨ wh = 2 ∨ wh = 3 by omega) with rfl | rfl | rfl | rfl
      · rw [if_neg (by decide), sel_pick (pick := pkw 0) z (fun t ht => (blk_rq ht).1)]
      · rw [if_pos (by decide), if_neg (by decide), sel_pick (pick := pkw 1) z (fun t ht => (blk_rq ht).2)]
      · rw [if_pos (by decide), if_pos (by decide), if_neg (by decide), pk_sub hA]
        have e := G_columnBetween H F O true (i := i - A) (by omega) hr hq
        rw [if_pos rfl] at e
        rw [e]
        unfold sel
        rw [List.getElem?_eq_getElem z]
        rfl
      · rw [if_pos (by decide), if_pos (by decide), if_pos (by decide), pk_sub hA]
        have e := G_columnBetween H F O false (i := i - A) (by omega) hr hq
        rw [if_neg (by decide)] at e
        rw [e]
        unfold sel
        rw [List.getElem?_eq_getElem z]
        rfl
    · rw [if_pos (nI_le (by omega) hi), nI_1, ih n _ (q + 1) (by omega) (by omega) (by omega) (by omega), sel_out z, List.length_append]
      rw [show i - (A + (blk v col 0 r q).length) = i - A - (blk v col 0 r q).length by omega, Nat.add_assoc]
theorem side_out (H : gr w g a h v s f) (F : fs f h v col) (O : gok h v s col) {i wh : Nat} (hi : i < 2 ^ 31) (hwh : wh < 4) :
    ∀ m n A r, r + m = h → m < n → A ≤ i → A + 512 * m ≤ 30000 → f_G_sideOf_p5 n g (nI i) (nI wh) (nI A) (nI r) w = sel (α := Unit) (enum (rcR h v col 0) r m) (i - A) (pkw wh) w (some (w, -1)) := by
  have h8 := O.1
  have hv8 := O.2.1
  intro m
  induction m with
  | zero =>
    intro n A r hd hn hA hA2
    obtain ⟨n, rfl⟩ : ∃ m, n = m + 1 := ⟨n - 1, by omega⟩
    rw [f_G_sideOf_p5, H.hi, Option.bind_some, if_pos (nI_le (by omega) (by omega))]
    rfl
  | succ m ih =>
    intro n A r hd hn hA hA2
    obtain ⟨n, rfl⟩ : ∃ m, n = m + 1 := ⟨n - 1, by omega⟩
    have hr : r < h := by omega
    have hl : (enum (blk v col 0 r) (r + 1) (h - (r + 1))).length ≤ 512 := by
      rw [enum_len]
      have h1 : fb_sm (fun j => (blk v col 0 r (r + 1 + j)).length) (h - (r + 1)) ≤ fb_sm (fun _ => 64) (h - (r + 1)) := fb_sm_le (fun j _ => blk_le v col 0 r _ hv8)
      rw [fb_sm_const] at h1
      omega
    rw [f_G_sideOf_p5, H.hi, Option.bind_some, if_neg (nI_ge hr (by omega)), nI_1, side_in H F O hi hwh hr (f_G_sideOf_p5 n) (h - (r + 1)) am_N A (r + 1) (by omega) (by unfold am_N; omega) hA (by omega), enum, sel_app]
    rcases Nat.lt_or_ge (i - A) (rcR h v col 0 r).length with z | z
    · exact sel_in z _ _ _ _
    · unfold rcR at z ⊢
      rw [sel_out z, sel_out z, ih n _ (r + 1) (by omega) (by omega) (by omega) (by omega)]
      rw [show i - (A + (enum (blk v col 0 r) (r + 1) (h - (r + 1))).length) = i - A - (enum (blk v col 0 r) (r + 1) (h - (r + 1))).length by omega]
      rfl
theorem G_sideOf (H : gr w g a h v s f) (F : fs f h v col) (O : gok h v s col) {i wh : Nat} (hi : i < 2 ^ 31) (hwh : wh < 4) : f_G_sideOf g (nI i) (nI wh) w = sel (α := Unit) (rcs h v col 0) i (pkw wh) w (some (w, -1)) := by
  have h8 := O.1
  unfold f_G_sideOf e_G_sideOf
  rw [H.self]
  exact side_out H F O hi hwh h am_N 0 0 (by omega) (by unfold am_N; omega) (Nat.zero_le _) (by omega)
end SDA
