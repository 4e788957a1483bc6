/-! SHELVES AND THE HISTORY -/
def cpG (x y : GR) : GR := (x.1, x.2.1, x.2.2.1, mixL x.2.2.2 y.2.2.2 5)
theorem cg_cp {g : Nat → GR} {a h v s : Nat} {col : Nat → Nat} (C : cg g a h v s col) (y : GR) (b : Nat) : cg (up g b (cpG (g a) y)) b h v s col := by
  unfold cg
  rw [up_s]
  exact ⟨C.1, C.2.1, C.2.2.1, fs_mix C.2.2.2⟩
theorem cg_ne {g : Nat → GR} {a h v s : Nat} {col : Nat → Nat} (C : cg g a h v s col) (y : GR) {b : Nat} (hb : a ≠ b) : cg (up g b y) a h v s col := by
  unfold cg
  rw [up_n g y hb]
  exact C
section HSA
variable {n1 n2 L : Nat} {xs : Nat → Int32} {g : Nat → GR} {i : Nat → Int32} {A : Nat → Nat → Int32} {m : Nat → Int32} {B : Nat → Nat → Int32} {J : Nat → Int64} {wd : Int64} {o : Nat → Int64}
theorem l8 {l : Nat} (hl : l < 8) {P : Nat → Prop} (h0 : P 0) (h1 : P 1) (h2 : P 2) (h3 : P 3) (h4 : P 4) (h5 : P 5) (h6 : P 6) (h7 : P 7) : P l := by
  rcases (show l = 0 ∨ l = 1 ∨ l = 2 ∨ l = 3 ∨ l = 4 ∨ l = 5 ∨ l = 6 ∨ l = 7 by omega) with rfl | rfl | rfl | rfl | rfl | rfl | rfl | rfl <;> assumption
theorem gh {l : Nat} (hl : l < 8) : gr (mk n1 n2 L xs g i A m B J wd o) (28 + 2 * l) (29 + 2 * l) (g (28 + 2 * l)).1 (g (28 + 2 * l)).2.1 (g (28 + 2 * l)).2.2.1 (g (28 + 2 * l)).2.2.2 :=
  l8 hl (P := fun l => gr (mk n1 n2 L xs g i A m B J wd o) (28 + 2 * l) (29 + 2 * l) (g (28 + 2 * l)).1 (g (28 + 2 * l)).2.1 (g (28 + 2 * l)).2.2.1 (g (28 + 2 * l)).2.2.2) g28 g30 g32 g34 g36 g38 g40 g42
theorem gph {l : Nat} (hl : l < 8) (h v s : Nat) (f : Nat → Int64) : gput (mk n1 n2 L xs g i A m B J wd o) (28 + 2 * l) (29 + 2 * l) h v s f = mk n1 n2 L xs (up g (28 + 2 * l) (h, v, s, f)) i A m B J wd o :=
  l8 hl (P := fun l => gput (mk n1 n2 L xs g i A m B J wd o) (28 + 2 * l) (29 + 2 * l) h v s f = mk n1 n2 L xs (up g (28 + 2 * l) (h, v, s, f)) i A m B J wd o) (gp28 h v s f) (gp30 h v s f) (gp32 h v s f) (gp34 h v s f) (gp36 h v s f) (gp38 h v s f) (gp40 h v s f) (gp42 h v s f)
theorem ax26 {l : Nat} (hl : l < 8) : am_ax (mk n1 n2 L xs g i A m B J wd o) 26 (nI l) = some (28 + 2 * l) := by
  have h1 : am_ax (mk n1 n2 L xs g i A m B J wd o) 26 (nI l) = hf8 l := by
    simp only [am_ax, ar26]
    rw [if_neg (nI_in hl (by decide)), nI_clamp (by omega)]
  rw [h1]
  exact l8 hl (P := fun l => hf8 l = some (28 + 2 * l)) rfl rfl rfl rfl rfl rfl rfl rfl
theorem F_hasPlace25 {l : Nat} (hl : l < 8) : f_F_hasPlace 25 (nI l) (mk n1 n2 L xs g i A m B J wd o) = some (mk n1 n2 L xs g i A m B J wd o, 1) := by
  unfold f_F_hasPlace e_F_hasPlace
  have e1 : am_al (mk n1 n2 L xs g i A m B J wd o) 26 = some (nI 8) := r_al ar26 (by decide)
  have e2 : am_al (mk n1 n2 L xs g i A m B J wd o) 27 = some (nI 8) := r_al ar27 (by decide)
  rw [sf25, if_neg (nI_pos (by omega)), rd25_0, Option.bind_some, e1, Option.bind_some, if_neg (nI_ge hl (by decide)), rd25_1, Option.bind_some, e2, Option.bind_some, if_neg (nI_ge hl (by decide)), Option.bind_some, ax26 hl, Option.bind_some]
  rfl
theorem F_store25 {l : Nat} (hl : l < 8) : f_F_store 25 (nI l) 11 (mk n1 n2 L xs g i A m B J wd o) = some (mk n1 n2 L xs (up g (28 + 2 * l) (cpG (g 11) (g (28 + 2 * l)))) i (up A 27 (upd (A 27) l 1)) m B J wd o, 1) := by
  unfold f_F_store e_F_store
  rw [sf25, F_hasPlace25 hl, Option.bind_some, if_pos (show ¬ (1 : Int32) = 0 by decide), rd25_0, Option.bind_some, ax26 hl, Option.bind_some, G_copy (gh hl) g11 (by omega) (by omega), Option.bind_some, gph hl]
  simp only []
  rw [rd25_1, Option.bind_some, w_sz ar27 hl (by decide) (by decide), Option.bind_some, st27]
  rfl
theorem F_fetch25 {l : Nat} (hl : l < 8) (hA : A 27 l = 1) : f_F_fetch 25 (nI l) 11 (mk n1 n2 L xs g i A m B J wd o) = some (mk n1 n2 L xs (up g 11 (cpG (g (28 + 2 * l)) (g 11))) i A m B J wd o, 1) := by
  unfold f_F_fetch e_F_fetch
  rw [sf25, F_hasPlace25 hl, Option.bind_some, if_neg (show ¬ (1 : Int32) = 0 by decide), rd25_1, Option.bind_some, r_az ar27 hl (by decide), Option.bind_some, hA, if_pos (show ¬ (1 : Int32) = 0 by decide), rd25_0, Option.bind_some, ax26 hl, Option.bind_some, G_copy g11 (gh hl) (by omega) (by omega), Option.bind_some, gp11]
  rfl
theorem rem8 {n : Nat} (hn : n < 2 ^ 30) : nI n - nI n / 8 * 8 = nI (n % 8) := pk_rem (d := 8) (by omega) (by decide) (by decide)
theorem H_keep {lat n : Nat} (hl : lat < 8) (hn : n ≤ 8) (e1 : i 193 = nI lat) (e2 : i 194 = nI n) : f_H_keep 24 11 (mk n1 n2 L xs g i A m B J wd o) = some (mk n1 n2 L xs (up g (28 + 2 * ((lat + 1) % 8)) (cpG (g 11) (g (28 + 2 * ((lat + 1) % 8))))) (up (up i 193 (nI ((lat + 1) % 8))) 194 (nI (min (n + 1) 8))) (up A 27 (upd (A 27) ((lat + 1) % 8) 1)) m B J wd o, ()) := by
  unfold f_H_keep e_H_keep
  rw [sf24, rd24_1, Option.bind_some, if_neg (by decide), e1, nI_1, rem8 (by omega), wr24_1, Option.bind_some, rd24_0, Option.bind_some, rd24_1, Option.bind_some, up_s, F_store25 (by omega), Option.bind_some, rd24_2, Option.bind_some]
  rw [up_n i _ (by decide), e2, nI_1]
  have e3 : am_min (nI (n + 1)) 8 = nI (min (n + 1) 8) := by
    unfold am_min
    rcases Nat.lt_or_ge 8 (n + 1) with q | q
    · have h8 : (8 : Int32) < nI (n + 1) := nI_lt (a := 8) q (by omega)
      rw [if_pos h8, show min (n + 1) 8 = 8 by omega]
      rfl
    · have h8 : ¬ (8 : Int32) < nI (n + 1) := nI_nlt (a := 8) q (by omega)
      rw [if_neg h8, show min (n + 1) 8 = n + 1 by omega]
  rw [e3, wr24_2, Option.bind_some]
/-- the model's shelf of acts -/
def snapF (n : Nat) (S N : Nat → Int32) : Nat → Int32 := if n = 8 then fb_put (fun j => if j < 469 then S (j + 67) else S j) N 469 67 else fb_put S N (67 * n) 67
theorem snapF_new {n : Nat} (hn : n ≤ 8) (S N : Nat → Int32) {j : Nat} (hj : j < 67) : snapF n S N (67 * (min (n + 1) 8 - 1) + j) = N j := by
  unfold snapF
  by_cases q : n = 8
  · subst q
    rw [if_pos rfl, show 67 * (min (8 + 1) 8 - 1) + j = 469 + j by omega, fb_put_in (by omega) (by omega), Nat.add_sub_cancel_left]
  · rw [if_neg q, show 67 * (min (n + 1) 8 - 1) + j = 67 * n + j by rw [show min (n + 1) 8 - 1 = n by omega], fb_put_in (by omega) (by omega), Nat.add_sub_cancel_left]
theorem snapF_old {n : Nat} (hn : n ≤ 8) (S N : Nat → Int32) {k j : Nat} (hk : k + 1 < min (n + 1) 8) (hj : j < 67) : snapF n S N (67 * k + j) = S (67 * (if n = 8 then k + 1 else k) + j) := by
  unfold snapF
  by_cases q : n = 8
  · subst q
    rw [if_pos rfl, fb_put_out (by omega), if_pos (by omega), if_pos rfl, show 67 * k + j + 67 = 67 * (k + 1) + j by omega]
  · rw [if_neg q, fb_put_out (by omega), if_neg q]
theorem shift_lp : ∀ d n k (f : Nat → Int32) (m : Nat → Int32), k + d = 469 → d < n → (∀ j, f j = if j < k then B 56 (j + 67) else B 56 j) → m 19 = nI 8 → ∃ f', (∀ j, f' j = if j < 469 then B 56 (j + 67) else B 56 j) ∧
      f_M_snap_p11 n 51 (nI k) (mk n1 n2 L xs g i A m (up B 56 f) J wd o) = f_M_snap_p49 51 (mk n1 n2 L xs g i A (up m 19 (nI 7)) (up B 56 f') J wd o) := by
  intro d
  induction d with
  | zero =>
    intro n k f m hk hn hf hm
    obtain ⟨n, rfl⟩ : ∃ m, n = m + 1 := ⟨n - 1, by omega⟩
    have e : (469 : Int32) ≤ nI k := nI_le (a := 469) (by omega) (by omega)
    refine ⟨f, fun j => by rw [hf j, show k = 469 by omega], ?_⟩
    rw [f_M_snap_p11, if_pos e, rd51_19, Option.bind_some, hm, wr51_19, Option.bind_some]
    rfl
  | succ d ih =>
    intro n k f m hk hn hf hm
    obtain ⟨n, rfl⟩ : ∃ m, n = m + 1 := ⟨n - 1, by omega⟩
    have e : ¬ (469 : Int32) ≤ nI k := nI_ge (b := 469) (by omega) (by decide)
    have e67 : nI k + 67 = nI (k + 67) := by rw [show (67 : Int32) = nI 67 from rfl, nI_add]
    rw [f_M_snap_p11, if_neg e, rd51_14, Option.bind_some, Option.bind_some, e67, r_ai ar56 (by omega) (by decide), Option.bind_some, w_si ar56 (by omega) (by decide) (by decide), Option.bind_some, st56, up_s, up_up, nI_1]
    refine ih n (k + 1) _ m (by omega) (by omega) (fun j => ?_) hm
    by_cases q : j = k
    · subst q
      rw [pk_us, if_pos (by omega), hf, if_neg (by omega)]
    · rw [pk_un q, hf j]
      by_cases z : j < k
      · rw [if_pos z, if_pos (by omega)]
      · rw [if_neg z, if_neg (by omega)]
theorem M_snap {n : Nat} (hn : n ≤ 8) (hm : m 19 = nI n) : f_M_snap 51 (mk n1 n2 L xs g i A m B J wd o) = some (mk n1 n2 L xs g i A (up m 19 (nI (min (n + 1) 8))) (up B 56 (snapF n (B 56) (B 53))) J wd o, ()) := by
  unfold f_M_snap e_M_snap snapF
  rw [sf51, rd51_19, Option.bind_some, hm]
  by_cases q : n = 8
  · subst q
    rw [if_neg (by decide), if_pos rfl]
    obtain ⟨f1, h1, e1⟩ := shift_lp (n1 := n1) (n2 := n2) (L := L) (xs := xs) (g := g) (i := i) (A := A) (B := B) (J := J) (wd := wd) (o := o) 469 am_N 0 (B 56) m (by omega) (by unfold am_N; omega) (fun j => by rw [if_neg (by omega)]) hm
    rw [up_id] at e1
    have ef : f1 = fun j => if j < 469 then B 56 (j + 67) else B 56 j := funext h1
    rw [show (0 : Int32) = nI 0 from rfl, e1]
    unfold f_M_snap_p49
    rw [rd51_11, Option.bind_some, rd51_14, Option.bind_some, rd51_19, Option.bind_some, up_s]
    rw [show (67 : Int32) * nI 7 = nI 469 by decide]
    rw [show (0 : Int32) = nI 0 from rfl, M_copy (o1 := 0) (o2 := 469) ar53 ar56 (by decide) (by decide) (by decide) (by decide) (by decide) (by decide), Option.bind_some, st56]
    simp only []
    rw [rd51_19, Option.bind_some, wr51_19, Option.bind_some, up_up, up_s, up_up, up_s, up_n B _ (by decide), ef]
    have ez : (fun k => B 53 (0 + k)) = B 53 := funext (fun k => by rw [Nat.zero_add])
    rw [ez]
    rfl
  · rw [if_pos (by rw [show (8 : Int32) = nI 8 from rfl, nI_eq (by omega) (by decide)]; exact q), if_neg q]
    unfold f_M_snap_p49
    rw [rd51_11, Option.bind_some, rd51_14, Option.bind_some, rd51_19, Option.bind_some, hm, show (67 : Int32) = nI 67 from rfl, pk_mul, show min (n + 1) 8 = n + 1 by omega]
    rw [show (0 : Int32) = nI 0 from rfl, M_copy (o1 := 0) (o2 := 67 * n) ar53 ar56 (by decide) (by decide) (by decide) (by omega) (by decide) (by decide), Option.bind_some, st56]
    simp only []
    have ez : (fun k => B 53 (0 + k)) = B 53 := funext (fun k => by rw [Nat.zero_add])
    rw [rd51_19, Option.bind_some, wr51_19, Option.bind_some, hm, nI_1, ez]
end HSA
/-- a grid that is well made, and blank behind its cells -/
def gokz (h v s : Nat) (col : Nat → Nat) : Prop := gok h v s col ∧ ∀ k, h * v ≤ k → col k = 0
/-- the acts that can be undone, the same on both sides -/
def hsl (lat n k : Nat) : Nat := (lat + 8 - (n - 1 - k)) % 8
def HI (g : Nat → GR) (i : Nat → Int32) (A : Nat → Nat → Int32) (m : Nat → Int32) (B : Nat → Nat → Int32) : Prop := ∃ n lat, n ≤ 8 ∧ lat < 8 ∧ i 193 = nI lat ∧ i 194 = nI n ∧ m 19 = nI n ∧
  ∀ k, k < n → ∃ h v s col, gokz h v s col ∧ cg g (28 + 2 * hsl lat n k) h v s col ∧ A 27 (hsl lat n k) = 1 ∧ ∀ j, j < 67 → B 56 (67 * k + j) = enc h v s col j
theorem HI_forget {g : Nat → GR} {i : Nat → Int32} {A : Nat → Nat → Int32} {m : Nat → Int32} {B : Nat → Nat → Int32} (H : HI g i A m B) {i' m' : Nat → Int32} (g' : Nat → GR) (A' B' : Nat → Nat → Int32) (h1 : i' 193 = i 193) (h2 : i' 194 = 0) (h3 : m' 19 = 0) : HI g' i' A' m' B' := by
  obtain ⟨n, lat, hn, hl, e1, e2, e3, hk⟩ := H
  exact ⟨0, lat, by omega, hl, by rw [h1, e1], h2, h3, fun k hk => by omega⟩
theorem HI_same {g g' : Nat → GR} {i i' : Nat → Int32} {A A' : Nat → Nat → Int32} {m m' : Nat → Int32} {B B' : Nat → Nat → Int32} (H : HI g i A m B) (h1 : i' 193 = i 193) (h2 : i' 194 = i 194) (h3 : m' 19 = m 19) (h4 : A' 27 = A 27) (h5 : B' 56 = B 56) (h6 : ∀ l, l < 8 → g' (28 + 2 * l) = g (28 + 2 * l)) : HI g' i' A' m' B' := by
  obtain ⟨n, lat, hn, hl, e1, e2, e3, hk⟩ := H
  refine ⟨n, lat, hn, hl, by rw [h1, e1], by rw [h2, e2], by rw [h3, e3], fun k hk' => ?_⟩
  obtain ⟨h, v, s, col, O, C, a1, b1⟩ := hk k hk'
  refine ⟨h, v, s, col, O, ?_, by rw [h4, a1], fun j hj => by rw [h5, b1 j hj]⟩
  unfold cg
  rw [h6 (hsl lat n k) (Nat.mod_lt _ (by decide))]
  exact C
section HSB
variable {n1 n2 L : Nat} {xs : Nat → Int32} {g : Nat → GR} {i : Nat → Int32} {A : Nat → Nat → Int32} {m : Nat → Int32} {B : Nat → Nat → Int32} {J : Nat → Int64} {wd : Int64} {o : Nat → Int64} {h v s : Nat} {col : Nat → Nat}
/-- what the class does to keep an act; the world's other things stay -/
theorem keep_C {g : Nat → GR} {i : Nat → Int32} {A : Nat → Nat → Int32} {m : Nat → Int32} {B : Nat → Nat → Int32} {h v s : Nat} {col : Nat → Nat} (H : HI g i A m B) (C : cg g 11 h v s col) (O : gokz h v s col) (M : mN B 53 h v s col) : ∃ g' i' A', (∀ (n1 n2 L : Nat) (xs : Nat → Int32) (m : Nat → Int32) (B : Nat → Nat → Int32) (J : Nat → Int64) (wd : Int64) (o : Nat → Int64), f_H_keep 24 11 (mk n1 n2 L xs g i A m B J wd o) = some (mk n1 n2 L xs g' i' A' m B J wd o, ())) ∧
    (∀ a, a < 28 ∨ 44 ≤ a → g' a = g a) ∧ (∀ a, a ≠ 193 → a ≠ 194 → i' a = i a) ∧ (∀ a, a ≠ 27 → A' a = A a) ∧
    ∃ m9 f9, (∀ (n1 n2 L : Nat) (xs : Nat → Int32) (g : Nat → GR) (i : Nat → Int32) (A : Nat → Nat → Int32) (m' : Nat → Int32) (B' : Nat → Nat → Int32) (J : Nat → Int64) (wd : Int64) (o : Nat → Int64), m' 19 = m 19 → B' 53 = B 53 → B' 56 = B 56 → f_M_snap 51 (mk n1 n2 L xs g i A m' B' J wd o) = some (mk n1 n2 L xs g i A (up m' 19 m9) (up B' 56 f9) J wd o, ())) ∧
    ∀ g'' i'' A'' m'' B'', (∀ l, l < 8 → g'' (28 + 2 * l) = g' (28 + 2 * l)) → i'' 193 = i' 193 → i'' 194 = i' 194 → A'' 27 = A' 27 → m'' 19 = m9 → B'' 56 = f9 → HI g'' i'' A'' m'' B'' := by
  obtain ⟨n, lat, hn, hl, e1, e2, e3, hk⟩ := H
  have hl' : (lat + 1) % 8 < 8 := Nat.mod_lt _ (by decide)
  refine ⟨_, _, _, fun n1 n2 L xs m B J wd o => H_keep (n1 := n1) (n2 := n2) (L := L) (xs := xs) (A := A) (m := m) (B := B) (J := J) (wd := wd) (o := o) hl hn e1 e2, fun a ha => up_n g _ (by omega), fun a ha hb => by rw [up_n _ _ hb, up_n _ _ ha], fun a ha => up_n A _ ha, nI (min (n + 1) 8), snapF n (B 56) (B 53), ?_, ?_⟩
  · intro n1 n2 L xs g i A m' B' J wd o y1 y2 y3
    rw [M_snap hn (by rw [y1, e3]), y2, y3]
  · intro g'' i'' A'' m'' B'' x1 x2 x3 x4 x5 x6
    refine ⟨min (n + 1) 8, (lat + 1) % 8, by omega, hl', ?_, ?_, x5, fun k hk' => ?_⟩
    · rw [x2, up_n _ _ (by decide), up_s]
    · rw [x3, up_s]
    · by_cases q : k + 1 < min (n + 1) 8
      · obtain ⟨h', v', s', col', O', C', a1, b1⟩ := hk (if n = 8 then k + 1 else k) (by split <;> omega)
        have es : hsl ((lat + 1) % 8) (min (n + 1) 8) k = hsl lat n (if n = 8 then k + 1 else k) := by
          unfold hsl
          split <;> omega
        have en : hsl lat n (if n = 8 then k + 1 else k) ≠ (lat + 1) % 8 := by
          unfold hsl
          split <;> omega
        have hs8 : hsl lat n (if n = 8 then k + 1 else k) < 8 := Nat.mod_lt _ (by decide)
        refine ⟨h', v', s', col', O', ?_, ?_, fun j hj => ?_⟩
        · rw [es]
          unfold cg
          rw [x1 _ hs8]
          exact cg_ne C' _ (by omega)
        · rw [es, x4, up_s, pk_un en, a1]
        · rw [x6, snapF_old hn _ _ q hj, b1 j hj]
      · have ek : k = min (n + 1) 8 - 1 := by omega
        have es : hsl ((lat + 1) % 8) (min (n + 1) 8) k = (lat + 1) % 8 := by
          unfold hsl
          omega
        refine ⟨h, v, s, col, O, ?_, ?_, fun j hj => ?_⟩
        · rw [es]
          unfold cg
          rw [x1 _ hl']
          exact cg_cp C _ _
        · rw [es, x4, up_s, pk_us]
        · rw [x6, ek, snapF_new hn _ _ hj, M j hj]
end HSB
