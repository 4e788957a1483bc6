/-! A WHOLE TEXT: the model, and both -/
theorem spG (w : am_W) : f_M_spelt 103 114 105 100 w = some (w, lN 151150) := by
  unfold f_M_spelt e_M_spelt f_M_spelt_p52
  have e : ((27 * (((27 * (((27 * ((Int32.toInt64 103) - 96)) + (Int32.toInt64 114)) - 96)) + (Int32.toInt64 105)) - 96)) + (Int32.toInt64 100)) - 96 = lN 151150 := by decide
  rw [if_neg (by decide), e]
theorem spR (w : am_W) : f_M_spelt 114 111 119 0 w = some (w, lN 13550) := by
  unfold f_M_spelt e_M_spelt f_M_spelt_p52
  have e : ((27 * (((27 * ((Int32.toInt64 114) - 96)) + (Int32.toInt64 111)) - 96)) + (Int32.toInt64 119)) - 96 = lN 13550 := by decide
  rw [if_pos (by decide), e]
section PTB
variable {n1 n2 L : Nat} {xs : Nat → Int32} {g : Nat → GR} {i : Nat → Int32} {A : Nat → Nat → Int32} {m : Nat → Int32} {B : Nat → Nat → Int32} {J : Nat → Int64} {wd : Int64} {o : Nat → Int64} {t : Nat} {b : Nat → Nat} {f' : Nat → Int32} {h v s : Nat} {col : Nat → Nat}
theorem M_isWord {p H : Nat} (hH : H < 2 ^ 31) (hp : p ≤ t) (hb : ∀ j, j < t → b j < 256) (K : mtk b t m wd (tks b t p).1 (tks b t p).2.1 (tks b t p).2.2.1 (tks b t p).2.2.2) : (((tks b t p).1 = 1 ∧ hsh b (tks b t p).2.1 (min 5 ((tks b t p).2.2.1 - (tks b t p).2.1)) = H) ∧ f_M_isWord 51 (lN H) (mk n1 n2 L xs g i A m B J wd o) = some (mk n1 n2 L xs g i A m B J wd o, 1)) ∨ (¬ ((tks b t p).1 = 1 ∧ hsh b (tks b t p).2.1 (min 5 ((tks b t p).2.2.1 - (tks b t p).2.1)) = H) ∧ f_M_isWord 51 (lN H) (mk n1 n2 L xs g i A m B J wd o) = some (mk n1 n2 L xs g i A m B J wd o, 0)) := by
  have KT := tks_ok b hp
  have k4 := TK_k4 KT
  have sl := srt_le (t := t) k4
  have s2 : srt t (tks b t p).1 = 2 ↔ (tks b t p).1 = 1 := by
    unfold srt
    by_cases a : (tks b t p).1 = 0
    · rw [if_pos a]
      split <;> omega
    · rw [if_neg a]
      split <;> omega
  obtain ⟨K5, K6, K4, K7, KW⟩ := K
  unfold f_M_isWord e_M_isWord f_M_isWord_p21 f_M_isWord_p22
  rw [sf51, rd51_6, Option.bind_some, K6]
  by_cases z : (tks b t p).1 = 1
  · have lt := TK_let (by rw [z] at KT; exact KT)
    have tp := TK_pos KT (Or.inl z)
    have hl : hsh b (tks b t p).2.1 (min 5 ((tks b t p).2.2.1 - (tks b t p).2.1)) < 27 ^ min 5 ((tks b t p).2.2.1 - (tks b t p).2.1) := hsh_lt _ (fun j hj => by
      have := lt ((tks b t p).2.1 + j) (by omega) (by omega)
      unfold isL at this
      omega)
    have hl2 : hsh b (tks b t p).2.1 (min 5 ((tks b t p).2.2.1 - (tks b t p).2.1)) < 2 ^ 64 := Nat.lt_of_lt_of_le hl (Nat.le_trans (Nat.pow_le_pow_right (by decide) (show min 5 ((tks b t p).2.2.1 - (tks b t p).2.1) ≤ 5 by omega)) (by decide))
    rw [s2.mpr z, if_neg (show ¬ ¬ nI 2 = (2 : Int32) from fun q => q rfl), rd51_10, Option.bind_some, KW z]
    by_cases y : hsh b (tks b t p).2.1 (min 5 ((tks b t p).2.2.1 - (tks b t p).2.1)) = H
    · rw [if_neg (by rw [lg_cmp_eq, y]; exact fun q => q rfl)]
      exact Or.inl ⟨⟨z, y⟩, rfl⟩
    · rw [if_pos (by rw [lg_cmp_eq, lN_e hl2 (by omega)]; exact y)]
      exact Or.inr ⟨fun q => y q.2, rfl⟩
  · rw [if_pos (show ¬ nI (srt t (tks b t p).1) = (2 : Int32) from fun q => z (s2.mp ((nI_eq (by omega) (b := 2) (by decide)).mp q)))]
    exact Or.inr ⟨fun q => z q.1, rfl⟩
theorem M_line (ht : t ≤ 440) (T : tpp t b f' (B 52)) {p ln rr : Nat} {f : Nat → Int32} (hp : p ≤ t) (h3 : m 3 = nI t) (h20 : m 20 = nI rr) (hrr : rr ≤ h) (hf : ∀ j, j < 67 → f j = enc h v s col j) (O : gokz h v s col) (hln : ln = 0 ↔ h = 0) (K : mtk b t m wd (tks b t p).1 (tks b t p).2.1 (tks b t p).2.2.1 (tks b t p).2.2.2) :
    (∀ x, pLine b t ln h v s col rr p = .ok x → ∃ f2 m' wd', f_M_readLine 51 (mk n1 n2 L xs g i A m (up B 54 f) J wd o) = some (mk n1 n2 L xs g i A m' (up B 54 f2) J wd' o, 1) ∧ (∀ j, j < 67 → f2 j = enc x.2.1 x.2.2.1 x.2.2.2.1 x.2.2.2.2.1 j) ∧ (∀ a, a ≠ 4 → a ≠ 5 → a ≠ 6 → a ≠ 7 → a ≠ 20 → m' a = m a) ∧ m' 20 = nI x.2.2.2.2.2 ∧ x.1 ≤ t ∧ mtk b t m' wd' (tks b t x.1).1 (tks b t x.1).2.1 (tks b t x.1).2.2.1 (tks b t x.1).2.2.2) ∧
    (∀ e, pLine b t ln h v s col rr p = .error e → ∃ f2 m' wd', f_M_readLine 51 (mk n1 n2 L xs g i A m (up B 54 f) J wd o) = some (mk n1 n2 L xs g i A m' (up B 54 f2) J wd' o, 0) ∧ (∀ a, a ≠ 4 → a ≠ 5 → a ≠ 6 → a ≠ 7 → a ≠ 8 → a ≠ 9 → a ≠ 20 → m' a = m a) ∧ m' 8 = nI e.1 ∧ m' 9 = nI e.2) := by
  have KT := tks_ok b hp
  have k4 := TK_k4 KT
  have sl := srt_le (t := t) k4
  have h8 := O.1.1
  have v8 := O.1.2.1
  have hb : ∀ j, j < t → b j < 256 := fun j hj => (T j hj).1
  have M : mN (up B 54 f) 54 h v s col := fun x hx => by rw [up_s]; exact hf x hx
  have T' : tpp t b f' ((up B 54 f) 52) := T
  have bad1 : ∃ m', f_M_bad 51 1 (mk n1 n2 L xs g i A m (up B 54 f) J wd o) = some (mk n1 n2 L xs g i A m' (up B 54 f) J wd o, 0) ∧ (∀ a, a ≠ 8 → a ≠ 9 → m' a = m a) ∧ m' 8 = nI 1 ∧ m' 9 = nI (tks b t p).2.1 := by
    have eb := M_bad (n1 := n1) (n2 := n2) (L := L) (xs := xs) (g := g) (i := i) (A := A) (m := m) (B := up B 54 f) (J := J) (wd := wd) (o := o) 1 K.2.1 sl
    exact ⟨_, eb, fun a b c => by rw [up_n _ _ c, up_n _ _ b], by rw [up_n _ _ (by decide), up_s]; split <;> rfl, by rw [up_s, K.1]⟩
  unfold pLine f_M_readLine e_M_readLine f_M_readLine_p69 f_M_readLine_p39
  rw [sf51, rd51_12, Option.bind_some, (mN.g4 M).hi, Option.bind_some]
  by_cases z : ln = 0
  · have h0 := hln.mp z
    rw [if_pos z, if_neg (show ¬ ¬ nI h = (0 : Int32) by rw [h0]; exact fun q => q rfl), spG, Option.bind_some]
    have wiff : ((tks b t p).1 = 1 ∧ hsh b (tks b t p).2.1 (min 5 ((tks b t p).2.2.1 - (tks b t p).2.1)) = 151150) ↔ wdP b (tks b t p).1 (tks b t p).2.1 (tks b t p).2.2.1 am_g4 4 := by
      constructor
      · rintro ⟨a, c⟩
        have tp := TK_pos KT (Or.inl a)
        have := (wd_grid (TK_let (by rw [a] at KT; exact KT)) (fun j hj => hb j (by omega)) tp.2.1).mp c
        rw [a]
        exact this
      · intro w
        have a := w.1
        have tp := TK_pos KT (Or.inl a)
        rw [a] at w
        exact ⟨a, (wd_grid (TK_let (by rw [a] at KT; exact KT)) (fun j hj => hb j (by omega)) tp.2.1).mpr w⟩
    rcases M_isWord (n1 := n1) (n2 := n2) (L := L) (xs := xs) (g := g) (i := i) (A := A) (m := m) (B := up B 54 f) (J := J) (wd := wd) (o := o) (H := 151150) (by decide) hp hb K with ⟨w, ew⟩ | ⟨w, ew⟩
    · have tp := TK_pos KT (Or.inl w.1)
      rw [if_pos (wiff.mp w), ew, Option.bind_some, if_neg (show ¬ (1 : Int32) = 0 by decide)]
      unfold f_M_readGrid e_M_readGrid
      obtain ⟨m1, w1, e1, fr1, K1⟩ := M_next (n1 := n1) (n2 := n2) (L := L) (xs := xs) (g := g) (i := i) (A := A) (m := m) (J := J) (wd := wd) (o := o) ht T' (tks_ok b tp.2.2.1) tp.2.2.1 h3 (K.2.2.1 (Or.inl w.1))
      rw [sf51, e1, Option.bind_some]
      obtain ⟨G1, G2⟩ := M_grid (n1 := n1) (n2 := n2) (L := L) (xs := xs) (g := g) (i := i) (A := A) (m := m1) (J := J) (wd := w1) (o := o) ht T f tp.2.2.1 (by rw [fr1 3 (by decide) (by decide) (by decide) (by decide), h3]) K1
      cases hq : pGrid b t (tks b t p).2.2.1 with
      | error e =>
        refine ⟨fun x hx => (by cases hx), fun e' he => ?_⟩
        cases he
        obtain ⟨f2, m', w', a1, a2, a3, a4⟩ := G2 e hq
        refine ⟨f2, m', w', ?_, fun a b1 b2 b3 b4 b5 b6 b7 => by rw [a2 a b1 b2 b3 b4 b5 b6, fr1 a b1 b2 b3 b4], a3, a4⟩
        rw [a1, Option.bind_some]
        rfl
      | ok y =>
        refine ⟨fun x hx => ?_, fun e' he => (by cases he)⟩
        cases hx
        obtain ⟨m', w', a1, a2, a3, a4⟩ := G1 y hq
        refine ⟨upd (upd (upd f 0 (nI y.1)) 1 (nI y.2.1)) 2 (nI y.2.2.1), m', w', ?_, fun j hj => ?_, fun a b1 b2 b3 b4 b5 => by rw [a2 a b1 b2 b3 b4, fr1 a b1 b2 b3 b4], by rw [a2 20 (by decide) (by decide) (by decide) (by decide), fr1 20 (by decide) (by decide) (by decide) (by decide), h20], a3, a4⟩
        · rw [a1, Option.bind_some]
          rfl
        · have hv0 : v = 0 := O.1.2.2.2.1.mp h0
          rcases j with _ | _ | _ | j
          · rfl
          · rfl
          · rfl
          · rw [pk_un (by omega), pk_un (by omega), pk_un (by omega), hf _ hj]
            show nI (col j) = nI 0
            rw [O.2 j (by rw [h0]; omega)]
    · rw [if_neg (fun q => w (wiff.mpr q)), ew, Option.bind_some, if_pos rfl]
      obtain ⟨m', eb, b1, b2, b3⟩ := bad1
      rw [eb, Option.bind_some]
      refine ⟨fun x hx => (by cases hx), fun e' he => ?_⟩
      cases he
      exact ⟨f, m', wd, rfl, fun a _ _ _ _ h5 h6 _ => b1 a h5 h6, b2, b3⟩
  · have h0 : 0 < h := Nat.pos_of_ne_zero (fun q => z (hln.mpr q))
    rw [if_neg z, if_pos (nI_ne0 h0 (by omega)), spR, Option.bind_some]
    have wiff : ((tks b t p).1 = 1 ∧ hsh b (tks b t p).2.1 (min 5 ((tks b t p).2.2.1 - (tks b t p).2.1)) = 13550) ↔ wdP b (tks b t p).1 (tks b t p).2.1 (tks b t p).2.2.1 am_g3 3 := by
      constructor
      · rintro ⟨a, c⟩
        have tp := TK_pos KT (Or.inl a)
        have := (wd_row (TK_let (by rw [a] at KT; exact KT)) (fun j hj => hb j (by omega)) tp.2.1).mp c
        rw [a]
        exact this
      · intro w
        have a := w.1
        have tp := TK_pos KT (Or.inl a)
        rw [a] at w
        exact ⟨a, (wd_row (TK_let (by rw [a] at KT; exact KT)) (fun j hj => hb j (by omega)) tp.2.1).mpr w⟩
    rcases M_isWord (n1 := n1) (n2 := n2) (L := L) (xs := xs) (g := g) (i := i) (A := A) (m := m) (B := up B 54 f) (J := J) (wd := wd) (o := o) (H := 13550) (by decide) hp hb K with ⟨w, ew⟩ | ⟨w, ew⟩
    · have tp := TK_pos KT (Or.inl w.1)
      rw [if_pos (wiff.mp w), ew, Option.bind_some, if_neg (show ¬ (1 : Int32) = 0 by decide)]
      unfold f_M_readCells e_M_readCells
      rw [sf51, rd51_20, Option.bind_some, h20, rd51_12, Option.bind_some, (mN.g4 M).hi, Option.bind_some]
      by_cases y : rr < h
      · rw [if_pos y, if_pos (show ¬ nI rr = nI h by rw [nI_eq (by omega) (by omega)]; omega)]
        obtain ⟨m1, w1, e1, fr1, K1⟩ := M_next (n1 := n1) (n2 := n2) (L := L) (xs := xs) (g := g) (i := i) (A := A) (m := m) (J := J) (wd := wd) (o := o) ht T' (tks_ok b tp.2.2.1) tp.2.2.1 h3 (K.2.2.1 (Or.inl w.1))
        rw [e1, Option.bind_some]
        obtain ⟨G1, G2⟩ := M_cells (n1 := n1) (n2 := n2) (L := L) (xs := xs) (g := g) (i := i) (A := A) (J := J) (o := o) ht T y v am_N 0 (tks b t p).2.2.1 f m1 w1 col (by omega) (by unfold am_N; omega) O.1 hf tp.2.2.1 (by rw [fr1 3 (by decide) (by decide) (by decide) (by decide), h3]) (by rw [fr1 20 (by decide) (by decide) (by decide) (by decide), h20]) K1
        cases hq : pCells b t v s rr v 0 (tks b t p).2.2.1 col with
        | error e =>
          refine ⟨fun x hx => (by cases hx), fun e' he => ?_⟩
          cases he
          obtain ⟨f2, m', w', a1, a2, a3, a4⟩ := G2 e hq
          refine ⟨f2, m', w', ?_, fun a b1 b2 b3 b4 b5 b6 b7 => by rw [a2 a b1 b2 b3 b4 b5 b6 b7, fr1 a b1 b2 b3 b4], a3, a4⟩
          have a1' : f_M_readCells_p25 am_N 51 0 (mk n1 n2 L xs g i A m1 (up B 54 f) J w1 o) = _ := a1
          rw [a1', Option.bind_some]
          rfl
        | ok u =>
          refine ⟨fun x hx => ?_, fun e' he => (by cases he)⟩
          cases hx
          obtain ⟨f2, m', w', a1, a2, a3, a4, a5, a6⟩ := G1 u hq
          refine ⟨f2, m', w', ?_, a2, fun a b1 b2 b3 b4 b5 => by rw [a3 a b1 b2 b3 b4 b5, fr1 a b1 b2 b3 b4], a4, a5, a6⟩
          have a1' : f_M_readCells_p25 am_N 51 0 (mk n1 n2 L xs g i A m1 (up B 54 f) J w1 o) = _ := a1
          rw [a1', Option.bind_some]
          rfl
      · have eb := M_bad (n1 := n1) (n2 := n2) (L := L) (xs := xs) (g := g) (i := i) (A := A) (m := m) (B := up B 54 f) (J := J) (wd := wd) (o := o) 3 K.2.1 sl
        have eb' : f_M_bad 51 3 (mk n1 n2 L xs g i A m (up B 54 f) J wd o) = _ := eb
        have s1 : srt t (tks b t p).1 ≠ 1 := by rw [w.1, show srt t 1 = 2 from rfl]; decide
        rw [if_neg y, if_neg (show ¬ ¬ nI rr = nI h by rw [show rr = h by omega]; exact fun q => q rfl), eb', Option.bind_some]
        refine ⟨fun x hx => (by cases hx), fun e' he => ?_⟩
        cases he
        refine ⟨f, _, wd, rfl, fun a _ _ _ _ h5 h6 _ => by rw [up_n _ _ h6, up_n _ _ h5], ?_, by rw [up_s, K.1]⟩
        rw [up_n _ _ (by decide), up_s, if_neg s1]
    · rw [if_neg (fun q => w (wiff.mpr q)), ew, Option.bind_some, if_pos rfl]
      obtain ⟨m', eb, b1, b2, b3⟩ := bad1
      rw [eb, Option.bind_some]
      refine ⟨fun x hx => (by cases hx), fun e' he => ?_⟩
      cases he
      exact ⟨f, m', wd, rfl, fun a _ _ _ _ h5 h6 _ => b1 a h5 h6, b2, b3⟩
theorem pLine_ok {ln rr p : Nat} (hp : p ≤ t) (ht : t ≤ 440) (hrr : rr ≤ h) (O : gokz h v s col) (hln : ln = 0 ↔ h = 0) {x : Nat × Nat × Nat × Nat × (Nat → Nat) × Nat} (hx : pLine b t ln h v s col rr p = .ok x) (hb : ∀ j, j < t → b j < 256) : gokz x.2.1 x.2.2.1 x.2.2.2.1 x.2.2.2.2.1 ∧ 0 < x.2.1 ∧ x.2.2.2.2.2 ≤ x.2.1 ∧ p < x.1 := by
  -- the class's own reading tells it
  have T : tpp t b (fun j => nI (b j)) (fun j => nI (b j)) := fun j hj => ⟨hb j hj, rfl, rfl⟩
  have F0 : fs (fun c => lN (stc h v col c)) h v col := fun c _ => rfl
  have C : cg (fun _ => (h, v, s, fun c => lN (stc h v col c))) 16 h v s col := ⟨rfl, rfl, rfl, F0⟩
  have R := (R_line (n1 := 0) (n2 := 0) (L := 0) (xs := fun _ => 0) (g := fun _ => (h, v, s, fun c => lN (stc h v col c))) (i := fun a => if a = 73 then nI t else if a = 121 then nI (tks b t p).1 else if a = 122 then nI (tks b t p).2.1 else if a = 123 then nI (tks b t p).2.2.1 else nI rr) (A := fun _ j => nI (b j)) (m := fun _ => 0) (B := fun _ _ => 0) (J := fun _ => 0) (wd := 0) (o := fun _ => 0) (f' := fun j => nI (b j)) (ln := ln) (rr := rr) ht T hp rfl rfl rfl (fun _ => rfl) rfl hrr C O hln).1 x hx
  obtain ⟨f2, i', a1, a2, a3, a4, a5, a6, a7, a8, a9, a10⟩ := R
  exact ⟨a3, a4, a5, a9⟩
theorem M_all (ht : t ≤ 440) (T : tpp t b f' (B 52)) : ∀ (N n ln p h v s : Nat) (col : Nat → Nat) (rr : Nat) (f : Nat → Int32) (m : Nat → Int32) (wd : Int64), t - p < N → N < n → p ≤ t → m 3 = nI t → m 20 = nI rr → m 8 = 0 → rr ≤ h → (∀ j, j < 67 → f j = enc h v s col j) → gokz h v s col → (ln = 0 ↔ h = 0) → mtk b t m wd (tks b t p).1 (tks b t p).2.1 (tks b t p).2.2.1 (tks b t p).2.2.2 →
    (∀ x, pAll b t N ln p h v s col rr = .ok x → ∃ f2 m' wd', f_M_text_p60 n 51 (nI ln) (mk n1 n2 L xs g i A m (up B 54 f) J wd o) = some (mk n1 n2 L xs g i A m' (up (up B 54 f2) 53 (fb_put (B 53) f2 0 67)) J wd' o, nI x.1) ∧ (∀ j, j < 67 → f2 j = enc x.2.1 x.2.2.1 x.2.2.2.1 x.2.2.2.2 j) ∧ m' 2 = m 2 ∧ m' 8 = 0 ∧ m' 19 = 0) ∧
    (∀ e, pAll b t N ln p h v s col rr = .error e → ∃ f2 m' wd', f_M_text_p60 n 51 (nI ln) (mk n1 n2 L xs g i A m (up B 54 f) J wd o) = some (mk n1 n2 L xs g i A m' (up B 54 f2) J wd' o, -1 - nI e.2) ∧ m' 2 = m 2 ∧ m' 8 = nI e.1 ∧ m' 19 = m 19) := by
  have hb : ∀ j, j < t → b j < 256 := fun j hj => (T j hj).1
  intro N
  induction N with
  | zero => intro n ln p h v s col rr f m wd h1; omega
  | succ N ih =>
    intro n ln p h v s col rr f m wd hN hn hp h3 h20 h8' hrr hf O hln K
    obtain ⟨n, rfl⟩ : ∃ m, n = m + 1 := ⟨n - 1, by omega⟩
    have KT := tks_ok b hp
    have k4 := TK_k4 KT
    have sl := srt_le (t := t) k4
    have T' : tpp t b f' ((up B 54 f) 52) := T
    rw [f_M_text_p60, rd51_6, Option.bind_some, K.2.1, pAll]
    have fail : ∀ e, pLine b t ln h v s col rr p = .error e → ∃ f2 m' wd', ((f_M_readLine (51) (mk n1 n2 L xs g i A m (up B 54 f) J wd o)).bind fun r14 => (if r14.2 = 0 then (f_M_text_p81 51 r14.1) else ((f_M_readEnd (51) r14.1).bind fun r17 => (if ¬ r17.2 = 0 then (f_M_text_p60 n 51 (nI ln + 1) r17.1) else (f_M_text_p81 51 r17.1))))) = some (mk n1 n2 L xs g i A m' (up B 54 f2) J wd' o, -1 - nI e.2) ∧ m' 2 = m 2 ∧ m' 8 = nI e.1 ∧ m' 19 = m 19 := by
      intro e he
      obtain ⟨f2, m', w', a1, a2, a3, a4⟩ := (M_line (n1 := n1) (n2 := n2) (L := L) (xs := xs) (g := g) (i := i) (A := A) (m := m) (J := J) (wd := wd) (o := o) ht T hp h3 h20 hrr hf O hln K).2 e he
      refine ⟨f2, m', w', ?_, a2 2 (by decide) (by decide) (by decide) (by decide) (by decide) (by decide) (by decide), a3, a2 19 (by decide) (by decide) (by decide) (by decide) (by decide) (by decide) (by decide)⟩
      rw [a1, Option.bind_some, if_pos rfl]
      unfold f_M_text_p81
      rw [rd51_9, Option.bind_some, a4]
    by_cases z : (tks b t p).1 = 0
    · rw [if_pos z]
      by_cases y : t ≤ 400
      · have s0 : srt t (tks b t p).1 = 0 := by rw [z]; unfold srt; rw [if_pos rfl, if_pos y]
        rw [if_pos y, s0, if_pos (show nI 0 = (0 : Int32) from rfl)]
        refine ⟨fun x hx => ?_, fun e he => (by cases he)⟩
        cases hx
        have ec := M_copy (w := mk n1 n2 L xs g i A m (up B 54 f) J wd o) (o1 := 0) (o2 := 0) ar54 ar53 (by decide) (by decide) (by decide) (by decide) (by decide) (by decide)
        rw [st53, zadd, up_s] at ec
        have ec' : f_M_copy 54 0 53 0 (mk n1 n2 L xs g i A m (up B 54 f) J wd o) = _ := ec
        refine ⟨f, up m 19 0, wd, ?_, hf, up_n _ _ (by decide), by rw [up_n _ _ (by decide), h8'], up_s _ _ _⟩
        rw [rd51_12, Option.bind_some, rd51_11, Option.bind_some, ec', Option.bind_some, wr51_19, Option.bind_some]
        rfl
      · have s0 : srt t (tks b t p).1 = 1 := by rw [z]; unfold srt; rw [if_pos rfl, if_neg y]
        have hle : pLine b t ln h v s col rr p = .error (1, (tks b t p).2.1) := by
          unfold pLine
          split
          · exact if_neg (fun q => by have := q.1; omega)
          · exact if_neg (fun q => by have := q.1; omega)
        rw [if_neg y, s0, if_neg (show ¬ nI 1 = (0 : Int32) by decide)]
        refine ⟨fun x hx => (by cases hx), fun e he => ?_⟩
        cases he
        exact fail _ hle
    · have s0 : srt t (tks b t p).1 ≠ 0 := by
        unfold srt
        rw [if_neg z]
        split <;> omega
      rw [if_neg z, if_neg (show ¬ nI (srt t (tks b t p).1) = (0 : Int32) from nI_ne0 (by omega) (by omega))]
      cases hq : pLine b t ln h v s col rr p with
      | error e =>
        refine ⟨fun x hx => (by cases hx), fun e' he => ?_⟩
        cases he
        exact fail e hq
      | ok x =>
        obtain ⟨f2, m', w', a1, a2, a3, a4, a5, a6⟩ := (M_line (n1 := n1) (n2 := n2) (L := L) (xs := xs) (g := g) (i := i) (A := A) (m := m) (J := J) (wd := wd) (o := o) ht T hp h3 h20 hrr hf O hln K).1 x hq
        obtain ⟨O2, x0, xr, xp⟩ := pLine_ok hp ht hrr O hln hq hb
        have K2 := tks_ok b a5
        have k42 := TK_k4 K2
        have sl2 := srt_le (t := t) k42
        have m3' : m' 3 = nI t := by rw [a3 3 (by decide) (by decide) (by decide) (by decide) (by decide), h3]
        have m8' : m' 8 = 0 := by rw [a3 8 (by decide) (by decide) (by decide) (by decide) (by decide), h8']
        have s4 : srt t (tks b t x.1).1 = 4 ↔ (tks b t x.1).1 = 3 := by
          unfold srt
          by_cases a : (tks b t x.1).1 = 0
          · rw [if_pos a]
            split <;> omega
          · rw [if_neg a]
            split <;> omega
        rw [a1, Option.bind_some, if_neg (show ¬ (1 : Int32) = 0 by decide)]
        unfold f_M_readEnd e_M_readEnd
        rw [sf51, rd51_6, Option.bind_some, a6.2.1]
        simp only []
        by_cases y : (tks b t x.1).1 = 3
        · have tp := TK_pos K2 (Or.inr (Or.inr y))
          obtain ⟨m4, w4, e4, fr4, K4⟩ := M_next (n1 := n1) (n2 := n2) (L := L) (xs := xs) (g := g) (i := i) (A := A) (m := m') (B := up B 54 f2) (J := J) (wd := w') (o := o) ht T (tks_ok b tp.2.2.1) tp.2.2.1 m3' (a6.2.2.1 (Or.inr (Or.inr y)))
          rw [if_pos y, s4.mpr y, if_pos (show nI 4 = (4 : Int32) from rfl), e4, Option.bind_some, Option.bind_some, if_pos (show ¬ (1 : Int32) = 0 by decide), nI_1]
          obtain ⟨I1, I2⟩ := ih n (ln + 1) (tks b t x.1).2.2.1 x.2.1 x.2.2.1 x.2.2.2.1 x.2.2.2.2.1 x.2.2.2.2.2 f2 m4 w4 (by omega) (by omega) tp.2.2.1 (by rw [fr4 3 (by decide) (by decide) (by decide) (by decide), m3']) (by rw [fr4 20 (by decide) (by decide) (by decide) (by decide), a4]) (by rw [fr4 8 (by decide) (by decide) (by decide) (by decide), m8']) xr a2 O2 (by omega) K4
          have q2 : m4 2 = m 2 := by rw [fr4 2 (by decide) (by decide) (by decide) (by decide), a3 2 (by decide) (by decide) (by decide) (by decide) (by decide)]
          have q19 : m4 19 = m 19 := by rw [fr4 19 (by decide) (by decide) (by decide) (by decide), a3 19 (by decide) (by decide) (by decide) (by decide) (by decide)]
          refine ⟨fun u hu => ?_, fun e he => ?_⟩
          · obtain ⟨f5, m5, w5, r1, r2, r3, r4, r5⟩ := I1 u hu
            exact ⟨f5, m5, w5, r1, r2, by rw [r3, q2], r4, r5⟩
          · obtain ⟨f5, m5, w5, r1, r2, r3, r4⟩ := I2 e he
            exact ⟨f5, m5, w5, r1, by rw [r2, q2], r3, by rw [r4, q19]⟩
        · have eb := M_bad (n1 := n1) (n2 := n2) (L := L) (xs := xs) (g := g) (i := i) (A := A) (m := m') (B := up B 54 f2) (J := J) (wd := w') (o := o) 1 a6.2.1 sl2
          have eb' : f_M_bad 51 1 (mk n1 n2 L xs g i A m' (up B 54 f2) J w' o) = _ := eb
          have erb : ∀ w, am_rb w 0 = some (w, 0) := fun w => rfl
          rw [if_neg y, if_neg (show ¬ nI (srt t (tks b t x.1).1) = (4 : Int32) from fun q => y (s4.mp ((nI_eq (by omega) (b := 4) (by decide)).mp q))), eb', Option.bind_some, erb, Option.bind_some, if_neg (fun q => q rfl)]
          unfold f_M_text_p81
          refine ⟨fun u hu => (by cases hu), fun e he => ?_⟩
          cases he
          rw [rd51_9, Option.bind_some, up_s, a6.1]
          refine ⟨f2, _, w', rfl, by rw [up_n _ _ (by decide), up_n _ _ (by decide), a3 2 (by decide) (by decide) (by decide) (by decide) (by decide)], ?_, by rw [up_n _ _ (by decide), up_n _ _ (by decide), a3 19 (by decide) (by decide) (by decide) (by decide) (by decide)]⟩
          rw [up_n _ _ (by decide), up_s]
          split <;> rfl
theorem mt_zero : ∀ d n k (f : Nat → Int32), k + d = 67 → d < n → (∀ j, j < k → f j = 0) → ∃ f2 : Nat → Int32, (∀ j, j < 67 → f2 j = 0) ∧ f_M_text_p37 n 51 0 (nI k) (mk n1 n2 L xs g i A m (up B 54 f) J wd o) = ((f_M_next (51) (mk n1 n2 L xs g i A m (up B 54 f2) J wd o)).bind fun r21 => (f_M_text_p60 am_N 51 0 r21.1)) := by
  intro d
  induction d with
  | zero =>
    intro n k f hk hn hf
    obtain ⟨n, rfl⟩ : ∃ m, n = m + 1 := ⟨n - 1, by omega⟩
    have q : (67 : Int32) ≤ nI k := nI_le (a := 67) (by omega) (by omega)
    refine ⟨f, fun j hj => hf j (by omega), ?_⟩
    rw [f_M_text_p37, if_pos q]
  | succ d ih =>
    intro n k f hk hn hf
    obtain ⟨n, rfl⟩ : ∃ m, n = m + 1 := ⟨n - 1, by omega⟩
    have q : ¬ (67 : Int32) ≤ nI k := nI_ge (b := 67) (by omega) (by decide)
    rw [f_M_text_p37, if_neg q, rd51_12, Option.bind_some, w_si ar54 (by omega) (by decide) (by decide), Option.bind_some, st54, up_s, up_up, nI_1]
    refine ih n (k + 1) _ (by omega) (by omega) (fun j hj => ?_)
    by_cases y : j = k
    · subst y; rw [pk_us]
    · rw [pk_un y]; exact hf j (by omega)
end PTB
theorem p_text : pOk (f_C_text 8) (f_M_text 51) := by
  intro n1 n2 L xs g i A m B J wd o H
  obtain ⟨⟨h, v, s, col, O, C, M⟩, e8, ⟨t, b, ht, t1, t2, T⟩, Hh, I, S, K⟩ := id H
  have T0 : tpp t b (A 10) (B 52) := T
  obtain ⟨R1, R2⟩ := R_read (n1 := n1) (n2 := n2) (L := L) (xs := xs) (g := g) (m := m) (B := B) (J := J) (wd := wd) (o := o) ht T0 t1
  -- the model's start
  have mstart : ∀ (g : Nat → GR) (i : Nat → Int32) (A : Nat → Nat → Int32), ∃ (f2 : Nat → Int32) (m' : Nat → Int32) (wd' : Int64), (∀ j, j < 67 → f2 j = 0) ∧ f_M_text 51 (mk n1 n2 L xs g i A m B J wd o) = f_M_text_p60 am_N 51 (nI 0) (mk n1 n2 L xs g i A m' (up B 54 f2) J wd' o) ∧ m' 2 = 0 ∧ m' 8 = 0 ∧ m' 19 = m 19 ∧ m' 3 = nI t ∧ m' 20 = nI 0 ∧ mtk b t m' wd' (tks b t 0).1 (tks b t 0).2.1 (tks b t 0).2.2.1 (tks b t 0).2.2.2 := by
    intro g i A
    unfold f_M_text e_M_text
    rw [sf51, wr51_0, Option.bind_some, rd51_2, Option.bind_some, up_n _ _ (by decide), t2, wr51_3, Option.bind_some, wr51_2, Option.bind_some, wr51_8, Option.bind_some, wr51_4, Option.bind_some, wr51_20, Option.bind_some]
    obtain ⟨f2, F2, ez⟩ := mt_zero (n1 := n1) (n2 := n2) (L := L) (xs := xs) (g := g) (i := i) (A := A) (m := up (up (up (up (up (up m 0 0) 3 (nI t)) 2 0) 8 0) 4 0) 20 0) (B := B) (J := J) (wd := wd) (o := o) 67 am_N 0 (B 54) (by omega) (by unfold am_N; omega) (fun j hj => by omega)
    rw [up_id] at ez
    have ez' : f_M_text_p37 am_N 51 0 0 (mk n1 n2 L xs g i A (up (up (up (up (up (up m 0 0) 3 (nI t)) 2 0) 8 0) 4 0) 20 0) B J wd o) = _ := ez
    obtain ⟨m', wd', e, fr, KK⟩ := M_next (n1 := n1) (n2 := n2) (L := L) (xs := xs) (g := g) (i := i) (A := A) (m := up (up (up (up (up (up m 0 0) 3 (nI t)) 2 0) 8 0) 4 0) 20 0) (B := up B 54 f2) (J := J) (wd := wd) (o := o) ht T0 (tks_ok b (Nat.zero_le t)) (Nat.zero_le t) rfl rfl
    refine ⟨f2, m', wd', F2, ?_, fr 2 (by decide) (by decide) (by decide) (by decide), fr 8 (by decide) (by decide) (by decide) (by decide), fr 19 (by decide) (by decide) (by decide) (by decide), fr 3 (by decide) (by decide) (by decide) (by decide), fr 20 (by decide) (by decide) (by decide) (by decide), KK⟩
    rw [ez', e, Option.bind_some]
    rfl
  have O0 : gokz 0 0 0 (fun _ => 0) := ⟨⟨by omega, by omega, by omega, Iff.rfl, Iff.rfl, fun k hk => Nat.le_refl _⟩, fun _ _ => rfl⟩
  have enc0 : ∀ f2 : Nat → Int32, (∀ j, j < 67 → f2 j = 0) → ∀ j, j < 67 → f2 j = enc 0 0 0 (fun _ => 0) j := by
    intro f2 h j hj
    rw [h j hj]
    rcases j with _ | _ | _ | j <;> rfl
  unfold f_C_text e_C_text
  cases hq : pAll b t 500 0 0 0 0 0 (fun _ => 0) 0 with
  | error e =>
    obtain ⟨g', i', a1, a2, a3, a4, a5⟩ := R2 e hq
    have i73 : i' 73 = nI t := by rw [a3 73 (by omega), t1]
    obtain ⟨f2, m1, w1, F2, es, m12, m18, m119, m13, m120, KK⟩ := mstart g' (up (up i' 73 0) 71 (nI e.1)) A
    obtain ⟨f3, m2, w2, b1, b2, b3, b4⟩ := (M_all (n1 := n1) (n2 := n2) (L := L) (xs := xs) (g := g') (i := up (up i' 73 0) 71 (nI e.1)) (A := A) (J := J) (o := o) ht T0 500 am_N 0 0 0 0 0 (fun _ => 0) 0 f2 m1 w1 (by omega) (by unfold am_N; omega) (Nat.zero_le _) m13 m120 m18 (by omega) (enc0 f2 F2) O0 Iff.rfl KK).2 e hq
    refine ⟨-1 - nI e.2, g', up (up i' 73 0) 71 (nI e.1), A, ?_, m2, up B 54 f3, J, w2, ?_, ?_⟩
    · unfold f_R_faultKind e_R_faultKind f_R_faultPlace e_R_faultPlace
      rw [sf8, rd8_3, Option.bind_some, rd8_0, Option.bind_some, a1, Option.bind_some, rd8_0, Option.bind_some, T_cut0 ht i73, Option.bind_some, rd8_3, Option.bind_some, sf15, rd15_5, Option.bind_some, up_n _ _ (by decide), a4, Option.bind_some, wr8_7, Option.bind_some, if_neg (fun q => q rfl), rd8_3, Option.bind_some, sf15, rd15_2, Option.bind_some, up_n _ _ (by decide), up_n _ _ (by decide), a5, Option.bind_some]
    · rw [es]
      exact b1
    · refine ⟨⟨h, v, s, col, O, cg_of C (a2 11 (by decide)), fun j hj => by rw [up_n _ _ (by decide)]; exact M j hj⟩, by rw [up_s, b3], TI_of (t := 0) (b := b) (by omega) (by rw [up_n _ _ (by decide), up_s]; rfl) (by rw [b2, m12]; rfl) (fun j hj => by omega), HI_same Hh (by rw [up_n _ _ (by decide), up_n _ _ (by decide), a3 193 (by omega)]) (by rw [up_n _ _ (by decide), up_n _ _ (by decide), a3 194 (by omega)]) (by rw [b4, m119]) rfl rfl (fun l hl => a2 _ (by omega)), II_same I rfl rfl rfl (fun k hk => a2 _ (by omega)), SI_same S (a2 19 (by decide)) (a2 21 (by decide)) (by rw [up_n _ _ (by decide), up_n _ _ (by decide), a3 148 (by omega)]) (by rw [up_n _ _ (by decide), up_n _ _ (by decide), a3 149 (by omega)]), KI_same K rfl⟩
  | ok x =>
    obtain ⟨g', i', a1, a2, a3, a4, a5, a6, a7⟩ := R1 x hq
    have i73 : i' 73 = nI t := by rw [a3 73 (by omega), t1]
    obtain ⟨f2, m1, w1, F2, es, m12, m18, m119, m13, m120, KK⟩ := mstart (up g' 11 (cpG (g' 16) (g' 11))) (up (up (up i' 73 0) 71 0) 194 0) A
    obtain ⟨f3, m2, w2, b1, b2, b3, b4, b5⟩ := (M_all (n1 := n1) (n2 := n2) (L := L) (xs := xs) (g := up g' 11 (cpG (g' 16) (g' 11))) (i := up (up (up i' 73 0) 71 0) 194 0) (A := A) (J := J) (o := o) ht T0 500 am_N 0 0 0 0 0 (fun _ => 0) 0 f2 m1 w1 (by omega) (by unfold am_N; omega) (Nat.zero_le _) m13 m120 m18 (by omega) (enc0 f2 F2) O0 Iff.rfl KK).1 x hq
    have cp16 : f_G_copy 11 16 (mk n1 n2 L xs g' (up (up i' 73 0) 71 0) A m B J wd o) = some (mk n1 n2 L xs (up g' 11 (cpG (g' 16) (g' 11))) (up (up i' 73 0) 71 0) A m B J wd o, ()) := by
      rw [G_copy g11 g16 (by decide) (by decide), gp11]
      rfl
    refine ⟨nI x.1, up g' 11 (cpG (g' 16) (g' 11)), up (up (up i' 73 0) 71 0) 194 0, A, ?_, m2, up (up B 54 f3) 53 (fb_put (B 53) f3 0 67), J, w2, ?_, ?_⟩
    · unfold f_R_faultKind e_R_faultKind f_R_told e_R_told f_H_forget e_H_forget f_R_linesRead e_R_linesRead
      rw [sf8, rd8_3, Option.bind_some, rd8_0, Option.bind_some, a1, Option.bind_some, rd8_0, Option.bind_some, T_cut0 ht i73, Option.bind_some, rd8_3, Option.bind_some, sf15, rd15_5, Option.bind_some, up_n _ _ (by decide), a4, Option.bind_some, wr8_7, Option.bind_some, if_pos (show ¬ (1 : Int32) = 0 by decide), rd8_1, Option.bind_some, rd8_3, Option.bind_some, sf15, rd15_0, Option.bind_some, Option.bind_some, cp16, Option.bind_some, rd8_5, Option.bind_some, sf24, wr24_2, Option.bind_some, Option.bind_some, rd8_3, Option.bind_some, sf15, rd15_6, Option.bind_some, up_n _ _ (by decide), up_n _ _ (by decide), up_n _ _ (by decide), a5, Option.bind_some]
    · rw [es]
      exact b1
    · refine ⟨⟨x.2.1, x.2.2.1, x.2.2.2.1, x.2.2.2.2, a7, cg_cp a6 _ _, fun j hj => by rw [up_s, fb_put_in (by omega) (by omega), Nat.sub_zero]; exact b2 j hj⟩, by rw [up_n _ _ (by decide), up_s, b4], TI_of (t := 0) (b := b) (by omega) (by rw [up_n _ _ (by decide), up_n _ _ (by decide), up_s]; rfl) (by rw [b3, m12]; rfl) (fun j hj => by omega), HI_forget Hh _ _ _ (by rw [up_n _ _ (by decide), up_n _ _ (by decide), up_n _ _ (by decide), a3 193 (by omega)]) (up_s _ _ _) b5, II_same I rfl rfl rfl (fun k hk => by rw [up_n _ _ (by omega), a2 _ (by omega)]), SI_same S (by rw [up_n _ _ (by decide), a2 19 (by decide)]) (by rw [up_n _ _ (by decide), a2 21 (by decide)]) (by rw [up_n _ _ (by decide), up_n _ _ (by decide), up_n _ _ (by decide), a3 148 (by omega)]) (by rw [up_n _ _ (by decide), up_n _ _ (by decide), up_n _ _ (by decide), a3 149 (by omega)]), KI_same K rfl⟩
