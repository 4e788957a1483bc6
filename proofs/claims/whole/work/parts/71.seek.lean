/-! THE CLASS'S SEARCH, AND ITS MEMORY OF THE GRID THAT IT SEARCHED -/
theorem srun_z (h v s : Nat) (bl : List Nat) (hbl : ∀ k ∈ bl, k < h * v) : ∀ N p col t, (∀ k, h * v ≤ k → col k = 0) → ∀ k, h * v ≤ k → (srun h v s bl N p col t).2.2 k = 0 := by
  intro N
  induction N with
  | zero => intro p col t hz k hk; exact hz k hk
  | succ N ih =>
    intro p col t hz k hk
    rw [srun]
    by_cases q0 : p = 0
    · rw [if_pos q0]; exact hz k hk
    rw [if_neg q0]
    rcases Nat.lt_or_ge (p - 1) bl.length with q1 | q1
    · have hkm := hbl _ (List.getElem_mem q1)
      have hz2 : ∀ c, ∀ k, h * v ≤ k → updN col bl[p - 1] c k = 0 := fun c k hk => by rw [updN_n col (by omega)]; exact hz k hk
      rw [List.getElem?_eq_getElem q1]
      simp only []
      split
      · exact hz k hk
      · split
        · exact ih _ _ _ (hz2 _) k hk
        · exact ih _ _ _ (hz2 _) k hk
    · rw [List.getElem?_eq_none q1]
      exact hz k hk
def SI (g : Nat → GR) (i : Nat → Int32) : Prop := ∃ h v s col, gokz h v s col ∧ cg g 19 h v s col ∧ (0 < h → i 148 = nI (sres h v s col).2.1 ∧ i 149 = nI (sres h v s col).1 ∧ (sres h v s col).1 ≤ 2 ∧ ((sres h v s col).1 = 1 → cg g 21 h v s (sres h v s col).2.2 ∧ gokz h v s (sres h v s col).2.2))
theorem gokz_same {h v s : Nat} {col col2 : Nat → Nat} (O : gokz h v s col) (O2 : gokz h v s col2) (e : ∀ k, k < h * v → col k = col2 k) : col = col2 := by
  funext k
  rcases Nat.lt_or_ge k (h * v) with q | q
  · exact e k q
  · rw [O.2 k q, O2.2 k q]
section SKA
variable {n1 n2 L : Nat} {xs : Nat → Int32} {g : Nat → GR} {i : Nat → Int32} {A : Nat → Nat → Int32} {m : Nat → Int32} {B : Nat → Nat → Int32} {J : Nat → Int64} {wd : Int64} {o : Nat → Int64} {h v s : Nat} {col : Nat → Nat}
theorem sl_loop (C : cg g 21 h v s col) (O : gok h v s col) :
    ∀ d n k f i, k + d = h * v → d < n → lstd (blL col k) f → i 147 = nI (blL col k).length → ∃ f', lstd (blL col (h * v)) f' ∧ f_S_listBlanks_p7 n 18 (nI k) (mk n1 n2 L xs g i (up A 23 f) m B J wd o) = some (mk n1 n2 L xs g (up i 147 (nI (blL col (h * v)).length)) (up A 23 f') m B J wd o, ()) := by
  have h64 := O.hv
  have h4 := O.2.2.1
  intro d
  induction d with
  | zero =>
    intro n k f i hk hn hf hi
    obtain ⟨n, rfl⟩ : ∃ m, n = m + 1 := ⟨n - 1, by omega⟩
    have ek : k = h * v := by omega
    refine ⟨f, by rw [← ek]; exact hf, ?_⟩
    rw [f_S_listBlanks_p7, rd18_1, Option.bind_some, G_size C.g21, Option.bind_some, if_pos (nI_le (by omega) (by omega)), ← ek, ← hi, up_id]
  | succ d ih =>
    intro n k f i hk hn hf hi
    obtain ⟨n, rfl⟩ : ∃ m, n = m + 1 := ⟨n - 1, by omega⟩
    have hkl : k < h * v := by omega
    have ho := O.2.2.2.2.2 k hkl
    have hlen := blL_len col k
    rw [f_S_listBlanks_p7, rd18_1, Option.bind_some, G_size C.g21, Option.bind_some, if_neg (nI_ge hkl (by omega)), rd18_1, Option.bind_some, G_colourOf C.g21 C.2.2.2 O hkl, Option.bind_some]
    unfold f_S_listBlanks_p61
    by_cases z : col k = 0
    · have e' : blL col (k + 1) = blL col k ++ [k] := by rw [blL_succ, if_pos z]
      have el : (blL col (k + 1)).length = (blL col k).length + 1 := by rw [e', List.length_append]; rfl
      have e64 : am_al (mk n1 n2 L xs g i (up A 23 f) m B J wd o) 23 = some (nI 64) := r_al ar23 (by decide)
      rw [z, if_neg (show ¬ ¬ nI 0 = (0 : Int32) from fun y => y rfl), rd18_3, Option.bind_some, hi, rd18_2, Option.bind_some, e64, Option.bind_some, if_neg (nI_ge (by omega) (by decide)), Option.bind_some, Option.bind_some, w_si ar23 (by omega) (by decide) (by decide), Option.bind_some, st23, up_s, up_up, rd18_3, Option.bind_some, hi, wr18_3, Option.bind_some, nI_1, nI_1, ← el]
      obtain ⟨f', l', e2⟩ := ih n (k + 1) (upd f (blL col k).length (nI k)) (up i 147 (nI (blL col (k + 1)).length)) (by omega) (by omega) (by rw [e']; exact lstd_push hf k) (up_s _ _ _)
      rw [up_up] at e2
      exact ⟨f', l', e2⟩
    · have e' : blL col (k + 1) = blL col k := by rw [blL_succ, if_neg z, List.append_nil]
      rw [if_pos (nI_ne0 (by omega) (by omega)), nI_1]
      exact ih n (k + 1) f i (by omega) (by omega) (by rw [e']; exact hf) (by rw [e']; exact hi)
theorem S_listBlanks (C : cg g 21 h v s col) (O : gok h v s col) : ∃ f', lstd (blL col (h * v)) f' ∧ f_S_listBlanks 18 (mk n1 n2 L xs g i A m B J wd o) = some (mk n1 n2 L xs g (up i 147 (nI (blL col (h * v)).length)) (up A 23 f') m B J wd o, ()) := by
  have h64 := O.hv
  obtain ⟨f', l', e⟩ := sl_loop (n1 := n1) (n2 := n2) (L := L) (xs := xs) (A := A) (m := m) (B := B) (J := J) (wd := wd) (o := o) C O (h * v) am_N 0 (A 23) (up i 147 0) (by omega) (by unfold am_N; omega) (fun j k hj => by cases j <;> cases hj) (up_s _ _ _)
  refine ⟨f', l', ?_⟩
  unfold f_S_listBlanks e_S_listBlanks
  rw [sf18, wr18_3, Option.bind_some]
  rw [up_id, up_up] at e
  exact e
theorem S_goThrough (C : cg g 21 h v s col) (O : gok h v s col) (ht : i 148 = 0) : ∃ f' fA i', (∀ a, a ≠ 147 → a ≠ 148 → i' a = i a) ∧ i' 148 = nI (srun h v s (blL col (h * v)) 50000 1 col 0).2.1 ∧ (srun h v s (blL col (h * v)) 50000 1 col 0).1 ≤ 2 ∧ ((srun h v s (blL col (h * v)) 50000 1 col 0).1 = 1 → fs f' h v (srun h v s (blL col (h * v)) 50000 1 col 0).2.2 ∧ gok h v s (srun h v s (blL col (h * v)) 50000 1 col 0).2.2) ∧
    f_S_goThrough 18 (mk n1 n2 L xs g i A m B J wd o) = some (mk n1 n2 L xs (up g 21 (h, v, s, f')) i' (up A 23 fA) m B J wd o, nI (srun h v s (blL col (h * v)) 50000 1 col 0).1) := by
  have h64 := O.hv
  have hlen := blL_len col (h * v)
  obtain ⟨fA, l', e⟩ := S_listBlanks (n1 := n1) (n2 := n2) (L := L) (xs := xs) (i := i) (A := A) (m := m) (B := B) (J := J) (wd := wd) (o := o) C O
  obtain ⟨f', i', a1, a2, a3, a4, a5⟩ := go_loop (n1 := n1) (n2 := n2) (L := L) (xs := xs) (A := up A 23 fA) (m := m) (B := B) (J := J) (wd := wd) (o := o) (blL col (h * v)) (by omega) (by rw [up_s]; exact l') (fun k hk => (blL_mem.mp hk).1) 50000 am_N 0 1 g (up i 147 (nI (blL col (h * v)).length)) 0 col C O (by rw [up_n _ _ (by decide), ht]; rfl) (up_s _ _ _) (by decide) (by omega) (by omega) (by unfold am_N; omega) (by omega)
  refine ⟨f', fA, i', fun a h1 h2 => by rw [a1 a h2, up_n _ _ h1], a2, a3, a4, ?_⟩
  unfold f_S_goThrough e_S_goThrough
  rw [sf18, e, Option.bind_some]
  exact a5
theorem cg.g19 (C : cg g 19 h v s col) : gr (mk n1 n2 L xs g i A m B J wd o) 19 20 h v s (g 19).2.2.2 := by obtain ⟨rfl, rfl, rfl, -⟩ := C; exact g19
theorem cp19 : f_G_copy 19 11 (mk n1 n2 L xs g i A m B J wd o) = some (mk n1 n2 L xs (up g 19 (cpG (g 11) (g 19))) i A m B J wd o, ()) := by
  rw [G_copy g19 g11 (by decide) (by decide), gp19]
  rfl
theorem cp21 : f_G_copy 21 11 (mk n1 n2 L xs g i A m B J wd o) = some (mk n1 n2 L xs (up g 21 (cpG (g 11) (g 21))) i A m B J wd o, ()) := by
  rw [G_copy g21 g11 (by decide) (by decide), gp21]
  rfl
theorem S_seek (S : SI g i) (C : cg g 11 h v s col) (O : gokz h v s col) (h0 : 0 < h) : ∃ g' i' A', f_S_seek 18 11 (mk n1 n2 L xs g i A m B J wd o) = some (mk n1 n2 L xs g' i' A' m B J wd o, ()) ∧ (∀ a, a ≠ 19 → a ≠ 21 → g' a = g a) ∧ (∀ a, a ≠ 147 → a ≠ 148 → a ≠ 149 → i' a = i a) ∧ (∀ a, a ≠ 23 → A' a = A a) ∧ cg g' 19 h v s col ∧ i' 148 = nI (sres h v s col).2.1 ∧ i' 149 = nI (sres h v s col).1 ∧ (sres h v s col).1 ≤ 2 ∧ ((sres h v s col).1 = 1 → cg g' 21 h v s (sres h v s col).2.2 ∧ gokz h v s (sres h v s col).2.2) := by
  obtain ⟨h2, v2, s2, col2, O2, C2, S2⟩ := S
  unfold f_S_seek e_S_seek
  rw [sf18, rd18_0, Option.bind_some]
  rcases G_isSame (C2.g19 (n1 := n1) (n2 := n2) (L := L) (xs := xs) (i := i) (A := A) (m := m) (B := B) (J := J) (wd := wd) (o := o)) O2.1 (C.g11 (n1 := n1) (n2 := n2) (L := L) (xs := xs) (i := i) (A := A) (m := m) (B := B) (J := J) (wd := wd) (o := o)) O.1 with ⟨⟨r1, r2, r3, r4⟩, e⟩ | ⟨-, e⟩
  · subst r1 r2 r3
    have ec : col2 = col := gokz_same O2 O (fun k hk => fs_same O2.1 O.1 C2.2.2.2 C.2.2.2 r4 hk)
    subst ec
    obtain ⟨t1, t2, t3, t4⟩ := S2 h0
    refine ⟨g, i, A, ?_, fun _ _ _ => rfl, fun _ _ _ _ => rfl, fun _ _ => rfl, C2, t1, t2, t3, t4⟩
    rw [e, Option.bind_some, if_neg (show ¬ (1 : Int32) = 0 by decide)]
  · rw [e, Option.bind_some, if_pos rfl, rd18_0, Option.bind_some, cp19, Option.bind_some, rd18_1, Option.bind_some, cp21, Option.bind_some]
    have C3 : cg (up g 19 (cpG (g 11) (g 19))) 11 h v s col := cg_ne C _ (by decide)
    have C3' : cg (up g 19 (cpG (g 11) (g 19))) 19 h v s col := cg_cp C _ _
    generalize eg : up g 19 (cpG (g 11) (g 19)) = ga at *
    have C4 : cg (up ga 21 (cpG (ga 11) (ga 21))) 11 h v s col := cg_ne C3 _ (by decide)
    have C5 : cg (up ga 21 (cpG (ga 11) (ga 21))) 21 h v s col := cg_cp C3 _ _
    have C6 : cg (up ga 21 (cpG (ga 11) (ga 21))) 19 h v s col := cg_ne C3' _ (by decide)
    have hg : ∀ a, a ≠ 19 → a ≠ 21 → up ga 21 (cpG (ga 11) (ga 21)) a = g a := fun a h1 h2 => by rw [up_n _ _ h2, ← eg, up_n _ _ h1]
    generalize up ga 21 (cpG (ga 11) (ga 21)) = gb at *
    simp only []
    rw [wr18_4, Option.bind_some, C_isGood C4 O.1, Option.bind_some]
    unfold sres f_S_seek_p49
    by_cases z : (rcs h v col 0).length = 0
    · obtain ⟨f', fA, i', a1, a2, a3, a4, a5⟩ := S_goThrough (n1 := n1) (n2 := n2) (L := L) (xs := xs) (i := up i 148 0) (A := A) (m := m) (B := B) (J := J) (wd := wd) (o := o) C5 O.1 (up_s _ _ _)
      simp only [if_pos z]
      refine ⟨up gb 21 (h, v, s, f'), up i' 149 (nI (srun h v s (blL col (h * v)) 50000 1 col 0).1), up A 23 fA, ?_, fun a h1 h2 => by rw [up_n _ _ h2, hg a h1 h2], fun a h1 h2 h3 => by rw [up_n _ _ h3, a1 a h1 h2, up_n _ _ h2], fun a h1 => up_n _ _ h1, cg_ne C6 _ (by decide), by rw [up_n _ _ (by decide), a2], up_s _ _ _, a3, fun y => ⟨cg21 (a4 y).1, (a4 y).2, srun_z h v s _ (fun k hk => (blL_mem.mp hk).1) 50000 1 col 0 O.2⟩⟩
      rw [if_neg (show ¬ (1 : Int32) = 0 by decide), a5, Option.bind_some, wr18_5, Option.bind_some]
    · simp only [if_neg z]
      refine ⟨gb, up (up i 148 0) 149 0, A, ?_, hg, fun a _ h2 h3 => by rw [up_n _ _ h3, up_n _ _ h2], fun _ _ => rfl, C6, rfl, rfl, by show 0 ≤ 2; omega, fun y => absurd (show (0 : Nat) = 1 from y) (by decide)⟩
      rw [if_pos trivial, wr18_5, Option.bind_some]
end SKA
