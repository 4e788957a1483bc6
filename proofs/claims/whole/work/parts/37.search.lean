/-! THE SEARCH -/
def blL (col : Nat → Nat) (n : Nat) : List Nat := enum (fun k => if col k = 0 then [k] else []) 0 n
def tryC (h v s : Nat) (col : Nat → Nat) (k : Nat) : Nat → Nat → Nat → Nat × Nat
  | 0, _, t => (0, t)
  | d + 1, c, t => if t + 1 = 20000 then (0, 20000) else if cth h v col k c = 0 then (c, t + 1) else tryC h v s col k d (c + 1) (t + 1)
def srun (h v s : Nat) (bl : List Nat) : Nat → Nat → (Nat → Nat) → Nat → Nat × Nat × (Nat → Nat)
  | 0, _, col, t => (0, t, col)
  | n + 1, p, col, t => if p = 0 then (0, t, col) else match bl[p - 1]? with
    | none => (1, t, col)
    | some k => if (tryC h v s col k (s - col k) (col k + 1) t).2 = 20000 then (2, 20000, col) else
      if (tryC h v s col k (s - col k) (col k + 1) t).1 = 0 then srun h v s bl n (p - 1) (updN col k 0) (tryC h v s col k (s - col k) (col k + 1) t).2
      else srun h v s bl n (p + 1) (updN col k (tryC h v s col k (s - col k) (col k + 1) t).1) (tryC h v s col k (s - col k) (col k + 1) t).2
theorem tryC_b (h v s : Nat) (col : Nat → Nat) (k : Nat) : ∀ d c t, c + d = s + 1 → 1 ≤ c → t < 20000 → t ≤ (tryC h v s col k d c t).2 ∧ (tryC h v s col k d c t).2 ≤ 20000 ∧ ((tryC h v s col k d c t).1 ≠ 0 → t + 1 ≤ (tryC h v s col k d c t).2) ∧ (tryC h v s col k d c t).1 ≤ s := by
  intro d
  induction d with
  | zero => intro c t hc h1 ht; rw [tryC]; exact ⟨Nat.le_refl _, by show t ≤ 20000; omega, fun q => absurd rfl q, Nat.zero_le _⟩
  | succ d ih =>
    intro c t hc h1 ht
    rw [tryC]
    by_cases q : t + 1 = 20000
    · rw [if_pos q]; exact ⟨by show t ≤ 20000; omega, by show 20000 ≤ 20000; omega, fun z => absurd rfl z, Nat.zero_le _⟩
    · rw [if_neg q]
      by_cases z : cth h v col k c = 0
      · rw [if_pos z]; exact ⟨by show t ≤ t + 1; omega, by show t + 1 ≤ 20000; omega, fun _ => by show t + 1 ≤ t + 1; omega, by show c ≤ s; omega⟩
      · rw [if_neg z]
        obtain ⟨a1, a2, a3, a4⟩ := ih (c + 1) (t + 1) (by omega) (by omega) (by omega)
        exact ⟨by omega, a2, fun y => by have := a3 y; omega, a4⟩
theorem blL_mem {col : Nat → Nat} {n k : Nat} : k ∈ blL col n ↔ k < n ∧ col k = 0 := by
  unfold blL
  rw [enum_mem]
  constructor
  · rintro ⟨j, -, h2, h3⟩
    split at h3
    · next z => rw [List.mem_singleton] at h3; subst h3; exact ⟨by omega, z⟩
    · cases h3
  · rintro ⟨h1, h2⟩
    exact ⟨k, Nat.zero_le _, by omega, by rw [if_pos h2]; exact List.mem_singleton.mpr rfl⟩
theorem blL_len (col : Nat → Nat) (n : Nat) : (blL col n).length ≤ n := by
  unfold blL
  rw [enum_len]
  have h1 : fb_sm (fun j => (if col (0 + j) = 0 then [0 + j] else []).length) n ≤ fb_sm (fun _ => 1) n := fb_sm_le (fun j _ => by split <;> simp)
  rw [fb_sm_const] at h1
  omega
theorem blL_succ (col : Nat → Nat) (n : Nat) : blL col (n + 1) = blL col n ++ if col n = 0 then [n] else [] := by
  have h1 : ∀ (F : Nat → List Nat) (m i : Nat), enum F i (m + 1) = enum F i m ++ F (i + m) := by
    intro F m
    induction m with
    | zero => intro i; show F i ++ [] = [] ++ F (i + 0); rw [List.append_nil, List.nil_append, Nat.add_zero]
    | succ m ih =>
      intro i
      rw [enum, ih (i + 1), enum, List.append_assoc, show i + 1 + m = i + (m + 1) by omega]
  unfold blL
  rw [h1, Nat.zero_add]
def lstd (l : List Nat) (f : Nat → Int32) : Prop := ∀ j k, l[j]? = some k → f j = nI k
theorem lstd_push {l : List Nat} {f : Nat → Int32} (h : lstd l f) (k : Nat) : lstd (l ++ [k]) (upd f l.length (nI k)) := by
  intro j k' hj
  rcases Nat.lt_or_ge j l.length with q | q
  · rw [List.getElem?_append_left q] at hj
    rw [pk_un (by omega)]
    exact h j k' hj
  · rw [List.getElem?_append_right q] at hj
    have e : j = l.length := by
      have := (List.getElem?_eq_some_iff.mp hj).1
      simp at this
      omega
    subst e
    rw [Nat.sub_self] at hj
    cases hj
    rw [pk_us]
section SRA
variable {n1 n2 L : Nat} {xs : Nat → Int32} {g : Nat → GR} {i : Nat → Int32} {A : Nat → Nat → Int32} {m : Nat → Int32} {B : Nat → Nat → Int32} {J : Nat → Int64} {wd : Int64} {o : Nat → Int64} {h v s : Nat} {col : Nat → Nat}
theorem cg.g21 (C : cg g 21 h v s col) : gr (mk n1 n2 L xs g i A m B J wd o) 21 22 h v s (g 21).2.2.2 := by obtain ⟨rfl, rfl, rfl, -⟩ := C; exact g21
theorem cg21 {f' : Nat → Int64} (F : fs f' h v col) : cg (up g 21 (h, v, s, f')) 21 h v s col := by unfold cg; rw [up_s]; exact ⟨rfl, rfl, rfl, F⟩
theorem cbl_put (C : cg g 21 h v s col) (O : gok h v s col) {k : Nat} (hk : k < h * v) (x : Int32) : ∃ f', f_S_colourBlank_p101 18 x (nI k) (mk n1 n2 L xs g i A m B J wd o) = some (mk n1 n2 L xs (up g 21 (h, v, s, f')) i A m B J wd o, x - 1) ∧ fs f' h v (updN col k 0) := by
  obtain ⟨f', e, F⟩ := G_put (C.g21 (n1 := n1) (n2 := n2) (L := L) (xs := xs) (i := i) (A := A) (m := m) (B := B) (J := J) (wd := wd) (o := o)) C.2.2.2 O hk (Nat.zero_le s)
  refine ⟨f', ?_, F⟩
  unfold f_S_colourBlank_p101
  rw [rd18_1, Option.bind_some, show (0 : Int32) = nI 0 from rfl, e, Option.bind_some, gp21]
theorem cbl_loop (C : cg g 21 h v s col) (O : gok h v s col) {k j : Nat} (hk : k < h * v) :
    ∀ d n c t, c + d = s + 1 → 1 ≤ c → t < 20000 → d + 1 < n →
      ((tryC h v s col k d c t).2 = 20000 → ∃ f' x, f_S_colourBlank_p36 n 18 (nI j) (nI k) (nI c) (mk n1 n2 L xs g (up i 148 (nI t)) A m B J wd o) = some (mk n1 n2 L xs (up g 21 (h, v, s, f')) (up i 148 (nI 20000)) A m B J wd o, x)) ∧
      ((tryC h v s col k d c t).2 ≠ 20000 → ∃ f', fs f' h v (updN col k (tryC h v s col k d c t).1) ∧ f_S_colourBlank_p36 n 18 (nI j) (nI k) (nI c) (mk n1 n2 L xs g (up i 148 (nI t)) A m B J wd o) = some (mk n1 n2 L xs (up g 21 (h, v, s, f')) (up i 148 (nI (tryC h v s col k d c t).2)) A m B J wd o, if (tryC h v s col k d c t).1 = 0 then nI j - 1 else nI (j + 1))) := by
  have h4 := O.2.2.1
  intro d
  induction d with
  | zero =>
    intro n c t hc h1 ht hn
    obtain ⟨n, rfl⟩ : ∃ m, n = m + 1 := ⟨n - 1, by omega⟩
    rw [f_S_colourBlank_p36, rd18_1, Option.bind_some, G_shades C.g21, Option.bind_some, if_pos (nI_lt (by omega) (by omega)), tryC]
    obtain ⟨f', e, F⟩ := cbl_put (n1 := n1) (n2 := n2) (L := L) (xs := xs) (i := up i 148 (nI t)) (A := A) (m := m) (B := B) (J := J) (wd := wd) (o := o) C O hk (nI j)
    refine ⟨fun z => by have : t = 20000 := z; omega, fun _ => ⟨f', F, ?_⟩⟩
    simp only []
    rw [e, if_pos trivial]
  | succ d ih =>
    intro n c t hc h1 ht hn
    obtain ⟨n, rfl⟩ : ∃ m, n = m + 1 := ⟨n - 1, by omega⟩
    have h20 : ¬ (20000 : Int32) ≤ nI t := nI_ge (b := 20000) ht (by decide)
    have step : f_S_colourBlank_p36 (n + 1) 18 (nI j) (nI k) (nI c) (mk n1 n2 L xs g (up i 148 (nI t)) A m B J wd o) = (if ¬ nI (cth h v col k c) = 0 then f_S_colourBlank_p36 n 18 (nI j) (nI k) (nI (c + 1)) (mk n1 n2 L xs g (up i 148 (nI (t + 1))) A m B J wd o) else ((f_G_put 21 (nI k) (nI c) (mk n1 n2 L xs g (up i 148 (nI (t + 1))) A m B J wd o)).bind fun r24 => some (r24.1, nI j + 1))) := by
      rw [f_S_colourBlank_p36, rd18_1, Option.bind_some, G_shades C.g21, Option.bind_some, if_neg (nI_nlt (by omega) (by omega)), rd18_4, Option.bind_some, up_s, if_neg h20, Option.bind_some, wr18_4, Option.bind_some, up_up, nI_1, rd18_1, Option.bind_some, G_countThrough C.g21 C.2.2.2 O hk (by omega), Option.bind_some, nI_1, rd18_1]
      rfl
    have hct := cth_le h v col k c O.1 O.2.1
    rw [step, tryC]
    by_cases q : t + 1 = 20000
    · rw [if_pos q]
      refine ⟨fun _ => ?_, fun z => absurd rfl z⟩
      by_cases z : cth h v col k c = 0
      · rw [z, if_neg (by decide)]
        obtain ⟨f', e, F⟩ := G_put (C.g21 (n1 := n1) (n2 := n2) (L := L) (xs := xs) (i := up i 148 (nI (t + 1))) (A := A) (m := m) (B := B) (J := J) (wd := wd) (o := o)) C.2.2.2 O hk (show c ≤ s by omega)
        exact ⟨f', nI j + 1, by rw [e, Option.bind_some, gp21, q]⟩
      · rw [if_pos (nI_ne0 (by omega) (by omega)), q]
        obtain ⟨n, rfl⟩ : ∃ m, n = m + 1 := ⟨n - 1, by omega⟩
        obtain ⟨f', e, F⟩ := cbl_put (n1 := n1) (n2 := n2) (L := L) (xs := xs) (i := up i 148 (nI 20000)) (A := A) (m := m) (B := B) (J := J) (wd := wd) (o := o) C O hk (nI j)
        refine ⟨f', nI j - 1, ?_⟩
        have h20' : (20000 : Int32) ≤ nI 20000 := by decide
        rw [f_S_colourBlank_p36, rd18_1, Option.bind_some, G_shades C.g21, Option.bind_some]
        simp only []
        split
        · exact e
        · rw [rd18_4, Option.bind_some, up_s, if_pos h20']
          exact e
    · rw [if_neg q]
      by_cases z : cth h v col k c = 0
      · rw [if_pos z, z, if_neg (by decide)]
        obtain ⟨f', e, F⟩ := G_put (C.g21 (n1 := n1) (n2 := n2) (L := L) (xs := xs) (i := up i 148 (nI (t + 1))) (A := A) (m := m) (B := B) (J := J) (wd := wd) (o := o)) C.2.2.2 O hk (show c ≤ s by omega)
        refine ⟨fun y => absurd y q, fun _ => ⟨f', F, ?_⟩⟩
        rw [e, Option.bind_some, gp21, nI_1]
        show _ = some (_, if c = 0 then _ else _)
        rw [if_neg (by omega)]
      · rw [if_neg z, if_pos (nI_ne0 (by omega) (by omega))]
        exact ih n (c + 1) (t + 1) (by omega) (by omega) (by omega) (by omega)
theorem go48 {t : Nat} (ht : i 148 = nI t) (h20 : t < 20000) (x : Int32) : f_S_goThrough_p48 18 x (mk n1 n2 L xs g i A m B J wd o) = some (mk n1 n2 L xs g i A m B J wd o, if x < i 147 then 0 else 1) := by
  unfold f_S_goThrough_p48 f_S_goThrough_p73
  have e : nI t < (20000 : Int32) := nI_lt (b := 20000) h20 (by decide)
  rw [rd18_4, Option.bind_some, ht, if_pos e, rd18_3, Option.bind_some]
  split <;> rfl
theorem go48' (ht : i 148 = nI 20000) (x : Int32) : f_S_goThrough_p48 18 x (mk n1 n2 L xs g i A m B J wd o) = some (mk n1 n2 L xs g i A m B J wd o, 2) := by
  unfold f_S_goThrough_p48
  rw [rd18_4, Option.bind_some, ht, if_neg (by decide)]
theorem go_loop (bl : List Nat) (hb : bl.length ≤ 64) (hA : lstd bl (A 23)) (hbl : ∀ k ∈ bl, k < h * v) :
    ∀ N n step p g i t col, cg g 21 h v s col → gok h v s col → i 148 = nI t → i 147 = nI bl.length → t < 20000 → p ≤ bl.length + 1 → 2 * (20000 - t) + p < N → N < n → step + N ≤ 1000000 →
      ∃ f' i', (∀ a, a ≠ 148 → i' a = i a) ∧ i' 148 = nI (srun h v s bl N p col t).2.1 ∧ (srun h v s bl N p col t).1 ≤ 2 ∧ ((srun h v s bl N p col t).1 = 1 → fs f' h v (srun h v s bl N p col t).2.2 ∧ gok h v s (srun h v s bl N p col t).2.2) ∧
        f_S_goThrough_p8 n 18 (nI p - 1) (nI step) (mk n1 n2 L xs g i A m B J wd o) = some (mk n1 n2 L xs (up g 21 (h, v, s, f')) i' A m B J wd o, nI (srun h v s bl N p col t).1) := by
  intro N
  induction N with
  | zero => intro n step p g i t col _ _ _ _ _ _ hN; omega
  | succ N ih =>
    intro n step p g i t col C O ht hl h20 hp hN hn hst
    obtain ⟨n, rfl⟩ : ∃ m, n = m + 1 := ⟨n - 1, by omega⟩
    have hs1 : ¬ (1000000 : Int32) ≤ nI step := nI_ge (b := 1000000) (by omega) (by decide)
    have hid : up g 21 (h, v, s, (g 21).2.2.2) = g := by
      obtain ⟨rfl, rfl, rfl, -⟩ := C
      exact up_id g 21
    rw [f_S_goThrough_p8, if_neg hs1, srun]
    by_cases q0 : p = 0
    · rw [if_pos q0]
      subst q0
      have hneg : nI 0 - 1 < 0 := by decide
      refine ⟨(g 21).2.2.2, i, fun _ _ => rfl, ht, by show 0 ≤ 2; omega, fun z => absurd (show (0 : Nat) = 1 from z) (by decide), ?_⟩
      have hlt : nI 0 - 1 < nI bl.length := by
        rw [fa_lt, nI_toInt (by omega)]
        have : (nI 0 - 1).toInt = -1 := by decide
        omega
      rw [if_pos hneg, go48 ht h20, hid, hl, if_pos hlt]
      rfl
    · rw [if_neg q0]
      have hp1 : nI p - 1 = nI (p - 1) := pk_sub (b := 1) (by omega)
      have h20' : ¬ (20000 : Int32) ≤ nI t := nI_ge (b := 20000) h20 (by decide)
      rw [hp1, if_neg (nI_pos (by omega)), rd18_3, Option.bind_some, hl]
      rcases Nat.lt_or_ge (p - 1) bl.length with q1 | q1
      · have hg := List.getElem?_eq_getElem q1
        have hkm := hbl _ (List.getElem_mem q1)
        have hk64 : bl[p - 1] < 64 := Nat.lt_of_lt_of_le hkm O.hv
        have hcol := O.2.2.2.2.2 _ hkm
        have h4 := O.2.2.1
        rw [hg, if_neg (nI_ge q1 (by omega)), rd18_4, Option.bind_some, ht, if_neg h20']
        simp only []
        obtain ⟨b1, b2, b3, b4⟩ := tryC_b h v s col bl[p - 1] (s - col bl[p - 1]) (col bl[p - 1] + 1) t (by omega) (by omega) h20
        have hup : up i 148 (nI t) = i := by rw [← ht]; exact up_id i 148
        have hcb := cbl_loop (n1 := n1) (n2 := n2) (L := L) (xs := xs) (i := i) (A := A) (m := m) (B := B) (J := J) (wd := wd) (o := o) C O (j := p - 1) hkm (s - col bl[p - 1]) am_N (col bl[p - 1] + 1) t (by omega) (by omega) h20 (by unfold am_N; omega)
        rw [hup] at hcb
        have ecb : f_S_colourBlank 18 (nI (p - 1)) (mk n1 n2 L xs g i A m B J wd o) = f_S_colourBlank_p36 am_N 18 (nI (p - 1)) (nI bl[p - 1]) (nI (col bl[p - 1] + 1)) (mk n1 n2 L xs g i A m B J wd o) := by
          unfold f_S_colourBlank e_S_colourBlank
          have e64 : am_al (mk n1 n2 L xs g i A m B J wd o) 23 = some (nI 64) := r_al ar23 (by decide)
          rw [sf18, if_neg (nI_pos (by omega)), rd18_2, Option.bind_some, e64, Option.bind_some, if_pos (nI_lt (by omega) (by decide)), Option.bind_some, r_ai ar23 (by omega) (by decide), Option.bind_some, hA _ _ hg, rd18_1, Option.bind_some, G_colourOf C.g21 C.2.2.2 O hkm, Option.bind_some, nI_1]
        rw [ecb]
        by_cases q2 : (tryC h v s col bl[p - 1] (s - col bl[p - 1]) (col bl[p - 1] + 1) t).2 = 20000
        · obtain ⟨f', x, e⟩ := hcb.1 q2
          rw [if_pos q2, e, Option.bind_some, nI_1]
          refine ⟨f', up i 148 (nI 20000), fun a ha => up_n i _ ha, up_s _ _ _, by show 2 ≤ 2; omega, fun z => absurd (show (2 : Nat) = 1 from z) (by decide), ?_⟩
          obtain ⟨n, rfl⟩ : ∃ m, n = m + 1 := ⟨n - 1, by omega⟩
          have hs2 : ¬ (1000000 : Int32) ≤ nI (step + 1) := nI_ge (b := 1000000) (by omega) (by decide)
          have h20'' : (20000 : Int32) ≤ nI 20000 := by decide
          simp only []
          rw [f_S_goThrough_p8, if_neg hs2, rd18_3, Option.bind_some, rd18_4, Option.bind_some, up_s, if_pos h20'', go48' (up_s _ _ _)]
          split
          · rfl
          · split <;> rfl
        · obtain ⟨f', F', e⟩ := hcb.2 q2
          rw [if_neg q2, e, Option.bind_some, nI_1]
          simp only []
          have C' := cg21 (g := g) (s := s) F'
          have O' := updN_ok O bl[p - 1] b4
          by_cases q3 : (tryC h v s col bl[p - 1] (s - col bl[p - 1]) (col bl[p - 1] + 1) t).1 = 0
          · rw [if_pos q3, if_pos q3]
            rw [q3] at C' O'
            obtain ⟨f2, i2, a1, a2, a3, a4, a5⟩ := ih n (step + 1) (p - 1) _ (up i 148 (nI (tryC h v s col bl[p - 1] (s - col bl[p - 1]) (col bl[p - 1] + 1) t).2)) _ _ C' O' (up_s _ _ _) (by rw [up_n _ _ (by decide), hl]) (by omega) (by omega) (by omega) (by omega) (by omega)
            refine ⟨f2, i2, fun a ha => by rw [a1 a ha, up_n _ _ ha], a2, a3, a4, ?_⟩
            rw [up_up] at a5
            exact a5
          · rw [if_neg q3, if_neg q3]
            have := b3 q3
            obtain ⟨f2, i2, a1, a2, a3, a4, a5⟩ := ih n (step + 1) (p + 1) _ (up i 148 (nI (tryC h v s col bl[p - 1] (s - col bl[p - 1]) (col bl[p - 1] + 1) t).2)) _ _ C' O' (up_s _ _ _) (by rw [up_n _ _ (by decide), hl]) (by omega) (by omega) (by omega) (by omega) (by omega)
            refine ⟨f2, i2, fun a ha => by rw [a1 a ha, up_n _ _ ha], a2, a3, a4, ?_⟩
            rw [up_up] at a5
            have hp2 : nI (p + 1) - 1 = nI (p - 1 + 1) := by
              rw [show nI (p + 1) - 1 = nI (p + 1 - 1) from pk_sub (b := 1) (by omega)]
              congr 1
              omega
            rw [hp2] at a5
            exact a5
      · rw [List.getElem?_eq_none q1, if_pos (nI_le q1 (by omega))]
        refine ⟨(g 21).2.2.2, i, fun _ _ => rfl, ht, by show 1 ≤ 2; omega, fun _ => ⟨C.2.2.2, O⟩, ?_⟩
        rw [go48 ht h20, hid, hl, if_neg (nI_nlt q1 (by omega))]
        rfl
/-! the model's search -/
theorem enc_upd (h v s : Nat) (col : Nat → Nat) (k c : Nat) {f : Nat → Int32} (hf : ∀ j, j < 67 → f j = enc h v s col j) : ∀ j, j < 67 → upd f (k + 3) (nI c) j = enc h v s (updN col k c) j := by
  intro j hj
  by_cases q : j = k + 3
  · subst q
    rw [pk_us]
    show _ = nI (updN col k c k)
    rw [updN_s]
  · rw [pk_un q, hf j hj]
    rcases j with _ | _ | _ | j
    · rfl
    · rfl
    · rfl
    · show nI (col j) = nI (updN col k c j)
      rw [updN_n col (by omega)]
theorem updN_updN (col : Nat → Nat) (k c c' : Nat) : updN (updN col k c) k c' = updN col k c' := by
  funext j
  unfold updN
  split <;> rfl
theorem updN_id (col : Nat → Nat) (k : Nat) : updN col k (col k) = col := by
  funext j
  unfold updN
  split
  · next z => rw [z]
  · rfl
theorem three (k : Nat) : (3 : Int32) + nI k = nI (k + 3) := by rw [show (3 : Int32) = nI 3 from rfl, nI_add, Nat.add_comm]
end SRA
