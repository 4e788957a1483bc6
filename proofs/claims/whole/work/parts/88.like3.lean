/-! LIKES: the model -/
/-- the colours named so far, behind some cells -/
def nmI (f col : Nat → Nat) (N : Nat → Nat) (kk : Nat) : Prop := N 0 = 1 ∧ (∀ k, k < kk → N (col k) = col (f k) + 1) ∧ (∀ u u', u < 5 → u' < 5 → N u = N u' → N u ≠ 0 → u = u') ∧ (∀ u, u < 5 → N u ≠ 0 → u = 0 ∨ ∃ k, k < kk ∧ col k = u) ∧ ∀ u, N u ≤ 5
theorem nm_bad1 {f col : Nat → Nat} {N : Nat → Nat} {kk n : Nat} (I : nmI f col N kk) (hk : kk < n) (hc : col kk < 5) (h0 : N (col kk) ≠ 0) (h1 : N (col kk) ≠ col (f kk) + 1) : ¬ LKp n f col := by
  obtain ⟨i0, i1, i2, i3, -⟩ := I
  rintro ⟨z, l⟩
  rcases i3 _ hc h0 with e | ⟨k, k1, k2⟩
  · rw [e, i0] at h1
    have := (z kk hk).mp e
    omega
  · have a := i1 k k1
    rw [k2] at a
    have := (l k (by omega) kk hk).mp k2
    omega
theorem nm_bad2 {f col : Nat → Nat} {N : Nat → Nat} {kk n u : Nat} (I : nmI f col N kk) (hk : kk < n) (hu : u < 5) (h0 : N (col kk) = 0) (h1 : N u = col (f kk) + 1) : ¬ LKp n f col := by
  obtain ⟨i0, i1, i2, i3, -⟩ := I
  rintro ⟨z, l⟩
  rcases i3 u hu (by omega) with e | ⟨k, k1, k2⟩
  · subst e
    have := (z kk hk).mpr (by omega)
    rw [this] at h0
    omega
  · have a := i1 k k1
    rw [k2] at a
    have := (l k (by omega) kk hk).mpr (by omega)
    rw [← this, k2] at h0
    omega
theorem nm_keep {f col : Nat → Nat} {N : Nat → Nat} {kk : Nat} (I : nmI f col N kk) (h1 : N (col kk) = col (f kk) + 1) : nmI f col N (kk + 1) := by
  obtain ⟨i0, i1, i2, i3, i4⟩ := I
  refine ⟨i0, fun k hk => ?_, i2, fun u hu hn => ?_, i4⟩
  · by_cases z : k = kk
    · subst z; exact h1
    · exact i1 k (by omega)
  · rcases i3 u hu hn with e | ⟨k, k1, k2⟩
    · exact Or.inl e
    · exact Or.inr ⟨k, by omega, k2⟩
theorem nm_new {f col : Nat → Nat} {N : Nat → Nat} {kk : Nat} (I : nmI f col N kk) (hc : col kk < 5) (hy : col (f kk) ≤ 4) (h0 : N (col kk) = 0) (h1 : ∀ u, u < 5 → N u ≠ col (f kk) + 1) : nmI f col (updN N (col kk) (col (f kk) + 1)) (kk + 1) := by
  obtain ⟨i0, i1, i2, i3, i4⟩ := I
  have c0 : col kk ≠ 0 := fun e => by rw [e, i0] at h0; cases h0
  refine ⟨by rw [updN_n N (Ne.symm c0)]; exact i0, fun k hk => ?_, fun u u' hu hu' e hn => ?_, fun u hu hn => ?_, fun u => ?_⟩
  · by_cases z : k = kk
    · subst z; rw [updN_s]
    · have a := i1 k (by omega)
      have : col k ≠ col kk := fun e => by rw [e, h0] at a; cases a
      rw [updN_n N this]
      exact a
  · by_cases z : u = col kk
    · by_cases y : u' = col kk
      · rw [z, y]
      · subst z
        rw [updN_s, updN_n N y] at e
        exact absurd e.symm (h1 u' hu')
    · rw [updN_n N z] at e hn
      by_cases y : u' = col kk
      · subst y
        rw [updN_s] at e
        exact absurd e (h1 u hu)
      · rw [updN_n N y] at e
        exact i2 u u' hu hu' e hn
  · by_cases z : u = col kk
    · exact Or.inr ⟨kk, by omega, z.symm⟩
    · rw [updN_n N z] at hn
      rcases i3 u hu hn with e | ⟨k, k1, k2⟩
      · exact Or.inl e
      · exact Or.inr ⟨k, by omega, k2⟩
  · by_cases z : u = col kk
    · subst z; rw [updN_s]; omega
    · rw [updN_n N z]; exact i4 u
theorem nm_end {f col : Nat → Nat} {N : Nat → Nat} {n : Nat} (I : nmI f col N n) (hc : ∀ k, k < n → col k < 5) : LKp n f col := by
  obtain ⟨i0, i1, i2, i3, -⟩ := I
  refine ⟨fun k hk => ?_, fun k hk k' hk' => ?_⟩
  · have a := i1 k hk
    constructor
    · intro e; rw [e, i0] at a; omega
    · intro e
      exact i2 _ _ (hc k hk) (by decide) (by rw [a, i0, e]) (by omega)
  · have a := i1 k hk
    have b := i1 k' hk'
    constructor
    · intro e; rw [e] at a; omega
    · intro e
      exact i2 _ _ (hc k hk) (hc k' hk') (by omega) (by omega)
section LKC
variable {n1 n2 L : Nat} {xs : Nat → Int32} {g : Nat → GR} {i : Nat → Int32} {A : Nat → Nat → Int32} {m : Nat → Int32} {B : Nat → Nat → Int32} {J : Nat → Int64} {wd : Int64} {o : Nat → Int64} {h v s : Nat} {col : Nat → Nat}
theorem vI_eq {a b : Nat} (ha : a ≤ 100) (hb : b ≤ 100) : vI a = nI b ↔ a = b + 1 := by
  rw [fa_eq, vI_toInt (by omega), nI_toInt (by omega)]
  omega
theorem vI_m1 {a : Nat} (ha : a ≤ 100) : vI a = -1 ↔ a = 0 := by
  rw [fa_eq, vI_toInt (by omega), show (-1 : Int32).toInt = -1 by decide]
  omega
theorem il_new (k30 : Nat → Int32 → am_W → Option (am_W × Int32)) (k40 : Nat → Int32 → Int32 → am_W → Option (am_W × Int32)) {x y : Nat} (hx : x < 5) (hy : y ≤ 4) (x1 x2 : Int32) {f : Nat → Int32} {N : Nat → Nat} (hf : ∀ u, u < 5 → f u = vI (N u)) (hN : ∀ u, N u ≤ 5) : ∀ d n u, u + d = 5 → d < n → (∀ u', u' < u → N u' ≠ y + 1) → ((∃ u', u' < 5 ∧ N u' = y + 1) ∧ f_M_isLike_p92 k30 k40 n 51 x1 x2 (nI x) (nI y) (nI u) (mk n1 n2 L xs g i A m (up B 69 f) J wd o) = some (mk n1 n2 L xs g i A m (up B 69 f) J wd o, 0)) ∨ ((∀ u', u' < 5 → N u' ≠ y + 1) ∧ f_M_isLike_p92 k30 k40 n 51 x1 x2 (nI x) (nI y) (nI u) (mk n1 n2 L xs g i A m (up B 69 f) J wd o) = k40 51 x1 (x2 + 1) (mk n1 n2 L xs g i A m (up B 69 (upd f x (nI y))) J wd o)) := by
  intro d
  induction d with
  | zero =>
    intro n u hu hn hno
    obtain ⟨n, rfl⟩ : ∃ m, n = m + 1 := ⟨n - 1, by omega⟩
    have q : (5 : Int32) ≤ nI u := nI_le (a := 5) (by omega) (by omega)
    refine Or.inr ⟨fun u' h => hno u' (by omega), ?_⟩
    unfold f_M_isLike_p92
    rw [if_pos q, rd51_32, Option.bind_some, w_si ar69 hx (by decide) (by decide), Option.bind_some, st69, up_s, up_up]
    unfold f_M_isLike_p126
    rw [rd51_32, Option.bind_some, r_ai ar69 hx (by decide), Option.bind_some, up_s, pk_us, if_pos rfl]
  | succ d ih =>
    intro n u hu hn hno
    obtain ⟨n, rfl⟩ : ∃ m, n = m + 1 := ⟨n - 1, by omega⟩
    have q : ¬ (5 : Int32) ≤ nI u := nI_ge (b := 5) (by omega) (by omega)
    have e69 : am_ai (mk n1 n2 L xs g i A m (up B 69 f) J wd o) 69 (nI u) = some (vI (N u)) := by
      rw [r_ai ar69 (by omega) (by decide), up_s, hf u (by omega)]
    have hNu := hN u
    rw [f_M_isLike_p92, if_neg q, rd51_32, Option.bind_some, e69, Option.bind_some, nI_1]
    by_cases z : N u = y + 1
    · rw [if_neg (by rw [vI_eq (by omega) (by omega)]; exact fun q => q z)]
      exact Or.inl ⟨⟨u, by omega, z⟩, rfl⟩
    · rw [if_pos (by rw [vI_eq (by omega) (by omega)]; exact z)]
      refine ih n (u + 1) (by omega) (by omega) (fun u' h => ?_)
      by_cases y : u' = u
      · subst y; exact z
      · exact hno u' (by omega)
theorem il_in (M : mN B 53 h v s col) (O : gok h v s col) {p q : Nat} (hp : ∀ r, r < h → dg p r < h) (hq : ∀ c, c < v → dg q c < v) (P : ∀ r, r < h → B 67 r = nI (dg p r)) (Q : ∀ c, c < v → B 68 c = nI (dg q c)) (h4 : h ≤ 4) (v4 : v ≤ 4) {r : Nat} (hr : r < h) (k30 : Nat → Int32 → am_W → Option (am_W × Int32)) : ∀ (d n c : Nat) (f : Nat → Int32) (N : Nat → Nat), c + d = v → d < n → (∀ u, u < 5 → f u = vI (N u)) → nmI (pim v p q) col N (r * v + c) → (¬ LKp (h * v) (pim v p q) col ∧ ∃ f', f_M_isLike_p40 k30 n 51 (nI r) (nI c) (mk n1 n2 L xs g i A m (up B 69 f) J wd o) = some (mk n1 n2 L xs g i A m (up B 69 f') J wd o, 0)) ∨ (∃ (f' : Nat → Int32) (N' : Nat → Nat), (∀ u, u < 5 → f' u = vI (N' u)) ∧ nmI (pim v p q) col N' ((r + 1) * v) ∧ f_M_isLike_p40 k30 n 51 (nI r) (nI c) (mk n1 n2 L xs g i A m (up B 69 f) J wd o) = k30 51 (nI (r + 1)) (mk n1 n2 L xs g i A m (up B 69 f') J wd o)) := by
  have s4 := O.2.2.1
  intro d
  induction d with
  | zero =>
    intro n c f N hc hn hf I
    obtain ⟨n, rfl⟩ : ∃ m, n = m + 1 := ⟨n - 1, by omega⟩
    have ec : c = v := by omega
    subst ec
    refine Or.inr ⟨f, N, hf, by rw [Nat.succ_mul]; exact I, ?_⟩
    rw [f_M_isLike_p40, M_broad (M.up (by decide) f), Option.bind_some, if_pos (nI_le (by omega) (by omega)), nI_1]
  | succ d ih =>
    intro n c f N hc hn hf I
    obtain ⟨n, rfl⟩ : ∃ m, n = m + 1 := ⟨n - 1, by omega⟩
    have hcv : c < v := by omega
    have hk := row_lt hr hcv
    have hk' := row_lt (hp r hr) (hq c hcv)
    have o1 := O.2.2.2.2.2 _ hk
    have o2 := O.2.2.2.2.2 _ hk'
    have epi := pim_at (v := v) (p := p) (q := q) (r := r) hcv
    have M' : mN (up B 69 f) 53 h v s col := M.up (by decide) f
    have e67 : am_ai (mk n1 n2 L xs g i A m (up B 69 f) J wd o) 67 (nI r) = some (nI (dg p r)) := by
      rw [r_ai ar67 (by omega) (by decide)]
      exact congrArg some (P r hr)
    have e68 : am_ai (mk n1 n2 L xs g i A m (up B 69 f) J wd o) 68 (nI c) = some (nI (dg q c)) := by
      rw [r_ai ar68 (by omega) (by decide)]
      exact congrArg some (Q c hcv)
    have e69 : am_ai (mk n1 n2 L xs g i A m (up B 69 f) J wd o) 69 (nI (col (r * v + c))) = some (vI (N (col (r * v + c)))) := by
      rw [r_ai ar69 (by omega) (by decide), up_s, hf _ (by omega)]
    have hNx := I.2.2.2.2 (col (r * v + c))
    have I' := I
    rw [f_M_isLike_p40, M_broad M', Option.bind_some, if_neg (nI_ge hcv (by omega)), rd51_11, Option.bind_some, M_colourAt (mN.gr M') O hr hcv, Option.bind_some, rd51_11, Option.bind_some, rd51_30, Option.bind_some, e67, Option.bind_some, rd51_31, Option.bind_some, e68, Option.bind_some, M_colourAt (mN.gr M') O (hp r hr) (hq c hcv), Option.bind_some, rd51_32, Option.bind_some, e69, Option.bind_some]
    simp only []
    by_cases z : N (col (r * v + c)) = 0
    · rw [if_neg (by rw [vI_m1 (by omega)]; exact fun y => y z)]
      rcases il_new (n1 := n1) (n2 := n2) (L := L) (xs := xs) (g := g) (i := i) (A := A) (m := m) (B := B) (J := J) (wd := wd) (o := o) k30 (f_M_isLike_p40 k30 n) (x := col (r * v + c)) (y := col (dg p r * v + dg q c)) (by omega) (by omega) (nI r) (nI c) hf I.2.2.2.2 5 am_N 0 (by omega) (by unfold am_N; omega) (fun u' h => by omega) with ⟨⟨u, u1, u2⟩, e⟩ | ⟨u1, e⟩
      · have e' : f_M_isLike_p92 k30 (f_M_isLike_p40 k30 n) am_N 51 (nI r) (nI c) (nI (col (r * v + c))) (nI (col (dg p r * v + dg q c))) 0 (mk n1 n2 L xs g i A m (up B 69 f) J wd o) = _ := e
        rw [e']
        exact Or.inl ⟨nm_bad2 I hk u1 z (by rw [epi]; exact u2), f, rfl⟩
      · have e' : f_M_isLike_p92 k30 (f_M_isLike_p40 k30 n) am_N 51 (nI r) (nI c) (nI (col (r * v + c))) (nI (col (dg p r * v + dg q c))) 0 (mk n1 n2 L xs g i A m (up B 69 f) J wd o) = _ := e
        rw [e', nI_1]
        have In := nm_new I (by omega) (by rw [epi]; omega) z (by rw [epi]; exact u1)
        rw [epi] at In
        refine ih n (c + 1) _ _ (by omega) (by omega) (fun u hu => ?_) In
        by_cases y : u = col (r * v + c)
        · subst y; rw [pk_us, updN_s, vI_s]
        · rw [pk_un y, updN_n N y]; exact hf u hu
    · rw [if_pos (by rw [vI_m1 (by omega)]; exact z)]
      unfold f_M_isLike_p126
      rw [rd51_32, Option.bind_some, e69, Option.bind_some, nI_1]
      by_cases y : N (col (r * v + c)) = col (dg p r * v + dg q c) + 1
      · rw [if_pos (by rw [vI_eq (by omega) (by omega)]; exact y)]
        have hke : N (col (r * v + c)) = col (pim v p q (r * v + c)) + 1 := by rw [epi]; exact y
        exact ih n (c + 1) f N (by omega) (by omega) hf (nm_keep I hke)
      · rw [if_neg (by rw [vI_eq (by omega) (by omega)]; exact y)]
        exact Or.inl ⟨nm_bad1 I hk (by omega) z (by rw [epi]; exact y), f, rfl⟩
theorem il_out (M : mN B 53 h v s col) (O : gok h v s col) {p q : Nat} (hp : ∀ r, r < h → dg p r < h) (hq : ∀ c, c < v → dg q c < v) (P : ∀ r, r < h → B 67 r = nI (dg p r)) (Q : ∀ c, c < v → B 68 c = nI (dg q c)) (h4 : h ≤ 4) (v4 : v ≤ 4) : ∀ (d n r : Nat) (f : Nat → Int32) (N : Nat → Nat), r + d = h → d < n → (∀ u, u < 5 → f u = vI (N u)) → nmI (pim v p q) col N (r * v) → ∃ f', f_M_isLike_p30 n 51 (nI r) (mk n1 n2 L xs g i A m (up B 69 f) J wd o) = some (mk n1 n2 L xs g i A m (up B 69 f') J wd o, nI (lkN (h * v) (pim v p q) col)) := by
  have s4 := O.2.2.1
  intro d
  induction d with
  | zero =>
    intro n r f N hr hn hf I
    obtain ⟨n, rfl⟩ : ∃ m, n = m + 1 := ⟨n - 1, by omega⟩
    have er : r = h := by omega
    subst er
    refine ⟨f, ?_⟩
    rw [f_M_isLike_p30, M_high (M.up (by decide) f), Option.bind_some, if_pos (nI_le (by omega) (by omega)), lkN_t (nm_end I (fun k hk => by have := O.2.2.2.2.2 k hk; omega))]
    rfl
  | succ d ih =>
    intro n r f N hr hn hf I
    obtain ⟨n, rfl⟩ : ∃ m, n = m + 1 := ⟨n - 1, by omega⟩
    rw [f_M_isLike_p30, M_high (M.up (by decide) f), Option.bind_some, if_neg (nI_ge (by omega) (by omega))]
    rcases il_in (n1 := n1) (n2 := n2) (L := L) (xs := xs) (g := g) (i := i) (A := A) (m := m) (J := J) (wd := wd) (o := o) M O hp hq P Q h4 v4 (r := r) (by omega) (f_M_isLike_p30 n) v am_N 0 f N (by omega) (by unfold am_N; omega) hf I with ⟨a, f', e⟩ | ⟨f', N', a1, a2, e⟩
    · have e' : f_M_isLike_p40 (f_M_isLike_p30 n) am_N 51 (nI r) 0 (mk n1 n2 L xs g i A m (up B 69 f) J wd o) = _ := e
      exact ⟨f', by rw [e', lkN_f a]; rfl⟩
    · have e' : f_M_isLike_p40 (f_M_isLike_p30 n) am_N 51 (nI r) 0 (mk n1 n2 L xs g i A m (up B 69 f) J wd o) = _ := e
      rw [e']
      exact ih n (r + 1) f' N' (by omega) (by omega) a1 a2
theorem il_init : ∀ d n u (f : Nat → Int32), u + d = 5 → d < n → (∀ j, j < u → f j = vI (if j = 0 then 1 else 0)) → ∃ f', (∀ j, j < 5 → f' j = vI (if j = 0 then 1 else 0)) ∧ f_M_isLike_p2 n 51 (nI u) (mk n1 n2 L xs g i A m (up B 69 f) J wd o) = f_M_isLike_p30 am_N 51 0 (mk n1 n2 L xs g i A m (up B 69 f') J wd o) := by
  intro d
  induction d with
  | zero =>
    intro n u f hu hn hf
    obtain ⟨n, rfl⟩ : ∃ m, n = m + 1 := ⟨n - 1, by omega⟩
    have q : (5 : Int32) ≤ nI u := nI_le (a := 5) (by omega) (by omega)
    refine ⟨f, fun j hj => hf j (by omega), ?_⟩
    rw [f_M_isLike_p2, if_pos q]
  | succ d ih =>
    intro n u f hu hn hf
    obtain ⟨n, rfl⟩ : ∃ m, n = m + 1 := ⟨n - 1, by omega⟩
    have q : ¬ (5 : Int32) ≤ nI u := nI_ge (b := 5) (by omega) (by omega)
    have e21 : ∀ y, y = vI (if u = 0 then 1 else 0) → f_M_isLike_p21 (f_M_isLike_p2 n) 51 (nI u) 69 (nI u) y (mk n1 n2 L xs g i A m (up B 69 f) J wd o) = f_M_isLike_p2 n 51 (nI (u + 1)) (mk n1 n2 L xs g i A m (up B 69 (upd f u (vI (if u = 0 then 1 else 0)))) J wd o) := by
      intro y hy
      unfold f_M_isLike_p21
      rw [hy, w_si ar69 (by omega) (by decide) (by decide), Option.bind_some, st69, up_s, up_up, nI_1]
    have hf2 : ∀ j, j < u + 1 → upd f u (vI (if u = 0 then 1 else 0)) j = vI (if j = 0 then 1 else 0) := by
      intro j hj
      by_cases q : j = u
      · subst q; rw [pk_us]
      · rw [pk_un q]; exact hf j (by omega)
    rw [f_M_isLike_p2, if_neg q, rd51_32, Option.bind_some]
    by_cases z : u = 0
    · rw [if_neg (by rw [z]; exact fun q => q rfl), e21 0 (by rw [if_pos z]; decide)]
      exact ih n (u + 1) _ (by omega) (by omega) hf2
    · rw [if_pos (nI_ne0 (by omega) (by omega)), e21 (-1) (by rw [if_neg z]; decide)]
      exact ih n (u + 1) _ (by omega) (by omega) hf2
theorem M_isLike (M : mN B 53 h v s col) (O : gok h v s col) {p q : Nat} (hp : ∀ r, r < h → dg p r < h) (hq : ∀ c, c < v → dg q c < v) (P : ∀ r, r < h → B 67 r = nI (dg p r)) (Q : ∀ c, c < v → B 68 c = nI (dg q c)) (h4 : h ≤ 4) (v4 : v ≤ 4) (f : Nat → Int32) : ∃ f', f_M_isLike 51 (mk n1 n2 L xs g i A m (up B 69 f) J wd o) = some (mk n1 n2 L xs g i A m (up B 69 f') J wd o, nI (lkN (h * v) (pim v p q) col)) := by
  unfold f_M_isLike e_M_isLike
  rw [sf51]
  obtain ⟨f1, F1, e1⟩ := il_init (n1 := n1) (n2 := n2) (L := L) (xs := xs) (g := g) (i := i) (A := A) (m := m) (B := B) (J := J) (wd := wd) (o := o) 5 am_N 0 f (by omega) (by unfold am_N; omega) (fun j hj => by omega)
  have e1' : f_M_isLike_p2 am_N 51 0 (mk n1 n2 L xs g i A m (up B 69 f) J wd o) = _ := e1
  rw [e1']
  have I0 : nmI (pim v p q) col (fun j => if j = 0 then 1 else 0) (0 * v) := by
    refine ⟨rfl, fun k hk => by omega, fun u u' _ _ e hn => ?_, fun u _ hn => ?_, fun u => ?_⟩
    · by_cases a : u = 0
      · by_cases b : u' = 0
        · rw [a, b]
        · simp [a, b] at e
      · simp [a] at hn
    · by_cases a : u = 0
      · exact Or.inl a
      · simp [a] at hn
    · show (if u = 0 then 1 else 0) ≤ 5
      split <;> omega
  obtain ⟨f2, e2⟩ := il_out (n1 := n1) (n2 := n2) (L := L) (xs := xs) (g := g) (i := i) (A := A) (m := m) (J := J) (wd := wd) (o := o) M O hp hq P Q h4 v4 h am_N 0 f1 (fun j => if j = 0 then 1 else 0) (by omega) (by unfold am_N; omega) F1 I0
  exact ⟨f2, e2⟩
end LKC
