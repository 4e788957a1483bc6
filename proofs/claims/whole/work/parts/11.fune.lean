-- m_G_moved
def f_G_moved_p80 (k6 : Nat → Int64 → Int32 → Int32 → Int64 → Int32 → am_W → Option (am_W × Int64)) (k18 : Nat → Int64 → Int32 → Int32 → Int64 → Int32 → Int32 → am_W → Option (am_W × Int64)) (x0 : Nat) (x1 : Int64) (x3 : Int32) (x4 : Int32) (x5 : Int64) (x7 : Int32) (x8 : Int32) (w : am_W) : Option (am_W × Int64) := (k18 x0 x1 x3 x4 x5 x7 (x8 + 1) w)
def f_G_moved_p18 (k6 : Nat → Int64 → Int32 → Int32 → Int64 → Int32 → am_W → Option (am_W × Int64)) : Nat → Nat → Int64 → Int32 → Int32 → Int64 → Int32 → Int32 → am_W → Option (am_W × Int64)
  | 0, _, _, _, _, _, _, _, _ => none
  | n + 1, x0, x1, x3, x4, x5, x7, x8, w => ((am_gi w x0 1 2).bind fun v1 => (if v1 ≤ x8 then (k6 x0 x1 x3 x4 x5 (x7 + 1) w) else ((f_G_cellAt (x0) (x7) (x8) w).bind fun r4 => (if (lg_cmp ((am_lu x1 r4.2) &&& 1) 0) = 0 then (f_G_moved_p80 k6 (f_G_moved_p18 k6 n) x0 x1 x3 x4 x5 x7 x8 r4.1) else ((f_G_cellAt (x0) (((x3 >>> ((2 * x7) &&& 31)) &&& 3)) (((x4 >>> ((2 * x8) &&& 31)) &&& 3)) r4.1).bind fun r7 => (f_G_moved_p80 k6 (f_G_moved_p18 k6 n) x0 x1 x3 x4 (x5 ||| (1 <<< (Int32.toInt64 r7.2 &&& 63))) x7 x8 r7.1))))))
def f_G_moved_p6 : Nat → Nat → Int64 → Int32 → Int32 → Int64 → Int32 → am_W → Option (am_W × Int64)
  | 0, _, _, _, _, _, _, _ => none
  | n + 1, x0, x1, x3, x4, x5, x7, w => ((am_gi w x0 1 1).bind fun v9 => (if v9 ≤ x7 then (some (w, x5)) else (f_G_moved_p18 (f_G_moved_p6 n) am_N x0 x1 x3 x4 x5 x7 0 w)))
def e_G_moved (x0 : Nat) (x1 : Int64) (x3 : Int32) (x4 : Int32) (w : am_W) : Option (am_W × Int64) := (f_G_moved_p6 am_N x0 x1 x3 x4 0 0 w)
def f_G_moved (x0 : Nat) (x1 : Int64) (x3 : Int32) (x4 : Int32) (w : am_W) : Option (am_W × Int64) := am_self w x0 1 (e_G_moved x0 x1 x3 x4 w)
theorem o_G_moved_p80 {d : Nat} {k6 : Nat → Int64 → Int32 → Int32 → Int64 → Int32 → am_W → Option (am_W × Int64)} {k18 : Nat → Int64 → Int32 → Int32 → Int64 → Int32 → Int32 → am_W → Option (am_W × Int64)} (hk6 : ∀ (x0 : Nat) (x1 : Int64) (x3 : Int32) (x4 : Int32) (x5 : Int64) (x7 : Int32) (y2 y6 y8 y9 y10 : Option Value) (w : am_W), am_Ok am_jj (d + 1) m_G_moved 6 [some (.ref x0), some (.long x1), y2, some (.int x3), some (.int x4), some (.long x5), y6, some (.int x7), y8, y9, y10] [] w (k6 x0 x1 x3 x4 x5 x7 w)) (hk18 : ∀ (x0 : Nat) (x1 : Int64) (x3 : Int32) (x4 : Int32) (x5 : Int64) (x7 : Int32) (x8 : Int32) (y2 y6 y9 y10 : Option Value) (w : am_W), am_Ok am_jj (d + 1) m_G_moved 18 [some (.ref x0), some (.long x1), y2, some (.int x3), some (.int x4), some (.long x5), y6, some (.int x7), some (.int x8), y9, y10] [] w (k18 x0 x1 x3 x4 x5 x7 x8 w)) (x0 : Nat) (x1 : Int64) (x3 : Int32) (x4 : Int32) (x5 : Int64) (x7 : Int32) (x8 : Int32) (y2 y6 y9 y10 : Option Value) (w : am_W) : am_Ok am_jj (d + 1) m_G_moved 80 [some (.ref x0), some (.long x1), y2, some (.int x3), some (.int x4), some (.long x5), y6, some (.int x7), some (.int x8), y9, y10] [] w (f_G_moved_p80 k6 k18 x0 x1 x3 x4 x5 x7 x8 w) := by
  unfold f_G_moved_p80
  refine ok_seg (L := [((.iinc 8 1), 3)]) (pc' := 83) (ls' := [some (.ref x0), some (.long x1), y2, some (.int x3), some (.int x4), some (.long x5), y6, some (.int x7), some (.int (x8 + 1)), y9, y10]) (st' := []) (w' := w) (by decide +kernel) rfl ?_
  refine ok_goto (t := 18) (by decide +kernel : decode m_G_moved.2.1 83 = .ok ((.goto (-65)), 3)) rfl ?_
  exact hk18 x0 x1 x3 x4 x5 x7 (x8 + 1) y2 y6 y9 y10 w
theorem o_G_moved_p18 {d : Nat} {k6 : Nat → Int64 → Int32 → Int32 → Int64 → Int32 → am_W → Option (am_W × Int64)} (hk6 : ∀ (x0 : Nat) (x1 : Int64) (x3 : Int32) (x4 : Int32) (x5 : Int64) (x7 : Int32) (y2 y6 y8 y9 y10 : Option Value) (w : am_W), am_Ok am_jj (d + 1) m_G_moved 6 [some (.ref x0), some (.long x1), y2, some (.int x3), some (.int x4), some (.long x5), y6, some (.int x7), y8, y9, y10] [] w (k6 x0 x1 x3 x4 x5 x7 w)) : ∀ (n : Nat) (x0 : Nat) (x1 : Int64) (x3 : Int32) (x4 : Int32) (x5 : Int64) (x7 : Int32) (x8 : Int32) (y2 y6 y9 y10 : Option Value) (w : am_W), am_Ok am_jj (d + 1) m_G_moved 18 [some (.ref x0), some (.long x1), y2, some (.int x3), some (.int x4), some (.long x5), y6, some (.int x7), some (.int x8), y9, y10] [] w (f_G_moved_p18 k6 n x0 x1 x3 x4 x5 x7 x8 w) := by
  intro n
  induction n with
  | zero => intros; exact ok_none
  | succ n ih =>
    intro x0 x1 x3 x4 x5 x7 x8 y2 y6 y9 y10 w
    unfold f_G_moved_p18
    refine ok_seg (L := [((.iload 8), 2), ((.aload_n 0), 1)]) (pc' := 21) (ls' := [some (.ref x0), some (.long x1), y2, some (.int x3), some (.int x4), some (.long x5), y6, some (.int x7), some (.int x8), y9, y10]) (st' := [.ref x0, .int x8]) (w' := w) (by decide +kernel) rfl ?_
    refine ok_gi (by decide +kernel : decode m_G_moved.2.1 21 = .ok ((.getfield 19), 3)) rfl (fun v1 h2 => ?_)
    refine ok_br (P := v1 ≤ x8) (off := 62) (t := 86) (by decide +kernel : decode m_G_moved.2.1 24 = .ok ((.if_icmp .ge 62), 3)) rfl rfl rfl rfl (fun c3 => ?_) (fun c3 => ?_)
    · skip
      refine ok_seg (L := [((.iinc 7 1), 3)]) (pc' := 89) (ls' := [some (.ref x0), some (.long x1), y2, some (.int x3), some (.int x4), some (.long x5), y6, some (.int (x7 + 1)), some (.int x8), y9, y10]) (st' := []) (w' := w) (by decide +kernel) rfl ?_
      refine ok_goto (t := 6) (by decide +kernel : decode m_G_moved.2.1 89 = .ok ((.goto (-83)), 3)) rfl ?_
      exact hk6 x0 x1 x3 x4 x5 (x7 + 1) y2 y6 (some (.int x8)) y9 y10 w
    · skip
      refine ok_seg (L := [((.lload_n 1), 1), ((.aload_n 0), 1), ((.iload 7), 2), ((.iload 8), 2)]) (pc' := 33) (ls' := [some (.ref x0), some (.long x1), y2, some (.int x3), some (.int x4), some (.long x5), y6, some (.int x7), some (.int x8), y9, y10]) (st' := [.int x8, .int x7, .ref x0, .long x1]) (w' := w) (by decide +kernel) rfl ?_
      refine ok_call0 (inj' := am_ji) (by decide +kernel : decode m_G_moved.2.1 33 = .ok ((.invokevirtual 84), 3)) rfl (fun q hq => am_iv0 (am_self_eq hq).1 rfl rfl rfl) (o_G_cellAt (d + 0) (x0) (x7) (x8) w) (fun _ _ => rfl) (fun r4 h5 => ?_)
      refine ok_seg (L := [(.lushr, 1), ((.lconst 1), 1), (.land, 1), ((.lconst 0), 1), (.lcmp, 1)]) (pc' := 41) (ls' := [some (.ref x0), some (.long x1), y2, some (.int x3), some (.int x4), some (.long x5), y6, some (.int x7), some (.int x8), y9, y10]) (st' := [.int (lg_cmp ((am_lu x1 r4.2) &&& 1) 0)]) (w' := r4.1) (by decide +kernel) rfl ?_
      refine ok_br (P := (lg_cmp ((am_lu x1 r4.2) &&& 1) 0) = 0) (off := 39) (t := 80) (by decide +kernel : decode m_G_moved.2.1 41 = .ok ((.ifCond .eq 39), 3)) rfl rfl rfl rfl (fun c6 => ?_) (fun c6 => ?_)
      · skip
        exact o_G_moved_p80 hk6 ih x0 x1 x3 x4 x5 x7 x8 y2 y6 y9 y10 r4.1
      · skip
        refine ok_seg (L := [((.iload_n 3), 1), ((.iconst 2), 1), ((.iload 7), 2), (.imul, 1), (.ishr, 1), ((.iconst 3), 1), (.iand, 1), ((.istore 9), 2), ((.iload 4), 2), ((.iconst 2), 1), ((.iload 8), 2), (.imul, 1), (.ishr, 1), ((.iconst 3), 1), (.iand, 1), ((.istore 10), 2), ((.lload 5), 2), ((.lconst 1), 1), ((.aload_n 0), 1), ((.iload 9), 2), ((.iload 10), 2)]) (pc' := 73) (ls' := [some (.ref x0), some (.long x1), y2, some (.int x3), some (.int x4), some (.long x5), y6, some (.int x7), some (.int x8), some (.int ((x3 >>> ((2 * x7) &&& 31)) &&& 3)), some (.int ((x4 >>> ((2 * x8) &&& 31)) &&& 3))]) (st' := [.int ((x4 >>> ((2 * x8) &&& 31)) &&& 3), .int ((x3 >>> ((2 * x7) &&& 31)) &&& 3), .ref x0, .long 1, .long x5]) (w' := r4.1) (by decide +kernel) rfl ?_
        refine ok_call0 (inj' := am_ji) (by decide +kernel : decode m_G_moved.2.1 73 = .ok ((.invokevirtual 84), 3)) rfl (fun q hq => am_iv0 (am_self_eq hq).1 rfl rfl rfl) (o_G_cellAt (d + 0) (x0) (((x3 >>> ((2 * x7) &&& 31)) &&& 3)) (((x4 >>> ((2 * x8) &&& 31)) &&& 3)) r4.1) (fun _ _ => rfl) (fun r7 h8 => ?_)
        refine ok_seg (L := [(.lshl, 1), (.lor, 1), ((.lstore 5), 2)]) (pc' := 80) (ls' := [some (.ref x0), some (.long x1), y2, some (.int x3), some (.int x4), some (.long (x5 ||| (1 <<< (Int32.toInt64 r7.2 &&& 63)))), none, some (.int x7), some (.int x8), some (.int ((x3 >>> ((2 * x7) &&& 31)) &&& 3)), some (.int ((x4 >>> ((2 * x8) &&& 31)) &&& 3))]) (st' := []) (w' := r7.1) (by decide +kernel) rfl ?_
        exact o_G_moved_p80 hk6 ih x0 x1 x3 x4 (x5 ||| (1 <<< (Int32.toInt64 r7.2 &&& 63))) x7 x8 y2 none (some (.int ((x3 >>> ((2 * x7) &&& 31)) &&& 3))) (some (.int ((x4 >>> ((2 * x8) &&& 31)) &&& 3))) r7.1
theorem o_G_moved_p6 {d : Nat} : ∀ (n : Nat) (x0 : Nat) (x1 : Int64) (x3 : Int32) (x4 : Int32) (x5 : Int64) (x7 : Int32) (y2 y6 y8 y9 y10 : Option Value) (w : am_W), am_Ok am_jj (d + 1) m_G_moved 6 [some (.ref x0), some (.long x1), y2, some (.int x3), some (.int x4), some (.long x5), y6, some (.int x7), y8, y9, y10] [] w (f_G_moved_p6 n x0 x1 x3 x4 x5 x7 w) := by
  intro n
  induction n with
  | zero => intros; exact ok_none
  | succ n ih =>
    intro x0 x1 x3 x4 x5 x7 y2 y6 y8 y9 y10 w
    unfold f_G_moved_p6
    refine ok_seg (L := [((.iload 7), 2), ((.aload_n 0), 1)]) (pc' := 9) (ls' := [some (.ref x0), some (.long x1), y2, some (.int x3), some (.int x4), some (.long x5), y6, some (.int x7), y8, y9, y10]) (st' := [.ref x0, .int x7]) (w' := w) (by decide +kernel) rfl ?_
    refine ok_gi (by decide +kernel : decode m_G_moved.2.1 9 = .ok ((.getfield 15), 3)) rfl (fun v9 h10 => ?_)
    refine ok_br (P := v9 ≤ x7) (off := 80) (t := 92) (by decide +kernel : decode m_G_moved.2.1 12 = .ok ((.if_icmp .ge 80), 3)) rfl rfl rfl rfl (fun c11 => ?_) (fun c11 => ?_)
    · skip
      refine ok_seg (L := [((.lload 5), 2)]) (pc' := 94) (ls' := [some (.ref x0), some (.long x1), y2, some (.int x3), some (.int x4), some (.long x5), y6, some (.int x7), y8, y9, y10]) (st' := [.long x5]) (w' := w) (by decide +kernel) rfl ?_
      exact ok_ret (v := x5) (by decide +kernel : decode m_G_moved.2.1 94 = .ok (.lreturn, 1)) rfl
    · skip
      refine ok_seg (L := [((.iconst 0), 1), ((.istore 8), 2)]) (pc' := 18) (ls' := [some (.ref x0), some (.long x1), y2, some (.int x3), some (.int x4), some (.long x5), y6, some (.int x7), some (.int 0), y9, y10]) (st' := []) (w' := w) (by decide +kernel) rfl ?_
      exact o_G_moved_p18 ih am_N x0 x1 x3 x4 x5 x7 0 y2 y6 y9 y10 w
theorem o_G_moved (d : Nat) (x0 : Nat) (x1 : Int64) (x3 : Int32) (x4 : Int32) (w : am_W) : am_Ok am_jj (d + 1) m_G_moved 0 (am_en m_G_moved [.ref x0, .long x1, .int x3, .int x4]) [] w (f_G_moved x0 x1 x3 x4 w) := by
  show am_Ok _ _ _ 0 [some (.ref x0), some (.long x1), none, some (.int x3), some (.int x4), none, none, none, none, none, none] [] w _
  unfold f_G_moved
  refine ok_self ?_
  unfold e_G_moved
  refine ok_seg (L := [((.lconst 0), 1), ((.lstore 5), 2), ((.iconst 0), 1), ((.istore 7), 2)]) (pc' := 6) (ls' := [some (.ref x0), some (.long x1), none, some (.int x3), some (.int x4), some (.long 0), none, some (.int 0), none, none, none]) (st' := []) (w' := w) (by decide +kernel) rfl ?_
  exact o_G_moved_p6 am_N x0 x1 x3 x4 0 0 none none none none none w
-- m_G_isLikeItself
def f_G_isLikeItself_p24 : Nat → Nat → Int32 → Int32 → Int32 → am_W → Option (am_W × Int32)
  | 0, _, _, _, _, _ => none
  | n + 1, x0, x1, x2, x3, w => ((am_gi w x0 1 3).bind fun v1 => (if v1 < x3 then (some (w, 1)) else ((f_G_cellsOf (x0) (x3) w).bind fun r4 => ((f_G_moved (x0) (r4.2) (x1) (x2) r4.1).bind fun r6 => ((f_G_isOfOneColour (x0) (r6.2) r6.1).bind fun r8 => (if ¬ r8.2 = 0 then (f_G_isLikeItself_p24 n x0 x1 x2 (x3 + 1) r8.1) else (some (r8.1, 0))))))))
def e_G_isLikeItself (x0 : Nat) (x1 : Int32) (x2 : Int32) (w : am_W) : Option (am_W × Int32) := ((f_G_cellsOf (x0) (0) w).bind fun r11 => ((f_G_moved (x0) (r11.2) (x1) (x2) r11.1).bind fun r13 => ((f_G_cellsOf (x0) (0) r13.1).bind fun r15 => (if (lg_cmp r13.2 r15.2) = 0 then (f_G_isLikeItself_p24 am_N x0 x1 x2 1 r15.1) else (some (r15.1, 0))))))
def f_G_isLikeItself (x0 : Nat) (x1 : Int32) (x2 : Int32) (w : am_W) : Option (am_W × Int32) := am_self w x0 1 (e_G_isLikeItself x0 x1 x2 w)
theorem o_G_isLikeItself_p24 {d : Nat} : ∀ (n : Nat) (x0 : Nat) (x1 : Int32) (x2 : Int32) (x3 : Int32) (w : am_W), am_Ok am_ji (d + 2) m_G_isLikeItself 24 [some (.ref x0), some (.int x1), some (.int x2), some (.int x3)] [] w (f_G_isLikeItself_p24 n x0 x1 x2 x3 w) := by
  intro n
  induction n with
  | zero => intros; exact ok_none
  | succ n ih =>
    intro x0 x1 x2 x3 w
    unfold f_G_isLikeItself_p24
    refine ok_seg (L := [((.iload_n 3), 1), ((.aload_n 0), 1)]) (pc' := 26) (ls' := [some (.ref x0), some (.int x1), some (.int x2), some (.int x3)]) (st' := [.ref x0, .int x3]) (w' := w) (by decide +kernel) rfl ?_
    refine ok_gi (by decide +kernel : decode m_G_isLikeItself.2.1 26 = .ok ((.getfield 22), 3)) rfl (fun v1 h2 => ?_)
    refine ok_br (P := v1 < x3) (off := 29) (t := 58) (by decide +kernel : decode m_G_isLikeItself.2.1 29 = .ok ((.if_icmp .gt 29), 3)) rfl rfl rfl rfl (fun c3 => ?_) (fun c3 => ?_)
    · skip
      refine ok_seg (L := [((.iconst 1), 1)]) (pc' := 59) (ls' := [some (.ref x0), some (.int x1), some (.int x2), some (.int x3)]) (st' := [.int 1]) (w' := w) (by decide +kernel) rfl ?_
      exact ok_ret (v := 1) (by decide +kernel : decode m_G_isLikeItself.2.1 59 = .ok (.ireturn, 1)) rfl
    · skip
      refine ok_seg (L := [((.aload_n 0), 1), ((.aload_n 0), 1), ((.aload_n 0), 1), ((.iload_n 3), 1)]) (pc' := 36) (ls' := [some (.ref x0), some (.int x1), some (.int x2), some (.int x3)]) (st' := [.int x3, .ref x0, .ref x0, .ref x0]) (w' := w) (by decide +kernel) rfl ?_
      refine ok_call0 (inj' := am_jj) (by decide +kernel : decode m_G_isLikeItself.2.1 36 = .ok ((.invokevirtual 31), 3)) rfl (fun q hq => am_iv0 (am_self_eq hq).1 rfl rfl rfl) (o_G_cellsOf (d + 1) (x0) (x3) w) (fun _ _ => rfl) (fun r4 h5 => ?_)
      refine ok_seg (L := [((.iload_n 1), 1), ((.iload_n 2), 1)]) (pc' := 41) (ls' := [some (.ref x0), some (.int x1), some (.int x2), some (.int x3)]) (st' := [.int x2, .int x1, .long r4.2, .ref x0, .ref x0]) (w' := r4.1) (by decide +kernel) rfl ?_
      refine ok_call0 (inj' := am_jj) (by decide +kernel : decode m_G_isLikeItself.2.1 41 = .ok ((.invokevirtual 87), 3)) rfl (fun q hq => am_iv0 (am_self_eq hq).1 rfl rfl rfl) (o_G_moved (d + 0) (x0) (r4.2) (x1) (x2) r4.1) (fun _ _ => rfl) (fun r6 h7 => ?_)
      refine ok_call0 (inj' := am_ji) (by decide +kernel : decode m_G_isLikeItself.2.1 44 = .ok ((.invokevirtual 91), 3)) rfl (fun q hq => am_iv0 (am_self_eq hq).1 rfl rfl rfl) (o_G_isOfOneColour (d + 0) (x0) (r6.2) r6.1) (fun _ _ => rfl) (fun r8 h9 => ?_)
      refine ok_br (P := ¬ r8.2 = 0) (off := 5) (t := 52) (by decide +kernel : decode m_G_isLikeItself.2.1 47 = .ok ((.ifCond .ne 5), 3)) rfl rfl rfl rfl (fun c10 => ?_) (fun c10 => ?_)
      · skip
        refine ok_seg (L := [((.iinc 3 1), 3)]) (pc' := 55) (ls' := [some (.ref x0), some (.int x1), some (.int x2), some (.int (x3 + 1))]) (st' := []) (w' := r8.1) (by decide +kernel) rfl ?_
        refine ok_goto (t := 24) (by decide +kernel : decode m_G_isLikeItself.2.1 55 = .ok ((.goto (-31)), 3)) rfl ?_
        exact ih x0 x1 x2 (x3 + 1) r8.1
      · skip
        refine ok_seg (L := [((.iconst 0), 1)]) (pc' := 51) (ls' := [some (.ref x0), some (.int x1), some (.int x2), some (.int x3)]) (st' := [.int 0]) (w' := r8.1) (by decide +kernel) rfl ?_
        exact ok_ret (v := 0) (by decide +kernel : decode m_G_isLikeItself.2.1 51 = .ok (.ireturn, 1)) rfl
theorem o_G_isLikeItself (d : Nat) (x0 : Nat) (x1 : Int32) (x2 : Int32) (w : am_W) : am_Ok am_ji (d + 2) m_G_isLikeItself 0 (am_en m_G_isLikeItself [.ref x0, .int x1, .int x2]) [] w (f_G_isLikeItself x0 x1 x2 w) := by
  show am_Ok _ _ _ 0 [some (.ref x0), some (.int x1), some (.int x2), none] [] w _
  unfold f_G_isLikeItself
  refine ok_self ?_
  unfold e_G_isLikeItself
  refine ok_seg (L := [((.aload_n 0), 1), ((.aload_n 0), 1), ((.iconst 0), 1)]) (pc' := 3) (ls' := [some (.ref x0), some (.int x1), some (.int x2), none]) (st' := [.int 0, .ref x0, .ref x0]) (w' := w) (by decide +kernel) rfl ?_
  refine ok_call0 (inj' := am_jj) (by decide +kernel : decode m_G_isLikeItself.2.1 3 = .ok ((.invokevirtual 31), 3)) rfl (fun q hq => am_iv0 (am_self_eq hq).1 rfl rfl rfl) (o_G_cellsOf (d + 1) (x0) (0) w) (fun _ _ => rfl) (fun r11 h12 => ?_)
  refine ok_seg (L := [((.iload_n 1), 1), ((.iload_n 2), 1)]) (pc' := 8) (ls' := [some (.ref x0), some (.int x1), some (.int x2), none]) (st' := [.int x2, .int x1, .long r11.2, .ref x0]) (w' := r11.1) (by decide +kernel) rfl ?_
  refine ok_call0 (inj' := am_jj) (by decide +kernel : decode m_G_isLikeItself.2.1 8 = .ok ((.invokevirtual 87), 3)) rfl (fun q hq => am_iv0 (am_self_eq hq).1 rfl rfl rfl) (o_G_moved (d + 0) (x0) (r11.2) (x1) (x2) r11.1) (fun _ _ => rfl) (fun r13 h14 => ?_)
  refine ok_seg (L := [((.aload_n 0), 1), ((.iconst 0), 1)]) (pc' := 13) (ls' := [some (.ref x0), some (.int x1), some (.int x2), none]) (st' := [.int 0, .ref x0, .long r13.2]) (w' := r13.1) (by decide +kernel) rfl ?_
  refine ok_call0 (inj' := am_jj) (by decide +kernel : decode m_G_isLikeItself.2.1 13 = .ok ((.invokevirtual 31), 3)) rfl (fun q hq => am_iv0 (am_self_eq hq).1 rfl rfl rfl) (o_G_cellsOf (d + 1) (x0) (0) r13.1) (fun _ _ => rfl) (fun r15 h16 => ?_)
  refine ok_seg (L := [(.lcmp, 1)]) (pc' := 17) (ls' := [some (.ref x0), some (.int x1), some (.int x2), none]) (st' := [.int (lg_cmp r13.2 r15.2)]) (w' := r15.1) (by decide +kernel) rfl ?_
  refine ok_br (P := (lg_cmp r13.2 r15.2) = 0) (off := 5) (t := 22) (by decide +kernel : decode m_G_isLikeItself.2.1 17 = .ok ((.ifCond .eq 5), 3)) rfl rfl rfl rfl (fun c17 => ?_) (fun c17 => ?_)
  · skip
    refine ok_seg (L := [((.iconst 1), 1), ((.istore_n 3), 1)]) (pc' := 24) (ls' := [some (.ref x0), some (.int x1), some (.int x2), some (.int 1)]) (st' := []) (w' := r15.1) (by decide +kernel) rfl ?_
    exact o_G_isLikeItself_p24 am_N x0 x1 x2 1 r15.1
  · skip
    refine ok_seg (L := [((.iconst 0), 1)]) (pc' := 21) (ls' := [some (.ref x0), some (.int x1), some (.int x2), none]) (st' := [.int 0]) (w' := r15.1) (by decide +kernel) rfl ?_
    exact ok_ret (v := 0) (by decide +kernel : decode m_G_isLikeItself.2.1 21 = .ok (.ireturn, 1)) rfl
-- m_C_likesByRows
def f_C_likesByRows_p54 (k17 : Nat → Int32 → Int32 → Int32 → Int32 → am_W → Option (am_W × Int32)) (x0 : Nat) (x1 : Int32) (x2 : Int32) (x3 : Int32) (x4 : Int32) (w : am_W) : Option (am_W × Int32) := (k17 x0 x1 x2 x3 (x4 + 1) w)
def f_C_likesByRows_p17 : Nat → Nat → Int32 → Int32 → Int32 → Int32 → am_W → Option (am_W × Int32)
  | 0, _, _, _, _, _, _ => none
  | n + 1, x0, x1, x2, x3, x4, w => (if x3 ≤ x4 then (some (w, x2)) else ((am_gr w x0 0 1).bind fun v2 => ((f_G_wide (v2) w).bind fun r4 => ((f_C_isOrder (x4) (r4.2) r4.1).bind fun r6 => (if r6.2 = 0 then (f_C_likesByRows_p54 (f_C_likesByRows_p17 n) x0 x1 x2 x3 x4 r6.1) else ((am_gr r6.1 x0 0 1).bind fun v9 => ((f_G_isLikeItself (v9) (x1) (x4) r6.1).bind fun r11 => (if r11.2 = 0 then (f_C_likesByRows_p54 (f_C_likesByRows_p17 n) x0 x1 x2 x3 x4 r11.1) else (f_C_likesByRows_p54 (f_C_likesByRows_p17 n) x0 x1 (x2 + 1) x3 x4 r11.1)))))))))
def e_C_likesByRows (x0 : Nat) (x1 : Int32) (w : am_W) : Option (am_W × Int32) := ((am_gr w x0 0 1).bind fun v14 => ((f_G_wide (v14) w).bind fun r16 => (f_C_likesByRows_p17 am_N x0 x1 0 (1 <<< ((2 * r16.2) &&& 31)) 0 r16.1)))
def f_C_likesByRows (x0 : Nat) (x1 : Int32) (w : am_W) : Option (am_W × Int32) := am_self w x0 0 (e_C_likesByRows x0 x1 w)
theorem o_C_likesByRows_p54 {d : Nat} {k17 : Nat → Int32 → Int32 → Int32 → Int32 → am_W → Option (am_W × Int32)} (hk17 : ∀ (x0 : Nat) (x1 : Int32) (x2 : Int32) (x3 : Int32) (x4 : Int32) (w : am_W), am_Ok am_ji (d + 3) m_C_likesByRows 17 [some (.ref x0), some (.int x1), some (.int x2), some (.int x3), some (.int x4)] [] w (k17 x0 x1 x2 x3 x4 w)) (x0 : Nat) (x1 : Int32) (x2 : Int32) (x3 : Int32) (x4 : Int32) (w : am_W) : am_Ok am_ji (d + 3) m_C_likesByRows 54 [some (.ref x0), some (.int x1), some (.int x2), some (.int x3), some (.int x4)] [] w (f_C_likesByRows_p54 k17 x0 x1 x2 x3 x4 w) := by
  unfold f_C_likesByRows_p54
  refine ok_seg (L := [((.iinc 4 1), 3)]) (pc' := 57) (ls' := [some (.ref x0), some (.int x1), some (.int x2), some (.int x3), some (.int (x4 + 1))]) (st' := []) (w' := w) (by decide +kernel) rfl ?_
  refine ok_goto (t := 17) (by decide +kernel : decode m_C_likesByRows.2.1 57 = .ok ((.goto (-40)), 3)) rfl ?_
  exact hk17 x0 x1 x2 x3 (x4 + 1) w
theorem o_C_likesByRows_p17 {d : Nat} : ∀ (n : Nat) (x0 : Nat) (x1 : Int32) (x2 : Int32) (x3 : Int32) (x4 : Int32) (w : am_W), am_Ok am_ji (d + 3) m_C_likesByRows 17 [some (.ref x0), some (.int x1), some (.int x2), some (.int x3), some (.int x4)] [] w (f_C_likesByRows_p17 n x0 x1 x2 x3 x4 w) := by
  intro n
  induction n with
  | zero => intros; exact ok_none
  | succ n ih =>
    intro x0 x1 x2 x3 x4 w
    unfold f_C_likesByRows_p17
    refine ok_seg (L := [((.iload 4), 2), ((.iload_n 3), 1)]) (pc' := 20) (ls' := [some (.ref x0), some (.int x1), some (.int x2), some (.int x3), some (.int x4)]) (st' := [.int x3, .int x4]) (w' := w) (by decide +kernel) rfl ?_
    refine ok_br (P := x3 ≤ x4) (off := 40) (t := 60) (by decide +kernel : decode m_C_likesByRows.2.1 20 = .ok ((.if_icmp .ge 40), 3)) rfl rfl rfl rfl (fun c1 => ?_) (fun c1 => ?_)
    · skip
      refine ok_seg (L := [((.iload_n 2), 1)]) (pc' := 61) (ls' := [some (.ref x0), some (.int x1), some (.int x2), some (.int x3), some (.int x4)]) (st' := [.int x2]) (w' := w) (by decide +kernel) rfl ?_
      exact ok_ret (v := x2) (by decide +kernel : decode m_C_likesByRows.2.1 61 = .ok (.ireturn, 1)) rfl
    · skip
      refine ok_seg (L := [((.iload 4), 2), ((.aload_n 0), 1)]) (pc' := 26) (ls' := [some (.ref x0), some (.int x1), some (.int x2), some (.int x3), some (.int x4)]) (st' := [.ref x0, .int x4]) (w' := w) (by decide +kernel) rfl ?_
      refine ok_gr (by decide +kernel : decode m_C_likesByRows.2.1 26 = .ok ((.getfield 19), 3)) rfl (by decide) (fun v2 h3 => ?_)
      refine ok_call0 (inj' := am_ji) (by decide +kernel : decode m_C_likesByRows.2.1 29 = .ok ((.invokevirtual 98), 3)) rfl (fun q hq => am_iv0 (am_self_eq hq).1 rfl rfl rfl) (o_G_wide (d + 2) (v2) w) (fun _ _ => rfl) (fun r4 h5 => ?_)
      refine ok_call0 (inj' := am_ji) (by decide +kernel : decode m_C_likesByRows.2.1 32 = .ok ((.invokestatic 191), 3)) rfl (fun _ _ => rfl) (o_C_isOrder (d + 2) (x4) (r4.2) r4.1) (fun _ _ => rfl) (fun r6 h7 => ?_)
      refine ok_br (P := r6.2 = 0) (off := 19) (t := 54) (by decide +kernel : decode m_C_likesByRows.2.1 35 = .ok ((.ifCond .eq 19), 3)) rfl rfl rfl rfl (fun c8 => ?_) (fun c8 => ?_)
      · skip
        exact o_C_likesByRows_p54 ih x0 x1 x2 x3 x4 r6.1
      · skip
        refine ok_seg (L := [((.aload_n 0), 1)]) (pc' := 39) (ls' := [some (.ref x0), some (.int x1), some (.int x2), some (.int x3), some (.int x4)]) (st' := [.ref x0]) (w' := r6.1) (by decide +kernel) rfl ?_
        refine ok_gr (by decide +kernel : decode m_C_likesByRows.2.1 39 = .ok ((.getfield 19), 3)) rfl (by decide) (fun v9 h10 => ?_)
        refine ok_seg (L := [((.iload_n 1), 1), ((.iload 4), 2)]) (pc' := 45) (ls' := [some (.ref x0), some (.int x1), some (.int x2), some (.int x3), some (.int x4)]) (st' := [.int x4, .int x1, .ref v9]) (w' := r6.1) (by decide +kernel) rfl ?_
        refine ok_call0 (inj' := am_ji) (by decide +kernel : decode m_C_likesByRows.2.1 45 = .ok ((.invokevirtual 256), 3)) rfl (fun q hq => am_iv0 (am_self_eq hq).1 rfl rfl rfl) (o_G_isLikeItself (d + 0) (v9) (x1) (x4) r6.1) (fun _ _ => rfl) (fun r11 h12 => ?_)
        refine ok_br (P := r11.2 = 0) (off := 6) (t := 54) (by decide +kernel : decode m_C_likesByRows.2.1 48 = .ok ((.ifCond .eq 6), 3)) rfl rfl rfl rfl (fun c13 => ?_) (fun c13 => ?_)
        · skip
          exact o_C_likesByRows_p54 ih x0 x1 x2 x3 x4 r11.1
        · skip
          refine ok_seg (L := [((.iinc 2 1), 3)]) (pc' := 54) (ls' := [some (.ref x0), some (.int x1), some (.int (x2 + 1)), some (.int x3), some (.int x4)]) (st' := []) (w' := r11.1) (by decide +kernel) rfl ?_
          exact o_C_likesByRows_p54 ih x0 x1 (x2 + 1) x3 x4 r11.1
theorem o_C_likesByRows (d : Nat) (x0 : Nat) (x1 : Int32) (w : am_W) : am_Ok am_ji (d + 3) m_C_likesByRows 0 (am_en m_C_likesByRows [.ref x0, .int x1]) [] w (f_C_likesByRows x0 x1 w) := by
  show am_Ok _ _ _ 0 [some (.ref x0), some (.int x1), none, none, none] [] w _
  unfold f_C_likesByRows
  refine ok_self ?_
  unfold e_C_likesByRows
  refine ok_seg (L := [((.iconst 0), 1), ((.istore_n 2), 1), ((.iconst 1), 1), ((.iconst 2), 1), ((.aload_n 0), 1)]) (pc' := 5) (ls' := [some (.ref x0), some (.int x1), some (.int 0), none, none]) (st' := [.ref x0, .int 2, .int 1]) (w' := w) (by decide +kernel) rfl ?_
  refine ok_gr (by decide +kernel : decode m_C_likesByRows.2.1 5 = .ok ((.getfield 19), 3)) rfl (by decide) (fun v14 h15 => ?_)
  refine ok_call0 (inj' := am_ji) (by decide +kernel : decode m_C_likesByRows.2.1 8 = .ok ((.invokevirtual 98), 3)) rfl (fun q hq => am_iv0 (am_self_eq hq).1 rfl rfl rfl) (o_G_wide (d + 2) (v14) w) (fun _ _ => rfl) (fun r16 h17 => ?_)
  refine ok_seg (L := [(.imul, 1), (.ishl, 1), ((.istore_n 3), 1), ((.iconst 0), 1), ((.istore 4), 2)]) (pc' := 17) (ls' := [some (.ref x0), some (.int x1), some (.int 0), some (.int (1 <<< ((2 * r16.2) &&& 31))), some (.int 0)]) (st' := []) (w' := r16.1) (by decide +kernel) rfl ?_
  exact o_C_likesByRows_p17 am_N x0 x1 0 (1 <<< ((2 * r16.2) &&& 31)) 0 r16.1
-- m_C_likes
def f_C_likes_p32 (w : am_W) : Option (am_W × Int32) := (some (w, (-1)))
def f_C_likes_p77 (k50 : Nat → Int32 → Int32 → Int32 → am_W → Option (am_W × Int32)) (x0 : Nat) (x1 : Int32) (x2 : Int32) (x3 : Int32) (w : am_W) : Option (am_W × Int32) := (k50 x0 x1 x2 (x3 + 1) w)
def f_C_likes_p50 : Nat → Nat → Int32 → Int32 → Int32 → am_W → Option (am_W × Int32)
  | 0, _, _, _, _, _ => none
  | n + 1, x0, x1, x2, x3, w => (if x2 ≤ x3 then (some (w, x1)) else ((am_gr w x0 0 1).bind fun v2 => ((f_G_high (v2) w).bind fun r4 => ((f_C_isOrder (x3) (r4.2) r4.1).bind fun r6 => (if r6.2 = 0 then (f_C_likes_p77 (f_C_likes_p50 n) x0 x1 x2 x3 r6.1) else ((f_C_likesByRows (x0) (x3) r6.1).bind fun r9 => (f_C_likes_p77 (f_C_likes_p50 n) x0 (x1 + r9.2) x2 x3 r9.1)))))))
def e_C_likes (x0 : Nat) (w : am_W) : Option (am_W × Int32) := ((am_gr w x0 0 1).bind fun v11 => ((f_G_exists (v11) w).bind fun r13 => (if r13.2 = 0 then (f_C_likes_p32 r13.1) else ((am_gr r13.1 x0 0 1).bind fun v16 => ((f_G_high (v16) r13.1).bind fun r18 => (if 4 < r18.2 then (f_C_likes_p32 r18.1) else ((am_gr r18.1 x0 0 1).bind fun v21 => ((f_G_wide (v21) r18.1).bind fun r23 => (if r23.2 ≤ 4 then ((am_gr r23.1 x0 0 1).bind fun v26 => ((f_G_high (v26) r23.1).bind fun r28 => (f_C_likes_p50 am_N x0 0 (1 <<< ((2 * r28.2) &&& 31)) 0 r28.1))) else (f_C_likes_p32 r23.1))))))))))
def f_C_likes (x0 : Nat) (w : am_W) : Option (am_W × Int32) := am_self w x0 0 (e_C_likes x0 w)
theorem o_C_likes_p32 {d : Nat} (y0 y1 y2 y3 : Option Value) (w : am_W) : am_Ok am_ji (d + 4) m_C_likes 32 [y0, y1, y2, y3] [] w (f_C_likes_p32 w) := by
  unfold f_C_likes_p32
  refine ok_seg (L := [((.iconst (-1)), 1)]) (pc' := 33) (ls' := [y0, y1, y2, y3]) (st' := [.int (-1)]) (w' := w) (by decide +kernel) rfl ?_
  exact ok_ret (v := (-1)) (by decide +kernel : decode m_C_likes.2.1 33 = .ok (.ireturn, 1)) rfl
theorem o_C_likes_p77 {d : Nat} {k50 : Nat → Int32 → Int32 → Int32 → am_W → Option (am_W × Int32)} (hk50 : ∀ (x0 : Nat) (x1 : Int32) (x2 : Int32) (x3 : Int32) (w : am_W), am_Ok am_ji (d + 4) m_C_likes 50 [some (.ref x0), some (.int x1), some (.int x2), some (.int x3)] [] w (k50 x0 x1 x2 x3 w)) (x0 : Nat) (x1 : Int32) (x2 : Int32) (x3 : Int32) (w : am_W) : am_Ok am_ji (d + 4) m_C_likes 77 [some (.ref x0), some (.int x1), some (.int x2), some (.int x3)] [] w (f_C_likes_p77 k50 x0 x1 x2 x3 w) := by
  unfold f_C_likes_p77
  refine ok_seg (L := [((.iinc 3 1), 3)]) (pc' := 80) (ls' := [some (.ref x0), some (.int x1), some (.int x2), some (.int (x3 + 1))]) (st' := []) (w' := w) (by decide +kernel) rfl ?_
  refine ok_goto (t := 50) (by decide +kernel : decode m_C_likes.2.1 80 = .ok ((.goto (-30)), 3)) rfl ?_
  exact hk50 x0 x1 x2 (x3 + 1) w
theorem o_C_likes_p50 {d : Nat} : ∀ (n : Nat) (x0 : Nat) (x1 : Int32) (x2 : Int32) (x3 : Int32) (w : am_W), am_Ok am_ji (d + 4) m_C_likes 50 [some (.ref x0), some (.int x1), some (.int x2), some (.int x3)] [] w (f_C_likes_p50 n x0 x1 x2 x3 w) := by
  intro n
  induction n with
  | zero => intros; exact ok_none
  | succ n ih =>
    intro x0 x1 x2 x3 w
    unfold f_C_likes_p50
    refine ok_seg (L := [((.iload_n 3), 1), ((.iload_n 2), 1)]) (pc' := 52) (ls' := [some (.ref x0), some (.int x1), some (.int x2), some (.int x3)]) (st' := [.int x2, .int x3]) (w' := w) (by decide +kernel) rfl ?_
    refine ok_br (P := x2 ≤ x3) (off := 31) (t := 83) (by decide +kernel : decode m_C_likes.2.1 52 = .ok ((.if_icmp .ge 31), 3)) rfl rfl rfl rfl (fun c1 => ?_) (fun c1 => ?_)
    · skip
      refine ok_seg (L := [((.iload_n 1), 1)]) (pc' := 84) (ls' := [some (.ref x0), some (.int x1), some (.int x2), some (.int x3)]) (st' := [.int x1]) (w' := w) (by decide +kernel) rfl ?_
      exact ok_ret (v := x1) (by decide +kernel : decode m_C_likes.2.1 84 = .ok (.ireturn, 1)) rfl
    · skip
      refine ok_seg (L := [((.iload_n 3), 1), ((.aload_n 0), 1)]) (pc' := 57) (ls' := [some (.ref x0), some (.int x1), some (.int x2), some (.int x3)]) (st' := [.ref x0, .int x3]) (w' := w) (by decide +kernel) rfl ?_
      refine ok_gr (by decide +kernel : decode m_C_likes.2.1 57 = .ok ((.getfield 19), 3)) rfl (by decide) (fun v2 h3 => ?_)
      refine ok_call0 (inj' := am_ji) (by decide +kernel : decode m_C_likes.2.1 60 = .ok ((.invokevirtual 95), 3)) rfl (fun q hq => am_iv0 (am_self_eq hq).1 rfl rfl rfl) (o_G_high (d + 3) (v2) w) (fun _ _ => rfl) (fun r4 h5 => ?_)
      refine ok_call0 (inj' := am_ji) (by decide +kernel : decode m_C_likes.2.1 63 = .ok ((.invokestatic 191), 3)) rfl (fun _ _ => rfl) (o_C_isOrder (d + 3) (x3) (r4.2) r4.1) (fun _ _ => rfl) (fun r6 h7 => ?_)
      refine ok_br (P := r6.2 = 0) (off := 11) (t := 77) (by decide +kernel : decode m_C_likes.2.1 66 = .ok ((.ifCond .eq 11), 3)) rfl rfl rfl rfl (fun c8 => ?_) (fun c8 => ?_)
      · skip
        exact o_C_likes_p77 ih x0 x1 x2 x3 r6.1
      · skip
        refine ok_seg (L := [((.iload_n 1), 1), ((.aload_n 0), 1), ((.iload_n 3), 1)]) (pc' := 72) (ls' := [some (.ref x0), some (.int x1), some (.int x2), some (.int x3)]) (st' := [.int x3, .ref x0, .int x1]) (w' := r6.1) (by decide +kernel) rfl ?_
        refine ok_call0 (inj' := am_ji) (by decide +kernel : decode m_C_likes.2.1 72 = .ok ((.invokevirtual 194), 3)) rfl (fun q hq => am_iv0 (am_self_eq hq).1 rfl rfl rfl) (o_C_likesByRows (d + 0) (x0) (x3) r6.1) (fun _ _ => rfl) (fun r9 h10 => ?_)
        refine ok_seg (L := [(.iadd, 1), ((.istore_n 1), 1)]) (pc' := 77) (ls' := [some (.ref x0), some (.int (x1 + r9.2)), some (.int x2), some (.int x3)]) (st' := []) (w' := r9.1) (by decide +kernel) rfl ?_
        exact o_C_likes_p77 ih x0 (x1 + r9.2) x2 x3 r9.1
theorem o_C_likes (d : Nat) (x0 : Nat) (w : am_W) : am_Ok am_ji (d + 4) m_C_likes 0 (am_en m_C_likes [.ref x0]) [] w (f_C_likes x0 w) := by
  show am_Ok _ _ _ 0 [some (.ref x0), none, none, none] [] w _
  unfold f_C_likes
  refine ok_self ?_
  unfold e_C_likes
  refine ok_seg (L := [((.aload_n 0), 1)]) (pc' := 1) (ls' := [some (.ref x0), none, none, none]) (st' := [.ref x0]) (w' := w) (by decide +kernel) rfl ?_
  refine ok_gr (by decide +kernel : decode m_C_likes.2.1 1 = .ok ((.getfield 19), 3)) rfl (by decide) (fun v11 h12 => ?_)
  refine ok_call0 (inj' := am_ji) (by decide +kernel : decode m_C_likes.2.1 4 = .ok ((.invokevirtual 170), 3)) rfl (fun q hq => am_iv0 (am_self_eq hq).1 rfl rfl rfl) (o_G_exists (d + 3) (v11) w) (fun _ _ => rfl) (fun r13 h14 => ?_)
  refine ok_br (P := r13.2 = 0) (off := 25) (t := 32) (by decide +kernel : decode m_C_likes.2.1 7 = .ok ((.ifCond .eq 25), 3)) rfl rfl rfl rfl (fun c15 => ?_) (fun c15 => ?_)
  · skip
    exact o_C_likes_p32 (some (.ref x0)) none none none r13.1
  · skip
    refine ok_seg (L := [((.aload_n 0), 1)]) (pc' := 11) (ls' := [some (.ref x0), none, none, none]) (st' := [.ref x0]) (w' := r13.1) (by decide +kernel) rfl ?_
    refine ok_gr (by decide +kernel : decode m_C_likes.2.1 11 = .ok ((.getfield 19), 3)) rfl (by decide) (fun v16 h17 => ?_)
    refine ok_call0 (inj' := am_ji) (by decide +kernel : decode m_C_likes.2.1 14 = .ok ((.invokevirtual 95), 3)) rfl (fun q hq => am_iv0 (am_self_eq hq).1 rfl rfl rfl) (o_G_high (d + 3) (v16) r13.1) (fun _ _ => rfl) (fun r18 h19 => ?_)
    refine ok_seg (L := [((.iconst 4), 1)]) (pc' := 18) (ls' := [some (.ref x0), none, none, none]) (st' := [.int 4, .int r18.2]) (w' := r18.1) (by decide +kernel) rfl ?_
    refine ok_br (P := 4 < r18.2) (off := 14) (t := 32) (by decide +kernel : decode m_C_likes.2.1 18 = .ok ((.if_icmp .gt 14), 3)) rfl rfl rfl rfl (fun c20 => ?_) (fun c20 => ?_)
    · skip
      exact o_C_likes_p32 (some (.ref x0)) none none none r18.1
    · skip
      refine ok_seg (L := [((.aload_n 0), 1)]) (pc' := 22) (ls' := [some (.ref x0), none, none, none]) (st' := [.ref x0]) (w' := r18.1) (by decide +kernel) rfl ?_
      refine ok_gr (by decide +kernel : decode m_C_likes.2.1 22 = .ok ((.getfield 19), 3)) rfl (by decide) (fun v21 h22 => ?_)
      refine ok_call0 (inj' := am_ji) (by decide +kernel : decode m_C_likes.2.1 25 = .ok ((.invokevirtual 98), 3)) rfl (fun q hq => am_iv0 (am_self_eq hq).1 rfl rfl rfl) (o_G_wide (d + 3) (v21) r18.1) (fun _ _ => rfl) (fun r23 h24 => ?_)
      refine ok_seg (L := [((.iconst 4), 1)]) (pc' := 29) (ls' := [some (.ref x0), none, none, none]) (st' := [.int 4, .int r23.2]) (w' := r23.1) (by decide +kernel) rfl ?_
      refine ok_br (P := r23.2 ≤ 4) (off := 5) (t := 34) (by decide +kernel : decode m_C_likes.2.1 29 = .ok ((.if_icmp .le 5), 3)) rfl rfl rfl rfl (fun c25 => ?_) (fun c25 => ?_)
      · skip
        refine ok_seg (L := [((.iconst 0), 1), ((.istore_n 1), 1), ((.iconst 1), 1), ((.iconst 2), 1), ((.aload_n 0), 1)]) (pc' := 39) (ls' := [some (.ref x0), some (.int 0), none, none]) (st' := [.ref x0, .int 2, .int 1]) (w' := r23.1) (by decide +kernel) rfl ?_
        refine ok_gr (by decide +kernel : decode m_C_likes.2.1 39 = .ok ((.getfield 19), 3)) rfl (by decide) (fun v26 h27 => ?_)
        refine ok_call0 (inj' := am_ji) (by decide +kernel : decode m_C_likes.2.1 42 = .ok ((.invokevirtual 95), 3)) rfl (fun q hq => am_iv0 (am_self_eq hq).1 rfl rfl rfl) (o_G_high (d + 3) (v26) r23.1) (fun _ _ => rfl) (fun r28 h29 => ?_)
        refine ok_seg (L := [(.imul, 1), (.ishl, 1), ((.istore_n 2), 1), ((.iconst 0), 1), ((.istore_n 3), 1)]) (pc' := 50) (ls' := [some (.ref x0), some (.int 0), some (.int (1 <<< ((2 * r28.2) &&& 31))), some (.int 0)]) (st' := []) (w' := r28.1) (by decide +kernel) rfl ?_
        exact o_C_likes_p50 am_N x0 0 (1 <<< ((2 * r28.2) &&& 31)) 0 r28.1
      · skip
        exact o_C_likes_p32 (some (.ref x0)) none none none r23.1
-- m_C_layTape
def f_C_layTape_p38 (k10 : Nat → Int32 → Int32 → am_W → Option (am_W × Unit)) (k17 : Nat → Int32 → Int32 → Int32 → am_W → Option (am_W × Unit)) (x0 : Nat) (x1 : Int32) (x2 : Int32) (x3 : Int32) (s0 : Int32) (w : am_W) : Option (am_W × Unit) := ((am_gr w x0 0 1).bind fun v1 => ((am_gr w x0 0 1).bind fun v3 => ((f_G_cellAt (v3) (x2) (x3) w).bind fun r5 => ((am_gr r5.1 x0 0 0).bind fun v7 => ((f_T_byteAt (v7) (s0) r5.1).bind fun r9 => ((f_G_put (v1) (r5.2) (r9.2) r9.1).bind fun r11 => (k17 x0 x1 x2 (x3 + 1) r11.1)))))))
def f_C_layTape_p17 (k10 : Nat → Int32 → Int32 → am_W → Option (am_W × Unit)) : Nat → Nat → Int32 → Int32 → Int32 → am_W → Option (am_W × Unit)
  | 0, _, _, _, _, _ => none
  | n + 1, x0, x1, x2, x3, w => (if x1 ≤ x3 then (k10 x0 x1 (x2 + 1) w) else (if x3 < x2 then (f_C_layTape_p38 k10 (f_C_layTape_p17 k10 n) x0 x1 x2 x3 ((x3 - x2) + x1) w) else (f_C_layTape_p38 k10 (f_C_layTape_p17 k10 n) x0 x1 x2 x3 (x3 - x2) w)))
def f_C_layTape_p10 : Nat → Nat → Int32 → Int32 → am_W → Option (am_W × Unit)
  | 0, _, _, _, _ => none
  | n + 1, x0, x1, x2, w => (if x1 ≤ x2 then (some (w, ())) else (f_C_layTape_p17 (f_C_layTape_p10 n) am_N x0 x1 x2 0 w))
def e_C_layTape (x0 : Nat) (w : am_W) : Option (am_W × Unit) := ((am_gr w x0 0 1).bind fun v16 => ((f_G_wide (v16) w).bind fun r18 => (f_C_layTape_p10 am_N x0 r18.2 0 r18.1)))
def f_C_layTape (x0 : Nat) (w : am_W) : Option (am_W × Unit) := am_self w x0 0 (e_C_layTape x0 w)
theorem o_C_layTape_p38 {d : Nat} {k10 : Nat → Int32 → Int32 → am_W → Option (am_W × Unit)} {k17 : Nat → Int32 → Int32 → Int32 → am_W → Option (am_W × Unit)} (hk10 : ∀ (x0 : Nat) (x1 : Int32) (x2 : Int32) (y3 y4 : Option Value) (w : am_W), am_Ok am_jv (d + 2) m_C_layTape 10 [some (.ref x0), some (.int x1), some (.int x2), y3, y4] [] w (k10 x0 x1 x2 w)) (hk17 : ∀ (x0 : Nat) (x1 : Int32) (x2 : Int32) (x3 : Int32) (y4 : Option Value) (w : am_W), am_Ok am_jv (d + 2) m_C_layTape 17 [some (.ref x0), some (.int x1), some (.int x2), some (.int x3), y4] [] w (k17 x0 x1 x2 x3 w)) (x0 : Nat) (x1 : Int32) (x2 : Int32) (x3 : Int32) (s0 : Int32) (y4 : Option Value) (w : am_W) : am_Ok am_jv (d + 2) m_C_layTape 38 [some (.ref x0), some (.int x1), some (.int x2), some (.int x3), y4] [.int s0] w (f_C_layTape_p38 k10 k17 x0 x1 x2 x3 s0 w) := by
  unfold f_C_layTape_p38
  refine ok_seg (L := [((.istore 4), 2), ((.aload_n 0), 1)]) (pc' := 41) (ls' := [some (.ref x0), some (.int x1), some (.int x2), some (.int x3), some (.int s0)]) (st' := [.ref x0]) (w' := w) (by decide +kernel) rfl ?_
  refine ok_gr (by decide +kernel : decode m_C_layTape.2.1 41 = .ok ((.getfield 19), 3)) rfl (by decide) (fun v1 h2 => ?_)
  refine ok_seg (L := [((.aload_n 0), 1)]) (pc' := 45) (ls' := [some (.ref x0), some (.int x1), some (.int x2), some (.int x3), some (.int s0)]) (st' := [.ref x0, .ref v1]) (w' := w) (by decide +kernel) rfl ?_
  refine ok_gr (by decide +kernel : decode m_C_layTape.2.1 45 = .ok ((.getfield 19), 3)) rfl (by decide) (fun v3 h4 => ?_)
  refine ok_seg (L := [((.iload_n 2), 1), ((.iload_n 3), 1)]) (pc' := 50) (ls' := [some (.ref x0), some (.int x1), some (.int x2), some (.int x3), some (.int s0)]) (st' := [.int x3, .int x2, .ref v3, .ref v1]) (w' := w) (by decide +kernel) rfl ?_
  refine ok_call0 (inj' := am_ji) (by decide +kernel : decode m_C_layTape.2.1 50 = .ok ((.invokevirtual 214), 3)) rfl (fun q hq => am_iv0 (am_self_eq hq).1 rfl rfl rfl) (o_G_cellAt (d + 1) (v3) (x2) (x3) w) (fun _ _ => rfl) (fun r5 h6 => ?_)
  refine ok_seg (L := [((.aload_n 0), 1)]) (pc' := 54) (ls' := [some (.ref x0), some (.int x1), some (.int x2), some (.int x3), some (.int s0)]) (st' := [.ref x0, .int r5.2, .ref v1]) (w' := r5.1) (by decide +kernel) rfl ?_
  refine ok_gr (by decide +kernel : decode m_C_layTape.2.1 54 = .ok ((.getfield 10), 3)) rfl (by decide) (fun v7 h8 => ?_)
  refine ok_seg (L := [((.iload 4), 2)]) (pc' := 59) (ls' := [some (.ref x0), some (.int x1), some (.int x2), some (.int x3), some (.int s0)]) (st' := [.int s0, .ref v7, .int r5.2, .ref v1]) (w' := r5.1) (by decide +kernel) rfl ?_
  refine ok_call0 (inj' := am_ji) (by decide +kernel : decode m_C_layTape.2.1 59 = .ok ((.invokevirtual 259), 3)) rfl (fun q hq => am_iv0 (am_self_eq hq).1 rfl rfl rfl) (o_T_byteAt (d + 1) (v7) (s0) r5.1) (fun _ _ => rfl) (fun r9 h10 => ?_)
  refine ok_call0 (inj' := am_jv) (by decide +kernel : decode m_C_layTape.2.1 62 = .ok ((.invokevirtual 206), 3)) rfl (fun q hq => am_iv0 (am_self_eq hq).1 rfl rfl rfl) (o_G_put (d + 0) (v1) (r5.2) (r9.2) r9.1) (fun _ _ => rfl) (fun r11 h12 => ?_)
  refine ok_seg (L := [((.iinc 3 1), 3)]) (pc' := 68) (ls' := [some (.ref x0), some (.int x1), some (.int x2), some (.int (x3 + 1)), some (.int s0)]) (st' := []) (w' := r11.1) (by decide +kernel) rfl ?_
  refine ok_goto (t := 17) (by decide +kernel : decode m_C_layTape.2.1 68 = .ok ((.goto (-51)), 3)) rfl ?_
  exact hk17 x0 x1 x2 (x3 + 1) (some (.int s0)) r11.1
theorem o_C_layTape_p17 {d : Nat} {k10 : Nat → Int32 → Int32 → am_W → Option (am_W × Unit)} (hk10 : ∀ (x0 : Nat) (x1 : Int32) (x2 : Int32) (y3 y4 : Option Value) (w : am_W), am_Ok am_jv (d + 2) m_C_layTape 10 [some (.ref x0), some (.int x1), some (.int x2), y3, y4] [] w (k10 x0 x1 x2 w)) : ∀ (n : Nat) (x0 : Nat) (x1 : Int32) (x2 : Int32) (x3 : Int32) (y4 : Option Value) (w : am_W), am_Ok am_jv (d + 2) m_C_layTape 17 [some (.ref x0), some (.int x1), some (.int x2), some (.int x3), y4] [] w (f_C_layTape_p17 k10 n x0 x1 x2 x3 w) := by
  intro n
  induction n with
  | zero => intros; exact ok_none
  | succ n ih =>
    intro x0 x1 x2 x3 y4 w
    unfold f_C_layTape_p17
    refine ok_seg (L := [((.iload_n 3), 1), ((.iload_n 1), 1)]) (pc' := 19) (ls' := [some (.ref x0), some (.int x1), some (.int x2), some (.int x3), y4]) (st' := [.int x1, .int x3]) (w' := w) (by decide +kernel) rfl ?_
    refine ok_br (P := x1 ≤ x3) (off := 52) (t := 71) (by decide +kernel : decode m_C_layTape.2.1 19 = .ok ((.if_icmp .ge 52), 3)) rfl rfl rfl rfl (fun c13 => ?_) (fun c13 => ?_)
    · skip
      refine ok_seg (L := [((.iinc 2 1), 3)]) (pc' := 74) (ls' := [some (.ref x0), some (.int x1), some (.int (x2 + 1)), some (.int x3), y4]) (st' := []) (w' := w) (by decide +kernel) rfl ?_
      refine ok_goto (t := 10) (by decide +kernel : decode m_C_layTape.2.1 74 = .ok ((.goto (-64)), 3)) rfl ?_
      exact hk10 x0 x1 (x2 + 1) (some (.int x3)) y4 w
    · skip
      refine ok_seg (L := [((.iload_n 3), 1), ((.iload_n 2), 1)]) (pc' := 24) (ls' := [some (.ref x0), some (.int x1), some (.int x2), some (.int x3), y4]) (st' := [.int x2, .int x3]) (w' := w) (by decide +kernel) rfl ?_
      refine ok_br (P := x3 < x2) (off := 9) (t := 33) (by decide +kernel : decode m_C_layTape.2.1 24 = .ok ((.if_icmp .lt 9), 3)) rfl rfl rfl rfl (fun c14 => ?_) (fun c14 => ?_)
      · skip
        refine ok_seg (L := [((.iload_n 3), 1), ((.iload_n 2), 1), (.isub, 1), ((.iload_n 1), 1), (.iadd, 1)]) (pc' := 38) (ls' := [some (.ref x0), some (.int x1), some (.int x2), some (.int x3), y4]) (st' := [.int ((x3 - x2) + x1)]) (w' := w) (by decide +kernel) rfl ?_
        exact o_C_layTape_p38 hk10 ih x0 x1 x2 x3 ((x3 - x2) + x1) y4 w
      · skip
        refine ok_seg (L := [((.iload_n 3), 1), ((.iload_n 2), 1), (.isub, 1)]) (pc' := 30) (ls' := [some (.ref x0), some (.int x1), some (.int x2), some (.int x3), y4]) (st' := [.int (x3 - x2)]) (w' := w) (by decide +kernel) rfl ?_
        refine ok_goto (t := 38) (by decide +kernel : decode m_C_layTape.2.1 30 = .ok ((.goto 8), 3)) rfl ?_
        exact o_C_layTape_p38 hk10 ih x0 x1 x2 x3 (x3 - x2) y4 w
theorem o_C_layTape_p10 {d : Nat} : ∀ (n : Nat) (x0 : Nat) (x1 : Int32) (x2 : Int32) (y3 y4 : Option Value) (w : am_W), am_Ok am_jv (d + 2) m_C_layTape 10 [some (.ref x0), some (.int x1), some (.int x2), y3, y4] [] w (f_C_layTape_p10 n x0 x1 x2 w) := by
  intro n
  induction n with
  | zero => intros; exact ok_none
  | succ n ih =>
    intro x0 x1 x2 y3 y4 w
    unfold f_C_layTape_p10
    refine ok_seg (L := [((.iload_n 2), 1), ((.iload_n 1), 1)]) (pc' := 12) (ls' := [some (.ref x0), some (.int x1), some (.int x2), y3, y4]) (st' := [.int x1, .int x2]) (w' := w) (by decide +kernel) rfl ?_
    refine ok_br (P := x1 ≤ x2) (off := 65) (t := 77) (by decide +kernel : decode m_C_layTape.2.1 12 = .ok ((.if_icmp .ge 65), 3)) rfl rfl rfl rfl (fun c15 => ?_) (fun c15 => ?_)
    · skip
      exact ok_ret (v := ()) (by decide +kernel : decode m_C_layTape.2.1 77 = .ok (.return_, 1)) rfl
    · skip
      refine ok_seg (L := [((.iconst 0), 1), ((.istore_n 3), 1)]) (pc' := 17) (ls' := [some (.ref x0), some (.int x1), some (.int x2), some (.int 0), y4]) (st' := []) (w' := w) (by decide +kernel) rfl ?_
      exact o_C_layTape_p17 ih am_N x0 x1 x2 0 y4 w
theorem o_C_layTape (d : Nat) (x0 : Nat) (w : am_W) : am_Ok am_jv (d + 2) m_C_layTape 0 (am_en m_C_layTape [.ref x0]) [] w (f_C_layTape x0 w) := by
  show am_Ok _ _ _ 0 [some (.ref x0), none, none, none, none] [] w _
  unfold f_C_layTape
  refine ok_self ?_
  unfold e_C_layTape
  refine ok_seg (L := [((.aload_n 0), 1)]) (pc' := 1) (ls' := [some (.ref x0), none, none, none, none]) (st' := [.ref x0]) (w' := w) (by decide +kernel) rfl ?_
  refine ok_gr (by decide +kernel : decode m_C_layTape.2.1 1 = .ok ((.getfield 19), 3)) rfl (by decide) (fun v16 h17 => ?_)
  refine ok_call0 (inj' := am_ji) (by decide +kernel : decode m_C_layTape.2.1 4 = .ok ((.invokevirtual 98), 3)) rfl (fun q hq => am_iv0 (am_self_eq hq).1 rfl rfl rfl) (o_G_wide (d + 1) (v16) w) (fun _ _ => rfl) (fun r18 h19 => ?_)
  refine ok_seg (L := [((.istore_n 1), 1), ((.iconst 0), 1), ((.istore_n 2), 1)]) (pc' := 10) (ls' := [some (.ref x0), some (.int r18.2), some (.int 0), none, none]) (st' := []) (w' := r18.1) (by decide +kernel) rfl ?_
  exact o_C_layTape_p10 am_N x0 r18.2 0 none none r18.1
-- m_T_holdsOnly
def f_T_holdsOnly_p28 (w : am_W) : Option (am_W × Int32) := (some (w, 0))
def f_T_holdsOnly_p2 : Nat → Nat → Int32 → Int32 → Int32 → am_W → Option (am_W × Int32)
  | 0, _, _, _, _, _ => none
  | n + 1, x0, x1, x2, x3, w => ((am_gi w x0 6 1).bind fun v1 => (if v1 ≤ x3 then (some (w, 1)) else ((f_T_byteAt (x0) (x3) w).bind fun r4 => (if r4.2 < x1 then (f_T_holdsOnly_p28 r4.1) else ((f_T_byteAt (x0) (x3) r4.1).bind fun r7 => (if r7.2 ≤ x2 then (f_T_holdsOnly_p2 n x0 x1 x2 (x3 + 1) r7.1) else (f_T_holdsOnly_p28 r7.1)))))))
def e_T_holdsOnly (x0 : Nat) (x1 : Int32) (x2 : Int32) (w : am_W) : Option (am_W × Int32) := (f_T_holdsOnly_p2 am_N x0 x1 x2 0 w)
def f_T_holdsOnly (x0 : Nat) (x1 : Int32) (x2 : Int32) (w : am_W) : Option (am_W × Int32) := am_self w x0 6 (e_T_holdsOnly x0 x1 x2 w)
theorem o_T_holdsOnly_p28 {d : Nat} (y0 y1 y2 y3 : Option Value) (w : am_W) : am_Ok am_ji (d + 1) m_T_holdsOnly 28 [y0, y1, y2, y3] [] w (f_T_holdsOnly_p28 w) := by
  unfold f_T_holdsOnly_p28
  refine ok_seg (L := [((.iconst 0), 1)]) (pc' := 29) (ls' := [y0, y1, y2, y3]) (st' := [.int 0]) (w' := w) (by decide +kernel) rfl ?_
  exact ok_ret (v := 0) (by decide +kernel : decode m_T_holdsOnly.2.1 29 = .ok (.ireturn, 1)) rfl
theorem o_T_holdsOnly_p2 {d : Nat} : ∀ (n : Nat) (x0 : Nat) (x1 : Int32) (x2 : Int32) (x3 : Int32) (w : am_W), am_Ok am_ji (d + 1) m_T_holdsOnly 2 [some (.ref x0), some (.int x1), some (.int x2), some (.int x3)] [] w (f_T_holdsOnly_p2 n x0 x1 x2 x3 w) := by
  intro n
  induction n with
  | zero => intros; exact ok_none
  | succ n ih =>
    intro x0 x1 x2 x3 w
    unfold f_T_holdsOnly_p2
    refine ok_seg (L := [((.iload_n 3), 1), ((.aload_n 0), 1)]) (pc' := 4) (ls' := [some (.ref x0), some (.int x1), some (.int x2), some (.int x3)]) (st' := [.ref x0, .int x3]) (w' := w) (by decide +kernel) rfl ?_
    refine ok_gi (by decide +kernel : decode m_T_holdsOnly.2.1 4 = .ok ((.getfield 15), 3)) rfl (fun v1 h2 => ?_)
    refine ok_br (P := v1 ≤ x3) (off := 29) (t := 36) (by decide +kernel : decode m_T_holdsOnly.2.1 7 = .ok ((.if_icmp .ge 29), 3)) rfl rfl rfl rfl (fun c3 => ?_) (fun c3 => ?_)
    · skip
      refine ok_seg (L := [((.iconst 1), 1)]) (pc' := 37) (ls' := [some (.ref x0), some (.int x1), some (.int x2), some (.int x3)]) (st' := [.int 1]) (w' := w) (by decide +kernel) rfl ?_
      exact ok_ret (v := 1) (by decide +kernel : decode m_T_holdsOnly.2.1 37 = .ok (.ireturn, 1)) rfl
    · skip
      refine ok_seg (L := [((.aload_n 0), 1), ((.iload_n 3), 1)]) (pc' := 12) (ls' := [some (.ref x0), some (.int x1), some (.int x2), some (.int x3)]) (st' := [.int x3, .ref x0]) (w' := w) (by decide +kernel) rfl ?_
      refine ok_call0 (inj' := am_ji) (by decide +kernel : decode m_T_holdsOnly.2.1 12 = .ok ((.invokevirtual 19), 3)) rfl (fun q hq => am_iv0 (am_self_eq hq).1 rfl rfl rfl) (o_T_byteAt (d + 0) (x0) (x3) w) (fun _ _ => rfl) (fun r4 h5 => ?_)
      refine ok_seg (L := [((.iload_n 1), 1)]) (pc' := 16) (ls' := [some (.ref x0), some (.int x1), some (.int x2), some (.int x3)]) (st' := [.int x1, .int r4.2]) (w' := r4.1) (by decide +kernel) rfl ?_
      refine ok_br (P := r4.2 < x1) (off := 12) (t := 28) (by decide +kernel : decode m_T_holdsOnly.2.1 16 = .ok ((.if_icmp .lt 12), 3)) rfl rfl rfl rfl (fun c6 => ?_) (fun c6 => ?_)
      · skip
        exact o_T_holdsOnly_p28 (some (.ref x0)) (some (.int x1)) (some (.int x2)) (some (.int x3)) r4.1
      · skip
        refine ok_seg (L := [((.aload_n 0), 1), ((.iload_n 3), 1)]) (pc' := 21) (ls' := [some (.ref x0), some (.int x1), some (.int x2), some (.int x3)]) (st' := [.int x3, .ref x0]) (w' := r4.1) (by decide +kernel) rfl ?_
        refine ok_call0 (inj' := am_ji) (by decide +kernel : decode m_T_holdsOnly.2.1 21 = .ok ((.invokevirtual 19), 3)) rfl (fun q hq => am_iv0 (am_self_eq hq).1 rfl rfl rfl) (o_T_byteAt (d + 0) (x0) (x3) r4.1) (fun _ _ => rfl) (fun r7 h8 => ?_)
        refine ok_seg (L := [((.iload_n 2), 1)]) (pc' := 25) (ls' := [some (.ref x0), some (.int x1), some (.int x2), some (.int x3)]) (st' := [.int x2, .int r7.2]) (w' := r7.1) (by decide +kernel) rfl ?_
        refine ok_br (P := r7.2 ≤ x2) (off := 5) (t := 30) (by decide +kernel : decode m_T_holdsOnly.2.1 25 = .ok ((.if_icmp .le 5), 3)) rfl rfl rfl rfl (fun c9 => ?_) (fun c9 => ?_)
        · skip
          refine ok_seg (L := [((.iinc 3 1), 3)]) (pc' := 33) (ls' := [some (.ref x0), some (.int x1), some (.int x2), some (.int (x3 + 1))]) (st' := []) (w' := r7.1) (by decide +kernel) rfl ?_
          refine ok_goto (t := 2) (by decide +kernel : decode m_T_holdsOnly.2.1 33 = .ok ((.goto (-31)), 3)) rfl ?_
          exact ih x0 x1 x2 (x3 + 1) r7.1
        · skip
          exact o_T_holdsOnly_p28 (some (.ref x0)) (some (.int x1)) (some (.int x2)) (some (.int x3)) r7.1
theorem o_T_holdsOnly (d : Nat) (x0 : Nat) (x1 : Int32) (x2 : Int32) (w : am_W) : am_Ok am_ji (d + 1) m_T_holdsOnly 0 (am_en m_T_holdsOnly [.ref x0, .int x1, .int x2]) [] w (f_T_holdsOnly x0 x1 x2 w) := by
  show am_Ok _ _ _ 0 [some (.ref x0), some (.int x1), some (.int x2), none] [] w _
  unfold f_T_holdsOnly
  refine ok_self ?_
  unfold e_T_holdsOnly
  refine ok_seg (L := [((.iconst 0), 1), ((.istore_n 3), 1)]) (pc' := 2) (ls' := [some (.ref x0), some (.int x1), some (.int x2), some (.int 0)]) (st' := []) (w' := w) (by decide +kernel) rfl ?_
  exact o_T_holdsOnly_p2 am_N x0 x1 x2 0 w
-- m_C_lay
def f_C_lay_p111 (s0 : Int32) (w : am_W) : Option (am_W × Int32) := (some (w, s0))
def f_C_lay_p87 (x0 : Nat) (x1 : Int32) (w : am_W) : Option (am_W × Int32) := ((am_gr w x0 0 0).bind fun v1 => ((f_T_cut (v1) (0) w).bind fun r3 => (if x1 = 0 then (f_C_lay_p111 (-1) r3.1) else ((am_gr r3.1 x0 0 1).bind fun v6 => ((f_G_countAll (v6) r3.1).bind fun r8 => (f_C_lay_p111 r8.2 r8.1))))))
def f_C_lay_p67 (x0 : Nat) (s0 : Int32) (w : am_W) : Option (am_W × Int32) := (if s0 = 0 then (f_C_lay_p87 x0 s0 w) else ((am_gr w x0 0 5).bind fun v11 => ((am_gr w x0 0 1).bind fun v13 => ((f_H_keep (v11) (v13) w).bind fun r15 => ((f_C_layTape (x0) r15.1).bind fun r17 => (f_C_lay_p87 x0 s0 r17.1))))))
def f_C_lay_p66 (x0 : Nat) (w : am_W) : Option (am_W × Int32) := (f_C_lay_p67 x0 0 w)
def e_C_lay (x0 : Nat) (w : am_W) : Option (am_W × Int32) := ((am_gr w x0 0 1).bind fun v19 => ((f_G_exists (v19) w).bind fun r21 => (if r21.2 = 0 then (f_C_lay_p66 x0 r21.1) else ((am_gr r21.1 x0 0 1).bind fun v24 => ((f_G_high (v24) r21.1).bind fun r26 => ((am_gr r26.1 x0 0 1).bind fun v28 => ((f_G_wide (v28) r26.1).bind fun r30 => (if ¬ r26.2 = r30.2 then (f_C_lay_p66 x0 r30.1) else ((am_gr r30.1 x0 0 0).bind fun v33 => ((f_T_length (v33) r30.1).bind fun r35 => ((am_gr r35.1 x0 0 1).bind fun v37 => ((f_G_wide (v37) r35.1).bind fun r39 => (if ¬ r35.2 = r39.2 then (f_C_lay_p66 x0 r39.1) else ((am_gr r39.1 x0 0 0).bind fun v42 => ((am_gr r39.1 x0 0 1).bind fun v44 => ((f_G_shades (v44) r39.1).bind fun r46 => ((f_T_holdsOnly (v42) (1) (r46.2) r46.1).bind fun r48 => (if r48.2 = 0 then (f_C_lay_p66 x0 r48.1) else (f_C_lay_p67 x0 1 r48.1)))))))))))))))))))
def f_C_lay (x0 : Nat) (w : am_W) : Option (am_W × Int32) := am_self w x0 0 (e_C_lay x0 w)
theorem o_C_lay_p111 {d : Nat} (s0 : Int32) (y0 y1 : Option Value) (w : am_W) : am_Ok am_ji (d + 4) m_C_lay 111 [y0, y1] [.int s0] w (f_C_lay_p111 s0 w) := by
  unfold f_C_lay_p111
  exact ok_ret (v := s0) (by decide +kernel : decode m_C_lay.2.1 111 = .ok (.ireturn, 1)) rfl
theorem o_C_lay_p87 {d : Nat} (x0 : Nat) (x1 : Int32) (w : am_W) : am_Ok am_ji (d + 4) m_C_lay 87 [some (.ref x0), some (.int x1)] [] w (f_C_lay_p87 x0 x1 w) := by
  unfold f_C_lay_p87
  refine ok_seg (L := [((.aload_n 0), 1)]) (pc' := 88) (ls' := [some (.ref x0), some (.int x1)]) (st' := [.ref x0]) (w' := w) (by decide +kernel) rfl ?_
  refine ok_gr (by decide +kernel : decode m_C_lay.2.1 88 = .ok ((.getfield 10), 3)) rfl (by decide) (fun v1 h2 => ?_)
  refine ok_seg (L := [((.iconst 0), 1)]) (pc' := 92) (ls' := [some (.ref x0), some (.int x1)]) (st' := [.int 0, .ref v1]) (w' := w) (by decide +kernel) rfl ?_
  refine ok_call0 (inj' := am_ji) (by decide +kernel : decode m_C_lay.2.1 92 = .ok ((.invokevirtual 67), 3)) rfl (fun q hq => am_iv0 (am_self_eq hq).1 rfl rfl rfl) (o_T_cut (d + 3) (v1) (0) w) (fun _ _ => rfl) (fun r3 h4 => ?_)
  refine ok_seg (L := [(.pop, 1), ((.iload_n 1), 1)]) (pc' := 97) (ls' := [some (.ref x0), some (.int x1)]) (st' := [.int x1]) (w' := r3.1) (by decide +kernel) rfl ?_
  refine ok_br (P := x1 = 0) (off := 13) (t := 110) (by decide +kernel : decode m_C_lay.2.1 97 = .ok ((.ifCond .eq 13), 3)) rfl rfl rfl rfl (fun c5 => ?_) (fun c5 => ?_)
  · skip
    refine ok_seg (L := [((.iconst (-1)), 1)]) (pc' := 111) (ls' := [some (.ref x0), some (.int x1)]) (st' := [.int (-1)]) (w' := r3.1) (by decide +kernel) rfl ?_
    exact o_C_lay_p111 (-1) (some (.ref x0)) (some (.int x1)) r3.1
  · skip
    refine ok_seg (L := [((.aload_n 0), 1)]) (pc' := 101) (ls' := [some (.ref x0), some (.int x1)]) (st' := [.ref x0]) (w' := r3.1) (by decide +kernel) rfl ?_
    refine ok_gr (by decide +kernel : decode m_C_lay.2.1 101 = .ok ((.getfield 19), 3)) rfl (by decide) (fun v6 h7 => ?_)
    refine ok_call0 (inj' := am_ji) (by decide +kernel : decode m_C_lay.2.1 104 = .ok ((.invokevirtual 138), 3)) rfl (fun q hq => am_iv0 (am_self_eq hq).1 rfl rfl rfl) (o_G_countAll (d + 1) (v6) r3.1) (fun _ _ => rfl) (fun r8 h9 => ?_)
    refine ok_goto (t := 111) (by decide +kernel : decode m_C_lay.2.1 107 = .ok ((.goto 4), 3)) rfl ?_
    exact o_C_lay_p111 r8.2 (some (.ref x0)) (some (.int x1)) r8.1
theorem o_C_lay_p67 {d : Nat} (x0 : Nat) (s0 : Int32) (y1 : Option Value) (w : am_W) : am_Ok am_ji (d + 4) m_C_lay 67 [some (.ref x0), y1] [.int s0] w (f_C_lay_p67 x0 s0 w) := by
  unfold f_C_lay_p67
  refine ok_seg (L := [((.istore_n 1), 1), ((.iload_n 1), 1)]) (pc' := 69) (ls' := [some (.ref x0), some (.int s0)]) (st' := [.int s0]) (w' := w) (by decide +kernel) rfl ?_
  refine ok_br (P := s0 = 0) (off := 18) (t := 87) (by decide +kernel : decode m_C_lay.2.1 69 = .ok ((.ifCond .eq 18), 3)) rfl rfl rfl rfl (fun c10 => ?_) (fun c10 => ?_)
  · skip
    exact o_C_lay_p87 x0 s0 w
  · skip
    refine ok_seg (L := [((.aload_n 0), 1)]) (pc' := 73) (ls' := [some (.ref x0), some (.int s0)]) (st' := [.ref x0]) (w' := w) (by decide +kernel) rfl ?_
    refine ok_gr (by decide +kernel : decode m_C_lay.2.1 73 = .ok ((.getfield 43), 3)) rfl (by decide) (fun v11 h12 => ?_)
    refine ok_seg (L := [((.aload_n 0), 1)]) (pc' := 77) (ls' := [some (.ref x0), some (.int s0)]) (st' := [.ref x0, .ref v11]) (w' := w) (by decide +kernel) rfl ?_
    refine ok_gr (by decide +kernel : decode m_C_lay.2.1 77 = .ok ((.getfield 19), 3)) rfl (by decide) (fun v13 h14 => ?_)
    refine ok_call0 (inj' := am_jv) (by decide +kernel : decode m_C_lay.2.1 80 = .ok ((.invokevirtual 188), 3)) rfl (fun q hq => am_iv0 (am_self_eq hq).1 rfl rfl rfl) (o_H_keep (d + 0) (v11) (v13) w) (fun _ _ => rfl) (fun r15 h16 => ?_)
    refine ok_seg (L := [((.aload_n 0), 1)]) (pc' := 84) (ls' := [some (.ref x0), some (.int s0)]) (st' := [.ref x0]) (w' := r15.1) (by decide +kernel) rfl ?_
    refine ok_call0 (inj' := am_jv) (by decide +kernel : decode m_C_lay.2.1 84 = .ok ((.invokevirtual 200), 3)) rfl (fun q hq => am_iv0 (am_self_eq hq).1 rfl rfl rfl) (o_C_layTape (d + 1) (x0) r15.1) (fun _ _ => rfl) (fun r17 h18 => ?_)
    exact o_C_lay_p87 x0 s0 r17.1
theorem o_C_lay_p66 {d : Nat} (x0 : Nat) (y1 : Option Value) (w : am_W) : am_Ok am_ji (d + 4) m_C_lay 66 [some (.ref x0), y1] [] w (f_C_lay_p66 x0 w) := by
  unfold f_C_lay_p66
  refine ok_seg (L := [((.iconst 0), 1)]) (pc' := 67) (ls' := [some (.ref x0), y1]) (st' := [.int 0]) (w' := w) (by decide +kernel) rfl ?_
  exact o_C_lay_p67 x0 0 y1 w
theorem o_C_lay (d : Nat) (x0 : Nat) (w : am_W) : am_Ok am_ji (d + 4) m_C_lay 0 (am_en m_C_lay [.ref x0]) [] w (f_C_lay x0 w) := by
  show am_Ok _ _ _ 0 [some (.ref x0), none] [] w _
  unfold f_C_lay
  refine ok_self ?_
  unfold e_C_lay
  refine ok_seg (L := [((.aload_n 0), 1)]) (pc' := 1) (ls' := [some (.ref x0), none]) (st' := [.ref x0]) (w' := w) (by decide +kernel) rfl ?_
  refine ok_gr (by decide +kernel : decode m_C_lay.2.1 1 = .ok ((.getfield 19), 3)) rfl (by decide) (fun v19 h20 => ?_)
  refine ok_call0 (inj' := am_ji) (by decide +kernel : decode m_C_lay.2.1 4 = .ok ((.invokevirtual 170), 3)) rfl (fun q hq => am_iv0 (am_self_eq hq).1 rfl rfl rfl) (o_G_exists (d + 3) (v19) w) (fun _ _ => rfl) (fun r21 h22 => ?_)
  refine ok_br (P := r21.2 = 0) (off := 59) (t := 66) (by decide +kernel : decode m_C_lay.2.1 7 = .ok ((.ifCond .eq 59), 3)) rfl rfl rfl rfl (fun c23 => ?_) (fun c23 => ?_)
  · skip
    exact o_C_lay_p66 x0 none r21.1
  · skip
    refine ok_seg (L := [((.aload_n 0), 1)]) (pc' := 11) (ls' := [some (.ref x0), none]) (st' := [.ref x0]) (w' := r21.1) (by decide +kernel) rfl ?_
    refine ok_gr (by decide +kernel : decode m_C_lay.2.1 11 = .ok ((.getfield 19), 3)) rfl (by decide) (fun v24 h25 => ?_)
    refine ok_call0 (inj' := am_ji) (by decide +kernel : decode m_C_lay.2.1 14 = .ok ((.invokevirtual 95), 3)) rfl (fun q hq => am_iv0 (am_self_eq hq).1 rfl rfl rfl) (o_G_high (d + 3) (v24) r21.1) (fun _ _ => rfl) (fun r26 h27 => ?_)
    refine ok_seg (L := [((.aload_n 0), 1)]) (pc' := 18) (ls' := [some (.ref x0), none]) (st' := [.ref x0, .int r26.2]) (w' := r26.1) (by decide +kernel) rfl ?_
    refine ok_gr (by decide +kernel : decode m_C_lay.2.1 18 = .ok ((.getfield 19), 3)) rfl (by decide) (fun v28 h29 => ?_)
    refine ok_call0 (inj' := am_ji) (by decide +kernel : decode m_C_lay.2.1 21 = .ok ((.invokevirtual 98), 3)) rfl (fun q hq => am_iv0 (am_self_eq hq).1 rfl rfl rfl) (o_G_wide (d + 3) (v28) r26.1) (fun _ _ => rfl) (fun r30 h31 => ?_)
    refine ok_br (P := ¬ r26.2 = r30.2) (off := 42) (t := 66) (by decide +kernel : decode m_C_lay.2.1 24 = .ok ((.if_icmp .ne 42), 3)) rfl rfl rfl rfl (fun c32 => ?_) (fun c32 => ?_)
    · skip
      exact o_C_lay_p66 x0 none r30.1
    · skip
      refine ok_seg (L := [((.aload_n 0), 1)]) (pc' := 28) (ls' := [some (.ref x0), none]) (st' := [.ref x0]) (w' := r30.1) (by decide +kernel) rfl ?_
      refine ok_gr (by decide +kernel : decode m_C_lay.2.1 28 = .ok ((.getfield 10), 3)) rfl (by decide) (fun v33 h34 => ?_)
      refine ok_call0 (inj' := am_ji) (by decide +kernel : decode m_C_lay.2.1 31 = .ok ((.invokevirtual 60), 3)) rfl (fun q hq => am_iv0 (am_self_eq hq).1 rfl rfl rfl) (o_T_length (d + 3) (v33) r30.1) (fun _ _ => rfl) (fun r35 h36 => ?_)
      refine ok_seg (L := [((.aload_n 0), 1)]) (pc' := 35) (ls' := [some (.ref x0), none]) (st' := [.ref x0, .int r35.2]) (w' := r35.1) (by decide +kernel) rfl ?_
      refine ok_gr (by decide +kernel : decode m_C_lay.2.1 35 = .ok ((.getfield 19), 3)) rfl (by decide) (fun v37 h38 => ?_)
      refine ok_call0 (inj' := am_ji) (by decide +kernel : decode m_C_lay.2.1 38 = .ok ((.invokevirtual 98), 3)) rfl (fun q hq => am_iv0 (am_self_eq hq).1 rfl rfl rfl) (o_G_wide (d + 3) (v37) r35.1) (fun _ _ => rfl) (fun r39 h40 => ?_)
      refine ok_br (P := ¬ r35.2 = r39.2) (off := 25) (t := 66) (by decide +kernel : decode m_C_lay.2.1 41 = .ok ((.if_icmp .ne 25), 3)) rfl rfl rfl rfl (fun c41 => ?_) (fun c41 => ?_)
      · skip
        exact o_C_lay_p66 x0 none r39.1
      · skip
        refine ok_seg (L := [((.aload_n 0), 1)]) (pc' := 45) (ls' := [some (.ref x0), none]) (st' := [.ref x0]) (w' := r39.1) (by decide +kernel) rfl ?_
        refine ok_gr (by decide +kernel : decode m_C_lay.2.1 45 = .ok ((.getfield 10), 3)) rfl (by decide) (fun v42 h43 => ?_)
        refine ok_seg (L := [((.iconst 1), 1), ((.aload_n 0), 1)]) (pc' := 50) (ls' := [some (.ref x0), none]) (st' := [.ref x0, .int 1, .ref v42]) (w' := r39.1) (by decide +kernel) rfl ?_
        refine ok_gr (by decide +kernel : decode m_C_lay.2.1 50 = .ok ((.getfield 19), 3)) rfl (by decide) (fun v44 h45 => ?_)
        refine ok_call0 (inj' := am_ji) (by decide +kernel : decode m_C_lay.2.1 53 = .ok ((.invokevirtual 101), 3)) rfl (fun q hq => am_iv0 (am_self_eq hq).1 rfl rfl rfl) (o_G_shades (d + 3) (v44) r39.1) (fun _ _ => rfl) (fun r46 h47 => ?_)
        refine ok_call0 (inj' := am_ji) (by decide +kernel : decode m_C_lay.2.1 56 = .ok ((.invokevirtual 197), 3)) rfl (fun q hq => am_iv0 (am_self_eq hq).1 rfl rfl rfl) (o_T_holdsOnly (d + 2) (v42) (1) (r46.2) r46.1) (fun _ _ => rfl) (fun r48 h49 => ?_)
        refine ok_br (P := r48.2 = 0) (off := 7) (t := 66) (by decide +kernel : decode m_C_lay.2.1 59 = .ok ((.ifCond .eq 7), 3)) rfl rfl rfl rfl (fun c50 => ?_) (fun c50 => ?_)
        · skip
          exact o_C_lay_p66 x0 none r48.1
        · skip
          refine ok_seg (L := [((.iconst 1), 1)]) (pc' := 63) (ls' := [some (.ref x0), none]) (st' := [.int 1]) (w' := r48.1) (by decide +kernel) rfl ?_
          refine ok_goto (t := 67) (by decide +kernel : decode m_C_lay.2.1 63 = .ok ((.goto 4), 3)) rfl ?_
          exact o_C_lay_p67 x0 1 none r48.1
-- m_C_liesApart
def f_C_liesApart_p101 (k13 : Nat → Int32 → Int32 → Int32 → Int32 → am_W → Option (am_W × Int32)) (k22 : Nat → Int32 → Int32 → Int32 → Int32 → Int32 → am_W → Option (am_W × Int32)) (x0 : Nat) (x1 : Int32) (x2 : Int32) (x3 : Int32) (x4 : Int32) (x5 : Int32) (w : am_W) : Option (am_W × Int32) := (k22 x0 x1 x2 x3 x4 (x5 + 1) w)
def f_C_liesApart_p84 (k13 : Nat → Int32 → Int32 → Int32 → Int32 → am_W → Option (am_W × Int32)) (k22 : Nat → Int32 → Int32 → Int32 → Int32 → Int32 → am_W → Option (am_W × Int32)) (x0 : Nat) (x1 : Int32) (x2 : Int32) (x3 : Int32) (x4 : Int32) (x5 : Int32) (s0 : Int32) (s1 : Int32) (w : am_W) : Option (am_W × Int32) := (if (x3 &&& (s0 <<< (s1 &&& 31))) = 0 then (f_C_liesApart_p101 k13 k22 x0 x1 x2 (x3 ||| (s0 <<< (s1 &&& 31))) x4 x5 w) else (some (w, 0)))
def f_C_liesApart_p22 (k13 : Nat → Int32 → Int32 → Int32 → Int32 → am_W → Option (am_W × Int32)) : Nat → Nat → Int32 → Int32 → Int32 → Int32 → Int32 → am_W → Option (am_W × Int32)
  | 0, _, _, _, _, _, _, _ => none
  | n + 1, x0, x1, x2, x3, x4, x5, w => (if x2 ≤ x5 then (k13 x0 x1 x2 x3 (x4 + 1) w) else (if x4 = x5 then (f_C_liesApart_p101 k13 (f_C_liesApart_p22 k13 n) x0 x1 x2 x3 x4 x5 w) else ((am_gr w x0 0 0).bind fun v4 => ((f_T_byteAt (v4) (x4) w).bind fun r6 => (if ¬ r6.2 = x1 then (f_C_liesApart_p101 k13 (f_C_liesApart_p22 k13 n) x0 x1 x2 x3 x4 x5 r6.1) else ((am_gr r6.1 x0 0 0).bind fun v9 => ((f_T_byteAt (v9) (x5) r6.1).bind fun r11 => (if ¬ r11.2 = x1 then (f_C_liesApart_p101 k13 (f_C_liesApart_p22 k13 n) x0 x1 x2 x3 x4 x5 r11.1) else (if x4 < x5 then (f_C_liesApart_p84 k13 (f_C_liesApart_p22 k13 n) x0 x1 x2 x3 x4 x5 1 ((x4 - x5) + x2) r11.1) else (f_C_liesApart_p84 k13 (f_C_liesApart_p22 k13 n) x0 x1 x2 x3 x4 x5 1 (x4 - x5) r11.1))))))))))
def f_C_liesApart_p13 : Nat → Nat → Int32 → Int32 → Int32 → Int32 → am_W → Option (am_W × Int32)
  | 0, _, _, _, _, _, _ => none
  | n + 1, x0, x1, x2, x3, x4, w => (if x2 ≤ x4 then (some (w, 1)) else (f_C_liesApart_p22 (f_C_liesApart_p13 n) am_N x0 x1 x2 x3 x4 0 w))
def e_C_liesApart (x0 : Nat) (x1 : Int32) (w : am_W) : Option (am_W × Int32) := ((am_gr w x0 0 0).bind fun v16 => ((f_T_length (v16) w).bind fun r18 => (f_C_liesApart_p13 am_N x0 x1 r18.2 0 0 r18.1)))
def f_C_liesApart (x0 : Nat) (x1 : Int32) (w : am_W) : Option (am_W × Int32) := am_self w x0 0 (e_C_liesApart x0 x1 w)
theorem o_C_liesApart_p101 {d : Nat} {k13 : Nat → Int32 → Int32 → Int32 → Int32 → am_W → Option (am_W × Int32)} {k22 : Nat → Int32 → Int32 → Int32 → Int32 → Int32 → am_W → Option (am_W × Int32)} (hk13 : ∀ (x0 : Nat) (x1 : Int32) (x2 : Int32) (x3 : Int32) (x4 : Int32) (y5 y6 : Option Value) (w : am_W), am_Ok am_ji (d + 1) m_C_liesApart 13 [some (.ref x0), some (.int x1), some (.int x2), some (.int x3), some (.int x4), y5, y6] [] w (k13 x0 x1 x2 x3 x4 w)) (hk22 : ∀ (x0 : Nat) (x1 : Int32) (x2 : Int32) (x3 : Int32) (x4 : Int32) (x5 : Int32) (y6 : Option Value) (w : am_W), am_Ok am_ji (d + 1) m_C_liesApart 22 [some (.ref x0), some (.int x1), some (.int x2), some (.int x3), some (.int x4), some (.int x5), y6] [] w (k22 x0 x1 x2 x3 x4 x5 w)) (x0 : Nat) (x1 : Int32) (x2 : Int32) (x3 : Int32) (x4 : Int32) (x5 : Int32) (y6 : Option Value) (w : am_W) : am_Ok am_ji (d + 1) m_C_liesApart 101 [some (.ref x0), some (.int x1), some (.int x2), some (.int x3), some (.int x4), some (.int x5), y6] [] w (f_C_liesApart_p101 k13 k22 x0 x1 x2 x3 x4 x5 w) := by
  unfold f_C_liesApart_p101
  refine ok_seg (L := [((.iinc 5 1), 3)]) (pc' := 104) (ls' := [some (.ref x0), some (.int x1), some (.int x2), some (.int x3), some (.int x4), some (.int (x5 + 1)), y6]) (st' := []) (w' := w) (by decide +kernel) rfl ?_
  refine ok_goto (t := 22) (by decide +kernel : decode m_C_liesApart.2.1 104 = .ok ((.goto (-82)), 3)) rfl ?_
  exact hk22 x0 x1 x2 x3 x4 (x5 + 1) y6 w
theorem o_C_liesApart_p84 {d : Nat} {k13 : Nat → Int32 → Int32 → Int32 → Int32 → am_W → Option (am_W × Int32)} {k22 : Nat → Int32 → Int32 → Int32 → Int32 → Int32 → am_W → Option (am_W × Int32)} (hk13 : ∀ (x0 : Nat) (x1 : Int32) (x2 : Int32) (x3 : Int32) (x4 : Int32) (y5 y6 : Option Value) (w : am_W), am_Ok am_ji (d + 1) m_C_liesApart 13 [some (.ref x0), some (.int x1), some (.int x2), some (.int x3), some (.int x4), y5, y6] [] w (k13 x0 x1 x2 x3 x4 w)) (hk22 : ∀ (x0 : Nat) (x1 : Int32) (x2 : Int32) (x3 : Int32) (x4 : Int32) (x5 : Int32) (y6 : Option Value) (w : am_W), am_Ok am_ji (d + 1) m_C_liesApart 22 [some (.ref x0), some (.int x1), some (.int x2), some (.int x3), some (.int x4), some (.int x5), y6] [] w (k22 x0 x1 x2 x3 x4 x5 w)) (x0 : Nat) (x1 : Int32) (x2 : Int32) (x3 : Int32) (x4 : Int32) (x5 : Int32) (s0 : Int32) (s1 : Int32) (y6 : Option Value) (w : am_W) : am_Ok am_ji (d + 1) m_C_liesApart 84 [some (.ref x0), some (.int x1), some (.int x2), some (.int x3), some (.int x4), some (.int x5), y6] [.int s1, .int s0] w (f_C_liesApart_p84 k13 k22 x0 x1 x2 x3 x4 x5 s0 s1 w) := by
  unfold f_C_liesApart_p84
  refine ok_seg (L := [(.ishl, 1), ((.istore 6), 2), ((.iload_n 3), 1), ((.iload 6), 2), (.iand, 1)]) (pc' := 91) (ls' := [some (.ref x0), some (.int x1), some (.int x2), some (.int x3), some (.int x4), some (.int x5), some (.int (s0 <<< (s1 &&& 31)))]) (st' := [.int (x3 &&& (s0 <<< (s1 &&& 31)))]) (w' := w) (by decide +kernel) rfl ?_
  refine ok_br (P := (x3 &&& (s0 <<< (s1 &&& 31))) = 0) (off := 5) (t := 96) (by decide +kernel : decode m_C_liesApart.2.1 91 = .ok ((.ifCond .eq 5), 3)) rfl rfl rfl rfl (fun c1 => ?_) (fun c1 => ?_)
  · skip
    refine ok_seg (L := [((.iload_n 3), 1), ((.iload 6), 2), (.ior, 1), ((.istore_n 3), 1)]) (pc' := 101) (ls' := [some (.ref x0), some (.int x1), some (.int x2), some (.int (x3 ||| (s0 <<< (s1 &&& 31)))), some (.int x4), some (.int x5), some (.int (s0 <<< (s1 &&& 31)))]) (st' := []) (w' := w) (by decide +kernel) rfl ?_
    exact o_C_liesApart_p101 hk13 hk22 x0 x1 x2 (x3 ||| (s0 <<< (s1 &&& 31))) x4 x5 (some (.int (s0 <<< (s1 &&& 31)))) w
  · skip
    refine ok_seg (L := [((.iconst 0), 1)]) (pc' := 95) (ls' := [some (.ref x0), some (.int x1), some (.int x2), some (.int x3), some (.int x4), some (.int x5), some (.int (s0 <<< (s1 &&& 31)))]) (st' := [.int 0]) (w' := w) (by decide +kernel) rfl ?_
    exact ok_ret (v := 0) (by decide +kernel : decode m_C_liesApart.2.1 95 = .ok (.ireturn, 1)) rfl
theorem o_C_liesApart_p22 {d : Nat} {k13 : Nat → Int32 → Int32 → Int32 → Int32 → am_W → Option (am_W × Int32)} (hk13 : ∀ (x0 : Nat) (x1 : Int32) (x2 : Int32) (x3 : Int32) (x4 : Int32) (y5 y6 : Option Value) (w : am_W), am_Ok am_ji (d + 1) m_C_liesApart 13 [some (.ref x0), some (.int x1), some (.int x2), some (.int x3), some (.int x4), y5, y6] [] w (k13 x0 x1 x2 x3 x4 w)) : ∀ (n : Nat) (x0 : Nat) (x1 : Int32) (x2 : Int32) (x3 : Int32) (x4 : Int32) (x5 : Int32) (y6 : Option Value) (w : am_W), am_Ok am_ji (d + 1) m_C_liesApart 22 [some (.ref x0), some (.int x1), some (.int x2), some (.int x3), some (.int x4), some (.int x5), y6] [] w (f_C_liesApart_p22 k13 n x0 x1 x2 x3 x4 x5 w) := by
  intro n
  induction n with
  | zero => intros; exact ok_none
  | succ n ih =>
    intro x0 x1 x2 x3 x4 x5 y6 w
    unfold f_C_liesApart_p22
    refine ok_seg (L := [((.iload 5), 2), ((.iload_n 2), 1)]) (pc' := 25) (ls' := [some (.ref x0), some (.int x1), some (.int x2), some (.int x3), some (.int x4), some (.int x5), y6]) (st' := [.int x2, .int x5]) (w' := w) (by decide +kernel) rfl ?_
    refine ok_br (P := x2 ≤ x5) (off := 82) (t := 107) (by decide +kernel : decode m_C_liesApart.2.1 25 = .ok ((.if_icmp .ge 82), 3)) rfl rfl rfl rfl (fun c2 => ?_) (fun c2 => ?_)
    · skip
      refine ok_seg (L := [((.iinc 4 1), 3)]) (pc' := 110) (ls' := [some (.ref x0), some (.int x1), some (.int x2), some (.int x3), some (.int (x4 + 1)), some (.int x5), y6]) (st' := []) (w' := w) (by decide +kernel) rfl ?_
      refine ok_goto (t := 13) (by decide +kernel : decode m_C_liesApart.2.1 110 = .ok ((.goto (-97)), 3)) rfl ?_
      exact hk13 x0 x1 x2 x3 (x4 + 1) (some (.int x5)) y6 w
    · skip
      refine ok_seg (L := [((.iload 4), 2), ((.iload 5), 2)]) (pc' := 32) (ls' := [some (.ref x0), some (.int x1), some (.int x2), some (.int x3), some (.int x4), some (.int x5), y6]) (st' := [.int x5, .int x4]) (w' := w) (by decide +kernel) rfl ?_
      refine ok_br (P := x4 = x5) (off := 69) (t := 101) (by decide +kernel : decode m_C_liesApart.2.1 32 = .ok ((.if_icmp .eq 69), 3)) rfl rfl rfl rfl (fun c3 => ?_) (fun c3 => ?_)
      · skip
        exact o_C_liesApart_p101 hk13 ih x0 x1 x2 x3 x4 x5 y6 w
      · skip
        refine ok_seg (L := [((.aload_n 0), 1)]) (pc' := 36) (ls' := [some (.ref x0), some (.int x1), some (.int x2), some (.int x3), some (.int x4), some (.int x5), y6]) (st' := [.ref x0]) (w' := w) (by decide +kernel) rfl ?_
        refine ok_gr (by decide +kernel : decode m_C_liesApart.2.1 36 = .ok ((.getfield 10), 3)) rfl (by decide) (fun v4 h5 => ?_)
        refine ok_seg (L := [((.iload 4), 2)]) (pc' := 41) (ls' := [some (.ref x0), some (.int x1), some (.int x2), some (.int x3), some (.int x4), some (.int x5), y6]) (st' := [.int x4, .ref v4]) (w' := w) (by decide +kernel) rfl ?_
        refine ok_call0 (inj' := am_ji) (by decide +kernel : decode m_C_liesApart.2.1 41 = .ok ((.invokevirtual 259), 3)) rfl (fun q hq => am_iv0 (am_self_eq hq).1 rfl rfl rfl) (o_T_byteAt (d + 0) (v4) (x4) w) (fun _ _ => rfl) (fun r6 h7 => ?_)
        refine ok_seg (L := [((.iload_n 1), 1)]) (pc' := 45) (ls' := [some (.ref x0), some (.int x1), some (.int x2), some (.int x3), some (.int x4), some (.int x5), y6]) (st' := [.int x1, .int r6.2]) (w' := r6.1) (by decide +kernel) rfl ?_
        refine ok_br (P := ¬ r6.2 = x1) (off := 56) (t := 101) (by decide +kernel : decode m_C_liesApart.2.1 45 = .ok ((.if_icmp .ne 56), 3)) rfl rfl rfl rfl (fun c8 => ?_) (fun c8 => ?_)
        · skip
          exact o_C_liesApart_p101 hk13 ih x0 x1 x2 x3 x4 x5 y6 r6.1
        · skip
          refine ok_seg (L := [((.aload_n 0), 1)]) (pc' := 49) (ls' := [some (.ref x0), some (.int x1), some (.int x2), some (.int x3), some (.int x4), some (.int x5), y6]) (st' := [.ref x0]) (w' := r6.1) (by decide +kernel) rfl ?_
          refine ok_gr (by decide +kernel : decode m_C_liesApart.2.1 49 = .ok ((.getfield 10), 3)) rfl (by decide) (fun v9 h10 => ?_)
          refine ok_seg (L := [((.iload 5), 2)]) (pc' := 54) (ls' := [some (.ref x0), some (.int x1), some (.int x2), some (.int x3), some (.int x4), some (.int x5), y6]) (st' := [.int x5, .ref v9]) (w' := r6.1) (by decide +kernel) rfl ?_
          refine ok_call0 (inj' := am_ji) (by decide +kernel : decode m_C_liesApart.2.1 54 = .ok ((.invokevirtual 259), 3)) rfl (fun q hq => am_iv0 (am_self_eq hq).1 rfl rfl rfl) (o_T_byteAt (d + 0) (v9) (x5) r6.1) (fun _ _ => rfl) (fun r11 h12 => ?_)
          refine ok_seg (L := [((.iload_n 1), 1)]) (pc' := 58) (ls' := [some (.ref x0), some (.int x1), some (.int x2), some (.int x3), some (.int x4), some (.int x5), y6]) (st' := [.int x1, .int r11.2]) (w' := r11.1) (by decide +kernel) rfl ?_
          refine ok_br (P := ¬ r11.2 = x1) (off := 43) (t := 101) (by decide +kernel : decode m_C_liesApart.2.1 58 = .ok ((.if_icmp .ne 43), 3)) rfl rfl rfl rfl (fun c13 => ?_) (fun c13 => ?_)
          · skip
            exact o_C_liesApart_p101 hk13 ih x0 x1 x2 x3 x4 x5 y6 r11.1
          · skip
            refine ok_seg (L := [((.iconst 1), 1), ((.iload 4), 2), ((.iload 5), 2)]) (pc' := 66) (ls' := [some (.ref x0), some (.int x1), some (.int x2), some (.int x3), some (.int x4), some (.int x5), y6]) (st' := [.int x5, .int x4, .int 1]) (w' := r11.1) (by decide +kernel) rfl ?_
            refine ok_br (P := x4 < x5) (off := 11) (t := 77) (by decide +kernel : decode m_C_liesApart.2.1 66 = .ok ((.if_icmp .lt 11), 3)) rfl rfl rfl rfl (fun c14 => ?_) (fun c14 => ?_)
            · skip
              refine ok_seg (L := [((.iload 4), 2), ((.iload 5), 2), (.isub, 1), ((.iload_n 2), 1), (.iadd, 1)]) (pc' := 84) (ls' := [some (.ref x0), some (.int x1), some (.int x2), some (.int x3), some (.int x4), some (.int x5), y6]) (st' := [.int ((x4 - x5) + x2), .int 1]) (w' := r11.1) (by decide +kernel) rfl ?_
              exact o_C_liesApart_p84 hk13 ih x0 x1 x2 x3 x4 x5 1 ((x4 - x5) + x2) y6 r11.1
            · skip
              refine ok_seg (L := [((.iload 4), 2), ((.iload 5), 2), (.isub, 1)]) (pc' := 74) (ls' := [some (.ref x0), some (.int x1), some (.int x2), some (.int x3), some (.int x4), some (.int x5), y6]) (st' := [.int (x4 - x5), .int 1]) (w' := r11.1) (by decide +kernel) rfl ?_
              refine ok_goto (t := 84) (by decide +kernel : decode m_C_liesApart.2.1 74 = .ok ((.goto 10), 3)) rfl ?_
              exact o_C_liesApart_p84 hk13 ih x0 x1 x2 x3 x4 x5 1 (x4 - x5) y6 r11.1
theorem o_C_liesApart_p13 {d : Nat} : ∀ (n : Nat) (x0 : Nat) (x1 : Int32) (x2 : Int32) (x3 : Int32) (x4 : Int32) (y5 y6 : Option Value) (w : am_W), am_Ok am_ji (d + 1) m_C_liesApart 13 [some (.ref x0), some (.int x1), some (.int x2), some (.int x3), some (.int x4), y5, y6] [] w (f_C_liesApart_p13 n x0 x1 x2 x3 x4 w) := by
  intro n
  induction n with
  | zero => intros; exact ok_none
  | succ n ih =>
    intro x0 x1 x2 x3 x4 y5 y6 w
    unfold f_C_liesApart_p13
    refine ok_seg (L := [((.iload 4), 2), ((.iload_n 2), 1)]) (pc' := 16) (ls' := [some (.ref x0), some (.int x1), some (.int x2), some (.int x3), some (.int x4), y5, y6]) (st' := [.int x2, .int x4]) (w' := w) (by decide +kernel) rfl ?_
    refine ok_br (P := x2 ≤ x4) (off := 97) (t := 113) (by decide +kernel : decode m_C_liesApart.2.1 16 = .ok ((.if_icmp .ge 97), 3)) rfl rfl rfl rfl (fun c15 => ?_) (fun c15 => ?_)
    · skip
      refine ok_seg (L := [((.iconst 1), 1)]) (pc' := 114) (ls' := [some (.ref x0), some (.int x1), some (.int x2), some (.int x3), some (.int x4), y5, y6]) (st' := [.int 1]) (w' := w) (by decide +kernel) rfl ?_
      exact ok_ret (v := 1) (by decide +kernel : decode m_C_liesApart.2.1 114 = .ok (.ireturn, 1)) rfl
    · skip
      refine ok_seg (L := [((.iconst 0), 1), ((.istore 5), 2)]) (pc' := 22) (ls' := [some (.ref x0), some (.int x1), some (.int x2), some (.int x3), some (.int x4), some (.int 0), y6]) (st' := []) (w' := w) (by decide +kernel) rfl ?_
      exact o_C_liesApart_p22 ih am_N x0 x1 x2 x3 x4 0 y6 w
theorem o_C_liesApart (d : Nat) (x0 : Nat) (x1 : Int32) (w : am_W) : am_Ok am_ji (d + 1) m_C_liesApart 0 (am_en m_C_liesApart [.ref x0, .int x1]) [] w (f_C_liesApart x0 x1 w) := by
  show am_Ok _ _ _ 0 [some (.ref x0), some (.int x1), none, none, none, none, none] [] w _
  unfold f_C_liesApart
  refine ok_self ?_
  unfold e_C_liesApart
  refine ok_seg (L := [((.aload_n 0), 1)]) (pc' := 1) (ls' := [some (.ref x0), some (.int x1), none, none, none, none, none]) (st' := [.ref x0]) (w' := w) (by decide +kernel) rfl ?_
  refine ok_gr (by decide +kernel : decode m_C_liesApart.2.1 1 = .ok ((.getfield 10), 3)) rfl (by decide) (fun v16 h17 => ?_)
  refine ok_call0 (inj' := am_ji) (by decide +kernel : decode m_C_liesApart.2.1 4 = .ok ((.invokevirtual 60), 3)) rfl (fun q hq => am_iv0 (am_self_eq hq).1 rfl rfl rfl) (o_T_length (d + 0) (v16) w) (fun _ _ => rfl) (fun r18 h19 => ?_)
  refine ok_seg (L := [((.istore_n 2), 1), ((.iconst 0), 1), ((.istore_n 3), 1), ((.iconst 0), 1), ((.istore 4), 2)]) (pc' := 13) (ls' := [some (.ref x0), some (.int x1), some (.int r18.2), some (.int 0), some (.int 0), none, none]) (st' := []) (w' := r18.1) (by decide +kernel) rfl ?_
  exact o_C_liesApart_p13 am_N x0 x1 r18.2 0 0 none none r18.1
-- m_C_apart
def f_C_apart_p94 (s0 : Int32) (w : am_W) : Option (am_W × Int32) := (some (w, s0))
def f_C_apart_p76 (x0 : Nat) (x1 : Int32) (x2 : Int32) (w : am_W) : Option (am_W × Int32) := ((am_gr w x0 0 0).bind fun v1 => ((f_T_cut (v1) (0) w).bind fun r3 => (if x1 = 0 then (f_C_apart_p94 (-1) r3.1) else (f_C_apart_p94 x2 r3.1))))
def f_C_apart_p70 (k45 : Nat → Int32 → Int32 → Int32 → am_W → Option (am_W × Int32)) (x0 : Nat) (x1 : Int32) (x2 : Int32) (x3 : Int32) (w : am_W) : Option (am_W × Int32) := (k45 x0 x1 x2 (x3 + 1) w)
def f_C_apart_p45 : Nat → Nat → Int32 → Int32 → Int32 → am_W → Option (am_W × Int32)
  | 0, _, _, _, _, _ => none
  | n + 1, x0, x1, x2, x3, w => (if x1 = 0 then (f_C_apart_p76 x0 x1 x2 w) else (if 4 < x3 then (f_C_apart_p76 x0 x1 x2 w) else ((f_C_liesApart (x0) (x3) w).bind fun r8 => (if r8.2 = 0 then (f_C_apart_p70 (f_C_apart_p45 n) x0 x1 x2 x3 r8.1) else (f_C_apart_p70 (f_C_apart_p45 n) x0 x1 (x2 ||| (1 <<< ((x3 - 1) &&& 31))) x3 r8.1)))))
def f_C_apart_p40 (x0 : Nat) (s0 : Int32) (w : am_W) : Option (am_W × Int32) := (f_C_apart_p45 am_N x0 s0 0 1 w)
def f_C_apart_p39 (x0 : Nat) (w : am_W) : Option (am_W × Int32) := (f_C_apart_p40 x0 0 w)
def e_C_apart (x0 : Nat) (w : am_W) : Option (am_W × Int32) := ((am_gr w x0 0 0).bind fun v11 => ((f_T_length (v11) w).bind fun r13 => (if r13.2 < 1 then (f_C_apart_p39 x0 r13.1) else ((am_gr r13.1 x0 0 0).bind fun v16 => ((f_T_length (v16) r13.1).bind fun r18 => (if 20 < r18.2 then (f_C_apart_p39 x0 r18.1) else ((am_gr r18.1 x0 0 0).bind fun v21 => ((f_T_holdsOnly (v21) (1) (4) r18.1).bind fun r23 => (if r23.2 = 0 then (f_C_apart_p39 x0 r23.1) else (f_C_apart_p40 x0 1 r23.1))))))))))
def f_C_apart (x0 : Nat) (w : am_W) : Option (am_W × Int32) := am_self w x0 0 (e_C_apart x0 w)
theorem o_C_apart_p94 {d : Nat} (s0 : Int32) (y0 y1 y2 y3 : Option Value) (w : am_W) : am_Ok am_ji (d + 2) m_C_apart 94 [y0, y1, y2, y3] [.int s0] w (f_C_apart_p94 s0 w) := by
  unfold f_C_apart_p94
  exact ok_ret (v := s0) (by decide +kernel : decode m_C_apart.2.1 94 = .ok (.ireturn, 1)) rfl
theorem o_C_apart_p76 {d : Nat} (x0 : Nat) (x1 : Int32) (x2 : Int32) (y3 : Option Value) (w : am_W) : am_Ok am_ji (d + 2) m_C_apart 76 [some (.ref x0), some (.int x1), some (.int x2), y3] [] w (f_C_apart_p76 x0 x1 x2 w) := by
  unfold f_C_apart_p76
  refine ok_seg (L := [((.aload_n 0), 1)]) (pc' := 77) (ls' := [some (.ref x0), some (.int x1), some (.int x2), y3]) (st' := [.ref x0]) (w' := w) (by decide +kernel) rfl ?_
  refine ok_gr (by decide +kernel : decode m_C_apart.2.1 77 = .ok ((.getfield 10), 3)) rfl (by decide) (fun v1 h2 => ?_)
  refine ok_seg (L := [((.iconst 0), 1)]) (pc' := 81) (ls' := [some (.ref x0), some (.int x1), some (.int x2), y3]) (st' := [.int 0, .ref v1]) (w' := w) (by decide +kernel) rfl ?_
  refine ok_call0 (inj' := am_ji) (by decide +kernel : decode m_C_apart.2.1 81 = .ok ((.invokevirtual 67), 3)) rfl (fun q hq => am_iv0 (am_self_eq hq).1 rfl rfl rfl) (o_T_cut (d + 1) (v1) (0) w) (fun _ _ => rfl) (fun r3 h4 => ?_)
  refine ok_seg (L := [(.pop, 1), ((.iload_n 1), 1)]) (pc' := 86) (ls' := [some (.ref x0), some (.int x1), some (.int x2), y3]) (st' := [.int x1]) (w' := r3.1) (by decide +kernel) rfl ?_
  refine ok_br (P := x1 = 0) (off := 7) (t := 93) (by decide +kernel : decode m_C_apart.2.1 86 = .ok ((.ifCond .eq 7), 3)) rfl rfl rfl rfl (fun c5 => ?_) (fun c5 => ?_)
  · skip
    refine ok_seg (L := [((.iconst (-1)), 1)]) (pc' := 94) (ls' := [some (.ref x0), some (.int x1), some (.int x2), y3]) (st' := [.int (-1)]) (w' := r3.1) (by decide +kernel) rfl ?_
    exact o_C_apart_p94 (-1) (some (.ref x0)) (some (.int x1)) (some (.int x2)) y3 r3.1
  · skip
    refine ok_seg (L := [((.iload_n 2), 1)]) (pc' := 90) (ls' := [some (.ref x0), some (.int x1), some (.int x2), y3]) (st' := [.int x2]) (w' := r3.1) (by decide +kernel) rfl ?_
    refine ok_goto (t := 94) (by decide +kernel : decode m_C_apart.2.1 90 = .ok ((.goto 4), 3)) rfl ?_
    exact o_C_apart_p94 x2 (some (.ref x0)) (some (.int x1)) (some (.int x2)) y3 r3.1
theorem o_C_apart_p70 {d : Nat} {k45 : Nat → Int32 → Int32 → Int32 → am_W → Option (am_W × Int32)} (hk45 : ∀ (x0 : Nat) (x1 : Int32) (x2 : Int32) (x3 : Int32) (w : am_W), am_Ok am_ji (d + 2) m_C_apart 45 [some (.ref x0), some (.int x1), some (.int x2), some (.int x3)] [] w (k45 x0 x1 x2 x3 w)) (x0 : Nat) (x1 : Int32) (x2 : Int32) (x3 : Int32) (w : am_W) : am_Ok am_ji (d + 2) m_C_apart 70 [some (.ref x0), some (.int x1), some (.int x2), some (.int x3)] [] w (f_C_apart_p70 k45 x0 x1 x2 x3 w) := by
  unfold f_C_apart_p70
  refine ok_seg (L := [((.iinc 3 1), 3)]) (pc' := 73) (ls' := [some (.ref x0), some (.int x1), some (.int x2), some (.int (x3 + 1))]) (st' := []) (w' := w) (by decide +kernel) rfl ?_
  refine ok_goto (t := 45) (by decide +kernel : decode m_C_apart.2.1 73 = .ok ((.goto (-28)), 3)) rfl ?_
  exact hk45 x0 x1 x2 (x3 + 1) w
theorem o_C_apart_p45 {d : Nat} : ∀ (n : Nat) (x0 : Nat) (x1 : Int32) (x2 : Int32) (x3 : Int32) (w : am_W), am_Ok am_ji (d + 2) m_C_apart 45 [some (.ref x0), some (.int x1), some (.int x2), some (.int x3)] [] w (f_C_apart_p45 n x0 x1 x2 x3 w) := by
  intro n
  induction n with
  | zero => intros; exact ok_none
  | succ n ih =>
    intro x0 x1 x2 x3 w
    unfold f_C_apart_p45
    refine ok_seg (L := [((.iload_n 1), 1)]) (pc' := 46) (ls' := [some (.ref x0), some (.int x1), some (.int x2), some (.int x3)]) (st' := [.int x1]) (w' := w) (by decide +kernel) rfl ?_
    refine ok_br (P := x1 = 0) (off := 30) (t := 76) (by decide +kernel : decode m_C_apart.2.1 46 = .ok ((.ifCond .eq 30), 3)) rfl rfl rfl rfl (fun c6 => ?_) (fun c6 => ?_)
    · skip
      exact o_C_apart_p76 x0 x1 x2 (some (.int x3)) w
    · skip
      refine ok_seg (L := [((.iload_n 3), 1), ((.iconst 4), 1)]) (pc' := 51) (ls' := [some (.ref x0), some (.int x1), some (.int x2), some (.int x3)]) (st' := [.int 4, .int x3]) (w' := w) (by decide +kernel) rfl ?_
      refine ok_br (P := 4 < x3) (off := 25) (t := 76) (by decide +kernel : decode m_C_apart.2.1 51 = .ok ((.if_icmp .gt 25), 3)) rfl rfl rfl rfl (fun c7 => ?_) (fun c7 => ?_)
      · skip
        exact o_C_apart_p76 x0 x1 x2 (some (.int x3)) w
      · skip
        refine ok_seg (L := [((.aload_n 0), 1), ((.iload_n 3), 1)]) (pc' := 56) (ls' := [some (.ref x0), some (.int x1), some (.int x2), some (.int x3)]) (st' := [.int x3, .ref x0]) (w' := w) (by decide +kernel) rfl ?_
        refine ok_call0 (inj' := am_ji) (by decide +kernel : decode m_C_apart.2.1 56 = .ok ((.invokevirtual 203), 3)) rfl (fun q hq => am_iv0 (am_self_eq hq).1 rfl rfl rfl) (o_C_liesApart (d + 0) (x0) (x3) w) (fun _ _ => rfl) (fun r8 h9 => ?_)
        refine ok_br (P := r8.2 = 0) (off := 11) (t := 70) (by decide +kernel : decode m_C_apart.2.1 59 = .ok ((.ifCond .eq 11), 3)) rfl rfl rfl rfl (fun c10 => ?_) (fun c10 => ?_)
        · skip
          exact o_C_apart_p70 ih x0 x1 x2 x3 r8.1
        · skip
          refine ok_seg (L := [((.iload_n 2), 1), ((.iconst 1), 1), ((.iload_n 3), 1), ((.iconst 1), 1), (.isub, 1), (.ishl, 1), (.ior, 1), ((.istore_n 2), 1)]) (pc' := 70) (ls' := [some (.ref x0), some (.int x1), some (.int (x2 ||| (1 <<< ((x3 - 1) &&& 31)))), some (.int x3)]) (st' := []) (w' := r8.1) (by decide +kernel) rfl ?_
          exact o_C_apart_p70 ih x0 x1 (x2 ||| (1 <<< ((x3 - 1) &&& 31))) x3 r8.1
theorem o_C_apart_p40 {d : Nat} (x0 : Nat) (s0 : Int32) (y1 y2 y3 : Option Value) (w : am_W) : am_Ok am_ji (d + 2) m_C_apart 40 [some (.ref x0), y1, y2, y3] [.int s0] w (f_C_apart_p40 x0 s0 w) := by
  unfold f_C_apart_p40
  refine ok_seg (L := [((.istore_n 1), 1), ((.iconst 0), 1), ((.istore_n 2), 1), ((.iconst 1), 1), ((.istore_n 3), 1)]) (pc' := 45) (ls' := [some (.ref x0), some (.int s0), some (.int 0), some (.int 1)]) (st' := []) (w' := w) (by decide +kernel) rfl ?_
  exact o_C_apart_p45 am_N x0 s0 0 1 w
theorem o_C_apart_p39 {d : Nat} (x0 : Nat) (y1 y2 y3 : Option Value) (w : am_W) : am_Ok am_ji (d + 2) m_C_apart 39 [some (.ref x0), y1, y2, y3] [] w (f_C_apart_p39 x0 w) := by
  unfold f_C_apart_p39
  refine ok_seg (L := [((.iconst 0), 1)]) (pc' := 40) (ls' := [some (.ref x0), y1, y2, y3]) (st' := [.int 0]) (w' := w) (by decide +kernel) rfl ?_
  exact o_C_apart_p40 x0 0 y1 y2 y3 w
theorem o_C_apart (d : Nat) (x0 : Nat) (w : am_W) : am_Ok am_ji (d + 2) m_C_apart 0 (am_en m_C_apart [.ref x0]) [] w (f_C_apart x0 w) := by
  show am_Ok _ _ _ 0 [some (.ref x0), none, none, none] [] w _
  unfold f_C_apart
  refine ok_self ?_
  unfold e_C_apart
  refine ok_seg (L := [((.aload_n 0), 1)]) (pc' := 1) (ls' := [some (.ref x0), none, none, none]) (st' := [.ref x0]) (w' := w) (by decide +kernel) rfl ?_
  refine ok_gr (by decide +kernel : decode m_C_apart.2.1 1 = .ok ((.getfield 10), 3)) rfl (by decide) (fun v11 h12 => ?_)
  refine ok_call0 (inj' := am_ji) (by decide +kernel : decode m_C_apart.2.1 4 = .ok ((.invokevirtual 60), 3)) rfl (fun q hq => am_iv0 (am_self_eq hq).1 rfl rfl rfl) (o_T_length (d + 1) (v11) w) (fun _ _ => rfl) (fun r13 h14 => ?_)
  refine ok_seg (L := [((.iconst 1), 1)]) (pc' := 8) (ls' := [some (.ref x0), none, none, none]) (st' := [.int 1, .int r13.2]) (w' := r13.1) (by decide +kernel) rfl ?_
  refine ok_br (P := r13.2 < 1) (off := 31) (t := 39) (by decide +kernel : decode m_C_apart.2.1 8 = .ok ((.if_icmp .lt 31), 3)) rfl rfl rfl rfl (fun c15 => ?_) (fun c15 => ?_)
  · skip
    exact o_C_apart_p39 x0 none none none r13.1
  · skip
    refine ok_seg (L := [((.aload_n 0), 1)]) (pc' := 12) (ls' := [some (.ref x0), none, none, none]) (st' := [.ref x0]) (w' := r13.1) (by decide +kernel) rfl ?_
    refine ok_gr (by decide +kernel : decode m_C_apart.2.1 12 = .ok ((.getfield 10), 3)) rfl (by decide) (fun v16 h17 => ?_)
    refine ok_call0 (inj' := am_ji) (by decide +kernel : decode m_C_apart.2.1 15 = .ok ((.invokevirtual 60), 3)) rfl (fun q hq => am_iv0 (am_self_eq hq).1 rfl rfl rfl) (o_T_length (d + 1) (v16) r13.1) (fun _ _ => rfl) (fun r18 h19 => ?_)
    refine ok_seg (L := [((.bipush 20), 2)]) (pc' := 20) (ls' := [some (.ref x0), none, none, none]) (st' := [.int 20, .int r18.2]) (w' := r18.1) (by decide +kernel) rfl ?_
    refine ok_br (P := 20 < r18.2) (off := 19) (t := 39) (by decide +kernel : decode m_C_apart.2.1 20 = .ok ((.if_icmp .gt 19), 3)) rfl rfl rfl rfl (fun c20 => ?_) (fun c20 => ?_)
    · skip
      exact o_C_apart_p39 x0 none none none r18.1
    · skip
      refine ok_seg (L := [((.aload_n 0), 1)]) (pc' := 24) (ls' := [some (.ref x0), none, none, none]) (st' := [.ref x0]) (w' := r18.1) (by decide +kernel) rfl ?_
      refine ok_gr (by decide +kernel : decode m_C_apart.2.1 24 = .ok ((.getfield 10), 3)) rfl (by decide) (fun v21 h22 => ?_)
      refine ok_seg (L := [((.iconst 1), 1), ((.iconst 4), 1)]) (pc' := 29) (ls' := [some (.ref x0), none, none, none]) (st' := [.int 4, .int 1, .ref v21]) (w' := r18.1) (by decide +kernel) rfl ?_
      refine ok_call0 (inj' := am_ji) (by decide +kernel : decode m_C_apart.2.1 29 = .ok ((.invokevirtual 197), 3)) rfl (fun q hq => am_iv0 (am_self_eq hq).1 rfl rfl rfl) (o_T_holdsOnly (d + 0) (v21) (1) (4) r18.1) (fun _ _ => rfl) (fun r23 h24 => ?_)
      refine ok_br (P := r23.2 = 0) (off := 7) (t := 39) (by decide +kernel : decode m_C_apart.2.1 32 = .ok ((.ifCond .eq 7), 3)) rfl rfl rfl rfl (fun c25 => ?_) (fun c25 => ?_)
      · skip
        exact o_C_apart_p39 x0 none none none r23.1
      · skip
        refine ok_seg (L := [((.iconst 1), 1)]) (pc' := 36) (ls' := [some (.ref x0), none, none, none]) (st' := [.int 1]) (w' := r23.1) (by decide +kernel) rfl ?_
        refine ok_goto (t := 40) (by decide +kernel : decode m_C_apart.2.1 36 = .ok ((.goto 4), 3)) rfl ?_
        exact o_C_apart_p40 x0 1 none none none r23.1
-- m_C_paint
def f_C_paint_p34 (w : am_W) : Option (am_W × Int32) := (some (w, (-1)))
def e_C_paint (x0 : Nat) (x1 : Int32) (x2 : Int32) (w : am_W) : Option (am_W × Int32) := ((am_gr w x0 0 1).bind fun v1 => ((f_G_hasCell (v1) (x1) w).bind fun r3 => (if r3.2 = 0 then (f_C_paint_p34 r3.1) else ((am_gr r3.1 x0 0 1).bind fun v6 => ((f_G_hasColourOrBlank (v6) (x2) r3.1).bind fun r8 => (if r8.2 = 0 then (f_C_paint_p34 r8.1) else ((am_gr r8.1 x0 0 1).bind fun v11 => ((f_G_colourOf (v11) (x1) r8.1).bind fun r13 => (if ¬ r13.2 = x2 then ((am_gr r13.1 x0 0 5).bind fun v16 => ((am_gr r13.1 x0 0 1).bind fun v18 => ((f_H_keep (v16) (v18) r13.1).bind fun r20 => ((am_gr r20.1 x0 0 1).bind fun v22 => ((f_G_put (v22) (x1) (x2) r20.1).bind fun r24 => ((am_gr r24.1 x0 0 1).bind fun v26 => ((f_G_countThrough (v26) (x1) (x2) r24.1).bind fun r28 => (some (r28.1, r28.2))))))))) else (f_C_paint_p34 r13.1))))))))))
def f_C_paint (x0 : Nat) (x1 : Int32) (x2 : Int32) (w : am_W) : Option (am_W × Int32) := am_self w x0 0 (e_C_paint x0 x1 x2 w)
theorem o_C_paint_p34 {d : Nat} (y0 y1 y2 : Option Value) (w : am_W) : am_Ok am_ji (d + 4) m_C_paint 34 [y0, y1, y2] [] w (f_C_paint_p34 w) := by
  unfold f_C_paint_p34
  refine ok_seg (L := [((.iconst (-1)), 1)]) (pc' := 35) (ls' := [y0, y1, y2]) (st' := [.int (-1)]) (w' := w) (by decide +kernel) rfl ?_
  exact ok_ret (v := (-1)) (by decide +kernel : decode m_C_paint.2.1 35 = .ok (.ireturn, 1)) rfl
theorem o_C_paint (d : Nat) (x0 : Nat) (x1 : Int32) (x2 : Int32) (w : am_W) : am_Ok am_ji (d + 4) m_C_paint 0 (am_en m_C_paint [.ref x0, .int x1, .int x2]) [] w (f_C_paint x0 x1 x2 w) := by
  show am_Ok _ _ _ 0 [some (.ref x0), some (.int x1), some (.int x2)] [] w _
  unfold f_C_paint
  refine ok_self ?_
  unfold e_C_paint
  refine ok_seg (L := [((.aload_n 0), 1)]) (pc' := 1) (ls' := [some (.ref x0), some (.int x1), some (.int x2)]) (st' := [.ref x0]) (w' := w) (by decide +kernel) rfl ?_
  refine ok_gr (by decide +kernel : decode m_C_paint.2.1 1 = .ok ((.getfield 19), 3)) rfl (by decide) (fun v1 h2 => ?_)
  refine ok_seg (L := [((.iload_n 1), 1)]) (pc' := 5) (ls' := [some (.ref x0), some (.int x1), some (.int x2)]) (st' := [.int x1, .ref v1]) (w' := w) (by decide +kernel) rfl ?_
  refine ok_call0 (inj' := am_ji) (by decide +kernel : decode m_C_paint.2.1 5 = .ok ((.invokevirtual 121), 3)) rfl (fun q hq => am_iv0 (am_self_eq hq).1 rfl rfl rfl) (o_G_hasCell (d + 3) (v1) (x1) w) (fun _ _ => rfl) (fun r3 h4 => ?_)
  refine ok_br (P := r3.2 = 0) (off := 26) (t := 34) (by decide +kernel : decode m_C_paint.2.1 8 = .ok ((.ifCond .eq 26), 3)) rfl rfl rfl rfl (fun c5 => ?_) (fun c5 => ?_)
  · skip
    exact o_C_paint_p34 (some (.ref x0)) (some (.int x1)) (some (.int x2)) r3.1
  · skip
    refine ok_seg (L := [((.aload_n 0), 1)]) (pc' := 12) (ls' := [some (.ref x0), some (.int x1), some (.int x2)]) (st' := [.ref x0]) (w' := r3.1) (by decide +kernel) rfl ?_
    refine ok_gr (by decide +kernel : decode m_C_paint.2.1 12 = .ok ((.getfield 19), 3)) rfl (by decide) (fun v6 h7 => ?_)
    refine ok_seg (L := [((.iload_n 2), 1)]) (pc' := 16) (ls' := [some (.ref x0), some (.int x1), some (.int x2)]) (st' := [.int x2, .ref v6]) (w' := r3.1) (by decide +kernel) rfl ?_
    refine ok_call0 (inj' := am_ji) (by decide +kernel : decode m_C_paint.2.1 16 = .ok ((.invokevirtual 128), 3)) rfl (fun q hq => am_iv0 (am_self_eq hq).1 rfl rfl rfl) (o_G_hasColourOrBlank (d + 3) (v6) (x2) r3.1) (fun _ _ => rfl) (fun r8 h9 => ?_)
    refine ok_br (P := r8.2 = 0) (off := 15) (t := 34) (by decide +kernel : decode m_C_paint.2.1 19 = .ok ((.ifCond .eq 15), 3)) rfl rfl rfl rfl (fun c10 => ?_) (fun c10 => ?_)
    · skip
      exact o_C_paint_p34 (some (.ref x0)) (some (.int x1)) (some (.int x2)) r8.1
    · skip
      refine ok_seg (L := [((.aload_n 0), 1)]) (pc' := 23) (ls' := [some (.ref x0), some (.int x1), some (.int x2)]) (st' := [.ref x0]) (w' := r8.1) (by decide +kernel) rfl ?_
      refine ok_gr (by decide +kernel : decode m_C_paint.2.1 23 = .ok ((.getfield 19), 3)) rfl (by decide) (fun v11 h12 => ?_)
      refine ok_seg (L := [((.iload_n 1), 1)]) (pc' := 27) (ls' := [some (.ref x0), some (.int x1), some (.int x2)]) (st' := [.int x1, .ref v11]) (w' := r8.1) (by decide +kernel) rfl ?_
      refine ok_call0 (inj' := am_ji) (by decide +kernel : decode m_C_paint.2.1 27 = .ok ((.invokevirtual 124), 3)) rfl (fun q hq => am_iv0 (am_self_eq hq).1 rfl rfl rfl) (o_G_colourOf (d + 2) (v11) (x1) r8.1) (fun _ _ => rfl) (fun r13 h14 => ?_)
      refine ok_seg (L := [((.iload_n 2), 1)]) (pc' := 31) (ls' := [some (.ref x0), some (.int x1), some (.int x2)]) (st' := [.int x2, .int r13.2]) (w' := r13.1) (by decide +kernel) rfl ?_
      refine ok_br (P := ¬ r13.2 = x2) (off := 5) (t := 36) (by decide +kernel : decode m_C_paint.2.1 31 = .ok ((.if_icmp .ne 5), 3)) rfl rfl rfl rfl (fun c15 => ?_) (fun c15 => ?_)
      · skip
        refine ok_seg (L := [((.aload_n 0), 1)]) (pc' := 37) (ls' := [some (.ref x0), some (.int x1), some (.int x2)]) (st' := [.ref x0]) (w' := r13.1) (by decide +kernel) rfl ?_
        refine ok_gr (by decide +kernel : decode m_C_paint.2.1 37 = .ok ((.getfield 43), 3)) rfl (by decide) (fun v16 h17 => ?_)
        refine ok_seg (L := [((.aload_n 0), 1)]) (pc' := 41) (ls' := [some (.ref x0), some (.int x1), some (.int x2)]) (st' := [.ref x0, .ref v16]) (w' := r13.1) (by decide +kernel) rfl ?_
        refine ok_gr (by decide +kernel : decode m_C_paint.2.1 41 = .ok ((.getfield 19), 3)) rfl (by decide) (fun v18 h19 => ?_)
        refine ok_call0 (inj' := am_jv) (by decide +kernel : decode m_C_paint.2.1 44 = .ok ((.invokevirtual 188), 3)) rfl (fun q hq => am_iv0 (am_self_eq hq).1 rfl rfl rfl) (o_H_keep (d + 0) (v16) (v18) r13.1) (fun _ _ => rfl) (fun r20 h21 => ?_)
        refine ok_seg (L := [((.aload_n 0), 1)]) (pc' := 48) (ls' := [some (.ref x0), some (.int x1), some (.int x2)]) (st' := [.ref x0]) (w' := r20.1) (by decide +kernel) rfl ?_
        refine ok_gr (by decide +kernel : decode m_C_paint.2.1 48 = .ok ((.getfield 19), 3)) rfl (by decide) (fun v22 h23 => ?_)
        refine ok_seg (L := [((.iload_n 1), 1), ((.iload_n 2), 1)]) (pc' := 53) (ls' := [some (.ref x0), some (.int x1), some (.int x2)]) (st' := [.int x2, .int x1, .ref v22]) (w' := r20.1) (by decide +kernel) rfl ?_
        refine ok_call0 (inj' := am_jv) (by decide +kernel : decode m_C_paint.2.1 53 = .ok ((.invokevirtual 206), 3)) rfl (fun q hq => am_iv0 (am_self_eq hq).1 rfl rfl rfl) (o_G_put (d + 2) (v22) (x1) (x2) r20.1) (fun _ _ => rfl) (fun r24 h25 => ?_)
        refine ok_seg (L := [((.aload_n 0), 1)]) (pc' := 57) (ls' := [some (.ref x0), some (.int x1), some (.int x2)]) (st' := [.ref x0]) (w' := r24.1) (by decide +kernel) rfl ?_
        refine ok_gr (by decide +kernel : decode m_C_paint.2.1 57 = .ok ((.getfield 19), 3)) rfl (by decide) (fun v26 h27 => ?_)
        refine ok_seg (L := [((.iload_n 1), 1), ((.iload_n 2), 1)]) (pc' := 62) (ls' := [some (.ref x0), some (.int x1), some (.int x2)]) (st' := [.int x2, .int x1, .ref v26]) (w' := r24.1) (by decide +kernel) rfl ?_
        refine ok_call0 (inj' := am_ji) (by decide +kernel : decode m_C_paint.2.1 62 = .ok ((.invokevirtual 148), 3)) rfl (fun q hq => am_iv0 (am_self_eq hq).1 rfl rfl rfl) (o_G_countThrough (d + 2) (v26) (x1) (x2) r24.1) (fun _ _ => rfl) (fun r28 h29 => ?_)
        exact ok_ret (v := r28.2) (by decide +kernel : decode m_C_paint.2.1 65 = .ok (.ireturn, 1)) rfl
      · skip
        exact o_C_paint_p34 (some (.ref x0)) (some (.int x1)) (some (.int x2)) r13.1
-- m_C_isPairBelow
def f_C_isPairBelow_p28 (s0 : Int32) (w : am_W) : Option (am_W × Int32) := (am_rb w s0)
def f_C_isPairBelow_p27 (w : am_W) : Option (am_W × Int32) := (f_C_isPairBelow_p28 0 w)
def e_C_isPairBelow (x0 : Int32) (x1 : Int32) (x2 : Int32) (w : am_W) : Option (am_W × Int32) := (if x0 < 0 then (f_C_isPairBelow_p27 w) else (if x2 ≤ x0 then (f_C_isPairBelow_p27 w) else (if x1 < 0 then (f_C_isPairBelow_p27 w) else (if x2 ≤ x1 then (f_C_isPairBelow_p27 w) else (if x0 = x1 then (f_C_isPairBelow_p27 w) else (f_C_isPairBelow_p28 1 w))))))
def f_C_isPairBelow (x0 : Int32) (x1 : Int32) (x2 : Int32) (w : am_W) : Option (am_W × Int32) := e_C_isPairBelow x0 x1 x2 w
theorem o_C_isPairBelow_p28 {d : Nat} (s0 : Int32) (y0 y1 y2 : Option Value) (w : am_W) : am_Ok am_ji (d + 0) m_C_isPairBelow 28 [y0, y1, y2] [.int s0] w (f_C_isPairBelow_p28 s0 w) := by
  unfold f_C_isPairBelow_p28
  exact ok_retb (len := 1) (by decide +kernel : decode m_C_isPairBelow.2.1 28 = .ok (.ireturn, 1)) rfl
theorem o_C_isPairBelow_p27 {d : Nat} (y0 y1 y2 : Option Value) (w : am_W) : am_Ok am_ji (d + 0) m_C_isPairBelow 27 [y0, y1, y2] [] w (f_C_isPairBelow_p27 w) := by
  unfold f_C_isPairBelow_p27
  refine ok_seg (L := [((.iconst 0), 1)]) (pc' := 28) (ls' := [y0, y1, y2]) (st' := [.int 0]) (w' := w) (by decide +kernel) rfl ?_
  exact o_C_isPairBelow_p28 0 y0 y1 y2 w
theorem o_C_isPairBelow (d : Nat) (x0 : Int32) (x1 : Int32) (x2 : Int32) (w : am_W) : am_Ok am_ji (d + 0) m_C_isPairBelow 0 (am_en m_C_isPairBelow [.int x0, .int x1, .int x2]) [] w (f_C_isPairBelow x0 x1 x2 w) := by
  show am_Ok _ _ _ 0 [some (.int x0), some (.int x1), some (.int x2)] [] w _
  unfold f_C_isPairBelow
  unfold e_C_isPairBelow
  refine ok_seg (L := [((.iload_n 0), 1)]) (pc' := 1) (ls' := [some (.int x0), some (.int x1), some (.int x2)]) (st' := [.int x0]) (w' := w) (by decide +kernel) rfl ?_
  refine ok_br (P := x0 < 0) (off := 26) (t := 27) (by decide +kernel : decode m_C_isPairBelow.2.1 1 = .ok ((.ifCond .lt 26), 3)) rfl rfl rfl rfl (fun c1 => ?_) (fun c1 => ?_)
  · skip
    exact o_C_isPairBelow_p27 (some (.int x0)) (some (.int x1)) (some (.int x2)) w
  · skip
    refine ok_seg (L := [((.iload_n 0), 1), ((.iload_n 2), 1)]) (pc' := 6) (ls' := [some (.int x0), some (.int x1), some (.int x2)]) (st' := [.int x2, .int x0]) (w' := w) (by decide +kernel) rfl ?_
    refine ok_br (P := x2 ≤ x0) (off := 21) (t := 27) (by decide +kernel : decode m_C_isPairBelow.2.1 6 = .ok ((.if_icmp .ge 21), 3)) rfl rfl rfl rfl (fun c2 => ?_) (fun c2 => ?_)
    · skip
      exact o_C_isPairBelow_p27 (some (.int x0)) (some (.int x1)) (some (.int x2)) w
    · skip
      refine ok_seg (L := [((.iload_n 1), 1)]) (pc' := 10) (ls' := [some (.int x0), some (.int x1), some (.int x2)]) (st' := [.int x1]) (w' := w) (by decide +kernel) rfl ?_
      refine ok_br (P := x1 < 0) (off := 17) (t := 27) (by decide +kernel : decode m_C_isPairBelow.2.1 10 = .ok ((.ifCond .lt 17), 3)) rfl rfl rfl rfl (fun c3 => ?_) (fun c3 => ?_)
      · skip
        exact o_C_isPairBelow_p27 (some (.int x0)) (some (.int x1)) (some (.int x2)) w
      · skip
        refine ok_seg (L := [((.iload_n 1), 1), ((.iload_n 2), 1)]) (pc' := 15) (ls' := [some (.int x0), some (.int x1), some (.int x2)]) (st' := [.int x2, .int x1]) (w' := w) (by decide +kernel) rfl ?_
        refine ok_br (P := x2 ≤ x1) (off := 12) (t := 27) (by decide +kernel : decode m_C_isPairBelow.2.1 15 = .ok ((.if_icmp .ge 12), 3)) rfl rfl rfl rfl (fun c4 => ?_) (fun c4 => ?_)
        · skip
          exact o_C_isPairBelow_p27 (some (.int x0)) (some (.int x1)) (some (.int x2)) w
        · skip
          refine ok_seg (L := [((.iload_n 0), 1), ((.iload_n 1), 1)]) (pc' := 20) (ls' := [some (.int x0), some (.int x1), some (.int x2)]) (st' := [.int x1, .int x0]) (w' := w) (by decide +kernel) rfl ?_
          refine ok_br (P := x0 = x1) (off := 7) (t := 27) (by decide +kernel : decode m_C_isPairBelow.2.1 20 = .ok ((.if_icmp .eq 7), 3)) rfl rfl rfl rfl (fun c5 => ?_) (fun c5 => ?_)
          · skip
            exact o_C_isPairBelow_p27 (some (.int x0)) (some (.int x1)) (some (.int x2)) w
          · skip
            refine ok_seg (L := [((.iconst 1), 1)]) (pc' := 24) (ls' := [some (.int x0), some (.int x1), some (.int x2)]) (st' := [.int 1]) (w' := w) (by decide +kernel) rfl ?_
            refine ok_goto (t := 28) (by decide +kernel : decode m_C_isPairBelow.2.1 24 = .ok ((.goto 4), 3)) rfl ?_
            exact o_C_isPairBelow_p28 1 (some (.int x0)) (some (.int x1)) (some (.int x2)) w
-- m_G_exchange
def e_G_exchange (x0 : Nat) (x1 : Int32) (x2 : Int32) (w : am_W) : Option (am_W × Unit) := ((f_G_colourOf (x0) (x1) w).bind fun r1 => ((f_G_colourOf (x0) (x2) r1.1).bind fun r3 => ((f_G_put (x0) (x1) (r3.2) r3.1).bind fun r5 => ((f_G_put (x0) (x2) (r1.2) r5.1).bind fun r7 => (some (r7.1, ()))))))
def f_G_exchange (x0 : Nat) (x1 : Int32) (x2 : Int32) (w : am_W) : Option (am_W × Unit) := am_self w x0 1 (e_G_exchange x0 x1 x2 w)
theorem o_G_exchange (d : Nat) (x0 : Nat) (x1 : Int32) (x2 : Int32) (w : am_W) : am_Ok am_jv (d + 2) m_G_exchange 0 (am_en m_G_exchange [.ref x0, .int x1, .int x2]) [] w (f_G_exchange x0 x1 x2 w) := by
  show am_Ok _ _ _ 0 [some (.ref x0), some (.int x1), some (.int x2), none] [] w _
  unfold f_G_exchange
  refine ok_self ?_
  unfold e_G_exchange
  refine ok_seg (L := [((.aload_n 0), 1), ((.iload_n 1), 1)]) (pc' := 2) (ls' := [some (.ref x0), some (.int x1), some (.int x2), none]) (st' := [.int x1, .ref x0]) (w' := w) (by decide +kernel) rfl ?_
  refine ok_call0 (inj' := am_ji) (by decide +kernel : decode m_G_exchange.2.1 2 = .ok ((.invokevirtual 42), 3)) rfl (fun q hq => am_iv0 (am_self_eq hq).1 rfl rfl rfl) (o_G_colourOf (d + 0) (x0) (x1) w) (fun _ _ => rfl) (fun r1 h2 => ?_)
  refine ok_seg (L := [((.istore_n 3), 1), ((.aload_n 0), 1), ((.iload_n 1), 1), ((.aload_n 0), 1), ((.iload_n 2), 1)]) (pc' := 10) (ls' := [some (.ref x0), some (.int x1), some (.int x2), some (.int r1.2)]) (st' := [.int x2, .ref x0, .int x1, .ref x0]) (w' := r1.1) (by decide +kernel) rfl ?_
  refine ok_call0 (inj' := am_ji) (by decide +kernel : decode m_G_exchange.2.1 10 = .ok ((.invokevirtual 42), 3)) rfl (fun q hq => am_iv0 (am_self_eq hq).1 rfl rfl rfl) (o_G_colourOf (d + 0) (x0) (x2) r1.1) (fun _ _ => rfl) (fun r3 h4 => ?_)
  refine ok_call0 (inj' := am_jv) (by decide +kernel : decode m_G_exchange.2.1 13 = .ok ((.invokevirtual 46), 3)) rfl (fun q hq => am_iv0 (am_self_eq hq).1 rfl rfl rfl) (o_G_put (d + 0) (x0) (x1) (r3.2) r3.1) (fun _ _ => rfl) (fun r5 h6 => ?_)
  refine ok_seg (L := [((.aload_n 0), 1), ((.iload_n 2), 1), ((.iload_n 3), 1)]) (pc' := 19) (ls' := [some (.ref x0), some (.int x1), some (.int x2), some (.int r1.2)]) (st' := [.int r1.2, .int x2, .ref x0]) (w' := r5.1) (by decide +kernel) rfl ?_
  refine ok_call0 (inj' := am_jv) (by decide +kernel : decode m_G_exchange.2.1 19 = .ok ((.invokevirtual 46), 3)) rfl (fun q hq => am_iv0 (am_self_eq hq).1 rfl rfl rfl) (o_G_put (d + 0) (x0) (x2) (r1.2) r5.1) (fun _ _ => rfl) (fun r7 h8 => ?_)
  exact ok_ret (v := ()) (by decide +kernel : decode m_G_exchange.2.1 22 = .ok (.return_, 1)) rfl
