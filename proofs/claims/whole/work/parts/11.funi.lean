-- m_M_worst
def f_M_worst_p78 (k16 : Nat → Int32 → Int32 → Int32 → am_W → Option (am_W × Int32)) (x0 : Nat) (x1 : Int32) (x2 : Int32) (x3 : Int32) (w : am_W) : Option (am_W × Int32) := (k16 x0 x1 x2 (x3 + 1) w)
def f_M_worst_p58 (k16 : Nat → Int32 → Int32 → Int32 → am_W → Option (am_W × Int32)) (k30 : Nat → Int32 → Int32 → Int32 → Int32 → Int32 → am_W → Option (am_W × Int32)) (x0 : Nat) (x1 : Int32) (x2 : Int32) (x3 : Int32) (x4 : Int32) (x5 : Int32) (w : am_W) : Option (am_W × Int32) := (k30 x0 x1 x2 x3 x4 (x5 + 1) w)
def f_M_worst_p30 (k16 : Nat → Int32 → Int32 → Int32 → am_W → Option (am_W × Int32)) : Nat → Nat → Int32 → Int32 → Int32 → Int32 → Int32 → am_W → Option (am_W × Int32)
  | 0, _, _, _, _, _, _, _ => none
  | n + 1, x0, x1, x2, x3, x4, x5, w => ((am_gi w x0 7 23).bind fun v1 => (if v1 ≤ x5 then (if x2 < x4 then (f_M_worst_p78 k16 x0 x3 x4 x3 w) else (f_M_worst_p78 k16 x0 x1 x2 x3 w)) else ((am_gr w x0 7 22).bind fun v5 => ((am_aj w v5 x5).bind fun v7 => (if ¬ (lg_cmp ((am_lu v7 x3) &&& 1) 1) = 0 then (f_M_worst_p58 k16 (f_M_worst_p30 k16 n) x0 x1 x2 x3 x4 x5 w) else (f_M_worst_p58 k16 (f_M_worst_p30 k16 n) x0 x1 x2 x3 (x4 + 1) x5 w))))))
def f_M_worst_p16 : Nat → Nat → Int32 → Int32 → Int32 → am_W → Option (am_W × Int32)
  | 0, _, _, _, _, _ => none
  | n + 1, x0, x1, x2, x3, w => ((f_M_cellMany (x0) w).bind fun r10 => (if r10.2 ≤ x3 then (some (r10.1, x1)) else (f_M_worst_p30 (f_M_worst_p16 n) am_N x0 x1 x2 x3 0 0 r10.1)))
def e_M_worst (x0 : Nat) (w : am_W) : Option (am_W × Int32) := ((am_pv w x0 7 0 (.int 0)).bind fun w13 => ((f_M_laysFours (x0) (0) w13).bind fun r15 => (f_M_worst_p16 am_N x0 (-1) 0 0 r15.1)))
def f_M_worst (x0 : Nat) (w : am_W) : Option (am_W × Int32) := am_self w x0 7 (e_M_worst x0 w)
theorem o_M_worst_p78 {d : Nat} {k16 : Nat → Int32 → Int32 → Int32 → am_W → Option (am_W × Int32)} (hk16 : ∀ (x0 : Nat) (x1 : Int32) (x2 : Int32) (x3 : Int32) (y4 y5 : Option Value) (w : am_W), am_Ok am_ji (d + 3) m_M_worst 16 [some (.ref x0), some (.int x1), some (.int x2), some (.int x3), y4, y5] [] w (k16 x0 x1 x2 x3 w)) (x0 : Nat) (x1 : Int32) (x2 : Int32) (x3 : Int32) (y4 y5 : Option Value) (w : am_W) : am_Ok am_ji (d + 3) m_M_worst 78 [some (.ref x0), some (.int x1), some (.int x2), some (.int x3), y4, y5] [] w (f_M_worst_p78 k16 x0 x1 x2 x3 w) := by
  unfold f_M_worst_p78
  refine ok_seg (L := [((.iinc 3 1), 3)]) (pc' := 81) (ls' := [some (.ref x0), some (.int x1), some (.int x2), some (.int (x3 + 1)), y4, y5]) (st' := []) (w' := w) (by decide +kernel) rfl ?_
  refine ok_goto (t := 16) (by decide +kernel : decode m_M_worst.2.1 81 = .ok ((.goto (-65)), 3)) rfl ?_
  exact hk16 x0 x1 x2 (x3 + 1) y4 y5 w
theorem o_M_worst_p58 {d : Nat} {k16 : Nat → Int32 → Int32 → Int32 → am_W → Option (am_W × Int32)} {k30 : Nat → Int32 → Int32 → Int32 → Int32 → Int32 → am_W → Option (am_W × Int32)} (hk16 : ∀ (x0 : Nat) (x1 : Int32) (x2 : Int32) (x3 : Int32) (y4 y5 : Option Value) (w : am_W), am_Ok am_ji (d + 3) m_M_worst 16 [some (.ref x0), some (.int x1), some (.int x2), some (.int x3), y4, y5] [] w (k16 x0 x1 x2 x3 w)) (hk30 : ∀ (x0 : Nat) (x1 : Int32) (x2 : Int32) (x3 : Int32) (x4 : Int32) (x5 : Int32) (w : am_W), am_Ok am_ji (d + 3) m_M_worst 30 [some (.ref x0), some (.int x1), some (.int x2), some (.int x3), some (.int x4), some (.int x5)] [] w (k30 x0 x1 x2 x3 x4 x5 w)) (x0 : Nat) (x1 : Int32) (x2 : Int32) (x3 : Int32) (x4 : Int32) (x5 : Int32) (w : am_W) : am_Ok am_ji (d + 3) m_M_worst 58 [some (.ref x0), some (.int x1), some (.int x2), some (.int x3), some (.int x4), some (.int x5)] [] w (f_M_worst_p58 k16 k30 x0 x1 x2 x3 x4 x5 w) := by
  unfold f_M_worst_p58
  refine ok_seg (L := [((.iinc 5 1), 3)]) (pc' := 61) (ls' := [some (.ref x0), some (.int x1), some (.int x2), some (.int x3), some (.int x4), some (.int (x5 + 1))]) (st' := []) (w' := w) (by decide +kernel) rfl ?_
  refine ok_goto (t := 30) (by decide +kernel : decode m_M_worst.2.1 61 = .ok ((.goto (-31)), 3)) rfl ?_
  exact hk30 x0 x1 x2 x3 x4 (x5 + 1) w
theorem o_M_worst_p30 {d : Nat} {k16 : Nat → Int32 → Int32 → Int32 → am_W → Option (am_W × Int32)} (hk16 : ∀ (x0 : Nat) (x1 : Int32) (x2 : Int32) (x3 : Int32) (y4 y5 : Option Value) (w : am_W), am_Ok am_ji (d + 3) m_M_worst 16 [some (.ref x0), some (.int x1), some (.int x2), some (.int x3), y4, y5] [] w (k16 x0 x1 x2 x3 w)) : ∀ (n : Nat) (x0 : Nat) (x1 : Int32) (x2 : Int32) (x3 : Int32) (x4 : Int32) (x5 : Int32) (w : am_W), am_Ok am_ji (d + 3) m_M_worst 30 [some (.ref x0), some (.int x1), some (.int x2), some (.int x3), some (.int x4), some (.int x5)] [] w (f_M_worst_p30 k16 n x0 x1 x2 x3 x4 x5 w) := by
  intro n
  induction n with
  | zero => intros; exact ok_none
  | succ n ih =>
    intro x0 x1 x2 x3 x4 x5 w
    unfold f_M_worst_p30
    refine ok_seg (L := [((.iload 5), 2), ((.aload_n 0), 1)]) (pc' := 33) (ls' := [some (.ref x0), some (.int x1), some (.int x2), some (.int x3), some (.int x4), some (.int x5)]) (st' := [.ref x0, .int x5]) (w' := w) (by decide +kernel) rfl ?_
    refine ok_gi (by decide +kernel : decode m_M_worst.2.1 33 = .ok ((.getfield 181), 3)) rfl (fun v1 h2 => ?_)
    refine ok_br (P := v1 ≤ x5) (off := 28) (t := 64) (by decide +kernel : decode m_M_worst.2.1 36 = .ok ((.if_icmp .ge 28), 3)) rfl rfl rfl rfl (fun c3 => ?_) (fun c3 => ?_)
    · skip
      refine ok_seg (L := [((.iload 4), 2), ((.iload_n 2), 1)]) (pc' := 67) (ls' := [some (.ref x0), some (.int x1), some (.int x2), some (.int x3), some (.int x4), some (.int x5)]) (st' := [.int x2, .int x4]) (w' := w) (by decide +kernel) rfl ?_
      refine ok_br (P := x2 < x4) (off := 6) (t := 73) (by decide +kernel : decode m_M_worst.2.1 67 = .ok ((.if_icmp .gt 6), 3)) rfl rfl rfl rfl (fun c4 => ?_) (fun c4 => ?_)
      · skip
        refine ok_seg (L := [((.iload_n 3), 1), ((.istore_n 1), 1), ((.iload 4), 2), ((.istore_n 2), 1)]) (pc' := 78) (ls' := [some (.ref x0), some (.int x3), some (.int x4), some (.int x3), some (.int x4), some (.int x5)]) (st' := []) (w' := w) (by decide +kernel) rfl ?_
        exact o_M_worst_p78 hk16 x0 x3 x4 x3 (some (.int x4)) (some (.int x5)) w
      · skip
        refine ok_goto (t := 78) (by decide +kernel : decode m_M_worst.2.1 70 = .ok ((.goto 8), 3)) rfl ?_
        exact o_M_worst_p78 hk16 x0 x1 x2 x3 (some (.int x4)) (some (.int x5)) w
    · skip
      refine ok_seg (L := [((.aload_n 0), 1)]) (pc' := 40) (ls' := [some (.ref x0), some (.int x1), some (.int x2), some (.int x3), some (.int x4), some (.int x5)]) (st' := [.ref x0]) (w' := w) (by decide +kernel) rfl ?_
      refine ok_gr (by decide +kernel : decode m_M_worst.2.1 40 = .ok ((.getfield 92), 3)) rfl (by decide) (fun v5 h6 => ?_)
      refine ok_seg (L := [((.iload 5), 2)]) (pc' := 45) (ls' := [some (.ref x0), some (.int x1), some (.int x2), some (.int x3), some (.int x4), some (.int x5)]) (st' := [.int x5, .ref v5]) (w' := w) (by decide +kernel) rfl ?_
      refine ok_aj (by decide +kernel : decode m_M_worst.2.1 45 = .ok (.laload, 1)) (fun v7 h8 => ?_)
      refine ok_seg (L := [((.iload_n 3), 1), (.lushr, 1), ((.lconst 1), 1), (.land, 1), ((.lconst 1), 1), (.lcmp, 1)]) (pc' := 52) (ls' := [some (.ref x0), some (.int x1), some (.int x2), some (.int x3), some (.int x4), some (.int x5)]) (st' := [.int (lg_cmp ((am_lu v7 x3) &&& 1) 1)]) (w' := w) (by decide +kernel) rfl ?_
      refine ok_br (P := ¬ (lg_cmp ((am_lu v7 x3) &&& 1) 1) = 0) (off := 6) (t := 58) (by decide +kernel : decode m_M_worst.2.1 52 = .ok ((.ifCond .ne 6), 3)) rfl rfl rfl rfl (fun c9 => ?_) (fun c9 => ?_)
      · skip
        exact o_M_worst_p58 hk16 ih x0 x1 x2 x3 x4 x5 w
      · skip
        refine ok_seg (L := [((.iinc 4 1), 3)]) (pc' := 58) (ls' := [some (.ref x0), some (.int x1), some (.int x2), some (.int x3), some (.int (x4 + 1)), some (.int x5)]) (st' := []) (w' := w) (by decide +kernel) rfl ?_
        exact o_M_worst_p58 hk16 ih x0 x1 x2 x3 (x4 + 1) x5 w
theorem o_M_worst_p16 {d : Nat} : ∀ (n : Nat) (x0 : Nat) (x1 : Int32) (x2 : Int32) (x3 : Int32) (y4 y5 : Option Value) (w : am_W), am_Ok am_ji (d + 3) m_M_worst 16 [some (.ref x0), some (.int x1), some (.int x2), some (.int x3), y4, y5] [] w (f_M_worst_p16 n x0 x1 x2 x3 w) := by
  intro n
  induction n with
  | zero => intros; exact ok_none
  | succ n ih =>
    intro x0 x1 x2 x3 y4 y5 w
    unfold f_M_worst_p16
    refine ok_seg (L := [((.iload_n 3), 1), ((.aload_n 0), 1)]) (pc' := 18) (ls' := [some (.ref x0), some (.int x1), some (.int x2), some (.int x3), y4, y5]) (st' := [.ref x0, .int x3]) (w' := w) (by decide +kernel) rfl ?_
    refine ok_call0 (inj' := am_ji) (by decide +kernel : decode m_M_worst.2.1 18 = .ok ((.invokevirtual 170), 3)) rfl (fun q hq => am_iv0 (am_self_eq hq).1 rfl rfl rfl) (o_M_cellMany (d + 1) (x0) w) (fun _ _ => rfl) (fun r10 h11 => ?_)
    refine ok_br (P := r10.2 ≤ x3) (off := 63) (t := 84) (by decide +kernel : decode m_M_worst.2.1 21 = .ok ((.if_icmp .ge 63), 3)) rfl rfl rfl rfl (fun c12 => ?_) (fun c12 => ?_)
    · skip
      refine ok_seg (L := [((.iload_n 1), 1)]) (pc' := 85) (ls' := [some (.ref x0), some (.int x1), some (.int x2), some (.int x3), y4, y5]) (st' := [.int x1]) (w' := r10.1) (by decide +kernel) rfl ?_
      exact ok_ret (v := x1) (by decide +kernel : decode m_M_worst.2.1 85 = .ok (.ireturn, 1)) rfl
    · skip
      refine ok_seg (L := [((.iconst 0), 1), ((.istore 4), 2), ((.iconst 0), 1), ((.istore 5), 2)]) (pc' := 30) (ls' := [some (.ref x0), some (.int x1), some (.int x2), some (.int x3), some (.int 0), some (.int 0)]) (st' := []) (w' := r10.1) (by decide +kernel) rfl ?_
      exact o_M_worst_p30 ih am_N x0 x1 x2 x3 0 0 r10.1
theorem o_M_worst (d : Nat) (x0 : Nat) (w : am_W) : am_Ok am_ji (d + 3) m_M_worst 0 (am_en m_M_worst [.ref x0]) [] w (f_M_worst x0 w) := by
  show am_Ok _ _ _ 0 [some (.ref x0), none, none, none, none, none] [] w _
  unfold f_M_worst
  refine ok_self ?_
  unfold e_M_worst
  refine ok_seg (L := [((.aload_n 0), 1), ((.iconst 0), 1)]) (pc' := 2) (ls' := [some (.ref x0), none, none, none, none, none]) (st' := [.int 0, .ref x0]) (w' := w) (by decide +kernel) rfl ?_
  refine ok_pi (by decide +kernel : decode m_M_worst.2.1 2 = .ok ((.putfield 1), 3)) rfl (fun w13 h14 => ?_)
  refine ok_seg (L := [((.aload_n 0), 1), ((.iconst 0), 1)]) (pc' := 7) (ls' := [some (.ref x0), none, none, none, none, none]) (st' := [.int 0, .ref x0]) (w' := w13) (by decide +kernel) rfl ?_
  refine ok_call0 (inj' := am_jv) (by decide +kernel : decode m_M_worst.2.1 7 = .ok ((.invokevirtual 188), 3)) rfl (fun q hq => am_iv0 (am_self_eq hq).1 rfl rfl rfl) (o_M_laysFours (d + 0) (x0) (0) w13) (fun _ _ => rfl) (fun r15 h16 => ?_)
  refine ok_seg (L := [((.iconst (-1)), 1), ((.istore_n 1), 1), ((.iconst 0), 1), ((.istore_n 2), 1), ((.iconst 0), 1), ((.istore_n 3), 1)]) (pc' := 16) (ls' := [some (.ref x0), some (.int (-1)), some (.int 0), some (.int 0), none, none]) (st' := []) (w' := r15.1) (by decide +kernel) rfl ?_
  exact o_M_worst_p16 am_N x0 (-1) 0 0 none none r15.1
-- m_M_may
def f_M_may_p70 (k32 : Nat → Int32 → Int32 → Int32 → am_W → Option (am_W × Int32)) (x0 : Nat) (x1 : Int32) (x2 : Int32) (x3 : Int32) (w : am_W) : Option (am_W × Int32) := (k32 x0 x1 x2 (x3 + 1) w)
def f_M_may_p32 : Nat → Nat → Int32 → Int32 → Int32 → am_W → Option (am_W × Int32)
  | 0, _, _, _, _, _ => none
  | n + 1, x0, x1, x2, x3, w => ((am_gr w x0 7 11).bind fun v1 => ((am_ai w v1 2).bind fun v3 => (if v3 < x3 then (some (w, x2)) else ((am_gr w x0 7 17).bind fun v6 => ((am_si w v6 (3 + x1) x3).bind fun w8 => ((am_gr w8 x0 7 17).bind fun v10 => ((f_M_through_1 (v10) (x1) w8).bind fun r12 => (if ¬ r12.2 = 0 then (f_M_may_p70 (f_M_may_p32 n) x0 x1 x2 x3 r12.1) else (f_M_may_p70 (f_M_may_p32 n) x0 x1 (x2 ||| (1 <<< ((x3 - 1) &&& 31))) x3 r12.1)))))))))
def e_M_may (x0 : Nat) (x1 : Int32) (w : am_W) : Option (am_W × Int32) := ((am_pv w x0 7 0 (.int 0)).bind fun w15 => ((f_M_isCell (x0) (x1) w15).bind fun r17 => (if ¬ r17.2 = 0 then ((am_gr r17.1 x0 7 11).bind fun v20 => ((am_gr r17.1 x0 7 17).bind fun v22 => ((f_M_copy (v20) (0) (v22) (0) r17.1).bind fun r24 => (f_M_may_p32 am_N x0 x1 0 1 r24.1)))) else (some (r17.1, (-1))))))
def f_M_may (x0 : Nat) (x1 : Int32) (w : am_W) : Option (am_W × Int32) := am_self w x0 7 (e_M_may x0 x1 w)
theorem o_M_may_p70 {d : Nat} {k32 : Nat → Int32 → Int32 → Int32 → am_W → Option (am_W × Int32)} (hk32 : ∀ (x0 : Nat) (x1 : Int32) (x2 : Int32) (x3 : Int32) (w : am_W), am_Ok am_ji (d + 3) m_M_may 32 [some (.ref x0), some (.int x1), some (.int x2), some (.int x3)] [] w (k32 x0 x1 x2 x3 w)) (x0 : Nat) (x1 : Int32) (x2 : Int32) (x3 : Int32) (w : am_W) : am_Ok am_ji (d + 3) m_M_may 70 [some (.ref x0), some (.int x1), some (.int x2), some (.int x3)] [] w (f_M_may_p70 k32 x0 x1 x2 x3 w) := by
  unfold f_M_may_p70
  refine ok_seg (L := [((.iinc 3 1), 3)]) (pc' := 73) (ls' := [some (.ref x0), some (.int x1), some (.int x2), some (.int (x3 + 1))]) (st' := []) (w' := w) (by decide +kernel) rfl ?_
  refine ok_goto (t := 32) (by decide +kernel : decode m_M_may.2.1 73 = .ok ((.goto (-41)), 3)) rfl ?_
  exact hk32 x0 x1 x2 (x3 + 1) w
theorem o_M_may_p32 {d : Nat} : ∀ (n : Nat) (x0 : Nat) (x1 : Int32) (x2 : Int32) (x3 : Int32) (w : am_W), am_Ok am_ji (d + 3) m_M_may 32 [some (.ref x0), some (.int x1), some (.int x2), some (.int x3)] [] w (f_M_may_p32 n x0 x1 x2 x3 w) := by
  intro n
  induction n with
  | zero => intros; exact ok_none
  | succ n ih =>
    intro x0 x1 x2 x3 w
    unfold f_M_may_p32
    refine ok_seg (L := [((.iload_n 3), 1), ((.aload_n 0), 1)]) (pc' := 34) (ls' := [some (.ref x0), some (.int x1), some (.int x2), some (.int x3)]) (st' := [.ref x0, .int x3]) (w' := w) (by decide +kernel) rfl ?_
    refine ok_gr (by decide +kernel : decode m_M_may.2.1 34 = .ok ((.getfield 64), 3)) rfl (by decide) (fun v1 h2 => ?_)
    refine ok_seg (L := [((.iconst 2), 1)]) (pc' := 38) (ls' := [some (.ref x0), some (.int x1), some (.int x2), some (.int x3)]) (st' := [.int 2, .ref v1, .int x3]) (w' := w) (by decide +kernel) rfl ?_
    refine ok_ai (by decide +kernel : decode m_M_may.2.1 38 = .ok (.iaload, 1)) (fun v3 h4 => ?_)
    refine ok_br (P := v3 < x3) (off := 37) (t := 76) (by decide +kernel : decode m_M_may.2.1 39 = .ok ((.if_icmp .gt 37), 3)) rfl rfl rfl rfl (fun c5 => ?_) (fun c5 => ?_)
    · skip
      refine ok_seg (L := [((.iload_n 2), 1)]) (pc' := 77) (ls' := [some (.ref x0), some (.int x1), some (.int x2), some (.int x3)]) (st' := [.int x2]) (w' := w) (by decide +kernel) rfl ?_
      exact ok_ret (v := x2) (by decide +kernel : decode m_M_may.2.1 77 = .ok (.ireturn, 1)) rfl
    · skip
      refine ok_seg (L := [((.aload_n 0), 1)]) (pc' := 43) (ls' := [some (.ref x0), some (.int x1), some (.int x2), some (.int x3)]) (st' := [.ref x0]) (w' := w) (by decide +kernel) rfl ?_
      refine ok_gr (by decide +kernel : decode m_M_may.2.1 43 = .ok ((.getfield 82), 3)) rfl (by decide) (fun v6 h7 => ?_)
      refine ok_seg (L := [((.iconst 3), 1), ((.iload_n 1), 1), (.iadd, 1), ((.iload_n 3), 1)]) (pc' := 50) (ls' := [some (.ref x0), some (.int x1), some (.int x2), some (.int x3)]) (st' := [.int x3, .int (3 + x1), .ref v6]) (w' := w) (by decide +kernel) rfl ?_
      refine ok_si (by decide +kernel : decode m_M_may.2.1 50 = .ok (.iastore, 1)) (fun w8 h9 => ?_)
      refine ok_seg (L := [((.aload_n 0), 1)]) (pc' := 52) (ls' := [some (.ref x0), some (.int x1), some (.int x2), some (.int x3)]) (st' := [.ref x0]) (w' := w8) (by decide +kernel) rfl ?_
      refine ok_gr (by decide +kernel : decode m_M_may.2.1 52 = .ok ((.getfield 82), 3)) rfl (by decide) (fun v10 h11 => ?_)
      refine ok_seg (L := [((.iload_n 1), 1)]) (pc' := 56) (ls' := [some (.ref x0), some (.int x1), some (.int x2), some (.int x3)]) (st' := [.int x1, .ref v10]) (w' := w8) (by decide +kernel) rfl ?_
      refine ok_call0 (inj' := am_ji) (by decide +kernel : decode m_M_may.2.1 56 = .ok ((.invokestatic 208), 3)) rfl (fun _ _ => rfl) (o_M_through_1 (d + 0) (v10) (x1) w8) (fun _ _ => rfl) (fun r12 h13 => ?_)
      refine ok_br (P := ¬ r12.2 = 0) (off := 11) (t := 70) (by decide +kernel : decode m_M_may.2.1 59 = .ok ((.ifCond .ne 11), 3)) rfl rfl rfl rfl (fun c14 => ?_) (fun c14 => ?_)
      · skip
        exact o_M_may_p70 ih x0 x1 x2 x3 r12.1
      · skip
        refine ok_seg (L := [((.iload_n 2), 1), ((.iconst 1), 1), ((.iload_n 3), 1), ((.iconst 1), 1), (.isub, 1), (.ishl, 1), (.ior, 1), ((.istore_n 2), 1)]) (pc' := 70) (ls' := [some (.ref x0), some (.int x1), some (.int (x2 ||| (1 <<< ((x3 - 1) &&& 31)))), some (.int x3)]) (st' := []) (w' := r12.1) (by decide +kernel) rfl ?_
        exact o_M_may_p70 ih x0 x1 (x2 ||| (1 <<< ((x3 - 1) &&& 31))) x3 r12.1
theorem o_M_may (d : Nat) (x0 : Nat) (x1 : Int32) (w : am_W) : am_Ok am_ji (d + 3) m_M_may 0 (am_en m_M_may [.ref x0, .int x1]) [] w (f_M_may x0 x1 w) := by
  show am_Ok _ _ _ 0 [some (.ref x0), some (.int x1), none, none] [] w _
  unfold f_M_may
  refine ok_self ?_
  unfold e_M_may
  refine ok_seg (L := [((.aload_n 0), 1), ((.iconst 0), 1)]) (pc' := 2) (ls' := [some (.ref x0), some (.int x1), none, none]) (st' := [.int 0, .ref x0]) (w' := w) (by decide +kernel) rfl ?_
  refine ok_pi (by decide +kernel : decode m_M_may.2.1 2 = .ok ((.putfield 1), 3)) rfl (fun w15 h16 => ?_)
  refine ok_seg (L := [((.aload_n 0), 1), ((.iload_n 1), 1)]) (pc' := 7) (ls' := [some (.ref x0), some (.int x1), none, none]) (st' := [.int x1, .ref x0]) (w' := w15) (by decide +kernel) rfl ?_
  refine ok_call0 (inj' := am_ji) (by decide +kernel : decode m_M_may.2.1 7 = .ok ((.invokevirtual 198), 3)) rfl (fun q hq => am_iv0 (am_self_eq hq).1 rfl rfl rfl) (o_M_isCell (d + 0) (x0) (x1) w15) (fun _ _ => rfl) (fun r17 h18 => ?_)
  refine ok_br (P := ¬ r17.2 = 0) (off := 5) (t := 15) (by decide +kernel : decode m_M_may.2.1 10 = .ok ((.ifCond .ne 5), 3)) rfl rfl rfl rfl (fun c19 => ?_) (fun c19 => ?_)
  · skip
    refine ok_seg (L := [((.aload_n 0), 1)]) (pc' := 16) (ls' := [some (.ref x0), some (.int x1), none, none]) (st' := [.ref x0]) (w' := r17.1) (by decide +kernel) rfl ?_
    refine ok_gr (by decide +kernel : decode m_M_may.2.1 16 = .ok ((.getfield 64), 3)) rfl (by decide) (fun v20 h21 => ?_)
    refine ok_seg (L := [((.iconst 0), 1), ((.aload_n 0), 1)]) (pc' := 21) (ls' := [some (.ref x0), some (.int x1), none, none]) (st' := [.ref x0, .int 0, .ref v20]) (w' := r17.1) (by decide +kernel) rfl ?_
    refine ok_gr (by decide +kernel : decode m_M_may.2.1 21 = .ok ((.getfield 82), 3)) rfl (by decide) (fun v22 h23 => ?_)
    refine ok_seg (L := [((.iconst 0), 1)]) (pc' := 25) (ls' := [some (.ref x0), some (.int x1), none, none]) (st' := [.int 0, .ref v22, .int 0, .ref v20]) (w' := r17.1) (by decide +kernel) rfl ?_
    refine ok_call0 (inj' := am_jv) (by decide +kernel : decode m_M_may.2.1 25 = .ok ((.invokestatic 156), 3)) rfl (fun _ _ => rfl) (o_M_copy (d + 2) (v20) (0) (v22) (0) r17.1) (fun _ _ => rfl) (fun r24 h25 => ?_)
    refine ok_seg (L := [((.iconst 0), 1), ((.istore_n 2), 1), ((.iconst 1), 1), ((.istore_n 3), 1)]) (pc' := 32) (ls' := [some (.ref x0), some (.int x1), some (.int 0), some (.int 1)]) (st' := []) (w' := r24.1) (by decide +kernel) rfl ?_
    exact o_M_may_p32 am_N x0 x1 0 1 r24.1
  · skip
    refine ok_seg (L := [((.iconst (-1)), 1)]) (pc' := 14) (ls' := [some (.ref x0), some (.int x1), none, none]) (st' := [.int (-1)]) (w' := r17.1) (by decide +kernel) rfl ?_
    exact ok_ret (v := (-1)) (by decide +kernel : decode m_M_may.2.1 14 = .ok (.ireturn, 1)) rfl
-- m_M_meets
def f_M_meets_p2 : Nat → Nat → Int64 → Int32 → am_W → Option (am_W × Int32)
  | 0, _, _, _, _ => none
  | n + 1, x0, x1, x3, w => ((am_gi w x0 7 23).bind fun v1 => (if v1 ≤ x3 then (some (w, 1)) else ((am_gr w x0 7 22).bind fun v4 => ((am_aj w v4 x3).bind fun v6 => (if ¬ (lg_cmp (v6 &&& x1) 0) = 0 then (f_M_meets_p2 n x0 x1 (x3 + 1) w) else (some (w, 0)))))))
def e_M_meets (x0 : Nat) (x1 : Int64) (w : am_W) : Option (am_W × Int32) := (f_M_meets_p2 am_N x0 x1 0 w)
def f_M_meets (x0 : Nat) (x1 : Int64) (w : am_W) : Option (am_W × Int32) := am_self w x0 7 (e_M_meets x0 x1 w)
theorem o_M_meets_p2 {d : Nat} : ∀ (n : Nat) (x0 : Nat) (x1 : Int64) (x3 : Int32) (y2 : Option Value) (w : am_W), am_Ok am_ji (d + 0) m_M_meets 2 [some (.ref x0), some (.long x1), y2, some (.int x3)] [] w (f_M_meets_p2 n x0 x1 x3 w) := by
  intro n
  induction n with
  | zero => intros; exact ok_none
  | succ n ih =>
    intro x0 x1 x3 y2 w
    unfold f_M_meets_p2
    refine ok_seg (L := [((.iload_n 3), 1), ((.aload_n 0), 1)]) (pc' := 4) (ls' := [some (.ref x0), some (.long x1), y2, some (.int x3)]) (st' := [.ref x0, .int x3]) (w' := w) (by decide +kernel) rfl ?_
    refine ok_gi (by decide +kernel : decode m_M_meets.2.1 4 = .ok ((.getfield 181), 3)) rfl (fun v1 h2 => ?_)
    refine ok_br (P := v1 ≤ x3) (off := 24) (t := 31) (by decide +kernel : decode m_M_meets.2.1 7 = .ok ((.if_icmp .ge 24), 3)) rfl rfl rfl rfl (fun c3 => ?_) (fun c3 => ?_)
    · skip
      refine ok_seg (L := [((.iconst 1), 1)]) (pc' := 32) (ls' := [some (.ref x0), some (.long x1), y2, some (.int x3)]) (st' := [.int 1]) (w' := w) (by decide +kernel) rfl ?_
      exact ok_ret (v := 1) (by decide +kernel : decode m_M_meets.2.1 32 = .ok (.ireturn, 1)) rfl
    · skip
      refine ok_seg (L := [((.aload_n 0), 1)]) (pc' := 11) (ls' := [some (.ref x0), some (.long x1), y2, some (.int x3)]) (st' := [.ref x0]) (w' := w) (by decide +kernel) rfl ?_
      refine ok_gr (by decide +kernel : decode m_M_meets.2.1 11 = .ok ((.getfield 92), 3)) rfl (by decide) (fun v4 h5 => ?_)
      refine ok_seg (L := [((.iload_n 3), 1)]) (pc' := 15) (ls' := [some (.ref x0), some (.long x1), y2, some (.int x3)]) (st' := [.int x3, .ref v4]) (w' := w) (by decide +kernel) rfl ?_
      refine ok_aj (by decide +kernel : decode m_M_meets.2.1 15 = .ok (.laload, 1)) (fun v6 h7 => ?_)
      refine ok_seg (L := [((.lload_n 1), 1), (.land, 1), ((.lconst 0), 1), (.lcmp, 1)]) (pc' := 20) (ls' := [some (.ref x0), some (.long x1), y2, some (.int x3)]) (st' := [.int (lg_cmp (v6 &&& x1) 0)]) (w' := w) (by decide +kernel) rfl ?_
      refine ok_br (P := ¬ (lg_cmp (v6 &&& x1) 0) = 0) (off := 5) (t := 25) (by decide +kernel : decode m_M_meets.2.1 20 = .ok ((.ifCond .ne 5), 3)) rfl rfl rfl rfl (fun c8 => ?_) (fun c8 => ?_)
      · skip
        refine ok_seg (L := [((.iinc 3 1), 3)]) (pc' := 28) (ls' := [some (.ref x0), some (.long x1), y2, some (.int (x3 + 1))]) (st' := []) (w' := w) (by decide +kernel) rfl ?_
        refine ok_goto (t := 2) (by decide +kernel : decode m_M_meets.2.1 28 = .ok ((.goto (-26)), 3)) rfl ?_
        exact ih x0 x1 (x3 + 1) y2 w
      · skip
        refine ok_seg (L := [((.iconst 0), 1)]) (pc' := 24) (ls' := [some (.ref x0), some (.long x1), y2, some (.int x3)]) (st' := [.int 0]) (w' := w) (by decide +kernel) rfl ?_
        exact ok_ret (v := 0) (by decide +kernel : decode m_M_meets.2.1 24 = .ok (.ireturn, 1)) rfl
theorem o_M_meets (d : Nat) (x0 : Nat) (x1 : Int64) (w : am_W) : am_Ok am_ji (d + 0) m_M_meets 0 (am_en m_M_meets [.ref x0, .long x1]) [] w (f_M_meets x0 x1 w) := by
  show am_Ok _ _ _ 0 [some (.ref x0), some (.long x1), none, none] [] w _
  unfold f_M_meets
  refine ok_self ?_
  unfold e_M_meets
  refine ok_seg (L := [((.iconst 0), 1), ((.istore_n 3), 1)]) (pc' := 2) (ls' := [some (.ref x0), some (.long x1), none, some (.int 0)]) (st' := []) (w' := w) (by decide +kernel) rfl ?_
  exact o_M_meets_p2 am_N x0 x1 0 none w
-- m_M_mend
def f_M_mend_p116 (k101 : Nat → Int32 → Int32 → am_W → Option (am_W × Int64)) (k108 : Nat → Int32 → Int32 → Int32 → am_W → Option (am_W × Int64)) : Nat → Nat → Int32 → Int32 → Int32 → Int32 → am_W → Option (am_W × Int64)
  | 0, _, _, _, _, _, _ => none
  | n + 1, x0, x1, x2, x3, x4, w => (if x3 ≤ x4 then (k108 x0 x1 x2 (x3 + 1) w) else ((f_M_meets (x0) ((((1 <<< (Int32.toInt64 x2 &&& 63)) ||| (1 <<< (Int32.toInt64 x3 &&& 63))) ||| (1 <<< (Int32.toInt64 x4 &&& 63)))) w).bind fun r2 => (if r2.2 = 0 then (f_M_mend_p116 k101 k108 n x0 x1 x2 x3 (x4 + 1) r2.1) else (some (r2.1, (((1 <<< (Int32.toInt64 x2 &&& 63)) ||| (1 <<< (Int32.toInt64 x3 &&& 63))) ||| (1 <<< (Int32.toInt64 x4 &&& 63))))))))
def f_M_mend_p108 (k101 : Nat → Int32 → Int32 → am_W → Option (am_W × Int64)) : Nat → Nat → Int32 → Int32 → Int32 → am_W → Option (am_W × Int64)
  | 0, _, _, _, _, _ => none
  | n + 1, x0, x1, x2, x3, w => (if x2 ≤ x3 then (k101 x0 x1 (x2 + 1) w) else (f_M_mend_p116 k101 (f_M_mend_p108 k101 n) am_N x0 x1 x2 x3 0 w))
def f_M_mend_p101 : Nat → Nat → Int32 → Int32 → am_W → Option (am_W × Int64)
  | 0, _, _, _, _ => none
  | n + 1, x0, x1, x2, w => (if x1 ≤ x2 then ((f_M_refuse (x0) w).bind fun r7 => (some (r7.1, (Int32.toInt64 r7.2)))) else (f_M_mend_p108 (f_M_mend_p101 n) am_N x0 x1 x2 1 w))
def f_M_mend_p60 (k53 : Nat → Int32 → Int32 → am_W → Option (am_W × Int64)) : Nat → Nat → Int32 → Int32 → Int32 → am_W → Option (am_W × Int64)
  | 0, _, _, _, _, _ => none
  | n + 1, x0, x1, x2, x3, w => (if x2 ≤ x3 then (k53 x0 x1 (x2 + 1) w) else ((f_M_meets (x0) (((1 <<< (Int32.toInt64 x2 &&& 63)) ||| (1 <<< (Int32.toInt64 x3 &&& 63)))) w).bind fun r10 => (if r10.2 = 0 then (f_M_mend_p60 k53 n x0 x1 x2 (x3 + 1) r10.1) else (some (r10.1, ((1 <<< (Int32.toInt64 x2 &&& 63)) ||| (1 <<< (Int32.toInt64 x3 &&& 63))))))))
def f_M_mend_p53 : Nat → Nat → Int32 → Int32 → am_W → Option (am_W × Int64)
  | 0, _, _, _, _ => none
  | n + 1, x0, x1, x2, w => (if x1 ≤ x2 then (f_M_mend_p101 am_N x0 x1 2 w) else (f_M_mend_p60 (f_M_mend_p53 n) am_N x0 x1 x2 0 w))
def f_M_mend_p26 : Nat → Nat → Int32 → Int32 → am_W → Option (am_W × Int64)
  | 0, _, _, _, _ => none
  | n + 1, x0, x1, x2, w => (if x1 ≤ x2 then (f_M_mend_p53 am_N x0 x1 1 w) else ((f_M_meets (x0) ((1 <<< (Int32.toInt64 x2 &&& 63))) w).bind fun r15 => (if r15.2 = 0 then (f_M_mend_p26 n x0 x1 (x2 + 1) r15.1) else (some (r15.1, (1 <<< (Int32.toInt64 x2 &&& 63)))))))
def e_M_mend (x0 : Nat) (w : am_W) : Option (am_W × Int64) := ((am_pv w x0 7 0 (.int 0)).bind fun w18 => ((f_M_laysFours (x0) (0) w18).bind fun r20 => ((am_gi r20.1 x0 7 23).bind fun v22 => (if ¬ v22 = 0 then ((f_M_cellMany (x0) r20.1).bind fun r25 => (f_M_mend_p26 am_N x0 r25.2 0 r25.1)) else (some (r20.1, 0))))))
def f_M_mend (x0 : Nat) (w : am_W) : Option (am_W × Int64) := am_self w x0 7 (e_M_mend x0 w)
theorem o_M_mend_p116 {d : Nat} {k101 : Nat → Int32 → Int32 → am_W → Option (am_W × Int64)} {k108 : Nat → Int32 → Int32 → Int32 → am_W → Option (am_W × Int64)} (hk101 : ∀ (x0 : Nat) (x1 : Int32) (x2 : Int32) (y3 y4 : Option Value) (w : am_W), am_Ok am_jj (d + 3) m_M_mend 101 [some (.ref x0), some (.int x1), some (.int x2), y3, y4] [] w (k101 x0 x1 x2 w)) (hk108 : ∀ (x0 : Nat) (x1 : Int32) (x2 : Int32) (x3 : Int32) (y4 : Option Value) (w : am_W), am_Ok am_jj (d + 3) m_M_mend 108 [some (.ref x0), some (.int x1), some (.int x2), some (.int x3), y4] [] w (k108 x0 x1 x2 x3 w)) : ∀ (n : Nat) (x0 : Nat) (x1 : Int32) (x2 : Int32) (x3 : Int32) (x4 : Int32) (w : am_W), am_Ok am_jj (d + 3) m_M_mend 116 [some (.ref x0), some (.int x1), some (.int x2), some (.int x3), some (.int x4)] [] w (f_M_mend_p116 k101 k108 n x0 x1 x2 x3 x4 w) := by
  intro n
  induction n with
  | zero => intros; exact ok_none
  | succ n ih =>
    intro x0 x1 x2 x3 x4 w
    unfold f_M_mend_p116
    refine ok_seg (L := [((.iload 4), 2), ((.iload_n 3), 1)]) (pc' := 119) (ls' := [some (.ref x0), some (.int x1), some (.int x2), some (.int x3), some (.int x4)]) (st' := [.int x3, .int x4]) (w' := w) (by decide +kernel) rfl ?_
    refine ok_br (P := x3 ≤ x4) (off := 41) (t := 160) (by decide +kernel : decode m_M_mend.2.1 119 = .ok ((.if_icmp .ge 41), 3)) rfl rfl rfl rfl (fun c1 => ?_) (fun c1 => ?_)
    · skip
      refine ok_seg (L := [((.iinc 3 1), 3)]) (pc' := 163) (ls' := [some (.ref x0), some (.int x1), some (.int x2), some (.int (x3 + 1)), some (.int x4)]) (st' := []) (w' := w) (by decide +kernel) rfl ?_
      refine ok_goto (t := 108) (by decide +kernel : decode m_M_mend.2.1 163 = .ok ((.goto (-55)), 3)) rfl ?_
      exact hk108 x0 x1 x2 (x3 + 1) (some (.int x4)) w
    · skip
      refine ok_seg (L := [((.aload_n 0), 1), ((.lconst 1), 1), ((.iload_n 2), 1), (.lshl, 1), ((.lconst 1), 1), ((.iload_n 3), 1), (.lshl, 1), (.lor, 1), ((.lconst 1), 1), ((.iload 4), 2), (.lshl, 1), (.lor, 1)]) (pc' := 135) (ls' := [some (.ref x0), some (.int x1), some (.int x2), some (.int x3), some (.int x4)]) (st' := [.long (((1 <<< (Int32.toInt64 x2 &&& 63)) ||| (1 <<< (Int32.toInt64 x3 &&& 63))) ||| (1 <<< (Int32.toInt64 x4 &&& 63))), .ref x0]) (w' := w) (by decide +kernel) rfl ?_
      refine ok_call0 (inj' := am_ji) (by decide +kernel : decode m_M_mend.2.1 135 = .ok ((.invokevirtual 212), 3)) rfl (fun q hq => am_iv0 (am_self_eq hq).1 rfl rfl rfl) (o_M_meets (d + 2) (x0) ((((1 <<< (Int32.toInt64 x2 &&& 63)) ||| (1 <<< (Int32.toInt64 x3 &&& 63))) ||| (1 <<< (Int32.toInt64 x4 &&& 63)))) w) (fun _ _ => rfl) (fun r2 h3 => ?_)
      refine ok_br (P := r2.2 = 0) (off := 16) (t := 154) (by decide +kernel : decode m_M_mend.2.1 138 = .ok ((.ifCond .eq 16), 3)) rfl rfl rfl rfl (fun c4 => ?_) (fun c4 => ?_)
      · skip
        refine ok_seg (L := [((.iinc 4 1), 3)]) (pc' := 157) (ls' := [some (.ref x0), some (.int x1), some (.int x2), some (.int x3), some (.int (x4 + 1))]) (st' := []) (w' := r2.1) (by decide +kernel) rfl ?_
        refine ok_goto (t := 116) (by decide +kernel : decode m_M_mend.2.1 157 = .ok ((.goto (-41)), 3)) rfl ?_
        exact ih x0 x1 x2 x3 (x4 + 1) r2.1
      · skip
        refine ok_seg (L := [((.lconst 1), 1), ((.iload_n 2), 1), (.lshl, 1), ((.lconst 1), 1), ((.iload_n 3), 1), (.lshl, 1), (.lor, 1), ((.lconst 1), 1), ((.iload 4), 2), (.lshl, 1), (.lor, 1)]) (pc' := 153) (ls' := [some (.ref x0), some (.int x1), some (.int x2), some (.int x3), some (.int x4)]) (st' := [.long (((1 <<< (Int32.toInt64 x2 &&& 63)) ||| (1 <<< (Int32.toInt64 x3 &&& 63))) ||| (1 <<< (Int32.toInt64 x4 &&& 63)))]) (w' := r2.1) (by decide +kernel) rfl ?_
        exact ok_ret (v := (((1 <<< (Int32.toInt64 x2 &&& 63)) ||| (1 <<< (Int32.toInt64 x3 &&& 63))) ||| (1 <<< (Int32.toInt64 x4 &&& 63)))) (by decide +kernel : decode m_M_mend.2.1 153 = .ok (.lreturn, 1)) rfl
theorem o_M_mend_p108 {d : Nat} {k101 : Nat → Int32 → Int32 → am_W → Option (am_W × Int64)} (hk101 : ∀ (x0 : Nat) (x1 : Int32) (x2 : Int32) (y3 y4 : Option Value) (w : am_W), am_Ok am_jj (d + 3) m_M_mend 101 [some (.ref x0), some (.int x1), some (.int x2), y3, y4] [] w (k101 x0 x1 x2 w)) : ∀ (n : Nat) (x0 : Nat) (x1 : Int32) (x2 : Int32) (x3 : Int32) (y4 : Option Value) (w : am_W), am_Ok am_jj (d + 3) m_M_mend 108 [some (.ref x0), some (.int x1), some (.int x2), some (.int x3), y4] [] w (f_M_mend_p108 k101 n x0 x1 x2 x3 w) := by
  intro n
  induction n with
  | zero => intros; exact ok_none
  | succ n ih =>
    intro x0 x1 x2 x3 y4 w
    unfold f_M_mend_p108
    refine ok_seg (L := [((.iload_n 3), 1), ((.iload_n 2), 1)]) (pc' := 110) (ls' := [some (.ref x0), some (.int x1), some (.int x2), some (.int x3), y4]) (st' := [.int x2, .int x3]) (w' := w) (by decide +kernel) rfl ?_
    refine ok_br (P := x2 ≤ x3) (off := 56) (t := 166) (by decide +kernel : decode m_M_mend.2.1 110 = .ok ((.if_icmp .ge 56), 3)) rfl rfl rfl rfl (fun c5 => ?_) (fun c5 => ?_)
    · skip
      refine ok_seg (L := [((.iinc 2 1), 3)]) (pc' := 169) (ls' := [some (.ref x0), some (.int x1), some (.int (x2 + 1)), some (.int x3), y4]) (st' := []) (w' := w) (by decide +kernel) rfl ?_
      refine ok_goto (t := 101) (by decide +kernel : decode m_M_mend.2.1 169 = .ok ((.goto (-68)), 3)) rfl ?_
      exact hk101 x0 x1 (x2 + 1) (some (.int x3)) y4 w
    · skip
      refine ok_seg (L := [((.iconst 0), 1), ((.istore 4), 2)]) (pc' := 116) (ls' := [some (.ref x0), some (.int x1), some (.int x2), some (.int x3), some (.int 0)]) (st' := []) (w' := w) (by decide +kernel) rfl ?_
      exact o_M_mend_p116 hk101 ih am_N x0 x1 x2 x3 0 w
theorem o_M_mend_p101 {d : Nat} : ∀ (n : Nat) (x0 : Nat) (x1 : Int32) (x2 : Int32) (y3 y4 : Option Value) (w : am_W), am_Ok am_jj (d + 3) m_M_mend 101 [some (.ref x0), some (.int x1), some (.int x2), y3, y4] [] w (f_M_mend_p101 n x0 x1 x2 w) := by
  intro n
  induction n with
  | zero => intros; exact ok_none
  | succ n ih =>
    intro x0 x1 x2 y3 y4 w
    unfold f_M_mend_p101
    refine ok_seg (L := [((.iload_n 2), 1), ((.iload_n 1), 1)]) (pc' := 103) (ls' := [some (.ref x0), some (.int x1), some (.int x2), y3, y4]) (st' := [.int x1, .int x2]) (w' := w) (by decide +kernel) rfl ?_
    refine ok_br (P := x1 ≤ x2) (off := 69) (t := 172) (by decide +kernel : decode m_M_mend.2.1 103 = .ok ((.if_icmp .ge 69), 3)) rfl rfl rfl rfl (fun c6 => ?_) (fun c6 => ?_)
    · skip
      refine ok_seg (L := [((.aload_n 0), 1)]) (pc' := 173) (ls' := [some (.ref x0), some (.int x1), some (.int x2), y3, y4]) (st' := [.ref x0]) (w' := w) (by decide +kernel) rfl ?_
      refine ok_call0 (inj' := am_ji) (by decide +kernel : decode m_M_mend.2.1 173 = .ok ((.invokevirtual 205), 3)) rfl (fun q hq => am_iv0 (am_self_eq hq).1 rfl rfl rfl) (o_M_refuse (d + 2) (x0) w) (fun _ _ => rfl) (fun r7 h8 => ?_)
      refine ok_seg (L := [(.i2l, 1)]) (pc' := 177) (ls' := [some (.ref x0), some (.int x1), some (.int x2), y3, y4]) (st' := [.long (Int32.toInt64 r7.2)]) (w' := r7.1) (by decide +kernel) rfl ?_
      exact ok_ret (v := (Int32.toInt64 r7.2)) (by decide +kernel : decode m_M_mend.2.1 177 = .ok (.lreturn, 1)) rfl
    · skip
      refine ok_seg (L := [((.iconst 1), 1), ((.istore_n 3), 1)]) (pc' := 108) (ls' := [some (.ref x0), some (.int x1), some (.int x2), some (.int 1), y4]) (st' := []) (w' := w) (by decide +kernel) rfl ?_
      exact o_M_mend_p108 ih am_N x0 x1 x2 1 y4 w
theorem o_M_mend_p60 {d : Nat} {k53 : Nat → Int32 → Int32 → am_W → Option (am_W × Int64)} (hk53 : ∀ (x0 : Nat) (x1 : Int32) (x2 : Int32) (y3 y4 : Option Value) (w : am_W), am_Ok am_jj (d + 3) m_M_mend 53 [some (.ref x0), some (.int x1), some (.int x2), y3, y4] [] w (k53 x0 x1 x2 w)) : ∀ (n : Nat) (x0 : Nat) (x1 : Int32) (x2 : Int32) (x3 : Int32) (y4 : Option Value) (w : am_W), am_Ok am_jj (d + 3) m_M_mend 60 [some (.ref x0), some (.int x1), some (.int x2), some (.int x3), y4] [] w (f_M_mend_p60 k53 n x0 x1 x2 x3 w) := by
  intro n
  induction n with
  | zero => intros; exact ok_none
  | succ n ih =>
    intro x0 x1 x2 x3 y4 w
    unfold f_M_mend_p60
    refine ok_seg (L := [((.iload_n 3), 1), ((.iload_n 2), 1)]) (pc' := 62) (ls' := [some (.ref x0), some (.int x1), some (.int x2), some (.int x3), y4]) (st' := [.int x2, .int x3]) (w' := w) (by decide +kernel) rfl ?_
    refine ok_br (P := x2 ≤ x3) (off := 31) (t := 93) (by decide +kernel : decode m_M_mend.2.1 62 = .ok ((.if_icmp .ge 31), 3)) rfl rfl rfl rfl (fun c9 => ?_) (fun c9 => ?_)
    · skip
      refine ok_seg (L := [((.iinc 2 1), 3)]) (pc' := 96) (ls' := [some (.ref x0), some (.int x1), some (.int (x2 + 1)), some (.int x3), y4]) (st' := []) (w' := w) (by decide +kernel) rfl ?_
      refine ok_goto (t := 53) (by decide +kernel : decode m_M_mend.2.1 96 = .ok ((.goto (-43)), 3)) rfl ?_
      exact hk53 x0 x1 (x2 + 1) (some (.int x3)) y4 w
    · skip
      refine ok_seg (L := [((.aload_n 0), 1), ((.lconst 1), 1), ((.iload_n 2), 1), (.lshl, 1), ((.lconst 1), 1), ((.iload_n 3), 1), (.lshl, 1), (.lor, 1)]) (pc' := 73) (ls' := [some (.ref x0), some (.int x1), some (.int x2), some (.int x3), y4]) (st' := [.long ((1 <<< (Int32.toInt64 x2 &&& 63)) ||| (1 <<< (Int32.toInt64 x3 &&& 63))), .ref x0]) (w' := w) (by decide +kernel) rfl ?_
      refine ok_call0 (inj' := am_ji) (by decide +kernel : decode m_M_mend.2.1 73 = .ok ((.invokevirtual 212), 3)) rfl (fun q hq => am_iv0 (am_self_eq hq).1 rfl rfl rfl) (o_M_meets (d + 2) (x0) (((1 <<< (Int32.toInt64 x2 &&& 63)) ||| (1 <<< (Int32.toInt64 x3 &&& 63)))) w) (fun _ _ => rfl) (fun r10 h11 => ?_)
      refine ok_br (P := r10.2 = 0) (off := 11) (t := 87) (by decide +kernel : decode m_M_mend.2.1 76 = .ok ((.ifCond .eq 11), 3)) rfl rfl rfl rfl (fun c12 => ?_) (fun c12 => ?_)
      · skip
        refine ok_seg (L := [((.iinc 3 1), 3)]) (pc' := 90) (ls' := [some (.ref x0), some (.int x1), some (.int x2), some (.int (x3 + 1)), y4]) (st' := []) (w' := r10.1) (by decide +kernel) rfl ?_
        refine ok_goto (t := 60) (by decide +kernel : decode m_M_mend.2.1 90 = .ok ((.goto (-30)), 3)) rfl ?_
        exact ih x0 x1 x2 (x3 + 1) y4 r10.1
      · skip
        refine ok_seg (L := [((.lconst 1), 1), ((.iload_n 2), 1), (.lshl, 1), ((.lconst 1), 1), ((.iload_n 3), 1), (.lshl, 1), (.lor, 1)]) (pc' := 86) (ls' := [some (.ref x0), some (.int x1), some (.int x2), some (.int x3), y4]) (st' := [.long ((1 <<< (Int32.toInt64 x2 &&& 63)) ||| (1 <<< (Int32.toInt64 x3 &&& 63)))]) (w' := r10.1) (by decide +kernel) rfl ?_
        exact ok_ret (v := ((1 <<< (Int32.toInt64 x2 &&& 63)) ||| (1 <<< (Int32.toInt64 x3 &&& 63)))) (by decide +kernel : decode m_M_mend.2.1 86 = .ok (.lreturn, 1)) rfl
theorem o_M_mend_p53 {d : Nat} : ∀ (n : Nat) (x0 : Nat) (x1 : Int32) (x2 : Int32) (y3 y4 : Option Value) (w : am_W), am_Ok am_jj (d + 3) m_M_mend 53 [some (.ref x0), some (.int x1), some (.int x2), y3, y4] [] w (f_M_mend_p53 n x0 x1 x2 w) := by
  intro n
  induction n with
  | zero => intros; exact ok_none
  | succ n ih =>
    intro x0 x1 x2 y3 y4 w
    unfold f_M_mend_p53
    refine ok_seg (L := [((.iload_n 2), 1), ((.iload_n 1), 1)]) (pc' := 55) (ls' := [some (.ref x0), some (.int x1), some (.int x2), y3, y4]) (st' := [.int x1, .int x2]) (w' := w) (by decide +kernel) rfl ?_
    refine ok_br (P := x1 ≤ x2) (off := 44) (t := 99) (by decide +kernel : decode m_M_mend.2.1 55 = .ok ((.if_icmp .ge 44), 3)) rfl rfl rfl rfl (fun c13 => ?_) (fun c13 => ?_)
    · skip
      refine ok_seg (L := [((.iconst 2), 1), ((.istore_n 2), 1)]) (pc' := 101) (ls' := [some (.ref x0), some (.int x1), some (.int 2), y3, y4]) (st' := []) (w' := w) (by decide +kernel) rfl ?_
      exact o_M_mend_p101 am_N x0 x1 2 y3 y4 w
    · skip
      refine ok_seg (L := [((.iconst 0), 1), ((.istore_n 3), 1)]) (pc' := 60) (ls' := [some (.ref x0), some (.int x1), some (.int x2), some (.int 0), y4]) (st' := []) (w' := w) (by decide +kernel) rfl ?_
      exact o_M_mend_p60 ih am_N x0 x1 x2 0 y4 w
theorem o_M_mend_p26 {d : Nat} : ∀ (n : Nat) (x0 : Nat) (x1 : Int32) (x2 : Int32) (y3 y4 : Option Value) (w : am_W), am_Ok am_jj (d + 3) m_M_mend 26 [some (.ref x0), some (.int x1), some (.int x2), y3, y4] [] w (f_M_mend_p26 n x0 x1 x2 w) := by
  intro n
  induction n with
  | zero => intros; exact ok_none
  | succ n ih =>
    intro x0 x1 x2 y3 y4 w
    unfold f_M_mend_p26
    refine ok_seg (L := [((.iload_n 2), 1), ((.iload_n 1), 1)]) (pc' := 28) (ls' := [some (.ref x0), some (.int x1), some (.int x2), y3, y4]) (st' := [.int x1, .int x2]) (w' := w) (by decide +kernel) rfl ?_
    refine ok_br (P := x1 ≤ x2) (off := 23) (t := 51) (by decide +kernel : decode m_M_mend.2.1 28 = .ok ((.if_icmp .ge 23), 3)) rfl rfl rfl rfl (fun c14 => ?_) (fun c14 => ?_)
    · skip
      refine ok_seg (L := [((.iconst 1), 1), ((.istore_n 2), 1)]) (pc' := 53) (ls' := [some (.ref x0), some (.int x1), some (.int 1), y3, y4]) (st' := []) (w' := w) (by decide +kernel) rfl ?_
      exact o_M_mend_p53 am_N x0 x1 1 y3 y4 w
    · skip
      refine ok_seg (L := [((.aload_n 0), 1), ((.lconst 1), 1), ((.iload_n 2), 1), (.lshl, 1)]) (pc' := 35) (ls' := [some (.ref x0), some (.int x1), some (.int x2), y3, y4]) (st' := [.long (1 <<< (Int32.toInt64 x2 &&& 63)), .ref x0]) (w' := w) (by decide +kernel) rfl ?_
      refine ok_call0 (inj' := am_ji) (by decide +kernel : decode m_M_mend.2.1 35 = .ok ((.invokevirtual 212), 3)) rfl (fun q hq => am_iv0 (am_self_eq hq).1 rfl rfl rfl) (o_M_meets (d + 2) (x0) ((1 <<< (Int32.toInt64 x2 &&& 63))) w) (fun _ _ => rfl) (fun r15 h16 => ?_)
      refine ok_br (P := r15.2 = 0) (off := 7) (t := 45) (by decide +kernel : decode m_M_mend.2.1 38 = .ok ((.ifCond .eq 7), 3)) rfl rfl rfl rfl (fun c17 => ?_) (fun c17 => ?_)
      · skip
        refine ok_seg (L := [((.iinc 2 1), 3)]) (pc' := 48) (ls' := [some (.ref x0), some (.int x1), some (.int (x2 + 1)), y3, y4]) (st' := []) (w' := r15.1) (by decide +kernel) rfl ?_
        refine ok_goto (t := 26) (by decide +kernel : decode m_M_mend.2.1 48 = .ok ((.goto (-22)), 3)) rfl ?_
        exact ih x0 x1 (x2 + 1) y3 y4 r15.1
      · skip
        refine ok_seg (L := [((.lconst 1), 1), ((.iload_n 2), 1), (.lshl, 1)]) (pc' := 44) (ls' := [some (.ref x0), some (.int x1), some (.int x2), y3, y4]) (st' := [.long (1 <<< (Int32.toInt64 x2 &&& 63))]) (w' := r15.1) (by decide +kernel) rfl ?_
        exact ok_ret (v := (1 <<< (Int32.toInt64 x2 &&& 63))) (by decide +kernel : decode m_M_mend.2.1 44 = .ok (.lreturn, 1)) rfl
theorem o_M_mend (d : Nat) (x0 : Nat) (w : am_W) : am_Ok am_jj (d + 3) m_M_mend 0 (am_en m_M_mend [.ref x0]) [] w (f_M_mend x0 w) := by
  show am_Ok _ _ _ 0 [some (.ref x0), none, none, none, none] [] w _
  unfold f_M_mend
  refine ok_self ?_
  unfold e_M_mend
  refine ok_seg (L := [((.aload_n 0), 1), ((.iconst 0), 1)]) (pc' := 2) (ls' := [some (.ref x0), none, none, none, none]) (st' := [.int 0, .ref x0]) (w' := w) (by decide +kernel) rfl ?_
  refine ok_pi (by decide +kernel : decode m_M_mend.2.1 2 = .ok ((.putfield 1), 3)) rfl (fun w18 h19 => ?_)
  refine ok_seg (L := [((.aload_n 0), 1), ((.iconst 0), 1)]) (pc' := 7) (ls' := [some (.ref x0), none, none, none, none]) (st' := [.int 0, .ref x0]) (w' := w18) (by decide +kernel) rfl ?_
  refine ok_call0 (inj' := am_jv) (by decide +kernel : decode m_M_mend.2.1 7 = .ok ((.invokevirtual 188), 3)) rfl (fun q hq => am_iv0 (am_self_eq hq).1 rfl rfl rfl) (o_M_laysFours (d + 0) (x0) (0) w18) (fun _ _ => rfl) (fun r20 h21 => ?_)
  refine ok_seg (L := [((.aload_n 0), 1)]) (pc' := 11) (ls' := [some (.ref x0), none, none, none, none]) (st' := [.ref x0]) (w' := r20.1) (by decide +kernel) rfl ?_
  refine ok_gi (by decide +kernel : decode m_M_mend.2.1 11 = .ok ((.getfield 181), 3)) rfl (fun v22 h23 => ?_)
  refine ok_br (P := ¬ v22 = 0) (off := 5) (t := 19) (by decide +kernel : decode m_M_mend.2.1 14 = .ok ((.ifCond .ne 5), 3)) rfl rfl rfl rfl (fun c24 => ?_) (fun c24 => ?_)
  · skip
    refine ok_seg (L := [((.aload_n 0), 1)]) (pc' := 20) (ls' := [some (.ref x0), none, none, none, none]) (st' := [.ref x0]) (w' := r20.1) (by decide +kernel) rfl ?_
    refine ok_call0 (inj' := am_ji) (by decide +kernel : decode m_M_mend.2.1 20 = .ok ((.invokevirtual 170), 3)) rfl (fun q hq => am_iv0 (am_self_eq hq).1 rfl rfl rfl) (o_M_cellMany (d + 1) (x0) r20.1) (fun _ _ => rfl) (fun r25 h26 => ?_)
    refine ok_seg (L := [((.istore_n 1), 1), ((.iconst 0), 1), ((.istore_n 2), 1)]) (pc' := 26) (ls' := [some (.ref x0), some (.int r25.2), some (.int 0), none, none]) (st' := []) (w' := r25.1) (by decide +kernel) rfl ?_
    exact o_M_mend_p26 am_N x0 r25.2 0 none none r25.1
  · skip
    refine ok_seg (L := [((.lconst 0), 1)]) (pc' := 18) (ls' := [some (.ref x0), none, none, none, none]) (st' := [.long 0]) (w' := r20.1) (by decide +kernel) rfl ?_
    exact ok_ret (v := 0) (by decide +kernel : decode m_M_mend.2.1 18 = .ok (.lreturn, 1)) rfl
-- m_M_isSize
def f_M_isSize_p25 (s0 : Int32) (w : am_W) : Option (am_W × Int32) := (am_rb w s0)
def f_M_isSize_p24 (w : am_W) : Option (am_W × Int32) := (f_M_isSize_p25 0 w)
def e_M_isSize (x0 : Int32) (x1 : Int32) (w : am_W) : Option (am_W × Int32) := ((f_M_isIn (x0) (1) (8) w).bind fun r1 => (if r1.2 = 0 then (f_M_isSize_p24 r1.1) else ((f_M_isIn (x1) (1) (6) r1.1).bind fun r4 => (if r4.2 = 0 then (f_M_isSize_p24 r4.1) else (f_M_isSize_p25 1 r4.1)))))
def f_M_isSize (x0 : Int32) (x1 : Int32) (w : am_W) : Option (am_W × Int32) := e_M_isSize x0 x1 w
theorem o_M_isSize_p25 {d : Nat} (s0 : Int32) (y0 y1 : Option Value) (w : am_W) : am_Ok am_ji (d + 1) m_M_isSize 25 [y0, y1] [.int s0] w (f_M_isSize_p25 s0 w) := by
  unfold f_M_isSize_p25
  exact ok_retb (len := 1) (by decide +kernel : decode m_M_isSize.2.1 25 = .ok (.ireturn, 1)) rfl
theorem o_M_isSize_p24 {d : Nat} (y0 y1 : Option Value) (w : am_W) : am_Ok am_ji (d + 1) m_M_isSize 24 [y0, y1] [] w (f_M_isSize_p24 w) := by
  unfold f_M_isSize_p24
  refine ok_seg (L := [((.iconst 0), 1)]) (pc' := 25) (ls' := [y0, y1]) (st' := [.int 0]) (w' := w) (by decide +kernel) rfl ?_
  exact o_M_isSize_p25 0 y0 y1 w
theorem o_M_isSize (d : Nat) (x0 : Int32) (x1 : Int32) (w : am_W) : am_Ok am_ji (d + 1) m_M_isSize 0 (am_en m_M_isSize [.int x0, .int x1]) [] w (f_M_isSize x0 x1 w) := by
  show am_Ok _ _ _ 0 [some (.int x0), some (.int x1)] [] w _
  unfold f_M_isSize
  unfold e_M_isSize
  refine ok_seg (L := [((.iload_n 0), 1), ((.iconst 1), 1), ((.bipush 8), 2)]) (pc' := 4) (ls' := [some (.int x0), some (.int x1)]) (st' := [.int 8, .int 1, .int x0]) (w' := w) (by decide +kernel) rfl ?_
  refine ok_call0 (inj' := am_ji) (by decide +kernel : decode m_M_isSize.2.1 4 = .ok ((.invokestatic 121), 3)) rfl (fun _ _ => rfl) (o_M_isIn (d + 0) (x0) (1) (8) w) (fun _ _ => rfl) (fun r1 h2 => ?_)
  refine ok_br (P := r1.2 = 0) (off := 17) (t := 24) (by decide +kernel : decode m_M_isSize.2.1 7 = .ok ((.ifCond .eq 17), 3)) rfl rfl rfl rfl (fun c3 => ?_) (fun c3 => ?_)
  · skip
    exact o_M_isSize_p24 (some (.int x0)) (some (.int x1)) r1.1
  · skip
    refine ok_seg (L := [((.iload_n 1), 1), ((.iconst 1), 1), ((.bipush 6), 2)]) (pc' := 14) (ls' := [some (.int x0), some (.int x1)]) (st' := [.int 6, .int 1, .int x1]) (w' := r1.1) (by decide +kernel) rfl ?_
    refine ok_call0 (inj' := am_ji) (by decide +kernel : decode m_M_isSize.2.1 14 = .ok ((.invokestatic 121), 3)) rfl (fun _ _ => rfl) (o_M_isIn (d + 0) (x1) (1) (6) r1.1) (fun _ _ => rfl) (fun r4 h5 => ?_)
    refine ok_br (P := r4.2 = 0) (off := 7) (t := 24) (by decide +kernel : decode m_M_isSize.2.1 17 = .ok ((.ifCond .eq 7), 3)) rfl rfl rfl rfl (fun c6 => ?_) (fun c6 => ?_)
    · skip
      exact o_M_isSize_p24 (some (.int x0)) (some (.int x1)) r4.1
    · skip
      refine ok_seg (L := [((.iconst 1), 1)]) (pc' := 21) (ls' := [some (.int x0), some (.int x1)]) (st' := [.int 1]) (w' := r4.1) (by decide +kernel) rfl ?_
      refine ok_goto (t := 25) (by decide +kernel : decode m_M_isSize.2.1 21 = .ok ((.goto 4), 3)) rfl ?_
      exact o_M_isSize_p25 1 (some (.int x0)) (some (.int x1)) r4.1
-- m_M_bits
def f_M_bits_p4 : Nat → Int32 → Int32 → am_W → Option (am_W × Int32)
  | 0, _, _, _ => none
  | n + 1, x1, x2, w => (if x2 = 0 then (some (w, x1)) else (f_M_bits_p4 n (x1 + 1) (x2 &&& (x2 - 1)) w))
def e_M_bits (x0 : Int32) (w : am_W) : Option (am_W × Int32) := (f_M_bits_p4 am_N 0 x0 w)
def f_M_bits (x0 : Int32) (w : am_W) : Option (am_W × Int32) := e_M_bits x0 w
theorem o_M_bits_p4 {d : Nat} : ∀ (n : Nat) (x1 : Int32) (x2 : Int32) (y0 : Option Value) (w : am_W), am_Ok am_ji (d + 0) m_M_bits 4 [y0, some (.int x1), some (.int x2)] [] w (f_M_bits_p4 n x1 x2 w) := by
  intro n
  induction n with
  | zero => intros; exact ok_none
  | succ n ih =>
    intro x1 x2 y0 w
    unfold f_M_bits_p4
    refine ok_seg (L := [((.iload_n 2), 1)]) (pc' := 5) (ls' := [y0, some (.int x1), some (.int x2)]) (st' := [.int x2]) (w' := w) (by decide +kernel) rfl ?_
    refine ok_br (P := x2 = 0) (off := 15) (t := 20) (by decide +kernel : decode m_M_bits.2.1 5 = .ok ((.ifCond .eq 15), 3)) rfl rfl rfl rfl (fun c1 => ?_) (fun c1 => ?_)
    · skip
      refine ok_seg (L := [((.iload_n 1), 1)]) (pc' := 21) (ls' := [y0, some (.int x1), some (.int x2)]) (st' := [.int x1]) (w' := w) (by decide +kernel) rfl ?_
      exact ok_ret (v := x1) (by decide +kernel : decode m_M_bits.2.1 21 = .ok (.ireturn, 1)) rfl
    · skip
      refine ok_seg (L := [((.iinc 1 1), 3), ((.iload_n 2), 1), ((.iload_n 2), 1), ((.iconst 1), 1), (.isub, 1), (.iand, 1), ((.istore_n 2), 1)]) (pc' := 17) (ls' := [y0, some (.int (x1 + 1)), some (.int (x2 &&& (x2 - 1)))]) (st' := []) (w' := w) (by decide +kernel) rfl ?_
      refine ok_goto (t := 4) (by decide +kernel : decode m_M_bits.2.1 17 = .ok ((.goto (-13)), 3)) rfl ?_
      exact ih (x1 + 1) (x2 &&& (x2 - 1)) y0 w
theorem o_M_bits (d : Nat) (x0 : Int32) (w : am_W) : am_Ok am_ji (d + 0) m_M_bits 0 (am_en m_M_bits [.int x0]) [] w (f_M_bits x0 w) := by
  show am_Ok _ _ _ 0 [some (.int x0), none, none] [] w _
  unfold f_M_bits
  unfold e_M_bits
  refine ok_seg (L := [((.iconst 0), 1), ((.istore_n 1), 1), ((.iload_n 0), 1), ((.istore_n 2), 1)]) (pc' := 4) (ls' := [some (.int x0), some (.int 0), some (.int x0)]) (st' := []) (w' := w) (by decide +kernel) rfl ?_
  exact o_M_bits_p4 am_N 0 x0 (some (.int x0)) w
-- m_M_pairs
def f_M_pairs_p51 (k7 : Int32 → Int32 → Int32 → Int32 → Int32 → am_W → Option (am_W × Int32)) (k19 : Int32 → Int32 → Int32 → Int32 → Int32 → Int32 → am_W → Option (am_W × Int32)) (x0 : Int32) (x1 : Int32) (x2 : Int32) (x3 : Int32) (x4 : Int32) (x5 : Int32) (w : am_W) : Option (am_W × Int32) := (k19 x0 x1 x2 (x3 + 1) x4 (x5 + 1) w)
def f_M_pairs_p19 (k7 : Int32 → Int32 → Int32 → Int32 → Int32 → am_W → Option (am_W × Int32)) : Nat → Int32 → Int32 → Int32 → Int32 → Int32 → Int32 → am_W → Option (am_W × Int32)
  | 0, _, _, _, _, _, _, _ => none
  | n + 1, x0, x1, x2, x3, x4, x5, w => (if x1 ≤ x5 then (k7 x0 x1 x2 x3 (x4 + 1) w) else (if ¬ ((x0 >>> (x4 &&& 31)) &&& 1) = 1 then (f_M_pairs_p51 k7 (f_M_pairs_p19 k7 n) x0 x1 x2 x3 x4 x5 w) else (if ¬ ((x0 >>> (x5 &&& 31)) &&& 1) = 1 then (f_M_pairs_p51 k7 (f_M_pairs_p19 k7 n) x0 x1 x2 x3 x4 x5 w) else (f_M_pairs_p51 k7 (f_M_pairs_p19 k7 n) x0 x1 (x2 ||| (1 <<< (x3 &&& 31))) x3 x4 x5 w))))
def f_M_pairs_p7 : Nat → Int32 → Int32 → Int32 → Int32 → Int32 → am_W → Option (am_W × Int32)
  | 0, _, _, _, _, _, _ => none
  | n + 1, x0, x1, x2, x3, x4, w => (if x1 ≤ x4 then (some (w, x2)) else (f_M_pairs_p19 (f_M_pairs_p7 n) am_N x0 x1 x2 x3 x4 (x4 + 1) w))
def e_M_pairs (x0 : Int32) (x1 : Int32) (w : am_W) : Option (am_W × Int32) := (f_M_pairs_p7 am_N x0 x1 0 0 0 w)
def f_M_pairs (x0 : Int32) (x1 : Int32) (w : am_W) : Option (am_W × Int32) := e_M_pairs x0 x1 w
theorem o_M_pairs_p51 {d : Nat} {k7 : Int32 → Int32 → Int32 → Int32 → Int32 → am_W → Option (am_W × Int32)} {k19 : Int32 → Int32 → Int32 → Int32 → Int32 → Int32 → am_W → Option (am_W × Int32)} (hk7 : ∀ (x0 : Int32) (x1 : Int32) (x2 : Int32) (x3 : Int32) (x4 : Int32) (y5 : Option Value) (w : am_W), am_Ok am_ji (d + 0) m_M_pairs 7 [some (.int x0), some (.int x1), some (.int x2), some (.int x3), some (.int x4), y5] [] w (k7 x0 x1 x2 x3 x4 w)) (hk19 : ∀ (x0 : Int32) (x1 : Int32) (x2 : Int32) (x3 : Int32) (x4 : Int32) (x5 : Int32) (w : am_W), am_Ok am_ji (d + 0) m_M_pairs 19 [some (.int x0), some (.int x1), some (.int x2), some (.int x3), some (.int x4), some (.int x5)] [] w (k19 x0 x1 x2 x3 x4 x5 w)) (x0 : Int32) (x1 : Int32) (x2 : Int32) (x3 : Int32) (x4 : Int32) (x5 : Int32) (w : am_W) : am_Ok am_ji (d + 0) m_M_pairs 51 [some (.int x0), some (.int x1), some (.int x2), some (.int x3), some (.int x4), some (.int x5)] [] w (f_M_pairs_p51 k7 k19 x0 x1 x2 x3 x4 x5 w) := by
  unfold f_M_pairs_p51
  refine ok_seg (L := [((.iinc 3 1), 3), ((.iinc 5 1), 3)]) (pc' := 57) (ls' := [some (.int x0), some (.int x1), some (.int x2), some (.int (x3 + 1)), some (.int x4), some (.int (x5 + 1))]) (st' := []) (w' := w) (by decide +kernel) rfl ?_
  refine ok_goto (t := 19) (by decide +kernel : decode m_M_pairs.2.1 57 = .ok ((.goto (-38)), 3)) rfl ?_
  exact hk19 x0 x1 x2 (x3 + 1) x4 (x5 + 1) w
theorem o_M_pairs_p19 {d : Nat} {k7 : Int32 → Int32 → Int32 → Int32 → Int32 → am_W → Option (am_W × Int32)} (hk7 : ∀ (x0 : Int32) (x1 : Int32) (x2 : Int32) (x3 : Int32) (x4 : Int32) (y5 : Option Value) (w : am_W), am_Ok am_ji (d + 0) m_M_pairs 7 [some (.int x0), some (.int x1), some (.int x2), some (.int x3), some (.int x4), y5] [] w (k7 x0 x1 x2 x3 x4 w)) : ∀ (n : Nat) (x0 : Int32) (x1 : Int32) (x2 : Int32) (x3 : Int32) (x4 : Int32) (x5 : Int32) (w : am_W), am_Ok am_ji (d + 0) m_M_pairs 19 [some (.int x0), some (.int x1), some (.int x2), some (.int x3), some (.int x4), some (.int x5)] [] w (f_M_pairs_p19 k7 n x0 x1 x2 x3 x4 x5 w) := by
  intro n
  induction n with
  | zero => intros; exact ok_none
  | succ n ih =>
    intro x0 x1 x2 x3 x4 x5 w
    unfold f_M_pairs_p19
    refine ok_seg (L := [((.iload 5), 2), ((.iload_n 1), 1)]) (pc' := 22) (ls' := [some (.int x0), some (.int x1), some (.int x2), some (.int x3), some (.int x4), some (.int x5)]) (st' := [.int x1, .int x5]) (w' := w) (by decide +kernel) rfl ?_
    refine ok_br (P := x1 ≤ x5) (off := 38) (t := 60) (by decide +kernel : decode m_M_pairs.2.1 22 = .ok ((.if_icmp .ge 38), 3)) rfl rfl rfl rfl (fun c1 => ?_) (fun c1 => ?_)
    · skip
      refine ok_seg (L := [((.iinc 4 1), 3)]) (pc' := 63) (ls' := [some (.int x0), some (.int x1), some (.int x2), some (.int x3), some (.int (x4 + 1)), some (.int x5)]) (st' := []) (w' := w) (by decide +kernel) rfl ?_
      refine ok_goto (t := 7) (by decide +kernel : decode m_M_pairs.2.1 63 = .ok ((.goto (-56)), 3)) rfl ?_
      exact hk7 x0 x1 x2 x3 (x4 + 1) (some (.int x5)) w
    · skip
      refine ok_seg (L := [((.iload_n 0), 1), ((.iload 4), 2), (.ishr, 1), ((.iconst 1), 1), (.iand, 1), ((.iconst 1), 1)]) (pc' := 32) (ls' := [some (.int x0), some (.int x1), some (.int x2), some (.int x3), some (.int x4), some (.int x5)]) (st' := [.int 1, .int ((x0 >>> (x4 &&& 31)) &&& 1)]) (w' := w) (by decide +kernel) rfl ?_
      refine ok_br (P := ¬ ((x0 >>> (x4 &&& 31)) &&& 1) = 1) (off := 19) (t := 51) (by decide +kernel : decode m_M_pairs.2.1 32 = .ok ((.if_icmp .ne 19), 3)) rfl rfl rfl rfl (fun c2 => ?_) (fun c2 => ?_)
      · skip
        exact o_M_pairs_p51 hk7 ih x0 x1 x2 x3 x4 x5 w
      · skip
        refine ok_seg (L := [((.iload_n 0), 1), ((.iload 5), 2), (.ishr, 1), ((.iconst 1), 1), (.iand, 1), ((.iconst 1), 1)]) (pc' := 42) (ls' := [some (.int x0), some (.int x1), some (.int x2), some (.int x3), some (.int x4), some (.int x5)]) (st' := [.int 1, .int ((x0 >>> (x5 &&& 31)) &&& 1)]) (w' := w) (by decide +kernel) rfl ?_
        refine ok_br (P := ¬ ((x0 >>> (x5 &&& 31)) &&& 1) = 1) (off := 9) (t := 51) (by decide +kernel : decode m_M_pairs.2.1 42 = .ok ((.if_icmp .ne 9), 3)) rfl rfl rfl rfl (fun c3 => ?_) (fun c3 => ?_)
        · skip
          exact o_M_pairs_p51 hk7 ih x0 x1 x2 x3 x4 x5 w
        · skip
          refine ok_seg (L := [((.iload_n 2), 1), ((.iconst 1), 1), ((.iload_n 3), 1), (.ishl, 1), (.ior, 1), ((.istore_n 2), 1)]) (pc' := 51) (ls' := [some (.int x0), some (.int x1), some (.int (x2 ||| (1 <<< (x3 &&& 31)))), some (.int x3), some (.int x4), some (.int x5)]) (st' := []) (w' := w) (by decide +kernel) rfl ?_
          exact o_M_pairs_p51 hk7 ih x0 x1 (x2 ||| (1 <<< (x3 &&& 31))) x3 x4 x5 w
theorem o_M_pairs_p7 {d : Nat} : ∀ (n : Nat) (x0 : Int32) (x1 : Int32) (x2 : Int32) (x3 : Int32) (x4 : Int32) (y5 : Option Value) (w : am_W), am_Ok am_ji (d + 0) m_M_pairs 7 [some (.int x0), some (.int x1), some (.int x2), some (.int x3), some (.int x4), y5] [] w (f_M_pairs_p7 n x0 x1 x2 x3 x4 w) := by
  intro n
  induction n with
  | zero => intros; exact ok_none
  | succ n ih =>
    intro x0 x1 x2 x3 x4 y5 w
    unfold f_M_pairs_p7
    refine ok_seg (L := [((.iload 4), 2), ((.iload_n 1), 1)]) (pc' := 10) (ls' := [some (.int x0), some (.int x1), some (.int x2), some (.int x3), some (.int x4), y5]) (st' := [.int x1, .int x4]) (w' := w) (by decide +kernel) rfl ?_
    refine ok_br (P := x1 ≤ x4) (off := 56) (t := 66) (by decide +kernel : decode m_M_pairs.2.1 10 = .ok ((.if_icmp .ge 56), 3)) rfl rfl rfl rfl (fun c4 => ?_) (fun c4 => ?_)
    · skip
      refine ok_seg (L := [((.iload_n 2), 1)]) (pc' := 67) (ls' := [some (.int x0), some (.int x1), some (.int x2), some (.int x3), some (.int x4), y5]) (st' := [.int x2]) (w' := w) (by decide +kernel) rfl ?_
      exact ok_ret (v := x2) (by decide +kernel : decode m_M_pairs.2.1 67 = .ok (.ireturn, 1)) rfl
    · skip
      refine ok_seg (L := [((.iload 4), 2), ((.iconst 1), 1), (.iadd, 1), ((.istore 5), 2)]) (pc' := 19) (ls' := [some (.int x0), some (.int x1), some (.int x2), some (.int x3), some (.int x4), some (.int (x4 + 1))]) (st' := []) (w' := w) (by decide +kernel) rfl ?_
      exact o_M_pairs_p19 ih am_N x0 x1 x2 x3 x4 (x4 + 1) w
theorem o_M_pairs (d : Nat) (x0 : Int32) (x1 : Int32) (w : am_W) : am_Ok am_ji (d + 0) m_M_pairs 0 (am_en m_M_pairs [.int x0, .int x1]) [] w (f_M_pairs x0 x1 w) := by
  show am_Ok _ _ _ 0 [some (.int x0), some (.int x1), none, none, none, none] [] w _
  unfold f_M_pairs
  unfold e_M_pairs
  refine ok_seg (L := [((.iconst 0), 1), ((.istore_n 2), 1), ((.iconst 0), 1), ((.istore_n 3), 1), ((.iconst 0), 1), ((.istore 4), 2)]) (pc' := 7) (ls' := [some (.int x0), some (.int x1), some (.int 0), some (.int 0), some (.int 0), none]) (st' := []) (w' := w) (by decide +kernel) rfl ?_
  exact o_M_pairs_p7 am_N x0 x1 0 0 0 none w
-- m_M_laysMost
def f_M_laysMost_p272 (k244 : Nat → Int32 → Int32 → Int32 → Int32 → am_W → Option (am_W × Int32)) (x0 : Nat) (x3 : Int32) (x4 : Int32) (x5 : Int32) (x6 : Int32) (w : am_W) : Option (am_W × Int32) := (k244 x0 x3 x4 x5 (x6 + 1) w)
def f_M_laysMost_p244 : Nat → Nat → Int32 → Int32 → Int32 → Int32 → am_W → Option (am_W × Int32)
  | 0, _, _, _, _, _, _ => none
  | n + 1, x0, x3, x4, x5, x6, w => (if x4 ≤ x6 then ((am_gr w x0 7 25).bind fun v2 => ((am_si w v2 x3 x5).bind fun w4 => (some (w4, x5)))) else ((am_gr w x0 7 24).bind fun v6 => ((am_ai w v6 x6).bind fun v8 => (if v8 ≤ x5 then (f_M_laysMost_p272 (f_M_laysMost_p244 n) x0 x3 x4 x5 x6 w) else ((am_gr w x0 7 24).bind fun v11 => ((am_ai w v11 x6).bind fun v13 => (f_M_laysMost_p272 (f_M_laysMost_p244 n) x0 x3 x4 v13 x6 w)))))))
def f_M_laysMost_p226 (k102 : Nat → Int32 → Int32 → Int32 → Int32 → Int32 → am_W → Option (am_W × Int32)) (k114 : Nat → Int32 → Int32 → Int32 → Int32 → Int32 → Int32 → am_W → Option (am_W × Int32)) (x0 : Nat) (x1 : Int32) (x2 : Int32) (x3 : Int32) (x4 : Int32) (x5 : Int32) (x6 : Int32) (w : am_W) : Option (am_W × Int32) := (k114 x0 x1 x2 x3 x4 x5 (x6 + (-1)) w)
def f_M_laysMost_p220 (k102 : Nat → Int32 → Int32 → Int32 → Int32 → Int32 → am_W → Option (am_W × Int32)) (k114 : Nat → Int32 → Int32 → Int32 → Int32 → Int32 → Int32 → am_W → Option (am_W × Int32)) (k151 : Nat → Int32 → Int32 → Int32 → Int32 → Int32 → Int32 → Int32 → Int32 → am_W → Option (am_W × Int32)) (x0 : Nat) (x1 : Int32) (x2 : Int32) (x3 : Int32) (x4 : Int32) (x5 : Int32) (x6 : Int32) (x7 : Int32) (x8 : Int32) (w : am_W) : Option (am_W × Int32) := (k151 x0 x1 x2 x3 x4 x5 x6 x7 (x8 + 1) w)
def f_M_laysMost_p151 (k102 : Nat → Int32 → Int32 → Int32 → Int32 → Int32 → am_W → Option (am_W × Int32)) (k114 : Nat → Int32 → Int32 → Int32 → Int32 → Int32 → Int32 → am_W → Option (am_W × Int32)) : Nat → Nat → Int32 → Int32 → Int32 → Int32 → Int32 → Int32 → Int32 → Int32 → am_W → Option (am_W × Int32)
  | 0, _, _, _, _, _, _, _, _, _, _ => none
  | n + 1, x0, x1, x2, x3, x4, x5, x6, x7, x8, w => (if (1 <<< (x2 &&& 31)) ≤ x8 then (f_M_laysMost_p226 k102 k114 x0 x1 x2 x3 x4 x5 x6 w) else ((am_gr w x0 7 26).bind fun v16 => ((am_ai w v16 x8).bind fun v18 => (if v18 = 0 then (f_M_laysMost_p220 k102 k114 (f_M_laysMost_p151 k102 k114 n) x0 x1 x2 x3 x4 x5 x6 x7 x8 w) else (if ¬ (v18 &&& x6) = 0 then (f_M_laysMost_p220 k102 k114 (f_M_laysMost_p151 k102 k114 n) x0 x1 x2 x3 x4 x5 x6 x7 x8 w) else ((am_gr w x0 7 24).bind fun v22 => ((am_ai w v22 (x6 ||| v18)).bind fun v24 => ((f_M_bits (x8) w).bind fun r26 => (if (x7 + r26.2) ≤ v24 then (f_M_laysMost_p220 k102 k114 (f_M_laysMost_p151 k102 k114 n) x0 x1 x2 x3 x4 x5 x6 x7 x8 r26.1) else ((am_gr r26.1 x0 7 24).bind fun v29 => ((f_M_bits (x8) r26.1).bind fun r31 => ((am_si r31.1 v29 (x6 ||| v18) (x7 + r31.2)).bind fun w33 => (f_M_laysMost_p220 k102 k114 (f_M_laysMost_p151 k102 k114 n) x0 x1 x2 x3 x4 x5 x6 x7 x8 w33)))))))))))))
def f_M_laysMost_p114 (k102 : Nat → Int32 → Int32 → Int32 → Int32 → Int32 → am_W → Option (am_W × Int32)) : Nat → Nat → Int32 → Int32 → Int32 → Int32 → Int32 → Int32 → am_W → Option (am_W × Int32)
  | 0, _, _, _, _, _, _, _, _ => none
  | n + 1, x0, x1, x2, x3, x4, x5, x6, w => (if x6 < 0 then (k102 x0 x1 x2 x3 x4 (x5 + 1) w) else ((am_gr w x0 7 24).bind fun v36 => ((am_ai w v36 x6).bind fun v38 => (if ¬ v38 = (-1) then ((am_gr w x0 7 24).bind fun v41 => ((am_si w v41 x6 (v38 + 1)).bind fun w43 => (f_M_laysMost_p151 k102 (f_M_laysMost_p114 k102 n) am_N x0 x1 x2 x3 x4 x5 x6 v38 3 w43))) else (f_M_laysMost_p226 k102 (f_M_laysMost_p114 k102 n) x0 x1 x2 x3 x4 x5 x6 w)))))
def f_M_laysMost_p102 : Nat → Nat → Int32 → Int32 → Int32 → Int32 → Int32 → am_W → Option (am_W × Int32)
  | 0, _, _, _, _, _, _, _ => none
  | n + 1, x0, x1, x2, x3, x4, x5, w => (if x1 ≤ x5 then (f_M_laysMost_p244 am_N x0 x3 x4 0 0 w) else (f_M_laysMost_p114 (f_M_laysMost_p102 n) am_N x0 x1 x2 x3 x4 x5 (x4 - 1) w))
def f_M_laysMost_p92 (k69 : Nat → Int32 → Int32 → Int32 → Int32 → Int32 → am_W → Option (am_W × Int32)) (x0 : Nat) (x1 : Int32) (x2 : Int32) (x3 : Int32) (x4 : Int32) (x5 : Int32) (s0 : Nat) (s1 : Int32) (s2 : Int32) (w : am_W) : Option (am_W × Int32) := ((am_si w s0 s1 s2).bind fun w46 => (k69 x0 x1 x2 x3 x4 (x5 + 1) w46))
def f_M_laysMost_p69 : Nat → Nat → Int32 → Int32 → Int32 → Int32 → Int32 → am_W → Option (am_W × Int32)
  | 0, _, _, _, _, _, _, _ => none
  | n + 1, x0, x1, x2, x3, x4, x5, w => (if x4 ≤ x5 then (f_M_laysMost_p102 am_N x0 x1 x2 x3 x4 0 w) else ((am_gr w x0 7 24).bind fun v49 => (if ¬ x5 = 0 then (f_M_laysMost_p92 (f_M_laysMost_p69 n) x0 x1 x2 x3 x4 x5 v49 x5 (-1) w) else (f_M_laysMost_p92 (f_M_laysMost_p69 n) x0 x1 x2 x3 x4 x5 v49 x5 0 w))))
def f_M_laysMost_p39 : Nat → Nat → Int32 → Int32 → Int32 → Int32 → Int32 → am_W → Option (am_W × Int32)
  | 0, _, _, _, _, _, _, _ => none
  | n + 1, x0, x1, x2, x3, x4, x5, w => (if (1 <<< (x2 &&& 31)) ≤ x5 then (f_M_laysMost_p69 am_N x0 x1 x2 x3 x4 0 w) else ((am_gr w x0 7 26).bind fun v53 => ((f_M_pairs (x5) (x2) w).bind fun r55 => ((am_si r55.1 v53 x5 r55.2).bind fun w57 => (f_M_laysMost_p39 n x0 x1 x2 x3 x4 (x5 + 1) w57)))))
def e_M_laysMost (x0 : Nat) (x1 : Int32) (x2 : Int32) (w : am_W) : Option (am_W × Int32) := ((am_gr w x0 7 25).bind fun v59 => ((am_ai w v59 ((7 * (x1 - 1)) + x2)).bind fun v61 => (if v61 ≤ 0 then (if 2 = 0 then none else (f_M_laysMost_p39 am_N x0 x1 x2 ((7 * (x1 - 1)) + x2) (1 <<< (((x2 * (x2 - 1)) / 2) &&& 31)) 0 w)) else ((am_gr w x0 7 25).bind fun v65 => ((am_ai w v65 ((7 * (x1 - 1)) + x2)).bind fun v67 => (some (w, v67)))))))
def f_M_laysMost (x0 : Nat) (x1 : Int32) (x2 : Int32) (w : am_W) : Option (am_W × Int32) := am_self w x0 7 (e_M_laysMost x0 x1 x2 w)
theorem o_M_laysMost_p272 {d : Nat} {k244 : Nat → Int32 → Int32 → Int32 → Int32 → am_W → Option (am_W × Int32)} (hk244 : ∀ (x0 : Nat) (x3 : Int32) (x4 : Int32) (x5 : Int32) (x6 : Int32) (y1 y2 y7 y8 y9 : Option Value) (w : am_W), am_Ok am_ji (d + 1) m_M_laysMost 244 [some (.ref x0), y1, y2, some (.int x3), some (.int x4), some (.int x5), some (.int x6), y7, y8, y9] [] w (k244 x0 x3 x4 x5 x6 w)) (x0 : Nat) (x3 : Int32) (x4 : Int32) (x5 : Int32) (x6 : Int32) (y1 y2 y7 y8 y9 : Option Value) (w : am_W) : am_Ok am_ji (d + 1) m_M_laysMost 272 [some (.ref x0), y1, y2, some (.int x3), some (.int x4), some (.int x5), some (.int x6), y7, y8, y9] [] w (f_M_laysMost_p272 k244 x0 x3 x4 x5 x6 w) := by
  unfold f_M_laysMost_p272
  refine ok_seg (L := [((.iinc 6 1), 3)]) (pc' := 275) (ls' := [some (.ref x0), y1, y2, some (.int x3), some (.int x4), some (.int x5), some (.int (x6 + 1)), y7, y8, y9]) (st' := []) (w' := w) (by decide +kernel) rfl ?_
  refine ok_goto (t := 244) (by decide +kernel : decode m_M_laysMost.2.1 275 = .ok ((.goto (-31)), 3)) rfl ?_
  exact hk244 x0 x3 x4 x5 (x6 + 1) y1 y2 y7 y8 y9 w
theorem o_M_laysMost_p244 {d : Nat} : ∀ (n : Nat) (x0 : Nat) (x3 : Int32) (x4 : Int32) (x5 : Int32) (x6 : Int32) (y1 y2 y7 y8 y9 : Option Value) (w : am_W), am_Ok am_ji (d + 1) m_M_laysMost 244 [some (.ref x0), y1, y2, some (.int x3), some (.int x4), some (.int x5), some (.int x6), y7, y8, y9] [] w (f_M_laysMost_p244 n x0 x3 x4 x5 x6 w) := by
  intro n
  induction n with
  | zero => intros; exact ok_none
  | succ n ih =>
    intro x0 x3 x4 x5 x6 y1 y2 y7 y8 y9 w
    unfold f_M_laysMost_p244
    refine ok_seg (L := [((.iload 6), 2), ((.iload 4), 2)]) (pc' := 248) (ls' := [some (.ref x0), y1, y2, some (.int x3), some (.int x4), some (.int x5), some (.int x6), y7, y8, y9]) (st' := [.int x4, .int x6]) (w' := w) (by decide +kernel) rfl ?_
    refine ok_br (P := x4 ≤ x6) (off := 30) (t := 278) (by decide +kernel : decode m_M_laysMost.2.1 248 = .ok ((.if_icmp .ge 30), 3)) rfl rfl rfl rfl (fun c1 => ?_) (fun c1 => ?_)
    · skip
      refine ok_seg (L := [((.aload_n 0), 1)]) (pc' := 279) (ls' := [some (.ref x0), y1, y2, some (.int x3), some (.int x4), some (.int x5), some (.int x6), y7, y8, y9]) (st' := [.ref x0]) (w' := w) (by decide +kernel) rfl ?_
      refine ok_gr (by decide +kernel : decode m_M_laysMost.2.1 279 = .ok ((.getfield 100), 3)) rfl (by decide) (fun v2 h3 => ?_)
      refine ok_seg (L := [((.iload_n 3), 1), ((.iload 5), 2)]) (pc' := 285) (ls' := [some (.ref x0), y1, y2, some (.int x3), some (.int x4), some (.int x5), some (.int x6), y7, y8, y9]) (st' := [.int x5, .int x3, .ref v2]) (w' := w) (by decide +kernel) rfl ?_
      refine ok_si (by decide +kernel : decode m_M_laysMost.2.1 285 = .ok (.iastore, 1)) (fun w4 h5 => ?_)
      refine ok_seg (L := [((.iload 5), 2)]) (pc' := 288) (ls' := [some (.ref x0), y1, y2, some (.int x3), some (.int x4), some (.int x5), some (.int x6), y7, y8, y9]) (st' := [.int x5]) (w' := w4) (by decide +kernel) rfl ?_
      exact ok_ret (v := x5) (by decide +kernel : decode m_M_laysMost.2.1 288 = .ok (.ireturn, 1)) rfl
    · skip
      refine ok_seg (L := [((.aload_n 0), 1)]) (pc' := 252) (ls' := [some (.ref x0), y1, y2, some (.int x3), some (.int x4), some (.int x5), some (.int x6), y7, y8, y9]) (st' := [.ref x0]) (w' := w) (by decide +kernel) rfl ?_
      refine ok_gr (by decide +kernel : decode m_M_laysMost.2.1 252 = .ok ((.getfield 97), 3)) rfl (by decide) (fun v6 h7 => ?_)
      refine ok_seg (L := [((.iload 6), 2)]) (pc' := 257) (ls' := [some (.ref x0), y1, y2, some (.int x3), some (.int x4), some (.int x5), some (.int x6), y7, y8, y9]) (st' := [.int x6, .ref v6]) (w' := w) (by decide +kernel) rfl ?_
      refine ok_ai (by decide +kernel : decode m_M_laysMost.2.1 257 = .ok (.iaload, 1)) (fun v8 h9 => ?_)
      refine ok_seg (L := [((.iload 5), 2)]) (pc' := 260) (ls' := [some (.ref x0), y1, y2, some (.int x3), some (.int x4), some (.int x5), some (.int x6), y7, y8, y9]) (st' := [.int x5, .int v8]) (w' := w) (by decide +kernel) rfl ?_
      refine ok_br (P := v8 ≤ x5) (off := 12) (t := 272) (by decide +kernel : decode m_M_laysMost.2.1 260 = .ok ((.if_icmp .le 12), 3)) rfl rfl rfl rfl (fun c10 => ?_) (fun c10 => ?_)
      · skip
        exact o_M_laysMost_p272 ih x0 x3 x4 x5 x6 y1 y2 y7 y8 y9 w
      · skip
        refine ok_seg (L := [((.aload_n 0), 1)]) (pc' := 264) (ls' := [some (.ref x0), y1, y2, some (.int x3), some (.int x4), some (.int x5), some (.int x6), y7, y8, y9]) (st' := [.ref x0]) (w' := w) (by decide +kernel) rfl ?_
        refine ok_gr (by decide +kernel : decode m_M_laysMost.2.1 264 = .ok ((.getfield 97), 3)) rfl (by decide) (fun v11 h12 => ?_)
        refine ok_seg (L := [((.iload 6), 2)]) (pc' := 269) (ls' := [some (.ref x0), y1, y2, some (.int x3), some (.int x4), some (.int x5), some (.int x6), y7, y8, y9]) (st' := [.int x6, .ref v11]) (w' := w) (by decide +kernel) rfl ?_
        refine ok_ai (by decide +kernel : decode m_M_laysMost.2.1 269 = .ok (.iaload, 1)) (fun v13 h14 => ?_)
        refine ok_seg (L := [((.istore 5), 2)]) (pc' := 272) (ls' := [some (.ref x0), y1, y2, some (.int x3), some (.int x4), some (.int v13), some (.int x6), y7, y8, y9]) (st' := []) (w' := w) (by decide +kernel) rfl ?_
        exact o_M_laysMost_p272 ih x0 x3 x4 v13 x6 y1 y2 y7 y8 y9 w
theorem o_M_laysMost_p226 {d : Nat} {k102 : Nat → Int32 → Int32 → Int32 → Int32 → Int32 → am_W → Option (am_W × Int32)} {k114 : Nat → Int32 → Int32 → Int32 → Int32 → Int32 → Int32 → am_W → Option (am_W × Int32)} (hk102 : ∀ (x0 : Nat) (x1 : Int32) (x2 : Int32) (x3 : Int32) (x4 : Int32) (x5 : Int32) (y6 y7 y8 y9 : Option Value) (w : am_W), am_Ok am_ji (d + 1) m_M_laysMost 102 [some (.ref x0), some (.int x1), some (.int x2), some (.int x3), some (.int x4), some (.int x5), y6, y7, y8, y9] [] w (k102 x0 x1 x2 x3 x4 x5 w)) (hk114 : ∀ (x0 : Nat) (x1 : Int32) (x2 : Int32) (x3 : Int32) (x4 : Int32) (x5 : Int32) (x6 : Int32) (y7 y8 y9 : Option Value) (w : am_W), am_Ok am_ji (d + 1) m_M_laysMost 114 [some (.ref x0), some (.int x1), some (.int x2), some (.int x3), some (.int x4), some (.int x5), some (.int x6), y7, y8, y9] [] w (k114 x0 x1 x2 x3 x4 x5 x6 w)) (x0 : Nat) (x1 : Int32) (x2 : Int32) (x3 : Int32) (x4 : Int32) (x5 : Int32) (x6 : Int32) (y7 y8 y9 : Option Value) (w : am_W) : am_Ok am_ji (d + 1) m_M_laysMost 226 [some (.ref x0), some (.int x1), some (.int x2), some (.int x3), some (.int x4), some (.int x5), some (.int x6), y7, y8, y9] [] w (f_M_laysMost_p226 k102 k114 x0 x1 x2 x3 x4 x5 x6 w) := by
  unfold f_M_laysMost_p226
  refine ok_seg (L := [((.iinc 6 (-1)), 3)]) (pc' := 229) (ls' := [some (.ref x0), some (.int x1), some (.int x2), some (.int x3), some (.int x4), some (.int x5), some (.int (x6 + (-1))), y7, y8, y9]) (st' := []) (w' := w) (by decide +kernel) rfl ?_
  refine ok_goto (t := 114) (by decide +kernel : decode m_M_laysMost.2.1 229 = .ok ((.goto (-115)), 3)) rfl ?_
  exact hk114 x0 x1 x2 x3 x4 x5 (x6 + (-1)) y7 y8 y9 w
theorem o_M_laysMost_p220 {d : Nat} {k102 : Nat → Int32 → Int32 → Int32 → Int32 → Int32 → am_W → Option (am_W × Int32)} {k114 : Nat → Int32 → Int32 → Int32 → Int32 → Int32 → Int32 → am_W → Option (am_W × Int32)} {k151 : Nat → Int32 → Int32 → Int32 → Int32 → Int32 → Int32 → Int32 → Int32 → am_W → Option (am_W × Int32)} (hk102 : ∀ (x0 : Nat) (x1 : Int32) (x2 : Int32) (x3 : Int32) (x4 : Int32) (x5 : Int32) (y6 y7 y8 y9 : Option Value) (w : am_W), am_Ok am_ji (d + 1) m_M_laysMost 102 [some (.ref x0), some (.int x1), some (.int x2), some (.int x3), some (.int x4), some (.int x5), y6, y7, y8, y9] [] w (k102 x0 x1 x2 x3 x4 x5 w)) (hk114 : ∀ (x0 : Nat) (x1 : Int32) (x2 : Int32) (x3 : Int32) (x4 : Int32) (x5 : Int32) (x6 : Int32) (y7 y8 y9 : Option Value) (w : am_W), am_Ok am_ji (d + 1) m_M_laysMost 114 [some (.ref x0), some (.int x1), some (.int x2), some (.int x3), some (.int x4), some (.int x5), some (.int x6), y7, y8, y9] [] w (k114 x0 x1 x2 x3 x4 x5 x6 w)) (hk151 : ∀ (x0 : Nat) (x1 : Int32) (x2 : Int32) (x3 : Int32) (x4 : Int32) (x5 : Int32) (x6 : Int32) (x7 : Int32) (x8 : Int32) (y9 : Option Value) (w : am_W), am_Ok am_ji (d + 1) m_M_laysMost 151 [some (.ref x0), some (.int x1), some (.int x2), some (.int x3), some (.int x4), some (.int x5), some (.int x6), some (.int x7), some (.int x8), y9] [] w (k151 x0 x1 x2 x3 x4 x5 x6 x7 x8 w)) (x0 : Nat) (x1 : Int32) (x2 : Int32) (x3 : Int32) (x4 : Int32) (x5 : Int32) (x6 : Int32) (x7 : Int32) (x8 : Int32) (y9 : Option Value) (w : am_W) : am_Ok am_ji (d + 1) m_M_laysMost 220 [some (.ref x0), some (.int x1), some (.int x2), some (.int x3), some (.int x4), some (.int x5), some (.int x6), some (.int x7), some (.int x8), y9] [] w (f_M_laysMost_p220 k102 k114 k151 x0 x1 x2 x3 x4 x5 x6 x7 x8 w) := by
  unfold f_M_laysMost_p220
  refine ok_seg (L := [((.iinc 8 1), 3)]) (pc' := 223) (ls' := [some (.ref x0), some (.int x1), some (.int x2), some (.int x3), some (.int x4), some (.int x5), some (.int x6), some (.int x7), some (.int (x8 + 1)), y9]) (st' := []) (w' := w) (by decide +kernel) rfl ?_
  refine ok_goto (t := 151) (by decide +kernel : decode m_M_laysMost.2.1 223 = .ok ((.goto (-72)), 3)) rfl ?_
  exact hk151 x0 x1 x2 x3 x4 x5 x6 x7 (x8 + 1) y9 w
theorem o_M_laysMost_p151 {d : Nat} {k102 : Nat → Int32 → Int32 → Int32 → Int32 → Int32 → am_W → Option (am_W × Int32)} {k114 : Nat → Int32 → Int32 → Int32 → Int32 → Int32 → Int32 → am_W → Option (am_W × Int32)} (hk102 : ∀ (x0 : Nat) (x1 : Int32) (x2 : Int32) (x3 : Int32) (x4 : Int32) (x5 : Int32) (y6 y7 y8 y9 : Option Value) (w : am_W), am_Ok am_ji (d + 1) m_M_laysMost 102 [some (.ref x0), some (.int x1), some (.int x2), some (.int x3), some (.int x4), some (.int x5), y6, y7, y8, y9] [] w (k102 x0 x1 x2 x3 x4 x5 w)) (hk114 : ∀ (x0 : Nat) (x1 : Int32) (x2 : Int32) (x3 : Int32) (x4 : Int32) (x5 : Int32) (x6 : Int32) (y7 y8 y9 : Option Value) (w : am_W), am_Ok am_ji (d + 1) m_M_laysMost 114 [some (.ref x0), some (.int x1), some (.int x2), some (.int x3), some (.int x4), some (.int x5), some (.int x6), y7, y8, y9] [] w (k114 x0 x1 x2 x3 x4 x5 x6 w)) : ∀ (n : Nat) (x0 : Nat) (x1 : Int32) (x2 : Int32) (x3 : Int32) (x4 : Int32) (x5 : Int32) (x6 : Int32) (x7 : Int32) (x8 : Int32) (y9 : Option Value) (w : am_W), am_Ok am_ji (d + 1) m_M_laysMost 151 [some (.ref x0), some (.int x1), some (.int x2), some (.int x3), some (.int x4), some (.int x5), some (.int x6), some (.int x7), some (.int x8), y9] [] w (f_M_laysMost_p151 k102 k114 n x0 x1 x2 x3 x4 x5 x6 x7 x8 w) := by
  intro n
  induction n with
  | zero => intros; exact ok_none
  | succ n ih =>
    intro x0 x1 x2 x3 x4 x5 x6 x7 x8 y9 w
    unfold f_M_laysMost_p151
    refine ok_seg (L := [((.iload 8), 2), ((.iconst 1), 1), ((.iload_n 2), 1), (.ishl, 1)]) (pc' := 156) (ls' := [some (.ref x0), some (.int x1), some (.int x2), some (.int x3), some (.int x4), some (.int x5), some (.int x6), some (.int x7), some (.int x8), y9]) (st' := [.int (1 <<< (x2 &&& 31)), .int x8]) (w' := w) (by decide +kernel) rfl ?_
    refine ok_br (P := (1 <<< (x2 &&& 31)) ≤ x8) (off := 70) (t := 226) (by decide +kernel : decode m_M_laysMost.2.1 156 = .ok ((.if_icmp .ge 70), 3)) rfl rfl rfl rfl (fun c15 => ?_) (fun c15 => ?_)
    · skip
      exact o_M_laysMost_p226 hk102 hk114 x0 x1 x2 x3 x4 x5 x6 (some (.int x7)) (some (.int x8)) y9 w
    · skip
      refine ok_seg (L := [((.aload_n 0), 1)]) (pc' := 160) (ls' := [some (.ref x0), some (.int x1), some (.int x2), some (.int x3), some (.int x4), some (.int x5), some (.int x6), some (.int x7), some (.int x8), y9]) (st' := [.ref x0]) (w' := w) (by decide +kernel) rfl ?_
      refine ok_gr (by decide +kernel : decode m_M_laysMost.2.1 160 = .ok ((.getfield 103), 3)) rfl (by decide) (fun v16 h17 => ?_)
      refine ok_seg (L := [((.iload 8), 2)]) (pc' := 165) (ls' := [some (.ref x0), some (.int x1), some (.int x2), some (.int x3), some (.int x4), some (.int x5), some (.int x6), some (.int x7), some (.int x8), y9]) (st' := [.int x8, .ref v16]) (w' := w) (by decide +kernel) rfl ?_
      refine ok_ai (by decide +kernel : decode m_M_laysMost.2.1 165 = .ok (.iaload, 1)) (fun v18 h19 => ?_)
      refine ok_seg (L := [((.istore 9), 2), ((.iload 9), 2)]) (pc' := 170) (ls' := [some (.ref x0), some (.int x1), some (.int x2), some (.int x3), some (.int x4), some (.int x5), some (.int x6), some (.int x7), some (.int x8), some (.int v18)]) (st' := [.int v18]) (w' := w) (by decide +kernel) rfl ?_
      refine ok_br (P := v18 = 0) (off := 50) (t := 220) (by decide +kernel : decode m_M_laysMost.2.1 170 = .ok ((.ifCond .eq 50), 3)) rfl rfl rfl rfl (fun c20 => ?_) (fun c20 => ?_)
      · skip
        exact o_M_laysMost_p220 hk102 hk114 ih x0 x1 x2 x3 x4 x5 x6 x7 x8 (some (.int v18)) w
      · skip
        refine ok_seg (L := [((.iload 9), 2), ((.iload 6), 2), (.iand, 1)]) (pc' := 178) (ls' := [some (.ref x0), some (.int x1), some (.int x2), some (.int x3), some (.int x4), some (.int x5), some (.int x6), some (.int x7), some (.int x8), some (.int v18)]) (st' := [.int (v18 &&& x6)]) (w' := w) (by decide +kernel) rfl ?_
        refine ok_br (P := ¬ (v18 &&& x6) = 0) (off := 42) (t := 220) (by decide +kernel : decode m_M_laysMost.2.1 178 = .ok ((.ifCond .ne 42), 3)) rfl rfl rfl rfl (fun c21 => ?_) (fun c21 => ?_)
        · skip
          exact o_M_laysMost_p220 hk102 hk114 ih x0 x1 x2 x3 x4 x5 x6 x7 x8 (some (.int v18)) w
        · skip
          refine ok_seg (L := [((.aload_n 0), 1)]) (pc' := 182) (ls' := [some (.ref x0), some (.int x1), some (.int x2), some (.int x3), some (.int x4), some (.int x5), some (.int x6), some (.int x7), some (.int x8), some (.int v18)]) (st' := [.ref x0]) (w' := w) (by decide +kernel) rfl ?_
          refine ok_gr (by decide +kernel : decode m_M_laysMost.2.1 182 = .ok ((.getfield 97), 3)) rfl (by decide) (fun v22 h23 => ?_)
          refine ok_seg (L := [((.iload 6), 2), ((.iload 9), 2), (.ior, 1)]) (pc' := 190) (ls' := [some (.ref x0), some (.int x1), some (.int x2), some (.int x3), some (.int x4), some (.int x5), some (.int x6), some (.int x7), some (.int x8), some (.int v18)]) (st' := [.int (x6 ||| v18), .ref v22]) (w' := w) (by decide +kernel) rfl ?_
          refine ok_ai (by decide +kernel : decode m_M_laysMost.2.1 190 = .ok (.iaload, 1)) (fun v24 h25 => ?_)
          refine ok_seg (L := [((.iload 7), 2), ((.iload 8), 2)]) (pc' := 195) (ls' := [some (.ref x0), some (.int x1), some (.int x2), some (.int x3), some (.int x4), some (.int x5), some (.int x6), some (.int x7), some (.int x8), some (.int v18)]) (st' := [.int x8, .int x7, .int v24]) (w' := w) (by decide +kernel) rfl ?_
          refine ok_call0 (inj' := am_ji) (by decide +kernel : decode m_M_laysMost.2.1 195 = .ok ((.invokestatic 218), 3)) rfl (fun _ _ => rfl) (o_M_bits (d + 0) (x8) w) (fun _ _ => rfl) (fun r26 h27 => ?_)
          refine ok_seg (L := [(.iadd, 1)]) (pc' := 199) (ls' := [some (.ref x0), some (.int x1), some (.int x2), some (.int x3), some (.int x4), some (.int x5), some (.int x6), some (.int x7), some (.int x8), some (.int v18)]) (st' := [.int (x7 + r26.2), .int v24]) (w' := r26.1) (by decide +kernel) rfl ?_
          refine ok_br (P := (x7 + r26.2) ≤ v24) (off := 21) (t := 220) (by decide +kernel : decode m_M_laysMost.2.1 199 = .ok ((.if_icmp .ge 21), 3)) rfl rfl rfl rfl (fun c28 => ?_) (fun c28 => ?_)
          · skip
            exact o_M_laysMost_p220 hk102 hk114 ih x0 x1 x2 x3 x4 x5 x6 x7 x8 (some (.int v18)) r26.1
          · skip
            refine ok_seg (L := [((.aload_n 0), 1)]) (pc' := 203) (ls' := [some (.ref x0), some (.int x1), some (.int x2), some (.int x3), some (.int x4), some (.int x5), some (.int x6), some (.int x7), some (.int x8), some (.int v18)]) (st' := [.ref x0]) (w' := r26.1) (by decide +kernel) rfl ?_
            refine ok_gr (by decide +kernel : decode m_M_laysMost.2.1 203 = .ok ((.getfield 97), 3)) rfl (by decide) (fun v29 h30 => ?_)
            refine ok_seg (L := [((.iload 6), 2), ((.iload 9), 2), (.ior, 1), ((.iload 7), 2), ((.iload 8), 2)]) (pc' := 215) (ls' := [some (.ref x0), some (.int x1), some (.int x2), some (.int x3), some (.int x4), some (.int x5), some (.int x6), some (.int x7), some (.int x8), some (.int v18)]) (st' := [.int x8, .int x7, .int (x6 ||| v18), .ref v29]) (w' := r26.1) (by decide +kernel) rfl ?_
            refine ok_call0 (inj' := am_ji) (by decide +kernel : decode m_M_laysMost.2.1 215 = .ok ((.invokestatic 218), 3)) rfl (fun _ _ => rfl) (o_M_bits (d + 0) (x8) r26.1) (fun _ _ => rfl) (fun r31 h32 => ?_)
            refine ok_seg (L := [(.iadd, 1)]) (pc' := 219) (ls' := [some (.ref x0), some (.int x1), some (.int x2), some (.int x3), some (.int x4), some (.int x5), some (.int x6), some (.int x7), some (.int x8), some (.int v18)]) (st' := [.int (x7 + r31.2), .int (x6 ||| v18), .ref v29]) (w' := r31.1) (by decide +kernel) rfl ?_
            refine ok_si (by decide +kernel : decode m_M_laysMost.2.1 219 = .ok (.iastore, 1)) (fun w33 h34 => ?_)
            exact o_M_laysMost_p220 hk102 hk114 ih x0 x1 x2 x3 x4 x5 x6 x7 x8 (some (.int v18)) w33
theorem o_M_laysMost_p114 {d : Nat} {k102 : Nat → Int32 → Int32 → Int32 → Int32 → Int32 → am_W → Option (am_W × Int32)} (hk102 : ∀ (x0 : Nat) (x1 : Int32) (x2 : Int32) (x3 : Int32) (x4 : Int32) (x5 : Int32) (y6 y7 y8 y9 : Option Value) (w : am_W), am_Ok am_ji (d + 1) m_M_laysMost 102 [some (.ref x0), some (.int x1), some (.int x2), some (.int x3), some (.int x4), some (.int x5), y6, y7, y8, y9] [] w (k102 x0 x1 x2 x3 x4 x5 w)) : ∀ (n : Nat) (x0 : Nat) (x1 : Int32) (x2 : Int32) (x3 : Int32) (x4 : Int32) (x5 : Int32) (x6 : Int32) (y7 y8 y9 : Option Value) (w : am_W), am_Ok am_ji (d + 1) m_M_laysMost 114 [some (.ref x0), some (.int x1), some (.int x2), some (.int x3), some (.int x4), some (.int x5), some (.int x6), y7, y8, y9] [] w (f_M_laysMost_p114 k102 n x0 x1 x2 x3 x4 x5 x6 w) := by
  intro n
  induction n with
  | zero => intros; exact ok_none
  | succ n ih =>
    intro x0 x1 x2 x3 x4 x5 x6 y7 y8 y9 w
    unfold f_M_laysMost_p114
    refine ok_seg (L := [((.iload 6), 2)]) (pc' := 116) (ls' := [some (.ref x0), some (.int x1), some (.int x2), some (.int x3), some (.int x4), some (.int x5), some (.int x6), y7, y8, y9]) (st' := [.int x6]) (w' := w) (by decide +kernel) rfl ?_
    refine ok_br (P := x6 < 0) (off := 116) (t := 232) (by decide +kernel : decode m_M_laysMost.2.1 116 = .ok ((.ifCond .lt 116), 3)) rfl rfl rfl rfl (fun c35 => ?_) (fun c35 => ?_)
    · skip
      refine ok_seg (L := [((.iinc 5 1), 3)]) (pc' := 235) (ls' := [some (.ref x0), some (.int x1), some (.int x2), some (.int x3), some (.int x4), some (.int (x5 + 1)), some (.int x6), y7, y8, y9]) (st' := []) (w' := w) (by decide +kernel) rfl ?_
      refine ok_goto (t := 102) (by decide +kernel : decode m_M_laysMost.2.1 235 = .ok ((.goto (-133)), 3)) rfl ?_
      exact hk102 x0 x1 x2 x3 x4 (x5 + 1) (some (.int x6)) y7 y8 y9 w
    · skip
      refine ok_seg (L := [((.aload_n 0), 1)]) (pc' := 120) (ls' := [some (.ref x0), some (.int x1), some (.int x2), some (.int x3), some (.int x4), some (.int x5), some (.int x6), y7, y8, y9]) (st' := [.ref x0]) (w' := w) (by decide +kernel) rfl ?_
      refine ok_gr (by decide +kernel : decode m_M_laysMost.2.1 120 = .ok ((.getfield 97), 3)) rfl (by decide) (fun v36 h37 => ?_)
      refine ok_seg (L := [((.iload 6), 2)]) (pc' := 125) (ls' := [some (.ref x0), some (.int x1), some (.int x2), some (.int x3), some (.int x4), some (.int x5), some (.int x6), y7, y8, y9]) (st' := [.int x6, .ref v36]) (w' := w) (by decide +kernel) rfl ?_
      refine ok_ai (by decide +kernel : decode m_M_laysMost.2.1 125 = .ok (.iaload, 1)) (fun v38 h39 => ?_)
      refine ok_seg (L := [((.istore 7), 2), ((.iload 7), 2), ((.iconst (-1)), 1)]) (pc' := 131) (ls' := [some (.ref x0), some (.int x1), some (.int x2), some (.int x3), some (.int x4), some (.int x5), some (.int x6), some (.int v38), y8, y9]) (st' := [.int (-1), .int v38]) (w' := w) (by decide +kernel) rfl ?_
      refine ok_br (P := ¬ v38 = (-1)) (off := 6) (t := 137) (by decide +kernel : decode m_M_laysMost.2.1 131 = .ok ((.if_icmp .ne 6), 3)) rfl rfl rfl rfl (fun c40 => ?_) (fun c40 => ?_)
      · skip
        refine ok_seg (L := [((.aload_n 0), 1)]) (pc' := 138) (ls' := [some (.ref x0), some (.int x1), some (.int x2), some (.int x3), some (.int x4), some (.int x5), some (.int x6), some (.int v38), y8, y9]) (st' := [.ref x0]) (w' := w) (by decide +kernel) rfl ?_
        refine ok_gr (by decide +kernel : decode m_M_laysMost.2.1 138 = .ok ((.getfield 97), 3)) rfl (by decide) (fun v41 h42 => ?_)
        refine ok_seg (L := [((.iload 6), 2), ((.iload 7), 2), ((.iconst 1), 1), (.iadd, 1)]) (pc' := 147) (ls' := [some (.ref x0), some (.int x1), some (.int x2), some (.int x3), some (.int x4), some (.int x5), some (.int x6), some (.int v38), y8, y9]) (st' := [.int (v38 + 1), .int x6, .ref v41]) (w' := w) (by decide +kernel) rfl ?_
        refine ok_si (by decide +kernel : decode m_M_laysMost.2.1 147 = .ok (.iastore, 1)) (fun w43 h44 => ?_)
        refine ok_seg (L := [((.iconst 3), 1), ((.istore 8), 2)]) (pc' := 151) (ls' := [some (.ref x0), some (.int x1), some (.int x2), some (.int x3), some (.int x4), some (.int x5), some (.int x6), some (.int v38), some (.int 3), y9]) (st' := []) (w' := w43) (by decide +kernel) rfl ?_
        exact o_M_laysMost_p151 hk102 ih am_N x0 x1 x2 x3 x4 x5 x6 v38 3 y9 w43
      · skip
        refine ok_goto (t := 226) (by decide +kernel : decode m_M_laysMost.2.1 134 = .ok ((.goto 92), 3)) rfl ?_
        exact o_M_laysMost_p226 hk102 ih x0 x1 x2 x3 x4 x5 x6 (some (.int v38)) y8 y9 w
theorem o_M_laysMost_p102 {d : Nat} : ∀ (n : Nat) (x0 : Nat) (x1 : Int32) (x2 : Int32) (x3 : Int32) (x4 : Int32) (x5 : Int32) (y6 y7 y8 y9 : Option Value) (w : am_W), am_Ok am_ji (d + 1) m_M_laysMost 102 [some (.ref x0), some (.int x1), some (.int x2), some (.int x3), some (.int x4), some (.int x5), y6, y7, y8, y9] [] w (f_M_laysMost_p102 n x0 x1 x2 x3 x4 x5 w) := by
  intro n
  induction n with
  | zero => intros; exact ok_none
  | succ n ih =>
    intro x0 x1 x2 x3 x4 x5 y6 y7 y8 y9 w
    unfold f_M_laysMost_p102
    refine ok_seg (L := [((.iload 5), 2), ((.iload_n 1), 1)]) (pc' := 105) (ls' := [some (.ref x0), some (.int x1), some (.int x2), some (.int x3), some (.int x4), some (.int x5), y6, y7, y8, y9]) (st' := [.int x1, .int x5]) (w' := w) (by decide +kernel) rfl ?_
    refine ok_br (P := x1 ≤ x5) (off := 133) (t := 238) (by decide +kernel : decode m_M_laysMost.2.1 105 = .ok ((.if_icmp .ge 133), 3)) rfl rfl rfl rfl (fun c45 => ?_) (fun c45 => ?_)
    · skip
      refine ok_seg (L := [((.iconst 0), 1), ((.istore 5), 2), ((.iconst 0), 1), ((.istore 6), 2)]) (pc' := 244) (ls' := [some (.ref x0), some (.int x1), some (.int x2), some (.int x3), some (.int x4), some (.int 0), some (.int 0), y7, y8, y9]) (st' := []) (w' := w) (by decide +kernel) rfl ?_
      exact o_M_laysMost_p244 am_N x0 x3 x4 0 0 (some (.int x1)) (some (.int x2)) y7 y8 y9 w
    · skip
      refine ok_seg (L := [((.iload 4), 2), ((.iconst 1), 1), (.isub, 1), ((.istore 6), 2)]) (pc' := 114) (ls' := [some (.ref x0), some (.int x1), some (.int x2), some (.int x3), some (.int x4), some (.int x5), some (.int (x4 - 1)), y7, y8, y9]) (st' := []) (w' := w) (by decide +kernel) rfl ?_
      exact o_M_laysMost_p114 ih am_N x0 x1 x2 x3 x4 x5 (x4 - 1) y7 y8 y9 w
theorem o_M_laysMost_p92 {d : Nat} {k69 : Nat → Int32 → Int32 → Int32 → Int32 → Int32 → am_W → Option (am_W × Int32)} (hk69 : ∀ (x0 : Nat) (x1 : Int32) (x2 : Int32) (x3 : Int32) (x4 : Int32) (x5 : Int32) (y6 y7 y8 y9 : Option Value) (w : am_W), am_Ok am_ji (d + 1) m_M_laysMost 69 [some (.ref x0), some (.int x1), some (.int x2), some (.int x3), some (.int x4), some (.int x5), y6, y7, y8, y9] [] w (k69 x0 x1 x2 x3 x4 x5 w)) (x0 : Nat) (x1 : Int32) (x2 : Int32) (x3 : Int32) (x4 : Int32) (x5 : Int32) (s0 : Nat) (s1 : Int32) (s2 : Int32) (y6 y7 y8 y9 : Option Value) (w : am_W) : am_Ok am_ji (d + 1) m_M_laysMost 92 [some (.ref x0), some (.int x1), some (.int x2), some (.int x3), some (.int x4), some (.int x5), y6, y7, y8, y9] [.int s2, .int s1, .ref s0] w (f_M_laysMost_p92 k69 x0 x1 x2 x3 x4 x5 s0 s1 s2 w) := by
  unfold f_M_laysMost_p92
  refine ok_si (by decide +kernel : decode m_M_laysMost.2.1 92 = .ok (.iastore, 1)) (fun w46 h47 => ?_)
  refine ok_seg (L := [((.iinc 5 1), 3)]) (pc' := 96) (ls' := [some (.ref x0), some (.int x1), some (.int x2), some (.int x3), some (.int x4), some (.int (x5 + 1)), y6, y7, y8, y9]) (st' := []) (w' := w46) (by decide +kernel) rfl ?_
  refine ok_goto (t := 69) (by decide +kernel : decode m_M_laysMost.2.1 96 = .ok ((.goto (-27)), 3)) rfl ?_
  exact hk69 x0 x1 x2 x3 x4 (x5 + 1) y6 y7 y8 y9 w46
theorem o_M_laysMost_p69 {d : Nat} : ∀ (n : Nat) (x0 : Nat) (x1 : Int32) (x2 : Int32) (x3 : Int32) (x4 : Int32) (x5 : Int32) (y6 y7 y8 y9 : Option Value) (w : am_W), am_Ok am_ji (d + 1) m_M_laysMost 69 [some (.ref x0), some (.int x1), some (.int x2), some (.int x3), some (.int x4), some (.int x5), y6, y7, y8, y9] [] w (f_M_laysMost_p69 n x0 x1 x2 x3 x4 x5 w) := by
  intro n
  induction n with
  | zero => intros; exact ok_none
  | succ n ih =>
    intro x0 x1 x2 x3 x4 x5 y6 y7 y8 y9 w
    unfold f_M_laysMost_p69
    refine ok_seg (L := [((.iload 5), 2), ((.iload 4), 2)]) (pc' := 73) (ls' := [some (.ref x0), some (.int x1), some (.int x2), some (.int x3), some (.int x4), some (.int x5), y6, y7, y8, y9]) (st' := [.int x4, .int x5]) (w' := w) (by decide +kernel) rfl ?_
    refine ok_br (P := x4 ≤ x5) (off := 26) (t := 99) (by decide +kernel : decode m_M_laysMost.2.1 73 = .ok ((.if_icmp .ge 26), 3)) rfl rfl rfl rfl (fun c48 => ?_) (fun c48 => ?_)
    · skip
      refine ok_seg (L := [((.iconst 0), 1), ((.istore 5), 2)]) (pc' := 102) (ls' := [some (.ref x0), some (.int x1), some (.int x2), some (.int x3), some (.int x4), some (.int 0), y6, y7, y8, y9]) (st' := []) (w' := w) (by decide +kernel) rfl ?_
      exact o_M_laysMost_p102 am_N x0 x1 x2 x3 x4 0 y6 y7 y8 y9 w
    · skip
      refine ok_seg (L := [((.aload_n 0), 1)]) (pc' := 77) (ls' := [some (.ref x0), some (.int x1), some (.int x2), some (.int x3), some (.int x4), some (.int x5), y6, y7, y8, y9]) (st' := [.ref x0]) (w' := w) (by decide +kernel) rfl ?_
      refine ok_gr (by decide +kernel : decode m_M_laysMost.2.1 77 = .ok ((.getfield 97), 3)) rfl (by decide) (fun v49 h50 => ?_)
      refine ok_seg (L := [((.iload 5), 2), ((.iload 5), 2)]) (pc' := 84) (ls' := [some (.ref x0), some (.int x1), some (.int x2), some (.int x3), some (.int x4), some (.int x5), y6, y7, y8, y9]) (st' := [.int x5, .int x5, .ref v49]) (w' := w) (by decide +kernel) rfl ?_
      refine ok_br (P := ¬ x5 = 0) (off := 7) (t := 91) (by decide +kernel : decode m_M_laysMost.2.1 84 = .ok ((.ifCond .ne 7), 3)) rfl rfl rfl rfl (fun c51 => ?_) (fun c51 => ?_)
      · skip
        refine ok_seg (L := [((.iconst (-1)), 1)]) (pc' := 92) (ls' := [some (.ref x0), some (.int x1), some (.int x2), some (.int x3), some (.int x4), some (.int x5), y6, y7, y8, y9]) (st' := [.int (-1), .int x5, .ref v49]) (w' := w) (by decide +kernel) rfl ?_
        exact o_M_laysMost_p92 ih x0 x1 x2 x3 x4 x5 v49 x5 (-1) y6 y7 y8 y9 w
      · skip
        refine ok_seg (L := [((.iconst 0), 1)]) (pc' := 88) (ls' := [some (.ref x0), some (.int x1), some (.int x2), some (.int x3), some (.int x4), some (.int x5), y6, y7, y8, y9]) (st' := [.int 0, .int x5, .ref v49]) (w' := w) (by decide +kernel) rfl ?_
        refine ok_goto (t := 92) (by decide +kernel : decode m_M_laysMost.2.1 88 = .ok ((.goto 4), 3)) rfl ?_
        exact o_M_laysMost_p92 ih x0 x1 x2 x3 x4 x5 v49 x5 0 y6 y7 y8 y9 w
theorem o_M_laysMost_p39 {d : Nat} : ∀ (n : Nat) (x0 : Nat) (x1 : Int32) (x2 : Int32) (x3 : Int32) (x4 : Int32) (x5 : Int32) (y6 y7 y8 y9 : Option Value) (w : am_W), am_Ok am_ji (d + 1) m_M_laysMost 39 [some (.ref x0), some (.int x1), some (.int x2), some (.int x3), some (.int x4), some (.int x5), y6, y7, y8, y9] [] w (f_M_laysMost_p39 n x0 x1 x2 x3 x4 x5 w) := by
  intro n
  induction n with
  | zero => intros; exact ok_none
  | succ n ih =>
    intro x0 x1 x2 x3 x4 x5 y6 y7 y8 y9 w
    unfold f_M_laysMost_p39
    refine ok_seg (L := [((.iload 5), 2), ((.iconst 1), 1), ((.iload_n 2), 1), (.ishl, 1)]) (pc' := 44) (ls' := [some (.ref x0), some (.int x1), some (.int x2), some (.int x3), some (.int x4), some (.int x5), y6, y7, y8, y9]) (st' := [.int (1 <<< (x2 &&& 31)), .int x5]) (w' := w) (by decide +kernel) rfl ?_
    refine ok_br (P := (1 <<< (x2 &&& 31)) ≤ x5) (off := 22) (t := 66) (by decide +kernel : decode m_M_laysMost.2.1 44 = .ok ((.if_icmp .ge 22), 3)) rfl rfl rfl rfl (fun c52 => ?_) (fun c52 => ?_)
    · skip
      refine ok_seg (L := [((.iconst 0), 1), ((.istore 5), 2)]) (pc' := 69) (ls' := [some (.ref x0), some (.int x1), some (.int x2), some (.int x3), some (.int x4), some (.int 0), y6, y7, y8, y9]) (st' := []) (w' := w) (by decide +kernel) rfl ?_
      exact o_M_laysMost_p69 am_N x0 x1 x2 x3 x4 0 y6 y7 y8 y9 w
    · skip
      refine ok_seg (L := [((.aload_n 0), 1)]) (pc' := 48) (ls' := [some (.ref x0), some (.int x1), some (.int x2), some (.int x3), some (.int x4), some (.int x5), y6, y7, y8, y9]) (st' := [.ref x0]) (w' := w) (by decide +kernel) rfl ?_
      refine ok_gr (by decide +kernel : decode m_M_laysMost.2.1 48 = .ok ((.getfield 103), 3)) rfl (by decide) (fun v53 h54 => ?_)
      refine ok_seg (L := [((.iload 5), 2), ((.iload 5), 2), ((.iload_n 2), 1)]) (pc' := 56) (ls' := [some (.ref x0), some (.int x1), some (.int x2), some (.int x3), some (.int x4), some (.int x5), y6, y7, y8, y9]) (st' := [.int x2, .int x5, .int x5, .ref v53]) (w' := w) (by decide +kernel) rfl ?_
      refine ok_call0 (inj' := am_ji) (by decide +kernel : decode m_M_laysMost.2.1 56 = .ok ((.invokestatic 215), 3)) rfl (fun _ _ => rfl) (o_M_pairs (d + 0) (x5) (x2) w) (fun _ _ => rfl) (fun r55 h56 => ?_)
      refine ok_si (by decide +kernel : decode m_M_laysMost.2.1 59 = .ok (.iastore, 1)) (fun w57 h58 => ?_)
      refine ok_seg (L := [((.iinc 5 1), 3)]) (pc' := 63) (ls' := [some (.ref x0), some (.int x1), some (.int x2), some (.int x3), some (.int x4), some (.int (x5 + 1)), y6, y7, y8, y9]) (st' := []) (w' := w57) (by decide +kernel) rfl ?_
      refine ok_goto (t := 39) (by decide +kernel : decode m_M_laysMost.2.1 63 = .ok ((.goto (-24)), 3)) rfl ?_
      exact ih x0 x1 x2 x3 x4 (x5 + 1) y6 y7 y8 y9 w57
theorem o_M_laysMost (d : Nat) (x0 : Nat) (x1 : Int32) (x2 : Int32) (w : am_W) : am_Ok am_ji (d + 1) m_M_laysMost 0 (am_en m_M_laysMost [.ref x0, .int x1, .int x2]) [] w (f_M_laysMost x0 x1 x2 w) := by
  show am_Ok _ _ _ 0 [some (.ref x0), some (.int x1), some (.int x2), none, none, none, none, none, none, none] [] w _
  unfold f_M_laysMost
  refine ok_self ?_
  unfold e_M_laysMost
  refine ok_seg (L := [((.bipush 7), 2), ((.iload_n 1), 1), ((.iconst 1), 1), (.isub, 1), (.imul, 1), ((.iload_n 2), 1), (.iadd, 1), ((.istore_n 3), 1), ((.aload_n 0), 1)]) (pc' := 10) (ls' := [some (.ref x0), some (.int x1), some (.int x2), some (.int ((7 * (x1 - 1)) + x2)), none, none, none, none, none, none]) (st' := [.ref x0]) (w' := w) (by decide +kernel) rfl ?_
  refine ok_gr (by decide +kernel : decode m_M_laysMost.2.1 10 = .ok ((.getfield 100), 3)) rfl (by decide) (fun v59 h60 => ?_)
  refine ok_seg (L := [((.iload_n 3), 1)]) (pc' := 14) (ls' := [some (.ref x0), some (.int x1), some (.int x2), some (.int ((7 * (x1 - 1)) + x2)), none, none, none, none, none, none]) (st' := [.int ((7 * (x1 - 1)) + x2), .ref v59]) (w' := w) (by decide +kernel) rfl ?_
  refine ok_ai (by decide +kernel : decode m_M_laysMost.2.1 14 = .ok (.iaload, 1)) (fun v61 h62 => ?_)
  refine ok_br (P := v61 ≤ 0) (off := 10) (t := 25) (by decide +kernel : decode m_M_laysMost.2.1 15 = .ok ((.ifCond .le 10), 3)) rfl rfl rfl rfl (fun c63 => ?_) (fun c63 => ?_)
  · skip
    refine ok_seg (L := [((.iconst 1), 1), ((.iload_n 2), 1), ((.iload_n 2), 1), ((.iconst 1), 1), (.isub, 1), (.imul, 1), ((.iconst 2), 1)]) (pc' := 32) (ls' := [some (.ref x0), some (.int x1), some (.int x2), some (.int ((7 * (x1 - 1)) + x2)), none, none, none, none, none, none]) (st' := [.int 2, .int (x2 * (x2 - 1)), .int 1]) (w' := w) (by decide +kernel) rfl ?_
    refine ok_div (by decide +kernel : decode m_M_laysMost.2.1 32 = .ok (.idiv, 1)) (fun c64 => ?_)
    refine ok_seg (L := [(.ishl, 1), ((.istore 4), 2), ((.iconst 0), 1), ((.istore 5), 2)]) (pc' := 39) (ls' := [some (.ref x0), some (.int x1), some (.int x2), some (.int ((7 * (x1 - 1)) + x2)), some (.int (1 <<< (((x2 * (x2 - 1)) / 2) &&& 31))), some (.int 0), none, none, none, none]) (st' := []) (w' := w) (by decide +kernel) rfl ?_
    exact o_M_laysMost_p39 am_N x0 x1 x2 ((7 * (x1 - 1)) + x2) (1 <<< (((x2 * (x2 - 1)) / 2) &&& 31)) 0 none none none none w
  · skip
    refine ok_seg (L := [((.aload_n 0), 1)]) (pc' := 19) (ls' := [some (.ref x0), some (.int x1), some (.int x2), some (.int ((7 * (x1 - 1)) + x2)), none, none, none, none, none, none]) (st' := [.ref x0]) (w' := w) (by decide +kernel) rfl ?_
    refine ok_gr (by decide +kernel : decode m_M_laysMost.2.1 19 = .ok ((.getfield 100), 3)) rfl (by decide) (fun v65 h66 => ?_)
    refine ok_seg (L := [((.iload_n 3), 1)]) (pc' := 23) (ls' := [some (.ref x0), some (.int x1), some (.int x2), some (.int ((7 * (x1 - 1)) + x2)), none, none, none, none, none, none]) (st' := [.int ((7 * (x1 - 1)) + x2), .ref v65]) (w' := w) (by decide +kernel) rfl ?_
    refine ok_ai (by decide +kernel : decode m_M_laysMost.2.1 23 = .ok (.iaload, 1)) (fun v67 h68 => ?_)
    exact ok_ret (v := v67) (by decide +kernel : decode m_M_laysMost.2.1 24 = .ok (.ireturn, 1)) rfl
-- m_M_most
def f_M_most_p23 (s0 : Int32) (w : am_W) : Option (am_W × Int32) := (some (w, s0))
def e_M_most (x0 : Nat) (x1 : Int32) (x2 : Int32) (w : am_W) : Option (am_W × Int32) := ((am_pv w x0 7 0 (.int 0)).bind fun w1 => ((f_M_isSize (x1) (x2) w1).bind fun r3 => (if r3.2 = 0 then (f_M_most_p23 (-1) r3.1) else ((f_M_laysMost (x0) (x1) (x2) r3.1).bind fun r6 => (f_M_most_p23 r6.2 r6.1)))))
def f_M_most (x0 : Nat) (x1 : Int32) (x2 : Int32) (w : am_W) : Option (am_W × Int32) := am_self w x0 7 (e_M_most x0 x1 x2 w)
theorem o_M_most_p23 {d : Nat} (s0 : Int32) (y0 y1 y2 : Option Value) (w : am_W) : am_Ok am_ji (d + 2) m_M_most 23 [y0, y1, y2] [.int s0] w (f_M_most_p23 s0 w) := by
  unfold f_M_most_p23
  exact ok_ret (v := s0) (by decide +kernel : decode m_M_most.2.1 23 = .ok (.ireturn, 1)) rfl
theorem o_M_most (d : Nat) (x0 : Nat) (x1 : Int32) (x2 : Int32) (w : am_W) : am_Ok am_ji (d + 2) m_M_most 0 (am_en m_M_most [.ref x0, .int x1, .int x2]) [] w (f_M_most x0 x1 x2 w) := by
  show am_Ok _ _ _ 0 [some (.ref x0), some (.int x1), some (.int x2)] [] w _
  unfold f_M_most
  refine ok_self ?_
  unfold e_M_most
  refine ok_seg (L := [((.aload_n 0), 1), ((.iconst 0), 1)]) (pc' := 2) (ls' := [some (.ref x0), some (.int x1), some (.int x2)]) (st' := [.int 0, .ref x0]) (w' := w) (by decide +kernel) rfl ?_
  refine ok_pi (by decide +kernel : decode m_M_most.2.1 2 = .ok ((.putfield 1), 3)) rfl (fun w1 h2 => ?_)
  refine ok_seg (L := [((.iload_n 1), 1), ((.iload_n 2), 1)]) (pc' := 7) (ls' := [some (.ref x0), some (.int x1), some (.int x2)]) (st' := [.int x2, .int x1]) (w' := w1) (by decide +kernel) rfl ?_
  refine ok_call0 (inj' := am_ji) (by decide +kernel : decode m_M_most.2.1 7 = .ok ((.invokestatic 221), 3)) rfl (fun _ _ => rfl) (o_M_isSize (d + 0) (x1) (x2) w1) (fun _ _ => rfl) (fun r3 h4 => ?_)
  refine ok_br (P := r3.2 = 0) (off := 12) (t := 22) (by decide +kernel : decode m_M_most.2.1 10 = .ok ((.ifCond .eq 12), 3)) rfl rfl rfl rfl (fun c5 => ?_) (fun c5 => ?_)
  · skip
    refine ok_seg (L := [((.iconst (-1)), 1)]) (pc' := 23) (ls' := [some (.ref x0), some (.int x1), some (.int x2)]) (st' := [.int (-1)]) (w' := r3.1) (by decide +kernel) rfl ?_
    exact o_M_most_p23 (-1) (some (.ref x0)) (some (.int x1)) (some (.int x2)) r3.1
  · skip
    refine ok_seg (L := [((.aload_n 0), 1), ((.iload_n 1), 1), ((.iload_n 2), 1)]) (pc' := 16) (ls' := [some (.ref x0), some (.int x1), some (.int x2)]) (st' := [.int x2, .int x1, .ref x0]) (w' := r3.1) (by decide +kernel) rfl ?_
    refine ok_call0 (inj' := am_ji) (by decide +kernel : decode m_M_most.2.1 16 = .ok ((.invokevirtual 224), 3)) rfl (fun q hq => am_iv0 (am_self_eq hq).1 rfl rfl rfl) (o_M_laysMost (d + 0) (x0) (x1) (x2) r3.1) (fun _ _ => rfl) (fun r6 h7 => ?_)
    refine ok_goto (t := 23) (by decide +kernel : decode m_M_most.2.1 19 = .ok ((.goto 4), 3)) rfl ?_
    exact o_M_most_p23 r6.2 (some (.ref x0)) (some (.int x1)) (some (.int x2)) r6.1
-- m_M_crowded
def f_M_crowded_p22 (w : am_W) : Option (am_W × Int32) := (some (w, (-1)))
def f_M_crowded_p43 (s0 : Int32) (w : am_W) : Option (am_W × Int32) := (some (w, s0))
def e_M_crowded (x0 : Nat) (x1 : Int32) (x2 : Int32) (x3 : Int32) (w : am_W) : Option (am_W × Int32) := ((am_pv w x0 7 0 (.int 0)).bind fun w1 => ((f_M_isSize (x1) (x2) w1).bind fun r3 => (if r3.2 = 0 then (f_M_crowded_p22 r3.1) else ((f_M_isIn (x3) (1) (4) r3.1).bind fun r6 => (if ¬ r6.2 = 0 then ((f_M_laysMost (x0) (x1) (x2) r6.1).bind fun r9 => (if (x1 * x2) ≤ (r9.2 * x3) then (f_M_crowded_p43 0 r9.1) else (f_M_crowded_p43 1 r9.1))) else (f_M_crowded_p22 r6.1))))))
def f_M_crowded (x0 : Nat) (x1 : Int32) (x2 : Int32) (x3 : Int32) (w : am_W) : Option (am_W × Int32) := am_self w x0 7 (e_M_crowded x0 x1 x2 x3 w)
theorem o_M_crowded_p22 {d : Nat} (y0 y1 y2 y3 : Option Value) (w : am_W) : am_Ok am_ji (d + 2) m_M_crowded 22 [y0, y1, y2, y3] [] w (f_M_crowded_p22 w) := by
  unfold f_M_crowded_p22
  refine ok_seg (L := [((.iconst (-1)), 1)]) (pc' := 23) (ls' := [y0, y1, y2, y3]) (st' := [.int (-1)]) (w' := w) (by decide +kernel) rfl ?_
  exact ok_ret (v := (-1)) (by decide +kernel : decode m_M_crowded.2.1 23 = .ok (.ireturn, 1)) rfl
theorem o_M_crowded_p43 {d : Nat} (s0 : Int32) (y0 y1 y2 y3 : Option Value) (w : am_W) : am_Ok am_ji (d + 2) m_M_crowded 43 [y0, y1, y2, y3] [.int s0] w (f_M_crowded_p43 s0 w) := by
  unfold f_M_crowded_p43
  exact ok_ret (v := s0) (by decide +kernel : decode m_M_crowded.2.1 43 = .ok (.ireturn, 1)) rfl
theorem o_M_crowded (d : Nat) (x0 : Nat) (x1 : Int32) (x2 : Int32) (x3 : Int32) (w : am_W) : am_Ok am_ji (d + 2) m_M_crowded 0 (am_en m_M_crowded [.ref x0, .int x1, .int x2, .int x3]) [] w (f_M_crowded x0 x1 x2 x3 w) := by
  show am_Ok _ _ _ 0 [some (.ref x0), some (.int x1), some (.int x2), some (.int x3)] [] w _
  unfold f_M_crowded
  refine ok_self ?_
  unfold e_M_crowded
  refine ok_seg (L := [((.aload_n 0), 1), ((.iconst 0), 1)]) (pc' := 2) (ls' := [some (.ref x0), some (.int x1), some (.int x2), some (.int x3)]) (st' := [.int 0, .ref x0]) (w' := w) (by decide +kernel) rfl ?_
  refine ok_pi (by decide +kernel : decode m_M_crowded.2.1 2 = .ok ((.putfield 1), 3)) rfl (fun w1 h2 => ?_)
  refine ok_seg (L := [((.iload_n 1), 1), ((.iload_n 2), 1)]) (pc' := 7) (ls' := [some (.ref x0), some (.int x1), some (.int x2), some (.int x3)]) (st' := [.int x2, .int x1]) (w' := w1) (by decide +kernel) rfl ?_
  refine ok_call0 (inj' := am_ji) (by decide +kernel : decode m_M_crowded.2.1 7 = .ok ((.invokestatic 221), 3)) rfl (fun _ _ => rfl) (o_M_isSize (d + 0) (x1) (x2) w1) (fun _ _ => rfl) (fun r3 h4 => ?_)
  refine ok_br (P := r3.2 = 0) (off := 12) (t := 22) (by decide +kernel : decode m_M_crowded.2.1 10 = .ok ((.ifCond .eq 12), 3)) rfl rfl rfl rfl (fun c5 => ?_) (fun c5 => ?_)
  · skip
    exact o_M_crowded_p22 (some (.ref x0)) (some (.int x1)) (some (.int x2)) (some (.int x3)) r3.1
  · skip
    refine ok_seg (L := [((.iload_n 3), 1), ((.iconst 1), 1), ((.iconst 4), 1)]) (pc' := 16) (ls' := [some (.ref x0), some (.int x1), some (.int x2), some (.int x3)]) (st' := [.int 4, .int 1, .int x3]) (w' := r3.1) (by decide +kernel) rfl ?_
    refine ok_call0 (inj' := am_ji) (by decide +kernel : decode m_M_crowded.2.1 16 = .ok ((.invokestatic 121), 3)) rfl (fun _ _ => rfl) (o_M_isIn (d + 1) (x3) (1) (4) r3.1) (fun _ _ => rfl) (fun r6 h7 => ?_)
    refine ok_br (P := ¬ r6.2 = 0) (off := 5) (t := 24) (by decide +kernel : decode m_M_crowded.2.1 19 = .ok ((.ifCond .ne 5), 3)) rfl rfl rfl rfl (fun c8 => ?_) (fun c8 => ?_)
    · skip
      refine ok_seg (L := [((.aload_n 0), 1), ((.iload_n 1), 1), ((.iload_n 2), 1)]) (pc' := 27) (ls' := [some (.ref x0), some (.int x1), some (.int x2), some (.int x3)]) (st' := [.int x2, .int x1, .ref x0]) (w' := r6.1) (by decide +kernel) rfl ?_
      refine ok_call0 (inj' := am_ji) (by decide +kernel : decode m_M_crowded.2.1 27 = .ok ((.invokevirtual 224), 3)) rfl (fun q hq => am_iv0 (am_self_eq hq).1 rfl rfl rfl) (o_M_laysMost (d + 0) (x0) (x1) (x2) r6.1) (fun _ _ => rfl) (fun r9 h10 => ?_)
      refine ok_seg (L := [((.iload_n 3), 1), (.imul, 1), ((.iload_n 1), 1), ((.iload_n 2), 1), (.imul, 1)]) (pc' := 35) (ls' := [some (.ref x0), some (.int x1), some (.int x2), some (.int x3)]) (st' := [.int (x1 * x2), .int (r9.2 * x3)]) (w' := r9.1) (by decide +kernel) rfl ?_
      refine ok_br (P := (x1 * x2) ≤ (r9.2 * x3)) (off := 7) (t := 42) (by decide +kernel : decode m_M_crowded.2.1 35 = .ok ((.if_icmp .ge 7), 3)) rfl rfl rfl rfl (fun c11 => ?_) (fun c11 => ?_)
      · skip
        refine ok_seg (L := [((.iconst 0), 1)]) (pc' := 43) (ls' := [some (.ref x0), some (.int x1), some (.int x2), some (.int x3)]) (st' := [.int 0]) (w' := r9.1) (by decide +kernel) rfl ?_
        exact o_M_crowded_p43 0 (some (.ref x0)) (some (.int x1)) (some (.int x2)) (some (.int x3)) r9.1
      · skip
        refine ok_seg (L := [((.iconst 1), 1)]) (pc' := 39) (ls' := [some (.ref x0), some (.int x1), some (.int x2), some (.int x3)]) (st' := [.int 1]) (w' := r9.1) (by decide +kernel) rfl ?_
        refine ok_goto (t := 43) (by decide +kernel : decode m_M_crowded.2.1 39 = .ok ((.goto 4), 3)) rfl ?_
        exact o_M_crowded_p43 1 (some (.ref x0)) (some (.int x1)) (some (.int x2)) (some (.int x3)) r9.1
    · skip
      exact o_M_crowded_p22 (some (.ref x0)) (some (.int x1)) (some (.int x2)) (some (.int x3)) r6.1
