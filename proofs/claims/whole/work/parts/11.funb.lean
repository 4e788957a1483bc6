-- m_R_readNumber
def f_R_readNumber_p48 (s0 : Int32) (w : am_W) : Option (am_W × Int32) := (am_rb w s0)
def f_R_readNumber_p43 (w : am_W) : Option (am_W × Int32) := (f_R_readNumber_p48 1 w)
def f_R_readNumber_p35 (x0 : Nat) (w : am_W) : Option (am_W × Int32) := ((f_R_refuse (x0) (2) w).bind fun r1 => (if r1.2 = 0 then (f_R_readNumber_p48 0 r1.1) else (f_R_readNumber_p43 r1.1)))
def e_R_readNumber (x0 : Nat) (x1 : Nat) (x2 : Int32) (x3 : Int32) (w : am_W) : Option (am_W × Int32) := ((f_R_step (x0) (x1) w).bind fun r4 => ((am_gi r4.1 x0 3 1).bind fun v6 => (if v6 = 2 then ((am_gi r4.1 x0 3 4).bind fun v9 => (if v9 < x2 then (f_R_readNumber_p35 x0 r4.1) else ((am_gi r4.1 x0 3 4).bind fun v12 => (if v12 ≤ x3 then (f_R_readNumber_p43 r4.1) else (f_R_readNumber_p35 x0 r4.1))))) else ((f_R_refuse (x0) (1) r4.1).bind fun r15 => (am_rb r15.1 r15.2)))))
def f_R_readNumber (x0 : Nat) (x1 : Nat) (x2 : Int32) (x3 : Int32) (w : am_W) : Option (am_W × Int32) := am_self w x0 3 (e_R_readNumber x0 x1 x2 x3 w)
theorem o_R_readNumber_p48 {d : Nat} (s0 : Int32) (y0 y1 y2 y3 : Option Value) (w : am_W) : am_Ok am_ji (d + 3) m_R_readNumber 48 [y0, y1, y2, y3] [.int s0] w (f_R_readNumber_p48 s0 w) := by
  unfold f_R_readNumber_p48
  exact ok_retb (len := 1) (by decide +kernel : decode m_R_readNumber.2.1 48 = .ok (.ireturn, 1)) rfl
theorem o_R_readNumber_p43 {d : Nat} (y0 y1 y2 y3 : Option Value) (w : am_W) : am_Ok am_ji (d + 3) m_R_readNumber 43 [y0, y1, y2, y3] [] w (f_R_readNumber_p43 w) := by
  unfold f_R_readNumber_p43
  refine ok_seg (L := [((.iconst 1), 1)]) (pc' := 44) (ls' := [y0, y1, y2, y3]) (st' := [.int 1]) (w' := w) (by decide +kernel) rfl ?_
  refine ok_goto (t := 48) (by decide +kernel : decode m_R_readNumber.2.1 44 = .ok ((.goto 4), 3)) rfl ?_
  exact o_R_readNumber_p48 1 y0 y1 y2 y3 w
theorem o_R_readNumber_p35 {d : Nat} (x0 : Nat) (y1 y2 y3 : Option Value) (w : am_W) : am_Ok am_ji (d + 3) m_R_readNumber 35 [some (.ref x0), y1, y2, y3] [] w (f_R_readNumber_p35 x0 w) := by
  unfold f_R_readNumber_p35
  refine ok_seg (L := [((.aload_n 0), 1), ((.iconst 2), 1)]) (pc' := 37) (ls' := [some (.ref x0), y1, y2, y3]) (st' := [.int 2, .ref x0]) (w' := w) (by decide +kernel) rfl ?_
  refine ok_call0 (inj' := am_ji) (by decide +kernel : decode m_R_readNumber.2.1 37 = .ok ((.invokevirtual 54), 3)) rfl (fun q hq => am_iv0 (am_self_eq hq).1 rfl rfl rfl) (o_R_refuse (d + 2) (x0) (2) w) (fun _ _ => rfl) (fun r1 h2 => ?_)
  refine ok_br (P := r1.2 = 0) (off := 7) (t := 47) (by decide +kernel : decode m_R_readNumber.2.1 40 = .ok ((.ifCond .eq 7), 3)) rfl rfl rfl rfl (fun c3 => ?_) (fun c3 => ?_)
  · skip
    refine ok_seg (L := [((.iconst 0), 1)]) (pc' := 48) (ls' := [some (.ref x0), y1, y2, y3]) (st' := [.int 0]) (w' := r1.1) (by decide +kernel) rfl ?_
    exact o_R_readNumber_p48 0 (some (.ref x0)) y1 y2 y3 r1.1
  · skip
    exact o_R_readNumber_p43 (some (.ref x0)) y1 y2 y3 r1.1
theorem o_R_readNumber (d : Nat) (x0 : Nat) (x1 : Nat) (x2 : Int32) (x3 : Int32) (w : am_W) : am_Ok am_ji (d + 3) m_R_readNumber 0 (am_en m_R_readNumber [.ref x0, .ref x1, .int x2, .int x3]) [] w (f_R_readNumber x0 x1 x2 x3 w) := by
  show am_Ok _ _ _ 0 [some (.ref x0), some (.ref x1), some (.int x2), some (.int x3)] [] w _
  unfold f_R_readNumber
  refine ok_self ?_
  unfold e_R_readNumber
  refine ok_seg (L := [((.aload_n 0), 1), ((.aload_n 1), 1)]) (pc' := 2) (ls' := [some (.ref x0), some (.ref x1), some (.int x2), some (.int x3)]) (st' := [.ref x1, .ref x0]) (w' := w) (by decide +kernel) rfl ?_
  refine ok_call0 (inj' := am_jv) (by decide +kernel : decode m_R_readNumber.2.1 2 = .ok ((.invokevirtual 44), 3)) rfl (fun q hq => am_iv0 (am_self_eq hq).1 rfl rfl rfl) (o_R_step (d + 0) (x0) (x1) w) (fun _ _ => rfl) (fun r4 h5 => ?_)
  refine ok_seg (L := [((.aload_n 0), 1)]) (pc' := 6) (ls' := [some (.ref x0), some (.ref x1), some (.int x2), some (.int x3)]) (st' := [.ref x0]) (w' := r4.1) (by decide +kernel) rfl ?_
  refine ok_gi (by decide +kernel : decode m_R_readNumber.2.1 6 = .ok ((.getfield 18), 3)) rfl (fun v6 h7 => ?_)
  refine ok_seg (L := [((.iconst 2), 1)]) (pc' := 10) (ls' := [some (.ref x0), some (.ref x1), some (.int x2), some (.int x3)]) (st' := [.int 2, .int v6]) (w' := r4.1) (by decide +kernel) rfl ?_
  refine ok_br (P := v6 = 2) (off := 9) (t := 19) (by decide +kernel : decode m_R_readNumber.2.1 10 = .ok ((.if_icmp .eq 9), 3)) rfl rfl rfl rfl (fun c8 => ?_) (fun c8 => ?_)
  · skip
    refine ok_seg (L := [((.aload_n 0), 1)]) (pc' := 20) (ls' := [some (.ref x0), some (.ref x1), some (.int x2), some (.int x3)]) (st' := [.ref x0]) (w' := r4.1) (by decide +kernel) rfl ?_
    refine ok_gi (by decide +kernel : decode m_R_readNumber.2.1 20 = .ok ((.getfield 28), 3)) rfl (fun v9 h10 => ?_)
    refine ok_seg (L := [((.iload_n 2), 1)]) (pc' := 24) (ls' := [some (.ref x0), some (.ref x1), some (.int x2), some (.int x3)]) (st' := [.int x2, .int v9]) (w' := r4.1) (by decide +kernel) rfl ?_
    refine ok_br (P := v9 < x2) (off := 11) (t := 35) (by decide +kernel : decode m_R_readNumber.2.1 24 = .ok ((.if_icmp .lt 11), 3)) rfl rfl rfl rfl (fun c11 => ?_) (fun c11 => ?_)
    · skip
      exact o_R_readNumber_p35 x0 (some (.ref x1)) (some (.int x2)) (some (.int x3)) r4.1
    · skip
      refine ok_seg (L := [((.aload_n 0), 1)]) (pc' := 28) (ls' := [some (.ref x0), some (.ref x1), some (.int x2), some (.int x3)]) (st' := [.ref x0]) (w' := r4.1) (by decide +kernel) rfl ?_
      refine ok_gi (by decide +kernel : decode m_R_readNumber.2.1 28 = .ok ((.getfield 28), 3)) rfl (fun v12 h13 => ?_)
      refine ok_seg (L := [((.iload_n 3), 1)]) (pc' := 32) (ls' := [some (.ref x0), some (.ref x1), some (.int x2), some (.int x3)]) (st' := [.int x3, .int v12]) (w' := r4.1) (by decide +kernel) rfl ?_
      refine ok_br (P := v12 ≤ x3) (off := 11) (t := 43) (by decide +kernel : decode m_R_readNumber.2.1 32 = .ok ((.if_icmp .le 11), 3)) rfl rfl rfl rfl (fun c14 => ?_) (fun c14 => ?_)
      · skip
        exact o_R_readNumber_p43 (some (.ref x0)) (some (.ref x1)) (some (.int x2)) (some (.int x3)) r4.1
      · skip
        exact o_R_readNumber_p35 x0 (some (.ref x1)) (some (.int x2)) (some (.int x3)) r4.1
  · skip
    refine ok_seg (L := [((.aload_n 0), 1), ((.iconst 1), 1)]) (pc' := 15) (ls' := [some (.ref x0), some (.ref x1), some (.int x2), some (.int x3)]) (st' := [.int 1, .ref x0]) (w' := r4.1) (by decide +kernel) rfl ?_
    refine ok_call0 (inj' := am_ji) (by decide +kernel : decode m_R_readNumber.2.1 15 = .ok ((.invokevirtual 54), 3)) rfl (fun q hq => am_iv0 (am_self_eq hq).1 rfl rfl rfl) (o_R_refuse (d + 2) (x0) (1) r4.1) (fun _ _ => rfl) (fun r15 h16 => ?_)
    exact ok_retb (len := 1) (by decide +kernel : decode m_R_readNumber.2.1 18 = .ok (.ireturn, 1)) rfl
-- m_R_readGrid
def e_R_readGrid (x0 : Nat) (x1 : Nat) (w : am_W) : Option (am_W × Int32) := ((f_R_isWord (x0) (x1) (2) w).bind fun r1 => (if ¬ r1.2 = 0 then ((f_R_readNumber (x0) (x1) (1) (8) r1.1).bind fun r4 => (if ¬ r4.2 = 0 then ((am_gi r4.1 x0 3 4).bind fun v7 => ((f_R_readNumber (x0) (x1) (1) (8) r4.1).bind fun r9 => (if ¬ r9.2 = 0 then ((am_gi r9.1 x0 3 4).bind fun v12 => ((f_R_readNumber (x0) (x1) (1) (4) r9.1).bind fun r14 => (if ¬ r14.2 = 0 then ((am_gr r14.1 x0 3 0).bind fun v17 => ((am_gi r14.1 x0 3 4).bind fun v19 => ((f_G_start (v17) (v7) (v12) (v19) r14.1).bind fun r21 => (some (r21.1, 1))))) else (some (r14.1, 0))))) else (some (r9.1, 0))))) else (some (r4.1, 0)))) else ((f_R_refuse (x0) (1) r1.1).bind fun r23 => (am_rb r23.1 r23.2))))
def f_R_readGrid (x0 : Nat) (x1 : Nat) (w : am_W) : Option (am_W × Int32) := am_self w x0 3 (e_R_readGrid x0 x1 w)
theorem o_R_readGrid (d : Nat) (x0 : Nat) (x1 : Nat) (w : am_W) : am_Ok am_ji (d + 4) m_R_readGrid 0 (am_en m_R_readGrid [.ref x0, .ref x1]) [] w (f_R_readGrid x0 x1 w) := by
  show am_Ok _ _ _ 0 [some (.ref x0), some (.ref x1), none, none] [] w _
  unfold f_R_readGrid
  refine ok_self ?_
  unfold e_R_readGrid
  refine ok_seg (L := [((.aload_n 0), 1), ((.aload_n 1), 1), ((.ldc 65), 2)]) (pc' := 4) (ls' := [some (.ref x0), some (.ref x1), none, none]) (st' := [.ref 2, .ref x1, .ref x0]) (w' := w) (by decide +kernel) rfl ?_
  refine ok_call0 (inj' := am_ji) (by decide +kernel : decode m_R_readGrid.2.1 4 = .ok ((.invokevirtual 66), 3)) rfl (fun q hq => am_iv0 (am_self_eq hq).1 rfl rfl rfl) (o_R_isWord (d + 2) (x0) (x1) (2) w) (fun _ _ => rfl) (fun r1 h2 => ?_)
  refine ok_br (P := ¬ r1.2 = 0) (off := 9) (t := 16) (by decide +kernel : decode m_R_readGrid.2.1 7 = .ok ((.ifCond .ne 9), 3)) rfl rfl rfl rfl (fun c3 => ?_) (fun c3 => ?_)
  · skip
    refine ok_seg (L := [((.aload_n 0), 1), ((.aload_n 1), 1), ((.iconst 1), 1), ((.bipush 8), 2)]) (pc' := 21) (ls' := [some (.ref x0), some (.ref x1), none, none]) (st' := [.int 8, .int 1, .ref x1, .ref x0]) (w' := r1.1) (by decide +kernel) rfl ?_
    refine ok_call0 (inj' := am_ji) (by decide +kernel : decode m_R_readGrid.2.1 21 = .ok ((.invokevirtual 70), 3)) rfl (fun q hq => am_iv0 (am_self_eq hq).1 rfl rfl rfl) (o_R_readNumber (d + 0) (x0) (x1) (1) (8) r1.1) (fun _ _ => rfl) (fun r4 h5 => ?_)
    refine ok_br (P := ¬ r4.2 = 0) (off := 5) (t := 29) (by decide +kernel : decode m_R_readGrid.2.1 24 = .ok ((.ifCond .ne 5), 3)) rfl rfl rfl rfl (fun c6 => ?_) (fun c6 => ?_)
    · skip
      refine ok_seg (L := [((.aload_n 0), 1)]) (pc' := 30) (ls' := [some (.ref x0), some (.ref x1), none, none]) (st' := [.ref x0]) (w' := r4.1) (by decide +kernel) rfl ?_
      refine ok_gi (by decide +kernel : decode m_R_readGrid.2.1 30 = .ok ((.getfield 28), 3)) rfl (fun v7 h8 => ?_)
      refine ok_seg (L := [((.istore_n 2), 1), ((.aload_n 0), 1), ((.aload_n 1), 1), ((.iconst 1), 1), ((.bipush 8), 2)]) (pc' := 39) (ls' := [some (.ref x0), some (.ref x1), some (.int v7), none]) (st' := [.int 8, .int 1, .ref x1, .ref x0]) (w' := r4.1) (by decide +kernel) rfl ?_
      refine ok_call0 (inj' := am_ji) (by decide +kernel : decode m_R_readGrid.2.1 39 = .ok ((.invokevirtual 70), 3)) rfl (fun q hq => am_iv0 (am_self_eq hq).1 rfl rfl rfl) (o_R_readNumber (d + 0) (x0) (x1) (1) (8) r4.1) (fun _ _ => rfl) (fun r9 h10 => ?_)
      refine ok_br (P := ¬ r9.2 = 0) (off := 5) (t := 47) (by decide +kernel : decode m_R_readGrid.2.1 42 = .ok ((.ifCond .ne 5), 3)) rfl rfl rfl rfl (fun c11 => ?_) (fun c11 => ?_)
      · skip
        refine ok_seg (L := [((.aload_n 0), 1)]) (pc' := 48) (ls' := [some (.ref x0), some (.ref x1), some (.int v7), none]) (st' := [.ref x0]) (w' := r9.1) (by decide +kernel) rfl ?_
        refine ok_gi (by decide +kernel : decode m_R_readGrid.2.1 48 = .ok ((.getfield 28), 3)) rfl (fun v12 h13 => ?_)
        refine ok_seg (L := [((.istore_n 3), 1), ((.aload_n 0), 1), ((.aload_n 1), 1), ((.iconst 1), 1), ((.iconst 4), 1)]) (pc' := 56) (ls' := [some (.ref x0), some (.ref x1), some (.int v7), some (.int v12)]) (st' := [.int 4, .int 1, .ref x1, .ref x0]) (w' := r9.1) (by decide +kernel) rfl ?_
        refine ok_call0 (inj' := am_ji) (by decide +kernel : decode m_R_readGrid.2.1 56 = .ok ((.invokevirtual 70), 3)) rfl (fun q hq => am_iv0 (am_self_eq hq).1 rfl rfl rfl) (o_R_readNumber (d + 0) (x0) (x1) (1) (4) r9.1) (fun _ _ => rfl) (fun r14 h15 => ?_)
        refine ok_br (P := ¬ r14.2 = 0) (off := 5) (t := 64) (by decide +kernel : decode m_R_readGrid.2.1 59 = .ok ((.ifCond .ne 5), 3)) rfl rfl rfl rfl (fun c16 => ?_) (fun c16 => ?_)
        · skip
          refine ok_seg (L := [((.aload_n 0), 1)]) (pc' := 65) (ls' := [some (.ref x0), some (.ref x1), some (.int v7), some (.int v12)]) (st' := [.ref x0]) (w' := r14.1) (by decide +kernel) rfl ?_
          refine ok_gr (by decide +kernel : decode m_R_readGrid.2.1 65 = .ok ((.getfield 12), 3)) rfl (by decide) (fun v17 h18 => ?_)
          refine ok_seg (L := [((.iload_n 2), 1), ((.iload_n 3), 1), ((.aload_n 0), 1)]) (pc' := 71) (ls' := [some (.ref x0), some (.ref x1), some (.int v7), some (.int v12)]) (st' := [.ref x0, .int v12, .int v7, .ref v17]) (w' := r14.1) (by decide +kernel) rfl ?_
          refine ok_gi (by decide +kernel : decode m_R_readGrid.2.1 71 = .ok ((.getfield 28), 3)) rfl (fun v19 h20 => ?_)
          refine ok_call0 (inj' := am_jv) (by decide +kernel : decode m_R_readGrid.2.1 74 = .ok ((.invokevirtual 40), 3)) rfl (fun q hq => am_iv0 (am_self_eq hq).1 rfl rfl rfl) (o_G_start (d + 2) (v17) (v7) (v12) (v19) r14.1) (fun _ _ => rfl) (fun r21 h22 => ?_)
          refine ok_seg (L := [((.iconst 1), 1)]) (pc' := 78) (ls' := [some (.ref x0), some (.ref x1), some (.int v7), some (.int v12)]) (st' := [.int 1]) (w' := r21.1) (by decide +kernel) rfl ?_
          exact ok_ret (v := 1) (by decide +kernel : decode m_R_readGrid.2.1 78 = .ok (.ireturn, 1)) rfl
        · skip
          refine ok_seg (L := [((.iconst 0), 1)]) (pc' := 63) (ls' := [some (.ref x0), some (.ref x1), some (.int v7), some (.int v12)]) (st' := [.int 0]) (w' := r14.1) (by decide +kernel) rfl ?_
          exact ok_ret (v := 0) (by decide +kernel : decode m_R_readGrid.2.1 63 = .ok (.ireturn, 1)) rfl
      · skip
        refine ok_seg (L := [((.iconst 0), 1)]) (pc' := 46) (ls' := [some (.ref x0), some (.ref x1), some (.int v7), none]) (st' := [.int 0]) (w' := r9.1) (by decide +kernel) rfl ?_
        exact ok_ret (v := 0) (by decide +kernel : decode m_R_readGrid.2.1 46 = .ok (.ireturn, 1)) rfl
    · skip
      refine ok_seg (L := [((.iconst 0), 1)]) (pc' := 28) (ls' := [some (.ref x0), some (.ref x1), none, none]) (st' := [.int 0]) (w' := r4.1) (by decide +kernel) rfl ?_
      exact ok_ret (v := 0) (by decide +kernel : decode m_R_readGrid.2.1 28 = .ok (.ireturn, 1)) rfl
  · skip
    refine ok_seg (L := [((.aload_n 0), 1), ((.iconst 1), 1)]) (pc' := 12) (ls' := [some (.ref x0), some (.ref x1), none, none]) (st' := [.int 1, .ref x0]) (w' := r1.1) (by decide +kernel) rfl ?_
    refine ok_call0 (inj' := am_ji) (by decide +kernel : decode m_R_readGrid.2.1 12 = .ok ((.invokevirtual 54), 3)) rfl (fun q hq => am_iv0 (am_self_eq hq).1 rfl rfl rfl) (o_R_refuse (d + 3) (x0) (1) r1.1) (fun _ _ => rfl) (fun r23 h24 => ?_)
    exact ok_retb (len := 1) (by decide +kernel : decode m_R_readGrid.2.1 15 = .ok (.ireturn, 1)) rfl
-- m_G_cellAt
def e_G_cellAt (x0 : Nat) (x1 : Int32) (x2 : Int32) (w : am_W) : Option (am_W × Int32) := ((am_gi w x0 1 2).bind fun v1 => (some (w, ((x1 * v1) + x2))))
def f_G_cellAt (x0 : Nat) (x1 : Int32) (x2 : Int32) (w : am_W) : Option (am_W × Int32) := am_self w x0 1 (e_G_cellAt x0 x1 x2 w)
theorem o_G_cellAt (d : Nat) (x0 : Nat) (x1 : Int32) (x2 : Int32) (w : am_W) : am_Ok am_ji (d + 0) m_G_cellAt 0 (am_en m_G_cellAt [.ref x0, .int x1, .int x2]) [] w (f_G_cellAt x0 x1 x2 w) := by
  show am_Ok _ _ _ 0 [some (.ref x0), some (.int x1), some (.int x2)] [] w _
  unfold f_G_cellAt
  refine ok_self ?_
  unfold e_G_cellAt
  refine ok_seg (L := [((.iload_n 1), 1), ((.aload_n 0), 1)]) (pc' := 2) (ls' := [some (.ref x0), some (.int x1), some (.int x2)]) (st' := [.ref x0, .int x1]) (w' := w) (by decide +kernel) rfl ?_
  refine ok_gi (by decide +kernel : decode m_G_cellAt.2.1 2 = .ok ((.getfield 19), 3)) rfl (fun v1 h2 => ?_)
  refine ok_seg (L := [(.imul, 1), ((.iload_n 2), 1), (.iadd, 1)]) (pc' := 8) (ls' := [some (.ref x0), some (.int x1), some (.int x2)]) (st' := [.int ((x1 * v1) + x2)]) (w' := w) (by decide +kernel) rfl ?_
  exact ok_ret (v := ((x1 * v1) + x2)) (by decide +kernel : decode m_G_cellAt.2.1 8 = .ok (.ireturn, 1)) rfl
-- m_G_high
def e_G_high (x0 : Nat) (w : am_W) : Option (am_W × Int32) := ((am_gi w x0 1 1).bind fun v1 => (some (w, v1)))
def f_G_high (x0 : Nat) (w : am_W) : Option (am_W × Int32) := am_self w x0 1 (e_G_high x0 w)
theorem o_G_high (d : Nat) (x0 : Nat) (w : am_W) : am_Ok am_ji (d + 0) m_G_high 0 (am_en m_G_high [.ref x0]) [] w (f_G_high x0 w) := by
  show am_Ok _ _ _ 0 [some (.ref x0)] [] w _
  unfold f_G_high
  refine ok_self ?_
  unfold e_G_high
  refine ok_seg (L := [((.aload_n 0), 1)]) (pc' := 1) (ls' := [some (.ref x0)]) (st' := [.ref x0]) (w' := w) (by decide +kernel) rfl ?_
  refine ok_gi (by decide +kernel : decode m_G_high.2.1 1 = .ok ((.getfield 15), 3)) rfl (fun v1 h2 => ?_)
  exact ok_ret (v := v1) (by decide +kernel : decode m_G_high.2.1 4 = .ok (.ireturn, 1)) rfl
-- m_G_hasCell
def f_G_hasCell_p22 (s0 : Int32) (w : am_W) : Option (am_W × Int32) := (am_rb w s0)
def f_G_hasCell_p21 (w : am_W) : Option (am_W × Int32) := (f_G_hasCell_p22 0 w)
def e_G_hasCell (x0 : Nat) (x1 : Int32) (w : am_W) : Option (am_W × Int32) := (if x1 < 0 then (f_G_hasCell_p21 w) else ((am_gi w x0 1 1).bind fun v2 => ((am_gi w x0 1 2).bind fun v4 => (if (v2 * v4) ≤ x1 then (f_G_hasCell_p21 w) else (f_G_hasCell_p22 1 w)))))
def f_G_hasCell (x0 : Nat) (x1 : Int32) (w : am_W) : Option (am_W × Int32) := am_self w x0 1 (e_G_hasCell x0 x1 w)
theorem o_G_hasCell_p22 {d : Nat} (s0 : Int32) (y0 y1 : Option Value) (w : am_W) : am_Ok am_ji (d + 0) m_G_hasCell 22 [y0, y1] [.int s0] w (f_G_hasCell_p22 s0 w) := by
  unfold f_G_hasCell_p22
  exact ok_retb (len := 1) (by decide +kernel : decode m_G_hasCell.2.1 22 = .ok (.ireturn, 1)) rfl
theorem o_G_hasCell_p21 {d : Nat} (y0 y1 : Option Value) (w : am_W) : am_Ok am_ji (d + 0) m_G_hasCell 21 [y0, y1] [] w (f_G_hasCell_p21 w) := by
  unfold f_G_hasCell_p21
  refine ok_seg (L := [((.iconst 0), 1)]) (pc' := 22) (ls' := [y0, y1]) (st' := [.int 0]) (w' := w) (by decide +kernel) rfl ?_
  exact o_G_hasCell_p22 0 y0 y1 w
theorem o_G_hasCell (d : Nat) (x0 : Nat) (x1 : Int32) (w : am_W) : am_Ok am_ji (d + 0) m_G_hasCell 0 (am_en m_G_hasCell [.ref x0, .int x1]) [] w (f_G_hasCell x0 x1 w) := by
  show am_Ok _ _ _ 0 [some (.ref x0), some (.int x1)] [] w _
  unfold f_G_hasCell
  refine ok_self ?_
  unfold e_G_hasCell
  refine ok_seg (L := [((.iload_n 1), 1)]) (pc' := 1) (ls' := [some (.ref x0), some (.int x1)]) (st' := [.int x1]) (w' := w) (by decide +kernel) rfl ?_
  refine ok_br (P := x1 < 0) (off := 20) (t := 21) (by decide +kernel : decode m_G_hasCell.2.1 1 = .ok ((.ifCond .lt 20), 3)) rfl rfl rfl rfl (fun c1 => ?_) (fun c1 => ?_)
  · skip
    exact o_G_hasCell_p21 (some (.ref x0)) (some (.int x1)) w
  · skip
    refine ok_seg (L := [((.iload_n 1), 1), ((.aload_n 0), 1)]) (pc' := 6) (ls' := [some (.ref x0), some (.int x1)]) (st' := [.ref x0, .int x1]) (w' := w) (by decide +kernel) rfl ?_
    refine ok_gi (by decide +kernel : decode m_G_hasCell.2.1 6 = .ok ((.getfield 15), 3)) rfl (fun v2 h3 => ?_)
    refine ok_seg (L := [((.aload_n 0), 1)]) (pc' := 10) (ls' := [some (.ref x0), some (.int x1)]) (st' := [.ref x0, .int v2, .int x1]) (w' := w) (by decide +kernel) rfl ?_
    refine ok_gi (by decide +kernel : decode m_G_hasCell.2.1 10 = .ok ((.getfield 19), 3)) rfl (fun v4 h5 => ?_)
    refine ok_seg (L := [(.imul, 1)]) (pc' := 14) (ls' := [some (.ref x0), some (.int x1)]) (st' := [.int (v2 * v4), .int x1]) (w' := w) (by decide +kernel) rfl ?_
    refine ok_br (P := (v2 * v4) ≤ x1) (off := 7) (t := 21) (by decide +kernel : decode m_G_hasCell.2.1 14 = .ok ((.if_icmp .ge 7), 3)) rfl rfl rfl rfl (fun c6 => ?_) (fun c6 => ?_)
    · skip
      exact o_G_hasCell_p21 (some (.ref x0)) (some (.int x1)) w
    · skip
      refine ok_seg (L := [((.iconst 1), 1)]) (pc' := 18) (ls' := [some (.ref x0), some (.int x1)]) (st' := [.int 1]) (w' := w) (by decide +kernel) rfl ?_
      refine ok_goto (t := 22) (by decide +kernel : decode m_G_hasCell.2.1 18 = .ok ((.goto 4), 3)) rfl ?_
      exact o_G_hasCell_p22 1 (some (.ref x0)) (some (.int x1)) w
-- m_G_hasColourOrBlank
def f_G_hasColourOrBlank_p24 (s0 : Int32) (w : am_W) : Option (am_W × Int32) := (am_rb w s0)
def f_G_hasColourOrBlank_p23 (w : am_W) : Option (am_W × Int32) := (f_G_hasColourOrBlank_p24 0 w)
def e_G_hasColourOrBlank (x0 : Nat) (x1 : Int32) (w : am_W) : Option (am_W × Int32) := ((am_gi w x0 1 1).bind fun v1 => (if v1 ≤ 0 then (f_G_hasColourOrBlank_p23 w) else (if x1 < 0 then (f_G_hasColourOrBlank_p23 w) else ((am_gi w x0 1 3).bind fun v5 => (if v5 < x1 then (f_G_hasColourOrBlank_p23 w) else (f_G_hasColourOrBlank_p24 1 w))))))
def f_G_hasColourOrBlank (x0 : Nat) (x1 : Int32) (w : am_W) : Option (am_W × Int32) := am_self w x0 1 (e_G_hasColourOrBlank x0 x1 w)
theorem o_G_hasColourOrBlank_p24 {d : Nat} (s0 : Int32) (y0 y1 : Option Value) (w : am_W) : am_Ok am_ji (d + 0) m_G_hasColourOrBlank 24 [y0, y1] [.int s0] w (f_G_hasColourOrBlank_p24 s0 w) := by
  unfold f_G_hasColourOrBlank_p24
  exact ok_retb (len := 1) (by decide +kernel : decode m_G_hasColourOrBlank.2.1 24 = .ok (.ireturn, 1)) rfl
theorem o_G_hasColourOrBlank_p23 {d : Nat} (y0 y1 : Option Value) (w : am_W) : am_Ok am_ji (d + 0) m_G_hasColourOrBlank 23 [y0, y1] [] w (f_G_hasColourOrBlank_p23 w) := by
  unfold f_G_hasColourOrBlank_p23
  refine ok_seg (L := [((.iconst 0), 1)]) (pc' := 24) (ls' := [y0, y1]) (st' := [.int 0]) (w' := w) (by decide +kernel) rfl ?_
  exact o_G_hasColourOrBlank_p24 0 y0 y1 w
theorem o_G_hasColourOrBlank (d : Nat) (x0 : Nat) (x1 : Int32) (w : am_W) : am_Ok am_ji (d + 0) m_G_hasColourOrBlank 0 (am_en m_G_hasColourOrBlank [.ref x0, .int x1]) [] w (f_G_hasColourOrBlank x0 x1 w) := by
  show am_Ok _ _ _ 0 [some (.ref x0), some (.int x1)] [] w _
  unfold f_G_hasColourOrBlank
  refine ok_self ?_
  unfold e_G_hasColourOrBlank
  refine ok_seg (L := [((.aload_n 0), 1)]) (pc' := 1) (ls' := [some (.ref x0), some (.int x1)]) (st' := [.ref x0]) (w' := w) (by decide +kernel) rfl ?_
  refine ok_gi (by decide +kernel : decode m_G_hasColourOrBlank.2.1 1 = .ok ((.getfield 15), 3)) rfl (fun v1 h2 => ?_)
  refine ok_br (P := v1 ≤ 0) (off := 19) (t := 23) (by decide +kernel : decode m_G_hasColourOrBlank.2.1 4 = .ok ((.ifCond .le 19), 3)) rfl rfl rfl rfl (fun c3 => ?_) (fun c3 => ?_)
  · skip
    exact o_G_hasColourOrBlank_p23 (some (.ref x0)) (some (.int x1)) w
  · skip
    refine ok_seg (L := [((.iload_n 1), 1)]) (pc' := 8) (ls' := [some (.ref x0), some (.int x1)]) (st' := [.int x1]) (w' := w) (by decide +kernel) rfl ?_
    refine ok_br (P := x1 < 0) (off := 15) (t := 23) (by decide +kernel : decode m_G_hasColourOrBlank.2.1 8 = .ok ((.ifCond .lt 15), 3)) rfl rfl rfl rfl (fun c4 => ?_) (fun c4 => ?_)
    · skip
      exact o_G_hasColourOrBlank_p23 (some (.ref x0)) (some (.int x1)) w
    · skip
      refine ok_seg (L := [((.iload_n 1), 1), ((.aload_n 0), 1)]) (pc' := 13) (ls' := [some (.ref x0), some (.int x1)]) (st' := [.ref x0, .int x1]) (w' := w) (by decide +kernel) rfl ?_
      refine ok_gi (by decide +kernel : decode m_G_hasColourOrBlank.2.1 13 = .ok ((.getfield 22), 3)) rfl (fun v5 h6 => ?_)
      refine ok_br (P := v5 < x1) (off := 7) (t := 23) (by decide +kernel : decode m_G_hasColourOrBlank.2.1 16 = .ok ((.if_icmp .gt 7), 3)) rfl rfl rfl rfl (fun c7 => ?_) (fun c7 => ?_)
      · skip
        exact o_G_hasColourOrBlank_p23 (some (.ref x0)) (some (.int x1)) w
      · skip
        refine ok_seg (L := [((.iconst 1), 1)]) (pc' := 20) (ls' := [some (.ref x0), some (.int x1)]) (st' := [.int 1]) (w' := w) (by decide +kernel) rfl ?_
        refine ok_goto (t := 24) (by decide +kernel : decode m_G_hasColourOrBlank.2.1 20 = .ok ((.goto 4), 3)) rfl ?_
        exact o_G_hasColourOrBlank_p24 1 (some (.ref x0)) (some (.int x1)) w
-- m_G_put
def f_G_put_p16 (w : am_W) : Option (am_W × Unit) := (some (w, ()))
def f_G_put_p71 (k24 : Nat → Int32 → Int64 → Int32 → am_W → Option (am_W × Unit)) (x0 : Nat) (x2 : Int32) (x3 : Int64) (x5 : Int32) (s0 : Nat) (s1 : Int32) (s2 : Int64) (w : am_W) : Option (am_W × Unit) := ((am_sj w s0 s1 s2).bind fun w1 => (k24 x0 x2 x3 (x5 + 1) w1))
def f_G_put_p24 : Nat → Nat → Int32 → Int64 → Int32 → am_W → Option (am_W × Unit)
  | 0, _, _, _, _, _ => none
  | n + 1, x0, x2, x3, x5, w => ((am_gr w x0 1 0).bind fun v3 => ((am_al w v3).bind fun v5 => (if v5 ≤ x5 then (some (w, ())) else ((am_gr w x0 1 0).bind fun v8 => (if ¬ x5 = x2 then ((am_gr w x0 1 0).bind fun v11 => ((am_aj w v11 x5).bind fun v13 => (f_G_put_p71 (f_G_put_p24 n) x0 x2 x3 x5 v8 x5 (v13 &&& (x3 ^^^ (-1))) w))) else ((am_gr w x0 1 0).bind fun v15 => ((am_aj w v15 x5).bind fun v17 => (f_G_put_p71 (f_G_put_p24 n) x0 x2 x3 x5 v8 x5 (v17 ||| x3) w))))))))
def e_G_put (x0 : Nat) (x1 : Int32) (x2 : Int32) (w : am_W) : Option (am_W × Unit) := ((f_G_hasCell (x0) (x1) w).bind fun r19 => (if r19.2 = 0 then (f_G_put_p16 r19.1) else ((f_G_hasColourOrBlank (x0) (x2) r19.1).bind fun r22 => (if ¬ r22.2 = 0 then (f_G_put_p24 am_N x0 x2 (1 <<< (Int32.toInt64 x1 &&& 63)) 0 r22.1) else (f_G_put_p16 r22.1)))))
def f_G_put (x0 : Nat) (x1 : Int32) (x2 : Int32) (w : am_W) : Option (am_W × Unit) := am_self w x0 1 (e_G_put x0 x1 x2 w)
theorem o_G_put_p16 {d : Nat} (y0 y1 y2 y3 y4 y5 : Option Value) (w : am_W) : am_Ok am_jv (d + 1) m_G_put 16 [y0, y1, y2, y3, y4, y5] [] w (f_G_put_p16 w) := by
  unfold f_G_put_p16
  exact ok_ret (v := ()) (by decide +kernel : decode m_G_put.2.1 16 = .ok (.return_, 1)) rfl
theorem o_G_put_p71 {d : Nat} {k24 : Nat → Int32 → Int64 → Int32 → am_W → Option (am_W × Unit)} (hk24 : ∀ (x0 : Nat) (x2 : Int32) (x3 : Int64) (x5 : Int32) (y1 y4 : Option Value) (w : am_W), am_Ok am_jv (d + 1) m_G_put 24 [some (.ref x0), y1, some (.int x2), some (.long x3), y4, some (.int x5)] [] w (k24 x0 x2 x3 x5 w)) (x0 : Nat) (x2 : Int32) (x3 : Int64) (x5 : Int32) (s0 : Nat) (s1 : Int32) (s2 : Int64) (y1 y4 : Option Value) (w : am_W) : am_Ok am_jv (d + 1) m_G_put 71 [some (.ref x0), y1, some (.int x2), some (.long x3), y4, some (.int x5)] [.long s2, .int s1, .ref s0] w (f_G_put_p71 k24 x0 x2 x3 x5 s0 s1 s2 w) := by
  unfold f_G_put_p71
  refine ok_sj (by decide +kernel : decode m_G_put.2.1 71 = .ok (.lastore, 1)) (fun w1 h2 => ?_)
  refine ok_seg (L := [((.iinc 5 1), 3)]) (pc' := 75) (ls' := [some (.ref x0), y1, some (.int x2), some (.long x3), y4, some (.int (x5 + 1))]) (st' := []) (w' := w1) (by decide +kernel) rfl ?_
  refine ok_goto (t := 24) (by decide +kernel : decode m_G_put.2.1 75 = .ok ((.goto (-51)), 3)) rfl ?_
  exact hk24 x0 x2 x3 (x5 + 1) y1 y4 w1
theorem o_G_put_p24 {d : Nat} : ∀ (n : Nat) (x0 : Nat) (x2 : Int32) (x3 : Int64) (x5 : Int32) (y1 y4 : Option Value) (w : am_W), am_Ok am_jv (d + 1) m_G_put 24 [some (.ref x0), y1, some (.int x2), some (.long x3), y4, some (.int x5)] [] w (f_G_put_p24 n x0 x2 x3 x5 w) := by
  intro n
  induction n with
  | zero => intros; exact ok_none
  | succ n ih =>
    intro x0 x2 x3 x5 y1 y4 w
    unfold f_G_put_p24
    refine ok_seg (L := [((.iload 5), 2), ((.aload_n 0), 1)]) (pc' := 27) (ls' := [some (.ref x0), y1, some (.int x2), some (.long x3), y4, some (.int x5)]) (st' := [.ref x0, .int x5]) (w' := w) (by decide +kernel) rfl ?_
    refine ok_gr (by decide +kernel : decode m_G_put.2.1 27 = .ok ((.getfield 9), 3)) rfl (by decide) (fun v3 h4 => ?_)
    refine ok_al (by decide +kernel : decode m_G_put.2.1 30 = .ok (.arraylength, 1)) (fun v5 h6 => ?_)
    refine ok_br (P := v5 ≤ x5) (off := 47) (t := 78) (by decide +kernel : decode m_G_put.2.1 31 = .ok ((.if_icmp .ge 47), 3)) rfl rfl rfl rfl (fun c7 => ?_) (fun c7 => ?_)
    · skip
      exact ok_ret (v := ()) (by decide +kernel : decode m_G_put.2.1 78 = .ok (.return_, 1)) rfl
    · skip
      refine ok_seg (L := [((.aload_n 0), 1)]) (pc' := 35) (ls' := [some (.ref x0), y1, some (.int x2), some (.long x3), y4, some (.int x5)]) (st' := [.ref x0]) (w' := w) (by decide +kernel) rfl ?_
      refine ok_gr (by decide +kernel : decode m_G_put.2.1 35 = .ok ((.getfield 9), 3)) rfl (by decide) (fun v8 h9 => ?_)
      refine ok_seg (L := [((.iload 5), 2), ((.iload 5), 2), ((.iload_n 2), 1)]) (pc' := 43) (ls' := [some (.ref x0), y1, some (.int x2), some (.long x3), y4, some (.int x5)]) (st' := [.int x2, .int x5, .int x5, .ref v8]) (w' := w) (by decide +kernel) rfl ?_
      refine ok_br (P := ¬ x5 = x2) (off := 15) (t := 58) (by decide +kernel : decode m_G_put.2.1 43 = .ok ((.if_icmp .ne 15), 3)) rfl rfl rfl rfl (fun c10 => ?_) (fun c10 => ?_)
      · skip
        refine ok_seg (L := [((.aload_n 0), 1)]) (pc' := 59) (ls' := [some (.ref x0), y1, some (.int x2), some (.long x3), y4, some (.int x5)]) (st' := [.ref x0, .int x5, .ref v8]) (w' := w) (by decide +kernel) rfl ?_
        refine ok_gr (by decide +kernel : decode m_G_put.2.1 59 = .ok ((.getfield 9), 3)) rfl (by decide) (fun v11 h12 => ?_)
        refine ok_seg (L := [((.iload 5), 2)]) (pc' := 64) (ls' := [some (.ref x0), y1, some (.int x2), some (.long x3), y4, some (.int x5)]) (st' := [.int x5, .ref v11, .int x5, .ref v8]) (w' := w) (by decide +kernel) rfl ?_
        refine ok_aj (by decide +kernel : decode m_G_put.2.1 64 = .ok (.laload, 1)) (fun v13 h14 => ?_)
        refine ok_seg (L := [((.lload_n 3), 1), ((.ldc2_w 29), 3), (.lxor, 1), (.land, 1)]) (pc' := 71) (ls' := [some (.ref x0), y1, some (.int x2), some (.long x3), y4, some (.int x5)]) (st' := [.long (v13 &&& (x3 ^^^ (-1))), .int x5, .ref v8]) (w' := w) (by decide +kernel) rfl ?_
        exact o_G_put_p71 ih x0 x2 x3 x5 v8 x5 (v13 &&& (x3 ^^^ (-1))) y1 y4 w
      · skip
        refine ok_seg (L := [((.aload_n 0), 1)]) (pc' := 47) (ls' := [some (.ref x0), y1, some (.int x2), some (.long x3), y4, some (.int x5)]) (st' := [.ref x0, .int x5, .ref v8]) (w' := w) (by decide +kernel) rfl ?_
        refine ok_gr (by decide +kernel : decode m_G_put.2.1 47 = .ok ((.getfield 9), 3)) rfl (by decide) (fun v15 h16 => ?_)
        refine ok_seg (L := [((.iload 5), 2)]) (pc' := 52) (ls' := [some (.ref x0), y1, some (.int x2), some (.long x3), y4, some (.int x5)]) (st' := [.int x5, .ref v15, .int x5, .ref v8]) (w' := w) (by decide +kernel) rfl ?_
        refine ok_aj (by decide +kernel : decode m_G_put.2.1 52 = .ok (.laload, 1)) (fun v17 h18 => ?_)
        refine ok_seg (L := [((.lload_n 3), 1), (.lor, 1)]) (pc' := 55) (ls' := [some (.ref x0), y1, some (.int x2), some (.long x3), y4, some (.int x5)]) (st' := [.long (v17 ||| x3), .int x5, .ref v8]) (w' := w) (by decide +kernel) rfl ?_
        refine ok_goto (t := 71) (by decide +kernel : decode m_G_put.2.1 55 = .ok ((.goto 16), 3)) rfl ?_
        exact o_G_put_p71 ih x0 x2 x3 x5 v8 x5 (v17 ||| x3) y1 y4 w
theorem o_G_put (d : Nat) (x0 : Nat) (x1 : Int32) (x2 : Int32) (w : am_W) : am_Ok am_jv (d + 1) m_G_put 0 (am_en m_G_put [.ref x0, .int x1, .int x2]) [] w (f_G_put x0 x1 x2 w) := by
  show am_Ok _ _ _ 0 [some (.ref x0), some (.int x1), some (.int x2), none, none, none] [] w _
  unfold f_G_put
  refine ok_self ?_
  unfold e_G_put
  refine ok_seg (L := [((.aload_n 0), 1), ((.iload_n 1), 1)]) (pc' := 2) (ls' := [some (.ref x0), some (.int x1), some (.int x2), none, none, none]) (st' := [.int x1, .ref x0]) (w' := w) (by decide +kernel) rfl ?_
  refine ok_call0 (inj' := am_ji) (by decide +kernel : decode m_G_put.2.1 2 = .ok ((.invokevirtual 35), 3)) rfl (fun q hq => am_iv0 (am_self_eq hq).1 rfl rfl rfl) (o_G_hasCell (d + 0) (x0) (x1) w) (fun _ _ => rfl) (fun r19 h20 => ?_)
  refine ok_br (P := r19.2 = 0) (off := 11) (t := 16) (by decide +kernel : decode m_G_put.2.1 5 = .ok ((.ifCond .eq 11), 3)) rfl rfl rfl rfl (fun c21 => ?_) (fun c21 => ?_)
  · skip
    exact o_G_put_p16 (some (.ref x0)) (some (.int x1)) (some (.int x2)) none none none r19.1
  · skip
    refine ok_seg (L := [((.aload_n 0), 1), ((.iload_n 2), 1)]) (pc' := 10) (ls' := [some (.ref x0), some (.int x1), some (.int x2), none, none, none]) (st' := [.int x2, .ref x0]) (w' := r19.1) (by decide +kernel) rfl ?_
    refine ok_call0 (inj' := am_ji) (by decide +kernel : decode m_G_put.2.1 10 = .ok ((.invokevirtual 39), 3)) rfl (fun q hq => am_iv0 (am_self_eq hq).1 rfl rfl rfl) (o_G_hasColourOrBlank (d + 0) (x0) (x2) r19.1) (fun _ _ => rfl) (fun r22 h23 => ?_)
    refine ok_br (P := ¬ r22.2 = 0) (off := 4) (t := 17) (by decide +kernel : decode m_G_put.2.1 13 = .ok ((.ifCond .ne 4), 3)) rfl rfl rfl rfl (fun c24 => ?_) (fun c24 => ?_)
    · skip
      refine ok_seg (L := [((.lconst 1), 1), ((.iload_n 1), 1), (.lshl, 1), ((.lstore_n 3), 1), ((.iconst 0), 1), ((.istore 5), 2)]) (pc' := 24) (ls' := [some (.ref x0), some (.int x1), some (.int x2), some (.long (1 <<< (Int32.toInt64 x1 &&& 63))), none, some (.int 0)]) (st' := []) (w' := r22.1) (by decide +kernel) rfl ?_
      exact o_G_put_p24 am_N x0 x2 (1 <<< (Int32.toInt64 x1 &&& 63)) 0 (some (.int x1)) none r22.1
    · skip
      exact o_G_put_p16 (some (.ref x0)) (some (.int x1)) (some (.int x2)) none none none r22.1
-- m_G_shades
def e_G_shades (x0 : Nat) (w : am_W) : Option (am_W × Int32) := ((am_gi w x0 1 3).bind fun v1 => (some (w, v1)))
def f_G_shades (x0 : Nat) (w : am_W) : Option (am_W × Int32) := am_self w x0 1 (e_G_shades x0 w)
theorem o_G_shades (d : Nat) (x0 : Nat) (w : am_W) : am_Ok am_ji (d + 0) m_G_shades 0 (am_en m_G_shades [.ref x0]) [] w (f_G_shades x0 w) := by
  show am_Ok _ _ _ 0 [some (.ref x0)] [] w _
  unfold f_G_shades
  refine ok_self ?_
  unfold e_G_shades
  refine ok_seg (L := [((.aload_n 0), 1)]) (pc' := 1) (ls' := [some (.ref x0)]) (st' := [.ref x0]) (w' := w) (by decide +kernel) rfl ?_
  refine ok_gi (by decide +kernel : decode m_G_shades.2.1 1 = .ok ((.getfield 22), 3)) rfl (fun v1 h2 => ?_)
  exact ok_ret (v := v1) (by decide +kernel : decode m_G_shades.2.1 4 = .ok (.ireturn, 1)) rfl
-- m_G_wide
def e_G_wide (x0 : Nat) (w : am_W) : Option (am_W × Int32) := ((am_gi w x0 1 2).bind fun v1 => (some (w, v1)))
def f_G_wide (x0 : Nat) (w : am_W) : Option (am_W × Int32) := am_self w x0 1 (e_G_wide x0 w)
theorem o_G_wide (d : Nat) (x0 : Nat) (w : am_W) : am_Ok am_ji (d + 0) m_G_wide 0 (am_en m_G_wide [.ref x0]) [] w (f_G_wide x0 w) := by
  show am_Ok _ _ _ 0 [some (.ref x0)] [] w _
  unfold f_G_wide
  refine ok_self ?_
  unfold e_G_wide
  refine ok_seg (L := [((.aload_n 0), 1)]) (pc' := 1) (ls' := [some (.ref x0)]) (st' := [.ref x0]) (w' := w) (by decide +kernel) rfl ?_
  refine ok_gi (by decide +kernel : decode m_G_wide.2.1 1 = .ok ((.getfield 19), 3)) rfl (fun v1 h2 => ?_)
  exact ok_ret (v := v1) (by decide +kernel : decode m_G_wide.2.1 4 = .ok (.ireturn, 1)) rfl
-- m_R_readRow
def f_R_readRow_p38 : Nat → Nat → Nat → Int32 → am_W → Option (am_W × Int32)
  | 0, _, _, _, _ => none
  | n + 1, x0, x1, x2, w => ((am_gr w x0 3 0).bind fun v1 => ((f_G_wide (v1) w).bind fun r3 => (if r3.2 ≤ x2 then ((am_gi r3.1 x0 3 7).bind fun v6 => ((am_pv r3.1 x0 3 7 (.int (v6 + 1))).bind fun w8 => (some (w8, 1)))) else ((am_gr r3.1 x0 3 0).bind fun v10 => ((f_G_shades (v10) r3.1).bind fun r12 => ((f_R_readNumber (x0) (x1) (0) (r12.2) r12.1).bind fun r14 => (if ¬ r14.2 = 0 then ((am_gr r14.1 x0 3 0).bind fun v17 => ((am_gr r14.1 x0 3 0).bind fun v19 => ((am_gi r14.1 x0 3 7).bind fun v21 => ((f_G_cellAt (v19) (v21) (x2) r14.1).bind fun r23 => ((am_gi r23.1 x0 3 4).bind fun v25 => ((f_G_put (v17) (r23.2) (v25) r23.1).bind fun r27 => (f_R_readRow_p38 n x0 x1 (x2 + 1) r27.1))))))) else (some (r14.1, 0)))))))))
def e_R_readRow (x0 : Nat) (x1 : Nat) (w : am_W) : Option (am_W × Int32) := ((f_R_isWord (x0) (x1) (3) w).bind fun r29 => (if ¬ r29.2 = 0 then ((am_gi r29.1 x0 3 7).bind fun v32 => ((am_gr r29.1 x0 3 0).bind fun v34 => ((f_G_high (v34) r29.1).bind fun r36 => (if v32 < r36.2 then (f_R_readRow_p38 am_N x0 x1 0 r36.1) else ((f_R_refuse (x0) (3) r36.1).bind fun r39 => (am_rb r39.1 r39.2)))))) else ((f_R_refuse (x0) (1) r29.1).bind fun r41 => (am_rb r41.1 r41.2))))
def f_R_readRow (x0 : Nat) (x1 : Nat) (w : am_W) : Option (am_W × Int32) := am_self w x0 3 (e_R_readRow x0 x1 w)
theorem o_R_readRow_p38 {d : Nat} : ∀ (n : Nat) (x0 : Nat) (x1 : Nat) (x2 : Int32) (w : am_W), am_Ok am_ji (d + 4) m_R_readRow 38 [some (.ref x0), some (.ref x1), some (.int x2)] [] w (f_R_readRow_p38 n x0 x1 x2 w) := by
  intro n
  induction n with
  | zero => intros; exact ok_none
  | succ n ih =>
    intro x0 x1 x2 w
    unfold f_R_readRow_p38
    refine ok_seg (L := [((.iload_n 2), 1), ((.aload_n 0), 1)]) (pc' := 40) (ls' := [some (.ref x0), some (.ref x1), some (.int x2)]) (st' := [.ref x0, .int x2]) (w' := w) (by decide +kernel) rfl ?_
    refine ok_gr (by decide +kernel : decode m_R_readRow.2.1 40 = .ok ((.getfield 12), 3)) rfl (by decide) (fun v1 h2 => ?_)
    refine ok_call0 (inj' := am_ji) (by decide +kernel : decode m_R_readRow.2.1 43 = .ok ((.invokevirtual 79), 3)) rfl (fun q hq => am_iv0 (am_self_eq hq).1 rfl rfl rfl) (o_G_wide (d + 3) (v1) w) (fun _ _ => rfl) (fun r3 h4 => ?_)
    refine ok_br (P := r3.2 ≤ x2) (off := 50) (t := 96) (by decide +kernel : decode m_R_readRow.2.1 46 = .ok ((.if_icmp .ge 50), 3)) rfl rfl rfl rfl (fun c5 => ?_) (fun c5 => ?_)
    · skip
      refine ok_seg (L := [((.aload_n 0), 1), (.dup, 1)]) (pc' := 98) (ls' := [some (.ref x0), some (.ref x1), some (.int x2)]) (st' := [.ref x0, .ref x0]) (w' := r3.1) (by decide +kernel) rfl ?_
      refine ok_gi (by decide +kernel : decode m_R_readRow.2.1 98 = .ok ((.getfield 37), 3)) rfl (fun v6 h7 => ?_)
      refine ok_seg (L := [((.iconst 1), 1), (.iadd, 1)]) (pc' := 103) (ls' := [some (.ref x0), some (.ref x1), some (.int x2)]) (st' := [.int (v6 + 1), .ref x0]) (w' := r3.1) (by decide +kernel) rfl ?_
      refine ok_pi (by decide +kernel : decode m_R_readRow.2.1 103 = .ok ((.putfield 37), 3)) rfl (fun w8 h9 => ?_)
      refine ok_seg (L := [((.iconst 1), 1)]) (pc' := 107) (ls' := [some (.ref x0), some (.ref x1), some (.int x2)]) (st' := [.int 1]) (w' := w8) (by decide +kernel) rfl ?_
      exact ok_ret (v := 1) (by decide +kernel : decode m_R_readRow.2.1 107 = .ok (.ireturn, 1)) rfl
    · skip
      refine ok_seg (L := [((.aload_n 0), 1), ((.aload_n 1), 1), ((.iconst 0), 1), ((.aload_n 0), 1)]) (pc' := 53) (ls' := [some (.ref x0), some (.ref x1), some (.int x2)]) (st' := [.ref x0, .int 0, .ref x1, .ref x0]) (w' := r3.1) (by decide +kernel) rfl ?_
      refine ok_gr (by decide +kernel : decode m_R_readRow.2.1 53 = .ok ((.getfield 12), 3)) rfl (by decide) (fun v10 h11 => ?_)
      refine ok_call0 (inj' := am_ji) (by decide +kernel : decode m_R_readRow.2.1 56 = .ok ((.invokevirtual 82), 3)) rfl (fun q hq => am_iv0 (am_self_eq hq).1 rfl rfl rfl) (o_G_shades (d + 3) (v10) r3.1) (fun _ _ => rfl) (fun r12 h13 => ?_)
      refine ok_call0 (inj' := am_ji) (by decide +kernel : decode m_R_readRow.2.1 59 = .ok ((.invokevirtual 70), 3)) rfl (fun q hq => am_iv0 (am_self_eq hq).1 rfl rfl rfl) (o_R_readNumber (d + 0) (x0) (x1) (0) (r12.2) r12.1) (fun _ _ => rfl) (fun r14 h15 => ?_)
      refine ok_br (P := ¬ r14.2 = 0) (off := 5) (t := 67) (by decide +kernel : decode m_R_readRow.2.1 62 = .ok ((.ifCond .ne 5), 3)) rfl rfl rfl rfl (fun c16 => ?_) (fun c16 => ?_)
      · skip
        refine ok_seg (L := [((.aload_n 0), 1)]) (pc' := 68) (ls' := [some (.ref x0), some (.ref x1), some (.int x2)]) (st' := [.ref x0]) (w' := r14.1) (by decide +kernel) rfl ?_
        refine ok_gr (by decide +kernel : decode m_R_readRow.2.1 68 = .ok ((.getfield 12), 3)) rfl (by decide) (fun v17 h18 => ?_)
        refine ok_seg (L := [((.aload_n 0), 1)]) (pc' := 72) (ls' := [some (.ref x0), some (.ref x1), some (.int x2)]) (st' := [.ref x0, .ref v17]) (w' := r14.1) (by decide +kernel) rfl ?_
        refine ok_gr (by decide +kernel : decode m_R_readRow.2.1 72 = .ok ((.getfield 12), 3)) rfl (by decide) (fun v19 h20 => ?_)
        refine ok_seg (L := [((.aload_n 0), 1)]) (pc' := 76) (ls' := [some (.ref x0), some (.ref x1), some (.int x2)]) (st' := [.ref x0, .ref v19, .ref v17]) (w' := r14.1) (by decide +kernel) rfl ?_
        refine ok_gi (by decide +kernel : decode m_R_readRow.2.1 76 = .ok ((.getfield 37), 3)) rfl (fun v21 h22 => ?_)
        refine ok_seg (L := [((.iload_n 2), 1)]) (pc' := 80) (ls' := [some (.ref x0), some (.ref x1), some (.int x2)]) (st' := [.int x2, .int v21, .ref v19, .ref v17]) (w' := r14.1) (by decide +kernel) rfl ?_
        refine ok_call0 (inj' := am_ji) (by decide +kernel : decode m_R_readRow.2.1 80 = .ok ((.invokevirtual 85), 3)) rfl (fun q hq => am_iv0 (am_self_eq hq).1 rfl rfl rfl) (o_G_cellAt (d + 3) (v19) (v21) (x2) r14.1) (fun _ _ => rfl) (fun r23 h24 => ?_)
        refine ok_seg (L := [((.aload_n 0), 1)]) (pc' := 84) (ls' := [some (.ref x0), some (.ref x1), some (.int x2)]) (st' := [.ref x0, .int r23.2, .ref v17]) (w' := r23.1) (by decide +kernel) rfl ?_
        refine ok_gi (by decide +kernel : decode m_R_readRow.2.1 84 = .ok ((.getfield 28), 3)) rfl (fun v25 h26 => ?_)
        refine ok_call0 (inj' := am_jv) (by decide +kernel : decode m_R_readRow.2.1 87 = .ok ((.invokevirtual 89), 3)) rfl (fun q hq => am_iv0 (am_self_eq hq).1 rfl rfl rfl) (o_G_put (d + 2) (v17) (r23.2) (v25) r23.1) (fun _ _ => rfl) (fun r27 h28 => ?_)
        refine ok_seg (L := [((.iinc 2 1), 3)]) (pc' := 93) (ls' := [some (.ref x0), some (.ref x1), some (.int (x2 + 1))]) (st' := []) (w' := r27.1) (by decide +kernel) rfl ?_
        refine ok_goto (t := 38) (by decide +kernel : decode m_R_readRow.2.1 93 = .ok ((.goto (-55)), 3)) rfl ?_
        exact ih x0 x1 (x2 + 1) r27.1
      · skip
        refine ok_seg (L := [((.iconst 0), 1)]) (pc' := 66) (ls' := [some (.ref x0), some (.ref x1), some (.int x2)]) (st' := [.int 0]) (w' := r14.1) (by decide +kernel) rfl ?_
        exact ok_ret (v := 0) (by decide +kernel : decode m_R_readRow.2.1 66 = .ok (.ireturn, 1)) rfl
theorem o_R_readRow (d : Nat) (x0 : Nat) (x1 : Nat) (w : am_W) : am_Ok am_ji (d + 4) m_R_readRow 0 (am_en m_R_readRow [.ref x0, .ref x1]) [] w (f_R_readRow x0 x1 w) := by
  show am_Ok _ _ _ 0 [some (.ref x0), some (.ref x1), none] [] w _
  unfold f_R_readRow
  refine ok_self ?_
  unfold e_R_readRow
  refine ok_seg (L := [((.aload_n 0), 1), ((.aload_n 1), 1), ((.ldc 74), 2)]) (pc' := 4) (ls' := [some (.ref x0), some (.ref x1), none]) (st' := [.ref 3, .ref x1, .ref x0]) (w' := w) (by decide +kernel) rfl ?_
  refine ok_call0 (inj' := am_ji) (by decide +kernel : decode m_R_readRow.2.1 4 = .ok ((.invokevirtual 66), 3)) rfl (fun q hq => am_iv0 (am_self_eq hq).1 rfl rfl rfl) (o_R_isWord (d + 2) (x0) (x1) (3) w) (fun _ _ => rfl) (fun r29 h30 => ?_)
  refine ok_br (P := ¬ r29.2 = 0) (off := 9) (t := 16) (by decide +kernel : decode m_R_readRow.2.1 7 = .ok ((.ifCond .ne 9), 3)) rfl rfl rfl rfl (fun c31 => ?_) (fun c31 => ?_)
  · skip
    refine ok_seg (L := [((.aload_n 0), 1)]) (pc' := 17) (ls' := [some (.ref x0), some (.ref x1), none]) (st' := [.ref x0]) (w' := r29.1) (by decide +kernel) rfl ?_
    refine ok_gi (by decide +kernel : decode m_R_readRow.2.1 17 = .ok ((.getfield 37), 3)) rfl (fun v32 h33 => ?_)
    refine ok_seg (L := [((.aload_n 0), 1)]) (pc' := 21) (ls' := [some (.ref x0), some (.ref x1), none]) (st' := [.ref x0, .int v32]) (w' := r29.1) (by decide +kernel) rfl ?_
    refine ok_gr (by decide +kernel : decode m_R_readRow.2.1 21 = .ok ((.getfield 12), 3)) rfl (by decide) (fun v34 h35 => ?_)
    refine ok_call0 (inj' := am_ji) (by decide +kernel : decode m_R_readRow.2.1 24 = .ok ((.invokevirtual 76), 3)) rfl (fun q hq => am_iv0 (am_self_eq hq).1 rfl rfl rfl) (o_G_high (d + 3) (v34) r29.1) (fun _ _ => rfl) (fun r36 h37 => ?_)
    refine ok_br (P := v32 < r36.2) (off := 9) (t := 36) (by decide +kernel : decode m_R_readRow.2.1 27 = .ok ((.if_icmp .lt 9), 3)) rfl rfl rfl rfl (fun c38 => ?_) (fun c38 => ?_)
    · skip
      refine ok_seg (L := [((.iconst 0), 1), ((.istore_n 2), 1)]) (pc' := 38) (ls' := [some (.ref x0), some (.ref x1), some (.int 0)]) (st' := []) (w' := r36.1) (by decide +kernel) rfl ?_
      exact o_R_readRow_p38 am_N x0 x1 0 r36.1
    · skip
      refine ok_seg (L := [((.aload_n 0), 1), ((.iconst 3), 1)]) (pc' := 32) (ls' := [some (.ref x0), some (.ref x1), none]) (st' := [.int 3, .ref x0]) (w' := r36.1) (by decide +kernel) rfl ?_
      refine ok_call0 (inj' := am_ji) (by decide +kernel : decode m_R_readRow.2.1 32 = .ok ((.invokevirtual 54), 3)) rfl (fun q hq => am_iv0 (am_self_eq hq).1 rfl rfl rfl) (o_R_refuse (d + 3) (x0) (3) r36.1) (fun _ _ => rfl) (fun r39 h40 => ?_)
      exact ok_retb (len := 1) (by decide +kernel : decode m_R_readRow.2.1 35 = .ok (.ireturn, 1)) rfl
  · skip
    refine ok_seg (L := [((.aload_n 0), 1), ((.iconst 1), 1)]) (pc' := 12) (ls' := [some (.ref x0), some (.ref x1), none]) (st' := [.int 1, .ref x0]) (w' := r29.1) (by decide +kernel) rfl ?_
    refine ok_call0 (inj' := am_ji) (by decide +kernel : decode m_R_readRow.2.1 12 = .ok ((.invokevirtual 54), 3)) rfl (fun q hq => am_iv0 (am_self_eq hq).1 rfl rfl rfl) (o_R_refuse (d + 3) (x0) (1) r29.1) (fun _ _ => rfl) (fun r41 h42 => ?_)
    exact ok_retb (len := 1) (by decide +kernel : decode m_R_readRow.2.1 15 = .ok (.ireturn, 1)) rfl
-- m_R_read
def f_R_read_p95 (k32 : Nat → Nat → Int32 → am_W → Option (am_W × Int32)) (x0 : Nat) (x1 : Nat) (x2 : Int32) (s0 : Int32) (w : am_W) : Option (am_W × Int32) := (if ¬ s0 = 0 then ((f_R_step (x0) (x1) w).bind fun r2 => ((am_gi r2.1 x0 3 1).bind fun v4 => (if v4 = 3 then ((am_gi r2.1 x0 3 6).bind fun v7 => ((am_pv r2.1 x0 3 6 (.int (v7 + 1))).bind fun w9 => (k32 x0 x1 (x2 + 1) w9))) else ((f_R_refuse (x0) (1) r2.1).bind fun r11 => (am_rb r11.1 r11.2))))) else (some (w, 0)))
def f_R_read_p74 (s0 : Int32) (w : am_W) : Option (am_W × Int32) := (am_rb w s0)
def f_R_read_p69 (w : am_W) : Option (am_W × Int32) := (f_R_read_p74 1 w)
def f_R_read_p32 : Nat → Nat → Nat → Int32 → am_W → Option (am_W × Int32)
  | 0, _, _, _, _ => none
  | n + 1, x0, x1, x2, w => (if 400 < x2 then ((f_R_refuse (x0) (1) w).bind fun r14 => (am_rb r14.1 r14.2)) else ((f_R_step (x0) (x1) w).bind fun r16 => ((am_gi r16.1 x0 3 1).bind fun v18 => (if ¬ v18 = 0 then ((am_gi r16.1 x0 3 6).bind fun v21 => (if ¬ v21 = 0 then ((f_R_readRow (x0) (x1) r16.1).bind fun r24 => (f_R_read_p95 (f_R_read_p32 n) x0 x1 x2 r24.2 r24.1)) else ((f_R_readGrid (x0) (x1) r16.1).bind fun r26 => (f_R_read_p95 (f_R_read_p32 n) x0 x1 x2 r26.2 r26.1)))) else ((f_T_length (x1) r16.1).bind fun r28 => (if r28.2 ≤ 400 then (f_R_read_p69 r28.1) else ((f_R_refuse (x0) (1) r28.1).bind fun r31 => (if r31.2 = 0 then (f_R_read_p74 0 r31.1) else (f_R_read_p69 r31.1)))))))))
def e_R_read (x0 : Nat) (x1 : Nat) (w : am_W) : Option (am_W × Int32) := ((am_pv w x0 3 3 (.int 0)).bind fun w34 => ((am_pv w34 x0 3 5 (.int 0)).bind fun w36 => ((am_pv w36 x0 3 6 (.int 0)).bind fun w38 => ((am_pv w38 x0 3 7 (.int 0)).bind fun w40 => ((am_gr w40 x0 3 0).bind fun v42 => ((f_G_start (v42) (0) (0) (0) w40).bind fun r44 => (f_R_read_p32 am_N x0 x1 0 r44.1)))))))
def f_R_read (x0 : Nat) (x1 : Nat) (w : am_W) : Option (am_W × Int32) := am_self w x0 3 (e_R_read x0 x1 w)
theorem o_R_read_p95 {d : Nat} {k32 : Nat → Nat → Int32 → am_W → Option (am_W × Int32)} (hk32 : ∀ (x0 : Nat) (x1 : Nat) (x2 : Int32) (y3 : Option Value) (w : am_W), am_Ok am_ji (d + 5) m_R_read 32 [some (.ref x0), some (.ref x1), some (.int x2), y3] [] w (k32 x0 x1 x2 w)) (x0 : Nat) (x1 : Nat) (x2 : Int32) (s0 : Int32) (y3 : Option Value) (w : am_W) : am_Ok am_ji (d + 5) m_R_read 95 [some (.ref x0), some (.ref x1), some (.int x2), y3] [.int s0] w (f_R_read_p95 k32 x0 x1 x2 s0 w) := by
  unfold f_R_read_p95
  refine ok_seg (L := [((.istore_n 3), 1), ((.iload_n 3), 1)]) (pc' := 97) (ls' := [some (.ref x0), some (.ref x1), some (.int x2), some (.int s0)]) (st' := [.int s0]) (w' := w) (by decide +kernel) rfl ?_
  refine ok_br (P := ¬ s0 = 0) (off := 5) (t := 102) (by decide +kernel : decode m_R_read.2.1 97 = .ok ((.ifCond .ne 5), 3)) rfl rfl rfl rfl (fun c1 => ?_) (fun c1 => ?_)
  · skip
    refine ok_seg (L := [((.aload_n 0), 1), ((.aload_n 1), 1)]) (pc' := 104) (ls' := [some (.ref x0), some (.ref x1), some (.int x2), some (.int s0)]) (st' := [.ref x1, .ref x0]) (w' := w) (by decide +kernel) rfl ?_
    refine ok_call0 (inj' := am_jv) (by decide +kernel : decode m_R_read.2.1 104 = .ok ((.invokevirtual 44), 3)) rfl (fun q hq => am_iv0 (am_self_eq hq).1 rfl rfl rfl) (o_R_step (d + 2) (x0) (x1) w) (fun _ _ => rfl) (fun r2 h3 => ?_)
    refine ok_seg (L := [((.aload_n 0), 1)]) (pc' := 108) (ls' := [some (.ref x0), some (.ref x1), some (.int x2), some (.int s0)]) (st' := [.ref x0]) (w' := r2.1) (by decide +kernel) rfl ?_
    refine ok_gi (by decide +kernel : decode m_R_read.2.1 108 = .ok ((.getfield 18), 3)) rfl (fun v4 h5 => ?_)
    refine ok_seg (L := [((.iconst 3), 1)]) (pc' := 112) (ls' := [some (.ref x0), some (.ref x1), some (.int x2), some (.int s0)]) (st' := [.int 3, .int v4]) (w' := r2.1) (by decide +kernel) rfl ?_
    refine ok_br (P := v4 = 3) (off := 9) (t := 121) (by decide +kernel : decode m_R_read.2.1 112 = .ok ((.if_icmp .eq 9), 3)) rfl rfl rfl rfl (fun c6 => ?_) (fun c6 => ?_)
    · skip
      refine ok_seg (L := [((.aload_n 0), 1), (.dup, 1)]) (pc' := 123) (ls' := [some (.ref x0), some (.ref x1), some (.int x2), some (.int s0)]) (st' := [.ref x0, .ref x0]) (w' := r2.1) (by decide +kernel) rfl ?_
      refine ok_gi (by decide +kernel : decode m_R_read.2.1 123 = .ok ((.getfield 34), 3)) rfl (fun v7 h8 => ?_)
      refine ok_seg (L := [((.iconst 1), 1), (.iadd, 1)]) (pc' := 128) (ls' := [some (.ref x0), some (.ref x1), some (.int x2), some (.int s0)]) (st' := [.int (v7 + 1), .ref x0]) (w' := r2.1) (by decide +kernel) rfl ?_
      refine ok_pi (by decide +kernel : decode m_R_read.2.1 128 = .ok ((.putfield 34), 3)) rfl (fun w9 h10 => ?_)
      refine ok_seg (L := [((.iinc 2 1), 3)]) (pc' := 134) (ls' := [some (.ref x0), some (.ref x1), some (.int (x2 + 1)), some (.int s0)]) (st' := []) (w' := w9) (by decide +kernel) rfl ?_
      refine ok_goto (t := 32) (by decide +kernel : decode m_R_read.2.1 134 = .ok ((.goto (-102)), 3)) rfl ?_
      exact hk32 x0 x1 (x2 + 1) (some (.int s0)) w9
    · skip
      refine ok_seg (L := [((.aload_n 0), 1), ((.iconst 1), 1)]) (pc' := 117) (ls' := [some (.ref x0), some (.ref x1), some (.int x2), some (.int s0)]) (st' := [.int 1, .ref x0]) (w' := r2.1) (by decide +kernel) rfl ?_
      refine ok_call0 (inj' := am_ji) (by decide +kernel : decode m_R_read.2.1 117 = .ok ((.invokevirtual 54), 3)) rfl (fun q hq => am_iv0 (am_self_eq hq).1 rfl rfl rfl) (o_R_refuse (d + 4) (x0) (1) r2.1) (fun _ _ => rfl) (fun r11 h12 => ?_)
      exact ok_retb (len := 1) (by decide +kernel : decode m_R_read.2.1 120 = .ok (.ireturn, 1)) rfl
  · skip
    refine ok_seg (L := [((.iconst 0), 1)]) (pc' := 101) (ls' := [some (.ref x0), some (.ref x1), some (.int x2), some (.int s0)]) (st' := [.int 0]) (w' := w) (by decide +kernel) rfl ?_
    exact ok_ret (v := 0) (by decide +kernel : decode m_R_read.2.1 101 = .ok (.ireturn, 1)) rfl
theorem o_R_read_p74 {d : Nat} (s0 : Int32) (y0 y1 y2 y3 : Option Value) (w : am_W) : am_Ok am_ji (d + 5) m_R_read 74 [y0, y1, y2, y3] [.int s0] w (f_R_read_p74 s0 w) := by
  unfold f_R_read_p74
  exact ok_retb (len := 1) (by decide +kernel : decode m_R_read.2.1 74 = .ok (.ireturn, 1)) rfl
theorem o_R_read_p69 {d : Nat} (y0 y1 y2 y3 : Option Value) (w : am_W) : am_Ok am_ji (d + 5) m_R_read 69 [y0, y1, y2, y3] [] w (f_R_read_p69 w) := by
  unfold f_R_read_p69
  refine ok_seg (L := [((.iconst 1), 1)]) (pc' := 70) (ls' := [y0, y1, y2, y3]) (st' := [.int 1]) (w' := w) (by decide +kernel) rfl ?_
  refine ok_goto (t := 74) (by decide +kernel : decode m_R_read.2.1 70 = .ok ((.goto 4), 3)) rfl ?_
  exact o_R_read_p74 1 y0 y1 y2 y3 w
theorem o_R_read_p32 {d : Nat} : ∀ (n : Nat) (x0 : Nat) (x1 : Nat) (x2 : Int32) (y3 : Option Value) (w : am_W), am_Ok am_ji (d + 5) m_R_read 32 [some (.ref x0), some (.ref x1), some (.int x2), y3] [] w (f_R_read_p32 n x0 x1 x2 w) := by
  intro n
  induction n with
  | zero => intros; exact ok_none
  | succ n ih =>
    intro x0 x1 x2 y3 w
    unfold f_R_read_p32
    refine ok_seg (L := [((.iload_n 2), 1), ((.sipush 400), 3)]) (pc' := 36) (ls' := [some (.ref x0), some (.ref x1), some (.int x2), y3]) (st' := [.int 400, .int x2]) (w' := w) (by decide +kernel) rfl ?_
    refine ok_br (P := 400 < x2) (off := 101) (t := 137) (by decide +kernel : decode m_R_read.2.1 36 = .ok ((.if_icmp .gt 101), 3)) rfl rfl rfl rfl (fun c13 => ?_) (fun c13 => ?_)
    · skip
      refine ok_seg (L := [((.aload_n 0), 1), ((.iconst 1), 1)]) (pc' := 139) (ls' := [some (.ref x0), some (.ref x1), some (.int x2), y3]) (st' := [.int 1, .ref x0]) (w' := w) (by decide +kernel) rfl ?_
      refine ok_call0 (inj' := am_ji) (by decide +kernel : decode m_R_read.2.1 139 = .ok ((.invokevirtual 54), 3)) rfl (fun q hq => am_iv0 (am_self_eq hq).1 rfl rfl rfl) (o_R_refuse (d + 4) (x0) (1) w) (fun _ _ => rfl) (fun r14 h15 => ?_)
      exact ok_retb (len := 1) (by decide +kernel : decode m_R_read.2.1 142 = .ok (.ireturn, 1)) rfl
    · skip
      refine ok_seg (L := [((.aload_n 0), 1), ((.aload_n 1), 1)]) (pc' := 41) (ls' := [some (.ref x0), some (.ref x1), some (.int x2), y3]) (st' := [.ref x1, .ref x0]) (w' := w) (by decide +kernel) rfl ?_
      refine ok_call0 (inj' := am_jv) (by decide +kernel : decode m_R_read.2.1 41 = .ok ((.invokevirtual 44), 3)) rfl (fun q hq => am_iv0 (am_self_eq hq).1 rfl rfl rfl) (o_R_step (d + 2) (x0) (x1) w) (fun _ _ => rfl) (fun r16 h17 => ?_)
      refine ok_seg (L := [((.aload_n 0), 1)]) (pc' := 45) (ls' := [some (.ref x0), some (.ref x1), some (.int x2), y3]) (st' := [.ref x0]) (w' := r16.1) (by decide +kernel) rfl ?_
      refine ok_gi (by decide +kernel : decode m_R_read.2.1 45 = .ok ((.getfield 18), 3)) rfl (fun v18 h19 => ?_)
      refine ok_br (P := ¬ v18 = 0) (off := 27) (t := 75) (by decide +kernel : decode m_R_read.2.1 48 = .ok ((.ifCond .ne 27), 3)) rfl rfl rfl rfl (fun c20 => ?_) (fun c20 => ?_)
      · skip
        refine ok_seg (L := [((.aload_n 0), 1)]) (pc' := 76) (ls' := [some (.ref x0), some (.ref x1), some (.int x2), y3]) (st' := [.ref x0]) (w' := r16.1) (by decide +kernel) rfl ?_
        refine ok_gi (by decide +kernel : decode m_R_read.2.1 76 = .ok ((.getfield 34), 3)) rfl (fun v21 h22 => ?_)
        refine ok_br (P := ¬ v21 = 0) (off := 11) (t := 90) (by decide +kernel : decode m_R_read.2.1 79 = .ok ((.ifCond .ne 11), 3)) rfl rfl rfl rfl (fun c23 => ?_) (fun c23 => ?_)
        · skip
          refine ok_seg (L := [((.aload_n 0), 1), ((.aload_n 1), 1)]) (pc' := 92) (ls' := [some (.ref x0), some (.ref x1), some (.int x2), y3]) (st' := [.ref x1, .ref x0]) (w' := r16.1) (by decide +kernel) rfl ?_
          refine ok_call0 (inj' := am_ji) (by decide +kernel : decode m_R_read.2.1 92 = .ok ((.invokevirtual 62), 3)) rfl (fun q hq => am_iv0 (am_self_eq hq).1 rfl rfl rfl) (o_R_readRow (d + 0) (x0) (x1) r16.1) (fun _ _ => rfl) (fun r24 h25 => ?_)
          exact o_R_read_p95 ih x0 x1 x2 r24.2 y3 r24.1
        · skip
          refine ok_seg (L := [((.aload_n 0), 1), ((.aload_n 1), 1)]) (pc' := 84) (ls' := [some (.ref x0), some (.ref x1), some (.int x2), y3]) (st' := [.ref x1, .ref x0]) (w' := r16.1) (by decide +kernel) rfl ?_
          refine ok_call0 (inj' := am_ji) (by decide +kernel : decode m_R_read.2.1 84 = .ok ((.invokevirtual 58), 3)) rfl (fun q hq => am_iv0 (am_self_eq hq).1 rfl rfl rfl) (o_R_readGrid (d + 0) (x0) (x1) r16.1) (fun _ _ => rfl) (fun r26 h27 => ?_)
          refine ok_goto (t := 95) (by decide +kernel : decode m_R_read.2.1 87 = .ok ((.goto 8), 3)) rfl ?_
          exact o_R_read_p95 ih x0 x1 x2 r26.2 y3 r26.1
      · skip
        refine ok_seg (L := [((.aload_n 1), 1)]) (pc' := 52) (ls' := [some (.ref x0), some (.ref x1), some (.int x2), y3]) (st' := [.ref x1]) (w' := r16.1) (by decide +kernel) rfl ?_
        refine ok_call0 (inj' := am_ji) (by decide +kernel : decode m_R_read.2.1 52 = .ok ((.invokevirtual 48), 3)) rfl (fun q hq => am_iv0 (am_self_eq hq).1 rfl rfl rfl) (o_T_length (d + 4) (x1) r16.1) (fun _ _ => rfl) (fun r28 h29 => ?_)
        refine ok_seg (L := [((.sipush 400), 3)]) (pc' := 58) (ls' := [some (.ref x0), some (.ref x1), some (.int x2), y3]) (st' := [.int 400, .int r28.2]) (w' := r28.1) (by decide +kernel) rfl ?_
        refine ok_br (P := r28.2 ≤ 400) (off := 11) (t := 69) (by decide +kernel : decode m_R_read.2.1 58 = .ok ((.if_icmp .le 11), 3)) rfl rfl rfl rfl (fun c30 => ?_) (fun c30 => ?_)
        · skip
          exact o_R_read_p69 (some (.ref x0)) (some (.ref x1)) (some (.int x2)) y3 r28.1
        · skip
          refine ok_seg (L := [((.aload_n 0), 1), ((.iconst 1), 1)]) (pc' := 63) (ls' := [some (.ref x0), some (.ref x1), some (.int x2), y3]) (st' := [.int 1, .ref x0]) (w' := r28.1) (by decide +kernel) rfl ?_
          refine ok_call0 (inj' := am_ji) (by decide +kernel : decode m_R_read.2.1 63 = .ok ((.invokevirtual 54), 3)) rfl (fun q hq => am_iv0 (am_self_eq hq).1 rfl rfl rfl) (o_R_refuse (d + 4) (x0) (1) r28.1) (fun _ _ => rfl) (fun r31 h32 => ?_)
          refine ok_br (P := r31.2 = 0) (off := 7) (t := 73) (by decide +kernel : decode m_R_read.2.1 66 = .ok ((.ifCond .eq 7), 3)) rfl rfl rfl rfl (fun c33 => ?_) (fun c33 => ?_)
          · skip
            refine ok_seg (L := [((.iconst 0), 1)]) (pc' := 74) (ls' := [some (.ref x0), some (.ref x1), some (.int x2), y3]) (st' := [.int 0]) (w' := r31.1) (by decide +kernel) rfl ?_
            exact o_R_read_p74 0 (some (.ref x0)) (some (.ref x1)) (some (.int x2)) y3 r31.1
          · skip
            exact o_R_read_p69 (some (.ref x0)) (some (.ref x1)) (some (.int x2)) y3 r31.1
theorem o_R_read (d : Nat) (x0 : Nat) (x1 : Nat) (w : am_W) : am_Ok am_ji (d + 5) m_R_read 0 (am_en m_R_read [.ref x0, .ref x1]) [] w (f_R_read x0 x1 w) := by
  show am_Ok _ _ _ 0 [some (.ref x0), some (.ref x1), none, none] [] w _
  unfold f_R_read
  refine ok_self ?_
  unfold e_R_read
  refine ok_seg (L := [((.aload_n 0), 1), ((.iconst 0), 1)]) (pc' := 2) (ls' := [some (.ref x0), some (.ref x1), none, none]) (st' := [.int 0, .ref x0]) (w' := w) (by decide +kernel) rfl ?_
  refine ok_pi (by decide +kernel : decode m_R_read.2.1 2 = .ok ((.putfield 25), 3)) rfl (fun w34 h35 => ?_)
  refine ok_seg (L := [((.aload_n 0), 1), ((.iconst 0), 1)]) (pc' := 7) (ls' := [some (.ref x0), some (.ref x1), none, none]) (st' := [.int 0, .ref x0]) (w' := w34) (by decide +kernel) rfl ?_
  refine ok_pi (by decide +kernel : decode m_R_read.2.1 7 = .ok ((.putfield 31), 3)) rfl (fun w36 h37 => ?_)
  refine ok_seg (L := [((.aload_n 0), 1), ((.iconst 0), 1)]) (pc' := 12) (ls' := [some (.ref x0), some (.ref x1), none, none]) (st' := [.int 0, .ref x0]) (w' := w36) (by decide +kernel) rfl ?_
  refine ok_pi (by decide +kernel : decode m_R_read.2.1 12 = .ok ((.putfield 34), 3)) rfl (fun w38 h39 => ?_)
  refine ok_seg (L := [((.aload_n 0), 1), ((.iconst 0), 1)]) (pc' := 17) (ls' := [some (.ref x0), some (.ref x1), none, none]) (st' := [.int 0, .ref x0]) (w' := w38) (by decide +kernel) rfl ?_
  refine ok_pi (by decide +kernel : decode m_R_read.2.1 17 = .ok ((.putfield 37), 3)) rfl (fun w40 h41 => ?_)
  refine ok_seg (L := [((.aload_n 0), 1)]) (pc' := 21) (ls' := [some (.ref x0), some (.ref x1), none, none]) (st' := [.ref x0]) (w' := w40) (by decide +kernel) rfl ?_
  refine ok_gr (by decide +kernel : decode m_R_read.2.1 21 = .ok ((.getfield 12), 3)) rfl (by decide) (fun v42 h43 => ?_)
  refine ok_seg (L := [((.iconst 0), 1), ((.iconst 0), 1), ((.iconst 0), 1)]) (pc' := 27) (ls' := [some (.ref x0), some (.ref x1), none, none]) (st' := [.int 0, .int 0, .int 0, .ref v42]) (w' := w40) (by decide +kernel) rfl ?_
  refine ok_call0 (inj' := am_jv) (by decide +kernel : decode m_R_read.2.1 27 = .ok ((.invokevirtual 40), 3)) rfl (fun q hq => am_iv0 (am_self_eq hq).1 rfl rfl rfl) (o_G_start (d + 3) (v42) (0) (0) (0) w40) (fun _ _ => rfl) (fun r44 h45 => ?_)
  refine ok_seg (L := [((.iconst 0), 1), ((.istore_n 2), 1)]) (pc' := 32) (ls' := [some (.ref x0), some (.ref x1), some (.int 0), none]) (st' := []) (w' := r44.1) (by decide +kernel) rfl ?_
  exact o_R_read_p32 am_N x0 x1 0 none r44.1
-- m_R_told
def e_R_told (x0 : Nat) (w : am_W) : Option (am_W × Nat) := ((am_gr w x0 3 0).bind fun v1 => (some (w, v1)))
def f_R_told (x0 : Nat) (w : am_W) : Option (am_W × Nat) := am_self w x0 3 (e_R_told x0 w)
theorem o_R_told (d : Nat) (x0 : Nat) (w : am_W) : am_Ok am_ja (d + 0) m_R_told 0 (am_en m_R_told [.ref x0]) [] w (f_R_told x0 w) := by
  show am_Ok _ _ _ 0 [some (.ref x0)] [] w _
  unfold f_R_told
  refine ok_self ?_
  unfold e_R_told
  refine ok_seg (L := [((.aload_n 0), 1)]) (pc' := 1) (ls' := [some (.ref x0)]) (st' := [.ref x0]) (w' := w) (by decide +kernel) rfl ?_
  refine ok_gr (by decide +kernel : decode m_R_told.2.1 1 = .ok ((.getfield 12), 3)) rfl (by decide) (fun v1 h2 => ?_)
  exact ok_ret (v := v1) (by decide +kernel : decode m_R_told.2.1 4 = .ok (.areturn, 1)) rfl
-- m_C_text
def e_C_text (x0 : Nat) (w : am_W) : Option (am_W × Int32) := ((am_gr w x0 0 3).bind fun v1 => ((am_gr w x0 0 0).bind fun v3 => ((f_R_read (v1) (v3) w).bind fun r5 => ((am_gr r5.1 x0 0 0).bind fun v7 => ((f_T_cut (v7) (0) r5.1).bind fun r9 => ((am_gr r9.1 x0 0 3).bind fun v11 => ((f_R_faultKind (v11) r9.1).bind fun r13 => ((am_pv r13.1 x0 0 7 (.int r13.2)).bind fun w15 => (if ¬ r5.2 = 0 then ((am_gr w15 x0 0 1).bind fun v18 => ((am_gr w15 x0 0 3).bind fun v20 => ((f_R_told (v20) w15).bind fun r22 => ((f_G_copy (v18) (r22.2) r22.1).bind fun r24 => ((am_gr r24.1 x0 0 5).bind fun v26 => ((f_H_forget (v26) r24.1).bind fun r28 => ((am_gr r28.1 x0 0 3).bind fun v30 => ((f_R_linesRead (v30) r28.1).bind fun r32 => (some (r32.1, r32.2)))))))))) else ((am_gr w15 x0 0 3).bind fun v34 => ((f_R_faultPlace (v34) w15).bind fun r36 => (some (r36.1, ((-1) - r36.2))))))))))))))
def f_C_text (x0 : Nat) (w : am_W) : Option (am_W × Int32) := am_self w x0 0 (e_C_text x0 w)
theorem o_C_text (d : Nat) (x0 : Nat) (w : am_W) : am_Ok am_ji (d + 6) m_C_text 0 (am_en m_C_text [.ref x0]) [] w (f_C_text x0 w) := by
  show am_Ok _ _ _ 0 [some (.ref x0), none] [] w _
  unfold f_C_text
  refine ok_self ?_
  unfold e_C_text
  refine ok_seg (L := [((.aload_n 0), 1)]) (pc' := 1) (ls' := [some (.ref x0), none]) (st' := [.ref x0]) (w' := w) (by decide +kernel) rfl ?_
  refine ok_gr (by decide +kernel : decode m_C_text.2.1 1 = .ok ((.getfield 29), 3)) rfl (by decide) (fun v1 h2 => ?_)
  refine ok_seg (L := [((.aload_n 0), 1)]) (pc' := 5) (ls' := [some (.ref x0), none]) (st' := [.ref x0, .ref v1]) (w' := w) (by decide +kernel) rfl ?_
  refine ok_gr (by decide +kernel : decode m_C_text.2.1 5 = .ok ((.getfield 10), 3)) rfl (by decide) (fun v3 h4 => ?_)
  refine ok_call0 (inj' := am_ji) (by decide +kernel : decode m_C_text.2.1 8 = .ok ((.invokevirtual 71), 3)) rfl (fun q hq => am_iv0 (am_self_eq hq).1 rfl rfl rfl) (o_R_read (d + 0) (v1) (v3) w) (fun _ _ => rfl) (fun r5 h6 => ?_)
  refine ok_seg (L := [((.istore_n 1), 1), ((.aload_n 0), 1)]) (pc' := 13) (ls' := [some (.ref x0), some (.int r5.2)]) (st' := [.ref x0]) (w' := r5.1) (by decide +kernel) rfl ?_
  refine ok_gr (by decide +kernel : decode m_C_text.2.1 13 = .ok ((.getfield 10), 3)) rfl (by decide) (fun v7 h8 => ?_)
  refine ok_seg (L := [((.iconst 0), 1)]) (pc' := 17) (ls' := [some (.ref x0), some (.int r5.2)]) (st' := [.int 0, .ref v7]) (w' := r5.1) (by decide +kernel) rfl ?_
  refine ok_call0 (inj' := am_ji) (by decide +kernel : decode m_C_text.2.1 17 = .ok ((.invokevirtual 67), 3)) rfl (fun q hq => am_iv0 (am_self_eq hq).1 rfl rfl rfl) (o_T_cut (d + 5) (v7) (0) r5.1) (fun _ _ => rfl) (fun r9 h10 => ?_)
  refine ok_seg (L := [(.pop, 1), ((.aload_n 0), 1), ((.aload_n 0), 1)]) (pc' := 23) (ls' := [some (.ref x0), some (.int r5.2)]) (st' := [.ref x0, .ref x0]) (w' := r9.1) (by decide +kernel) rfl ?_
  refine ok_gr (by decide +kernel : decode m_C_text.2.1 23 = .ok ((.getfield 29), 3)) rfl (by decide) (fun v11 h12 => ?_)
  refine ok_call0 (inj' := am_ji) (by decide +kernel : decode m_C_text.2.1 26 = .ok ((.invokevirtual 75), 3)) rfl (fun q hq => am_iv0 (am_self_eq hq).1 rfl rfl rfl) (o_R_faultKind (d + 5) (v11) r9.1) (fun _ _ => rfl) (fun r13 h14 => ?_)
  refine ok_pi (by decide +kernel : decode m_C_text.2.1 29 = .ok ((.putfield 56), 3)) rfl (fun w15 h16 => ?_)
  refine ok_seg (L := [((.iload_n 1), 1)]) (pc' := 33) (ls' := [some (.ref x0), some (.int r5.2)]) (st' := [.int r5.2]) (w' := w15) (by decide +kernel) rfl ?_
  refine ok_br (P := ¬ r5.2 = 0) (off := 13) (t := 46) (by decide +kernel : decode m_C_text.2.1 33 = .ok ((.ifCond .ne 13), 3)) rfl rfl rfl rfl (fun c17 => ?_) (fun c17 => ?_)
  · skip
    refine ok_seg (L := [((.aload_n 0), 1)]) (pc' := 47) (ls' := [some (.ref x0), some (.int r5.2)]) (st' := [.ref x0]) (w' := w15) (by decide +kernel) rfl ?_
    refine ok_gr (by decide +kernel : decode m_C_text.2.1 47 = .ok ((.getfield 19), 3)) rfl (by decide) (fun v18 h19 => ?_)
    refine ok_seg (L := [((.aload_n 0), 1)]) (pc' := 51) (ls' := [some (.ref x0), some (.int r5.2)]) (st' := [.ref x0, .ref v18]) (w' := w15) (by decide +kernel) rfl ?_
    refine ok_gr (by decide +kernel : decode m_C_text.2.1 51 = .ok ((.getfield 29), 3)) rfl (by decide) (fun v20 h21 => ?_)
    refine ok_call0 (inj' := am_ja) (by decide +kernel : decode m_C_text.2.1 54 = .ok ((.invokevirtual 81), 3)) rfl (fun q hq => am_iv0 (am_self_eq hq).1 rfl rfl rfl) (o_R_told (d + 5) (v20) w15) (fun _ _ => rfl) (fun r22 h23 => ?_)
    refine ok_call0 (inj' := am_jv) (by decide +kernel : decode m_C_text.2.1 57 = .ok ((.invokevirtual 85), 3)) rfl (fun q hq => am_iv0 (am_self_eq hq).1 rfl rfl rfl) (o_G_copy (d + 4) (v18) (r22.2) r22.1) (fun _ _ => rfl) (fun r24 h25 => ?_)
    refine ok_seg (L := [((.aload_n 0), 1)]) (pc' := 61) (ls' := [some (.ref x0), some (.int r5.2)]) (st' := [.ref x0]) (w' := r24.1) (by decide +kernel) rfl ?_
    refine ok_gr (by decide +kernel : decode m_C_text.2.1 61 = .ok ((.getfield 43), 3)) rfl (by decide) (fun v26 h27 => ?_)
    refine ok_call0 (inj' := am_jv) (by decide +kernel : decode m_C_text.2.1 64 = .ok ((.invokevirtual 89), 3)) rfl (fun q hq => am_iv0 (am_self_eq hq).1 rfl rfl rfl) (o_H_forget (d + 5) (v26) r24.1) (fun _ _ => rfl) (fun r28 h29 => ?_)
    refine ok_seg (L := [((.aload_n 0), 1)]) (pc' := 68) (ls' := [some (.ref x0), some (.int r5.2)]) (st' := [.ref x0]) (w' := r28.1) (by decide +kernel) rfl ?_
    refine ok_gr (by decide +kernel : decode m_C_text.2.1 68 = .ok ((.getfield 29), 3)) rfl (by decide) (fun v30 h31 => ?_)
    refine ok_call0 (inj' := am_ji) (by decide +kernel : decode m_C_text.2.1 71 = .ok ((.invokevirtual 92), 3)) rfl (fun q hq => am_iv0 (am_self_eq hq).1 rfl rfl rfl) (o_R_linesRead (d + 5) (v30) r28.1) (fun _ _ => rfl) (fun r32 h33 => ?_)
    exact ok_ret (v := r32.2) (by decide +kernel : decode m_C_text.2.1 74 = .ok (.ireturn, 1)) rfl
  · skip
    refine ok_seg (L := [((.iconst (-1)), 1), ((.aload_n 0), 1)]) (pc' := 38) (ls' := [some (.ref x0), some (.int r5.2)]) (st' := [.ref x0, .int (-1)]) (w' := w15) (by decide +kernel) rfl ?_
    refine ok_gr (by decide +kernel : decode m_C_text.2.1 38 = .ok ((.getfield 29), 3)) rfl (by decide) (fun v34 h35 => ?_)
    refine ok_call0 (inj' := am_ji) (by decide +kernel : decode m_C_text.2.1 41 = .ok ((.invokevirtual 78), 3)) rfl (fun q hq => am_iv0 (am_self_eq hq).1 rfl rfl rfl) (o_R_faultPlace (d + 5) (v34) w15) (fun _ _ => rfl) (fun r36 h37 => ?_)
    refine ok_seg (L := [(.isub, 1)]) (pc' := 45) (ls' := [some (.ref x0), some (.int r5.2)]) (st' := [.int ((-1) - r36.2)]) (w' := r36.1) (by decide +kernel) rfl ?_
    exact ok_ret (v := ((-1) - r36.2)) (by decide +kernel : decode m_C_text.2.1 45 = .ok (.ireturn, 1)) rfl
-- m_C_fault
def e_C_fault (x0 : Nat) (w : am_W) : Option (am_W × Int32) := ((am_gi w x0 0 7).bind fun v1 => (some (w, v1)))
def f_C_fault (x0 : Nat) (w : am_W) : Option (am_W × Int32) := am_self w x0 0 (e_C_fault x0 w)
theorem o_C_fault (d : Nat) (x0 : Nat) (w : am_W) : am_Ok am_ji (d + 0) m_C_fault 0 (am_en m_C_fault [.ref x0]) [] w (f_C_fault x0 w) := by
  show am_Ok _ _ _ 0 [some (.ref x0)] [] w _
  unfold f_C_fault
  refine ok_self ?_
  unfold e_C_fault
  refine ok_seg (L := [((.aload_n 0), 1)]) (pc' := 1) (ls' := [some (.ref x0)]) (st' := [.ref x0]) (w' := w) (by decide +kernel) rfl ?_
  refine ok_gi (by decide +kernel : decode m_C_fault.2.1 1 = .ok ((.getfield 56), 3)) rfl (fun v1 h2 => ?_)
  exact ok_ret (v := v1) (by decide +kernel : decode m_C_fault.2.1 4 = .ok (.ireturn, 1)) rfl
-- m_G_columnsOf
def e_G_columnsOf (x0 : Nat) (x1 : Int64) (x3 : Int32) (w : am_W) : Option (am_W × Int32) := ((am_gi w x0 1 2).bind fun v1 => ((am_gi w x0 1 2).bind fun v3 => (some (w, ((Int64.toInt32 (am_lu x1 (x3 * v1))) &&& ((1 <<< (v3 &&& 31)) - 1))))))
def f_G_columnsOf (x0 : Nat) (x1 : Int64) (x3 : Int32) (w : am_W) : Option (am_W × Int32) := am_self w x0 1 (e_G_columnsOf x0 x1 x3 w)
theorem o_G_columnsOf (d : Nat) (x0 : Nat) (x1 : Int64) (x3 : Int32) (w : am_W) : am_Ok am_ji (d + 0) m_G_columnsOf 0 (am_en m_G_columnsOf [.ref x0, .long x1, .int x3]) [] w (f_G_columnsOf x0 x1 x3 w) := by
  show am_Ok _ _ _ 0 [some (.ref x0), some (.long x1), none, some (.int x3)] [] w _
  unfold f_G_columnsOf
  refine ok_self ?_
  unfold e_G_columnsOf
  refine ok_seg (L := [((.lload_n 1), 1), ((.iload_n 3), 1), ((.aload_n 0), 1)]) (pc' := 3) (ls' := [some (.ref x0), some (.long x1), none, some (.int x3)]) (st' := [.ref x0, .int x3, .long x1]) (w' := w) (by decide +kernel) rfl ?_
  refine ok_gi (by decide +kernel : decode m_G_columnsOf.2.1 3 = .ok ((.getfield 19), 3)) rfl (fun v1 h2 => ?_)
  refine ok_seg (L := [(.imul, 1), (.lushr, 1), (.l2i, 1), ((.iconst 1), 1), ((.aload_n 0), 1)]) (pc' := 11) (ls' := [some (.ref x0), some (.long x1), none, some (.int x3)]) (st' := [.ref x0, .int 1, .int (Int64.toInt32 (am_lu x1 (x3 * v1)))]) (w' := w) (by decide +kernel) rfl ?_
  refine ok_gi (by decide +kernel : decode m_G_columnsOf.2.1 11 = .ok ((.getfield 19), 3)) rfl (fun v3 h4 => ?_)
  refine ok_seg (L := [(.ishl, 1), ((.iconst 1), 1), (.isub, 1), (.iand, 1)]) (pc' := 18) (ls' := [some (.ref x0), some (.long x1), none, some (.int x3)]) (st' := [.int ((Int64.toInt32 (am_lu x1 (x3 * v1))) &&& ((1 <<< (v3 &&& 31)) - 1))]) (w' := w) (by decide +kernel) rfl ?_
  exact ok_ret (v := ((Int64.toInt32 (am_lu x1 (x3 * v1))) &&& ((1 <<< (v3 &&& 31)) - 1))) (by decide +kernel : decode m_G_columnsOf.2.1 18 = .ok (.ireturn, 1)) rfl
-- m_G_rectangleIn
def f_G_rectangleIn_p23 (k2 : Nat → Int64 → Int32 → am_W → Option (am_W × Int64)) : Nat → Nat → Int64 → Int32 → Int32 → Int32 → am_W → Option (am_W × Int64)
  | 0, _, _, _, _, _, _ => none
  | n + 1, x0, x1, x3, x4, x5, w => ((am_gi w x0 1 1).bind fun v1 => (if v1 ≤ x5 then (k2 x0 x1 (x3 + 1) w) else ((f_G_columnsOf (x0) (x1) (x5) w).bind fun r4 => (if ((x4 &&& r4.2) ^^^ ((x4 &&& r4.2) &&& (-(x4 &&& r4.2)))) = 0 then (f_G_rectangleIn_p23 k2 n x0 x1 x3 x4 (x5 + 1) r4.1) else ((am_gi r4.1 x0 1 2).bind fun v7 => ((am_gi r4.1 x0 1 2).bind fun v9 => (some (r4.1, (((Int32.toInt64 (((x4 &&& r4.2) &&& (-(x4 &&& r4.2))) ||| (((x4 &&& r4.2) ^^^ ((x4 &&& r4.2) &&& (-(x4 &&& r4.2)))) &&& (-((x4 &&& r4.2) ^^^ ((x4 &&& r4.2) &&& (-(x4 &&& r4.2)))))))) <<< (Int32.toInt64 (x3 * v7) &&& 63)) ||| ((Int32.toInt64 (((x4 &&& r4.2) &&& (-(x4 &&& r4.2))) ||| (((x4 &&& r4.2) ^^^ ((x4 &&& r4.2) &&& (-(x4 &&& r4.2)))) &&& (-((x4 &&& r4.2) ^^^ ((x4 &&& r4.2) &&& (-(x4 &&& r4.2)))))))) <<< (Int32.toInt64 (x5 * v9) &&& 63)))))))))))
def f_G_rectangleIn_p2 : Nat → Nat → Int64 → Int32 → am_W → Option (am_W × Int64)
  | 0, _, _, _, _ => none
  | n + 1, x0, x1, x3, w => ((am_gi w x0 1 1).bind fun v11 => (if v11 ≤ x3 then (some (w, 0)) else ((f_G_columnsOf (x0) (x1) (x3) w).bind fun r14 => (f_G_rectangleIn_p23 (f_G_rectangleIn_p2 n) am_N x0 x1 x3 r14.2 (x3 + 1) r14.1))))
def e_G_rectangleIn (x0 : Nat) (x1 : Int64) (w : am_W) : Option (am_W × Int64) := (f_G_rectangleIn_p2 am_N x0 x1 0 w)
def f_G_rectangleIn (x0 : Nat) (x1 : Int64) (w : am_W) : Option (am_W × Int64) := am_self w x0 1 (e_G_rectangleIn x0 x1 w)
theorem o_G_rectangleIn_p23 {d : Nat} {k2 : Nat → Int64 → Int32 → am_W → Option (am_W × Int64)} (hk2 : ∀ (x0 : Nat) (x1 : Int64) (x3 : Int32) (y2 y4 y5 y6 y7 y8 y9 y10 : Option Value) (w : am_W), am_Ok am_jj (d + 1) m_G_rectangleIn 2 [some (.ref x0), some (.long x1), y2, some (.int x3), y4, y5, y6, y7, y8, y9, y10] [] w (k2 x0 x1 x3 w)) : ∀ (n : Nat) (x0 : Nat) (x1 : Int64) (x3 : Int32) (x4 : Int32) (x5 : Int32) (y2 y6 y7 y8 y9 y10 : Option Value) (w : am_W), am_Ok am_jj (d + 1) m_G_rectangleIn 23 [some (.ref x0), some (.long x1), y2, some (.int x3), some (.int x4), some (.int x5), y6, y7, y8, y9, y10] [] w (f_G_rectangleIn_p23 k2 n x0 x1 x3 x4 x5 w) := by
  intro n
  induction n with
  | zero => intros; exact ok_none
  | succ n ih =>
    intro x0 x1 x3 x4 x5 y2 y6 y7 y8 y9 y10 w
    unfold f_G_rectangleIn_p23
    refine ok_seg (L := [((.iload 5), 2), ((.aload_n 0), 1)]) (pc' := 26) (ls' := [some (.ref x0), some (.long x1), y2, some (.int x3), some (.int x4), some (.int x5), y6, y7, y8, y9, y10]) (st' := [.ref x0, .int x5]) (w' := w) (by decide +kernel) rfl ?_
    refine ok_gi (by decide +kernel : decode m_G_rectangleIn.2.1 26 = .ok ((.getfield 15), 3)) rfl (fun v1 h2 => ?_)
    refine ok_br (P := v1 ≤ x5) (off := 74) (t := 103) (by decide +kernel : decode m_G_rectangleIn.2.1 29 = .ok ((.if_icmp .ge 74), 3)) rfl rfl rfl rfl (fun c3 => ?_) (fun c3 => ?_)
    · skip
      refine ok_seg (L := [((.iinc 3 1), 3)]) (pc' := 106) (ls' := [some (.ref x0), some (.long x1), y2, some (.int (x3 + 1)), some (.int x4), some (.int x5), y6, y7, y8, y9, y10]) (st' := []) (w' := w) (by decide +kernel) rfl ?_
      refine ok_goto (t := 2) (by decide +kernel : decode m_G_rectangleIn.2.1 106 = .ok ((.goto (-104)), 3)) rfl ?_
      exact hk2 x0 x1 (x3 + 1) y2 (some (.int x4)) (some (.int x5)) y6 y7 y8 y9 y10 w
    · skip
      refine ok_seg (L := [((.iload 4), 2), ((.aload_n 0), 1), ((.lload_n 1), 1), ((.iload 5), 2)]) (pc' := 38) (ls' := [some (.ref x0), some (.long x1), y2, some (.int x3), some (.int x4), some (.int x5), y6, y7, y8, y9, y10]) (st' := [.int x5, .long x1, .ref x0, .int x4]) (w' := w) (by decide +kernel) rfl ?_
      refine ok_call0 (inj' := am_ji) (by decide +kernel : decode m_G_rectangleIn.2.1 38 = .ok ((.invokevirtual 50), 3)) rfl (fun q hq => am_iv0 (am_self_eq hq).1 rfl rfl rfl) (o_G_columnsOf (d + 0) (x0) (x1) (x5) w) (fun _ _ => rfl) (fun r4 h5 => ?_)
      refine ok_seg (L := [(.iand, 1), ((.istore 6), 2), ((.iload 6), 2), ((.iload 6), 2), (.ineg, 1), (.iand, 1), ((.istore 7), 2), ((.iload 6), 2), ((.iload 7), 2), (.ixor, 1), ((.istore 8), 2), ((.iload 8), 2)]) (pc' := 61) (ls' := [some (.ref x0), some (.long x1), y2, some (.int x3), some (.int x4), some (.int x5), some (.int (x4 &&& r4.2)), some (.int ((x4 &&& r4.2) &&& (-(x4 &&& r4.2)))), some (.int ((x4 &&& r4.2) ^^^ ((x4 &&& r4.2) &&& (-(x4 &&& r4.2))))), y9, y10]) (st' := [.int ((x4 &&& r4.2) ^^^ ((x4 &&& r4.2) &&& (-(x4 &&& r4.2))))]) (w' := r4.1) (by decide +kernel) rfl ?_
      refine ok_br (P := ((x4 &&& r4.2) ^^^ ((x4 &&& r4.2) &&& (-(x4 &&& r4.2)))) = 0) (off := 36) (t := 97) (by decide +kernel : decode m_G_rectangleIn.2.1 61 = .ok ((.ifCond .eq 36), 3)) rfl rfl rfl rfl (fun c6 => ?_) (fun c6 => ?_)
      · skip
        refine ok_seg (L := [((.iinc 5 1), 3)]) (pc' := 100) (ls' := [some (.ref x0), some (.long x1), y2, some (.int x3), some (.int x4), some (.int (x5 + 1)), some (.int (x4 &&& r4.2)), some (.int ((x4 &&& r4.2) &&& (-(x4 &&& r4.2)))), some (.int ((x4 &&& r4.2) ^^^ ((x4 &&& r4.2) &&& (-(x4 &&& r4.2))))), y9, y10]) (st' := []) (w' := r4.1) (by decide +kernel) rfl ?_
        refine ok_goto (t := 23) (by decide +kernel : decode m_G_rectangleIn.2.1 100 = .ok ((.goto (-77)), 3)) rfl ?_
        exact ih x0 x1 x3 x4 (x5 + 1) y2 (some (.int (x4 &&& r4.2))) (some (.int ((x4 &&& r4.2) &&& (-(x4 &&& r4.2))))) (some (.int ((x4 &&& r4.2) ^^^ ((x4 &&& r4.2) &&& (-(x4 &&& r4.2)))))) y9 y10 r4.1
      · skip
        refine ok_seg (L := [((.iload 7), 2), ((.iload 8), 2), ((.iload 8), 2), (.ineg, 1), (.iand, 1), (.ior, 1), (.i2l, 1), ((.lstore 9), 2), ((.lload 9), 2), ((.iload_n 3), 1), ((.aload_n 0), 1)]) (pc' := 80) (ls' := [some (.ref x0), some (.long x1), y2, some (.int x3), some (.int x4), some (.int x5), some (.int (x4 &&& r4.2)), some (.int ((x4 &&& r4.2) &&& (-(x4 &&& r4.2)))), some (.int ((x4 &&& r4.2) ^^^ ((x4 &&& r4.2) &&& (-(x4 &&& r4.2))))), some (.long (Int32.toInt64 (((x4 &&& r4.2) &&& (-(x4 &&& r4.2))) ||| (((x4 &&& r4.2) ^^^ ((x4 &&& r4.2) &&& (-(x4 &&& r4.2)))) &&& (-((x4 &&& r4.2) ^^^ ((x4 &&& r4.2) &&& (-(x4 &&& r4.2))))))))), none]) (st' := [.ref x0, .int x3, .long (Int32.toInt64 (((x4 &&& r4.2) &&& (-(x4 &&& r4.2))) ||| (((x4 &&& r4.2) ^^^ ((x4 &&& r4.2) &&& (-(x4 &&& r4.2)))) &&& (-((x4 &&& r4.2) ^^^ ((x4 &&& r4.2) &&& (-(x4 &&& r4.2))))))))]) (w' := r4.1) (by decide +kernel) rfl ?_
        refine ok_gi (by decide +kernel : decode m_G_rectangleIn.2.1 80 = .ok ((.getfield 19), 3)) rfl (fun v7 h8 => ?_)
        refine ok_seg (L := [(.imul, 1), (.lshl, 1), ((.lload 9), 2), ((.iload 5), 2), ((.aload_n 0), 1)]) (pc' := 90) (ls' := [some (.ref x0), some (.long x1), y2, some (.int x3), some (.int x4), some (.int x5), some (.int (x4 &&& r4.2)), some (.int ((x4 &&& r4.2) &&& (-(x4 &&& r4.2)))), some (.int ((x4 &&& r4.2) ^^^ ((x4 &&& r4.2) &&& (-(x4 &&& r4.2))))), some (.long (Int32.toInt64 (((x4 &&& r4.2) &&& (-(x4 &&& r4.2))) ||| (((x4 &&& r4.2) ^^^ ((x4 &&& r4.2) &&& (-(x4 &&& r4.2)))) &&& (-((x4 &&& r4.2) ^^^ ((x4 &&& r4.2) &&& (-(x4 &&& r4.2))))))))), none]) (st' := [.ref x0, .int x5, .long (Int32.toInt64 (((x4 &&& r4.2) &&& (-(x4 &&& r4.2))) ||| (((x4 &&& r4.2) ^^^ ((x4 &&& r4.2) &&& (-(x4 &&& r4.2)))) &&& (-((x4 &&& r4.2) ^^^ ((x4 &&& r4.2) &&& (-(x4 &&& r4.2)))))))), .long ((Int32.toInt64 (((x4 &&& r4.2) &&& (-(x4 &&& r4.2))) ||| (((x4 &&& r4.2) ^^^ ((x4 &&& r4.2) &&& (-(x4 &&& r4.2)))) &&& (-((x4 &&& r4.2) ^^^ ((x4 &&& r4.2) &&& (-(x4 &&& r4.2)))))))) <<< (Int32.toInt64 (x3 * v7) &&& 63))]) (w' := r4.1) (by decide +kernel) rfl ?_
        refine ok_gi (by decide +kernel : decode m_G_rectangleIn.2.1 90 = .ok ((.getfield 19), 3)) rfl (fun v9 h10 => ?_)
        refine ok_seg (L := [(.imul, 1), (.lshl, 1), (.lor, 1)]) (pc' := 96) (ls' := [some (.ref x0), some (.long x1), y2, some (.int x3), some (.int x4), some (.int x5), some (.int (x4 &&& r4.2)), some (.int ((x4 &&& r4.2) &&& (-(x4 &&& r4.2)))), some (.int ((x4 &&& r4.2) ^^^ ((x4 &&& r4.2) &&& (-(x4 &&& r4.2))))), some (.long (Int32.toInt64 (((x4 &&& r4.2) &&& (-(x4 &&& r4.2))) ||| (((x4 &&& r4.2) ^^^ ((x4 &&& r4.2) &&& (-(x4 &&& r4.2)))) &&& (-((x4 &&& r4.2) ^^^ ((x4 &&& r4.2) &&& (-(x4 &&& r4.2))))))))), none]) (st' := [.long (((Int32.toInt64 (((x4 &&& r4.2) &&& (-(x4 &&& r4.2))) ||| (((x4 &&& r4.2) ^^^ ((x4 &&& r4.2) &&& (-(x4 &&& r4.2)))) &&& (-((x4 &&& r4.2) ^^^ ((x4 &&& r4.2) &&& (-(x4 &&& r4.2)))))))) <<< (Int32.toInt64 (x3 * v7) &&& 63)) ||| ((Int32.toInt64 (((x4 &&& r4.2) &&& (-(x4 &&& r4.2))) ||| (((x4 &&& r4.2) ^^^ ((x4 &&& r4.2) &&& (-(x4 &&& r4.2)))) &&& (-((x4 &&& r4.2) ^^^ ((x4 &&& r4.2) &&& (-(x4 &&& r4.2)))))))) <<< (Int32.toInt64 (x5 * v9) &&& 63)))]) (w' := r4.1) (by decide +kernel) rfl ?_
        exact ok_ret (v := (((Int32.toInt64 (((x4 &&& r4.2) &&& (-(x4 &&& r4.2))) ||| (((x4 &&& r4.2) ^^^ ((x4 &&& r4.2) &&& (-(x4 &&& r4.2)))) &&& (-((x4 &&& r4.2) ^^^ ((x4 &&& r4.2) &&& (-(x4 &&& r4.2)))))))) <<< (Int32.toInt64 (x3 * v7) &&& 63)) ||| ((Int32.toInt64 (((x4 &&& r4.2) &&& (-(x4 &&& r4.2))) ||| (((x4 &&& r4.2) ^^^ ((x4 &&& r4.2) &&& (-(x4 &&& r4.2)))) &&& (-((x4 &&& r4.2) ^^^ ((x4 &&& r4.2) &&& (-(x4 &&& r4.2)))))))) <<< (Int32.toInt64 (x5 * v9) &&& 63)))) (by decide +kernel : decode m_G_rectangleIn.2.1 96 = .ok (.lreturn, 1)) rfl
theorem o_G_rectangleIn_p2 {d : Nat} : ∀ (n : Nat) (x0 : Nat) (x1 : Int64) (x3 : Int32) (y2 y4 y5 y6 y7 y8 y9 y10 : Option Value) (w : am_W), am_Ok am_jj (d + 1) m_G_rectangleIn 2 [some (.ref x0), some (.long x1), y2, some (.int x3), y4, y5, y6, y7, y8, y9, y10] [] w (f_G_rectangleIn_p2 n x0 x1 x3 w) := by
  intro n
  induction n with
  | zero => intros; exact ok_none
  | succ n ih =>
    intro x0 x1 x3 y2 y4 y5 y6 y7 y8 y9 y10 w
    unfold f_G_rectangleIn_p2
    refine ok_seg (L := [((.iload_n 3), 1), ((.aload_n 0), 1)]) (pc' := 4) (ls' := [some (.ref x0), some (.long x1), y2, some (.int x3), y4, y5, y6, y7, y8, y9, y10]) (st' := [.ref x0, .int x3]) (w' := w) (by decide +kernel) rfl ?_
    refine ok_gi (by decide +kernel : decode m_G_rectangleIn.2.1 4 = .ok ((.getfield 15), 3)) rfl (fun v11 h12 => ?_)
    refine ok_br (P := v11 ≤ x3) (off := 102) (t := 109) (by decide +kernel : decode m_G_rectangleIn.2.1 7 = .ok ((.if_icmp .ge 102), 3)) rfl rfl rfl rfl (fun c13 => ?_) (fun c13 => ?_)
    · skip
      refine ok_seg (L := [((.lconst 0), 1)]) (pc' := 110) (ls' := [some (.ref x0), some (.long x1), y2, some (.int x3), y4, y5, y6, y7, y8, y9, y10]) (st' := [.long 0]) (w' := w) (by decide +kernel) rfl ?_
      exact ok_ret (v := 0) (by decide +kernel : decode m_G_rectangleIn.2.1 110 = .ok (.lreturn, 1)) rfl
    · skip
      refine ok_seg (L := [((.aload_n 0), 1), ((.lload_n 1), 1), ((.iload_n 3), 1)]) (pc' := 13) (ls' := [some (.ref x0), some (.long x1), y2, some (.int x3), y4, y5, y6, y7, y8, y9, y10]) (st' := [.int x3, .long x1, .ref x0]) (w' := w) (by decide +kernel) rfl ?_
      refine ok_call0 (inj' := am_ji) (by decide +kernel : decode m_G_rectangleIn.2.1 13 = .ok ((.invokevirtual 50), 3)) rfl (fun q hq => am_iv0 (am_self_eq hq).1 rfl rfl rfl) (o_G_columnsOf (d + 0) (x0) (x1) (x3) w) (fun _ _ => rfl) (fun r14 h15 => ?_)
      refine ok_seg (L := [((.istore 4), 2), ((.iload_n 3), 1), ((.iconst 1), 1), (.iadd, 1), ((.istore 5), 2)]) (pc' := 23) (ls' := [some (.ref x0), some (.long x1), y2, some (.int x3), some (.int r14.2), some (.int (x3 + 1)), y6, y7, y8, y9, y10]) (st' := []) (w' := r14.1) (by decide +kernel) rfl ?_
      exact o_G_rectangleIn_p23 ih am_N x0 x1 x3 r14.2 (x3 + 1) y2 y6 y7 y8 y9 y10 r14.1
theorem o_G_rectangleIn (d : Nat) (x0 : Nat) (x1 : Int64) (w : am_W) : am_Ok am_jj (d + 1) m_G_rectangleIn 0 (am_en m_G_rectangleIn [.ref x0, .long x1]) [] w (f_G_rectangleIn x0 x1 w) := by
  show am_Ok _ _ _ 0 [some (.ref x0), some (.long x1), none, none, none, none, none, none, none, none, none] [] w _
  unfold f_G_rectangleIn
  refine ok_self ?_
  unfold e_G_rectangleIn
  refine ok_seg (L := [((.iconst 0), 1), ((.istore_n 3), 1)]) (pc' := 2) (ls' := [some (.ref x0), some (.long x1), none, some (.int 0), none, none, none, none, none, none, none]) (st' := []) (w' := w) (by decide +kernel) rfl ?_
  exact o_G_rectangleIn_p2 am_N x0 x1 0 none none none none none none none none w
-- m_G_anyRectangle
def f_G_anyRectangle_p2 : Nat → Nat → Int64 → Int32 → am_W → Option (am_W × Int64)
  | 0, _, _, _, _ => none
  | n + 1, x0, x1, x3, w => ((am_gi w x0 1 3).bind fun v1 => (if v1 < x3 then (some (w, 0)) else ((f_G_cellsOf (x0) (x3) w).bind fun r4 => ((f_G_rectangleIn (x0) ((r4.2 &&& (x1 ^^^ (-1)))) r4.1).bind fun r6 => (if (lg_cmp r6.2 0) = 0 then (f_G_anyRectangle_p2 n x0 x1 (x3 + 1) r6.1) else (some (r6.1, r6.2)))))))
def e_G_anyRectangle (x0 : Nat) (x1 : Int64) (w : am_W) : Option (am_W × Int64) := (f_G_anyRectangle_p2 am_N x0 x1 1 w)
def f_G_anyRectangle (x0 : Nat) (x1 : Int64) (w : am_W) : Option (am_W × Int64) := am_self w x0 1 (e_G_anyRectangle x0 x1 w)
theorem o_G_anyRectangle_p2 {d : Nat} : ∀ (n : Nat) (x0 : Nat) (x1 : Int64) (x3 : Int32) (y2 y4 y5 : Option Value) (w : am_W), am_Ok am_jj (d + 2) m_G_anyRectangle 2 [some (.ref x0), some (.long x1), y2, some (.int x3), y4, y5] [] w (f_G_anyRectangle_p2 n x0 x1 x3 w) := by
  intro n
  induction n with
  | zero => intros; exact ok_none
  | succ n ih =>
    intro x0 x1 x3 y2 y4 y5 w
    unfold f_G_anyRectangle_p2
    refine ok_seg (L := [((.iload_n 3), 1), ((.aload_n 0), 1)]) (pc' := 4) (ls' := [some (.ref x0), some (.long x1), y2, some (.int x3), y4, y5]) (st' := [.ref x0, .int x3]) (w' := w) (by decide +kernel) rfl ?_
    refine ok_gi (by decide +kernel : decode m_G_anyRectangle.2.1 4 = .ok ((.getfield 22), 3)) rfl (fun v1 h2 => ?_)
    refine ok_br (P := v1 < x3) (off := 36) (t := 43) (by decide +kernel : decode m_G_anyRectangle.2.1 7 = .ok ((.if_icmp .gt 36), 3)) rfl rfl rfl rfl (fun c3 => ?_) (fun c3 => ?_)
    · skip
      refine ok_seg (L := [((.lconst 0), 1)]) (pc' := 44) (ls' := [some (.ref x0), some (.long x1), y2, some (.int x3), y4, y5]) (st' := [.long 0]) (w' := w) (by decide +kernel) rfl ?_
      exact ok_ret (v := 0) (by decide +kernel : decode m_G_anyRectangle.2.1 44 = .ok (.lreturn, 1)) rfl
    · skip
      refine ok_seg (L := [((.aload_n 0), 1), ((.aload_n 0), 1), ((.iload_n 3), 1)]) (pc' := 13) (ls' := [some (.ref x0), some (.long x1), y2, some (.int x3), y4, y5]) (st' := [.int x3, .ref x0, .ref x0]) (w' := w) (by decide +kernel) rfl ?_
      refine ok_call0 (inj' := am_jj) (by decide +kernel : decode m_G_anyRectangle.2.1 13 = .ok ((.invokevirtual 31), 3)) rfl (fun q hq => am_iv0 (am_self_eq hq).1 rfl rfl rfl) (o_G_cellsOf (d + 1) (x0) (x3) w) (fun _ _ => rfl) (fun r4 h5 => ?_)
      refine ok_seg (L := [((.lload_n 1), 1), ((.ldc2_w 29), 3), (.lxor, 1), (.land, 1)]) (pc' := 22) (ls' := [some (.ref x0), some (.long x1), y2, some (.int x3), y4, y5]) (st' := [.long (r4.2 &&& (x1 ^^^ (-1))), .ref x0]) (w' := r4.1) (by decide +kernel) rfl ?_
      refine ok_call0 (inj' := am_jj) (by decide +kernel : decode m_G_anyRectangle.2.1 22 = .ok ((.invokevirtual 69), 3)) rfl (fun q hq => am_iv0 (am_self_eq hq).1 rfl rfl rfl) (o_G_rectangleIn (d + 0) (x0) ((r4.2 &&& (x1 ^^^ (-1)))) r4.1) (fun _ _ => rfl) (fun r6 h7 => ?_)
      refine ok_seg (L := [((.lstore 4), 2), ((.lload 4), 2), ((.lconst 0), 1), (.lcmp, 1)]) (pc' := 31) (ls' := [some (.ref x0), some (.long x1), y2, some (.int x3), some (.long r6.2), none]) (st' := [.int (lg_cmp r6.2 0)]) (w' := r6.1) (by decide +kernel) rfl ?_
      refine ok_br (P := (lg_cmp r6.2 0) = 0) (off := 6) (t := 37) (by decide +kernel : decode m_G_anyRectangle.2.1 31 = .ok ((.ifCond .eq 6), 3)) rfl rfl rfl rfl (fun c8 => ?_) (fun c8 => ?_)
      · skip
        refine ok_seg (L := [((.iinc 3 1), 3)]) (pc' := 40) (ls' := [some (.ref x0), some (.long x1), y2, some (.int (x3 + 1)), some (.long r6.2), none]) (st' := []) (w' := r6.1) (by decide +kernel) rfl ?_
        refine ok_goto (t := 2) (by decide +kernel : decode m_G_anyRectangle.2.1 40 = .ok ((.goto (-38)), 3)) rfl ?_
        exact ih x0 x1 (x3 + 1) y2 (some (.long r6.2)) none r6.1
      · skip
        refine ok_seg (L := [((.lload 4), 2)]) (pc' := 36) (ls' := [some (.ref x0), some (.long x1), y2, some (.int x3), some (.long r6.2), none]) (st' := [.long r6.2]) (w' := r6.1) (by decide +kernel) rfl ?_
        exact ok_ret (v := r6.2) (by decide +kernel : decode m_G_anyRectangle.2.1 36 = .ok (.lreturn, 1)) rfl
theorem o_G_anyRectangle (d : Nat) (x0 : Nat) (x1 : Int64) (w : am_W) : am_Ok am_jj (d + 2) m_G_anyRectangle 0 (am_en m_G_anyRectangle [.ref x0, .long x1]) [] w (f_G_anyRectangle x0 x1 w) := by
  show am_Ok _ _ _ 0 [some (.ref x0), some (.long x1), none, none, none, none] [] w _
  unfold f_G_anyRectangle
  refine ok_self ?_
  unfold e_G_anyRectangle
  refine ok_seg (L := [((.iconst 1), 1), ((.istore_n 3), 1)]) (pc' := 2) (ls' := [some (.ref x0), some (.long x1), none, some (.int 1), none, none]) (st' := []) (w' := w) (by decide +kernel) rfl ?_
  exact o_G_anyRectangle_p2 am_N x0 x1 1 none none none w
-- m_G_isGood
def f_G_isGood_p15 (s0 : Int32) (w : am_W) : Option (am_W × Int32) := (am_rb w s0)
def e_G_isGood (x0 : Nat) (w : am_W) : Option (am_W × Int32) := ((f_G_anyRectangle (x0) (0) w).bind fun r1 => (if ¬ (lg_cmp r1.2 0) = 0 then (f_G_isGood_p15 0 r1.1) else (f_G_isGood_p15 1 r1.1)))
def f_G_isGood (x0 : Nat) (w : am_W) : Option (am_W × Int32) := am_self w x0 1 (e_G_isGood x0 w)
theorem o_G_isGood_p15 {d : Nat} (s0 : Int32) (y0 : Option Value) (w : am_W) : am_Ok am_ji (d + 3) m_G_isGood 15 [y0] [.int s0] w (f_G_isGood_p15 s0 w) := by
  unfold f_G_isGood_p15
  exact ok_retb (len := 1) (by decide +kernel : decode m_G_isGood.2.1 15 = .ok (.ireturn, 1)) rfl
theorem o_G_isGood (d : Nat) (x0 : Nat) (w : am_W) : am_Ok am_ji (d + 3) m_G_isGood 0 (am_en m_G_isGood [.ref x0]) [] w (f_G_isGood x0 w) := by
  show am_Ok _ _ _ 0 [some (.ref x0)] [] w _
  unfold f_G_isGood
  refine ok_self ?_
  unfold e_G_isGood
  refine ok_seg (L := [((.aload_n 0), 1), ((.lconst 0), 1)]) (pc' := 2) (ls' := [some (.ref x0)]) (st' := [.long 0, .ref x0]) (w' := w) (by decide +kernel) rfl ?_
  refine ok_call0 (inj' := am_jj) (by decide +kernel : decode m_G_isGood.2.1 2 = .ok ((.invokevirtual 65), 3)) rfl (fun q hq => am_iv0 (am_self_eq hq).1 rfl rfl rfl) (o_G_anyRectangle (d + 0) (x0) (0) w) (fun _ _ => rfl) (fun r1 h2 => ?_)
  refine ok_seg (L := [((.lconst 0), 1), (.lcmp, 1)]) (pc' := 7) (ls' := [some (.ref x0)]) (st' := [.int (lg_cmp r1.2 0)]) (w' := r1.1) (by decide +kernel) rfl ?_
  refine ok_br (P := ¬ (lg_cmp r1.2 0) = 0) (off := 7) (t := 14) (by decide +kernel : decode m_G_isGood.2.1 7 = .ok ((.ifCond .ne 7), 3)) rfl rfl rfl rfl (fun c3 => ?_) (fun c3 => ?_)
  · skip
    refine ok_seg (L := [((.iconst 0), 1)]) (pc' := 15) (ls' := [some (.ref x0)]) (st' := [.int 0]) (w' := r1.1) (by decide +kernel) rfl ?_
    exact o_G_isGood_p15 0 (some (.ref x0)) r1.1
  · skip
    refine ok_seg (L := [((.iconst 1), 1)]) (pc' := 11) (ls' := [some (.ref x0)]) (st' := [.int 1]) (w' := r1.1) (by decide +kernel) rfl ?_
    refine ok_goto (t := 15) (by decide +kernel : decode m_G_isGood.2.1 11 = .ok ((.goto 4), 3)) rfl ?_
    exact o_G_isGood_p15 1 (some (.ref x0)) r1.1
-- m_H_size
def e_H_size (x0 : Nat) (w : am_W) : Option (am_W × Int32) := ((am_gi w x0 2 2).bind fun v1 => (some (w, v1)))
def f_H_size (x0 : Nat) (w : am_W) : Option (am_W × Int32) := am_self w x0 2 (e_H_size x0 w)
theorem o_H_size (d : Nat) (x0 : Nat) (w : am_W) : am_Ok am_ji (d + 0) m_H_size 0 (am_en m_H_size [.ref x0]) [] w (f_H_size x0 w) := by
  show am_Ok _ _ _ 0 [some (.ref x0)] [] w _
  unfold f_H_size
  refine ok_self ?_
  unfold e_H_size
  refine ok_seg (L := [((.aload_n 0), 1)]) (pc' := 1) (ls' := [some (.ref x0)]) (st' := [.ref x0]) (w' := w) (by decide +kernel) rfl ?_
  refine ok_gi (by decide +kernel : decode m_H_size.2.1 1 = .ok ((.getfield 24), 3)) rfl (fun v1 h2 => ?_)
  exact ok_ret (v := v1) (by decide +kernel : decode m_H_size.2.1 4 = .ok (.ireturn, 1)) rfl
-- m_J_bitCount
def e_J_bitCount (x0 : Int64) (w : am_W) : Option (am_W × Int32) := (some (w, ((Int64.toInt32 ((((((((x0 - ((am_lu x0 1) &&& 6148914691236517205)) &&& 3689348814741910323) + ((am_lu (x0 - ((am_lu x0 1) &&& 6148914691236517205)) 2) &&& 3689348814741910323)) + (am_lu (((x0 - ((am_lu x0 1) &&& 6148914691236517205)) &&& 3689348814741910323) + ((am_lu (x0 - ((am_lu x0 1) &&& 6148914691236517205)) 2) &&& 3689348814741910323)) 4)) &&& 1085102592571150095) + (am_lu (((((x0 - ((am_lu x0 1) &&& 6148914691236517205)) &&& 3689348814741910323) + ((am_lu (x0 - ((am_lu x0 1) &&& 6148914691236517205)) 2) &&& 3689348814741910323)) + (am_lu (((x0 - ((am_lu x0 1) &&& 6148914691236517205)) &&& 3689348814741910323) + ((am_lu (x0 - ((am_lu x0 1) &&& 6148914691236517205)) 2) &&& 3689348814741910323)) 4)) &&& 1085102592571150095) 8)) + (am_lu ((((((x0 - ((am_lu x0 1) &&& 6148914691236517205)) &&& 3689348814741910323) + ((am_lu (x0 - ((am_lu x0 1) &&& 6148914691236517205)) 2) &&& 3689348814741910323)) + (am_lu (((x0 - ((am_lu x0 1) &&& 6148914691236517205)) &&& 3689348814741910323) + ((am_lu (x0 - ((am_lu x0 1) &&& 6148914691236517205)) 2) &&& 3689348814741910323)) 4)) &&& 1085102592571150095) + (am_lu (((((x0 - ((am_lu x0 1) &&& 6148914691236517205)) &&& 3689348814741910323) + ((am_lu (x0 - ((am_lu x0 1) &&& 6148914691236517205)) 2) &&& 3689348814741910323)) + (am_lu (((x0 - ((am_lu x0 1) &&& 6148914691236517205)) &&& 3689348814741910323) + ((am_lu (x0 - ((am_lu x0 1) &&& 6148914691236517205)) 2) &&& 3689348814741910323)) 4)) &&& 1085102592571150095) 8)) 16)) + (am_lu (((((((x0 - ((am_lu x0 1) &&& 6148914691236517205)) &&& 3689348814741910323) + ((am_lu (x0 - ((am_lu x0 1) &&& 6148914691236517205)) 2) &&& 3689348814741910323)) + (am_lu (((x0 - ((am_lu x0 1) &&& 6148914691236517205)) &&& 3689348814741910323) + ((am_lu (x0 - ((am_lu x0 1) &&& 6148914691236517205)) 2) &&& 3689348814741910323)) 4)) &&& 1085102592571150095) + (am_lu (((((x0 - ((am_lu x0 1) &&& 6148914691236517205)) &&& 3689348814741910323) + ((am_lu (x0 - ((am_lu x0 1) &&& 6148914691236517205)) 2) &&& 3689348814741910323)) + (am_lu (((x0 - ((am_lu x0 1) &&& 6148914691236517205)) &&& 3689348814741910323) + ((am_lu (x0 - ((am_lu x0 1) &&& 6148914691236517205)) 2) &&& 3689348814741910323)) 4)) &&& 1085102592571150095) 8)) + (am_lu ((((((x0 - ((am_lu x0 1) &&& 6148914691236517205)) &&& 3689348814741910323) + ((am_lu (x0 - ((am_lu x0 1) &&& 6148914691236517205)) 2) &&& 3689348814741910323)) + (am_lu (((x0 - ((am_lu x0 1) &&& 6148914691236517205)) &&& 3689348814741910323) + ((am_lu (x0 - ((am_lu x0 1) &&& 6148914691236517205)) 2) &&& 3689348814741910323)) 4)) &&& 1085102592571150095) + (am_lu (((((x0 - ((am_lu x0 1) &&& 6148914691236517205)) &&& 3689348814741910323) + ((am_lu (x0 - ((am_lu x0 1) &&& 6148914691236517205)) 2) &&& 3689348814741910323)) + (am_lu (((x0 - ((am_lu x0 1) &&& 6148914691236517205)) &&& 3689348814741910323) + ((am_lu (x0 - ((am_lu x0 1) &&& 6148914691236517205)) 2) &&& 3689348814741910323)) 4)) &&& 1085102592571150095) 8)) 16)) 32))) &&& 127)))
def f_J_bitCount (x0 : Int64) (w : am_W) : Option (am_W × Int32) := e_J_bitCount x0 w
theorem o_J_bitCount (d : Nat) (x0 : Int64) (w : am_W) : am_Ok am_ji (d + 0) m_J_bitCount 0 (am_en m_J_bitCount [.long x0]) [] w (f_J_bitCount x0 w) := by
  show am_Ok _ _ _ 0 [some (.long x0), none] [] w _
  unfold f_J_bitCount
  unfold e_J_bitCount
  refine ok_seg (L := [((.lload_n 0), 1), ((.lload_n 0), 1), ((.iconst 1), 1), (.lushr, 1), ((.ldc2_w 314), 3), (.land, 1), (.lsub, 1), ((.lstore_n 0), 1), ((.lload_n 0), 1), ((.ldc2_w 316), 3), (.land, 1), ((.lload_n 0), 1), ((.iconst 2), 1), (.lushr, 1), ((.ldc2_w 316), 3), (.land, 1), (.ladd, 1), ((.lstore_n 0), 1), ((.lload_n 0), 1), ((.lload_n 0), 1), ((.iconst 4), 1), (.lushr, 1), (.ladd, 1), ((.ldc2_w 318), 3), (.land, 1), ((.lstore_n 0), 1), ((.lload_n 0), 1), ((.lload_n 0), 1), ((.bipush 8), 2), (.lushr, 1), (.ladd, 1), ((.lstore_n 0), 1), ((.lload_n 0), 1), ((.lload_n 0), 1), ((.bipush 16), 2), (.lushr, 1), (.ladd, 1), ((.lstore_n 0), 1), ((.lload_n 0), 1), ((.lload_n 0), 1), ((.bipush 32), 2), (.lushr, 1), (.ladd, 1), ((.lstore_n 0), 1), ((.lload_n 0), 1), (.l2i, 1), ((.bipush 127), 2), (.iand, 1)]) (pc' := 60) (ls' := [some (.long ((((((((x0 - ((am_lu x0 1) &&& 6148914691236517205)) &&& 3689348814741910323) + ((am_lu (x0 - ((am_lu x0 1) &&& 6148914691236517205)) 2) &&& 3689348814741910323)) + (am_lu (((x0 - ((am_lu x0 1) &&& 6148914691236517205)) &&& 3689348814741910323) + ((am_lu (x0 - ((am_lu x0 1) &&& 6148914691236517205)) 2) &&& 3689348814741910323)) 4)) &&& 1085102592571150095) + (am_lu (((((x0 - ((am_lu x0 1) &&& 6148914691236517205)) &&& 3689348814741910323) + ((am_lu (x0 - ((am_lu x0 1) &&& 6148914691236517205)) 2) &&& 3689348814741910323)) + (am_lu (((x0 - ((am_lu x0 1) &&& 6148914691236517205)) &&& 3689348814741910323) + ((am_lu (x0 - ((am_lu x0 1) &&& 6148914691236517205)) 2) &&& 3689348814741910323)) 4)) &&& 1085102592571150095) 8)) + (am_lu ((((((x0 - ((am_lu x0 1) &&& 6148914691236517205)) &&& 3689348814741910323) + ((am_lu (x0 - ((am_lu x0 1) &&& 6148914691236517205)) 2) &&& 3689348814741910323)) + (am_lu (((x0 - ((am_lu x0 1) &&& 6148914691236517205)) &&& 3689348814741910323) + ((am_lu (x0 - ((am_lu x0 1) &&& 6148914691236517205)) 2) &&& 3689348814741910323)) 4)) &&& 1085102592571150095) + (am_lu (((((x0 - ((am_lu x0 1) &&& 6148914691236517205)) &&& 3689348814741910323) + ((am_lu (x0 - ((am_lu x0 1) &&& 6148914691236517205)) 2) &&& 3689348814741910323)) + (am_lu (((x0 - ((am_lu x0 1) &&& 6148914691236517205)) &&& 3689348814741910323) + ((am_lu (x0 - ((am_lu x0 1) &&& 6148914691236517205)) 2) &&& 3689348814741910323)) 4)) &&& 1085102592571150095) 8)) 16)) + (am_lu (((((((x0 - ((am_lu x0 1) &&& 6148914691236517205)) &&& 3689348814741910323) + ((am_lu (x0 - ((am_lu x0 1) &&& 6148914691236517205)) 2) &&& 3689348814741910323)) + (am_lu (((x0 - ((am_lu x0 1) &&& 6148914691236517205)) &&& 3689348814741910323) + ((am_lu (x0 - ((am_lu x0 1) &&& 6148914691236517205)) 2) &&& 3689348814741910323)) 4)) &&& 1085102592571150095) + (am_lu (((((x0 - ((am_lu x0 1) &&& 6148914691236517205)) &&& 3689348814741910323) + ((am_lu (x0 - ((am_lu x0 1) &&& 6148914691236517205)) 2) &&& 3689348814741910323)) + (am_lu (((x0 - ((am_lu x0 1) &&& 6148914691236517205)) &&& 3689348814741910323) + ((am_lu (x0 - ((am_lu x0 1) &&& 6148914691236517205)) 2) &&& 3689348814741910323)) 4)) &&& 1085102592571150095) 8)) + (am_lu ((((((x0 - ((am_lu x0 1) &&& 6148914691236517205)) &&& 3689348814741910323) + ((am_lu (x0 - ((am_lu x0 1) &&& 6148914691236517205)) 2) &&& 3689348814741910323)) + (am_lu (((x0 - ((am_lu x0 1) &&& 6148914691236517205)) &&& 3689348814741910323) + ((am_lu (x0 - ((am_lu x0 1) &&& 6148914691236517205)) 2) &&& 3689348814741910323)) 4)) &&& 1085102592571150095) + (am_lu (((((x0 - ((am_lu x0 1) &&& 6148914691236517205)) &&& 3689348814741910323) + ((am_lu (x0 - ((am_lu x0 1) &&& 6148914691236517205)) 2) &&& 3689348814741910323)) + (am_lu (((x0 - ((am_lu x0 1) &&& 6148914691236517205)) &&& 3689348814741910323) + ((am_lu (x0 - ((am_lu x0 1) &&& 6148914691236517205)) 2) &&& 3689348814741910323)) 4)) &&& 1085102592571150095) 8)) 16)) 32))), none]) (st' := [.int ((Int64.toInt32 ((((((((x0 - ((am_lu x0 1) &&& 6148914691236517205)) &&& 3689348814741910323) + ((am_lu (x0 - ((am_lu x0 1) &&& 6148914691236517205)) 2) &&& 3689348814741910323)) + (am_lu (((x0 - ((am_lu x0 1) &&& 6148914691236517205)) &&& 3689348814741910323) + ((am_lu (x0 - ((am_lu x0 1) &&& 6148914691236517205)) 2) &&& 3689348814741910323)) 4)) &&& 1085102592571150095) + (am_lu (((((x0 - ((am_lu x0 1) &&& 6148914691236517205)) &&& 3689348814741910323) + ((am_lu (x0 - ((am_lu x0 1) &&& 6148914691236517205)) 2) &&& 3689348814741910323)) + (am_lu (((x0 - ((am_lu x0 1) &&& 6148914691236517205)) &&& 3689348814741910323) + ((am_lu (x0 - ((am_lu x0 1) &&& 6148914691236517205)) 2) &&& 3689348814741910323)) 4)) &&& 1085102592571150095) 8)) + (am_lu ((((((x0 - ((am_lu x0 1) &&& 6148914691236517205)) &&& 3689348814741910323) + ((am_lu (x0 - ((am_lu x0 1) &&& 6148914691236517205)) 2) &&& 3689348814741910323)) + (am_lu (((x0 - ((am_lu x0 1) &&& 6148914691236517205)) &&& 3689348814741910323) + ((am_lu (x0 - ((am_lu x0 1) &&& 6148914691236517205)) 2) &&& 3689348814741910323)) 4)) &&& 1085102592571150095) + (am_lu (((((x0 - ((am_lu x0 1) &&& 6148914691236517205)) &&& 3689348814741910323) + ((am_lu (x0 - ((am_lu x0 1) &&& 6148914691236517205)) 2) &&& 3689348814741910323)) + (am_lu (((x0 - ((am_lu x0 1) &&& 6148914691236517205)) &&& 3689348814741910323) + ((am_lu (x0 - ((am_lu x0 1) &&& 6148914691236517205)) 2) &&& 3689348814741910323)) 4)) &&& 1085102592571150095) 8)) 16)) + (am_lu (((((((x0 - ((am_lu x0 1) &&& 6148914691236517205)) &&& 3689348814741910323) + ((am_lu (x0 - ((am_lu x0 1) &&& 6148914691236517205)) 2) &&& 3689348814741910323)) + (am_lu (((x0 - ((am_lu x0 1) &&& 6148914691236517205)) &&& 3689348814741910323) + ((am_lu (x0 - ((am_lu x0 1) &&& 6148914691236517205)) 2) &&& 3689348814741910323)) 4)) &&& 1085102592571150095) + (am_lu (((((x0 - ((am_lu x0 1) &&& 6148914691236517205)) &&& 3689348814741910323) + ((am_lu (x0 - ((am_lu x0 1) &&& 6148914691236517205)) 2) &&& 3689348814741910323)) + (am_lu (((x0 - ((am_lu x0 1) &&& 6148914691236517205)) &&& 3689348814741910323) + ((am_lu (x0 - ((am_lu x0 1) &&& 6148914691236517205)) 2) &&& 3689348814741910323)) 4)) &&& 1085102592571150095) 8)) + (am_lu ((((((x0 - ((am_lu x0 1) &&& 6148914691236517205)) &&& 3689348814741910323) + ((am_lu (x0 - ((am_lu x0 1) &&& 6148914691236517205)) 2) &&& 3689348814741910323)) + (am_lu (((x0 - ((am_lu x0 1) &&& 6148914691236517205)) &&& 3689348814741910323) + ((am_lu (x0 - ((am_lu x0 1) &&& 6148914691236517205)) 2) &&& 3689348814741910323)) 4)) &&& 1085102592571150095) + (am_lu (((((x0 - ((am_lu x0 1) &&& 6148914691236517205)) &&& 3689348814741910323) + ((am_lu (x0 - ((am_lu x0 1) &&& 6148914691236517205)) 2) &&& 3689348814741910323)) + (am_lu (((x0 - ((am_lu x0 1) &&& 6148914691236517205)) &&& 3689348814741910323) + ((am_lu (x0 - ((am_lu x0 1) &&& 6148914691236517205)) 2) &&& 3689348814741910323)) 4)) &&& 1085102592571150095) 8)) 16)) 32))) &&& 127)]) (w' := w) (by decide +kernel) rfl ?_
  exact ok_ret (v := ((Int64.toInt32 ((((((((x0 - ((am_lu x0 1) &&& 6148914691236517205)) &&& 3689348814741910323) + ((am_lu (x0 - ((am_lu x0 1) &&& 6148914691236517205)) 2) &&& 3689348814741910323)) + (am_lu (((x0 - ((am_lu x0 1) &&& 6148914691236517205)) &&& 3689348814741910323) + ((am_lu (x0 - ((am_lu x0 1) &&& 6148914691236517205)) 2) &&& 3689348814741910323)) 4)) &&& 1085102592571150095) + (am_lu (((((x0 - ((am_lu x0 1) &&& 6148914691236517205)) &&& 3689348814741910323) + ((am_lu (x0 - ((am_lu x0 1) &&& 6148914691236517205)) 2) &&& 3689348814741910323)) + (am_lu (((x0 - ((am_lu x0 1) &&& 6148914691236517205)) &&& 3689348814741910323) + ((am_lu (x0 - ((am_lu x0 1) &&& 6148914691236517205)) 2) &&& 3689348814741910323)) 4)) &&& 1085102592571150095) 8)) + (am_lu ((((((x0 - ((am_lu x0 1) &&& 6148914691236517205)) &&& 3689348814741910323) + ((am_lu (x0 - ((am_lu x0 1) &&& 6148914691236517205)) 2) &&& 3689348814741910323)) + (am_lu (((x0 - ((am_lu x0 1) &&& 6148914691236517205)) &&& 3689348814741910323) + ((am_lu (x0 - ((am_lu x0 1) &&& 6148914691236517205)) 2) &&& 3689348814741910323)) 4)) &&& 1085102592571150095) + (am_lu (((((x0 - ((am_lu x0 1) &&& 6148914691236517205)) &&& 3689348814741910323) + ((am_lu (x0 - ((am_lu x0 1) &&& 6148914691236517205)) 2) &&& 3689348814741910323)) + (am_lu (((x0 - ((am_lu x0 1) &&& 6148914691236517205)) &&& 3689348814741910323) + ((am_lu (x0 - ((am_lu x0 1) &&& 6148914691236517205)) 2) &&& 3689348814741910323)) 4)) &&& 1085102592571150095) 8)) 16)) + (am_lu (((((((x0 - ((am_lu x0 1) &&& 6148914691236517205)) &&& 3689348814741910323) + ((am_lu (x0 - ((am_lu x0 1) &&& 6148914691236517205)) 2) &&& 3689348814741910323)) + (am_lu (((x0 - ((am_lu x0 1) &&& 6148914691236517205)) &&& 3689348814741910323) + ((am_lu (x0 - ((am_lu x0 1) &&& 6148914691236517205)) 2) &&& 3689348814741910323)) 4)) &&& 1085102592571150095) + (am_lu (((((x0 - ((am_lu x0 1) &&& 6148914691236517205)) &&& 3689348814741910323) + ((am_lu (x0 - ((am_lu x0 1) &&& 6148914691236517205)) 2) &&& 3689348814741910323)) + (am_lu (((x0 - ((am_lu x0 1) &&& 6148914691236517205)) &&& 3689348814741910323) + ((am_lu (x0 - ((am_lu x0 1) &&& 6148914691236517205)) 2) &&& 3689348814741910323)) 4)) &&& 1085102592571150095) 8)) + (am_lu ((((((x0 - ((am_lu x0 1) &&& 6148914691236517205)) &&& 3689348814741910323) + ((am_lu (x0 - ((am_lu x0 1) &&& 6148914691236517205)) 2) &&& 3689348814741910323)) + (am_lu (((x0 - ((am_lu x0 1) &&& 6148914691236517205)) &&& 3689348814741910323) + ((am_lu (x0 - ((am_lu x0 1) &&& 6148914691236517205)) 2) &&& 3689348814741910323)) 4)) &&& 1085102592571150095) + (am_lu (((((x0 - ((am_lu x0 1) &&& 6148914691236517205)) &&& 3689348814741910323) + ((am_lu (x0 - ((am_lu x0 1) &&& 6148914691236517205)) 2) &&& 3689348814741910323)) + (am_lu (((x0 - ((am_lu x0 1) &&& 6148914691236517205)) &&& 3689348814741910323) + ((am_lu (x0 - ((am_lu x0 1) &&& 6148914691236517205)) 2) &&& 3689348814741910323)) 4)) &&& 1085102592571150095) 8)) 16)) 32))) &&& 127)) (by decide +kernel : decode m_J_bitCount.2.1 60 = .ok (.ireturn, 1)) rfl
