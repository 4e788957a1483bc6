-- m_M_feed
def e_M_feed (x0 : Nat) (x1 : Int32) (x2 : Int32) (x3 : Int32) (x4 : Int32) (x5 : Int32) (w : am_W) : Option (am_W × Int32) := ((am_pv w x0 7 0 (.int 0)).bind fun w1 => ((am_gi w1 x0 7 2).bind fun v3 => (if (v3 + 20) ≤ 440 then ((f_M_lay (x0) (x1) w1).bind fun r6 => ((f_M_lay (x0) (x2) r6.1).bind fun r8 => ((f_M_lay (x0) (x3) r8.1).bind fun r10 => ((f_M_lay (x0) (x4) r10.1).bind fun r12 => ((f_M_lay (x0) (x5) r12.1).bind fun r14 => ((am_gi r14.1 x0 7 2).bind fun v16 => (some (r14.1, v16)))))))) else (some (w1, (-1))))))
def f_M_feed (x0 : Nat) (x1 : Int32) (x2 : Int32) (x3 : Int32) (x4 : Int32) (x5 : Int32) (w : am_W) : Option (am_W × Int32) := am_self w x0 7 (e_M_feed x0 x1 x2 x3 x4 x5 w)
theorem o_M_feed (d : Nat) (x0 : Nat) (x1 : Int32) (x2 : Int32) (x3 : Int32) (x4 : Int32) (x5 : Int32) (w : am_W) : am_Ok am_ji (d + 1) m_M_feed 0 (am_en m_M_feed [.ref x0, .int x1, .int x2, .int x3, .int x4, .int x5]) [] w (f_M_feed x0 x1 x2 x3 x4 x5 w) := by
  show am_Ok _ _ _ 0 [some (.ref x0), some (.int x1), some (.int x2), some (.int x3), some (.int x4), some (.int x5)] [] w _
  unfold f_M_feed
  refine ok_self ?_
  unfold e_M_feed
  refine ok_seg (L := [((.aload_n 0), 1), ((.iconst 0), 1)]) (pc' := 2) (ls' := [some (.ref x0), some (.int x1), some (.int x2), some (.int x3), some (.int x4), some (.int x5)]) (st' := [.int 0, .ref x0]) (w' := w) (by decide +kernel) rfl ?_
  refine ok_pi (by decide +kernel : decode m_M_feed.2.1 2 = .ok ((.putfield 1), 3)) rfl (fun w1 h2 => ?_)
  refine ok_seg (L := [((.aload_n 0), 1)]) (pc' := 6) (ls' := [some (.ref x0), some (.int x1), some (.int x2), some (.int x3), some (.int x4), some (.int x5)]) (st' := [.ref x0]) (w' := w1) (by decide +kernel) rfl ?_
  refine ok_gi (by decide +kernel : decode m_M_feed.2.1 6 = .ok ((.getfield 11), 3)) rfl (fun v3 h4 => ?_)
  refine ok_seg (L := [((.bipush 20), 2), (.iadd, 1), ((.sipush 440), 3)]) (pc' := 15) (ls' := [some (.ref x0), some (.int x1), some (.int x2), some (.int x3), some (.int x4), some (.int x5)]) (st' := [.int 440, .int (v3 + 20)]) (w' := w1) (by decide +kernel) rfl ?_
  refine ok_br (P := (v3 + 20) ≤ 440) (off := 5) (t := 20) (by decide +kernel : decode m_M_feed.2.1 15 = .ok ((.if_icmp .le 5), 3)) rfl rfl rfl rfl (fun c5 => ?_) (fun c5 => ?_)
  · skip
    refine ok_seg (L := [((.aload_n 0), 1), ((.iload_n 1), 1)]) (pc' := 22) (ls' := [some (.ref x0), some (.int x1), some (.int x2), some (.int x3), some (.int x4), some (.int x5)]) (st' := [.int x1, .ref x0]) (w' := w1) (by decide +kernel) rfl ?_
    refine ok_call0 (inj' := am_jv) (by decide +kernel : decode m_M_feed.2.1 22 = .ok ((.invokevirtual 14), 3)) rfl (fun q hq => am_iv0 (am_self_eq hq).1 rfl rfl rfl) (o_M_lay (d + 0) (x0) (x1) w1) (fun _ _ => rfl) (fun r6 h7 => ?_)
    refine ok_seg (L := [((.aload_n 0), 1), ((.iload_n 2), 1)]) (pc' := 27) (ls' := [some (.ref x0), some (.int x1), some (.int x2), some (.int x3), some (.int x4), some (.int x5)]) (st' := [.int x2, .ref x0]) (w' := r6.1) (by decide +kernel) rfl ?_
    refine ok_call0 (inj' := am_jv) (by decide +kernel : decode m_M_feed.2.1 27 = .ok ((.invokevirtual 14), 3)) rfl (fun q hq => am_iv0 (am_self_eq hq).1 rfl rfl rfl) (o_M_lay (d + 0) (x0) (x2) r6.1) (fun _ _ => rfl) (fun r8 h9 => ?_)
    refine ok_seg (L := [((.aload_n 0), 1), ((.iload_n 3), 1)]) (pc' := 32) (ls' := [some (.ref x0), some (.int x1), some (.int x2), some (.int x3), some (.int x4), some (.int x5)]) (st' := [.int x3, .ref x0]) (w' := r8.1) (by decide +kernel) rfl ?_
    refine ok_call0 (inj' := am_jv) (by decide +kernel : decode m_M_feed.2.1 32 = .ok ((.invokevirtual 14), 3)) rfl (fun q hq => am_iv0 (am_self_eq hq).1 rfl rfl rfl) (o_M_lay (d + 0) (x0) (x3) r8.1) (fun _ _ => rfl) (fun r10 h11 => ?_)
    refine ok_seg (L := [((.aload_n 0), 1), ((.iload 4), 2)]) (pc' := 38) (ls' := [some (.ref x0), some (.int x1), some (.int x2), some (.int x3), some (.int x4), some (.int x5)]) (st' := [.int x4, .ref x0]) (w' := r10.1) (by decide +kernel) rfl ?_
    refine ok_call0 (inj' := am_jv) (by decide +kernel : decode m_M_feed.2.1 38 = .ok ((.invokevirtual 14), 3)) rfl (fun q hq => am_iv0 (am_self_eq hq).1 rfl rfl rfl) (o_M_lay (d + 0) (x0) (x4) r10.1) (fun _ _ => rfl) (fun r12 h13 => ?_)
    refine ok_seg (L := [((.aload_n 0), 1), ((.iload 5), 2)]) (pc' := 44) (ls' := [some (.ref x0), some (.int x1), some (.int x2), some (.int x3), some (.int x4), some (.int x5)]) (st' := [.int x5, .ref x0]) (w' := r12.1) (by decide +kernel) rfl ?_
    refine ok_call0 (inj' := am_jv) (by decide +kernel : decode m_M_feed.2.1 44 = .ok ((.invokevirtual 14), 3)) rfl (fun q hq => am_iv0 (am_self_eq hq).1 rfl rfl rfl) (o_M_lay (d + 0) (x0) (x5) r12.1) (fun _ _ => rfl) (fun r14 h15 => ?_)
    refine ok_seg (L := [((.aload_n 0), 1)]) (pc' := 48) (ls' := [some (.ref x0), some (.int x1), some (.int x2), some (.int x3), some (.int x4), some (.int x5)]) (st' := [.ref x0]) (w' := r14.1) (by decide +kernel) rfl ?_
    refine ok_gi (by decide +kernel : decode m_M_feed.2.1 48 = .ok ((.getfield 11), 3)) rfl (fun v16 h17 => ?_)
    exact ok_ret (v := v16) (by decide +kernel : decode m_M_feed.2.1 51 = .ok (.ireturn, 1)) rfl
  · skip
    refine ok_seg (L := [((.iconst (-1)), 1)]) (pc' := 19) (ls' := [some (.ref x0), some (.int x1), some (.int x2), some (.int x3), some (.int x4), some (.int x5)]) (st' := [.int (-1)]) (w' := w1) (by decide +kernel) rfl ?_
    exact ok_ret (v := (-1)) (by decide +kernel : decode m_M_feed.2.1 19 = .ok (.ireturn, 1)) rfl
-- m_M_end
def f_M_end_p17 (w : am_W) : Option (am_W × Int32) := (some (w, 0))
def e_M_end (x0 : Nat) (x1 : Int32) (w : am_W) : Option (am_W × Int32) := ((am_pv w x0 7 0 (.int 0)).bind fun w1 => (if x1 < 0 then (f_M_end_p17 w1) else ((am_gi w1 x0 7 2).bind fun v4 => (if x1 ≤ v4 then ((am_pv w1 x0 7 2 (.int x1)).bind fun w7 => (some (w7, 1))) else (f_M_end_p17 w1)))))
def f_M_end (x0 : Nat) (x1 : Int32) (w : am_W) : Option (am_W × Int32) := am_self w x0 7 (e_M_end x0 x1 w)
theorem o_M_end_p17 {d : Nat} (y0 y1 : Option Value) (w : am_W) : am_Ok am_ji (d + 0) m_M_end 17 [y0, y1] [] w (f_M_end_p17 w) := by
  unfold f_M_end_p17
  refine ok_seg (L := [((.iconst 0), 1)]) (pc' := 18) (ls' := [y0, y1]) (st' := [.int 0]) (w' := w) (by decide +kernel) rfl ?_
  exact ok_ret (v := 0) (by decide +kernel : decode m_M_end.2.1 18 = .ok (.ireturn, 1)) rfl
theorem o_M_end (d : Nat) (x0 : Nat) (x1 : Int32) (w : am_W) : am_Ok am_ji (d + 0) m_M_end 0 (am_en m_M_end [.ref x0, .int x1]) [] w (f_M_end x0 x1 w) := by
  show am_Ok _ _ _ 0 [some (.ref x0), some (.int x1)] [] w _
  unfold f_M_end
  refine ok_self ?_
  unfold e_M_end
  refine ok_seg (L := [((.aload_n 0), 1), ((.iconst 0), 1)]) (pc' := 2) (ls' := [some (.ref x0), some (.int x1)]) (st' := [.int 0, .ref x0]) (w' := w) (by decide +kernel) rfl ?_
  refine ok_pi (by decide +kernel : decode m_M_end.2.1 2 = .ok ((.putfield 1), 3)) rfl (fun w1 h2 => ?_)
  refine ok_seg (L := [((.iload_n 1), 1)]) (pc' := 6) (ls' := [some (.ref x0), some (.int x1)]) (st' := [.int x1]) (w' := w1) (by decide +kernel) rfl ?_
  refine ok_br (P := x1 < 0) (off := 11) (t := 17) (by decide +kernel : decode m_M_end.2.1 6 = .ok ((.ifCond .lt 11), 3)) rfl rfl rfl rfl (fun c3 => ?_) (fun c3 => ?_)
  · skip
    exact o_M_end_p17 (some (.ref x0)) (some (.int x1)) w1
  · skip
    refine ok_seg (L := [((.iload_n 1), 1), ((.aload_n 0), 1)]) (pc' := 11) (ls' := [some (.ref x0), some (.int x1)]) (st' := [.ref x0, .int x1]) (w' := w1) (by decide +kernel) rfl ?_
    refine ok_gi (by decide +kernel : decode m_M_end.2.1 11 = .ok ((.getfield 11), 3)) rfl (fun v4 h5 => ?_)
    refine ok_br (P := x1 ≤ v4) (off := 5) (t := 19) (by decide +kernel : decode m_M_end.2.1 14 = .ok ((.if_icmp .le 5), 3)) rfl rfl rfl rfl (fun c6 => ?_) (fun c6 => ?_)
    · skip
      refine ok_seg (L := [((.aload_n 0), 1), ((.iload_n 1), 1)]) (pc' := 21) (ls' := [some (.ref x0), some (.int x1)]) (st' := [.int x1, .ref x0]) (w' := w1) (by decide +kernel) rfl ?_
      refine ok_pi (by decide +kernel : decode m_M_end.2.1 21 = .ok ((.putfield 11), 3)) rfl (fun w7 h8 => ?_)
      refine ok_seg (L := [((.iconst 1), 1)]) (pc' := 25) (ls' := [some (.ref x0), some (.int x1)]) (st' := [.int 1]) (w' := w7) (by decide +kernel) rfl ?_
      exact ok_ret (v := 1) (by decide +kernel : decode m_M_end.2.1 25 = .ok (.ireturn, 1)) rfl
    · skip
      exact o_M_end_p17 (some (.ref x0)) (some (.int x1)) w1
-- m_M_init
def e_M_init (x0 : Nat) (w : am_W) : Option (am_W × Unit) := ((am_na w 0 440).bind fun w1 => ((am_pv w1 x0 7 1 (.ref w.2.2.length)).bind fun w3 => ((am_na w3 0 67).bind fun w5 => ((am_pv w5 x0 7 11 (.ref w3.2.2.length)).bind fun w7 => ((am_na w7 0 67).bind fun w9 => ((am_pv w9 x0 7 12 (.ref w7.2.2.length)).bind fun w11 => ((am_na w11 0 134).bind fun w13 => ((am_pv w13 x0 7 13 (.ref w11.2.2.length)).bind fun w15 => ((am_na w15 0 536).bind fun w17 => ((am_pv w17 x0 7 14 (.ref w15.2.2.length)).bind fun w19 => ((am_na w19 0 67).bind fun w21 => ((am_pv w21 x0 7 15 (.ref w19.2.2.length)).bind fun w23 => ((am_na w23 0 67).bind fun w25 => ((am_pv w25 x0 7 16 (.ref w23.2.2.length)).bind fun w27 => ((am_na w27 0 67).bind fun w29 => ((am_pv w29 x0 7 17 (.ref w27.2.2.length)).bind fun w31 => ((am_na w31 2 2).bind fun w33 => ((am_pv w33 x0 7 18 (.ref w31.2.2.length)).bind fun w35 => ((am_na w35 0 784).bind fun w37 => ((am_pv w37 x0 7 21 (.ref w35.2.2.length)).bind fun w39 => ((am_na w39 1 784).bind fun w41 => ((am_pv w41 x0 7 22 (.ref w39.2.2.length)).bind fun w43 => ((am_na w43 0 32768).bind fun w45 => ((am_pv w45 x0 7 24 (.ref w43.2.2.length)).bind fun w47 => ((am_na w47 0 63).bind fun w49 => ((am_pv w49 x0 7 25 (.ref w47.2.2.length)).bind fun w51 => ((am_na w51 0 64).bind fun w53 => ((am_pv w53 x0 7 26 (.ref w51.2.2.length)).bind fun w55 => ((am_na w55 0 64).bind fun w57 => ((am_pv w57 x0 7 27 (.ref w55.2.2.length)).bind fun w59 => ((am_na w59 0 4).bind fun w61 => ((am_pv w61 x0 7 30 (.ref w59.2.2.length)).bind fun w63 => ((am_na w63 0 4).bind fun w65 => ((am_pv w65 x0 7 31 (.ref w63.2.2.length)).bind fun w67 => ((am_na w67 0 5).bind fun w69 => ((am_pv w69 x0 7 32 (.ref w67.2.2.length)).bind fun w71 => (some (w71, ()))))))))))))))))))))))))))))))))))))))
def f_M_init (x0 : Nat) (w : am_W) : Option (am_W × Unit) := e_M_init x0 w
theorem o_M_init (d : Nat) (x0 : Nat) (w : am_W) : am_Ok am_jv (d + 0) m_M_init 0 (am_en m_M_init [.ref x0]) [] w (f_M_init x0 w) := by
  show am_Ok _ _ _ 0 [some (.ref x0)] [] w _
  unfold f_M_init
  unfold e_M_init
  refine ok_seg (L := [((.aload_n 0), 1), ((.invokespecial 58), 3), ((.aload_n 0), 1), ((.sipush 440), 3)]) (pc' := 8) (ls' := [some (.ref x0)]) (st' := [.int 440, .ref x0]) (w' := w) (by decide +kernel) rfl ?_
  refine ok_na (by decide +kernel : decode m_M_init.2.1 8 = .ok ((.newarray .int), 2)) (by decide) (fun w1 h2 => ?_)
  refine ok_pr (by decide +kernel : decode m_M_init.2.1 10 = .ok ((.putfield 7), 3)) rfl (by decide) (fun w3 h4 => ?_)
  refine ok_seg (L := [((.aload_n 0), 1), ((.bipush 67), 2)]) (pc' := 16) (ls' := [some (.ref x0)]) (st' := [.int 67, .ref x0]) (w' := w3) (by decide +kernel) rfl ?_
  refine ok_na (by decide +kernel : decode m_M_init.2.1 16 = .ok ((.newarray .int), 2)) (by decide) (fun w5 h6 => ?_)
  refine ok_pr (by decide +kernel : decode m_M_init.2.1 18 = .ok ((.putfield 64), 3)) rfl (by decide) (fun w7 h8 => ?_)
  refine ok_seg (L := [((.aload_n 0), 1), ((.bipush 67), 2)]) (pc' := 24) (ls' := [some (.ref x0)]) (st' := [.int 67, .ref x0]) (w' := w7) (by decide +kernel) rfl ?_
  refine ok_na (by decide +kernel : decode m_M_init.2.1 24 = .ok ((.newarray .int), 2)) (by decide) (fun w9 h10 => ?_)
  refine ok_pr (by decide +kernel : decode m_M_init.2.1 26 = .ok ((.putfield 67), 3)) rfl (by decide) (fun w11 h12 => ?_)
  refine ok_seg (L := [((.aload_n 0), 1), ((.sipush 134), 3)]) (pc' := 33) (ls' := [some (.ref x0)]) (st' := [.int 134, .ref x0]) (w' := w11) (by decide +kernel) rfl ?_
  refine ok_na (by decide +kernel : decode m_M_init.2.1 33 = .ok ((.newarray .int), 2)) (by decide) (fun w13 h14 => ?_)
  refine ok_pr (by decide +kernel : decode m_M_init.2.1 35 = .ok ((.putfield 70), 3)) rfl (by decide) (fun w15 h16 => ?_)
  refine ok_seg (L := [((.aload_n 0), 1), ((.sipush 536), 3)]) (pc' := 42) (ls' := [some (.ref x0)]) (st' := [.int 536, .ref x0]) (w' := w15) (by decide +kernel) rfl ?_
  refine ok_na (by decide +kernel : decode m_M_init.2.1 42 = .ok ((.newarray .int), 2)) (by decide) (fun w17 h18 => ?_)
  refine ok_pr (by decide +kernel : decode m_M_init.2.1 44 = .ok ((.putfield 73), 3)) rfl (by decide) (fun w19 h20 => ?_)
  refine ok_seg (L := [((.aload_n 0), 1), ((.bipush 67), 2)]) (pc' := 50) (ls' := [some (.ref x0)]) (st' := [.int 67, .ref x0]) (w' := w19) (by decide +kernel) rfl ?_
  refine ok_na (by decide +kernel : decode m_M_init.2.1 50 = .ok ((.newarray .int), 2)) (by decide) (fun w21 h22 => ?_)
  refine ok_pr (by decide +kernel : decode m_M_init.2.1 52 = .ok ((.putfield 76), 3)) rfl (by decide) (fun w23 h24 => ?_)
  refine ok_seg (L := [((.aload_n 0), 1), ((.bipush 67), 2)]) (pc' := 58) (ls' := [some (.ref x0)]) (st' := [.int 67, .ref x0]) (w' := w23) (by decide +kernel) rfl ?_
  refine ok_na (by decide +kernel : decode m_M_init.2.1 58 = .ok ((.newarray .int), 2)) (by decide) (fun w25 h26 => ?_)
  refine ok_pr (by decide +kernel : decode m_M_init.2.1 60 = .ok ((.putfield 79), 3)) rfl (by decide) (fun w27 h28 => ?_)
  refine ok_seg (L := [((.aload_n 0), 1), ((.bipush 67), 2)]) (pc' := 66) (ls' := [some (.ref x0)]) (st' := [.int 67, .ref x0]) (w' := w27) (by decide +kernel) rfl ?_
  refine ok_na (by decide +kernel : decode m_M_init.2.1 66 = .ok ((.newarray .int), 2)) (by decide) (fun w29 h30 => ?_)
  refine ok_pr (by decide +kernel : decode m_M_init.2.1 68 = .ok ((.putfield 82), 3)) rfl (by decide) (fun w31 h32 => ?_)
  refine ok_seg (L := [((.aload_n 0), 1), ((.iconst 2), 1)]) (pc' := 73) (ls' := [some (.ref x0)]) (st' := [.int 2, .ref x0]) (w' := w31) (by decide +kernel) rfl ?_
  refine ok_na (by decide +kernel : decode m_M_init.2.1 73 = .ok ((.newarray .boolean), 2)) (by decide) (fun w33 h34 => ?_)
  refine ok_pr (by decide +kernel : decode m_M_init.2.1 75 = .ok ((.putfield 85), 3)) rfl (by decide) (fun w35 h36 => ?_)
  refine ok_seg (L := [((.aload_n 0), 1), ((.sipush 784), 3)]) (pc' := 82) (ls' := [some (.ref x0)]) (st' := [.int 784, .ref x0]) (w' := w35) (by decide +kernel) rfl ?_
  refine ok_na (by decide +kernel : decode m_M_init.2.1 82 = .ok ((.newarray .int), 2)) (by decide) (fun w37 h38 => ?_)
  refine ok_pr (by decide +kernel : decode m_M_init.2.1 84 = .ok ((.putfield 89), 3)) rfl (by decide) (fun w39 h40 => ?_)
  refine ok_seg (L := [((.aload_n 0), 1), ((.sipush 784), 3)]) (pc' := 91) (ls' := [some (.ref x0)]) (st' := [.int 784, .ref x0]) (w' := w39) (by decide +kernel) rfl ?_
  refine ok_na (by decide +kernel : decode m_M_init.2.1 91 = .ok ((.newarray .long), 2)) (by decide) (fun w41 h42 => ?_)
  refine ok_pr (by decide +kernel : decode m_M_init.2.1 93 = .ok ((.putfield 92), 3)) rfl (by decide) (fun w43 h44 => ?_)
  refine ok_seg (L := [((.aload_n 0), 1), ((.ldc 96), 2)]) (pc' := 99) (ls' := [some (.ref x0)]) (st' := [.int 32768, .ref x0]) (w' := w43) (by decide +kernel) rfl ?_
  refine ok_na (by decide +kernel : decode m_M_init.2.1 99 = .ok ((.newarray .int), 2)) (by decide) (fun w45 h46 => ?_)
  refine ok_pr (by decide +kernel : decode m_M_init.2.1 101 = .ok ((.putfield 97), 3)) rfl (by decide) (fun w47 h48 => ?_)
  refine ok_seg (L := [((.aload_n 0), 1), ((.bipush 63), 2)]) (pc' := 107) (ls' := [some (.ref x0)]) (st' := [.int 63, .ref x0]) (w' := w47) (by decide +kernel) rfl ?_
  refine ok_na (by decide +kernel : decode m_M_init.2.1 107 = .ok ((.newarray .int), 2)) (by decide) (fun w49 h50 => ?_)
  refine ok_pr (by decide +kernel : decode m_M_init.2.1 109 = .ok ((.putfield 100), 3)) rfl (by decide) (fun w51 h52 => ?_)
  refine ok_seg (L := [((.aload_n 0), 1), ((.bipush 64), 2)]) (pc' := 115) (ls' := [some (.ref x0)]) (st' := [.int 64, .ref x0]) (w' := w51) (by decide +kernel) rfl ?_
  refine ok_na (by decide +kernel : decode m_M_init.2.1 115 = .ok ((.newarray .int), 2)) (by decide) (fun w53 h54 => ?_)
  refine ok_pr (by decide +kernel : decode m_M_init.2.1 117 = .ok ((.putfield 103), 3)) rfl (by decide) (fun w55 h56 => ?_)
  refine ok_seg (L := [((.aload_n 0), 1), ((.bipush 64), 2)]) (pc' := 123) (ls' := [some (.ref x0)]) (st' := [.int 64, .ref x0]) (w' := w55) (by decide +kernel) rfl ?_
  refine ok_na (by decide +kernel : decode m_M_init.2.1 123 = .ok ((.newarray .int), 2)) (by decide) (fun w57 h58 => ?_)
  refine ok_pr (by decide +kernel : decode m_M_init.2.1 125 = .ok ((.putfield 106), 3)) rfl (by decide) (fun w59 h60 => ?_)
  refine ok_seg (L := [((.aload_n 0), 1), ((.iconst 4), 1)]) (pc' := 130) (ls' := [some (.ref x0)]) (st' := [.int 4, .ref x0]) (w' := w59) (by decide +kernel) rfl ?_
  refine ok_na (by decide +kernel : decode m_M_init.2.1 130 = .ok ((.newarray .int), 2)) (by decide) (fun w61 h62 => ?_)
  refine ok_pr (by decide +kernel : decode m_M_init.2.1 132 = .ok ((.putfield 109), 3)) rfl (by decide) (fun w63 h64 => ?_)
  refine ok_seg (L := [((.aload_n 0), 1), ((.iconst 4), 1)]) (pc' := 137) (ls' := [some (.ref x0)]) (st' := [.int 4, .ref x0]) (w' := w63) (by decide +kernel) rfl ?_
  refine ok_na (by decide +kernel : decode m_M_init.2.1 137 = .ok ((.newarray .int), 2)) (by decide) (fun w65 h66 => ?_)
  refine ok_pr (by decide +kernel : decode m_M_init.2.1 139 = .ok ((.putfield 112), 3)) rfl (by decide) (fun w67 h68 => ?_)
  refine ok_seg (L := [((.aload_n 0), 1), ((.iconst 5), 1)]) (pc' := 144) (ls' := [some (.ref x0)]) (st' := [.int 5, .ref x0]) (w' := w67) (by decide +kernel) rfl ?_
  refine ok_na (by decide +kernel : decode m_M_init.2.1 144 = .ok ((.newarray .int), 2)) (by decide) (fun w69 h70 => ?_)
  refine ok_pr (by decide +kernel : decode m_M_init.2.1 146 = .ok ((.putfield 115), 3)) rfl (by decide) (fun w71 h72 => ?_)
  exact ok_ret (v := ()) (by decide +kernel : decode m_M_init.2.1 149 = .ok (.return_, 1)) rfl
-- m_M_copy
def f_M_copy_p3 : Nat → Nat → Int32 → Nat → Int32 → Int32 → am_W → Option (am_W × Unit)
  | 0, _, _, _, _, _, _ => none
  | n + 1, x0, x1, x2, x3, x4, w => (if 67 ≤ x4 then (some (w, ())) else ((am_ai w x0 (x1 + x4)).bind fun v2 => ((am_si w x2 (x3 + x4) v2).bind fun w4 => (f_M_copy_p3 n x0 x1 x2 x3 (x4 + 1) w4))))
def e_M_copy (x0 : Nat) (x1 : Int32) (x2 : Nat) (x3 : Int32) (w : am_W) : Option (am_W × Unit) := (f_M_copy_p3 am_N x0 x1 x2 x3 0 w)
def f_M_copy (x0 : Nat) (x1 : Int32) (x2 : Nat) (x3 : Int32) (w : am_W) : Option (am_W × Unit) := e_M_copy x0 x1 x2 x3 w
theorem o_M_copy_p3 {d : Nat} : ∀ (n : Nat) (x0 : Nat) (x1 : Int32) (x2 : Nat) (x3 : Int32) (x4 : Int32) (w : am_W), am_Ok am_jv (d + 0) m_M_copy 3 [some (.ref x0), some (.int x1), some (.ref x2), some (.int x3), some (.int x4)] [] w (f_M_copy_p3 n x0 x1 x2 x3 x4 w) := by
  intro n
  induction n with
  | zero => intros; exact ok_none
  | succ n ih =>
    intro x0 x1 x2 x3 x4 w
    unfold f_M_copy_p3
    refine ok_seg (L := [((.iload 4), 2), ((.bipush 67), 2)]) (pc' := 7) (ls' := [some (.ref x0), some (.int x1), some (.ref x2), some (.int x3), some (.int x4)]) (st' := [.int 67, .int x4]) (w' := w) (by decide +kernel) rfl ?_
    refine ok_br (P := 67 ≤ x4) (off := 21) (t := 28) (by decide +kernel : decode m_M_copy.2.1 7 = .ok ((.if_icmp .ge 21), 3)) rfl rfl rfl rfl (fun c1 => ?_) (fun c1 => ?_)
    · skip
      exact ok_ret (v := ()) (by decide +kernel : decode m_M_copy.2.1 28 = .ok (.return_, 1)) rfl
    · skip
      refine ok_seg (L := [((.aload_n 2), 1), ((.iload_n 3), 1), ((.iload 4), 2), (.iadd, 1), ((.aload_n 0), 1), ((.iload_n 1), 1), ((.iload 4), 2), (.iadd, 1)]) (pc' := 20) (ls' := [some (.ref x0), some (.int x1), some (.ref x2), some (.int x3), some (.int x4)]) (st' := [.int (x1 + x4), .ref x0, .int (x3 + x4), .ref x2]) (w' := w) (by decide +kernel) rfl ?_
      refine ok_ai (by decide +kernel : decode m_M_copy.2.1 20 = .ok (.iaload, 1)) (fun v2 h3 => ?_)
      refine ok_si (by decide +kernel : decode m_M_copy.2.1 21 = .ok (.iastore, 1)) (fun w4 h5 => ?_)
      refine ok_seg (L := [((.iinc 4 1), 3)]) (pc' := 25) (ls' := [some (.ref x0), some (.int x1), some (.ref x2), some (.int x3), some (.int (x4 + 1))]) (st' := []) (w' := w4) (by decide +kernel) rfl ?_
      refine ok_goto (t := 3) (by decide +kernel : decode m_M_copy.2.1 25 = .ok ((.goto (-22)), 3)) rfl ?_
      exact ih x0 x1 x2 x3 (x4 + 1) w4
theorem o_M_copy (d : Nat) (x0 : Nat) (x1 : Int32) (x2 : Nat) (x3 : Int32) (w : am_W) : am_Ok am_jv (d + 0) m_M_copy 0 (am_en m_M_copy [.ref x0, .int x1, .ref x2, .int x3]) [] w (f_M_copy x0 x1 x2 x3 w) := by
  show am_Ok _ _ _ 0 [some (.ref x0), some (.int x1), some (.ref x2), some (.int x3), none] [] w _
  unfold f_M_copy
  unfold e_M_copy
  refine ok_seg (L := [((.iconst 0), 1), ((.istore 4), 2)]) (pc' := 3) (ls' := [some (.ref x0), some (.int x1), some (.ref x2), some (.int x3), some (.int 0)]) (st' := []) (w' := w) (by decide +kernel) rfl ?_
  exact o_M_copy_p3 am_N x0 x1 x2 x3 0 w
-- m_M_isDigit
def f_M_isDigit_p17 (s0 : Int32) (w : am_W) : Option (am_W × Int32) := (am_rb w s0)
def f_M_isDigit_p16 (w : am_W) : Option (am_W × Int32) := (f_M_isDigit_p17 0 w)
def e_M_isDigit (x0 : Int32) (w : am_W) : Option (am_W × Int32) := (if x0 < 48 then (f_M_isDigit_p16 w) else (if 57 < x0 then (f_M_isDigit_p16 w) else (f_M_isDigit_p17 1 w)))
def f_M_isDigit (x0 : Int32) (w : am_W) : Option (am_W × Int32) := e_M_isDigit x0 w
theorem o_M_isDigit_p17 {d : Nat} (s0 : Int32) (y0 : Option Value) (w : am_W) : am_Ok am_ji (d + 0) m_M_isDigit 17 [y0] [.int s0] w (f_M_isDigit_p17 s0 w) := by
  unfold f_M_isDigit_p17
  exact ok_retb (len := 1) (by decide +kernel : decode m_M_isDigit.2.1 17 = .ok (.ireturn, 1)) rfl
theorem o_M_isDigit_p16 {d : Nat} (y0 : Option Value) (w : am_W) : am_Ok am_ji (d + 0) m_M_isDigit 16 [y0] [] w (f_M_isDigit_p16 w) := by
  unfold f_M_isDigit_p16
  refine ok_seg (L := [((.iconst 0), 1)]) (pc' := 17) (ls' := [y0]) (st' := [.int 0]) (w' := w) (by decide +kernel) rfl ?_
  exact o_M_isDigit_p17 0 y0 w
theorem o_M_isDigit (d : Nat) (x0 : Int32) (w : am_W) : am_Ok am_ji (d + 0) m_M_isDigit 0 (am_en m_M_isDigit [.int x0]) [] w (f_M_isDigit x0 w) := by
  show am_Ok _ _ _ 0 [some (.int x0)] [] w _
  unfold f_M_isDigit
  unfold e_M_isDigit
  refine ok_seg (L := [((.iload_n 0), 1), ((.bipush 48), 2)]) (pc' := 3) (ls' := [some (.int x0)]) (st' := [.int 48, .int x0]) (w' := w) (by decide +kernel) rfl ?_
  refine ok_br (P := x0 < 48) (off := 13) (t := 16) (by decide +kernel : decode m_M_isDigit.2.1 3 = .ok ((.if_icmp .lt 13), 3)) rfl rfl rfl rfl (fun c1 => ?_) (fun c1 => ?_)
  · skip
    exact o_M_isDigit_p16 (some (.int x0)) w
  · skip
    refine ok_seg (L := [((.iload_n 0), 1), ((.bipush 57), 2)]) (pc' := 9) (ls' := [some (.int x0)]) (st' := [.int 57, .int x0]) (w' := w) (by decide +kernel) rfl ?_
    refine ok_br (P := 57 < x0) (off := 7) (t := 16) (by decide +kernel : decode m_M_isDigit.2.1 9 = .ok ((.if_icmp .gt 7), 3)) rfl rfl rfl rfl (fun c2 => ?_) (fun c2 => ?_)
    · skip
      exact o_M_isDigit_p16 (some (.int x0)) w
    · skip
      refine ok_seg (L := [((.iconst 1), 1)]) (pc' := 13) (ls' := [some (.int x0)]) (st' := [.int 1]) (w' := w) (by decide +kernel) rfl ?_
      refine ok_goto (t := 17) (by decide +kernel : decode m_M_isDigit.2.1 13 = .ok ((.goto 4), 3)) rfl ?_
      exact o_M_isDigit_p17 1 (some (.int x0)) w
-- m_M_isLetter
def f_M_isLetter_p17 (s0 : Int32) (w : am_W) : Option (am_W × Int32) := (am_rb w s0)
def f_M_isLetter_p16 (w : am_W) : Option (am_W × Int32) := (f_M_isLetter_p17 0 w)
def e_M_isLetter (x0 : Int32) (w : am_W) : Option (am_W × Int32) := (if x0 < 97 then (f_M_isLetter_p16 w) else (if 122 < x0 then (f_M_isLetter_p16 w) else (f_M_isLetter_p17 1 w)))
def f_M_isLetter (x0 : Int32) (w : am_W) : Option (am_W × Int32) := e_M_isLetter x0 w
theorem o_M_isLetter_p17 {d : Nat} (s0 : Int32) (y0 : Option Value) (w : am_W) : am_Ok am_ji (d + 0) m_M_isLetter 17 [y0] [.int s0] w (f_M_isLetter_p17 s0 w) := by
  unfold f_M_isLetter_p17
  exact ok_retb (len := 1) (by decide +kernel : decode m_M_isLetter.2.1 17 = .ok (.ireturn, 1)) rfl
theorem o_M_isLetter_p16 {d : Nat} (y0 : Option Value) (w : am_W) : am_Ok am_ji (d + 0) m_M_isLetter 16 [y0] [] w (f_M_isLetter_p16 w) := by
  unfold f_M_isLetter_p16
  refine ok_seg (L := [((.iconst 0), 1)]) (pc' := 17) (ls' := [y0]) (st' := [.int 0]) (w' := w) (by decide +kernel) rfl ?_
  exact o_M_isLetter_p17 0 y0 w
theorem o_M_isLetter (d : Nat) (x0 : Int32) (w : am_W) : am_Ok am_ji (d + 0) m_M_isLetter 0 (am_en m_M_isLetter [.int x0]) [] w (f_M_isLetter x0 w) := by
  show am_Ok _ _ _ 0 [some (.int x0)] [] w _
  unfold f_M_isLetter
  unfold e_M_isLetter
  refine ok_seg (L := [((.iload_n 0), 1), ((.bipush 97), 2)]) (pc' := 3) (ls' := [some (.int x0)]) (st' := [.int 97, .int x0]) (w' := w) (by decide +kernel) rfl ?_
  refine ok_br (P := x0 < 97) (off := 13) (t := 16) (by decide +kernel : decode m_M_isLetter.2.1 3 = .ok ((.if_icmp .lt 13), 3)) rfl rfl rfl rfl (fun c1 => ?_) (fun c1 => ?_)
  · skip
    exact o_M_isLetter_p16 (some (.int x0)) w
  · skip
    refine ok_seg (L := [((.iload_n 0), 1), ((.bipush 122), 2)]) (pc' := 9) (ls' := [some (.int x0)]) (st' := [.int 122, .int x0]) (w' := w) (by decide +kernel) rfl ?_
    refine ok_br (P := 122 < x0) (off := 7) (t := 16) (by decide +kernel : decode m_M_isLetter.2.1 9 = .ok ((.if_icmp .gt 7), 3)) rfl rfl rfl rfl (fun c2 => ?_) (fun c2 => ?_)
    · skip
      exact o_M_isLetter_p16 (some (.int x0)) w
    · skip
      refine ok_seg (L := [((.iconst 1), 1)]) (pc' := 13) (ls' := [some (.int x0)]) (st' := [.int 1]) (w' := w) (by decide +kernel) rfl ?_
      refine ok_goto (t := 17) (by decide +kernel : decode m_M_isLetter.2.1 13 = .ok ((.goto 4), 3)) rfl ?_
      exact o_M_isLetter_p17 1 (some (.int x0)) w
-- m_M_tapeAt
def f_M_tapeAt_p18 (s0 : Int32) (w : am_W) : Option (am_W × Int32) := (some (w, s0))
def e_M_tapeAt (x0 : Nat) (x1 : Int32) (w : am_W) : Option (am_W × Int32) := ((am_gi w x0 7 3).bind fun v1 => (if v1 ≤ x1 then (f_M_tapeAt_p18 0 w) else ((am_gr w x0 7 1).bind fun v4 => ((am_ai w v4 x1).bind fun v6 => (f_M_tapeAt_p18 v6 w)))))
def f_M_tapeAt (x0 : Nat) (x1 : Int32) (w : am_W) : Option (am_W × Int32) := am_self w x0 7 (e_M_tapeAt x0 x1 w)
theorem o_M_tapeAt_p18 {d : Nat} (s0 : Int32) (y0 y1 : Option Value) (w : am_W) : am_Ok am_ji (d + 0) m_M_tapeAt 18 [y0, y1] [.int s0] w (f_M_tapeAt_p18 s0 w) := by
  unfold f_M_tapeAt_p18
  exact ok_ret (v := s0) (by decide +kernel : decode m_M_tapeAt.2.1 18 = .ok (.ireturn, 1)) rfl
theorem o_M_tapeAt (d : Nat) (x0 : Nat) (x1 : Int32) (w : am_W) : am_Ok am_ji (d + 0) m_M_tapeAt 0 (am_en m_M_tapeAt [.ref x0, .int x1]) [] w (f_M_tapeAt x0 x1 w) := by
  show am_Ok _ _ _ 0 [some (.ref x0), some (.int x1)] [] w _
  unfold f_M_tapeAt
  refine ok_self ?_
  unfold e_M_tapeAt
  refine ok_seg (L := [((.iload_n 1), 1), ((.aload_n 0), 1)]) (pc' := 2) (ls' := [some (.ref x0), some (.int x1)]) (st' := [.ref x0, .int x1]) (w' := w) (by decide +kernel) rfl ?_
  refine ok_gi (by decide +kernel : decode m_M_tapeAt.2.1 2 = .ok ((.getfield 18), 3)) rfl (fun v1 h2 => ?_)
  refine ok_br (P := v1 ≤ x1) (off := 12) (t := 17) (by decide +kernel : decode m_M_tapeAt.2.1 5 = .ok ((.if_icmp .ge 12), 3)) rfl rfl rfl rfl (fun c3 => ?_) (fun c3 => ?_)
  · skip
    refine ok_seg (L := [((.iconst 0), 1)]) (pc' := 18) (ls' := [some (.ref x0), some (.int x1)]) (st' := [.int 0]) (w' := w) (by decide +kernel) rfl ?_
    exact o_M_tapeAt_p18 0 (some (.ref x0)) (some (.int x1)) w
  · skip
    refine ok_seg (L := [((.aload_n 0), 1)]) (pc' := 9) (ls' := [some (.ref x0), some (.int x1)]) (st' := [.ref x0]) (w' := w) (by decide +kernel) rfl ?_
    refine ok_gr (by decide +kernel : decode m_M_tapeAt.2.1 9 = .ok ((.getfield 7), 3)) rfl (by decide) (fun v4 h5 => ?_)
    refine ok_seg (L := [((.iload_n 1), 1)]) (pc' := 13) (ls' := [some (.ref x0), some (.int x1)]) (st' := [.int x1, .ref v4]) (w' := w) (by decide +kernel) rfl ?_
    refine ok_ai (by decide +kernel : decode m_M_tapeAt.2.1 13 = .ok (.iaload, 1)) (fun v6 h7 => ?_)
    refine ok_goto (t := 18) (by decide +kernel : decode m_M_tapeAt.2.1 14 = .ok ((.goto 4), 3)) rfl ?_
    exact o_M_tapeAt_p18 v6 (some (.ref x0)) (some (.int x1)) w
-- m_M_next
def f_M_next_p298 (k177 : Nat → Int32 → Int32 → am_W → Option (am_W × Unit)) (x0 : Nat) (x2 : Int32) (x3 : Int32) (w : am_W) : Option (am_W × Unit) := ((am_gi w x0 7 4).bind fun v1 => ((am_pv w x0 7 4 (.int (v1 + 1))).bind fun w3 => (k177 x0 x2 x3 w3)))
def f_M_next_p268 (k177 : Nat → Int32 → Int32 → am_W → Option (am_W × Unit)) (x0 : Nat) (x2 : Int32) (x3 : Int32) (x4 : Int32) (w : am_W) : Option (am_W × Unit) := ((am_gi w x0 7 4).bind fun v5 => ((am_gi w x0 7 5).bind fun v7 => (if 2 ≤ (v5 - v7) then (f_M_next_p298 k177 x0 x2 x3 w) else ((am_gi w x0 7 7).bind fun v10 => ((am_pv w x0 7 7 (.int (((10 * v10) + x4) - 48))).bind fun w12 => (f_M_next_p298 k177 x0 x2 x3 w12))))))
def f_M_next_p234 (k177 : Nat → Int32 → Int32 → am_W → Option (am_W × Unit)) (x0 : Nat) (x2 : Int32) (x4 : Int32) (s0 : Int32) (w : am_W) : Option (am_W × Unit) := ((am_gi w x0 7 4).bind fun v14 => ((am_gi w x0 7 5).bind fun v16 => (if 5 ≤ (v14 - v16) then (f_M_next_p268 k177 x0 x2 s0 x4 w) else ((am_gl w x0 7 10).bind fun v19 => ((am_pv w x0 7 10 (.long (((27 * v19) + (Int32.toInt64 x4)) - 96))).bind fun w21 => (f_M_next_p268 k177 x0 x2 s0 x4 w21))))))
def f_M_next_p233 (k177 : Nat → Int32 → Int32 → am_W → Option (am_W × Unit)) (x0 : Nat) (x2 : Int32) (x4 : Int32) (w : am_W) : Option (am_W × Unit) := (f_M_next_p234 k177 x0 x2 x4 0 w)
def f_M_next_p205 (k177 : Nat → Int32 → Int32 → am_W → Option (am_W × Unit)) (x0 : Nat) (x2 : Int32) (x3 : Int32) (w : am_W) : Option (am_W × Unit) := ((am_gr w x0 7 1).bind fun v23 => ((am_gi w x0 7 4).bind fun v25 => ((am_ai w v23 v25).bind fun v27 => (if x3 = 0 then (f_M_next_p233 k177 x0 x2 v27 w) else ((f_M_isLetter (v27) w).bind fun r30 => (if ¬ r30.2 = x2 then (f_M_next_p233 k177 x0 x2 v27 r30.1) else (f_M_next_p234 k177 x0 x2 v27 1 r30.1)))))))
def f_M_next_p346 (s0 : Nat) (s1 : Int32) (w : am_W) : Option (am_W × Unit) := ((am_pv w s0 7 6 (.int s1)).bind fun w33 => (some (w33, ())))
def f_M_next_p333 (s0 : Nat) (w : am_W) : Option (am_W × Unit) := (f_M_next_p346 s0 1 w)
def f_M_next_p337 (x2 : Int32) (s0 : Nat) (w : am_W) : Option (am_W × Unit) := (if x2 = 0 then (f_M_next_p346 s0 3 w) else (f_M_next_p346 s0 2 w))
def f_M_next_p177 : Nat → Nat → Int32 → Int32 → am_W → Option (am_W × Unit)
  | 0, _, _, _, _ => none
  | n + 1, x0, x2, x3, w => ((am_gi w x0 7 4).bind fun v36 => ((f_M_tapeAt (x0) (v36) w).bind fun r38 => ((f_M_isLetter (r38.2) r38.1).bind fun r40 => (if ¬ r40.2 = 0 then (f_M_next_p205 (f_M_next_p177 n) x0 x2 x3 r40.1) else ((am_gi r40.1 x0 7 4).bind fun v43 => ((f_M_tapeAt (x0) (v43) r40.1).bind fun r45 => ((f_M_isDigit (r45.2) r45.1).bind fun r47 => (if r47.2 = 0 then (if x3 = 0 then (f_M_next_p333 x0 r47.1) else (if ¬ x2 = 0 then (f_M_next_p337 x2 x0 r47.1) else ((am_gi r47.1 x0 7 4).bind fun v52 => ((am_gi r47.1 x0 7 5).bind fun v54 => (if (v52 - v54) ≤ 2 then (f_M_next_p337 x2 x0 r47.1) else (f_M_next_p333 x0 r47.1)))))) else (f_M_next_p205 (f_M_next_p177 n) x0 x2 x3 r47.1)))))))))
def f_M_next_p160 (x0 : Nat) (x1 : Int32) (w : am_W) : Option (am_W × Unit) := ((f_M_isLetter (x1) w).bind fun r57 => ((am_pv r57.1 x0 7 10 (.long 0)).bind fun w59 => ((am_pv w59 x0 7 7 (.int 0)).bind fun w61 => (f_M_next_p177 am_N x0 r57.2 1 w61))))
def f_M_next_p146 (x0 : Nat) (s0 : Nat) (s1 : Int32) (w : am_W) : Option (am_W × Unit) := ((am_pv w s0 7 6 (.int s1)).bind fun w63 => ((am_gi w63 x0 7 4).bind fun v65 => ((am_pv w63 x0 7 4 (.int (v65 + 1))).bind fun w67 => (some (w67, ())))))
def f_M_next_p93 (x0 : Nat) (w : am_W) : Option (am_W × Unit) := ((am_gi w x0 7 4).bind fun v69 => ((am_gi w x0 7 3).bind fun v71 => (if v69 < v71 then ((am_gr w x0 7 1).bind fun v74 => ((am_gi w x0 7 4).bind fun v76 => ((am_ai w v74 v76).bind fun v78 => ((f_M_isLetter (v78) w).bind fun r80 => (if ¬ r80.2 = 0 then (f_M_next_p160 x0 v78 r80.1) else ((f_M_isDigit (v78) r80.1).bind fun r83 => (if ¬ r83.2 = 0 then (f_M_next_p160 x0 v78 r83.1) else (if ¬ v78 = 59 then (f_M_next_p146 x0 x0 1 r83.1) else (f_M_next_p146 x0 x0 4 r83.1))))))))) else ((am_pv w x0 7 6 (.int 0)).bind fun w87 => (some (w87, ()))))))
def f_M_next_p52 (x0 : Nat) (w : am_W) : Option (am_W × Unit) := ((am_gi w x0 7 4).bind fun v89 => ((am_pv w x0 7 5 (.int v89)).bind fun w91 => ((am_gi w91 x0 7 3).bind fun v93 => (if v93 ≤ 400 then (f_M_next_p93 x0 w91) else ((am_gi w91 x0 7 5).bind fun v96 => (if v96 < 400 then (f_M_next_p93 x0 w91) else ((am_pv w91 x0 7 5 (.int 400)).bind fun w99 => ((am_pv w99 x0 7 6 (.int 1)).bind fun w101 => (some (w101, ()))))))))))
def f_M_next_p39 (k0 : Nat → am_W → Option (am_W × Unit)) (x0 : Nat) (w : am_W) : Option (am_W × Unit) := ((am_gi w x0 7 4).bind fun v103 => ((am_pv w x0 7 4 (.int (v103 + 1))).bind fun w105 => (k0 x0 w105)))
def f_M_next_p0 : Nat → Nat → am_W → Option (am_W × Unit)
  | 0, _, _ => none
  | n + 1, x0, w => ((am_gi w x0 7 4).bind fun v107 => ((am_gi w x0 7 3).bind fun v109 => (if v109 ≤ v107 then (f_M_next_p52 x0 w) else ((am_gr w x0 7 1).bind fun v112 => ((am_gi w x0 7 4).bind fun v114 => ((am_ai w v112 v114).bind fun v116 => (if v116 = 32 then (f_M_next_p39 (f_M_next_p0 n) x0 w) else ((am_gr w x0 7 1).bind fun v119 => ((am_gi w x0 7 4).bind fun v121 => ((am_ai w v119 v121).bind fun v123 => (if ¬ v123 = 10 then (f_M_next_p52 x0 w) else (f_M_next_p39 (f_M_next_p0 n) x0 w))))))))))))
def e_M_next (x0 : Nat) (w : am_W) : Option (am_W × Unit) := (f_M_next_p0 am_N x0 w)
def f_M_next (x0 : Nat) (w : am_W) : Option (am_W × Unit) := am_self w x0 7 (e_M_next x0 w)
theorem o_M_next_p298 {d : Nat} {k177 : Nat → Int32 → Int32 → am_W → Option (am_W × Unit)} (hk177 : ∀ (x0 : Nat) (x2 : Int32) (x3 : Int32) (y1 y4 : Option Value) (w : am_W), am_Ok am_jv (d + 1) m_M_next 177 [some (.ref x0), y1, some (.int x2), some (.int x3), y4] [] w (k177 x0 x2 x3 w)) (x0 : Nat) (x2 : Int32) (x3 : Int32) (y1 y4 : Option Value) (w : am_W) : am_Ok am_jv (d + 1) m_M_next 298 [some (.ref x0), y1, some (.int x2), some (.int x3), y4] [] w (f_M_next_p298 k177 x0 x2 x3 w) := by
  unfold f_M_next_p298
  refine ok_seg (L := [((.aload_n 0), 1), (.dup, 1)]) (pc' := 300) (ls' := [some (.ref x0), y1, some (.int x2), some (.int x3), y4]) (st' := [.ref x0, .ref x0]) (w' := w) (by decide +kernel) rfl ?_
  refine ok_gi (by decide +kernel : decode m_M_next.2.1 300 = .ok ((.getfield 21), 3)) rfl (fun v1 h2 => ?_)
  refine ok_seg (L := [((.iconst 1), 1), (.iadd, 1)]) (pc' := 305) (ls' := [some (.ref x0), y1, some (.int x2), some (.int x3), y4]) (st' := [.int (v1 + 1), .ref x0]) (w' := w) (by decide +kernel) rfl ?_
  refine ok_pi (by decide +kernel : decode m_M_next.2.1 305 = .ok ((.putfield 21), 3)) rfl (fun w3 h4 => ?_)
  refine ok_goto (t := 177) (by decide +kernel : decode m_M_next.2.1 308 = .ok ((.goto (-131)), 3)) rfl ?_
  exact hk177 x0 x2 x3 y1 y4 w3
theorem o_M_next_p268 {d : Nat} {k177 : Nat → Int32 → Int32 → am_W → Option (am_W × Unit)} (hk177 : ∀ (x0 : Nat) (x2 : Int32) (x3 : Int32) (y1 y4 : Option Value) (w : am_W), am_Ok am_jv (d + 1) m_M_next 177 [some (.ref x0), y1, some (.int x2), some (.int x3), y4] [] w (k177 x0 x2 x3 w)) (x0 : Nat) (x2 : Int32) (x3 : Int32) (x4 : Int32) (y1 : Option Value) (w : am_W) : am_Ok am_jv (d + 1) m_M_next 268 [some (.ref x0), y1, some (.int x2), some (.int x3), some (.int x4)] [] w (f_M_next_p268 k177 x0 x2 x3 x4 w) := by
  unfold f_M_next_p268
  refine ok_seg (L := [((.aload_n 0), 1)]) (pc' := 269) (ls' := [some (.ref x0), y1, some (.int x2), some (.int x3), some (.int x4)]) (st' := [.ref x0]) (w' := w) (by decide +kernel) rfl ?_
  refine ok_gi (by decide +kernel : decode m_M_next.2.1 269 = .ok ((.getfield 21), 3)) rfl (fun v5 h6 => ?_)
  refine ok_seg (L := [((.aload_n 0), 1)]) (pc' := 273) (ls' := [some (.ref x0), y1, some (.int x2), some (.int x3), some (.int x4)]) (st' := [.ref x0, .int v5]) (w' := w) (by decide +kernel) rfl ?_
  refine ok_gi (by decide +kernel : decode m_M_next.2.1 273 = .ok ((.getfield 24), 3)) rfl (fun v7 h8 => ?_)
  refine ok_seg (L := [(.isub, 1), ((.iconst 2), 1)]) (pc' := 278) (ls' := [some (.ref x0), y1, some (.int x2), some (.int x3), some (.int x4)]) (st' := [.int 2, .int (v5 - v7)]) (w' := w) (by decide +kernel) rfl ?_
  refine ok_br (P := 2 ≤ (v5 - v7)) (off := 20) (t := 298) (by decide +kernel : decode m_M_next.2.1 278 = .ok ((.if_icmp .ge 20), 3)) rfl rfl rfl rfl (fun c9 => ?_) (fun c9 => ?_)
  · skip
    exact o_M_next_p298 hk177 x0 x2 x3 y1 (some (.int x4)) w
  · skip
    refine ok_seg (L := [((.aload_n 0), 1), ((.bipush 10), 2), ((.aload_n 0), 1)]) (pc' := 285) (ls' := [some (.ref x0), y1, some (.int x2), some (.int x3), some (.int x4)]) (st' := [.ref x0, .int 10, .ref x0]) (w' := w) (by decide +kernel) rfl ?_
    refine ok_gi (by decide +kernel : decode m_M_next.2.1 285 = .ok ((.getfield 41), 3)) rfl (fun v10 h11 => ?_)
    refine ok_seg (L := [(.imul, 1), ((.iload 4), 2), (.iadd, 1), ((.bipush 48), 2), (.isub, 1)]) (pc' := 295) (ls' := [some (.ref x0), y1, some (.int x2), some (.int x3), some (.int x4)]) (st' := [.int (((10 * v10) + x4) - 48), .ref x0]) (w' := w) (by decide +kernel) rfl ?_
    refine ok_pi (by decide +kernel : decode m_M_next.2.1 295 = .ok ((.putfield 41), 3)) rfl (fun w12 h13 => ?_)
    exact o_M_next_p298 hk177 x0 x2 x3 y1 (some (.int x4)) w12
theorem o_M_next_p234 {d : Nat} {k177 : Nat → Int32 → Int32 → am_W → Option (am_W × Unit)} (hk177 : ∀ (x0 : Nat) (x2 : Int32) (x3 : Int32) (y1 y4 : Option Value) (w : am_W), am_Ok am_jv (d + 1) m_M_next 177 [some (.ref x0), y1, some (.int x2), some (.int x3), y4] [] w (k177 x0 x2 x3 w)) (x0 : Nat) (x2 : Int32) (x4 : Int32) (s0 : Int32) (y1 y3 : Option Value) (w : am_W) : am_Ok am_jv (d + 1) m_M_next 234 [some (.ref x0), y1, some (.int x2), y3, some (.int x4)] [.int s0] w (f_M_next_p234 k177 x0 x2 x4 s0 w) := by
  unfold f_M_next_p234
  refine ok_seg (L := [((.istore_n 3), 1), ((.aload_n 0), 1)]) (pc' := 236) (ls' := [some (.ref x0), y1, some (.int x2), some (.int s0), some (.int x4)]) (st' := [.ref x0]) (w' := w) (by decide +kernel) rfl ?_
  refine ok_gi (by decide +kernel : decode m_M_next.2.1 236 = .ok ((.getfield 21), 3)) rfl (fun v14 h15 => ?_)
  refine ok_seg (L := [((.aload_n 0), 1)]) (pc' := 240) (ls' := [some (.ref x0), y1, some (.int x2), some (.int s0), some (.int x4)]) (st' := [.ref x0, .int v14]) (w' := w) (by decide +kernel) rfl ?_
  refine ok_gi (by decide +kernel : decode m_M_next.2.1 240 = .ok ((.getfield 24), 3)) rfl (fun v16 h17 => ?_)
  refine ok_seg (L := [(.isub, 1), ((.iconst 5), 1)]) (pc' := 245) (ls' := [some (.ref x0), y1, some (.int x2), some (.int s0), some (.int x4)]) (st' := [.int 5, .int (v14 - v16)]) (w' := w) (by decide +kernel) rfl ?_
  refine ok_br (P := 5 ≤ (v14 - v16)) (off := 23) (t := 268) (by decide +kernel : decode m_M_next.2.1 245 = .ok ((.if_icmp .ge 23), 3)) rfl rfl rfl rfl (fun c18 => ?_) (fun c18 => ?_)
  · skip
    exact o_M_next_p268 hk177 x0 x2 s0 x4 y1 w
  · skip
    refine ok_seg (L := [((.aload_n 0), 1), ((.ldc2_w 48), 3), ((.aload_n 0), 1)]) (pc' := 253) (ls' := [some (.ref x0), y1, some (.int x2), some (.int s0), some (.int x4)]) (st' := [.ref x0, .long 27, .ref x0]) (w' := w) (by decide +kernel) rfl ?_
    refine ok_gl (by decide +kernel : decode m_M_next.2.1 253 = .ok ((.getfield 37), 3)) rfl (fun v19 h20 => ?_)
    refine ok_seg (L := [(.lmul, 1), ((.iload 4), 2), (.i2l, 1), (.ladd, 1), ((.ldc2_w 50), 3), (.lsub, 1)]) (pc' := 265) (ls' := [some (.ref x0), y1, some (.int x2), some (.int s0), some (.int x4)]) (st' := [.long (((27 * v19) + (Int32.toInt64 x4)) - 96), .ref x0]) (w' := w) (by decide +kernel) rfl ?_
    refine ok_pl (by decide +kernel : decode m_M_next.2.1 265 = .ok ((.putfield 37), 3)) rfl (fun w21 h22 => ?_)
    exact o_M_next_p268 hk177 x0 x2 s0 x4 y1 w21
theorem o_M_next_p233 {d : Nat} {k177 : Nat → Int32 → Int32 → am_W → Option (am_W × Unit)} (hk177 : ∀ (x0 : Nat) (x2 : Int32) (x3 : Int32) (y1 y4 : Option Value) (w : am_W), am_Ok am_jv (d + 1) m_M_next 177 [some (.ref x0), y1, some (.int x2), some (.int x3), y4] [] w (k177 x0 x2 x3 w)) (x0 : Nat) (x2 : Int32) (x4 : Int32) (y1 y3 : Option Value) (w : am_W) : am_Ok am_jv (d + 1) m_M_next 233 [some (.ref x0), y1, some (.int x2), y3, some (.int x4)] [] w (f_M_next_p233 k177 x0 x2 x4 w) := by
  unfold f_M_next_p233
  refine ok_seg (L := [((.iconst 0), 1)]) (pc' := 234) (ls' := [some (.ref x0), y1, some (.int x2), y3, some (.int x4)]) (st' := [.int 0]) (w' := w) (by decide +kernel) rfl ?_
  exact o_M_next_p234 hk177 x0 x2 x4 0 y1 y3 w
theorem o_M_next_p205 {d : Nat} {k177 : Nat → Int32 → Int32 → am_W → Option (am_W × Unit)} (hk177 : ∀ (x0 : Nat) (x2 : Int32) (x3 : Int32) (y1 y4 : Option Value) (w : am_W), am_Ok am_jv (d + 1) m_M_next 177 [some (.ref x0), y1, some (.int x2), some (.int x3), y4] [] w (k177 x0 x2 x3 w)) (x0 : Nat) (x2 : Int32) (x3 : Int32) (y1 y4 : Option Value) (w : am_W) : am_Ok am_jv (d + 1) m_M_next 205 [some (.ref x0), y1, some (.int x2), some (.int x3), y4] [] w (f_M_next_p205 k177 x0 x2 x3 w) := by
  unfold f_M_next_p205
  refine ok_seg (L := [((.aload_n 0), 1)]) (pc' := 206) (ls' := [some (.ref x0), y1, some (.int x2), some (.int x3), y4]) (st' := [.ref x0]) (w' := w) (by decide +kernel) rfl ?_
  refine ok_gr (by decide +kernel : decode m_M_next.2.1 206 = .ok ((.getfield 7), 3)) rfl (by decide) (fun v23 h24 => ?_)
  refine ok_seg (L := [((.aload_n 0), 1)]) (pc' := 210) (ls' := [some (.ref x0), y1, some (.int x2), some (.int x3), y4]) (st' := [.ref x0, .ref v23]) (w' := w) (by decide +kernel) rfl ?_
  refine ok_gi (by decide +kernel : decode m_M_next.2.1 210 = .ok ((.getfield 21), 3)) rfl (fun v25 h26 => ?_)
  refine ok_ai (by decide +kernel : decode m_M_next.2.1 213 = .ok (.iaload, 1)) (fun v27 h28 => ?_)
  refine ok_seg (L := [((.istore 4), 2), ((.iload_n 3), 1)]) (pc' := 217) (ls' := [some (.ref x0), y1, some (.int x2), some (.int x3), some (.int v27)]) (st' := [.int x3]) (w' := w) (by decide +kernel) rfl ?_
  refine ok_br (P := x3 = 0) (off := 16) (t := 233) (by decide +kernel : decode m_M_next.2.1 217 = .ok ((.ifCond .eq 16), 3)) rfl rfl rfl rfl (fun c29 => ?_) (fun c29 => ?_)
  · skip
    exact o_M_next_p233 hk177 x0 x2 v27 y1 (some (.int x3)) w
  · skip
    refine ok_seg (L := [((.iload 4), 2)]) (pc' := 222) (ls' := [some (.ref x0), y1, some (.int x2), some (.int x3), some (.int v27)]) (st' := [.int v27]) (w' := w) (by decide +kernel) rfl ?_
    refine ok_call0 (inj' := am_ji) (by decide +kernel : decode m_M_next.2.1 222 = .ok ((.invokestatic 30), 3)) rfl (fun _ _ => rfl) (o_M_isLetter (d + 0) (v27) w) (fun _ _ => rfl) (fun r30 h31 => ?_)
    refine ok_seg (L := [((.iload_n 2), 1)]) (pc' := 226) (ls' := [some (.ref x0), y1, some (.int x2), some (.int x3), some (.int v27)]) (st' := [.int x2, .int r30.2]) (w' := r30.1) (by decide +kernel) rfl ?_
    refine ok_br (P := ¬ r30.2 = x2) (off := 7) (t := 233) (by decide +kernel : decode m_M_next.2.1 226 = .ok ((.if_icmp .ne 7), 3)) rfl rfl rfl rfl (fun c32 => ?_) (fun c32 => ?_)
    · skip
      exact o_M_next_p233 hk177 x0 x2 v27 y1 (some (.int x3)) r30.1
    · skip
      refine ok_seg (L := [((.iconst 1), 1)]) (pc' := 230) (ls' := [some (.ref x0), y1, some (.int x2), some (.int x3), some (.int v27)]) (st' := [.int 1]) (w' := r30.1) (by decide +kernel) rfl ?_
      refine ok_goto (t := 234) (by decide +kernel : decode m_M_next.2.1 230 = .ok ((.goto 4), 3)) rfl ?_
      exact o_M_next_p234 hk177 x0 x2 v27 1 y1 (some (.int x3)) r30.1
theorem o_M_next_p346 {d : Nat} (s0 : Nat) (s1 : Int32) (y0 y1 y2 y3 y4 : Option Value) (w : am_W) : am_Ok am_jv (d + 1) m_M_next 346 [y0, y1, y2, y3, y4] [.int s1, .ref s0] w (f_M_next_p346 s0 s1 w) := by
  unfold f_M_next_p346
  refine ok_pi (by decide +kernel : decode m_M_next.2.1 346 = .ok ((.putfield 27), 3)) rfl (fun w33 h34 => ?_)
  exact ok_ret (v := ()) (by decide +kernel : decode m_M_next.2.1 349 = .ok (.return_, 1)) rfl
theorem o_M_next_p333 {d : Nat} (s0 : Nat) (y0 y1 y2 y3 y4 : Option Value) (w : am_W) : am_Ok am_jv (d + 1) m_M_next 333 [y0, y1, y2, y3, y4] [.ref s0] w (f_M_next_p333 s0 w) := by
  unfold f_M_next_p333
  refine ok_seg (L := [((.iconst 1), 1)]) (pc' := 334) (ls' := [y0, y1, y2, y3, y4]) (st' := [.int 1, .ref s0]) (w' := w) (by decide +kernel) rfl ?_
  refine ok_goto (t := 346) (by decide +kernel : decode m_M_next.2.1 334 = .ok ((.goto 12), 3)) rfl ?_
  exact o_M_next_p346 s0 1 y0 y1 y2 y3 y4 w
theorem o_M_next_p337 {d : Nat} (x2 : Int32) (s0 : Nat) (y0 y1 y3 y4 : Option Value) (w : am_W) : am_Ok am_jv (d + 1) m_M_next 337 [y0, y1, some (.int x2), y3, y4] [.ref s0] w (f_M_next_p337 x2 s0 w) := by
  unfold f_M_next_p337
  refine ok_seg (L := [((.iload_n 2), 1)]) (pc' := 338) (ls' := [y0, y1, some (.int x2), y3, y4]) (st' := [.int x2, .ref s0]) (w' := w) (by decide +kernel) rfl ?_
  refine ok_br (P := x2 = 0) (off := 7) (t := 345) (by decide +kernel : decode m_M_next.2.1 338 = .ok ((.ifCond .eq 7), 3)) rfl rfl rfl rfl (fun c35 => ?_) (fun c35 => ?_)
  · skip
    refine ok_seg (L := [((.iconst 3), 1)]) (pc' := 346) (ls' := [y0, y1, some (.int x2), y3, y4]) (st' := [.int 3, .ref s0]) (w' := w) (by decide +kernel) rfl ?_
    exact o_M_next_p346 s0 3 y0 y1 (some (.int x2)) y3 y4 w
  · skip
    refine ok_seg (L := [((.iconst 2), 1)]) (pc' := 342) (ls' := [y0, y1, some (.int x2), y3, y4]) (st' := [.int 2, .ref s0]) (w' := w) (by decide +kernel) rfl ?_
    refine ok_goto (t := 346) (by decide +kernel : decode m_M_next.2.1 342 = .ok ((.goto 4), 3)) rfl ?_
    exact o_M_next_p346 s0 2 y0 y1 (some (.int x2)) y3 y4 w
theorem o_M_next_p177 {d : Nat} : ∀ (n : Nat) (x0 : Nat) (x2 : Int32) (x3 : Int32) (y1 y4 : Option Value) (w : am_W), am_Ok am_jv (d + 1) m_M_next 177 [some (.ref x0), y1, some (.int x2), some (.int x3), y4] [] w (f_M_next_p177 n x0 x2 x3 w) := by
  intro n
  induction n with
  | zero => intros; exact ok_none
  | succ n ih =>
    intro x0 x2 x3 y1 y4 w
    unfold f_M_next_p177
    refine ok_seg (L := [((.aload_n 0), 1), ((.aload_n 0), 1)]) (pc' := 179) (ls' := [some (.ref x0), y1, some (.int x2), some (.int x3), y4]) (st' := [.ref x0, .ref x0]) (w' := w) (by decide +kernel) rfl ?_
    refine ok_gi (by decide +kernel : decode m_M_next.2.1 179 = .ok ((.getfield 21), 3)) rfl (fun v36 h37 => ?_)
    refine ok_call0 (inj' := am_ji) (by decide +kernel : decode m_M_next.2.1 182 = .ok ((.invokevirtual 44), 3)) rfl (fun q hq => am_iv0 (am_self_eq hq).1 rfl rfl rfl) (o_M_tapeAt (d + 0) (x0) (v36) w) (fun _ _ => rfl) (fun r38 h39 => ?_)
    refine ok_call0 (inj' := am_ji) (by decide +kernel : decode m_M_next.2.1 185 = .ok ((.invokestatic 30), 3)) rfl (fun _ _ => rfl) (o_M_isLetter (d + 0) (r38.2) r38.1) (fun _ _ => rfl) (fun r40 h41 => ?_)
    refine ok_br (P := ¬ r40.2 = 0) (off := 17) (t := 205) (by decide +kernel : decode m_M_next.2.1 188 = .ok ((.ifCond .ne 17), 3)) rfl rfl rfl rfl (fun c42 => ?_) (fun c42 => ?_)
    · skip
      exact o_M_next_p205 ih x0 x2 x3 y1 y4 r40.1
    · skip
      refine ok_seg (L := [((.aload_n 0), 1), ((.aload_n 0), 1)]) (pc' := 193) (ls' := [some (.ref x0), y1, some (.int x2), some (.int x3), y4]) (st' := [.ref x0, .ref x0]) (w' := r40.1) (by decide +kernel) rfl ?_
      refine ok_gi (by decide +kernel : decode m_M_next.2.1 193 = .ok ((.getfield 21), 3)) rfl (fun v43 h44 => ?_)
      refine ok_call0 (inj' := am_ji) (by decide +kernel : decode m_M_next.2.1 196 = .ok ((.invokevirtual 44), 3)) rfl (fun q hq => am_iv0 (am_self_eq hq).1 rfl rfl rfl) (o_M_tapeAt (d + 0) (x0) (v43) r40.1) (fun _ _ => rfl) (fun r45 h46 => ?_)
      refine ok_call0 (inj' := am_ji) (by decide +kernel : decode m_M_next.2.1 199 = .ok ((.invokestatic 34), 3)) rfl (fun _ _ => rfl) (o_M_isDigit (d + 0) (r45.2) r45.1) (fun _ _ => rfl) (fun r47 h48 => ?_)
      refine ok_br (P := r47.2 = 0) (off := 109) (t := 311) (by decide +kernel : decode m_M_next.2.1 202 = .ok ((.ifCond .eq 109), 3)) rfl rfl rfl rfl (fun c49 => ?_) (fun c49 => ?_)
      · skip
        refine ok_seg (L := [((.aload_n 0), 1), ((.iload_n 3), 1)]) (pc' := 313) (ls' := [some (.ref x0), y1, some (.int x2), some (.int x3), y4]) (st' := [.int x3, .ref x0]) (w' := r47.1) (by decide +kernel) rfl ?_
        refine ok_br (P := x3 = 0) (off := 20) (t := 333) (by decide +kernel : decode m_M_next.2.1 313 = .ok ((.ifCond .eq 20), 3)) rfl rfl rfl rfl (fun c50 => ?_) (fun c50 => ?_)
        · skip
          exact o_M_next_p333 x0 (some (.ref x0)) y1 (some (.int x2)) (some (.int x3)) y4 r47.1
        · skip
          refine ok_seg (L := [((.iload_n 2), 1)]) (pc' := 317) (ls' := [some (.ref x0), y1, some (.int x2), some (.int x3), y4]) (st' := [.int x2, .ref x0]) (w' := r47.1) (by decide +kernel) rfl ?_
          refine ok_br (P := ¬ x2 = 0) (off := 20) (t := 337) (by decide +kernel : decode m_M_next.2.1 317 = .ok ((.ifCond .ne 20), 3)) rfl rfl rfl rfl (fun c51 => ?_) (fun c51 => ?_)
          · skip
            exact o_M_next_p337 x2 x0 (some (.ref x0)) y1 (some (.int x3)) y4 r47.1
          · skip
            refine ok_seg (L := [((.aload_n 0), 1)]) (pc' := 321) (ls' := [some (.ref x0), y1, some (.int x2), some (.int x3), y4]) (st' := [.ref x0, .ref x0]) (w' := r47.1) (by decide +kernel) rfl ?_
            refine ok_gi (by decide +kernel : decode m_M_next.2.1 321 = .ok ((.getfield 21), 3)) rfl (fun v52 h53 => ?_)
            refine ok_seg (L := [((.aload_n 0), 1)]) (pc' := 325) (ls' := [some (.ref x0), y1, some (.int x2), some (.int x3), y4]) (st' := [.ref x0, .int v52, .ref x0]) (w' := r47.1) (by decide +kernel) rfl ?_
            refine ok_gi (by decide +kernel : decode m_M_next.2.1 325 = .ok ((.getfield 24), 3)) rfl (fun v54 h55 => ?_)
            refine ok_seg (L := [(.isub, 1), ((.iconst 2), 1)]) (pc' := 330) (ls' := [some (.ref x0), y1, some (.int x2), some (.int x3), y4]) (st' := [.int 2, .int (v52 - v54), .ref x0]) (w' := r47.1) (by decide +kernel) rfl ?_
            refine ok_br (P := (v52 - v54) ≤ 2) (off := 7) (t := 337) (by decide +kernel : decode m_M_next.2.1 330 = .ok ((.if_icmp .le 7), 3)) rfl rfl rfl rfl (fun c56 => ?_) (fun c56 => ?_)
            · skip
              exact o_M_next_p337 x2 x0 (some (.ref x0)) y1 (some (.int x3)) y4 r47.1
            · skip
              exact o_M_next_p333 x0 (some (.ref x0)) y1 (some (.int x2)) (some (.int x3)) y4 r47.1
      · skip
        exact o_M_next_p205 ih x0 x2 x3 y1 y4 r47.1
theorem o_M_next_p160 {d : Nat} (x0 : Nat) (x1 : Int32) (y2 y3 y4 : Option Value) (w : am_W) : am_Ok am_jv (d + 1) m_M_next 160 [some (.ref x0), some (.int x1), y2, y3, y4] [] w (f_M_next_p160 x0 x1 w) := by
  unfold f_M_next_p160
  refine ok_seg (L := [((.iload_n 1), 1)]) (pc' := 161) (ls' := [some (.ref x0), some (.int x1), y2, y3, y4]) (st' := [.int x1]) (w' := w) (by decide +kernel) rfl ?_
  refine ok_call0 (inj' := am_ji) (by decide +kernel : decode m_M_next.2.1 161 = .ok ((.invokestatic 30), 3)) rfl (fun _ _ => rfl) (o_M_isLetter (d + 0) (x1) w) (fun _ _ => rfl) (fun r57 h58 => ?_)
  refine ok_seg (L := [((.istore_n 2), 1), ((.iconst 1), 1), ((.istore_n 3), 1), ((.aload_n 0), 1), ((.lconst 0), 1)]) (pc' := 169) (ls' := [some (.ref x0), some (.int x1), some (.int r57.2), some (.int 1), y4]) (st' := [.long 0, .ref x0]) (w' := r57.1) (by decide +kernel) rfl ?_
  refine ok_pl (by decide +kernel : decode m_M_next.2.1 169 = .ok ((.putfield 37), 3)) rfl (fun w59 h60 => ?_)
  refine ok_seg (L := [((.aload_n 0), 1), ((.iconst 0), 1)]) (pc' := 174) (ls' := [some (.ref x0), some (.int x1), some (.int r57.2), some (.int 1), y4]) (st' := [.int 0, .ref x0]) (w' := w59) (by decide +kernel) rfl ?_
  refine ok_pi (by decide +kernel : decode m_M_next.2.1 174 = .ok ((.putfield 41), 3)) rfl (fun w61 h62 => ?_)
  exact o_M_next_p177 am_N x0 r57.2 1 (some (.int x1)) y4 w61
theorem o_M_next_p146 {d : Nat} (x0 : Nat) (s0 : Nat) (s1 : Int32) (y1 y2 y3 y4 : Option Value) (w : am_W) : am_Ok am_jv (d + 1) m_M_next 146 [some (.ref x0), y1, y2, y3, y4] [.int s1, .ref s0] w (f_M_next_p146 x0 s0 s1 w) := by
  unfold f_M_next_p146
  refine ok_pi (by decide +kernel : decode m_M_next.2.1 146 = .ok ((.putfield 27), 3)) rfl (fun w63 h64 => ?_)
  refine ok_seg (L := [((.aload_n 0), 1), (.dup, 1)]) (pc' := 151) (ls' := [some (.ref x0), y1, y2, y3, y4]) (st' := [.ref x0, .ref x0]) (w' := w63) (by decide +kernel) rfl ?_
  refine ok_gi (by decide +kernel : decode m_M_next.2.1 151 = .ok ((.getfield 21), 3)) rfl (fun v65 h66 => ?_)
  refine ok_seg (L := [((.iconst 1), 1), (.iadd, 1)]) (pc' := 156) (ls' := [some (.ref x0), y1, y2, y3, y4]) (st' := [.int (v65 + 1), .ref x0]) (w' := w63) (by decide +kernel) rfl ?_
  refine ok_pi (by decide +kernel : decode m_M_next.2.1 156 = .ok ((.putfield 21), 3)) rfl (fun w67 h68 => ?_)
  exact ok_ret (v := ()) (by decide +kernel : decode m_M_next.2.1 159 = .ok (.return_, 1)) rfl
theorem o_M_next_p93 {d : Nat} (x0 : Nat) (y1 y2 y3 y4 : Option Value) (w : am_W) : am_Ok am_jv (d + 1) m_M_next 93 [some (.ref x0), y1, y2, y3, y4] [] w (f_M_next_p93 x0 w) := by
  unfold f_M_next_p93
  refine ok_seg (L := [((.aload_n 0), 1)]) (pc' := 94) (ls' := [some (.ref x0), y1, y2, y3, y4]) (st' := [.ref x0]) (w' := w) (by decide +kernel) rfl ?_
  refine ok_gi (by decide +kernel : decode m_M_next.2.1 94 = .ok ((.getfield 21), 3)) rfl (fun v69 h70 => ?_)
  refine ok_seg (L := [((.aload_n 0), 1)]) (pc' := 98) (ls' := [some (.ref x0), y1, y2, y3, y4]) (st' := [.ref x0, .int v69]) (w' := w) (by decide +kernel) rfl ?_
  refine ok_gi (by decide +kernel : decode m_M_next.2.1 98 = .ok ((.getfield 18), 3)) rfl (fun v71 h72 => ?_)
  refine ok_br (P := v69 < v71) (off := 9) (t := 110) (by decide +kernel : decode m_M_next.2.1 101 = .ok ((.if_icmp .lt 9), 3)) rfl rfl rfl rfl (fun c73 => ?_) (fun c73 => ?_)
  · skip
    refine ok_seg (L := [((.aload_n 0), 1)]) (pc' := 111) (ls' := [some (.ref x0), y1, y2, y3, y4]) (st' := [.ref x0]) (w' := w) (by decide +kernel) rfl ?_
    refine ok_gr (by decide +kernel : decode m_M_next.2.1 111 = .ok ((.getfield 7), 3)) rfl (by decide) (fun v74 h75 => ?_)
    refine ok_seg (L := [((.aload_n 0), 1)]) (pc' := 115) (ls' := [some (.ref x0), y1, y2, y3, y4]) (st' := [.ref x0, .ref v74]) (w' := w) (by decide +kernel) rfl ?_
    refine ok_gi (by decide +kernel : decode m_M_next.2.1 115 = .ok ((.getfield 21), 3)) rfl (fun v76 h77 => ?_)
    refine ok_ai (by decide +kernel : decode m_M_next.2.1 118 = .ok (.iaload, 1)) (fun v78 h79 => ?_)
    refine ok_seg (L := [((.istore_n 1), 1), ((.iload_n 1), 1)]) (pc' := 121) (ls' := [some (.ref x0), some (.int v78), y2, y3, y4]) (st' := [.int v78]) (w' := w) (by decide +kernel) rfl ?_
    refine ok_call0 (inj' := am_ji) (by decide +kernel : decode m_M_next.2.1 121 = .ok ((.invokestatic 30), 3)) rfl (fun _ _ => rfl) (o_M_isLetter (d + 0) (v78) w) (fun _ _ => rfl) (fun r80 h81 => ?_)
    refine ok_br (P := ¬ r80.2 = 0) (off := 36) (t := 160) (by decide +kernel : decode m_M_next.2.1 124 = .ok ((.ifCond .ne 36), 3)) rfl rfl rfl rfl (fun c82 => ?_) (fun c82 => ?_)
    · skip
      exact o_M_next_p160 x0 v78 y2 y3 y4 r80.1
    · skip
      refine ok_seg (L := [((.iload_n 1), 1)]) (pc' := 128) (ls' := [some (.ref x0), some (.int v78), y2, y3, y4]) (st' := [.int v78]) (w' := r80.1) (by decide +kernel) rfl ?_
      refine ok_call0 (inj' := am_ji) (by decide +kernel : decode m_M_next.2.1 128 = .ok ((.invokestatic 34), 3)) rfl (fun _ _ => rfl) (o_M_isDigit (d + 0) (v78) r80.1) (fun _ _ => rfl) (fun r83 h84 => ?_)
      refine ok_br (P := ¬ r83.2 = 0) (off := 29) (t := 160) (by decide +kernel : decode m_M_next.2.1 131 = .ok ((.ifCond .ne 29), 3)) rfl rfl rfl rfl (fun c85 => ?_) (fun c85 => ?_)
      · skip
        exact o_M_next_p160 x0 v78 y2 y3 y4 r83.1
      · skip
        refine ok_seg (L := [((.aload_n 0), 1), ((.iload_n 1), 1), ((.bipush 59), 2)]) (pc' := 138) (ls' := [some (.ref x0), some (.int v78), y2, y3, y4]) (st' := [.int 59, .int v78, .ref x0]) (w' := r83.1) (by decide +kernel) rfl ?_
        refine ok_br (P := ¬ v78 = 59) (off := 7) (t := 145) (by decide +kernel : decode m_M_next.2.1 138 = .ok ((.if_icmp .ne 7), 3)) rfl rfl rfl rfl (fun c86 => ?_) (fun c86 => ?_)
        · skip
          refine ok_seg (L := [((.iconst 1), 1)]) (pc' := 146) (ls' := [some (.ref x0), some (.int v78), y2, y3, y4]) (st' := [.int 1, .ref x0]) (w' := r83.1) (by decide +kernel) rfl ?_
          exact o_M_next_p146 x0 x0 1 (some (.int v78)) y2 y3 y4 r83.1
        · skip
          refine ok_seg (L := [((.iconst 4), 1)]) (pc' := 142) (ls' := [some (.ref x0), some (.int v78), y2, y3, y4]) (st' := [.int 4, .ref x0]) (w' := r83.1) (by decide +kernel) rfl ?_
          refine ok_goto (t := 146) (by decide +kernel : decode m_M_next.2.1 142 = .ok ((.goto 4), 3)) rfl ?_
          exact o_M_next_p146 x0 x0 4 (some (.int v78)) y2 y3 y4 r83.1
  · skip
    refine ok_seg (L := [((.aload_n 0), 1), ((.iconst 0), 1)]) (pc' := 106) (ls' := [some (.ref x0), y1, y2, y3, y4]) (st' := [.int 0, .ref x0]) (w' := w) (by decide +kernel) rfl ?_
    refine ok_pi (by decide +kernel : decode m_M_next.2.1 106 = .ok ((.putfield 27), 3)) rfl (fun w87 h88 => ?_)
    exact ok_ret (v := ()) (by decide +kernel : decode m_M_next.2.1 109 = .ok (.return_, 1)) rfl
theorem o_M_next_p52 {d : Nat} (x0 : Nat) (y1 y2 y3 y4 : Option Value) (w : am_W) : am_Ok am_jv (d + 1) m_M_next 52 [some (.ref x0), y1, y2, y3, y4] [] w (f_M_next_p52 x0 w) := by
  unfold f_M_next_p52
  refine ok_seg (L := [((.aload_n 0), 1), ((.aload_n 0), 1)]) (pc' := 54) (ls' := [some (.ref x0), y1, y2, y3, y4]) (st' := [.ref x0, .ref x0]) (w' := w) (by decide +kernel) rfl ?_
  refine ok_gi (by decide +kernel : decode m_M_next.2.1 54 = .ok ((.getfield 21), 3)) rfl (fun v89 h90 => ?_)
  refine ok_pi (by decide +kernel : decode m_M_next.2.1 57 = .ok ((.putfield 24), 3)) rfl (fun w91 h92 => ?_)
  refine ok_seg (L := [((.aload_n 0), 1)]) (pc' := 61) (ls' := [some (.ref x0), y1, y2, y3, y4]) (st' := [.ref x0]) (w' := w91) (by decide +kernel) rfl ?_
  refine ok_gi (by decide +kernel : decode m_M_next.2.1 61 = .ok ((.getfield 18), 3)) rfl (fun v93 h94 => ?_)
  refine ok_seg (L := [((.sipush 400), 3)]) (pc' := 67) (ls' := [some (.ref x0), y1, y2, y3, y4]) (st' := [.int 400, .int v93]) (w' := w91) (by decide +kernel) rfl ?_
  refine ok_br (P := v93 ≤ 400) (off := 26) (t := 93) (by decide +kernel : decode m_M_next.2.1 67 = .ok ((.if_icmp .le 26), 3)) rfl rfl rfl rfl (fun c95 => ?_) (fun c95 => ?_)
  · skip
    exact o_M_next_p93 x0 y1 y2 y3 y4 w91
  · skip
    refine ok_seg (L := [((.aload_n 0), 1)]) (pc' := 71) (ls' := [some (.ref x0), y1, y2, y3, y4]) (st' := [.ref x0]) (w' := w91) (by decide +kernel) rfl ?_
    refine ok_gi (by decide +kernel : decode m_M_next.2.1 71 = .ok ((.getfield 24), 3)) rfl (fun v96 h97 => ?_)
    refine ok_seg (L := [((.sipush 400), 3)]) (pc' := 77) (ls' := [some (.ref x0), y1, y2, y3, y4]) (st' := [.int 400, .int v96]) (w' := w91) (by decide +kernel) rfl ?_
    refine ok_br (P := v96 < 400) (off := 16) (t := 93) (by decide +kernel : decode m_M_next.2.1 77 = .ok ((.if_icmp .lt 16), 3)) rfl rfl rfl rfl (fun c98 => ?_) (fun c98 => ?_)
    · skip
      exact o_M_next_p93 x0 y1 y2 y3 y4 w91
    · skip
      refine ok_seg (L := [((.aload_n 0), 1), ((.sipush 400), 3)]) (pc' := 84) (ls' := [some (.ref x0), y1, y2, y3, y4]) (st' := [.int 400, .ref x0]) (w' := w91) (by decide +kernel) rfl ?_
      refine ok_pi (by decide +kernel : decode m_M_next.2.1 84 = .ok ((.putfield 24), 3)) rfl (fun w99 h100 => ?_)
      refine ok_seg (L := [((.aload_n 0), 1), ((.iconst 1), 1)]) (pc' := 89) (ls' := [some (.ref x0), y1, y2, y3, y4]) (st' := [.int 1, .ref x0]) (w' := w99) (by decide +kernel) rfl ?_
      refine ok_pi (by decide +kernel : decode m_M_next.2.1 89 = .ok ((.putfield 27), 3)) rfl (fun w101 h102 => ?_)
      exact ok_ret (v := ()) (by decide +kernel : decode m_M_next.2.1 92 = .ok (.return_, 1)) rfl
theorem o_M_next_p39 {d : Nat} {k0 : Nat → am_W → Option (am_W × Unit)} (hk0 : ∀ (x0 : Nat) (y1 y2 y3 y4 : Option Value) (w : am_W), am_Ok am_jv (d + 1) m_M_next 0 [some (.ref x0), y1, y2, y3, y4] [] w (k0 x0 w)) (x0 : Nat) (y1 y2 y3 y4 : Option Value) (w : am_W) : am_Ok am_jv (d + 1) m_M_next 39 [some (.ref x0), y1, y2, y3, y4] [] w (f_M_next_p39 k0 x0 w) := by
  unfold f_M_next_p39
  refine ok_seg (L := [((.aload_n 0), 1), (.dup, 1)]) (pc' := 41) (ls' := [some (.ref x0), y1, y2, y3, y4]) (st' := [.ref x0, .ref x0]) (w' := w) (by decide +kernel) rfl ?_
  refine ok_gi (by decide +kernel : decode m_M_next.2.1 41 = .ok ((.getfield 21), 3)) rfl (fun v103 h104 => ?_)
  refine ok_seg (L := [((.iconst 1), 1), (.iadd, 1)]) (pc' := 46) (ls' := [some (.ref x0), y1, y2, y3, y4]) (st' := [.int (v103 + 1), .ref x0]) (w' := w) (by decide +kernel) rfl ?_
  refine ok_pi (by decide +kernel : decode m_M_next.2.1 46 = .ok ((.putfield 21), 3)) rfl (fun w105 h106 => ?_)
  refine ok_goto (t := 0) (by decide +kernel : decode m_M_next.2.1 49 = .ok ((.goto (-49)), 3)) rfl ?_
  exact hk0 x0 y1 y2 y3 y4 w105
theorem o_M_next_p0 {d : Nat} : ∀ (n : Nat) (x0 : Nat) (y1 y2 y3 y4 : Option Value) (w : am_W), am_Ok am_jv (d + 1) m_M_next 0 [some (.ref x0), y1, y2, y3, y4] [] w (f_M_next_p0 n x0 w) := by
  intro n
  induction n with
  | zero => intros; exact ok_none
  | succ n ih =>
    intro x0 y1 y2 y3 y4 w
    unfold f_M_next_p0
    refine ok_seg (L := [((.aload_n 0), 1)]) (pc' := 1) (ls' := [some (.ref x0), y1, y2, y3, y4]) (st' := [.ref x0]) (w' := w) (by decide +kernel) rfl ?_
    refine ok_gi (by decide +kernel : decode m_M_next.2.1 1 = .ok ((.getfield 21), 3)) rfl (fun v107 h108 => ?_)
    refine ok_seg (L := [((.aload_n 0), 1)]) (pc' := 5) (ls' := [some (.ref x0), y1, y2, y3, y4]) (st' := [.ref x0, .int v107]) (w' := w) (by decide +kernel) rfl ?_
    refine ok_gi (by decide +kernel : decode m_M_next.2.1 5 = .ok ((.getfield 18), 3)) rfl (fun v109 h110 => ?_)
    refine ok_br (P := v109 ≤ v107) (off := 44) (t := 52) (by decide +kernel : decode m_M_next.2.1 8 = .ok ((.if_icmp .ge 44), 3)) rfl rfl rfl rfl (fun c111 => ?_) (fun c111 => ?_)
    · skip
      exact o_M_next_p52 x0 y1 y2 y3 y4 w
    · skip
      refine ok_seg (L := [((.aload_n 0), 1)]) (pc' := 12) (ls' := [some (.ref x0), y1, y2, y3, y4]) (st' := [.ref x0]) (w' := w) (by decide +kernel) rfl ?_
      refine ok_gr (by decide +kernel : decode m_M_next.2.1 12 = .ok ((.getfield 7), 3)) rfl (by decide) (fun v112 h113 => ?_)
      refine ok_seg (L := [((.aload_n 0), 1)]) (pc' := 16) (ls' := [some (.ref x0), y1, y2, y3, y4]) (st' := [.ref x0, .ref v112]) (w' := w) (by decide +kernel) rfl ?_
      refine ok_gi (by decide +kernel : decode m_M_next.2.1 16 = .ok ((.getfield 21), 3)) rfl (fun v114 h115 => ?_)
      refine ok_ai (by decide +kernel : decode m_M_next.2.1 19 = .ok (.iaload, 1)) (fun v116 h117 => ?_)
      refine ok_seg (L := [((.bipush 32), 2)]) (pc' := 22) (ls' := [some (.ref x0), y1, y2, y3, y4]) (st' := [.int 32, .int v116]) (w' := w) (by decide +kernel) rfl ?_
      refine ok_br (P := v116 = 32) (off := 17) (t := 39) (by decide +kernel : decode m_M_next.2.1 22 = .ok ((.if_icmp .eq 17), 3)) rfl rfl rfl rfl (fun c118 => ?_) (fun c118 => ?_)
      · skip
        exact o_M_next_p39 ih x0 y1 y2 y3 y4 w
      · skip
        refine ok_seg (L := [((.aload_n 0), 1)]) (pc' := 26) (ls' := [some (.ref x0), y1, y2, y3, y4]) (st' := [.ref x0]) (w' := w) (by decide +kernel) rfl ?_
        refine ok_gr (by decide +kernel : decode m_M_next.2.1 26 = .ok ((.getfield 7), 3)) rfl (by decide) (fun v119 h120 => ?_)
        refine ok_seg (L := [((.aload_n 0), 1)]) (pc' := 30) (ls' := [some (.ref x0), y1, y2, y3, y4]) (st' := [.ref x0, .ref v119]) (w' := w) (by decide +kernel) rfl ?_
        refine ok_gi (by decide +kernel : decode m_M_next.2.1 30 = .ok ((.getfield 21), 3)) rfl (fun v121 h122 => ?_)
        refine ok_ai (by decide +kernel : decode m_M_next.2.1 33 = .ok (.iaload, 1)) (fun v123 h124 => ?_)
        refine ok_seg (L := [((.bipush 10), 2)]) (pc' := 36) (ls' := [some (.ref x0), y1, y2, y3, y4]) (st' := [.int 10, .int v123]) (w' := w) (by decide +kernel) rfl ?_
        refine ok_br (P := ¬ v123 = 10) (off := 16) (t := 52) (by decide +kernel : decode m_M_next.2.1 36 = .ok ((.if_icmp .ne 16), 3)) rfl rfl rfl rfl (fun c125 => ?_) (fun c125 => ?_)
        · skip
          exact o_M_next_p52 x0 y1 y2 y3 y4 w
        · skip
          exact o_M_next_p39 ih x0 y1 y2 y3 y4 w
theorem o_M_next (d : Nat) (x0 : Nat) (w : am_W) : am_Ok am_jv (d + 1) m_M_next 0 (am_en m_M_next [.ref x0]) [] w (f_M_next x0 w) := by
  show am_Ok _ _ _ 0 [some (.ref x0), none, none, none, none] [] w _
  unfold f_M_next
  refine ok_self ?_
  unfold e_M_next
  exact o_M_next_p0 am_N x0 none none none none w
-- m_M_bad
def f_M_bad_p14 (x0 : Nat) (s0 : Nat) (s1 : Int32) (w : am_W) : Option (am_W × Int32) := ((am_pv w s0 7 8 (.int s1)).bind fun w1 => ((am_gi w1 x0 7 5).bind fun v3 => ((am_pv w1 x0 7 9 (.int v3)).bind fun w5 => (some (w5, 0)))))
def e_M_bad (x0 : Nat) (x1 : Int32) (w : am_W) : Option (am_W × Int32) := ((am_gi w x0 7 6).bind fun v7 => (if ¬ v7 = 1 then (f_M_bad_p14 x0 x0 x1 w) else (f_M_bad_p14 x0 x0 1 w)))
def f_M_bad (x0 : Nat) (x1 : Int32) (w : am_W) : Option (am_W × Int32) := am_self w x0 7 (e_M_bad x0 x1 w)
theorem o_M_bad_p14 {d : Nat} (x0 : Nat) (s0 : Nat) (s1 : Int32) (y1 : Option Value) (w : am_W) : am_Ok am_ji (d + 0) m_M_bad 14 [some (.ref x0), y1] [.int s1, .ref s0] w (f_M_bad_p14 x0 s0 s1 w) := by
  unfold f_M_bad_p14
  refine ok_pi (by decide +kernel : decode m_M_bad.2.1 14 = .ok ((.putfield 52), 3)) rfl (fun w1 h2 => ?_)
  refine ok_seg (L := [((.aload_n 0), 1), ((.aload_n 0), 1)]) (pc' := 19) (ls' := [some (.ref x0), y1]) (st' := [.ref x0, .ref x0]) (w' := w1) (by decide +kernel) rfl ?_
  refine ok_gi (by decide +kernel : decode m_M_bad.2.1 19 = .ok ((.getfield 24), 3)) rfl (fun v3 h4 => ?_)
  refine ok_pi (by decide +kernel : decode m_M_bad.2.1 22 = .ok ((.putfield 55), 3)) rfl (fun w5 h6 => ?_)
  refine ok_seg (L := [((.iconst 0), 1)]) (pc' := 26) (ls' := [some (.ref x0), y1]) (st' := [.int 0]) (w' := w5) (by decide +kernel) rfl ?_
  exact ok_ret (v := 0) (by decide +kernel : decode m_M_bad.2.1 26 = .ok (.ireturn, 1)) rfl
theorem o_M_bad (d : Nat) (x0 : Nat) (x1 : Int32) (w : am_W) : am_Ok am_ji (d + 0) m_M_bad 0 (am_en m_M_bad [.ref x0, .int x1]) [] w (f_M_bad x0 x1 w) := by
  show am_Ok _ _ _ 0 [some (.ref x0), some (.int x1)] [] w _
  unfold f_M_bad
  refine ok_self ?_
  unfold e_M_bad
  refine ok_seg (L := [((.aload_n 0), 1), ((.aload_n 0), 1)]) (pc' := 2) (ls' := [some (.ref x0), some (.int x1)]) (st' := [.ref x0, .ref x0]) (w' := w) (by decide +kernel) rfl ?_
  refine ok_gi (by decide +kernel : decode m_M_bad.2.1 2 = .ok ((.getfield 27), 3)) rfl (fun v7 h8 => ?_)
  refine ok_seg (L := [((.iconst 1), 1)]) (pc' := 6) (ls' := [some (.ref x0), some (.int x1)]) (st' := [.int 1, .int v7, .ref x0]) (w' := w) (by decide +kernel) rfl ?_
  refine ok_br (P := ¬ v7 = 1) (off := 7) (t := 13) (by decide +kernel : decode m_M_bad.2.1 6 = .ok ((.if_icmp .ne 7), 3)) rfl rfl rfl rfl (fun c9 => ?_) (fun c9 => ?_)
  · skip
    refine ok_seg (L := [((.iload_n 1), 1)]) (pc' := 14) (ls' := [some (.ref x0), some (.int x1)]) (st' := [.int x1, .ref x0]) (w' := w) (by decide +kernel) rfl ?_
    exact o_M_bad_p14 x0 x0 x1 (some (.int x1)) w
  · skip
    refine ok_seg (L := [((.iconst 1), 1)]) (pc' := 10) (ls' := [some (.ref x0), some (.int x1)]) (st' := [.int 1, .ref x0]) (w' := w) (by decide +kernel) rfl ?_
    refine ok_goto (t := 14) (by decide +kernel : decode m_M_bad.2.1 10 = .ok ((.goto 4), 3)) rfl ?_
    exact o_M_bad_p14 x0 x0 1 (some (.int x1)) w
-- m_M_readEnd
def e_M_readEnd (x0 : Nat) (w : am_W) : Option (am_W × Int32) := ((am_gi w x0 7 6).bind fun v1 => (if v1 = 4 then ((f_M_next (x0) w).bind fun r4 => (some (r4.1, 1))) else ((f_M_bad (x0) (1) w).bind fun r6 => (am_rb r6.1 r6.2))))
def f_M_readEnd (x0 : Nat) (w : am_W) : Option (am_W × Int32) := am_self w x0 7 (e_M_readEnd x0 w)
theorem o_M_readEnd (d : Nat) (x0 : Nat) (w : am_W) : am_Ok am_ji (d + 2) m_M_readEnd 0 (am_en m_M_readEnd [.ref x0]) [] w (f_M_readEnd x0 w) := by
  show am_Ok _ _ _ 0 [some (.ref x0)] [] w _
  unfold f_M_readEnd
  refine ok_self ?_
  unfold e_M_readEnd
  refine ok_seg (L := [((.aload_n 0), 1)]) (pc' := 1) (ls' := [some (.ref x0)]) (st' := [.ref x0]) (w' := w) (by decide +kernel) rfl ?_
  refine ok_gi (by decide +kernel : decode m_M_readEnd.2.1 1 = .ok ((.getfield 27), 3)) rfl (fun v1 h2 => ?_)
  refine ok_seg (L := [((.iconst 4), 1)]) (pc' := 5) (ls' := [some (.ref x0)]) (st' := [.int 4, .int v1]) (w' := w) (by decide +kernel) rfl ?_
  refine ok_br (P := v1 = 4) (off := 9) (t := 14) (by decide +kernel : decode m_M_readEnd.2.1 5 = .ok ((.if_icmp .eq 9), 3)) rfl rfl rfl rfl (fun c3 => ?_) (fun c3 => ?_)
  · skip
    refine ok_seg (L := [((.aload_n 0), 1)]) (pc' := 15) (ls' := [some (.ref x0)]) (st' := [.ref x0]) (w' := w) (by decide +kernel) rfl ?_
    refine ok_call0 (inj' := am_jv) (by decide +kernel : decode m_M_readEnd.2.1 15 = .ok ((.invokevirtual 125), 3)) rfl (fun q hq => am_iv0 (am_self_eq hq).1 rfl rfl rfl) (o_M_next (d + 0) (x0) w) (fun _ _ => rfl) (fun r4 h5 => ?_)
    refine ok_seg (L := [((.iconst 1), 1)]) (pc' := 19) (ls' := [some (.ref x0)]) (st' := [.int 1]) (w' := r4.1) (by decide +kernel) rfl ?_
    exact ok_ret (v := 1) (by decide +kernel : decode m_M_readEnd.2.1 19 = .ok (.ireturn, 1)) rfl
  · skip
    refine ok_seg (L := [((.aload_n 0), 1), ((.iconst 1), 1)]) (pc' := 10) (ls' := [some (.ref x0)]) (st' := [.int 1, .ref x0]) (w' := w) (by decide +kernel) rfl ?_
    refine ok_call0 (inj' := am_ji) (by decide +kernel : decode m_M_readEnd.2.1 10 = .ok ((.invokevirtual 118), 3)) rfl (fun q hq => am_iv0 (am_self_eq hq).1 rfl rfl rfl) (o_M_bad (d + 1) (x0) (1) w) (fun _ _ => rfl) (fun r6 h7 => ?_)
    exact ok_retb (len := 1) (by decide +kernel : decode m_M_readEnd.2.1 13 = .ok (.ireturn, 1)) rfl
-- m_M_isWord
def f_M_isWord_p22 (s0 : Int32) (w : am_W) : Option (am_W × Int32) := (am_rb w s0)
def f_M_isWord_p21 (w : am_W) : Option (am_W × Int32) := (f_M_isWord_p22 0 w)
def e_M_isWord (x0 : Nat) (x1 : Int64) (w : am_W) : Option (am_W × Int32) := ((am_gi w x0 7 6).bind fun v1 => (if ¬ v1 = 2 then (f_M_isWord_p21 w) else ((am_gl w x0 7 10).bind fun v4 => (if ¬ (lg_cmp v4 x1) = 0 then (f_M_isWord_p21 w) else (f_M_isWord_p22 1 w)))))
def f_M_isWord (x0 : Nat) (x1 : Int64) (w : am_W) : Option (am_W × Int32) := am_self w x0 7 (e_M_isWord x0 x1 w)
theorem o_M_isWord_p22 {d : Nat} (s0 : Int32) (y0 y1 y2 : Option Value) (w : am_W) : am_Ok am_ji (d + 0) m_M_isWord 22 [y0, y1, y2] [.int s0] w (f_M_isWord_p22 s0 w) := by
  unfold f_M_isWord_p22
  exact ok_retb (len := 1) (by decide +kernel : decode m_M_isWord.2.1 22 = .ok (.ireturn, 1)) rfl
theorem o_M_isWord_p21 {d : Nat} (y0 y1 y2 : Option Value) (w : am_W) : am_Ok am_ji (d + 0) m_M_isWord 21 [y0, y1, y2] [] w (f_M_isWord_p21 w) := by
  unfold f_M_isWord_p21
  refine ok_seg (L := [((.iconst 0), 1)]) (pc' := 22) (ls' := [y0, y1, y2]) (st' := [.int 0]) (w' := w) (by decide +kernel) rfl ?_
  exact o_M_isWord_p22 0 y0 y1 y2 w
theorem o_M_isWord (d : Nat) (x0 : Nat) (x1 : Int64) (w : am_W) : am_Ok am_ji (d + 0) m_M_isWord 0 (am_en m_M_isWord [.ref x0, .long x1]) [] w (f_M_isWord x0 x1 w) := by
  show am_Ok _ _ _ 0 [some (.ref x0), some (.long x1), none] [] w _
  unfold f_M_isWord
  refine ok_self ?_
  unfold e_M_isWord
  refine ok_seg (L := [((.aload_n 0), 1)]) (pc' := 1) (ls' := [some (.ref x0), some (.long x1), none]) (st' := [.ref x0]) (w' := w) (by decide +kernel) rfl ?_
  refine ok_gi (by decide +kernel : decode m_M_isWord.2.1 1 = .ok ((.getfield 27), 3)) rfl (fun v1 h2 => ?_)
  refine ok_seg (L := [((.iconst 2), 1)]) (pc' := 5) (ls' := [some (.ref x0), some (.long x1), none]) (st' := [.int 2, .int v1]) (w' := w) (by decide +kernel) rfl ?_
  refine ok_br (P := ¬ v1 = 2) (off := 16) (t := 21) (by decide +kernel : decode m_M_isWord.2.1 5 = .ok ((.if_icmp .ne 16), 3)) rfl rfl rfl rfl (fun c3 => ?_) (fun c3 => ?_)
  · skip
    exact o_M_isWord_p21 (some (.ref x0)) (some (.long x1)) none w
  · skip
    refine ok_seg (L := [((.aload_n 0), 1)]) (pc' := 9) (ls' := [some (.ref x0), some (.long x1), none]) (st' := [.ref x0]) (w' := w) (by decide +kernel) rfl ?_
    refine ok_gl (by decide +kernel : decode m_M_isWord.2.1 9 = .ok ((.getfield 37), 3)) rfl (fun v4 h5 => ?_)
    refine ok_seg (L := [((.lload_n 1), 1), (.lcmp, 1)]) (pc' := 14) (ls' := [some (.ref x0), some (.long x1), none]) (st' := [.int (lg_cmp v4 x1)]) (w' := w) (by decide +kernel) rfl ?_
    refine ok_br (P := ¬ (lg_cmp v4 x1) = 0) (off := 7) (t := 21) (by decide +kernel : decode m_M_isWord.2.1 14 = .ok ((.ifCond .ne 7), 3)) rfl rfl rfl rfl (fun c6 => ?_) (fun c6 => ?_)
    · skip
      exact o_M_isWord_p21 (some (.ref x0)) (some (.long x1)) none w
    · skip
      refine ok_seg (L := [((.iconst 1), 1)]) (pc' := 18) (ls' := [some (.ref x0), some (.long x1), none]) (st' := [.int 1]) (w' := w) (by decide +kernel) rfl ?_
      refine ok_goto (t := 22) (by decide +kernel : decode m_M_isWord.2.1 18 = .ok ((.goto 4), 3)) rfl ?_
      exact o_M_isWord_p22 1 (some (.ref x0)) (some (.long x1)) none w
-- m_M_isIn
def f_M_isIn_p15 (s0 : Int32) (w : am_W) : Option (am_W × Int32) := (am_rb w s0)
def f_M_isIn_p14 (w : am_W) : Option (am_W × Int32) := (f_M_isIn_p15 0 w)
def e_M_isIn (x0 : Int32) (x1 : Int32) (x2 : Int32) (w : am_W) : Option (am_W × Int32) := (if x0 < x1 then (f_M_isIn_p14 w) else (if x2 < x0 then (f_M_isIn_p14 w) else (f_M_isIn_p15 1 w)))
def f_M_isIn (x0 : Int32) (x1 : Int32) (x2 : Int32) (w : am_W) : Option (am_W × Int32) := e_M_isIn x0 x1 x2 w
theorem o_M_isIn_p15 {d : Nat} (s0 : Int32) (y0 y1 y2 : Option Value) (w : am_W) : am_Ok am_ji (d + 0) m_M_isIn 15 [y0, y1, y2] [.int s0] w (f_M_isIn_p15 s0 w) := by
  unfold f_M_isIn_p15
  exact ok_retb (len := 1) (by decide +kernel : decode m_M_isIn.2.1 15 = .ok (.ireturn, 1)) rfl
theorem o_M_isIn_p14 {d : Nat} (y0 y1 y2 : Option Value) (w : am_W) : am_Ok am_ji (d + 0) m_M_isIn 14 [y0, y1, y2] [] w (f_M_isIn_p14 w) := by
  unfold f_M_isIn_p14
  refine ok_seg (L := [((.iconst 0), 1)]) (pc' := 15) (ls' := [y0, y1, y2]) (st' := [.int 0]) (w' := w) (by decide +kernel) rfl ?_
  exact o_M_isIn_p15 0 y0 y1 y2 w
theorem o_M_isIn (d : Nat) (x0 : Int32) (x1 : Int32) (x2 : Int32) (w : am_W) : am_Ok am_ji (d + 0) m_M_isIn 0 (am_en m_M_isIn [.int x0, .int x1, .int x2]) [] w (f_M_isIn x0 x1 x2 w) := by
  show am_Ok _ _ _ 0 [some (.int x0), some (.int x1), some (.int x2)] [] w _
  unfold f_M_isIn
  unfold e_M_isIn
  refine ok_seg (L := [((.iload_n 0), 1), ((.iload_n 1), 1)]) (pc' := 2) (ls' := [some (.int x0), some (.int x1), some (.int x2)]) (st' := [.int x1, .int x0]) (w' := w) (by decide +kernel) rfl ?_
  refine ok_br (P := x0 < x1) (off := 12) (t := 14) (by decide +kernel : decode m_M_isIn.2.1 2 = .ok ((.if_icmp .lt 12), 3)) rfl rfl rfl rfl (fun c1 => ?_) (fun c1 => ?_)
  · skip
    exact o_M_isIn_p14 (some (.int x0)) (some (.int x1)) (some (.int x2)) w
  · skip
    refine ok_seg (L := [((.iload_n 0), 1), ((.iload_n 2), 1)]) (pc' := 7) (ls' := [some (.int x0), some (.int x1), some (.int x2)]) (st' := [.int x2, .int x0]) (w' := w) (by decide +kernel) rfl ?_
    refine ok_br (P := x2 < x0) (off := 7) (t := 14) (by decide +kernel : decode m_M_isIn.2.1 7 = .ok ((.if_icmp .gt 7), 3)) rfl rfl rfl rfl (fun c2 => ?_) (fun c2 => ?_)
    · skip
      exact o_M_isIn_p14 (some (.int x0)) (some (.int x1)) (some (.int x2)) w
    · skip
      refine ok_seg (L := [((.iconst 1), 1)]) (pc' := 11) (ls' := [some (.int x0), some (.int x1), some (.int x2)]) (st' := [.int 1]) (w' := w) (by decide +kernel) rfl ?_
      refine ok_goto (t := 15) (by decide +kernel : decode m_M_isIn.2.1 11 = .ok ((.goto 4), 3)) rfl ?_
      exact o_M_isIn_p15 1 (some (.int x0)) (some (.int x1)) (some (.int x2)) w
-- m_M_told
def e_M_told (x0 : Nat) (x1 : Int32) (x2 : Int32) (w : am_W) : Option (am_W × Int32) := ((am_gi w x0 7 6).bind fun v1 => (if v1 = 3 then ((am_gi w x0 7 7).bind fun v4 => ((f_M_isIn (v4) (x1) (x2) w).bind fun r6 => (if ¬ r6.2 = 0 then ((am_gi r6.1 x0 7 7).bind fun v9 => ((f_M_next (x0) r6.1).bind fun r11 => (some (r11.1, v9)))) else ((f_M_bad (x0) (2) r6.1).bind fun r13 => (some (r13.1, (-1))))))) else ((f_M_bad (x0) (1) w).bind fun r15 => (some (r15.1, (-1))))))
def f_M_told (x0 : Nat) (x1 : Int32) (x2 : Int32) (w : am_W) : Option (am_W × Int32) := am_self w x0 7 (e_M_told x0 x1 x2 w)
theorem o_M_told (d : Nat) (x0 : Nat) (x1 : Int32) (x2 : Int32) (w : am_W) : am_Ok am_ji (d + 2) m_M_told 0 (am_en m_M_told [.ref x0, .int x1, .int x2]) [] w (f_M_told x0 x1 x2 w) := by
  show am_Ok _ _ _ 0 [some (.ref x0), some (.int x1), some (.int x2), none] [] w _
  unfold f_M_told
  refine ok_self ?_
  unfold e_M_told
  refine ok_seg (L := [((.aload_n 0), 1)]) (pc' := 1) (ls' := [some (.ref x0), some (.int x1), some (.int x2), none]) (st' := [.ref x0]) (w' := w) (by decide +kernel) rfl ?_
  refine ok_gi (by decide +kernel : decode m_M_told.2.1 1 = .ok ((.getfield 27), 3)) rfl (fun v1 h2 => ?_)
  refine ok_seg (L := [((.iconst 3), 1)]) (pc' := 5) (ls' := [some (.ref x0), some (.int x1), some (.int x2), none]) (st' := [.int 3, .int v1]) (w' := w) (by decide +kernel) rfl ?_
  refine ok_br (P := v1 = 3) (off := 11) (t := 16) (by decide +kernel : decode m_M_told.2.1 5 = .ok ((.if_icmp .eq 11), 3)) rfl rfl rfl rfl (fun c3 => ?_) (fun c3 => ?_)
  · skip
    refine ok_seg (L := [((.aload_n 0), 1)]) (pc' := 17) (ls' := [some (.ref x0), some (.int x1), some (.int x2), none]) (st' := [.ref x0]) (w' := w) (by decide +kernel) rfl ?_
    refine ok_gi (by decide +kernel : decode m_M_told.2.1 17 = .ok ((.getfield 41), 3)) rfl (fun v4 h5 => ?_)
    refine ok_seg (L := [((.iload_n 1), 1), ((.iload_n 2), 1)]) (pc' := 22) (ls' := [some (.ref x0), some (.int x1), some (.int x2), none]) (st' := [.int x2, .int x1, .int v4]) (w' := w) (by decide +kernel) rfl ?_
    refine ok_call0 (inj' := am_ji) (by decide +kernel : decode m_M_told.2.1 22 = .ok ((.invokestatic 121), 3)) rfl (fun _ _ => rfl) (o_M_isIn (d + 1) (v4) (x1) (x2) w) (fun _ _ => rfl) (fun r6 h7 => ?_)
    refine ok_br (P := ¬ r6.2 = 0) (off := 11) (t := 36) (by decide +kernel : decode m_M_told.2.1 25 = .ok ((.ifCond .ne 11), 3)) rfl rfl rfl rfl (fun c8 => ?_) (fun c8 => ?_)
    · skip
      refine ok_seg (L := [((.aload_n 0), 1)]) (pc' := 37) (ls' := [some (.ref x0), some (.int x1), some (.int x2), none]) (st' := [.ref x0]) (w' := r6.1) (by decide +kernel) rfl ?_
      refine ok_gi (by decide +kernel : decode m_M_told.2.1 37 = .ok ((.getfield 41), 3)) rfl (fun v9 h10 => ?_)
      refine ok_seg (L := [((.istore_n 3), 1), ((.aload_n 0), 1)]) (pc' := 42) (ls' := [some (.ref x0), some (.int x1), some (.int x2), some (.int v9)]) (st' := [.ref x0]) (w' := r6.1) (by decide +kernel) rfl ?_
      refine ok_call0 (inj' := am_jv) (by decide +kernel : decode m_M_told.2.1 42 = .ok ((.invokevirtual 125), 3)) rfl (fun q hq => am_iv0 (am_self_eq hq).1 rfl rfl rfl) (o_M_next (d + 0) (x0) r6.1) (fun _ _ => rfl) (fun r11 h12 => ?_)
      refine ok_seg (L := [((.iload_n 3), 1)]) (pc' := 46) (ls' := [some (.ref x0), some (.int x1), some (.int x2), some (.int v9)]) (st' := [.int v9]) (w' := r11.1) (by decide +kernel) rfl ?_
      exact ok_ret (v := v9) (by decide +kernel : decode m_M_told.2.1 46 = .ok (.ireturn, 1)) rfl
    · skip
      refine ok_seg (L := [((.aload_n 0), 1), ((.iconst 2), 1)]) (pc' := 30) (ls' := [some (.ref x0), some (.int x1), some (.int x2), none]) (st' := [.int 2, .ref x0]) (w' := r6.1) (by decide +kernel) rfl ?_
      refine ok_call0 (inj' := am_ji) (by decide +kernel : decode m_M_told.2.1 30 = .ok ((.invokevirtual 118), 3)) rfl (fun q hq => am_iv0 (am_self_eq hq).1 rfl rfl rfl) (o_M_bad (d + 1) (x0) (2) r6.1) (fun _ _ => rfl) (fun r13 h14 => ?_)
      refine ok_seg (L := [(.pop, 1), ((.iconst (-1)), 1)]) (pc' := 35) (ls' := [some (.ref x0), some (.int x1), some (.int x2), none]) (st' := [.int (-1)]) (w' := r13.1) (by decide +kernel) rfl ?_
      exact ok_ret (v := (-1)) (by decide +kernel : decode m_M_told.2.1 35 = .ok (.ireturn, 1)) rfl
  · skip
    refine ok_seg (L := [((.aload_n 0), 1), ((.iconst 1), 1)]) (pc' := 10) (ls' := [some (.ref x0), some (.int x1), some (.int x2), none]) (st' := [.int 1, .ref x0]) (w' := w) (by decide +kernel) rfl ?_
    refine ok_call0 (inj' := am_ji) (by decide +kernel : decode m_M_told.2.1 10 = .ok ((.invokevirtual 118), 3)) rfl (fun q hq => am_iv0 (am_self_eq hq).1 rfl rfl rfl) (o_M_bad (d + 1) (x0) (1) w) (fun _ _ => rfl) (fun r15 h16 => ?_)
    refine ok_seg (L := [(.pop, 1), ((.iconst (-1)), 1)]) (pc' := 15) (ls' := [some (.ref x0), some (.int x1), some (.int x2), none]) (st' := [.int (-1)]) (w' := r15.1) (by decide +kernel) rfl ?_
    exact ok_ret (v := (-1)) (by decide +kernel : decode m_M_told.2.1 15 = .ok (.ireturn, 1)) rfl
-- m_M_readCells
def f_M_readCells_p25 : Nat → Nat → Int32 → am_W → Option (am_W × Int32)
  | 0, _, _, _ => none
  | n + 1, x0, x1, w => ((am_gr w x0 7 12).bind fun v1 => ((am_ai w v1 1).bind fun v3 => (if v3 ≤ x1 then ((am_gi w x0 7 20).bind fun v6 => ((am_pv w x0 7 20 (.int (v6 + 1))).bind fun w8 => (some (w8, 1)))) else ((am_gr w x0 7 12).bind fun v10 => ((am_ai w v10 2).bind fun v12 => ((f_M_told (x0) (0) (v12) w).bind fun r14 => (if ¬ r14.2 = (-1) then ((am_gr r14.1 x0 7 12).bind fun v17 => ((am_gr r14.1 x0 7 12).bind fun v19 => ((am_ai r14.1 v19 1).bind fun v21 => ((am_gi r14.1 x0 7 20).bind fun v23 => ((am_si r14.1 v17 ((3 + (v21 * v23)) + x1) r14.2).bind fun w25 => (f_M_readCells_p25 n x0 (x1 + 1) w25)))))) else (some (r14.1, 0)))))))))
def e_M_readCells (x0 : Nat) (w : am_W) : Option (am_W × Int32) := ((am_gi w x0 7 20).bind fun v27 => ((am_gr w x0 7 12).bind fun v29 => ((am_ai w v29 0).bind fun v31 => (if ¬ v27 = v31 then ((f_M_next (x0) w).bind fun r34 => (f_M_readCells_p25 am_N x0 0 r34.1)) else ((f_M_bad (x0) (3) w).bind fun r36 => (am_rb r36.1 r36.2))))))
def f_M_readCells (x0 : Nat) (w : am_W) : Option (am_W × Int32) := am_self w x0 7 (e_M_readCells x0 w)
theorem o_M_readCells_p25 {d : Nat} : ∀ (n : Nat) (x0 : Nat) (x1 : Int32) (y2 : Option Value) (w : am_W), am_Ok am_ji (d + 3) m_M_readCells 25 [some (.ref x0), some (.int x1), y2] [] w (f_M_readCells_p25 n x0 x1 w) := by
  intro n
  induction n with
  | zero => intros; exact ok_none
  | succ n ih =>
    intro x0 x1 y2 w
    unfold f_M_readCells_p25
    refine ok_seg (L := [((.iload_n 1), 1), ((.aload_n 0), 1)]) (pc' := 27) (ls' := [some (.ref x0), some (.int x1), y2]) (st' := [.ref x0, .int x1]) (w' := w) (by decide +kernel) rfl ?_
    refine ok_gr (by decide +kernel : decode m_M_readCells.2.1 27 = .ok ((.getfield 67), 3)) rfl (by decide) (fun v1 h2 => ?_)
    refine ok_seg (L := [((.iconst 1), 1)]) (pc' := 31) (ls' := [some (.ref x0), some (.int x1), y2]) (st' := [.int 1, .ref v1, .int x1]) (w' := w) (by decide +kernel) rfl ?_
    refine ok_ai (by decide +kernel : decode m_M_readCells.2.1 31 = .ok (.iaload, 1)) (fun v3 h4 => ?_)
    refine ok_br (P := v3 ≤ x1) (off := 49) (t := 81) (by decide +kernel : decode m_M_readCells.2.1 32 = .ok ((.if_icmp .ge 49), 3)) rfl rfl rfl rfl (fun c5 => ?_) (fun c5 => ?_)
    · skip
      refine ok_seg (L := [((.aload_n 0), 1), (.dup, 1)]) (pc' := 83) (ls' := [some (.ref x0), some (.int x1), y2]) (st' := [.ref x0, .ref x0]) (w' := w) (by decide +kernel) rfl ?_
      refine ok_gi (by decide +kernel : decode m_M_readCells.2.1 83 = .ok ((.getfield 132), 3)) rfl (fun v6 h7 => ?_)
      refine ok_seg (L := [((.iconst 1), 1), (.iadd, 1)]) (pc' := 88) (ls' := [some (.ref x0), some (.int x1), y2]) (st' := [.int (v6 + 1), .ref x0]) (w' := w) (by decide +kernel) rfl ?_
      refine ok_pi (by decide +kernel : decode m_M_readCells.2.1 88 = .ok ((.putfield 132), 3)) rfl (fun w8 h9 => ?_)
      refine ok_seg (L := [((.iconst 1), 1)]) (pc' := 92) (ls' := [some (.ref x0), some (.int x1), y2]) (st' := [.int 1]) (w' := w8) (by decide +kernel) rfl ?_
      exact ok_ret (v := 1) (by decide +kernel : decode m_M_readCells.2.1 92 = .ok (.ireturn, 1)) rfl
    · skip
      refine ok_seg (L := [((.aload_n 0), 1), ((.iconst 0), 1), ((.aload_n 0), 1)]) (pc' := 38) (ls' := [some (.ref x0), some (.int x1), y2]) (st' := [.ref x0, .int 0, .ref x0]) (w' := w) (by decide +kernel) rfl ?_
      refine ok_gr (by decide +kernel : decode m_M_readCells.2.1 38 = .ok ((.getfield 67), 3)) rfl (by decide) (fun v10 h11 => ?_)
      refine ok_seg (L := [((.iconst 2), 1)]) (pc' := 42) (ls' := [some (.ref x0), some (.int x1), y2]) (st' := [.int 2, .ref v10, .int 0, .ref x0]) (w' := w) (by decide +kernel) rfl ?_
      refine ok_ai (by decide +kernel : decode m_M_readCells.2.1 42 = .ok (.iaload, 1)) (fun v12 h13 => ?_)
      refine ok_call0 (inj' := am_ji) (by decide +kernel : decode m_M_readCells.2.1 43 = .ok ((.invokevirtual 128), 3)) rfl (fun q hq => am_iv0 (am_self_eq hq).1 rfl rfl rfl) (o_M_told (d + 0) (x0) (0) (v12) w) (fun _ _ => rfl) (fun r14 h15 => ?_)
      refine ok_seg (L := [((.istore_n 2), 1), ((.iload_n 2), 1), ((.iconst (-1)), 1)]) (pc' := 49) (ls' := [some (.ref x0), some (.int x1), some (.int r14.2)]) (st' := [.int (-1), .int r14.2]) (w' := r14.1) (by decide +kernel) rfl ?_
      refine ok_br (P := ¬ r14.2 = (-1)) (off := 5) (t := 54) (by decide +kernel : decode m_M_readCells.2.1 49 = .ok ((.if_icmp .ne 5), 3)) rfl rfl rfl rfl (fun c16 => ?_) (fun c16 => ?_)
      · skip
        refine ok_seg (L := [((.aload_n 0), 1)]) (pc' := 55) (ls' := [some (.ref x0), some (.int x1), some (.int r14.2)]) (st' := [.ref x0]) (w' := r14.1) (by decide +kernel) rfl ?_
        refine ok_gr (by decide +kernel : decode m_M_readCells.2.1 55 = .ok ((.getfield 67), 3)) rfl (by decide) (fun v17 h18 => ?_)
        refine ok_seg (L := [((.iconst 3), 1), ((.aload_n 0), 1)]) (pc' := 60) (ls' := [some (.ref x0), some (.int x1), some (.int r14.2)]) (st' := [.ref x0, .int 3, .ref v17]) (w' := r14.1) (by decide +kernel) rfl ?_
        refine ok_gr (by decide +kernel : decode m_M_readCells.2.1 60 = .ok ((.getfield 67), 3)) rfl (by decide) (fun v19 h20 => ?_)
        refine ok_seg (L := [((.iconst 1), 1)]) (pc' := 64) (ls' := [some (.ref x0), some (.int x1), some (.int r14.2)]) (st' := [.int 1, .ref v19, .int 3, .ref v17]) (w' := r14.1) (by decide +kernel) rfl ?_
        refine ok_ai (by decide +kernel : decode m_M_readCells.2.1 64 = .ok (.iaload, 1)) (fun v21 h22 => ?_)
        refine ok_seg (L := [((.aload_n 0), 1)]) (pc' := 66) (ls' := [some (.ref x0), some (.int x1), some (.int r14.2)]) (st' := [.ref x0, .int v21, .int 3, .ref v17]) (w' := r14.1) (by decide +kernel) rfl ?_
        refine ok_gi (by decide +kernel : decode m_M_readCells.2.1 66 = .ok ((.getfield 132), 3)) rfl (fun v23 h24 => ?_)
        refine ok_seg (L := [(.imul, 1), (.iadd, 1), ((.iload_n 1), 1), (.iadd, 1), ((.iload_n 2), 1)]) (pc' := 74) (ls' := [some (.ref x0), some (.int x1), some (.int r14.2)]) (st' := [.int r14.2, .int ((3 + (v21 * v23)) + x1), .ref v17]) (w' := r14.1) (by decide +kernel) rfl ?_
        refine ok_si (by decide +kernel : decode m_M_readCells.2.1 74 = .ok (.iastore, 1)) (fun w25 h26 => ?_)
        refine ok_seg (L := [((.iinc 1 1), 3)]) (pc' := 78) (ls' := [some (.ref x0), some (.int (x1 + 1)), some (.int r14.2)]) (st' := []) (w' := w25) (by decide +kernel) rfl ?_
        refine ok_goto (t := 25) (by decide +kernel : decode m_M_readCells.2.1 78 = .ok ((.goto (-53)), 3)) rfl ?_
        exact ih x0 (x1 + 1) (some (.int r14.2)) w25
      · skip
        refine ok_seg (L := [((.iconst 0), 1)]) (pc' := 53) (ls' := [some (.ref x0), some (.int x1), some (.int r14.2)]) (st' := [.int 0]) (w' := r14.1) (by decide +kernel) rfl ?_
        exact ok_ret (v := 0) (by decide +kernel : decode m_M_readCells.2.1 53 = .ok (.ireturn, 1)) rfl
theorem o_M_readCells (d : Nat) (x0 : Nat) (w : am_W) : am_Ok am_ji (d + 3) m_M_readCells 0 (am_en m_M_readCells [.ref x0]) [] w (f_M_readCells x0 w) := by
  show am_Ok _ _ _ 0 [some (.ref x0), none, none] [] w _
  unfold f_M_readCells
  refine ok_self ?_
  unfold e_M_readCells
  refine ok_seg (L := [((.aload_n 0), 1)]) (pc' := 1) (ls' := [some (.ref x0), none, none]) (st' := [.ref x0]) (w' := w) (by decide +kernel) rfl ?_
  refine ok_gi (by decide +kernel : decode m_M_readCells.2.1 1 = .ok ((.getfield 132), 3)) rfl (fun v27 h28 => ?_)
  refine ok_seg (L := [((.aload_n 0), 1)]) (pc' := 5) (ls' := [some (.ref x0), none, none]) (st' := [.ref x0, .int v27]) (w' := w) (by decide +kernel) rfl ?_
  refine ok_gr (by decide +kernel : decode m_M_readCells.2.1 5 = .ok ((.getfield 67), 3)) rfl (by decide) (fun v29 h30 => ?_)
  refine ok_seg (L := [((.iconst 0), 1)]) (pc' := 9) (ls' := [some (.ref x0), none, none]) (st' := [.int 0, .ref v29, .int v27]) (w' := w) (by decide +kernel) rfl ?_
  refine ok_ai (by decide +kernel : decode m_M_readCells.2.1 9 = .ok (.iaload, 1)) (fun v31 h32 => ?_)
  refine ok_br (P := ¬ v27 = v31) (off := 9) (t := 19) (by decide +kernel : decode m_M_readCells.2.1 10 = .ok ((.if_icmp .ne 9), 3)) rfl rfl rfl rfl (fun c33 => ?_) (fun c33 => ?_)
  · skip
    refine ok_seg (L := [((.aload_n 0), 1)]) (pc' := 20) (ls' := [some (.ref x0), none, none]) (st' := [.ref x0]) (w' := w) (by decide +kernel) rfl ?_
    refine ok_call0 (inj' := am_jv) (by decide +kernel : decode m_M_readCells.2.1 20 = .ok ((.invokevirtual 125), 3)) rfl (fun q hq => am_iv0 (am_self_eq hq).1 rfl rfl rfl) (o_M_next (d + 1) (x0) w) (fun _ _ => rfl) (fun r34 h35 => ?_)
    refine ok_seg (L := [((.iconst 0), 1), ((.istore_n 1), 1)]) (pc' := 25) (ls' := [some (.ref x0), some (.int 0), none]) (st' := []) (w' := r34.1) (by decide +kernel) rfl ?_
    exact o_M_readCells_p25 am_N x0 0 none r34.1
  · skip
    refine ok_seg (L := [((.aload_n 0), 1), ((.iconst 3), 1)]) (pc' := 15) (ls' := [some (.ref x0), none, none]) (st' := [.int 3, .ref x0]) (w' := w) (by decide +kernel) rfl ?_
    refine ok_call0 (inj' := am_ji) (by decide +kernel : decode m_M_readCells.2.1 15 = .ok ((.invokevirtual 118), 3)) rfl (fun q hq => am_iv0 (am_self_eq hq).1 rfl rfl rfl) (o_M_bad (d + 2) (x0) (3) w) (fun _ _ => rfl) (fun r36 h37 => ?_)
    exact ok_retb (len := 1) (by decide +kernel : decode m_M_readCells.2.1 18 = .ok (.ireturn, 1)) rfl
-- m_M_readGrid
def f_M_readGrid_p24 (k6 : Nat → Int32 → am_W → Option (am_W × Int32)) (x0 : Nat) (x1 : Int32) (s0 : Nat) (s1 : Int32) (s2 : Int32) (w : am_W) : Option (am_W × Int32) := ((f_M_told (s0) (s1) (s2) w).bind fun r1 => (if ¬ r1.2 = (-1) then ((am_gr r1.1 x0 7 12).bind fun v4 => ((am_si r1.1 v4 x1 r1.2).bind fun w6 => (k6 x0 (x1 + 1) w6))) else (some (r1.1, 0))))
def f_M_readGrid_p6 : Nat → Nat → Int32 → am_W → Option (am_W × Int32)
  | 0, _, _, _ => none
  | n + 1, x0, x1, w => (if 3 ≤ x1 then (some (w, 1)) else (if 2 ≤ x1 then (f_M_readGrid_p24 (f_M_readGrid_p6 n) x0 x1 x0 1 4 w) else (f_M_readGrid_p24 (f_M_readGrid_p6 n) x0 x1 x0 1 8 w)))
def e_M_readGrid (x0 : Nat) (w : am_W) : Option (am_W × Int32) := ((f_M_next (x0) w).bind fun r10 => (f_M_readGrid_p6 am_N x0 0 r10.1))
def f_M_readGrid (x0 : Nat) (w : am_W) : Option (am_W × Int32) := am_self w x0 7 (e_M_readGrid x0 w)
theorem o_M_readGrid_p24 {d : Nat} {k6 : Nat → Int32 → am_W → Option (am_W × Int32)} (hk6 : ∀ (x0 : Nat) (x1 : Int32) (y2 : Option Value) (w : am_W), am_Ok am_ji (d + 3) m_M_readGrid 6 [some (.ref x0), some (.int x1), y2] [] w (k6 x0 x1 w)) (x0 : Nat) (x1 : Int32) (s0 : Nat) (s1 : Int32) (s2 : Int32) (y2 : Option Value) (w : am_W) : am_Ok am_ji (d + 3) m_M_readGrid 24 [some (.ref x0), some (.int x1), y2] [.int s2, .int s1, .ref s0] w (f_M_readGrid_p24 k6 x0 x1 s0 s1 s2 w) := by
  unfold f_M_readGrid_p24
  refine ok_call0 (inj' := am_ji) (by decide +kernel : decode m_M_readGrid.2.1 24 = .ok ((.invokevirtual 128), 3)) rfl (fun q hq => am_iv0 (am_self_eq hq).1 rfl rfl rfl) (o_M_told (d + 0) (s0) (s1) (s2) w) (fun _ _ => rfl) (fun r1 h2 => ?_)
  refine ok_seg (L := [((.istore_n 2), 1), ((.iload_n 2), 1), ((.iconst (-1)), 1)]) (pc' := 30) (ls' := [some (.ref x0), some (.int x1), some (.int r1.2)]) (st' := [.int (-1), .int r1.2]) (w' := r1.1) (by decide +kernel) rfl ?_
  refine ok_br (P := ¬ r1.2 = (-1)) (off := 5) (t := 35) (by decide +kernel : decode m_M_readGrid.2.1 30 = .ok ((.if_icmp .ne 5), 3)) rfl rfl rfl rfl (fun c3 => ?_) (fun c3 => ?_)
  · skip
    refine ok_seg (L := [((.aload_n 0), 1)]) (pc' := 36) (ls' := [some (.ref x0), some (.int x1), some (.int r1.2)]) (st' := [.ref x0]) (w' := r1.1) (by decide +kernel) rfl ?_
    refine ok_gr (by decide +kernel : decode m_M_readGrid.2.1 36 = .ok ((.getfield 67), 3)) rfl (by decide) (fun v4 h5 => ?_)
    refine ok_seg (L := [((.iload_n 1), 1), ((.iload_n 2), 1)]) (pc' := 41) (ls' := [some (.ref x0), some (.int x1), some (.int r1.2)]) (st' := [.int r1.2, .int x1, .ref v4]) (w' := r1.1) (by decide +kernel) rfl ?_
    refine ok_si (by decide +kernel : decode m_M_readGrid.2.1 41 = .ok (.iastore, 1)) (fun w6 h7 => ?_)
    refine ok_seg (L := [((.iinc 1 1), 3)]) (pc' := 45) (ls' := [some (.ref x0), some (.int (x1 + 1)), some (.int r1.2)]) (st' := []) (w' := w6) (by decide +kernel) rfl ?_
    refine ok_goto (t := 6) (by decide +kernel : decode m_M_readGrid.2.1 45 = .ok ((.goto (-39)), 3)) rfl ?_
    exact hk6 x0 (x1 + 1) (some (.int r1.2)) w6
  · skip
    refine ok_seg (L := [((.iconst 0), 1)]) (pc' := 34) (ls' := [some (.ref x0), some (.int x1), some (.int r1.2)]) (st' := [.int 0]) (w' := r1.1) (by decide +kernel) rfl ?_
    exact ok_ret (v := 0) (by decide +kernel : decode m_M_readGrid.2.1 34 = .ok (.ireturn, 1)) rfl
theorem o_M_readGrid_p6 {d : Nat} : ∀ (n : Nat) (x0 : Nat) (x1 : Int32) (y2 : Option Value) (w : am_W), am_Ok am_ji (d + 3) m_M_readGrid 6 [some (.ref x0), some (.int x1), y2] [] w (f_M_readGrid_p6 n x0 x1 w) := by
  intro n
  induction n with
  | zero => intros; exact ok_none
  | succ n ih =>
    intro x0 x1 y2 w
    unfold f_M_readGrid_p6
    refine ok_seg (L := [((.iload_n 1), 1), ((.iconst 3), 1)]) (pc' := 8) (ls' := [some (.ref x0), some (.int x1), y2]) (st' := [.int 3, .int x1]) (w' := w) (by decide +kernel) rfl ?_
    refine ok_br (P := 3 ≤ x1) (off := 40) (t := 48) (by decide +kernel : decode m_M_readGrid.2.1 8 = .ok ((.if_icmp .ge 40), 3)) rfl rfl rfl rfl (fun c8 => ?_) (fun c8 => ?_)
    · skip
      refine ok_seg (L := [((.iconst 1), 1)]) (pc' := 49) (ls' := [some (.ref x0), some (.int x1), y2]) (st' := [.int 1]) (w' := w) (by decide +kernel) rfl ?_
      exact ok_ret (v := 1) (by decide +kernel : decode m_M_readGrid.2.1 49 = .ok (.ireturn, 1)) rfl
    · skip
      refine ok_seg (L := [((.aload_n 0), 1), ((.iconst 1), 1), ((.iload_n 1), 1), ((.iconst 2), 1)]) (pc' := 15) (ls' := [some (.ref x0), some (.int x1), y2]) (st' := [.int 2, .int x1, .int 1, .ref x0]) (w' := w) (by decide +kernel) rfl ?_
      refine ok_br (P := 2 ≤ x1) (off := 8) (t := 23) (by decide +kernel : decode m_M_readGrid.2.1 15 = .ok ((.if_icmp .ge 8), 3)) rfl rfl rfl rfl (fun c9 => ?_) (fun c9 => ?_)
      · skip
        refine ok_seg (L := [((.iconst 4), 1)]) (pc' := 24) (ls' := [some (.ref x0), some (.int x1), y2]) (st' := [.int 4, .int 1, .ref x0]) (w' := w) (by decide +kernel) rfl ?_
        exact o_M_readGrid_p24 ih x0 x1 x0 1 4 y2 w
      · skip
        refine ok_seg (L := [((.bipush 8), 2)]) (pc' := 20) (ls' := [some (.ref x0), some (.int x1), y2]) (st' := [.int 8, .int 1, .ref x0]) (w' := w) (by decide +kernel) rfl ?_
        refine ok_goto (t := 24) (by decide +kernel : decode m_M_readGrid.2.1 20 = .ok ((.goto 4), 3)) rfl ?_
        exact o_M_readGrid_p24 ih x0 x1 x0 1 8 y2 w
theorem o_M_readGrid (d : Nat) (x0 : Nat) (w : am_W) : am_Ok am_ji (d + 3) m_M_readGrid 0 (am_en m_M_readGrid [.ref x0]) [] w (f_M_readGrid x0 w) := by
  show am_Ok _ _ _ 0 [some (.ref x0), none, none] [] w _
  unfold f_M_readGrid
  refine ok_self ?_
  unfold e_M_readGrid
  refine ok_seg (L := [((.aload_n 0), 1)]) (pc' := 1) (ls' := [some (.ref x0), none, none]) (st' := [.ref x0]) (w' := w) (by decide +kernel) rfl ?_
  refine ok_call0 (inj' := am_jv) (by decide +kernel : decode m_M_readGrid.2.1 1 = .ok ((.invokevirtual 125), 3)) rfl (fun q hq => am_iv0 (am_self_eq hq).1 rfl rfl rfl) (o_M_next (d + 1) (x0) w) (fun _ _ => rfl) (fun r10 h11 => ?_)
  refine ok_seg (L := [((.iconst 0), 1), ((.istore_n 1), 1)]) (pc' := 6) (ls' := [some (.ref x0), some (.int 0), none]) (st' := []) (w' := r10.1) (by decide +kernel) rfl ?_
  exact o_M_readGrid_p6 am_N x0 0 none r10.1
-- m_M_spelt
def f_M_spelt_p52 (s0 : Int64) (w : am_W) : Option (am_W × Int64) := (some (w, s0))
def e_M_spelt (x0 : Int32) (x1 : Int32) (x2 : Int32) (x3 : Int32) (w : am_W) : Option (am_W × Int64) := (if x3 ≤ 0 then (f_M_spelt_p52 (((27 * (((27 * ((Int32.toInt64 x0) - 96)) + (Int32.toInt64 x1)) - 96)) + (Int32.toInt64 x2)) - 96) w) else (f_M_spelt_p52 (((27 * (((27 * (((27 * ((Int32.toInt64 x0) - 96)) + (Int32.toInt64 x1)) - 96)) + (Int32.toInt64 x2)) - 96)) + (Int32.toInt64 x3)) - 96) w))
def f_M_spelt (x0 : Int32) (x1 : Int32) (x2 : Int32) (x3 : Int32) (w : am_W) : Option (am_W × Int64) := e_M_spelt x0 x1 x2 x3 w
theorem o_M_spelt_p52 {d : Nat} (s0 : Int64) (y0 y1 y2 y3 y4 y5 : Option Value) (w : am_W) : am_Ok am_jj (d + 0) m_M_spelt 52 [y0, y1, y2, y3, y4, y5] [.long s0] w (f_M_spelt_p52 s0 w) := by
  unfold f_M_spelt_p52
  exact ok_ret (v := s0) (by decide +kernel : decode m_M_spelt.2.1 52 = .ok (.lreturn, 1)) rfl
theorem o_M_spelt (d : Nat) (x0 : Int32) (x1 : Int32) (x2 : Int32) (x3 : Int32) (w : am_W) : am_Ok am_jj (d + 0) m_M_spelt 0 (am_en m_M_spelt [.int x0, .int x1, .int x2, .int x3]) [] w (f_M_spelt x0 x1 x2 x3 w) := by
  show am_Ok _ _ _ 0 [some (.int x0), some (.int x1), some (.int x2), some (.int x3), none, none] [] w _
  unfold f_M_spelt
  unfold e_M_spelt
  refine ok_seg (L := [((.ldc2_w 48), 3), ((.ldc2_w 48), 3), ((.iload_n 0), 1), (.i2l, 1), ((.ldc2_w 50), 3), (.lsub, 1), (.lmul, 1), ((.iload_n 1), 1), (.i2l, 1), (.ladd, 1), ((.ldc2_w 50), 3), (.lsub, 1), (.lmul, 1), ((.iload_n 2), 1), (.i2l, 1), (.ladd, 1), ((.ldc2_w 50), 3), (.lsub, 1), ((.lstore 4), 2), ((.iload_n 3), 1)]) (pc' := 31) (ls' := [some (.int x0), some (.int x1), some (.int x2), some (.int x3), some (.long (((27 * (((27 * ((Int32.toInt64 x0) - 96)) + (Int32.toInt64 x1)) - 96)) + (Int32.toInt64 x2)) - 96)), none]) (st' := [.int x3]) (w' := w) (by decide +kernel) rfl ?_
  refine ok_br (P := x3 ≤ 0) (off := 19) (t := 50) (by decide +kernel : decode m_M_spelt.2.1 31 = .ok ((.ifCond .le 19), 3)) rfl rfl rfl rfl (fun c1 => ?_) (fun c1 => ?_)
  · skip
    refine ok_seg (L := [((.lload 4), 2)]) (pc' := 52) (ls' := [some (.int x0), some (.int x1), some (.int x2), some (.int x3), some (.long (((27 * (((27 * ((Int32.toInt64 x0) - 96)) + (Int32.toInt64 x1)) - 96)) + (Int32.toInt64 x2)) - 96)), none]) (st' := [.long (((27 * (((27 * ((Int32.toInt64 x0) - 96)) + (Int32.toInt64 x1)) - 96)) + (Int32.toInt64 x2)) - 96)]) (w' := w) (by decide +kernel) rfl ?_
    exact o_M_spelt_p52 (((27 * (((27 * ((Int32.toInt64 x0) - 96)) + (Int32.toInt64 x1)) - 96)) + (Int32.toInt64 x2)) - 96) (some (.int x0)) (some (.int x1)) (some (.int x2)) (some (.int x3)) (some (.long (((27 * (((27 * ((Int32.toInt64 x0) - 96)) + (Int32.toInt64 x1)) - 96)) + (Int32.toInt64 x2)) - 96))) none w
  · skip
    refine ok_seg (L := [((.ldc2_w 48), 3), ((.lload 4), 2), (.lmul, 1), ((.iload_n 3), 1), (.i2l, 1), (.ladd, 1), ((.ldc2_w 50), 3), (.lsub, 1)]) (pc' := 47) (ls' := [some (.int x0), some (.int x1), some (.int x2), some (.int x3), some (.long (((27 * (((27 * ((Int32.toInt64 x0) - 96)) + (Int32.toInt64 x1)) - 96)) + (Int32.toInt64 x2)) - 96)), none]) (st' := [.long (((27 * (((27 * (((27 * ((Int32.toInt64 x0) - 96)) + (Int32.toInt64 x1)) - 96)) + (Int32.toInt64 x2)) - 96)) + (Int32.toInt64 x3)) - 96)]) (w' := w) (by decide +kernel) rfl ?_
    refine ok_goto (t := 52) (by decide +kernel : decode m_M_spelt.2.1 47 = .ok ((.goto 5), 3)) rfl ?_
    exact o_M_spelt_p52 (((27 * (((27 * (((27 * ((Int32.toInt64 x0) - 96)) + (Int32.toInt64 x1)) - 96)) + (Int32.toInt64 x2)) - 96)) + (Int32.toInt64 x3)) - 96) (some (.int x0)) (some (.int x1)) (some (.int x2)) (some (.int x3)) (some (.long (((27 * (((27 * ((Int32.toInt64 x0) - 96)) + (Int32.toInt64 x1)) - 96)) + (Int32.toInt64 x2)) - 96))) none w
-- m_M_readLine
def f_M_readLine_p69 (s0 : Int32) (w : am_W) : Option (am_W × Int32) := (am_rb w s0)
def f_M_readLine_p39 (s0 : Int32) (w : am_W) : Option (am_W × Int32) := (am_rb w s0)
def e_M_readLine (x0 : Nat) (w : am_W) : Option (am_W × Int32) := ((am_gr w x0 7 12).bind fun v1 => ((am_ai w v1 0).bind fun v3 => (if ¬ v3 = 0 then ((f_M_spelt (114) (111) (119) (0) w).bind fun r6 => ((f_M_isWord (x0) (r6.2) r6.1).bind fun r8 => (if r8.2 = 0 then ((f_M_bad (x0) (1) r8.1).bind fun r11 => (f_M_readLine_p69 r11.2 r11.1)) else ((f_M_readCells (x0) r8.1).bind fun r13 => (f_M_readLine_p69 r13.2 r13.1))))) else ((f_M_spelt (103) (114) (105) (100) w).bind fun r15 => ((f_M_isWord (x0) (r15.2) r15.1).bind fun r17 => (if r17.2 = 0 then ((f_M_bad (x0) (1) r17.1).bind fun r20 => (f_M_readLine_p39 r20.2 r20.1)) else ((f_M_readGrid (x0) r17.1).bind fun r22 => (f_M_readLine_p39 r22.2 r22.1))))))))
def f_M_readLine (x0 : Nat) (w : am_W) : Option (am_W × Int32) := am_self w x0 7 (e_M_readLine x0 w)
theorem o_M_readLine_p69 {d : Nat} (s0 : Int32) (y0 : Option Value) (w : am_W) : am_Ok am_ji (d + 4) m_M_readLine 69 [y0] [.int s0] w (f_M_readLine_p69 s0 w) := by
  unfold f_M_readLine_p69
  exact ok_retb (len := 1) (by decide +kernel : decode m_M_readLine.2.1 69 = .ok (.ireturn, 1)) rfl
theorem o_M_readLine_p39 {d : Nat} (s0 : Int32) (y0 : Option Value) (w : am_W) : am_Ok am_ji (d + 4) m_M_readLine 39 [y0] [.int s0] w (f_M_readLine_p39 s0 w) := by
  unfold f_M_readLine_p39
  exact ok_retb (len := 1) (by decide +kernel : decode m_M_readLine.2.1 39 = .ok (.ireturn, 1)) rfl
theorem o_M_readLine (d : Nat) (x0 : Nat) (w : am_W) : am_Ok am_ji (d + 4) m_M_readLine 0 (am_en m_M_readLine [.ref x0]) [] w (f_M_readLine x0 w) := by
  show am_Ok _ _ _ 0 [some (.ref x0)] [] w _
  unfold f_M_readLine
  refine ok_self ?_
  unfold e_M_readLine
  refine ok_seg (L := [((.aload_n 0), 1)]) (pc' := 1) (ls' := [some (.ref x0)]) (st' := [.ref x0]) (w' := w) (by decide +kernel) rfl ?_
  refine ok_gr (by decide +kernel : decode m_M_readLine.2.1 1 = .ok ((.getfield 67), 3)) rfl (by decide) (fun v1 h2 => ?_)
  refine ok_seg (L := [((.iconst 0), 1)]) (pc' := 5) (ls' := [some (.ref x0)]) (st' := [.int 0, .ref v1]) (w' := w) (by decide +kernel) rfl ?_
  refine ok_ai (by decide +kernel : decode m_M_readLine.2.1 5 = .ok (.iaload, 1)) (fun v3 h4 => ?_)
  refine ok_br (P := ¬ v3 = 0) (off := 34) (t := 40) (by decide +kernel : decode m_M_readLine.2.1 6 = .ok ((.ifCond .ne 34), 3)) rfl rfl rfl rfl (fun c5 => ?_) (fun c5 => ?_)
  · skip
    refine ok_seg (L := [((.aload_n 0), 1), ((.bipush 114), 2), ((.bipush 111), 2), ((.bipush 119), 2), ((.iconst 0), 1)]) (pc' := 48) (ls' := [some (.ref x0)]) (st' := [.int 0, .int 119, .int 111, .int 114, .ref x0]) (w' := w) (by decide +kernel) rfl ?_
    refine ok_call0 (inj' := am_jj) (by decide +kernel : decode m_M_readLine.2.1 48 = .ok ((.invokestatic 135), 3)) rfl (fun _ _ => rfl) (o_M_spelt (d + 3) (114) (111) (119) (0) w) (fun _ _ => rfl) (fun r6 h7 => ?_)
    refine ok_call0 (inj' := am_ji) (by decide +kernel : decode m_M_readLine.2.1 51 = .ok ((.invokevirtual 139), 3)) rfl (fun q hq => am_iv0 (am_self_eq hq).1 rfl rfl rfl) (o_M_isWord (d + 3) (x0) (r6.2) r6.1) (fun _ _ => rfl) (fun r8 h9 => ?_)
    refine ok_br (P := r8.2 = 0) (off := 10) (t := 64) (by decide +kernel : decode m_M_readLine.2.1 54 = .ok ((.ifCond .eq 10), 3)) rfl rfl rfl rfl (fun c10 => ?_) (fun c10 => ?_)
    · skip
      refine ok_seg (L := [((.aload_n 0), 1), ((.iconst 1), 1)]) (pc' := 66) (ls' := [some (.ref x0)]) (st' := [.int 1, .ref x0]) (w' := r8.1) (by decide +kernel) rfl ?_
      refine ok_call0 (inj' := am_ji) (by decide +kernel : decode m_M_readLine.2.1 66 = .ok ((.invokevirtual 118), 3)) rfl (fun q hq => am_iv0 (am_self_eq hq).1 rfl rfl rfl) (o_M_bad (d + 3) (x0) (1) r8.1) (fun _ _ => rfl) (fun r11 h12 => ?_)
      exact o_M_readLine_p69 r11.2 (some (.ref x0)) r11.1
    · skip
      refine ok_seg (L := [((.aload_n 0), 1)]) (pc' := 58) (ls' := [some (.ref x0)]) (st' := [.ref x0]) (w' := r8.1) (by decide +kernel) rfl ?_
      refine ok_call0 (inj' := am_ji) (by decide +kernel : decode m_M_readLine.2.1 58 = .ok ((.invokevirtual 147), 3)) rfl (fun q hq => am_iv0 (am_self_eq hq).1 rfl rfl rfl) (o_M_readCells (d + 0) (x0) r8.1) (fun _ _ => rfl) (fun r13 h14 => ?_)
      refine ok_goto (t := 69) (by decide +kernel : decode m_M_readLine.2.1 61 = .ok ((.goto 8), 3)) rfl ?_
      exact o_M_readLine_p69 r13.2 (some (.ref x0)) r13.1
  · skip
    refine ok_seg (L := [((.aload_n 0), 1), ((.bipush 103), 2), ((.bipush 114), 2), ((.bipush 105), 2), ((.bipush 100), 2)]) (pc' := 18) (ls' := [some (.ref x0)]) (st' := [.int 100, .int 105, .int 114, .int 103, .ref x0]) (w' := w) (by decide +kernel) rfl ?_
    refine ok_call0 (inj' := am_jj) (by decide +kernel : decode m_M_readLine.2.1 18 = .ok ((.invokestatic 135), 3)) rfl (fun _ _ => rfl) (o_M_spelt (d + 3) (103) (114) (105) (100) w) (fun _ _ => rfl) (fun r15 h16 => ?_)
    refine ok_call0 (inj' := am_ji) (by decide +kernel : decode m_M_readLine.2.1 21 = .ok ((.invokevirtual 139), 3)) rfl (fun q hq => am_iv0 (am_self_eq hq).1 rfl rfl rfl) (o_M_isWord (d + 3) (x0) (r15.2) r15.1) (fun _ _ => rfl) (fun r17 h18 => ?_)
    refine ok_br (P := r17.2 = 0) (off := 10) (t := 34) (by decide +kernel : decode m_M_readLine.2.1 24 = .ok ((.ifCond .eq 10), 3)) rfl rfl rfl rfl (fun c19 => ?_) (fun c19 => ?_)
    · skip
      refine ok_seg (L := [((.aload_n 0), 1), ((.iconst 1), 1)]) (pc' := 36) (ls' := [some (.ref x0)]) (st' := [.int 1, .ref x0]) (w' := r17.1) (by decide +kernel) rfl ?_
      refine ok_call0 (inj' := am_ji) (by decide +kernel : decode m_M_readLine.2.1 36 = .ok ((.invokevirtual 118), 3)) rfl (fun q hq => am_iv0 (am_self_eq hq).1 rfl rfl rfl) (o_M_bad (d + 3) (x0) (1) r17.1) (fun _ _ => rfl) (fun r20 h21 => ?_)
      exact o_M_readLine_p39 r20.2 (some (.ref x0)) r20.1
    · skip
      refine ok_seg (L := [((.aload_n 0), 1)]) (pc' := 28) (ls' := [some (.ref x0)]) (st' := [.ref x0]) (w' := r17.1) (by decide +kernel) rfl ?_
      refine ok_call0 (inj' := am_ji) (by decide +kernel : decode m_M_readLine.2.1 28 = .ok ((.invokevirtual 143), 3)) rfl (fun q hq => am_iv0 (am_self_eq hq).1 rfl rfl rfl) (o_M_readGrid (d + 0) (x0) r17.1) (fun _ _ => rfl) (fun r22 h23 => ?_)
      refine ok_goto (t := 39) (by decide +kernel : decode m_M_readLine.2.1 31 = .ok ((.goto 8), 3)) rfl ?_
      exact o_M_readLine_p39 r22.2 (some (.ref x0)) r22.1
