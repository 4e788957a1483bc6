-- m_C_isOpenSize
def f_C_isOpenSize_p27 (s0 : Int32) (w : am_W) : Option (am_W × Int32) := (am_rb w s0)
def f_C_isOpenSize_p26 (w : am_W) : Option (am_W × Int32) := (f_C_isOpenSize_p27 0 w)
def e_C_isOpenSize (x0 : Int32) (x1 : Int32) (w : am_W) : Option (am_W × Int32) := (if x0 < 1 then (f_C_isOpenSize_p26 w) else (if 8 < x0 then (f_C_isOpenSize_p26 w) else (if x1 < 1 then (f_C_isOpenSize_p26 w) else (if 6 < x1 then (f_C_isOpenSize_p26 w) else (f_C_isOpenSize_p27 1 w)))))
def f_C_isOpenSize (x0 : Int32) (x1 : Int32) (w : am_W) : Option (am_W × Int32) := e_C_isOpenSize x0 x1 w
theorem o_C_isOpenSize_p27 {d : Nat} (s0 : Int32) (y0 y1 : Option Value) (w : am_W) : am_Ok am_ji (d + 0) m_C_isOpenSize 27 [y0, y1] [.int s0] w (f_C_isOpenSize_p27 s0 w) := by
  unfold f_C_isOpenSize_p27
  exact ok_retb (len := 1) (by decide +kernel : decode m_C_isOpenSize.2.1 27 = .ok (.ireturn, 1)) rfl
theorem o_C_isOpenSize_p26 {d : Nat} (y0 y1 : Option Value) (w : am_W) : am_Ok am_ji (d + 0) m_C_isOpenSize 26 [y0, y1] [] w (f_C_isOpenSize_p26 w) := by
  unfold f_C_isOpenSize_p26
  refine ok_seg (L := [((.iconst 0), 1)]) (pc' := 27) (ls' := [y0, y1]) (st' := [.int 0]) (w' := w) (by decide +kernel) rfl ?_
  exact o_C_isOpenSize_p27 0 y0 y1 w
theorem o_C_isOpenSize (d : Nat) (x0 : Int32) (x1 : Int32) (w : am_W) : am_Ok am_ji (d + 0) m_C_isOpenSize 0 (am_en m_C_isOpenSize [.int x0, .int x1]) [] w (f_C_isOpenSize x0 x1 w) := by
  show am_Ok _ _ _ 0 [some (.int x0), some (.int x1)] [] w _
  unfold f_C_isOpenSize
  unfold e_C_isOpenSize
  refine ok_seg (L := [((.iload_n 0), 1), ((.iconst 1), 1)]) (pc' := 2) (ls' := [some (.int x0), some (.int x1)]) (st' := [.int 1, .int x0]) (w' := w) (by decide +kernel) rfl ?_
  refine ok_br (P := x0 < 1) (off := 24) (t := 26) (by decide +kernel : decode m_C_isOpenSize.2.1 2 = .ok ((.if_icmp .lt 24), 3)) rfl rfl rfl rfl (fun c1 => ?_) (fun c1 => ?_)
  · skip
    exact o_C_isOpenSize_p26 (some (.int x0)) (some (.int x1)) w
  · skip
    refine ok_seg (L := [((.iload_n 0), 1), ((.bipush 8), 2)]) (pc' := 8) (ls' := [some (.int x0), some (.int x1)]) (st' := [.int 8, .int x0]) (w' := w) (by decide +kernel) rfl ?_
    refine ok_br (P := 8 < x0) (off := 18) (t := 26) (by decide +kernel : decode m_C_isOpenSize.2.1 8 = .ok ((.if_icmp .gt 18), 3)) rfl rfl rfl rfl (fun c2 => ?_) (fun c2 => ?_)
    · skip
      exact o_C_isOpenSize_p26 (some (.int x0)) (some (.int x1)) w
    · skip
      refine ok_seg (L := [((.iload_n 1), 1), ((.iconst 1), 1)]) (pc' := 13) (ls' := [some (.int x0), some (.int x1)]) (st' := [.int 1, .int x1]) (w' := w) (by decide +kernel) rfl ?_
      refine ok_br (P := x1 < 1) (off := 13) (t := 26) (by decide +kernel : decode m_C_isOpenSize.2.1 13 = .ok ((.if_icmp .lt 13), 3)) rfl rfl rfl rfl (fun c3 => ?_) (fun c3 => ?_)
      · skip
        exact o_C_isOpenSize_p26 (some (.int x0)) (some (.int x1)) w
      · skip
        refine ok_seg (L := [((.iload_n 1), 1), ((.bipush 6), 2)]) (pc' := 19) (ls' := [some (.int x0), some (.int x1)]) (st' := [.int 6, .int x1]) (w' := w) (by decide +kernel) rfl ?_
        refine ok_br (P := 6 < x1) (off := 7) (t := 26) (by decide +kernel : decode m_C_isOpenSize.2.1 19 = .ok ((.if_icmp .gt 7), 3)) rfl rfl rfl rfl (fun c4 => ?_) (fun c4 => ?_)
        · skip
          exact o_C_isOpenSize_p26 (some (.int x0)) (some (.int x1)) w
        · skip
          refine ok_seg (L := [((.iconst 1), 1)]) (pc' := 23) (ls' := [some (.int x0), some (.int x1)]) (st' := [.int 1]) (w' := w) (by decide +kernel) rfl ?_
          refine ok_goto (t := 27) (by decide +kernel : decode m_C_isOpenSize.2.1 23 = .ok ((.goto 4), 3)) rfl ?_
          exact o_C_isOpenSize_p27 1 (some (.int x0)) (some (.int x1)) w
-- m_C_openCells
def f_C_openCells_p32 (s0 : Int32) (w : am_W) : Option (am_W × Int32) := (some (w, s0))
def f_C_openCells_p31 (w : am_W) : Option (am_W × Int32) := (f_C_openCells_p32 (-1) w)
def e_C_openCells (x0 : Int32) (x1 : Int32) (w : am_W) : Option (am_W × Int32) := (if ((((x0 - 1) * 6) + x1) - 1) < 0 then (f_C_openCells_p31 w) else ((am_al w 1).bind fun v2 => (if v2 ≤ ((((x0 - 1) * 6) + x1) - 1) then (f_C_openCells_p31 w) else ((am_ai w 1 ((((x0 - 1) * 6) + x1) - 1)).bind fun v5 => (f_C_openCells_p32 v5 w)))))
def f_C_openCells (x0 : Int32) (x1 : Int32) (w : am_W) : Option (am_W × Int32) := e_C_openCells x0 x1 w
theorem o_C_openCells_p32 {d : Nat} (s0 : Int32) (y0 y1 y2 : Option Value) (w : am_W) : am_Ok am_ji (d + 0) m_C_openCells 32 [y0, y1, y2] [.int s0] w (f_C_openCells_p32 s0 w) := by
  unfold f_C_openCells_p32
  exact ok_ret (v := s0) (by decide +kernel : decode m_C_openCells.2.1 32 = .ok (.ireturn, 1)) rfl
theorem o_C_openCells_p31 {d : Nat} (y0 y1 y2 : Option Value) (w : am_W) : am_Ok am_ji (d + 0) m_C_openCells 31 [y0, y1, y2] [] w (f_C_openCells_p31 w) := by
  unfold f_C_openCells_p31
  refine ok_seg (L := [((.iconst (-1)), 1)]) (pc' := 32) (ls' := [y0, y1, y2]) (st' := [.int (-1)]) (w' := w) (by decide +kernel) rfl ?_
  exact o_C_openCells_p32 (-1) y0 y1 y2 w
theorem o_C_openCells (d : Nat) (x0 : Int32) (x1 : Int32) (w : am_W) : am_Ok am_ji (d + 0) m_C_openCells 0 (am_en m_C_openCells [.int x0, .int x1]) [] w (f_C_openCells x0 x1 w) := by
  show am_Ok _ _ _ 0 [some (.int x0), some (.int x1), none] [] w _
  unfold f_C_openCells
  unfold e_C_openCells
  refine ok_seg (L := [((.iload_n 0), 1), ((.iconst 1), 1), (.isub, 1), ((.bipush 6), 2), (.imul, 1), ((.iload_n 1), 1), (.iadd, 1), ((.iconst 1), 1), (.isub, 1), ((.istore_n 2), 1), ((.iload_n 2), 1)]) (pc' := 12) (ls' := [some (.int x0), some (.int x1), some (.int ((((x0 - 1) * 6) + x1) - 1))]) (st' := [.int ((((x0 - 1) * 6) + x1) - 1)]) (w' := w) (by decide +kernel) rfl ?_
  refine ok_br (P := ((((x0 - 1) * 6) + x1) - 1) < 0) (off := 19) (t := 31) (by decide +kernel : decode m_C_openCells.2.1 12 = .ok ((.ifCond .lt 19), 3)) rfl rfl rfl rfl (fun c1 => ?_) (fun c1 => ?_)
  · skip
    exact o_C_openCells_p31 (some (.int x0)) (some (.int x1)) (some (.int ((((x0 - 1) * 6) + x1) - 1))) w
  · skip
    refine ok_seg (L := [((.iload_n 2), 1), ((.getstatic 252), 3)]) (pc' := 19) (ls' := [some (.int x0), some (.int x1), some (.int ((((x0 - 1) * 6) + x1) - 1))]) (st' := [.ref 1, .int ((((x0 - 1) * 6) + x1) - 1)]) (w' := w) (by decide +kernel) rfl ?_
    refine ok_al (by decide +kernel : decode m_C_openCells.2.1 19 = .ok (.arraylength, 1)) (fun v2 h3 => ?_)
    refine ok_br (P := v2 ≤ ((((x0 - 1) * 6) + x1) - 1)) (off := 11) (t := 31) (by decide +kernel : decode m_C_openCells.2.1 20 = .ok ((.if_icmp .ge 11), 3)) rfl rfl rfl rfl (fun c4 => ?_) (fun c4 => ?_)
    · skip
      exact o_C_openCells_p31 (some (.int x0)) (some (.int x1)) (some (.int ((((x0 - 1) * 6) + x1) - 1))) w
    · skip
      refine ok_seg (L := [((.getstatic 252), 3), ((.iload_n 2), 1)]) (pc' := 27) (ls' := [some (.int x0), some (.int x1), some (.int ((((x0 - 1) * 6) + x1) - 1))]) (st' := [.int ((((x0 - 1) * 6) + x1) - 1), .ref 1]) (w' := w) (by decide +kernel) rfl ?_
      refine ok_ai (by decide +kernel : decode m_C_openCells.2.1 27 = .ok (.iaload, 1)) (fun v5 h6 => ?_)
      refine ok_goto (t := 32) (by decide +kernel : decode m_C_openCells.2.1 28 = .ok ((.goto 4), 3)) rfl ?_
      exact o_C_openCells_p32 v5 (some (.int x0)) (some (.int x1)) (some (.int ((((x0 - 1) * 6) + x1) - 1))) w
-- m_C_most
def f_C_most_p17 (s0 : Int32) (w : am_W) : Option (am_W × Int32) := (some (w, s0))
def e_C_most (x0 : Nat) (x1 : Int32) (x2 : Int32) (w : am_W) : Option (am_W × Int32) := ((f_C_isOpenSize (x1) (x2) w).bind fun r1 => (if r1.2 = 0 then (f_C_most_p17 (-1) r1.1) else ((f_C_openCells (x1) (x2) r1.1).bind fun r4 => (f_C_most_p17 r4.2 r4.1))))
def f_C_most (x0 : Nat) (x1 : Int32) (x2 : Int32) (w : am_W) : Option (am_W × Int32) := am_self w x0 0 (e_C_most x0 x1 x2 w)
theorem o_C_most_p17 {d : Nat} (s0 : Int32) (y0 y1 y2 : Option Value) (w : am_W) : am_Ok am_ji (d + 1) m_C_most 17 [y0, y1, y2] [.int s0] w (f_C_most_p17 s0 w) := by
  unfold f_C_most_p17
  exact ok_ret (v := s0) (by decide +kernel : decode m_C_most.2.1 17 = .ok (.ireturn, 1)) rfl
theorem o_C_most (d : Nat) (x0 : Nat) (x1 : Int32) (x2 : Int32) (w : am_W) : am_Ok am_ji (d + 1) m_C_most 0 (am_en m_C_most [.ref x0, .int x1, .int x2]) [] w (f_C_most x0 x1 x2 w) := by
  show am_Ok _ _ _ 0 [some (.ref x0), some (.int x1), some (.int x2)] [] w _
  unfold f_C_most
  refine ok_self ?_
  unfold e_C_most
  refine ok_seg (L := [((.iload_n 1), 1), ((.iload_n 2), 1)]) (pc' := 2) (ls' := [some (.ref x0), some (.int x1), some (.int x2)]) (st' := [.int x2, .int x1]) (w' := w) (by decide +kernel) rfl ?_
  refine ok_call0 (inj' := am_ji) (by decide +kernel : decode m_C_most.2.1 2 = .ok ((.invokestatic 160), 3)) rfl (fun _ _ => rfl) (o_C_isOpenSize (d + 0) (x1) (x2) w) (fun _ _ => rfl) (fun r1 h2 => ?_)
  refine ok_br (P := r1.2 = 0) (off := 11) (t := 16) (by decide +kernel : decode m_C_most.2.1 5 = .ok ((.ifCond .eq 11), 3)) rfl rfl rfl rfl (fun c3 => ?_) (fun c3 => ?_)
  · skip
    refine ok_seg (L := [((.iconst (-1)), 1)]) (pc' := 17) (ls' := [some (.ref x0), some (.int x1), some (.int x2)]) (st' := [.int (-1)]) (w' := r1.1) (by decide +kernel) rfl ?_
    exact o_C_most_p17 (-1) (some (.ref x0)) (some (.int x1)) (some (.int x2)) r1.1
  · skip
    refine ok_seg (L := [((.iload_n 1), 1), ((.iload_n 2), 1)]) (pc' := 10) (ls' := [some (.ref x0), some (.int x1), some (.int x2)]) (st' := [.int x2, .int x1]) (w' := r1.1) (by decide +kernel) rfl ?_
    refine ok_call0 (inj' := am_ji) (by decide +kernel : decode m_C_most.2.1 10 = .ok ((.invokestatic 164), 3)) rfl (fun _ _ => rfl) (o_C_openCells (d + 0) (x1) (x2) r1.1) (fun _ _ => rfl) (fun r4 h5 => ?_)
    refine ok_goto (t := 17) (by decide +kernel : decode m_C_most.2.1 13 = .ok ((.goto 4), 3)) rfl ?_
    exact o_C_most_p17 r4.2 (some (.ref x0)) (some (.int x1)) (some (.int x2)) r4.1
-- m_C_crowded
def f_C_crowded_p18 (w : am_W) : Option (am_W × Int32) := (some (w, (-1)))
def f_C_crowded_p38 (s0 : Int32) (w : am_W) : Option (am_W × Int32) := (some (w, s0))
def e_C_crowded (x0 : Nat) (x1 : Int32) (x2 : Int32) (x3 : Int32) (w : am_W) : Option (am_W × Int32) := ((f_C_isOpenSize (x1) (x2) w).bind fun r1 => (if r1.2 = 0 then (f_C_crowded_p18 r1.1) else (if x3 < 1 then (f_C_crowded_p18 r1.1) else (if x3 ≤ 4 then ((f_C_openCells (x1) (x2) r1.1).bind fun r6 => (if (x1 * x2) ≤ (r6.2 * x3) then (f_C_crowded_p38 0 r6.1) else (f_C_crowded_p38 1 r6.1))) else (f_C_crowded_p18 r1.1)))))
def f_C_crowded (x0 : Nat) (x1 : Int32) (x2 : Int32) (x3 : Int32) (w : am_W) : Option (am_W × Int32) := am_self w x0 0 (e_C_crowded x0 x1 x2 x3 w)
theorem o_C_crowded_p18 {d : Nat} (y0 y1 y2 y3 : Option Value) (w : am_W) : am_Ok am_ji (d + 1) m_C_crowded 18 [y0, y1, y2, y3] [] w (f_C_crowded_p18 w) := by
  unfold f_C_crowded_p18
  refine ok_seg (L := [((.iconst (-1)), 1)]) (pc' := 19) (ls' := [y0, y1, y2, y3]) (st' := [.int (-1)]) (w' := w) (by decide +kernel) rfl ?_
  exact ok_ret (v := (-1)) (by decide +kernel : decode m_C_crowded.2.1 19 = .ok (.ireturn, 1)) rfl
theorem o_C_crowded_p38 {d : Nat} (s0 : Int32) (y0 y1 y2 y3 : Option Value) (w : am_W) : am_Ok am_ji (d + 1) m_C_crowded 38 [y0, y1, y2, y3] [.int s0] w (f_C_crowded_p38 s0 w) := by
  unfold f_C_crowded_p38
  exact ok_ret (v := s0) (by decide +kernel : decode m_C_crowded.2.1 38 = .ok (.ireturn, 1)) rfl
theorem o_C_crowded (d : Nat) (x0 : Nat) (x1 : Int32) (x2 : Int32) (x3 : Int32) (w : am_W) : am_Ok am_ji (d + 1) m_C_crowded 0 (am_en m_C_crowded [.ref x0, .int x1, .int x2, .int x3]) [] w (f_C_crowded x0 x1 x2 x3 w) := by
  show am_Ok _ _ _ 0 [some (.ref x0), some (.int x1), some (.int x2), some (.int x3)] [] w _
  unfold f_C_crowded
  refine ok_self ?_
  unfold e_C_crowded
  refine ok_seg (L := [((.iload_n 1), 1), ((.iload_n 2), 1)]) (pc' := 2) (ls' := [some (.ref x0), some (.int x1), some (.int x2), some (.int x3)]) (st' := [.int x2, .int x1]) (w' := w) (by decide +kernel) rfl ?_
  refine ok_call0 (inj' := am_ji) (by decide +kernel : decode m_C_crowded.2.1 2 = .ok ((.invokestatic 160), 3)) rfl (fun _ _ => rfl) (o_C_isOpenSize (d + 0) (x1) (x2) w) (fun _ _ => rfl) (fun r1 h2 => ?_)
  refine ok_br (P := r1.2 = 0) (off := 13) (t := 18) (by decide +kernel : decode m_C_crowded.2.1 5 = .ok ((.ifCond .eq 13), 3)) rfl rfl rfl rfl (fun c3 => ?_) (fun c3 => ?_)
  · skip
    exact o_C_crowded_p18 (some (.ref x0)) (some (.int x1)) (some (.int x2)) (some (.int x3)) r1.1
  · skip
    refine ok_seg (L := [((.iload_n 3), 1), ((.iconst 1), 1)]) (pc' := 10) (ls' := [some (.ref x0), some (.int x1), some (.int x2), some (.int x3)]) (st' := [.int 1, .int x3]) (w' := r1.1) (by decide +kernel) rfl ?_
    refine ok_br (P := x3 < 1) (off := 8) (t := 18) (by decide +kernel : decode m_C_crowded.2.1 10 = .ok ((.if_icmp .lt 8), 3)) rfl rfl rfl rfl (fun c4 => ?_) (fun c4 => ?_)
    · skip
      exact o_C_crowded_p18 (some (.ref x0)) (some (.int x1)) (some (.int x2)) (some (.int x3)) r1.1
    · skip
      refine ok_seg (L := [((.iload_n 3), 1), ((.iconst 4), 1)]) (pc' := 15) (ls' := [some (.ref x0), some (.int x1), some (.int x2), some (.int x3)]) (st' := [.int 4, .int x3]) (w' := r1.1) (by decide +kernel) rfl ?_
      refine ok_br (P := x3 ≤ 4) (off := 5) (t := 20) (by decide +kernel : decode m_C_crowded.2.1 15 = .ok ((.if_icmp .le 5), 3)) rfl rfl rfl rfl (fun c5 => ?_) (fun c5 => ?_)
      · skip
        refine ok_seg (L := [((.iload_n 1), 1), ((.iload_n 2), 1)]) (pc' := 22) (ls' := [some (.ref x0), some (.int x1), some (.int x2), some (.int x3)]) (st' := [.int x2, .int x1]) (w' := r1.1) (by decide +kernel) rfl ?_
        refine ok_call0 (inj' := am_ji) (by decide +kernel : decode m_C_crowded.2.1 22 = .ok ((.invokestatic 164), 3)) rfl (fun _ _ => rfl) (o_C_openCells (d + 0) (x1) (x2) r1.1) (fun _ _ => rfl) (fun r6 h7 => ?_)
        refine ok_seg (L := [((.iload_n 3), 1), (.imul, 1), ((.iload_n 1), 1), ((.iload_n 2), 1), (.imul, 1)]) (pc' := 30) (ls' := [some (.ref x0), some (.int x1), some (.int x2), some (.int x3)]) (st' := [.int (x1 * x2), .int (r6.2 * x3)]) (w' := r6.1) (by decide +kernel) rfl ?_
        refine ok_br (P := (x1 * x2) ≤ (r6.2 * x3)) (off := 7) (t := 37) (by decide +kernel : decode m_C_crowded.2.1 30 = .ok ((.if_icmp .ge 7), 3)) rfl rfl rfl rfl (fun c8 => ?_) (fun c8 => ?_)
        · skip
          refine ok_seg (L := [((.iconst 0), 1)]) (pc' := 38) (ls' := [some (.ref x0), some (.int x1), some (.int x2), some (.int x3)]) (st' := [.int 0]) (w' := r6.1) (by decide +kernel) rfl ?_
          exact o_C_crowded_p38 0 (some (.ref x0)) (some (.int x1)) (some (.int x2)) (some (.int x3)) r6.1
        · skip
          refine ok_seg (L := [((.iconst 1), 1)]) (pc' := 34) (ls' := [some (.ref x0), some (.int x1), some (.int x2), some (.int x3)]) (st' := [.int 1]) (w' := r6.1) (by decide +kernel) rfl ?_
          refine ok_goto (t := 38) (by decide +kernel : decode m_C_crowded.2.1 34 = .ok ((.goto 4), 3)) rfl ?_
          exact o_C_crowded_p38 1 (some (.ref x0)) (some (.int x1)) (some (.int x2)) (some (.int x3)) r6.1
      · skip
        exact o_C_crowded_p18 (some (.ref x0)) (some (.int x1)) (some (.int x2)) (some (.int x3)) r1.1
-- m_C_paired
def f_C_paired_p32 (w : am_W) : Option (am_W × Int32) := (some (w, (-1)))
def f_C_paired_p85 (s0 : Int32) (w : am_W) : Option (am_W × Int32) := (some (w, s0))
def e_C_paired (x0 : Nat) (x1 : Int32) (x2 : Int32) (x3 : Int32) (w : am_W) : Option (am_W × Int32) := (if x1 < 1 then (f_C_paired_p32 w) else (if 99 < x1 then (f_C_paired_p32 w) else (if x2 < 1 then (f_C_paired_p32 w) else (if 99 < x2 then (f_C_paired_p32 w) else (if x3 < 1 then (f_C_paired_p32 w) else (if x3 ≤ 4 then (if x3 = 0 then none else (if x3 = 0 then none else ((f_C_pairsOf (((x2 / x3) + 1)) w).bind fun r9 => ((f_C_pairsOf ((x2 / x3)) r9.1).bind fun r11 => ((f_C_pairsOf (x2) r11.1).bind fun r13 => (if ((((x2 - x2 / x3 * x3) * r9.2) + ((x3 - (x2 - x2 / x3 * x3)) * r11.2)) * x1) ≤ (x3 * r13.2) then (f_C_paired_p85 0 r13.1) else (f_C_paired_p85 1 r13.1))))))) else (f_C_paired_p32 w)))))))
def f_C_paired (x0 : Nat) (x1 : Int32) (x2 : Int32) (x3 : Int32) (w : am_W) : Option (am_W × Int32) := am_self w x0 0 (e_C_paired x0 x1 x2 x3 w)
theorem o_C_paired_p32 {d : Nat} (y0 y1 y2 y3 y4 y5 y6 : Option Value) (w : am_W) : am_Ok am_ji (d + 1) m_C_paired 32 [y0, y1, y2, y3, y4, y5, y6] [] w (f_C_paired_p32 w) := by
  unfold f_C_paired_p32
  refine ok_seg (L := [((.iconst (-1)), 1)]) (pc' := 33) (ls' := [y0, y1, y2, y3, y4, y5, y6]) (st' := [.int (-1)]) (w' := w) (by decide +kernel) rfl ?_
  exact ok_ret (v := (-1)) (by decide +kernel : decode m_C_paired.2.1 33 = .ok (.ireturn, 1)) rfl
theorem o_C_paired_p85 {d : Nat} (s0 : Int32) (y0 y1 y2 y3 y4 y5 y6 : Option Value) (w : am_W) : am_Ok am_ji (d + 1) m_C_paired 85 [y0, y1, y2, y3, y4, y5, y6] [.int s0] w (f_C_paired_p85 s0 w) := by
  unfold f_C_paired_p85
  exact ok_ret (v := s0) (by decide +kernel : decode m_C_paired.2.1 85 = .ok (.ireturn, 1)) rfl
theorem o_C_paired (d : Nat) (x0 : Nat) (x1 : Int32) (x2 : Int32) (x3 : Int32) (w : am_W) : am_Ok am_ji (d + 1) m_C_paired 0 (am_en m_C_paired [.ref x0, .int x1, .int x2, .int x3]) [] w (f_C_paired x0 x1 x2 x3 w) := by
  show am_Ok _ _ _ 0 [some (.ref x0), some (.int x1), some (.int x2), some (.int x3), none, none, none] [] w _
  unfold f_C_paired
  refine ok_self ?_
  unfold e_C_paired
  refine ok_seg (L := [((.iload_n 1), 1), ((.iconst 1), 1)]) (pc' := 2) (ls' := [some (.ref x0), some (.int x1), some (.int x2), some (.int x3), none, none, none]) (st' := [.int 1, .int x1]) (w' := w) (by decide +kernel) rfl ?_
  refine ok_br (P := x1 < 1) (off := 30) (t := 32) (by decide +kernel : decode m_C_paired.2.1 2 = .ok ((.if_icmp .lt 30), 3)) rfl rfl rfl rfl (fun c1 => ?_) (fun c1 => ?_)
  · skip
    exact o_C_paired_p32 (some (.ref x0)) (some (.int x1)) (some (.int x2)) (some (.int x3)) none none none w
  · skip
    refine ok_seg (L := [((.iload_n 1), 1), ((.bipush 99), 2)]) (pc' := 8) (ls' := [some (.ref x0), some (.int x1), some (.int x2), some (.int x3), none, none, none]) (st' := [.int 99, .int x1]) (w' := w) (by decide +kernel) rfl ?_
    refine ok_br (P := 99 < x1) (off := 24) (t := 32) (by decide +kernel : decode m_C_paired.2.1 8 = .ok ((.if_icmp .gt 24), 3)) rfl rfl rfl rfl (fun c2 => ?_) (fun c2 => ?_)
    · skip
      exact o_C_paired_p32 (some (.ref x0)) (some (.int x1)) (some (.int x2)) (some (.int x3)) none none none w
    · skip
      refine ok_seg (L := [((.iload_n 2), 1), ((.iconst 1), 1)]) (pc' := 13) (ls' := [some (.ref x0), some (.int x1), some (.int x2), some (.int x3), none, none, none]) (st' := [.int 1, .int x2]) (w' := w) (by decide +kernel) rfl ?_
      refine ok_br (P := x2 < 1) (off := 19) (t := 32) (by decide +kernel : decode m_C_paired.2.1 13 = .ok ((.if_icmp .lt 19), 3)) rfl rfl rfl rfl (fun c3 => ?_) (fun c3 => ?_)
      · skip
        exact o_C_paired_p32 (some (.ref x0)) (some (.int x1)) (some (.int x2)) (some (.int x3)) none none none w
      · skip
        refine ok_seg (L := [((.iload_n 2), 1), ((.bipush 99), 2)]) (pc' := 19) (ls' := [some (.ref x0), some (.int x1), some (.int x2), some (.int x3), none, none, none]) (st' := [.int 99, .int x2]) (w' := w) (by decide +kernel) rfl ?_
        refine ok_br (P := 99 < x2) (off := 13) (t := 32) (by decide +kernel : decode m_C_paired.2.1 19 = .ok ((.if_icmp .gt 13), 3)) rfl rfl rfl rfl (fun c4 => ?_) (fun c4 => ?_)
        · skip
          exact o_C_paired_p32 (some (.ref x0)) (some (.int x1)) (some (.int x2)) (some (.int x3)) none none none w
        · skip
          refine ok_seg (L := [((.iload_n 3), 1), ((.iconst 1), 1)]) (pc' := 24) (ls' := [some (.ref x0), some (.int x1), some (.int x2), some (.int x3), none, none, none]) (st' := [.int 1, .int x3]) (w' := w) (by decide +kernel) rfl ?_
          refine ok_br (P := x3 < 1) (off := 8) (t := 32) (by decide +kernel : decode m_C_paired.2.1 24 = .ok ((.if_icmp .lt 8), 3)) rfl rfl rfl rfl (fun c5 => ?_) (fun c5 => ?_)
          · skip
            exact o_C_paired_p32 (some (.ref x0)) (some (.int x1)) (some (.int x2)) (some (.int x3)) none none none w
          · skip
            refine ok_seg (L := [((.iload_n 3), 1), ((.iconst 4), 1)]) (pc' := 29) (ls' := [some (.ref x0), some (.int x1), some (.int x2), some (.int x3), none, none, none]) (st' := [.int 4, .int x3]) (w' := w) (by decide +kernel) rfl ?_
            refine ok_br (P := x3 ≤ 4) (off := 5) (t := 34) (by decide +kernel : decode m_C_paired.2.1 29 = .ok ((.if_icmp .le 5), 3)) rfl rfl rfl rfl (fun c6 => ?_) (fun c6 => ?_)
            · skip
              refine ok_seg (L := [((.iload_n 2), 1), ((.iload_n 3), 1)]) (pc' := 36) (ls' := [some (.ref x0), some (.int x1), some (.int x2), some (.int x3), none, none, none]) (st' := [.int x3, .int x2]) (w' := w) (by decide +kernel) rfl ?_
              refine ok_div (by decide +kernel : decode m_C_paired.2.1 36 = .ok (.idiv, 1)) (fun c7 => ?_)
              refine ok_seg (L := [((.istore 4), 2), ((.iload_n 2), 1), ((.iload_n 3), 1)]) (pc' := 41) (ls' := [some (.ref x0), some (.int x1), some (.int x2), some (.int x3), some (.int (x2 / x3)), none, none]) (st' := [.int x3, .int x2]) (w' := w) (by decide +kernel) rfl ?_
              refine ok_rem (by decide +kernel : decode m_C_paired.2.1 41 = .ok (.irem, 1)) (fun c8 => ?_)
              refine ok_seg (L := [((.istore 5), 2), ((.iload 5), 2), ((.iload 4), 2), ((.iconst 1), 1), (.iadd, 1)]) (pc' := 50) (ls' := [some (.ref x0), some (.int x1), some (.int x2), some (.int x3), some (.int (x2 / x3)), some (.int (x2 - x2 / x3 * x3)), none]) (st' := [.int ((x2 / x3) + 1), .int (x2 - x2 / x3 * x3)]) (w' := w) (by decide +kernel) rfl ?_
              refine ok_call0 (inj' := am_ji) (by decide +kernel : decode m_C_paired.2.1 50 = .ok ((.invokestatic 167), 3)) rfl (fun _ _ => rfl) (o_C_pairsOf (d + 0) (((x2 / x3) + 1)) w) (fun _ _ => rfl) (fun r9 h10 => ?_)
              refine ok_seg (L := [(.imul, 1), ((.iload_n 3), 1), ((.iload 5), 2), (.isub, 1), ((.iload 4), 2)]) (pc' := 60) (ls' := [some (.ref x0), some (.int x1), some (.int x2), some (.int x3), some (.int (x2 / x3)), some (.int (x2 - x2 / x3 * x3)), none]) (st' := [.int (x2 / x3), .int (x3 - (x2 - x2 / x3 * x3)), .int ((x2 - x2 / x3 * x3) * r9.2)]) (w' := r9.1) (by decide +kernel) rfl ?_
              refine ok_call0 (inj' := am_ji) (by decide +kernel : decode m_C_paired.2.1 60 = .ok ((.invokestatic 167), 3)) rfl (fun _ _ => rfl) (o_C_pairsOf (d + 0) ((x2 / x3)) r9.1) (fun _ _ => rfl) (fun r11 h12 => ?_)
              refine ok_seg (L := [(.imul, 1), (.iadd, 1), ((.istore 6), 2), ((.iload 6), 2), ((.iload_n 1), 1), (.imul, 1), ((.iload_n 3), 1), ((.iload_n 2), 1)]) (pc' := 73) (ls' := [some (.ref x0), some (.int x1), some (.int x2), some (.int x3), some (.int (x2 / x3)), some (.int (x2 - x2 / x3 * x3)), some (.int (((x2 - x2 / x3 * x3) * r9.2) + ((x3 - (x2 - x2 / x3 * x3)) * r11.2)))]) (st' := [.int x2, .int x3, .int ((((x2 - x2 / x3 * x3) * r9.2) + ((x3 - (x2 - x2 / x3 * x3)) * r11.2)) * x1)]) (w' := r11.1) (by decide +kernel) rfl ?_
              refine ok_call0 (inj' := am_ji) (by decide +kernel : decode m_C_paired.2.1 73 = .ok ((.invokestatic 167), 3)) rfl (fun _ _ => rfl) (o_C_pairsOf (d + 0) (x2) r11.1) (fun _ _ => rfl) (fun r13 h14 => ?_)
              refine ok_seg (L := [(.imul, 1)]) (pc' := 77) (ls' := [some (.ref x0), some (.int x1), some (.int x2), some (.int x3), some (.int (x2 / x3)), some (.int (x2 - x2 / x3 * x3)), some (.int (((x2 - x2 / x3 * x3) * r9.2) + ((x3 - (x2 - x2 / x3 * x3)) * r11.2)))]) (st' := [.int (x3 * r13.2), .int ((((x2 - x2 / x3 * x3) * r9.2) + ((x3 - (x2 - x2 / x3 * x3)) * r11.2)) * x1)]) (w' := r13.1) (by decide +kernel) rfl ?_
              refine ok_br (P := ((((x2 - x2 / x3 * x3) * r9.2) + ((x3 - (x2 - x2 / x3 * x3)) * r11.2)) * x1) ≤ (x3 * r13.2)) (off := 7) (t := 84) (by decide +kernel : decode m_C_paired.2.1 77 = .ok ((.if_icmp .le 7), 3)) rfl rfl rfl rfl (fun c15 => ?_) (fun c15 => ?_)
              · skip
                refine ok_seg (L := [((.iconst 0), 1)]) (pc' := 85) (ls' := [some (.ref x0), some (.int x1), some (.int x2), some (.int x3), some (.int (x2 / x3)), some (.int (x2 - x2 / x3 * x3)), some (.int (((x2 - x2 / x3 * x3) * r9.2) + ((x3 - (x2 - x2 / x3 * x3)) * r11.2)))]) (st' := [.int 0]) (w' := r13.1) (by decide +kernel) rfl ?_
                exact o_C_paired_p85 0 (some (.ref x0)) (some (.int x1)) (some (.int x2)) (some (.int x3)) (some (.int (x2 / x3))) (some (.int (x2 - x2 / x3 * x3))) (some (.int (((x2 - x2 / x3 * x3) * r9.2) + ((x3 - (x2 - x2 / x3 * x3)) * r11.2)))) r13.1
              · skip
                refine ok_seg (L := [((.iconst 1), 1)]) (pc' := 81) (ls' := [some (.ref x0), some (.int x1), some (.int x2), some (.int x3), some (.int (x2 / x3)), some (.int (x2 - x2 / x3 * x3)), some (.int (((x2 - x2 / x3 * x3) * r9.2) + ((x3 - (x2 - x2 / x3 * x3)) * r11.2)))]) (st' := [.int 1]) (w' := r13.1) (by decide +kernel) rfl ?_
                refine ok_goto (t := 85) (by decide +kernel : decode m_C_paired.2.1 81 = .ok ((.goto 4), 3)) rfl ?_
                exact o_C_paired_p85 1 (some (.ref x0)) (some (.int x1)) (some (.int x2)) (some (.int x3)) (some (.int (x2 / x3))) (some (.int (x2 - x2 / x3 * x3))) (some (.int (((x2 - x2 / x3 * x3) * r9.2) + ((x3 - (x2 - x2 / x3 * x3)) * r11.2)))) r13.1
            · skip
              exact o_C_paired_p32 (some (.ref x0)) (some (.int x1)) (some (.int x2)) (some (.int x3)) none none none w
-- m_G_exists
def f_G_exists_p12 (s0 : Int32) (w : am_W) : Option (am_W × Int32) := (am_rb w s0)
def e_G_exists (x0 : Nat) (w : am_W) : Option (am_W × Int32) := ((am_gi w x0 1 1).bind fun v1 => (if v1 ≤ 0 then (f_G_exists_p12 0 w) else (f_G_exists_p12 1 w)))
def f_G_exists (x0 : Nat) (w : am_W) : Option (am_W × Int32) := am_self w x0 1 (e_G_exists x0 w)
theorem o_G_exists_p12 {d : Nat} (s0 : Int32) (y0 : Option Value) (w : am_W) : am_Ok am_ji (d + 0) m_G_exists 12 [y0] [.int s0] w (f_G_exists_p12 s0 w) := by
  unfold f_G_exists_p12
  exact ok_retb (len := 1) (by decide +kernel : decode m_G_exists.2.1 12 = .ok (.ireturn, 1)) rfl
theorem o_G_exists (d : Nat) (x0 : Nat) (w : am_W) : am_Ok am_ji (d + 0) m_G_exists 0 (am_en m_G_exists [.ref x0]) [] w (f_G_exists x0 w) := by
  show am_Ok _ _ _ 0 [some (.ref x0)] [] w _
  unfold f_G_exists
  refine ok_self ?_
  unfold e_G_exists
  refine ok_seg (L := [((.aload_n 0), 1)]) (pc' := 1) (ls' := [some (.ref x0)]) (st' := [.ref x0]) (w' := w) (by decide +kernel) rfl ?_
  refine ok_gi (by decide +kernel : decode m_G_exists.2.1 1 = .ok ((.getfield 15), 3)) rfl (fun v1 h2 => ?_)
  refine ok_br (P := v1 ≤ 0) (off := 7) (t := 11) (by decide +kernel : decode m_G_exists.2.1 4 = .ok ((.ifCond .le 7), 3)) rfl rfl rfl rfl (fun c3 => ?_) (fun c3 => ?_)
  · skip
    refine ok_seg (L := [((.iconst 0), 1)]) (pc' := 12) (ls' := [some (.ref x0)]) (st' := [.int 0]) (w' := w) (by decide +kernel) rfl ?_
    exact o_G_exists_p12 0 (some (.ref x0)) w
  · skip
    refine ok_seg (L := [((.iconst 1), 1)]) (pc' := 8) (ls' := [some (.ref x0)]) (st' := [.int 1]) (w' := w) (by decide +kernel) rfl ?_
    refine ok_goto (t := 12) (by decide +kernel : decode m_G_exists.2.1 8 = .ok ((.goto 4), 3)) rfl ?_
    exact o_G_exists_p12 1 (some (.ref x0)) w
-- m_S_outcome
def e_S_outcome (x0 : Nat) (w : am_W) : Option (am_W × Int32) := ((am_gi w x0 4 5).bind fun v1 => (some (w, v1)))
def f_S_outcome (x0 : Nat) (w : am_W) : Option (am_W × Int32) := am_self w x0 4 (e_S_outcome x0 w)
theorem o_S_outcome (d : Nat) (x0 : Nat) (w : am_W) : am_Ok am_ji (d + 0) m_S_outcome 0 (am_en m_S_outcome [.ref x0]) [] w (f_S_outcome x0 w) := by
  show am_Ok _ _ _ 0 [some (.ref x0)] [] w _
  unfold f_S_outcome
  refine ok_self ?_
  unfold e_S_outcome
  refine ok_seg (L := [((.aload_n 0), 1)]) (pc' := 1) (ls' := [some (.ref x0)]) (st' := [.ref x0]) (w' := w) (by decide +kernel) rfl ?_
  refine ok_gi (by decide +kernel : decode m_S_outcome.2.1 1 = .ok ((.getfield 32), 3)) rfl (fun v1 h2 => ?_)
  exact ok_ret (v := v1) (by decide +kernel : decode m_S_outcome.2.1 4 = .ok (.ireturn, 1)) rfl
-- m_G_isSame
def f_G_isSame_p33 (w : am_W) : Option (am_W × Int32) := (some (w, 0))
def f_G_isSame_p37 : Nat → Nat → Nat → Int32 → am_W → Option (am_W × Int32)
  | 0, _, _, _, _ => none
  | n + 1, x0, x1, x2, w => ((am_gr w x0 1 0).bind fun v1 => ((am_al w v1).bind fun v3 => (if v3 ≤ x2 then (some (w, 1)) else ((am_gr w x0 1 0).bind fun v6 => ((am_aj w v6 x2).bind fun v8 => ((f_G_cellsOf (x1) (x2) w).bind fun r10 => (if (lg_cmp v8 r10.2) = 0 then (f_G_isSame_p37 n x0 x1 (x2 + 1) r10.1) else (some (r10.1, 0)))))))))
def e_G_isSame (x0 : Nat) (x1 : Nat) (w : am_W) : Option (am_W × Int32) := ((am_gi w x0 1 1).bind fun v13 => ((am_gi w x1 1 1).bind fun v15 => (if ¬ v13 = v15 then (f_G_isSame_p33 w) else ((am_gi w x0 1 2).bind fun v18 => ((am_gi w x1 1 2).bind fun v20 => (if ¬ v18 = v20 then (f_G_isSame_p33 w) else ((am_gi w x0 1 3).bind fun v23 => ((am_gi w x1 1 3).bind fun v25 => (if v23 = v25 then (f_G_isSame_p37 am_N x0 x1 0 w) else (f_G_isSame_p33 w))))))))))
def f_G_isSame (x0 : Nat) (x1 : Nat) (w : am_W) : Option (am_W × Int32) := am_self w x0 1 (e_G_isSame x0 x1 w)
theorem o_G_isSame_p33 {d : Nat} (y0 y1 y2 : Option Value) (w : am_W) : am_Ok am_ji (d + 1) m_G_isSame 33 [y0, y1, y2] [] w (f_G_isSame_p33 w) := by
  unfold f_G_isSame_p33
  refine ok_seg (L := [((.iconst 0), 1)]) (pc' := 34) (ls' := [y0, y1, y2]) (st' := [.int 0]) (w' := w) (by decide +kernel) rfl ?_
  exact ok_ret (v := 0) (by decide +kernel : decode m_G_isSame.2.1 34 = .ok (.ireturn, 1)) rfl
theorem o_G_isSame_p37 {d : Nat} : ∀ (n : Nat) (x0 : Nat) (x1 : Nat) (x2 : Int32) (w : am_W), am_Ok am_ji (d + 1) m_G_isSame 37 [some (.ref x0), some (.ref x1), some (.int x2)] [] w (f_G_isSame_p37 n x0 x1 x2 w) := by
  intro n
  induction n with
  | zero => intros; exact ok_none
  | succ n ih =>
    intro x0 x1 x2 w
    unfold f_G_isSame_p37
    refine ok_seg (L := [((.iload_n 2), 1), ((.aload_n 0), 1)]) (pc' := 39) (ls' := [some (.ref x0), some (.ref x1), some (.int x2)]) (st' := [.ref x0, .int x2]) (w' := w) (by decide +kernel) rfl ?_
    refine ok_gr (by decide +kernel : decode m_G_isSame.2.1 39 = .ok ((.getfield 9), 3)) rfl (by decide) (fun v1 h2 => ?_)
    refine ok_al (by decide +kernel : decode m_G_isSame.2.1 42 = .ok (.arraylength, 1)) (fun v3 h4 => ?_)
    refine ok_br (P := v3 ≤ x2) (off := 26) (t := 69) (by decide +kernel : decode m_G_isSame.2.1 43 = .ok ((.if_icmp .ge 26), 3)) rfl rfl rfl rfl (fun c5 => ?_) (fun c5 => ?_)
    · skip
      refine ok_seg (L := [((.iconst 1), 1)]) (pc' := 70) (ls' := [some (.ref x0), some (.ref x1), some (.int x2)]) (st' := [.int 1]) (w' := w) (by decide +kernel) rfl ?_
      exact ok_ret (v := 1) (by decide +kernel : decode m_G_isSame.2.1 70 = .ok (.ireturn, 1)) rfl
    · skip
      refine ok_seg (L := [((.aload_n 0), 1)]) (pc' := 47) (ls' := [some (.ref x0), some (.ref x1), some (.int x2)]) (st' := [.ref x0]) (w' := w) (by decide +kernel) rfl ?_
      refine ok_gr (by decide +kernel : decode m_G_isSame.2.1 47 = .ok ((.getfield 9), 3)) rfl (by decide) (fun v6 h7 => ?_)
      refine ok_seg (L := [((.iload_n 2), 1)]) (pc' := 51) (ls' := [some (.ref x0), some (.ref x1), some (.int x2)]) (st' := [.int x2, .ref v6]) (w' := w) (by decide +kernel) rfl ?_
      refine ok_aj (by decide +kernel : decode m_G_isSame.2.1 51 = .ok (.laload, 1)) (fun v8 h9 => ?_)
      refine ok_seg (L := [((.aload_n 1), 1), ((.iload_n 2), 1)]) (pc' := 54) (ls' := [some (.ref x0), some (.ref x1), some (.int x2)]) (st' := [.int x2, .ref x1, .long v8]) (w' := w) (by decide +kernel) rfl ?_
      refine ok_call0 (inj' := am_jj) (by decide +kernel : decode m_G_isSame.2.1 54 = .ok ((.invokevirtual 31), 3)) rfl (fun q hq => am_iv0 (am_self_eq hq).1 rfl rfl rfl) (o_G_cellsOf (d + 0) (x1) (x2) w) (fun _ _ => rfl) (fun r10 h11 => ?_)
      refine ok_seg (L := [(.lcmp, 1)]) (pc' := 58) (ls' := [some (.ref x0), some (.ref x1), some (.int x2)]) (st' := [.int (lg_cmp v8 r10.2)]) (w' := r10.1) (by decide +kernel) rfl ?_
      refine ok_br (P := (lg_cmp v8 r10.2) = 0) (off := 5) (t := 63) (by decide +kernel : decode m_G_isSame.2.1 58 = .ok ((.ifCond .eq 5), 3)) rfl rfl rfl rfl (fun c12 => ?_) (fun c12 => ?_)
      · skip
        refine ok_seg (L := [((.iinc 2 1), 3)]) (pc' := 66) (ls' := [some (.ref x0), some (.ref x1), some (.int (x2 + 1))]) (st' := []) (w' := r10.1) (by decide +kernel) rfl ?_
        refine ok_goto (t := 37) (by decide +kernel : decode m_G_isSame.2.1 66 = .ok ((.goto (-29)), 3)) rfl ?_
        exact ih x0 x1 (x2 + 1) r10.1
      · skip
        refine ok_seg (L := [((.iconst 0), 1)]) (pc' := 62) (ls' := [some (.ref x0), some (.ref x1), some (.int x2)]) (st' := [.int 0]) (w' := r10.1) (by decide +kernel) rfl ?_
        exact ok_ret (v := 0) (by decide +kernel : decode m_G_isSame.2.1 62 = .ok (.ireturn, 1)) rfl
theorem o_G_isSame (d : Nat) (x0 : Nat) (x1 : Nat) (w : am_W) : am_Ok am_ji (d + 1) m_G_isSame 0 (am_en m_G_isSame [.ref x0, .ref x1]) [] w (f_G_isSame x0 x1 w) := by
  show am_Ok _ _ _ 0 [some (.ref x0), some (.ref x1), none] [] w _
  unfold f_G_isSame
  refine ok_self ?_
  unfold e_G_isSame
  refine ok_seg (L := [((.aload_n 0), 1)]) (pc' := 1) (ls' := [some (.ref x0), some (.ref x1), none]) (st' := [.ref x0]) (w' := w) (by decide +kernel) rfl ?_
  refine ok_gi (by decide +kernel : decode m_G_isSame.2.1 1 = .ok ((.getfield 15), 3)) rfl (fun v13 h14 => ?_)
  refine ok_seg (L := [((.aload_n 1), 1)]) (pc' := 5) (ls' := [some (.ref x0), some (.ref x1), none]) (st' := [.ref x1, .int v13]) (w' := w) (by decide +kernel) rfl ?_
  refine ok_gi (by decide +kernel : decode m_G_isSame.2.1 5 = .ok ((.getfield 15), 3)) rfl (fun v15 h16 => ?_)
  refine ok_br (P := ¬ v13 = v15) (off := 25) (t := 33) (by decide +kernel : decode m_G_isSame.2.1 8 = .ok ((.if_icmp .ne 25), 3)) rfl rfl rfl rfl (fun c17 => ?_) (fun c17 => ?_)
  · skip
    exact o_G_isSame_p33 (some (.ref x0)) (some (.ref x1)) none w
  · skip
    refine ok_seg (L := [((.aload_n 0), 1)]) (pc' := 12) (ls' := [some (.ref x0), some (.ref x1), none]) (st' := [.ref x0]) (w' := w) (by decide +kernel) rfl ?_
    refine ok_gi (by decide +kernel : decode m_G_isSame.2.1 12 = .ok ((.getfield 19), 3)) rfl (fun v18 h19 => ?_)
    refine ok_seg (L := [((.aload_n 1), 1)]) (pc' := 16) (ls' := [some (.ref x0), some (.ref x1), none]) (st' := [.ref x1, .int v18]) (w' := w) (by decide +kernel) rfl ?_
    refine ok_gi (by decide +kernel : decode m_G_isSame.2.1 16 = .ok ((.getfield 19), 3)) rfl (fun v20 h21 => ?_)
    refine ok_br (P := ¬ v18 = v20) (off := 14) (t := 33) (by decide +kernel : decode m_G_isSame.2.1 19 = .ok ((.if_icmp .ne 14), 3)) rfl rfl rfl rfl (fun c22 => ?_) (fun c22 => ?_)
    · skip
      exact o_G_isSame_p33 (some (.ref x0)) (some (.ref x1)) none w
    · skip
      refine ok_seg (L := [((.aload_n 0), 1)]) (pc' := 23) (ls' := [some (.ref x0), some (.ref x1), none]) (st' := [.ref x0]) (w' := w) (by decide +kernel) rfl ?_
      refine ok_gi (by decide +kernel : decode m_G_isSame.2.1 23 = .ok ((.getfield 22), 3)) rfl (fun v23 h24 => ?_)
      refine ok_seg (L := [((.aload_n 1), 1)]) (pc' := 27) (ls' := [some (.ref x0), some (.ref x1), none]) (st' := [.ref x1, .int v23]) (w' := w) (by decide +kernel) rfl ?_
      refine ok_gi (by decide +kernel : decode m_G_isSame.2.1 27 = .ok ((.getfield 22), 3)) rfl (fun v25 h26 => ?_)
      refine ok_br (P := v23 = v25) (off := 5) (t := 35) (by decide +kernel : decode m_G_isSame.2.1 30 = .ok ((.if_icmp .eq 5), 3)) rfl rfl rfl rfl (fun c27 => ?_) (fun c27 => ?_)
      · skip
        refine ok_seg (L := [((.iconst 0), 1), ((.istore_n 2), 1)]) (pc' := 37) (ls' := [some (.ref x0), some (.ref x1), some (.int 0)]) (st' := []) (w' := w) (by decide +kernel) rfl ?_
        exact o_G_isSame_p37 am_N x0 x1 0 w
      · skip
        exact o_G_isSame_p33 (some (.ref x0)) (some (.ref x1)) none w
-- m_S_colourBlank
def f_S_colourBlank_p13 (w : am_W) : Option (am_W × Int32) := (some (w, (-1)))
def f_S_colourBlank_p101 (x0 : Nat) (x1 : Int32) (x2 : Int32) (w : am_W) : Option (am_W × Int32) := ((am_gr w x0 4 1).bind fun v1 => ((f_G_put (v1) (x2) (0) w).bind fun r3 => (some (r3.1, (x1 - 1)))))
def f_S_colourBlank_p36 : Nat → Nat → Int32 → Int32 → Int32 → am_W → Option (am_W × Int32)
  | 0, _, _, _, _, _ => none
  | n + 1, x0, x1, x2, x4, w => ((am_gr w x0 4 1).bind fun v5 => ((f_G_shades (v5) w).bind fun r7 => (if r7.2 < x4 then (f_S_colourBlank_p101 x0 x1 x2 r7.1) else ((am_gi r7.1 x0 4 4).bind fun v10 => (if 20000 ≤ v10 then (f_S_colourBlank_p101 x0 x1 x2 r7.1) else ((am_gi r7.1 x0 4 4).bind fun v13 => ((am_pv r7.1 x0 4 4 (.int (v13 + 1))).bind fun w15 => ((am_gr w15 x0 4 1).bind fun v17 => ((f_G_countThrough (v17) (x2) (x4) w15).bind fun r19 => (if ¬ r19.2 = 0 then (f_S_colourBlank_p36 n x0 x1 x2 (x4 + 1) r19.1) else ((am_gr r19.1 x0 4 1).bind fun v22 => ((f_G_put (v22) (x2) (x4) r19.1).bind fun r24 => (some (r24.1, (x1 + 1)))))))))))))))
def e_S_colourBlank (x0 : Nat) (x1 : Int32) (w : am_W) : Option (am_W × Int32) := (if x1 < 0 then (f_S_colourBlank_p13 w) else ((am_gr w x0 4 2).bind fun v27 => ((am_al w v27).bind fun v29 => (if x1 < v29 then ((am_gr w x0 4 2).bind fun v32 => ((am_ai w v32 x1).bind fun v34 => ((am_gr w x0 4 1).bind fun v36 => ((f_G_colourOf (v36) (v34) w).bind fun r38 => (f_S_colourBlank_p36 am_N x0 x1 v34 (r38.2 + 1) r38.1))))) else (f_S_colourBlank_p13 w)))))
def f_S_colourBlank (x0 : Nat) (x1 : Int32) (w : am_W) : Option (am_W × Int32) := am_self w x0 4 (e_S_colourBlank x0 x1 w)
theorem o_S_colourBlank_p13 {d : Nat} (y0 y1 y2 y3 y4 : Option Value) (w : am_W) : am_Ok am_ji (d + 2) m_S_colourBlank 13 [y0, y1, y2, y3, y4] [] w (f_S_colourBlank_p13 w) := by
  unfold f_S_colourBlank_p13
  refine ok_seg (L := [((.iconst (-1)), 1)]) (pc' := 14) (ls' := [y0, y1, y2, y3, y4]) (st' := [.int (-1)]) (w' := w) (by decide +kernel) rfl ?_
  exact ok_ret (v := (-1)) (by decide +kernel : decode m_S_colourBlank.2.1 14 = .ok (.ireturn, 1)) rfl
theorem o_S_colourBlank_p101 {d : Nat} (x0 : Nat) (x1 : Int32) (x2 : Int32) (y3 y4 : Option Value) (w : am_W) : am_Ok am_ji (d + 2) m_S_colourBlank 101 [some (.ref x0), some (.int x1), some (.int x2), y3, y4] [] w (f_S_colourBlank_p101 x0 x1 x2 w) := by
  unfold f_S_colourBlank_p101
  refine ok_seg (L := [((.aload_n 0), 1)]) (pc' := 102) (ls' := [some (.ref x0), some (.int x1), some (.int x2), y3, y4]) (st' := [.ref x0]) (w' := w) (by decide +kernel) rfl ?_
  refine ok_gr (by decide +kernel : decode m_S_colourBlank.2.1 102 = .ok ((.getfield 18), 3)) rfl (by decide) (fun v1 h2 => ?_)
  refine ok_seg (L := [((.iload_n 2), 1), ((.iconst 0), 1)]) (pc' := 107) (ls' := [some (.ref x0), some (.int x1), some (.int x2), y3, y4]) (st' := [.int 0, .int x2, .ref v1]) (w' := w) (by decide +kernel) rfl ?_
  refine ok_call0 (inj' := am_jv) (by decide +kernel : decode m_S_colourBlank.2.1 107 = .ok ((.invokevirtual 72), 3)) rfl (fun q hq => am_iv0 (am_self_eq hq).1 rfl rfl rfl) (o_G_put (d + 0) (v1) (x2) (0) w) (fun _ _ => rfl) (fun r3 h4 => ?_)
  refine ok_seg (L := [((.iload_n 1), 1), ((.iconst 1), 1), (.isub, 1)]) (pc' := 113) (ls' := [some (.ref x0), some (.int x1), some (.int x2), y3, y4]) (st' := [.int (x1 - 1)]) (w' := r3.1) (by decide +kernel) rfl ?_
  exact ok_ret (v := (x1 - 1)) (by decide +kernel : decode m_S_colourBlank.2.1 113 = .ok (.ireturn, 1)) rfl
theorem o_S_colourBlank_p36 {d : Nat} : ∀ (n : Nat) (x0 : Nat) (x1 : Int32) (x2 : Int32) (x4 : Int32) (y3 : Option Value) (w : am_W), am_Ok am_ji (d + 2) m_S_colourBlank 36 [some (.ref x0), some (.int x1), some (.int x2), y3, some (.int x4)] [] w (f_S_colourBlank_p36 n x0 x1 x2 x4 w) := by
  intro n
  induction n with
  | zero => intros; exact ok_none
  | succ n ih =>
    intro x0 x1 x2 x4 y3 w
    unfold f_S_colourBlank_p36
    refine ok_seg (L := [((.iload 4), 2), ((.aload_n 0), 1)]) (pc' := 39) (ls' := [some (.ref x0), some (.int x1), some (.int x2), y3, some (.int x4)]) (st' := [.ref x0, .int x4]) (w' := w) (by decide +kernel) rfl ?_
    refine ok_gr (by decide +kernel : decode m_S_colourBlank.2.1 39 = .ok ((.getfield 18), 3)) rfl (by decide) (fun v5 h6 => ?_)
    refine ok_call0 (inj' := am_ji) (by decide +kernel : decode m_S_colourBlank.2.1 42 = .ok ((.invokevirtual 65), 3)) rfl (fun q hq => am_iv0 (am_self_eq hq).1 rfl rfl rfl) (o_G_shades (d + 1) (v5) w) (fun _ _ => rfl) (fun r7 h8 => ?_)
    refine ok_br (P := r7.2 < x4) (off := 56) (t := 101) (by decide +kernel : decode m_S_colourBlank.2.1 45 = .ok ((.if_icmp .gt 56), 3)) rfl rfl rfl rfl (fun c9 => ?_) (fun c9 => ?_)
    · skip
      exact o_S_colourBlank_p101 x0 x1 x2 y3 (some (.int x4)) r7.1
    · skip
      refine ok_seg (L := [((.aload_n 0), 1)]) (pc' := 49) (ls' := [some (.ref x0), some (.int x1), some (.int x2), y3, some (.int x4)]) (st' := [.ref x0]) (w' := r7.1) (by decide +kernel) rfl ?_
      refine ok_gi (by decide +kernel : decode m_S_colourBlank.2.1 49 = .ok ((.getfield 29), 3)) rfl (fun v10 h11 => ?_)
      refine ok_seg (L := [((.sipush 20000), 3)]) (pc' := 55) (ls' := [some (.ref x0), some (.int x1), some (.int x2), y3, some (.int x4)]) (st' := [.int 20000, .int v10]) (w' := r7.1) (by decide +kernel) rfl ?_
      refine ok_br (P := 20000 ≤ v10) (off := 46) (t := 101) (by decide +kernel : decode m_S_colourBlank.2.1 55 = .ok ((.if_icmp .ge 46), 3)) rfl rfl rfl rfl (fun c12 => ?_) (fun c12 => ?_)
      · skip
        exact o_S_colourBlank_p101 x0 x1 x2 y3 (some (.int x4)) r7.1
      · skip
        refine ok_seg (L := [((.aload_n 0), 1), (.dup, 1)]) (pc' := 60) (ls' := [some (.ref x0), some (.int x1), some (.int x2), y3, some (.int x4)]) (st' := [.ref x0, .ref x0]) (w' := r7.1) (by decide +kernel) rfl ?_
        refine ok_gi (by decide +kernel : decode m_S_colourBlank.2.1 60 = .ok ((.getfield 29), 3)) rfl (fun v13 h14 => ?_)
        refine ok_seg (L := [((.iconst 1), 1), (.iadd, 1)]) (pc' := 65) (ls' := [some (.ref x0), some (.int x1), some (.int x2), y3, some (.int x4)]) (st' := [.int (v13 + 1), .ref x0]) (w' := r7.1) (by decide +kernel) rfl ?_
        refine ok_pi (by decide +kernel : decode m_S_colourBlank.2.1 65 = .ok ((.putfield 29), 3)) rfl (fun w15 h16 => ?_)
        refine ok_seg (L := [((.aload_n 0), 1)]) (pc' := 69) (ls' := [some (.ref x0), some (.int x1), some (.int x2), y3, some (.int x4)]) (st' := [.ref x0]) (w' := w15) (by decide +kernel) rfl ?_
        refine ok_gr (by decide +kernel : decode m_S_colourBlank.2.1 69 = .ok ((.getfield 18), 3)) rfl (by decide) (fun v17 h18 => ?_)
        refine ok_seg (L := [((.iload_n 2), 1), ((.iload 4), 2)]) (pc' := 75) (ls' := [some (.ref x0), some (.int x1), some (.int x2), y3, some (.int x4)]) (st' := [.int x4, .int x2, .ref v17]) (w' := w15) (by decide +kernel) rfl ?_
        refine ok_call0 (inj' := am_ji) (by decide +kernel : decode m_S_colourBlank.2.1 75 = .ok ((.invokevirtual 68), 3)) rfl (fun q hq => am_iv0 (am_self_eq hq).1 rfl rfl rfl) (o_G_countThrough (d + 0) (v17) (x2) (x4) w15) (fun _ _ => rfl) (fun r19 h20 => ?_)
        refine ok_br (P := ¬ r19.2 = 0) (off := 17) (t := 95) (by decide +kernel : decode m_S_colourBlank.2.1 78 = .ok ((.ifCond .ne 17), 3)) rfl rfl rfl rfl (fun c21 => ?_) (fun c21 => ?_)
        · skip
          refine ok_seg (L := [((.iinc 4 1), 3)]) (pc' := 98) (ls' := [some (.ref x0), some (.int x1), some (.int x2), y3, some (.int (x4 + 1))]) (st' := []) (w' := r19.1) (by decide +kernel) rfl ?_
          refine ok_goto (t := 36) (by decide +kernel : decode m_S_colourBlank.2.1 98 = .ok ((.goto (-62)), 3)) rfl ?_
          exact ih x0 x1 x2 (x4 + 1) y3 r19.1
        · skip
          refine ok_seg (L := [((.aload_n 0), 1)]) (pc' := 82) (ls' := [some (.ref x0), some (.int x1), some (.int x2), y3, some (.int x4)]) (st' := [.ref x0]) (w' := r19.1) (by decide +kernel) rfl ?_
          refine ok_gr (by decide +kernel : decode m_S_colourBlank.2.1 82 = .ok ((.getfield 18), 3)) rfl (by decide) (fun v22 h23 => ?_)
          refine ok_seg (L := [((.iload_n 2), 1), ((.iload 4), 2)]) (pc' := 88) (ls' := [some (.ref x0), some (.int x1), some (.int x2), y3, some (.int x4)]) (st' := [.int x4, .int x2, .ref v22]) (w' := r19.1) (by decide +kernel) rfl ?_
          refine ok_call0 (inj' := am_jv) (by decide +kernel : decode m_S_colourBlank.2.1 88 = .ok ((.invokevirtual 72), 3)) rfl (fun q hq => am_iv0 (am_self_eq hq).1 rfl rfl rfl) (o_G_put (d + 0) (v22) (x2) (x4) r19.1) (fun _ _ => rfl) (fun r24 h25 => ?_)
          refine ok_seg (L := [((.iload_n 1), 1), ((.iconst 1), 1), (.iadd, 1)]) (pc' := 94) (ls' := [some (.ref x0), some (.int x1), some (.int x2), y3, some (.int x4)]) (st' := [.int (x1 + 1)]) (w' := r24.1) (by decide +kernel) rfl ?_
          exact ok_ret (v := (x1 + 1)) (by decide +kernel : decode m_S_colourBlank.2.1 94 = .ok (.ireturn, 1)) rfl
theorem o_S_colourBlank (d : Nat) (x0 : Nat) (x1 : Int32) (w : am_W) : am_Ok am_ji (d + 2) m_S_colourBlank 0 (am_en m_S_colourBlank [.ref x0, .int x1]) [] w (f_S_colourBlank x0 x1 w) := by
  show am_Ok _ _ _ 0 [some (.ref x0), some (.int x1), none, none, none] [] w _
  unfold f_S_colourBlank
  refine ok_self ?_
  unfold e_S_colourBlank
  refine ok_seg (L := [((.iload_n 1), 1)]) (pc' := 1) (ls' := [some (.ref x0), some (.int x1), none, none, none]) (st' := [.int x1]) (w' := w) (by decide +kernel) rfl ?_
  refine ok_br (P := x1 < 0) (off := 12) (t := 13) (by decide +kernel : decode m_S_colourBlank.2.1 1 = .ok ((.ifCond .lt 12), 3)) rfl rfl rfl rfl (fun c26 => ?_) (fun c26 => ?_)
  · skip
    exact o_S_colourBlank_p13 (some (.ref x0)) (some (.int x1)) none none none w
  · skip
    refine ok_seg (L := [((.iload_n 1), 1), ((.aload_n 0), 1)]) (pc' := 6) (ls' := [some (.ref x0), some (.int x1), none, none, none]) (st' := [.ref x0, .int x1]) (w' := w) (by decide +kernel) rfl ?_
    refine ok_gr (by decide +kernel : decode m_S_colourBlank.2.1 6 = .ok ((.getfield 21), 3)) rfl (by decide) (fun v27 h28 => ?_)
    refine ok_al (by decide +kernel : decode m_S_colourBlank.2.1 9 = .ok (.arraylength, 1)) (fun v29 h30 => ?_)
    refine ok_br (P := x1 < v29) (off := 5) (t := 15) (by decide +kernel : decode m_S_colourBlank.2.1 10 = .ok ((.if_icmp .lt 5), 3)) rfl rfl rfl rfl (fun c31 => ?_) (fun c31 => ?_)
    · skip
      refine ok_seg (L := [((.aload_n 0), 1)]) (pc' := 16) (ls' := [some (.ref x0), some (.int x1), none, none, none]) (st' := [.ref x0]) (w' := w) (by decide +kernel) rfl ?_
      refine ok_gr (by decide +kernel : decode m_S_colourBlank.2.1 16 = .ok ((.getfield 21), 3)) rfl (by decide) (fun v32 h33 => ?_)
      refine ok_seg (L := [((.iload_n 1), 1)]) (pc' := 20) (ls' := [some (.ref x0), some (.int x1), none, none, none]) (st' := [.int x1, .ref v32]) (w' := w) (by decide +kernel) rfl ?_
      refine ok_ai (by decide +kernel : decode m_S_colourBlank.2.1 20 = .ok (.iaload, 1)) (fun v34 h35 => ?_)
      refine ok_seg (L := [((.istore_n 2), 1), ((.aload_n 0), 1)]) (pc' := 23) (ls' := [some (.ref x0), some (.int x1), some (.int v34), none, none]) (st' := [.ref x0]) (w' := w) (by decide +kernel) rfl ?_
      refine ok_gr (by decide +kernel : decode m_S_colourBlank.2.1 23 = .ok ((.getfield 18), 3)) rfl (by decide) (fun v36 h37 => ?_)
      refine ok_seg (L := [((.iload_n 2), 1)]) (pc' := 27) (ls' := [some (.ref x0), some (.int x1), some (.int v34), none, none]) (st' := [.int v34, .ref v36]) (w' := w) (by decide +kernel) rfl ?_
      refine ok_call0 (inj' := am_ji) (by decide +kernel : decode m_S_colourBlank.2.1 27 = .ok ((.invokevirtual 62), 3)) rfl (fun q hq => am_iv0 (am_self_eq hq).1 rfl rfl rfl) (o_G_colourOf (d + 0) (v36) (v34) w) (fun _ _ => rfl) (fun r38 h39 => ?_)
      refine ok_seg (L := [((.iconst 1), 1), (.iadd, 1), ((.istore_n 3), 1), ((.iload_n 3), 1), ((.istore 4), 2)]) (pc' := 36) (ls' := [some (.ref x0), some (.int x1), some (.int v34), some (.int (r38.2 + 1)), some (.int (r38.2 + 1))]) (st' := []) (w' := r38.1) (by decide +kernel) rfl ?_
      exact o_S_colourBlank_p36 am_N x0 x1 v34 (r38.2 + 1) (some (.int (r38.2 + 1))) r38.1
    · skip
      exact o_S_colourBlank_p13 (some (.ref x0)) (some (.int x1)) none none none w
-- m_S_listBlanks
def f_S_listBlanks_p61 (k7 : Nat → Int32 → am_W → Option (am_W × Unit)) (x0 : Nat) (x1 : Int32) (w : am_W) : Option (am_W × Unit) := (k7 x0 (x1 + 1) w)
def f_S_listBlanks_p7 : Nat → Nat → Int32 → am_W → Option (am_W × Unit)
  | 0, _, _, _ => none
  | n + 1, x0, x1, w => ((am_gr w x0 4 1).bind fun v1 => ((f_G_size (v1) w).bind fun r3 => (if r3.2 ≤ x1 then (some (r3.1, ())) else ((am_gr r3.1 x0 4 1).bind fun v6 => ((f_G_colourOf (v6) (x1) r3.1).bind fun r8 => (if ¬ r8.2 = 0 then (f_S_listBlanks_p61 (f_S_listBlanks_p7 n) x0 x1 r8.1) else ((am_gi r8.1 x0 4 3).bind fun v11 => ((am_gr r8.1 x0 4 2).bind fun v13 => ((am_al r8.1 v13).bind fun v15 => (if v15 ≤ v11 then (f_S_listBlanks_p61 (f_S_listBlanks_p7 n) x0 x1 r8.1) else ((am_gr r8.1 x0 4 2).bind fun v18 => ((am_gi r8.1 x0 4 3).bind fun v20 => ((am_si r8.1 v18 v20 x1).bind fun w22 => ((am_gi w22 x0 4 3).bind fun v24 => ((am_pv w22 x0 4 3 (.int (v24 + 1))).bind fun w26 => (f_S_listBlanks_p61 (f_S_listBlanks_p7 n) x0 x1 w26))))))))))))))))
def e_S_listBlanks (x0 : Nat) (w : am_W) : Option (am_W × Unit) := ((am_pv w x0 4 3 (.int 0)).bind fun w28 => (f_S_listBlanks_p7 am_N x0 0 w28))
def f_S_listBlanks (x0 : Nat) (w : am_W) : Option (am_W × Unit) := am_self w x0 4 (e_S_listBlanks x0 w)
theorem o_S_listBlanks_p61 {d : Nat} {k7 : Nat → Int32 → am_W → Option (am_W × Unit)} (hk7 : ∀ (x0 : Nat) (x1 : Int32) (w : am_W), am_Ok am_jv (d + 2) m_S_listBlanks 7 [some (.ref x0), some (.int x1)] [] w (k7 x0 x1 w)) (x0 : Nat) (x1 : Int32) (w : am_W) : am_Ok am_jv (d + 2) m_S_listBlanks 61 [some (.ref x0), some (.int x1)] [] w (f_S_listBlanks_p61 k7 x0 x1 w) := by
  unfold f_S_listBlanks_p61
  refine ok_seg (L := [((.iinc 1 1), 3)]) (pc' := 64) (ls' := [some (.ref x0), some (.int (x1 + 1))]) (st' := []) (w' := w) (by decide +kernel) rfl ?_
  refine ok_goto (t := 7) (by decide +kernel : decode m_S_listBlanks.2.1 64 = .ok ((.goto (-57)), 3)) rfl ?_
  exact hk7 x0 (x1 + 1) w
theorem o_S_listBlanks_p7 {d : Nat} : ∀ (n : Nat) (x0 : Nat) (x1 : Int32) (w : am_W), am_Ok am_jv (d + 2) m_S_listBlanks 7 [some (.ref x0), some (.int x1)] [] w (f_S_listBlanks_p7 n x0 x1 w) := by
  intro n
  induction n with
  | zero => intros; exact ok_none
  | succ n ih =>
    intro x0 x1 w
    unfold f_S_listBlanks_p7
    refine ok_seg (L := [((.iload_n 1), 1), ((.aload_n 0), 1)]) (pc' := 9) (ls' := [some (.ref x0), some (.int x1)]) (st' := [.ref x0, .int x1]) (w' := w) (by decide +kernel) rfl ?_
    refine ok_gr (by decide +kernel : decode m_S_listBlanks.2.1 9 = .ok ((.getfield 18), 3)) rfl (by decide) (fun v1 h2 => ?_)
    refine ok_call0 (inj' := am_ji) (by decide +kernel : decode m_S_listBlanks.2.1 12 = .ok ((.invokevirtual 59), 3)) rfl (fun q hq => am_iv0 (am_self_eq hq).1 rfl rfl rfl) (o_G_size (d + 1) (v1) w) (fun _ _ => rfl) (fun r3 h4 => ?_)
    refine ok_br (P := r3.2 ≤ x1) (off := 52) (t := 67) (by decide +kernel : decode m_S_listBlanks.2.1 15 = .ok ((.if_icmp .ge 52), 3)) rfl rfl rfl rfl (fun c5 => ?_) (fun c5 => ?_)
    · skip
      exact ok_ret (v := ()) (by decide +kernel : decode m_S_listBlanks.2.1 67 = .ok (.return_, 1)) rfl
    · skip
      refine ok_seg (L := [((.aload_n 0), 1)]) (pc' := 19) (ls' := [some (.ref x0), some (.int x1)]) (st' := [.ref x0]) (w' := r3.1) (by decide +kernel) rfl ?_
      refine ok_gr (by decide +kernel : decode m_S_listBlanks.2.1 19 = .ok ((.getfield 18), 3)) rfl (by decide) (fun v6 h7 => ?_)
      refine ok_seg (L := [((.iload_n 1), 1)]) (pc' := 23) (ls' := [some (.ref x0), some (.int x1)]) (st' := [.int x1, .ref v6]) (w' := r3.1) (by decide +kernel) rfl ?_
      refine ok_call0 (inj' := am_ji) (by decide +kernel : decode m_S_listBlanks.2.1 23 = .ok ((.invokevirtual 62), 3)) rfl (fun q hq => am_iv0 (am_self_eq hq).1 rfl rfl rfl) (o_G_colourOf (d + 0) (v6) (x1) r3.1) (fun _ _ => rfl) (fun r8 h9 => ?_)
      refine ok_br (P := ¬ r8.2 = 0) (off := 35) (t := 61) (by decide +kernel : decode m_S_listBlanks.2.1 26 = .ok ((.ifCond .ne 35), 3)) rfl rfl rfl rfl (fun c10 => ?_) (fun c10 => ?_)
      · skip
        exact o_S_listBlanks_p61 ih x0 x1 r8.1
      · skip
        refine ok_seg (L := [((.aload_n 0), 1)]) (pc' := 30) (ls' := [some (.ref x0), some (.int x1)]) (st' := [.ref x0]) (w' := r8.1) (by decide +kernel) rfl ?_
        refine ok_gi (by decide +kernel : decode m_S_listBlanks.2.1 30 = .ok ((.getfield 25), 3)) rfl (fun v11 h12 => ?_)
        refine ok_seg (L := [((.aload_n 0), 1)]) (pc' := 34) (ls' := [some (.ref x0), some (.int x1)]) (st' := [.ref x0, .int v11]) (w' := r8.1) (by decide +kernel) rfl ?_
        refine ok_gr (by decide +kernel : decode m_S_listBlanks.2.1 34 = .ok ((.getfield 21), 3)) rfl (by decide) (fun v13 h14 => ?_)
        refine ok_al (by decide +kernel : decode m_S_listBlanks.2.1 37 = .ok (.arraylength, 1)) (fun v15 h16 => ?_)
        refine ok_br (P := v15 ≤ v11) (off := 23) (t := 61) (by decide +kernel : decode m_S_listBlanks.2.1 38 = .ok ((.if_icmp .ge 23), 3)) rfl rfl rfl rfl (fun c17 => ?_) (fun c17 => ?_)
        · skip
          exact o_S_listBlanks_p61 ih x0 x1 r8.1
        · skip
          refine ok_seg (L := [((.aload_n 0), 1)]) (pc' := 42) (ls' := [some (.ref x0), some (.int x1)]) (st' := [.ref x0]) (w' := r8.1) (by decide +kernel) rfl ?_
          refine ok_gr (by decide +kernel : decode m_S_listBlanks.2.1 42 = .ok ((.getfield 21), 3)) rfl (by decide) (fun v18 h19 => ?_)
          refine ok_seg (L := [((.aload_n 0), 1)]) (pc' := 46) (ls' := [some (.ref x0), some (.int x1)]) (st' := [.ref x0, .ref v18]) (w' := r8.1) (by decide +kernel) rfl ?_
          refine ok_gi (by decide +kernel : decode m_S_listBlanks.2.1 46 = .ok ((.getfield 25), 3)) rfl (fun v20 h21 => ?_)
          refine ok_seg (L := [((.iload_n 1), 1)]) (pc' := 50) (ls' := [some (.ref x0), some (.int x1)]) (st' := [.int x1, .int v20, .ref v18]) (w' := r8.1) (by decide +kernel) rfl ?_
          refine ok_si (by decide +kernel : decode m_S_listBlanks.2.1 50 = .ok (.iastore, 1)) (fun w22 h23 => ?_)
          refine ok_seg (L := [((.aload_n 0), 1), (.dup, 1)]) (pc' := 53) (ls' := [some (.ref x0), some (.int x1)]) (st' := [.ref x0, .ref x0]) (w' := w22) (by decide +kernel) rfl ?_
          refine ok_gi (by decide +kernel : decode m_S_listBlanks.2.1 53 = .ok ((.getfield 25), 3)) rfl (fun v24 h25 => ?_)
          refine ok_seg (L := [((.iconst 1), 1), (.iadd, 1)]) (pc' := 58) (ls' := [some (.ref x0), some (.int x1)]) (st' := [.int (v24 + 1), .ref x0]) (w' := w22) (by decide +kernel) rfl ?_
          refine ok_pi (by decide +kernel : decode m_S_listBlanks.2.1 58 = .ok ((.putfield 25), 3)) rfl (fun w26 h27 => ?_)
          exact o_S_listBlanks_p61 ih x0 x1 w26
theorem o_S_listBlanks (d : Nat) (x0 : Nat) (w : am_W) : am_Ok am_jv (d + 2) m_S_listBlanks 0 (am_en m_S_listBlanks [.ref x0]) [] w (f_S_listBlanks x0 w) := by
  show am_Ok _ _ _ 0 [some (.ref x0), none] [] w _
  unfold f_S_listBlanks
  refine ok_self ?_
  unfold e_S_listBlanks
  refine ok_seg (L := [((.aload_n 0), 1), ((.iconst 0), 1)]) (pc' := 2) (ls' := [some (.ref x0), none]) (st' := [.int 0, .ref x0]) (w' := w) (by decide +kernel) rfl ?_
  refine ok_pi (by decide +kernel : decode m_S_listBlanks.2.1 2 = .ok ((.putfield 25), 3)) rfl (fun w28 h29 => ?_)
  refine ok_seg (L := [((.iconst 0), 1), ((.istore_n 1), 1)]) (pc' := 7) (ls' := [some (.ref x0), some (.int 0)]) (st' := []) (w' := w28) (by decide +kernel) rfl ?_
  exact o_S_listBlanks_p7 am_N x0 0 w28
-- m_S_goThrough
def f_S_goThrough_p73 (s0 : Int32) (w : am_W) : Option (am_W × Int32) := (some (w, s0))
def f_S_goThrough_p48 (x0 : Nat) (x1 : Int32) (w : am_W) : Option (am_W × Int32) := ((am_gi w x0 4 4).bind fun v1 => (if v1 < 20000 then ((am_gi w x0 4 3).bind fun v4 => (if x1 < v4 then (f_S_goThrough_p73 0 w) else (f_S_goThrough_p73 1 w))) else (some (w, 2))))
def f_S_goThrough_p8 : Nat → Nat → Int32 → Int32 → am_W → Option (am_W × Int32)
  | 0, _, _, _, _ => none
  | n + 1, x0, x1, x2, w => (if 1000000 ≤ x2 then (f_S_goThrough_p48 x0 x1 w) else (if x1 < 0 then (f_S_goThrough_p48 x0 x1 w) else ((am_gi w x0 4 3).bind fun v9 => (if v9 ≤ x1 then (f_S_goThrough_p48 x0 x1 w) else ((am_gi w x0 4 4).bind fun v12 => (if 20000 ≤ v12 then (f_S_goThrough_p48 x0 x1 w) else ((f_S_colourBlank (x0) (x1) w).bind fun r15 => (f_S_goThrough_p8 n x0 r15.2 (x2 + 1) r15.1))))))))
def e_S_goThrough (x0 : Nat) (w : am_W) : Option (am_W × Int32) := ((f_S_listBlanks (x0) w).bind fun r17 => (f_S_goThrough_p8 am_N x0 0 0 r17.1))
def f_S_goThrough (x0 : Nat) (w : am_W) : Option (am_W × Int32) := am_self w x0 4 (e_S_goThrough x0 w)
theorem o_S_goThrough_p73 {d : Nat} (s0 : Int32) (y0 y1 y2 : Option Value) (w : am_W) : am_Ok am_ji (d + 3) m_S_goThrough 73 [y0, y1, y2] [.int s0] w (f_S_goThrough_p73 s0 w) := by
  unfold f_S_goThrough_p73
  exact ok_ret (v := s0) (by decide +kernel : decode m_S_goThrough.2.1 73 = .ok (.ireturn, 1)) rfl
theorem o_S_goThrough_p48 {d : Nat} (x0 : Nat) (x1 : Int32) (y2 : Option Value) (w : am_W) : am_Ok am_ji (d + 3) m_S_goThrough 48 [some (.ref x0), some (.int x1), y2] [] w (f_S_goThrough_p48 x0 x1 w) := by
  unfold f_S_goThrough_p48
  refine ok_seg (L := [((.aload_n 0), 1)]) (pc' := 49) (ls' := [some (.ref x0), some (.int x1), y2]) (st' := [.ref x0]) (w' := w) (by decide +kernel) rfl ?_
  refine ok_gi (by decide +kernel : decode m_S_goThrough.2.1 49 = .ok ((.getfield 29), 3)) rfl (fun v1 h2 => ?_)
  refine ok_seg (L := [((.sipush 20000), 3)]) (pc' := 55) (ls' := [some (.ref x0), some (.int x1), y2]) (st' := [.int 20000, .int v1]) (w' := w) (by decide +kernel) rfl ?_
  refine ok_br (P := v1 < 20000) (off := 5) (t := 60) (by decide +kernel : decode m_S_goThrough.2.1 55 = .ok ((.if_icmp .lt 5), 3)) rfl rfl rfl rfl (fun c3 => ?_) (fun c3 => ?_)
  · skip
    refine ok_seg (L := [((.iload_n 1), 1), ((.aload_n 0), 1)]) (pc' := 62) (ls' := [some (.ref x0), some (.int x1), y2]) (st' := [.ref x0, .int x1]) (w' := w) (by decide +kernel) rfl ?_
    refine ok_gi (by decide +kernel : decode m_S_goThrough.2.1 62 = .ok ((.getfield 25), 3)) rfl (fun v4 h5 => ?_)
    refine ok_br (P := x1 < v4) (off := 7) (t := 72) (by decide +kernel : decode m_S_goThrough.2.1 65 = .ok ((.if_icmp .lt 7), 3)) rfl rfl rfl rfl (fun c6 => ?_) (fun c6 => ?_)
    · skip
      refine ok_seg (L := [((.iconst 0), 1)]) (pc' := 73) (ls' := [some (.ref x0), some (.int x1), y2]) (st' := [.int 0]) (w' := w) (by decide +kernel) rfl ?_
      exact o_S_goThrough_p73 0 (some (.ref x0)) (some (.int x1)) y2 w
    · skip
      refine ok_seg (L := [((.iconst 1), 1)]) (pc' := 69) (ls' := [some (.ref x0), some (.int x1), y2]) (st' := [.int 1]) (w' := w) (by decide +kernel) rfl ?_
      refine ok_goto (t := 73) (by decide +kernel : decode m_S_goThrough.2.1 69 = .ok ((.goto 4), 3)) rfl ?_
      exact o_S_goThrough_p73 1 (some (.ref x0)) (some (.int x1)) y2 w
  · skip
    refine ok_seg (L := [((.iconst 2), 1)]) (pc' := 59) (ls' := [some (.ref x0), some (.int x1), y2]) (st' := [.int 2]) (w' := w) (by decide +kernel) rfl ?_
    exact ok_ret (v := 2) (by decide +kernel : decode m_S_goThrough.2.1 59 = .ok (.ireturn, 1)) rfl
theorem o_S_goThrough_p8 {d : Nat} : ∀ (n : Nat) (x0 : Nat) (x1 : Int32) (x2 : Int32) (w : am_W), am_Ok am_ji (d + 3) m_S_goThrough 8 [some (.ref x0), some (.int x1), some (.int x2)] [] w (f_S_goThrough_p8 n x0 x1 x2 w) := by
  intro n
  induction n with
  | zero => intros; exact ok_none
  | succ n ih =>
    intro x0 x1 x2 w
    unfold f_S_goThrough_p8
    refine ok_seg (L := [((.iload_n 2), 1), ((.ldc 54), 2)]) (pc' := 11) (ls' := [some (.ref x0), some (.int x1), some (.int x2)]) (st' := [.int 1000000, .int x2]) (w' := w) (by decide +kernel) rfl ?_
    refine ok_br (P := 1000000 ≤ x2) (off := 37) (t := 48) (by decide +kernel : decode m_S_goThrough.2.1 11 = .ok ((.if_icmp .ge 37), 3)) rfl rfl rfl rfl (fun c7 => ?_) (fun c7 => ?_)
    · skip
      exact o_S_goThrough_p48 x0 x1 (some (.int x2)) w
    · skip
      refine ok_seg (L := [((.iload_n 1), 1)]) (pc' := 15) (ls' := [some (.ref x0), some (.int x1), some (.int x2)]) (st' := [.int x1]) (w' := w) (by decide +kernel) rfl ?_
      refine ok_br (P := x1 < 0) (off := 33) (t := 48) (by decide +kernel : decode m_S_goThrough.2.1 15 = .ok ((.ifCond .lt 33), 3)) rfl rfl rfl rfl (fun c8 => ?_) (fun c8 => ?_)
      · skip
        exact o_S_goThrough_p48 x0 x1 (some (.int x2)) w
      · skip
        refine ok_seg (L := [((.iload_n 1), 1), ((.aload_n 0), 1)]) (pc' := 20) (ls' := [some (.ref x0), some (.int x1), some (.int x2)]) (st' := [.ref x0, .int x1]) (w' := w) (by decide +kernel) rfl ?_
        refine ok_gi (by decide +kernel : decode m_S_goThrough.2.1 20 = .ok ((.getfield 25), 3)) rfl (fun v9 h10 => ?_)
        refine ok_br (P := v9 ≤ x1) (off := 25) (t := 48) (by decide +kernel : decode m_S_goThrough.2.1 23 = .ok ((.if_icmp .ge 25), 3)) rfl rfl rfl rfl (fun c11 => ?_) (fun c11 => ?_)
        · skip
          exact o_S_goThrough_p48 x0 x1 (some (.int x2)) w
        · skip
          refine ok_seg (L := [((.aload_n 0), 1)]) (pc' := 27) (ls' := [some (.ref x0), some (.int x1), some (.int x2)]) (st' := [.ref x0]) (w' := w) (by decide +kernel) rfl ?_
          refine ok_gi (by decide +kernel : decode m_S_goThrough.2.1 27 = .ok ((.getfield 29), 3)) rfl (fun v12 h13 => ?_)
          refine ok_seg (L := [((.sipush 20000), 3)]) (pc' := 33) (ls' := [some (.ref x0), some (.int x1), some (.int x2)]) (st' := [.int 20000, .int v12]) (w' := w) (by decide +kernel) rfl ?_
          refine ok_br (P := 20000 ≤ v12) (off := 15) (t := 48) (by decide +kernel : decode m_S_goThrough.2.1 33 = .ok ((.if_icmp .ge 15), 3)) rfl rfl rfl rfl (fun c14 => ?_) (fun c14 => ?_)
          · skip
            exact o_S_goThrough_p48 x0 x1 (some (.int x2)) w
          · skip
            refine ok_seg (L := [((.aload_n 0), 1), ((.iload_n 1), 1)]) (pc' := 38) (ls' := [some (.ref x0), some (.int x1), some (.int x2)]) (st' := [.int x1, .ref x0]) (w' := w) (by decide +kernel) rfl ?_
            refine ok_call0 (inj' := am_ji) (by decide +kernel : decode m_S_goThrough.2.1 38 = .ok ((.invokevirtual 55), 3)) rfl (fun q hq => am_iv0 (am_self_eq hq).1 rfl rfl rfl) (o_S_colourBlank (d + 0) (x0) (x1) w) (fun _ _ => rfl) (fun r15 h16 => ?_)
            refine ok_seg (L := [((.istore_n 1), 1), ((.iinc 2 1), 3)]) (pc' := 45) (ls' := [some (.ref x0), some (.int r15.2), some (.int (x2 + 1))]) (st' := []) (w' := r15.1) (by decide +kernel) rfl ?_
            refine ok_goto (t := 8) (by decide +kernel : decode m_S_goThrough.2.1 45 = .ok ((.goto (-37)), 3)) rfl ?_
            exact ih x0 r15.2 (x2 + 1) r15.1
theorem o_S_goThrough (d : Nat) (x0 : Nat) (w : am_W) : am_Ok am_ji (d + 3) m_S_goThrough 0 (am_en m_S_goThrough [.ref x0]) [] w (f_S_goThrough x0 w) := by
  show am_Ok _ _ _ 0 [some (.ref x0), none, none] [] w _
  unfold f_S_goThrough
  refine ok_self ?_
  unfold e_S_goThrough
  refine ok_seg (L := [((.aload_n 0), 1)]) (pc' := 1) (ls' := [some (.ref x0), none, none]) (st' := [.ref x0]) (w' := w) (by decide +kernel) rfl ?_
  refine ok_call0 (inj' := am_jv) (by decide +kernel : decode m_S_goThrough.2.1 1 = .ok ((.invokevirtual 51), 3)) rfl (fun q hq => am_iv0 (am_self_eq hq).1 rfl rfl rfl) (o_S_listBlanks (d + 0) (x0) w) (fun _ _ => rfl) (fun r17 h18 => ?_)
  refine ok_seg (L := [((.iconst 0), 1), ((.istore_n 1), 1), ((.iconst 0), 1), ((.istore_n 2), 1)]) (pc' := 8) (ls' := [some (.ref x0), some (.int 0), some (.int 0)]) (st' := []) (w' := r17.1) (by decide +kernel) rfl ?_
  exact o_S_goThrough_p8 am_N x0 0 0 r17.1
-- m_S_seek
def f_S_seek_p49 (s0 : Nat) (s1 : Int32) (w : am_W) : Option (am_W × Unit) := ((am_pv w s0 4 5 (.int s1)).bind fun w1 => (some (w1, ())))
def e_S_seek (x0 : Nat) (x1 : Nat) (w : am_W) : Option (am_W × Unit) := ((am_gr w x0 4 0).bind fun v3 => ((f_G_isSame (v3) (x1) w).bind fun r5 => (if r5.2 = 0 then ((am_gr r5.1 x0 4 0).bind fun v8 => ((f_G_copy (v8) (x1) r5.1).bind fun r10 => ((am_gr r10.1 x0 4 1).bind fun v12 => ((f_G_copy (v12) (x1) r10.1).bind fun r14 => ((am_pv r14.1 x0 4 4 (.int 0)).bind fun w16 => ((f_G_isGood (x1) w16).bind fun r18 => (if r18.2 = 0 then (f_S_seek_p49 x0 0 r18.1) else ((f_S_goThrough (x0) r18.1).bind fun r21 => (f_S_seek_p49 x0 r21.2 r21.1))))))))) else (some (r5.1, ())))))
def f_S_seek (x0 : Nat) (x1 : Nat) (w : am_W) : Option (am_W × Unit) := am_self w x0 4 (e_S_seek x0 x1 w)
theorem o_S_seek_p49 {d : Nat} (s0 : Nat) (s1 : Int32) (y0 y1 : Option Value) (w : am_W) : am_Ok am_jv (d + 4) m_S_seek 49 [y0, y1] [.int s1, .ref s0] w (f_S_seek_p49 s0 s1 w) := by
  unfold f_S_seek_p49
  refine ok_pi (by decide +kernel : decode m_S_seek.2.1 49 = .ok ((.putfield 32), 3)) rfl (fun w1 h2 => ?_)
  exact ok_ret (v := ()) (by decide +kernel : decode m_S_seek.2.1 52 = .ok (.return_, 1)) rfl
theorem o_S_seek (d : Nat) (x0 : Nat) (x1 : Nat) (w : am_W) : am_Ok am_jv (d + 4) m_S_seek 0 (am_en m_S_seek [.ref x0, .ref x1]) [] w (f_S_seek x0 x1 w) := by
  show am_Ok _ _ _ 0 [some (.ref x0), some (.ref x1)] [] w _
  unfold f_S_seek
  refine ok_self ?_
  unfold e_S_seek
  refine ok_seg (L := [((.aload_n 0), 1)]) (pc' := 1) (ls' := [some (.ref x0), some (.ref x1)]) (st' := [.ref x0]) (w' := w) (by decide +kernel) rfl ?_
  refine ok_gr (by decide +kernel : decode m_S_seek.2.1 1 = .ok ((.getfield 12), 3)) rfl (by decide) (fun v3 h4 => ?_)
  refine ok_seg (L := [((.aload_n 1), 1)]) (pc' := 5) (ls' := [some (.ref x0), some (.ref x1)]) (st' := [.ref x1, .ref v3]) (w' := w) (by decide +kernel) rfl ?_
  refine ok_call0 (inj' := am_ji) (by decide +kernel : decode m_S_seek.2.1 5 = .ok ((.invokevirtual 35), 3)) rfl (fun q hq => am_iv0 (am_self_eq hq).1 rfl rfl rfl) (o_G_isSame (d + 2) (v3) (x1) w) (fun _ _ => rfl) (fun r5 h6 => ?_)
  refine ok_br (P := r5.2 = 0) (off := 4) (t := 12) (by decide +kernel : decode m_S_seek.2.1 8 = .ok ((.ifCond .eq 4), 3)) rfl rfl rfl rfl (fun c7 => ?_) (fun c7 => ?_)
  · skip
    refine ok_seg (L := [((.aload_n 0), 1)]) (pc' := 13) (ls' := [some (.ref x0), some (.ref x1)]) (st' := [.ref x0]) (w' := r5.1) (by decide +kernel) rfl ?_
    refine ok_gr (by decide +kernel : decode m_S_seek.2.1 13 = .ok ((.getfield 12), 3)) rfl (by decide) (fun v8 h9 => ?_)
    refine ok_seg (L := [((.aload_n 1), 1)]) (pc' := 17) (ls' := [some (.ref x0), some (.ref x1)]) (st' := [.ref x1, .ref v8]) (w' := r5.1) (by decide +kernel) rfl ?_
    refine ok_call0 (inj' := am_jv) (by decide +kernel : decode m_S_seek.2.1 17 = .ok ((.invokevirtual 39), 3)) rfl (fun q hq => am_iv0 (am_self_eq hq).1 rfl rfl rfl) (o_G_copy (d + 2) (v8) (x1) r5.1) (fun _ _ => rfl) (fun r10 h11 => ?_)
    refine ok_seg (L := [((.aload_n 0), 1)]) (pc' := 21) (ls' := [some (.ref x0), some (.ref x1)]) (st' := [.ref x0]) (w' := r10.1) (by decide +kernel) rfl ?_
    refine ok_gr (by decide +kernel : decode m_S_seek.2.1 21 = .ok ((.getfield 18), 3)) rfl (by decide) (fun v12 h13 => ?_)
    refine ok_seg (L := [((.aload_n 1), 1)]) (pc' := 25) (ls' := [some (.ref x0), some (.ref x1)]) (st' := [.ref x1, .ref v12]) (w' := r10.1) (by decide +kernel) rfl ?_
    refine ok_call0 (inj' := am_jv) (by decide +kernel : decode m_S_seek.2.1 25 = .ok ((.invokevirtual 39), 3)) rfl (fun q hq => am_iv0 (am_self_eq hq).1 rfl rfl rfl) (o_G_copy (d + 2) (v12) (x1) r10.1) (fun _ _ => rfl) (fun r14 h15 => ?_)
    refine ok_seg (L := [((.aload_n 0), 1), ((.iconst 0), 1)]) (pc' := 30) (ls' := [some (.ref x0), some (.ref x1)]) (st' := [.int 0, .ref x0]) (w' := r14.1) (by decide +kernel) rfl ?_
    refine ok_pi (by decide +kernel : decode m_S_seek.2.1 30 = .ok ((.putfield 29), 3)) rfl (fun w16 h17 => ?_)
    refine ok_seg (L := [((.aload_n 0), 1), ((.aload_n 1), 1)]) (pc' := 35) (ls' := [some (.ref x0), some (.ref x1)]) (st' := [.ref x1, .ref x0]) (w' := w16) (by decide +kernel) rfl ?_
    refine ok_call0 (inj' := am_ji) (by decide +kernel : decode m_S_seek.2.1 35 = .ok ((.invokevirtual 43), 3)) rfl (fun q hq => am_iv0 (am_self_eq hq).1 rfl rfl rfl) (o_G_isGood (d + 0) (x1) w16) (fun _ _ => rfl) (fun r18 h19 => ?_)
    refine ok_br (P := r18.2 = 0) (off := 10) (t := 48) (by decide +kernel : decode m_S_seek.2.1 38 = .ok ((.ifCond .eq 10), 3)) rfl rfl rfl rfl (fun c20 => ?_) (fun c20 => ?_)
    · skip
      refine ok_seg (L := [((.iconst 0), 1)]) (pc' := 49) (ls' := [some (.ref x0), some (.ref x1)]) (st' := [.int 0, .ref x0]) (w' := r18.1) (by decide +kernel) rfl ?_
      exact o_S_seek_p49 x0 0 (some (.ref x0)) (some (.ref x1)) r18.1
    · skip
      refine ok_seg (L := [((.aload_n 0), 1)]) (pc' := 42) (ls' := [some (.ref x0), some (.ref x1)]) (st' := [.ref x0, .ref x0]) (w' := r18.1) (by decide +kernel) rfl ?_
      refine ok_call0 (inj' := am_ji) (by decide +kernel : decode m_S_seek.2.1 42 = .ok ((.invokevirtual 47), 3)) rfl (fun q hq => am_iv0 (am_self_eq hq).1 rfl rfl rfl) (o_S_goThrough (d + 0) (x0) r18.1) (fun _ _ => rfl) (fun r21 h22 => ?_)
      refine ok_goto (t := 49) (by decide +kernel : decode m_S_seek.2.1 45 = .ok ((.goto 4), 3)) rfl ?_
      exact o_S_seek_p49 x0 r21.2 (some (.ref x0)) (some (.ref x1)) r21.1
  · skip
    exact ok_ret (v := ()) (by decide +kernel : decode m_S_seek.2.1 11 = .ok (.return_, 1)) rfl
-- m_S_triesMade
def e_S_triesMade (x0 : Nat) (w : am_W) : Option (am_W × Int32) := ((am_gi w x0 4 4).bind fun v1 => (some (w, v1)))
def f_S_triesMade (x0 : Nat) (w : am_W) : Option (am_W × Int32) := am_self w x0 4 (e_S_triesMade x0 w)
theorem o_S_triesMade (d : Nat) (x0 : Nat) (w : am_W) : am_Ok am_ji (d + 0) m_S_triesMade 0 (am_en m_S_triesMade [.ref x0]) [] w (f_S_triesMade x0 w) := by
  show am_Ok _ _ _ 0 [some (.ref x0)] [] w _
  unfold f_S_triesMade
  refine ok_self ?_
  unfold e_S_triesMade
  refine ok_seg (L := [((.aload_n 0), 1)]) (pc' := 1) (ls' := [some (.ref x0)]) (st' := [.ref x0]) (w' := w) (by decide +kernel) rfl ?_
  refine ok_gi (by decide +kernel : decode m_S_triesMade.2.1 1 = .ok ((.getfield 29), 3)) rfl (fun v1 h2 => ?_)
  exact ok_ret (v := v1) (by decide +kernel : decode m_S_triesMade.2.1 4 = .ok (.ireturn, 1)) rfl
-- m_C_search
def f_C_search_p19 (w : am_W) : Option (am_W × Int32) := (some (w, (-1)))
def f_C_search_p53 (s0 : Int32) (w : am_W) : Option (am_W × Int32) := (some (w, s0))
def e_C_search (x0 : Nat) (x1 : Int32) (w : am_W) : Option (am_W × Int32) := ((am_gr w x0 0 1).bind fun v1 => ((f_G_exists (v1) w).bind fun r3 => (if r3.2 = 0 then (f_C_search_p19 r3.1) else (if x1 < 0 then (f_C_search_p19 r3.1) else (if x1 ≤ 1 then ((am_gr r3.1 x0 0 4).bind fun v8 => ((am_gr r3.1 x0 0 1).bind fun v10 => ((f_S_seek (v8) (v10) r3.1).bind fun r12 => (if ¬ x1 = 0 then ((am_gr r12.1 x0 0 4).bind fun v15 => ((f_S_outcome (v15) r12.1).bind fun r17 => (f_C_search_p53 r17.2 r17.1))) else ((am_gr r12.1 x0 0 4).bind fun v19 => ((f_S_triesMade (v19) r12.1).bind fun r21 => (f_C_search_p53 r21.2 r21.1))))))) else (f_C_search_p19 r3.1))))))
def f_C_search (x0 : Nat) (x1 : Int32) (w : am_W) : Option (am_W × Int32) := am_self w x0 0 (e_C_search x0 x1 w)
theorem o_C_search_p19 {d : Nat} (y0 y1 : Option Value) (w : am_W) : am_Ok am_ji (d + 5) m_C_search 19 [y0, y1] [] w (f_C_search_p19 w) := by
  unfold f_C_search_p19
  refine ok_seg (L := [((.iconst (-1)), 1)]) (pc' := 20) (ls' := [y0, y1]) (st' := [.int (-1)]) (w' := w) (by decide +kernel) rfl ?_
  exact ok_ret (v := (-1)) (by decide +kernel : decode m_C_search.2.1 20 = .ok (.ireturn, 1)) rfl
theorem o_C_search_p53 {d : Nat} (s0 : Int32) (y0 y1 : Option Value) (w : am_W) : am_Ok am_ji (d + 5) m_C_search 53 [y0, y1] [.int s0] w (f_C_search_p53 s0 w) := by
  unfold f_C_search_p53
  exact ok_ret (v := s0) (by decide +kernel : decode m_C_search.2.1 53 = .ok (.ireturn, 1)) rfl
theorem o_C_search (d : Nat) (x0 : Nat) (x1 : Int32) (w : am_W) : am_Ok am_ji (d + 5) m_C_search 0 (am_en m_C_search [.ref x0, .int x1]) [] w (f_C_search x0 x1 w) := by
  show am_Ok _ _ _ 0 [some (.ref x0), some (.int x1)] [] w _
  unfold f_C_search
  refine ok_self ?_
  unfold e_C_search
  refine ok_seg (L := [((.aload_n 0), 1)]) (pc' := 1) (ls' := [some (.ref x0), some (.int x1)]) (st' := [.ref x0]) (w' := w) (by decide +kernel) rfl ?_
  refine ok_gr (by decide +kernel : decode m_C_search.2.1 1 = .ok ((.getfield 19), 3)) rfl (by decide) (fun v1 h2 => ?_)
  refine ok_call0 (inj' := am_ji) (by decide +kernel : decode m_C_search.2.1 4 = .ok ((.invokevirtual 170), 3)) rfl (fun q hq => am_iv0 (am_self_eq hq).1 rfl rfl rfl) (o_G_exists (d + 4) (v1) w) (fun _ _ => rfl) (fun r3 h4 => ?_)
  refine ok_br (P := r3.2 = 0) (off := 12) (t := 19) (by decide +kernel : decode m_C_search.2.1 7 = .ok ((.ifCond .eq 12), 3)) rfl rfl rfl rfl (fun c5 => ?_) (fun c5 => ?_)
  · skip
    exact o_C_search_p19 (some (.ref x0)) (some (.int x1)) r3.1
  · skip
    refine ok_seg (L := [((.iload_n 1), 1)]) (pc' := 11) (ls' := [some (.ref x0), some (.int x1)]) (st' := [.int x1]) (w' := r3.1) (by decide +kernel) rfl ?_
    refine ok_br (P := x1 < 0) (off := 8) (t := 19) (by decide +kernel : decode m_C_search.2.1 11 = .ok ((.ifCond .lt 8), 3)) rfl rfl rfl rfl (fun c6 => ?_) (fun c6 => ?_)
    · skip
      exact o_C_search_p19 (some (.ref x0)) (some (.int x1)) r3.1
    · skip
      refine ok_seg (L := [((.iload_n 1), 1), ((.iconst 1), 1)]) (pc' := 16) (ls' := [some (.ref x0), some (.int x1)]) (st' := [.int 1, .int x1]) (w' := r3.1) (by decide +kernel) rfl ?_
      refine ok_br (P := x1 ≤ 1) (off := 5) (t := 21) (by decide +kernel : decode m_C_search.2.1 16 = .ok ((.if_icmp .le 5), 3)) rfl rfl rfl rfl (fun c7 => ?_) (fun c7 => ?_)
      · skip
        refine ok_seg (L := [((.aload_n 0), 1)]) (pc' := 22) (ls' := [some (.ref x0), some (.int x1)]) (st' := [.ref x0]) (w' := r3.1) (by decide +kernel) rfl ?_
        refine ok_gr (by decide +kernel : decode m_C_search.2.1 22 = .ok ((.getfield 36), 3)) rfl (by decide) (fun v8 h9 => ?_)
        refine ok_seg (L := [((.aload_n 0), 1)]) (pc' := 26) (ls' := [some (.ref x0), some (.int x1)]) (st' := [.ref x0, .ref v8]) (w' := r3.1) (by decide +kernel) rfl ?_
        refine ok_gr (by decide +kernel : decode m_C_search.2.1 26 = .ok ((.getfield 19), 3)) rfl (by decide) (fun v10 h11 => ?_)
        refine ok_call0 (inj' := am_jv) (by decide +kernel : decode m_C_search.2.1 29 = .ok ((.invokevirtual 173), 3)) rfl (fun q hq => am_iv0 (am_self_eq hq).1 rfl rfl rfl) (o_S_seek (d + 0) (v8) (v10) r3.1) (fun _ _ => rfl) (fun r12 h13 => ?_)
        refine ok_seg (L := [((.iload_n 1), 1)]) (pc' := 33) (ls' := [some (.ref x0), some (.int x1)]) (st' := [.int x1]) (w' := r12.1) (by decide +kernel) rfl ?_
        refine ok_br (P := ¬ x1 = 0) (off := 13) (t := 46) (by decide +kernel : decode m_C_search.2.1 33 = .ok ((.ifCond .ne 13), 3)) rfl rfl rfl rfl (fun c14 => ?_) (fun c14 => ?_)
        · skip
          refine ok_seg (L := [((.aload_n 0), 1)]) (pc' := 47) (ls' := [some (.ref x0), some (.int x1)]) (st' := [.ref x0]) (w' := r12.1) (by decide +kernel) rfl ?_
          refine ok_gr (by decide +kernel : decode m_C_search.2.1 47 = .ok ((.getfield 36), 3)) rfl (by decide) (fun v15 h16 => ?_)
          refine ok_call0 (inj' := am_ji) (by decide +kernel : decode m_C_search.2.1 50 = .ok ((.invokevirtual 179), 3)) rfl (fun q hq => am_iv0 (am_self_eq hq).1 rfl rfl rfl) (o_S_outcome (d + 4) (v15) r12.1) (fun _ _ => rfl) (fun r17 h18 => ?_)
          exact o_C_search_p53 r17.2 (some (.ref x0)) (some (.int x1)) r17.1
        · skip
          refine ok_seg (L := [((.aload_n 0), 1)]) (pc' := 37) (ls' := [some (.ref x0), some (.int x1)]) (st' := [.ref x0]) (w' := r12.1) (by decide +kernel) rfl ?_
          refine ok_gr (by decide +kernel : decode m_C_search.2.1 37 = .ok ((.getfield 36), 3)) rfl (by decide) (fun v19 h20 => ?_)
          refine ok_call0 (inj' := am_ji) (by decide +kernel : decode m_C_search.2.1 40 = .ok ((.invokevirtual 176), 3)) rfl (fun q hq => am_iv0 (am_self_eq hq).1 rfl rfl rfl) (o_S_triesMade (d + 4) (v19) r12.1) (fun _ _ => rfl) (fun r21 h22 => ?_)
          refine ok_goto (t := 53) (by decide +kernel : decode m_C_search.2.1 43 = .ok ((.goto 10), 3)) rfl ?_
          exact o_C_search_p53 r21.2 (some (.ref x0)) (some (.int x1)) r21.1
      · skip
        exact o_C_search_p19 (some (.ref x0)) (some (.int x1)) r3.1
-- m_C_isFillable
def f_C_isFillable_p39 (s0 : Int32) (w : am_W) : Option (am_W × Int32) := (am_rb w s0)
def e_C_isFillable (x0 : Nat) (w : am_W) : Option (am_W × Int32) := ((am_gr w x0 0 1).bind fun v1 => ((f_G_exists (v1) w).bind fun r3 => (if ¬ r3.2 = 0 then ((am_gr r3.1 x0 0 4).bind fun v6 => ((am_gr r3.1 x0 0 1).bind fun v8 => ((f_S_seek (v6) (v8) r3.1).bind fun r10 => ((am_gr r10.1 x0 0 4).bind fun v12 => ((f_S_outcome (v12) r10.1).bind fun r14 => (if ¬ r14.2 = 1 then (f_C_isFillable_p39 0 r14.1) else (f_C_isFillable_p39 1 r14.1))))))) else (some (r3.1, 0)))))
def f_C_isFillable (x0 : Nat) (w : am_W) : Option (am_W × Int32) := am_self w x0 0 (e_C_isFillable x0 w)
theorem o_C_isFillable_p39 {d : Nat} (s0 : Int32) (y0 : Option Value) (w : am_W) : am_Ok am_ji (d + 5) m_C_isFillable 39 [y0] [.int s0] w (f_C_isFillable_p39 s0 w) := by
  unfold f_C_isFillable_p39
  exact ok_retb (len := 1) (by decide +kernel : decode m_C_isFillable.2.1 39 = .ok (.ireturn, 1)) rfl
theorem o_C_isFillable (d : Nat) (x0 : Nat) (w : am_W) : am_Ok am_ji (d + 5) m_C_isFillable 0 (am_en m_C_isFillable [.ref x0]) [] w (f_C_isFillable x0 w) := by
  show am_Ok _ _ _ 0 [some (.ref x0)] [] w _
  unfold f_C_isFillable
  refine ok_self ?_
  unfold e_C_isFillable
  refine ok_seg (L := [((.aload_n 0), 1)]) (pc' := 1) (ls' := [some (.ref x0)]) (st' := [.ref x0]) (w' := w) (by decide +kernel) rfl ?_
  refine ok_gr (by decide +kernel : decode m_C_isFillable.2.1 1 = .ok ((.getfield 19), 3)) rfl (by decide) (fun v1 h2 => ?_)
  refine ok_call0 (inj' := am_ji) (by decide +kernel : decode m_C_isFillable.2.1 4 = .ok ((.invokevirtual 170), 3)) rfl (fun q hq => am_iv0 (am_self_eq hq).1 rfl rfl rfl) (o_G_exists (d + 4) (v1) w) (fun _ _ => rfl) (fun r3 h4 => ?_)
  refine ok_br (P := ¬ r3.2 = 0) (off := 5) (t := 12) (by decide +kernel : decode m_C_isFillable.2.1 7 = .ok ((.ifCond .ne 5), 3)) rfl rfl rfl rfl (fun c5 => ?_) (fun c5 => ?_)
  · skip
    refine ok_seg (L := [((.aload_n 0), 1)]) (pc' := 13) (ls' := [some (.ref x0)]) (st' := [.ref x0]) (w' := r3.1) (by decide +kernel) rfl ?_
    refine ok_gr (by decide +kernel : decode m_C_isFillable.2.1 13 = .ok ((.getfield 36), 3)) rfl (by decide) (fun v6 h7 => ?_)
    refine ok_seg (L := [((.aload_n 0), 1)]) (pc' := 17) (ls' := [some (.ref x0)]) (st' := [.ref x0, .ref v6]) (w' := r3.1) (by decide +kernel) rfl ?_
    refine ok_gr (by decide +kernel : decode m_C_isFillable.2.1 17 = .ok ((.getfield 19), 3)) rfl (by decide) (fun v8 h9 => ?_)
    refine ok_call0 (inj' := am_jv) (by decide +kernel : decode m_C_isFillable.2.1 20 = .ok ((.invokevirtual 173), 3)) rfl (fun q hq => am_iv0 (am_self_eq hq).1 rfl rfl rfl) (o_S_seek (d + 0) (v6) (v8) r3.1) (fun _ _ => rfl) (fun r10 h11 => ?_)
    refine ok_seg (L := [((.aload_n 0), 1)]) (pc' := 24) (ls' := [some (.ref x0)]) (st' := [.ref x0]) (w' := r10.1) (by decide +kernel) rfl ?_
    refine ok_gr (by decide +kernel : decode m_C_isFillable.2.1 24 = .ok ((.getfield 36), 3)) rfl (by decide) (fun v12 h13 => ?_)
    refine ok_call0 (inj' := am_ji) (by decide +kernel : decode m_C_isFillable.2.1 27 = .ok ((.invokevirtual 179), 3)) rfl (fun q hq => am_iv0 (am_self_eq hq).1 rfl rfl rfl) (o_S_outcome (d + 4) (v12) r10.1) (fun _ _ => rfl) (fun r14 h15 => ?_)
    refine ok_seg (L := [((.iconst 1), 1)]) (pc' := 31) (ls' := [some (.ref x0)]) (st' := [.int 1, .int r14.2]) (w' := r14.1) (by decide +kernel) rfl ?_
    refine ok_br (P := ¬ r14.2 = 1) (off := 7) (t := 38) (by decide +kernel : decode m_C_isFillable.2.1 31 = .ok ((.if_icmp .ne 7), 3)) rfl rfl rfl rfl (fun c16 => ?_) (fun c16 => ?_)
    · skip
      refine ok_seg (L := [((.iconst 0), 1)]) (pc' := 39) (ls' := [some (.ref x0)]) (st' := [.int 0]) (w' := r14.1) (by decide +kernel) rfl ?_
      exact o_C_isFillable_p39 0 (some (.ref x0)) r14.1
    · skip
      refine ok_seg (L := [((.iconst 1), 1)]) (pc' := 35) (ls' := [some (.ref x0)]) (st' := [.int 1]) (w' := r14.1) (by decide +kernel) rfl ?_
      refine ok_goto (t := 39) (by decide +kernel : decode m_C_isFillable.2.1 35 = .ok ((.goto 4), 3)) rfl ?_
      exact o_C_isFillable_p39 1 (some (.ref x0)) r14.1
  · skip
    refine ok_seg (L := [((.iconst 0), 1)]) (pc' := 11) (ls' := [some (.ref x0)]) (st' := [.int 0]) (w' := r3.1) (by decide +kernel) rfl ?_
    exact ok_ret (v := 0) (by decide +kernel : decode m_C_isFillable.2.1 11 = .ok (.ireturn, 1)) rfl
-- m_S_result
def e_S_result (x0 : Nat) (w : am_W) : Option (am_W × Nat) := ((am_gr w x0 4 1).bind fun v1 => (some (w, v1)))
def f_S_result (x0 : Nat) (w : am_W) : Option (am_W × Nat) := am_self w x0 4 (e_S_result x0 w)
theorem o_S_result (d : Nat) (x0 : Nat) (w : am_W) : am_Ok am_ja (d + 0) m_S_result 0 (am_en m_S_result [.ref x0]) [] w (f_S_result x0 w) := by
  show am_Ok _ _ _ 0 [some (.ref x0)] [] w _
  unfold f_S_result
  refine ok_self ?_
  unfold e_S_result
  refine ok_seg (L := [((.aload_n 0), 1)]) (pc' := 1) (ls' := [some (.ref x0)]) (st' := [.ref x0]) (w' := w) (by decide +kernel) rfl ?_
  refine ok_gr (by decide +kernel : decode m_S_result.2.1 1 = .ok ((.getfield 18), 3)) rfl (by decide) (fun v1 h2 => ?_)
  exact ok_ret (v := v1) (by decide +kernel : decode m_S_result.2.1 4 = .ok (.areturn, 1)) rfl
-- m_C_found
def f_C_found_p33 (s0 : Int32) (w : am_W) : Option (am_W × Int32) := (some (w, s0))
def f_C_found_p32 (w : am_W) : Option (am_W × Int32) := (f_C_found_p33 (-1) w)
def e_C_found (x0 : Nat) (x1 : Int32) (w : am_W) : Option (am_W × Int32) := ((am_gr w x0 0 1).bind fun v1 => ((f_G_hasCell (v1) (x1) w).bind fun r3 => (if r3.2 = 0 then (f_C_found_p32 r3.1) else ((f_C_isFillable (x0) r3.1).bind fun r6 => (if r6.2 = 0 then (f_C_found_p32 r6.1) else ((am_gr r6.1 x0 0 4).bind fun v9 => ((f_S_result (v9) r6.1).bind fun r11 => ((f_G_colourOf (r11.2) (x1) r11.1).bind fun r13 => (f_C_found_p33 r13.2 r13.1)))))))))
def f_C_found (x0 : Nat) (x1 : Int32) (w : am_W) : Option (am_W × Int32) := am_self w x0 0 (e_C_found x0 x1 w)
theorem o_C_found_p33 {d : Nat} (s0 : Int32) (y0 y1 : Option Value) (w : am_W) : am_Ok am_ji (d + 6) m_C_found 33 [y0, y1] [.int s0] w (f_C_found_p33 s0 w) := by
  unfold f_C_found_p33
  exact ok_ret (v := s0) (by decide +kernel : decode m_C_found.2.1 33 = .ok (.ireturn, 1)) rfl
theorem o_C_found_p32 {d : Nat} (y0 y1 : Option Value) (w : am_W) : am_Ok am_ji (d + 6) m_C_found 32 [y0, y1] [] w (f_C_found_p32 w) := by
  unfold f_C_found_p32
  refine ok_seg (L := [((.iconst (-1)), 1)]) (pc' := 33) (ls' := [y0, y1]) (st' := [.int (-1)]) (w' := w) (by decide +kernel) rfl ?_
  exact o_C_found_p33 (-1) y0 y1 w
theorem o_C_found (d : Nat) (x0 : Nat) (x1 : Int32) (w : am_W) : am_Ok am_ji (d + 6) m_C_found 0 (am_en m_C_found [.ref x0, .int x1]) [] w (f_C_found x0 x1 w) := by
  show am_Ok _ _ _ 0 [some (.ref x0), some (.int x1)] [] w _
  unfold f_C_found
  refine ok_self ?_
  unfold e_C_found
  refine ok_seg (L := [((.aload_n 0), 1)]) (pc' := 1) (ls' := [some (.ref x0), some (.int x1)]) (st' := [.ref x0]) (w' := w) (by decide +kernel) rfl ?_
  refine ok_gr (by decide +kernel : decode m_C_found.2.1 1 = .ok ((.getfield 19), 3)) rfl (by decide) (fun v1 h2 => ?_)
  refine ok_seg (L := [((.iload_n 1), 1)]) (pc' := 5) (ls' := [some (.ref x0), some (.int x1)]) (st' := [.int x1, .ref v1]) (w' := w) (by decide +kernel) rfl ?_
  refine ok_call0 (inj' := am_ji) (by decide +kernel : decode m_C_found.2.1 5 = .ok ((.invokevirtual 121), 3)) rfl (fun q hq => am_iv0 (am_self_eq hq).1 rfl rfl rfl) (o_G_hasCell (d + 5) (v1) (x1) w) (fun _ _ => rfl) (fun r3 h4 => ?_)
  refine ok_br (P := r3.2 = 0) (off := 24) (t := 32) (by decide +kernel : decode m_C_found.2.1 8 = .ok ((.ifCond .eq 24), 3)) rfl rfl rfl rfl (fun c5 => ?_) (fun c5 => ?_)
  · skip
    exact o_C_found_p32 (some (.ref x0)) (some (.int x1)) r3.1
  · skip
    refine ok_seg (L := [((.aload_n 0), 1)]) (pc' := 12) (ls' := [some (.ref x0), some (.int x1)]) (st' := [.ref x0]) (w' := r3.1) (by decide +kernel) rfl ?_
    refine ok_call0 (inj' := am_ji) (by decide +kernel : decode m_C_found.2.1 12 = .ok ((.invokevirtual 182), 3)) rfl (fun q hq => am_iv0 (am_self_eq hq).1 rfl rfl rfl) (o_C_isFillable (d + 0) (x0) r3.1) (fun _ _ => rfl) (fun r6 h7 => ?_)
    refine ok_br (P := r6.2 = 0) (off := 17) (t := 32) (by decide +kernel : decode m_C_found.2.1 15 = .ok ((.ifCond .eq 17), 3)) rfl rfl rfl rfl (fun c8 => ?_) (fun c8 => ?_)
    · skip
      exact o_C_found_p32 (some (.ref x0)) (some (.int x1)) r6.1
    · skip
      refine ok_seg (L := [((.aload_n 0), 1)]) (pc' := 19) (ls' := [some (.ref x0), some (.int x1)]) (st' := [.ref x0]) (w' := r6.1) (by decide +kernel) rfl ?_
      refine ok_gr (by decide +kernel : decode m_C_found.2.1 19 = .ok ((.getfield 36), 3)) rfl (by decide) (fun v9 h10 => ?_)
      refine ok_call0 (inj' := am_ja) (by decide +kernel : decode m_C_found.2.1 22 = .ok ((.invokevirtual 185), 3)) rfl (fun q hq => am_iv0 (am_self_eq hq).1 rfl rfl rfl) (o_S_result (d + 5) (v9) r6.1) (fun _ _ => rfl) (fun r11 h12 => ?_)
      refine ok_seg (L := [((.iload_n 1), 1)]) (pc' := 26) (ls' := [some (.ref x0), some (.int x1)]) (st' := [.int x1, .ref r11.2]) (w' := r11.1) (by decide +kernel) rfl ?_
      refine ok_call0 (inj' := am_ji) (by decide +kernel : decode m_C_found.2.1 26 = .ok ((.invokevirtual 124), 3)) rfl (fun q hq => am_iv0 (am_self_eq hq).1 rfl rfl rfl) (o_G_colourOf (d + 4) (r11.2) (x1) r11.1) (fun _ _ => rfl) (fun r13 h14 => ?_)
      refine ok_goto (t := 33) (by decide +kernel : decode m_C_found.2.1 29 = .ok ((.goto 4), 3)) rfl ?_
      exact o_C_found_p33 r13.2 (some (.ref x0)) (some (.int x1)) r13.1
-- m_F_hasPlace
def f_F_hasPlace_p36 (s0 : Int32) (w : am_W) : Option (am_W × Int32) := (am_rb w s0)
def f_F_hasPlace_p35 (w : am_W) : Option (am_W × Int32) := (f_F_hasPlace_p36 0 w)
def e_F_hasPlace (x0 : Nat) (x1 : Int32) (w : am_W) : Option (am_W × Int32) := (if x1 < 0 then (f_F_hasPlace_p35 w) else ((am_gr w x0 5 0).bind fun v2 => ((am_al w v2).bind fun v4 => (if v4 ≤ x1 then (f_F_hasPlace_p35 w) else ((am_gr w x0 5 1).bind fun v7 => ((am_al w v7).bind fun v9 => (if v9 ≤ x1 then (f_F_hasPlace_p35 w) else ((am_gr w x0 5 0).bind fun v12 => ((am_ax w v12 x1).bind fun v14 => (f_F_hasPlace_p36 1 w))))))))))
def f_F_hasPlace (x0 : Nat) (x1 : Int32) (w : am_W) : Option (am_W × Int32) := am_self w x0 5 (e_F_hasPlace x0 x1 w)
theorem o_F_hasPlace_p36 {d : Nat} (s0 : Int32) (y0 y1 : Option Value) (w : am_W) : am_Ok am_ji (d + 0) m_F_hasPlace 36 [y0, y1] [.int s0] w (f_F_hasPlace_p36 s0 w) := by
  unfold f_F_hasPlace_p36
  exact ok_retb (len := 1) (by decide +kernel : decode m_F_hasPlace.2.1 36 = .ok (.ireturn, 1)) rfl
theorem o_F_hasPlace_p35 {d : Nat} (y0 y1 : Option Value) (w : am_W) : am_Ok am_ji (d + 0) m_F_hasPlace 35 [y0, y1] [] w (f_F_hasPlace_p35 w) := by
  unfold f_F_hasPlace_p35
  refine ok_seg (L := [((.iconst 0), 1)]) (pc' := 36) (ls' := [y0, y1]) (st' := [.int 0]) (w' := w) (by decide +kernel) rfl ?_
  exact o_F_hasPlace_p36 0 y0 y1 w
theorem o_F_hasPlace (d : Nat) (x0 : Nat) (x1 : Int32) (w : am_W) : am_Ok am_ji (d + 0) m_F_hasPlace 0 (am_en m_F_hasPlace [.ref x0, .int x1]) [] w (f_F_hasPlace x0 x1 w) := by
  show am_Ok _ _ _ 0 [some (.ref x0), some (.int x1)] [] w _
  unfold f_F_hasPlace
  refine ok_self ?_
  unfold e_F_hasPlace
  refine ok_seg (L := [((.iload_n 1), 1)]) (pc' := 1) (ls' := [some (.ref x0), some (.int x1)]) (st' := [.int x1]) (w' := w) (by decide +kernel) rfl ?_
  refine ok_br (P := x1 < 0) (off := 34) (t := 35) (by decide +kernel : decode m_F_hasPlace.2.1 1 = .ok ((.ifCond .lt 34), 3)) rfl rfl rfl rfl (fun c1 => ?_) (fun c1 => ?_)
  · skip
    exact o_F_hasPlace_p35 (some (.ref x0)) (some (.int x1)) w
  · skip
    refine ok_seg (L := [((.iload_n 1), 1), ((.aload_n 0), 1)]) (pc' := 6) (ls' := [some (.ref x0), some (.int x1)]) (st' := [.ref x0, .int x1]) (w' := w) (by decide +kernel) rfl ?_
    refine ok_gr (by decide +kernel : decode m_F_hasPlace.2.1 6 = .ok ((.getfield 15), 3)) rfl (by decide) (fun v2 h3 => ?_)
    refine ok_al (by decide +kernel : decode m_F_hasPlace.2.1 9 = .ok (.arraylength, 1)) (fun v4 h5 => ?_)
    refine ok_br (P := v4 ≤ x1) (off := 25) (t := 35) (by decide +kernel : decode m_F_hasPlace.2.1 10 = .ok ((.if_icmp .ge 25), 3)) rfl rfl rfl rfl (fun c6 => ?_) (fun c6 => ?_)
    · skip
      exact o_F_hasPlace_p35 (some (.ref x0)) (some (.int x1)) w
    · skip
      refine ok_seg (L := [((.iload_n 1), 1), ((.aload_n 0), 1)]) (pc' := 15) (ls' := [some (.ref x0), some (.int x1)]) (st' := [.ref x0, .int x1]) (w' := w) (by decide +kernel) rfl ?_
      refine ok_gr (by decide +kernel : decode m_F_hasPlace.2.1 15 = .ok ((.getfield 21), 3)) rfl (by decide) (fun v7 h8 => ?_)
      refine ok_al (by decide +kernel : decode m_F_hasPlace.2.1 18 = .ok (.arraylength, 1)) (fun v9 h10 => ?_)
      refine ok_br (P := v9 ≤ x1) (off := 16) (t := 35) (by decide +kernel : decode m_F_hasPlace.2.1 19 = .ok ((.if_icmp .ge 16), 3)) rfl rfl rfl rfl (fun c11 => ?_) (fun c11 => ?_)
      · skip
        exact o_F_hasPlace_p35 (some (.ref x0)) (some (.int x1)) w
      · skip
        refine ok_seg (L := [((.aload_n 0), 1)]) (pc' := 23) (ls' := [some (.ref x0), some (.int x1)]) (st' := [.ref x0]) (w' := w) (by decide +kernel) rfl ?_
        refine ok_gr (by decide +kernel : decode m_F_hasPlace.2.1 23 = .ok ((.getfield 15), 3)) rfl (by decide) (fun v12 h13 => ?_)
        refine ok_seg (L := [((.iload_n 1), 1)]) (pc' := 27) (ls' := [some (.ref x0), some (.int x1)]) (st' := [.int x1, .ref v12]) (w' := w) (by decide +kernel) rfl ?_
        refine ok_ax (by decide +kernel : decode m_F_hasPlace.2.1 27 = .ok (.aaload, 1)) (fun v14 h15 => ?_)
        refine ok_seg (L := [((.ifnull 7), 3), ((.iconst 1), 1)]) (pc' := 32) (ls' := [some (.ref x0), some (.int x1)]) (st' := [.int 1]) (w' := w) (by decide +kernel) rfl ?_
        refine ok_goto (t := 36) (by decide +kernel : decode m_F_hasPlace.2.1 32 = .ok ((.goto 4), 3)) rfl ?_
        exact o_F_hasPlace_p36 1 (some (.ref x0)) (some (.int x1)) w
-- m_F_store
def e_F_store (x0 : Nat) (x1 : Int32) (x2 : Nat) (w : am_W) : Option (am_W × Int32) := ((f_F_hasPlace (x0) (x1) w).bind fun r1 => (if ¬ r1.2 = 0 then ((am_gr r1.1 x0 5 0).bind fun v4 => ((am_ax r1.1 v4 x1).bind fun v6 => ((f_G_copy (v6) (x2) r1.1).bind fun r8 => ((am_gr r8.1 x0 5 1).bind fun v10 => ((am_sz r8.1 v10 x1 1).bind fun w12 => (some (w12, 1))))))) else (some (r1.1, 0))))
def f_F_store (x0 : Nat) (x1 : Int32) (x2 : Nat) (w : am_W) : Option (am_W × Int32) := am_self w x0 5 (e_F_store x0 x1 x2 w)
theorem o_F_store (d : Nat) (x0 : Nat) (x1 : Int32) (x2 : Nat) (w : am_W) : am_Ok am_ji (d + 2) m_F_store 0 (am_en m_F_store [.ref x0, .int x1, .ref x2]) [] w (f_F_store x0 x1 x2 w) := by
  show am_Ok _ _ _ 0 [some (.ref x0), some (.int x1), some (.ref x2)] [] w _
  unfold f_F_store
  refine ok_self ?_
  unfold e_F_store
  refine ok_seg (L := [((.aload_n 0), 1), ((.iload_n 1), 1)]) (pc' := 2) (ls' := [some (.ref x0), some (.int x1), some (.ref x2)]) (st' := [.int x1, .ref x0]) (w' := w) (by decide +kernel) rfl ?_
  refine ok_call0 (inj' := am_ji) (by decide +kernel : decode m_F_store.2.1 2 = .ok ((.invokevirtual 26), 3)) rfl (fun q hq => am_iv0 (am_self_eq hq).1 rfl rfl rfl) (o_F_hasPlace (d + 1) (x0) (x1) w) (fun _ _ => rfl) (fun r1 h2 => ?_)
  refine ok_br (P := ¬ r1.2 = 0) (off := 5) (t := 10) (by decide +kernel : decode m_F_store.2.1 5 = .ok ((.ifCond .ne 5), 3)) rfl rfl rfl rfl (fun c3 => ?_) (fun c3 => ?_)
  · skip
    refine ok_seg (L := [((.aload_n 0), 1)]) (pc' := 11) (ls' := [some (.ref x0), some (.int x1), some (.ref x2)]) (st' := [.ref x0]) (w' := r1.1) (by decide +kernel) rfl ?_
    refine ok_gr (by decide +kernel : decode m_F_store.2.1 11 = .ok ((.getfield 15), 3)) rfl (by decide) (fun v4 h5 => ?_)
    refine ok_seg (L := [((.iload_n 1), 1)]) (pc' := 15) (ls' := [some (.ref x0), some (.int x1), some (.ref x2)]) (st' := [.int x1, .ref v4]) (w' := r1.1) (by decide +kernel) rfl ?_
    refine ok_ax (by decide +kernel : decode m_F_store.2.1 15 = .ok (.aaload, 1)) (fun v6 h7 => ?_)
    refine ok_seg (L := [((.aload_n 2), 1)]) (pc' := 17) (ls' := [some (.ref x0), some (.int x1), some (.ref x2)]) (st' := [.ref x2, .ref v6]) (w' := r1.1) (by decide +kernel) rfl ?_
    refine ok_call0 (inj' := am_jv) (by decide +kernel : decode m_F_store.2.1 17 = .ok ((.invokevirtual 30), 3)) rfl (fun q hq => am_iv0 (am_self_eq hq).1 rfl rfl rfl) (o_G_copy (d + 0) (v6) (x2) r1.1) (fun _ _ => rfl) (fun r8 h9 => ?_)
    refine ok_seg (L := [((.aload_n 0), 1)]) (pc' := 21) (ls' := [some (.ref x0), some (.int x1), some (.ref x2)]) (st' := [.ref x0]) (w' := r8.1) (by decide +kernel) rfl ?_
    refine ok_gr (by decide +kernel : decode m_F_store.2.1 21 = .ok ((.getfield 21), 3)) rfl (by decide) (fun v10 h11 => ?_)
    refine ok_seg (L := [((.iload_n 1), 1), ((.iconst 1), 1)]) (pc' := 26) (ls' := [some (.ref x0), some (.int x1), some (.ref x2)]) (st' := [.int 1, .int x1, .ref v10]) (w' := r8.1) (by decide +kernel) rfl ?_
    refine ok_sz (by decide +kernel : decode m_F_store.2.1 26 = .ok (.bastore, 1)) (fun w12 h13 => ?_)
    refine ok_seg (L := [((.iconst 1), 1)]) (pc' := 28) (ls' := [some (.ref x0), some (.int x1), some (.ref x2)]) (st' := [.int 1]) (w' := w12) (by decide +kernel) rfl ?_
    exact ok_ret (v := 1) (by decide +kernel : decode m_F_store.2.1 28 = .ok (.ireturn, 1)) rfl
  · skip
    refine ok_seg (L := [((.iconst 0), 1)]) (pc' := 9) (ls' := [some (.ref x0), some (.int x1), some (.ref x2)]) (st' := [.int 0]) (w' := r1.1) (by decide +kernel) rfl ?_
    exact ok_ret (v := 0) (by decide +kernel : decode m_F_store.2.1 9 = .ok (.ireturn, 1)) rfl
-- m_H_keep
def e_H_keep (x0 : Nat) (x1 : Nat) (w : am_W) : Option (am_W × Unit) := ((am_gi w x0 2 1).bind fun v1 => (if 8 = 0 then none else ((am_pv w x0 2 1 (.int ((v1 + 1) - (v1 + 1) / 8 * 8))).bind fun w4 => ((am_gr w4 x0 2 0).bind fun v6 => ((am_gi w4 x0 2 1).bind fun v8 => ((f_F_store (v6) (v8) (x1) w4).bind fun r10 => ((am_gi r10.1 x0 2 2).bind fun v12 => ((am_pv r10.1 x0 2 2 (.int (am_min (v12 + 1) 8))).bind fun w14 => (some (w14, ()))))))))))
def f_H_keep (x0 : Nat) (x1 : Nat) (w : am_W) : Option (am_W × Unit) := am_self w x0 2 (e_H_keep x0 x1 w)
theorem o_H_keep (d : Nat) (x0 : Nat) (x1 : Nat) (w : am_W) : am_Ok am_jv (d + 3) m_H_keep 0 (am_en m_H_keep [.ref x0, .ref x1]) [] w (f_H_keep x0 x1 w) := by
  show am_Ok _ _ _ 0 [some (.ref x0), some (.ref x1)] [] w _
  unfold f_H_keep
  refine ok_self ?_
  unfold e_H_keep
  refine ok_seg (L := [((.aload_n 0), 1), ((.aload_n 0), 1)]) (pc' := 2) (ls' := [some (.ref x0), some (.ref x1)]) (st' := [.ref x0, .ref x0]) (w' := w) (by decide +kernel) rfl ?_
  refine ok_gi (by decide +kernel : decode m_H_keep.2.1 2 = .ok ((.getfield 20), 3)) rfl (fun v1 h2 => ?_)
  refine ok_seg (L := [((.iconst 1), 1), (.iadd, 1), ((.bipush 8), 2)]) (pc' := 9) (ls' := [some (.ref x0), some (.ref x1)]) (st' := [.int 8, .int (v1 + 1), .ref x0]) (w' := w) (by decide +kernel) rfl ?_
  refine ok_rem (by decide +kernel : decode m_H_keep.2.1 9 = .ok (.irem, 1)) (fun c3 => ?_)
  refine ok_pi (by decide +kernel : decode m_H_keep.2.1 10 = .ok ((.putfield 20), 3)) rfl (fun w4 h5 => ?_)
  refine ok_seg (L := [((.aload_n 0), 1)]) (pc' := 14) (ls' := [some (.ref x0), some (.ref x1)]) (st' := [.ref x0]) (w' := w4) (by decide +kernel) rfl ?_
  refine ok_gr (by decide +kernel : decode m_H_keep.2.1 14 = .ok ((.getfield 14), 3)) rfl (by decide) (fun v6 h7 => ?_)
  refine ok_seg (L := [((.aload_n 0), 1)]) (pc' := 18) (ls' := [some (.ref x0), some (.ref x1)]) (st' := [.ref x0, .ref v6]) (w' := w4) (by decide +kernel) rfl ?_
  refine ok_gi (by decide +kernel : decode m_H_keep.2.1 18 = .ok ((.getfield 20), 3)) rfl (fun v8 h9 => ?_)
  refine ok_seg (L := [((.aload_n 1), 1)]) (pc' := 22) (ls' := [some (.ref x0), some (.ref x1)]) (st' := [.ref x1, .int v8, .ref v6]) (w' := w4) (by decide +kernel) rfl ?_
  refine ok_call0 (inj' := am_ji) (by decide +kernel : decode m_H_keep.2.1 22 = .ok ((.invokevirtual 27), 3)) rfl (fun q hq => am_iv0 (am_self_eq hq).1 rfl rfl rfl) (o_F_store (d + 0) (v6) (v8) (x1) w4) (fun _ _ => rfl) (fun r10 h11 => ?_)
  refine ok_seg (L := [(.pop, 1), ((.aload_n 0), 1), ((.aload_n 0), 1)]) (pc' := 28) (ls' := [some (.ref x0), some (.ref x1)]) (st' := [.ref x0, .ref x0]) (w' := r10.1) (by decide +kernel) rfl ?_
  refine ok_gi (by decide +kernel : decode m_H_keep.2.1 28 = .ok ((.getfield 24), 3)) rfl (fun v12 h13 => ?_)
  refine ok_seg (L := [((.iconst 1), 1), (.iadd, 1), ((.bipush 8), 2), ((.invokestatic 31), 3)]) (pc' := 38) (ls' := [some (.ref x0), some (.ref x1)]) (st' := [.int (am_min (v12 + 1) 8), .ref x0]) (w' := r10.1) (by decide +kernel) rfl ?_
  refine ok_pi (by decide +kernel : decode m_H_keep.2.1 38 = .ok ((.putfield 24), 3)) rfl (fun w14 h15 => ?_)
  exact ok_ret (v := ()) (by decide +kernel : decode m_H_keep.2.1 41 = .ok (.return_, 1)) rfl
-- m_C_fill
def e_C_fill (x0 : Nat) (w : am_W) : Option (am_W × Int32) := ((f_C_isFillable (x0) w).bind fun r1 => (if ¬ r1.2 = 0 then ((am_gr r1.1 x0 0 1).bind fun v4 => ((f_G_cellsOf (v4) (0) r1.1).bind fun r6 => ((f_J_bitCount (r6.2) r6.1).bind fun r8 => ((am_gr r8.1 x0 0 5).bind fun v10 => ((am_gr r8.1 x0 0 1).bind fun v12 => ((f_H_keep (v10) (v12) r8.1).bind fun r14 => ((am_gr r14.1 x0 0 1).bind fun v16 => ((am_gr r14.1 x0 0 4).bind fun v18 => ((f_S_result (v18) r14.1).bind fun r20 => ((f_G_copy (v16) (r20.2) r20.1).bind fun r22 => (some (r22.1, r8.2)))))))))))) else (some (r1.1, (-1)))))
def f_C_fill (x0 : Nat) (w : am_W) : Option (am_W × Int32) := am_self w x0 0 (e_C_fill x0 w)
theorem o_C_fill (d : Nat) (x0 : Nat) (w : am_W) : am_Ok am_ji (d + 6) m_C_fill 0 (am_en m_C_fill [.ref x0]) [] w (f_C_fill x0 w) := by
  show am_Ok _ _ _ 0 [some (.ref x0), none] [] w _
  unfold f_C_fill
  refine ok_self ?_
  unfold e_C_fill
  refine ok_seg (L := [((.aload_n 0), 1)]) (pc' := 1) (ls' := [some (.ref x0), none]) (st' := [.ref x0]) (w' := w) (by decide +kernel) rfl ?_
  refine ok_call0 (inj' := am_ji) (by decide +kernel : decode m_C_fill.2.1 1 = .ok ((.invokevirtual 182), 3)) rfl (fun q hq => am_iv0 (am_self_eq hq).1 rfl rfl rfl) (o_C_isFillable (d + 0) (x0) w) (fun _ _ => rfl) (fun r1 h2 => ?_)
  refine ok_br (P := ¬ r1.2 = 0) (off := 5) (t := 9) (by decide +kernel : decode m_C_fill.2.1 4 = .ok ((.ifCond .ne 5), 3)) rfl rfl rfl rfl (fun c3 => ?_) (fun c3 => ?_)
  · skip
    refine ok_seg (L := [((.aload_n 0), 1)]) (pc' := 10) (ls' := [some (.ref x0), none]) (st' := [.ref x0]) (w' := r1.1) (by decide +kernel) rfl ?_
    refine ok_gr (by decide +kernel : decode m_C_fill.2.1 10 = .ok ((.getfield 19), 3)) rfl (by decide) (fun v4 h5 => ?_)
    refine ok_seg (L := [((.iconst 0), 1)]) (pc' := 14) (ls' := [some (.ref x0), none]) (st' := [.int 0, .ref v4]) (w' := r1.1) (by decide +kernel) rfl ?_
    refine ok_call0 (inj' := am_jj) (by decide +kernel : decode m_C_fill.2.1 14 = .ok ((.invokevirtual 104), 3)) rfl (fun q hq => am_iv0 (am_self_eq hq).1 rfl rfl rfl) (o_G_cellsOf (d + 5) (v4) (0) r1.1) (fun _ _ => rfl) (fun r6 h7 => ?_)
    refine ok_call0 (inj' := am_ji) (by decide +kernel : decode m_C_fill.2.1 17 = .ok ((.invokestatic 108), 3)) rfl (fun _ _ => rfl) (o_J_bitCount (d + 5) (r6.2) r6.1) (fun _ _ => rfl) (fun r8 h9 => ?_)
    refine ok_seg (L := [((.istore_n 1), 1), ((.aload_n 0), 1)]) (pc' := 22) (ls' := [some (.ref x0), some (.int r8.2)]) (st' := [.ref x0]) (w' := r8.1) (by decide +kernel) rfl ?_
    refine ok_gr (by decide +kernel : decode m_C_fill.2.1 22 = .ok ((.getfield 43), 3)) rfl (by decide) (fun v10 h11 => ?_)
    refine ok_seg (L := [((.aload_n 0), 1)]) (pc' := 26) (ls' := [some (.ref x0), some (.int r8.2)]) (st' := [.ref x0, .ref v10]) (w' := r8.1) (by decide +kernel) rfl ?_
    refine ok_gr (by decide +kernel : decode m_C_fill.2.1 26 = .ok ((.getfield 19), 3)) rfl (by decide) (fun v12 h13 => ?_)
    refine ok_call0 (inj' := am_jv) (by decide +kernel : decode m_C_fill.2.1 29 = .ok ((.invokevirtual 188), 3)) rfl (fun q hq => am_iv0 (am_self_eq hq).1 rfl rfl rfl) (o_H_keep (d + 2) (v10) (v12) r8.1) (fun _ _ => rfl) (fun r14 h15 => ?_)
    refine ok_seg (L := [((.aload_n 0), 1)]) (pc' := 33) (ls' := [some (.ref x0), some (.int r8.2)]) (st' := [.ref x0]) (w' := r14.1) (by decide +kernel) rfl ?_
    refine ok_gr (by decide +kernel : decode m_C_fill.2.1 33 = .ok ((.getfield 19), 3)) rfl (by decide) (fun v16 h17 => ?_)
    refine ok_seg (L := [((.aload_n 0), 1)]) (pc' := 37) (ls' := [some (.ref x0), some (.int r8.2)]) (st' := [.ref x0, .ref v16]) (w' := r14.1) (by decide +kernel) rfl ?_
    refine ok_gr (by decide +kernel : decode m_C_fill.2.1 37 = .ok ((.getfield 36), 3)) rfl (by decide) (fun v18 h19 => ?_)
    refine ok_call0 (inj' := am_ja) (by decide +kernel : decode m_C_fill.2.1 40 = .ok ((.invokevirtual 185), 3)) rfl (fun q hq => am_iv0 (am_self_eq hq).1 rfl rfl rfl) (o_S_result (d + 5) (v18) r14.1) (fun _ _ => rfl) (fun r20 h21 => ?_)
    refine ok_call0 (inj' := am_jv) (by decide +kernel : decode m_C_fill.2.1 43 = .ok ((.invokevirtual 85), 3)) rfl (fun q hq => am_iv0 (am_self_eq hq).1 rfl rfl rfl) (o_G_copy (d + 4) (v16) (r20.2) r20.1) (fun _ _ => rfl) (fun r22 h23 => ?_)
    refine ok_seg (L := [((.iload_n 1), 1)]) (pc' := 47) (ls' := [some (.ref x0), some (.int r8.2)]) (st' := [.int r8.2]) (w' := r22.1) (by decide +kernel) rfl ?_
    exact ok_ret (v := r8.2) (by decide +kernel : decode m_C_fill.2.1 47 = .ok (.ireturn, 1)) rfl
  · skip
    refine ok_seg (L := [((.iconst (-1)), 1)]) (pc' := 8) (ls' := [some (.ref x0), none]) (st' := [.int (-1)]) (w' := r1.1) (by decide +kernel) rfl ?_
    exact ok_ret (v := (-1)) (by decide +kernel : decode m_C_fill.2.1 8 = .ok (.ireturn, 1)) rfl
-- m_C_isOrder
def f_C_isOrder_p41 (s0 : Int32) (w : am_W) : Option (am_W × Int32) := (am_rb w s0)
def f_C_isOrder_p4 : Nat → Int32 → Int32 → Int32 → Int32 → am_W → Option (am_W × Int32)
  | 0, _, _, _, _, _ => none
  | n + 1, x0, x1, x2, x3, w => (if x1 ≤ x3 then (if ¬ x2 = ((1 <<< (x1 &&& 31)) - 1) then (f_C_isOrder_p41 0 w) else (f_C_isOrder_p41 1 w)) else (f_C_isOrder_p4 n x0 x1 (x2 ||| (1 <<< (((x0 >>> ((2 * x3) &&& 31)) &&& 3) &&& 31))) (x3 + 1) w))
def e_C_isOrder (x0 : Int32) (x1 : Int32) (w : am_W) : Option (am_W × Int32) := (f_C_isOrder_p4 am_N x0 x1 0 0 w)
def f_C_isOrder (x0 : Int32) (x1 : Int32) (w : am_W) : Option (am_W × Int32) := e_C_isOrder x0 x1 w
theorem o_C_isOrder_p41 {d : Nat} (s0 : Int32) (y0 y1 y2 y3 : Option Value) (w : am_W) : am_Ok am_ji (d + 0) m_C_isOrder 41 [y0, y1, y2, y3] [.int s0] w (f_C_isOrder_p41 s0 w) := by
  unfold f_C_isOrder_p41
  exact ok_retb (len := 1) (by decide +kernel : decode m_C_isOrder.2.1 41 = .ok (.ireturn, 1)) rfl
theorem o_C_isOrder_p4 {d : Nat} : ∀ (n : Nat) (x0 : Int32) (x1 : Int32) (x2 : Int32) (x3 : Int32) (w : am_W), am_Ok am_ji (d + 0) m_C_isOrder 4 [some (.int x0), some (.int x1), some (.int x2), some (.int x3)] [] w (f_C_isOrder_p4 n x0 x1 x2 x3 w) := by
  intro n
  induction n with
  | zero => intros; exact ok_none
  | succ n ih =>
    intro x0 x1 x2 x3 w
    unfold f_C_isOrder_p4
    refine ok_seg (L := [((.iload_n 3), 1), ((.iload_n 1), 1)]) (pc' := 6) (ls' := [some (.int x0), some (.int x1), some (.int x2), some (.int x3)]) (st' := [.int x1, .int x3]) (w' := w) (by decide +kernel) rfl ?_
    refine ok_br (P := x1 ≤ x3) (off := 21) (t := 27) (by decide +kernel : decode m_C_isOrder.2.1 6 = .ok ((.if_icmp .ge 21), 3)) rfl rfl rfl rfl (fun c1 => ?_) (fun c1 => ?_)
    · skip
      refine ok_seg (L := [((.iload_n 2), 1), ((.iconst 1), 1), ((.iload_n 1), 1), (.ishl, 1), ((.iconst 1), 1), (.isub, 1)]) (pc' := 33) (ls' := [some (.int x0), some (.int x1), some (.int x2), some (.int x3)]) (st' := [.int ((1 <<< (x1 &&& 31)) - 1), .int x2]) (w' := w) (by decide +kernel) rfl ?_
      refine ok_br (P := ¬ x2 = ((1 <<< (x1 &&& 31)) - 1)) (off := 7) (t := 40) (by decide +kernel : decode m_C_isOrder.2.1 33 = .ok ((.if_icmp .ne 7), 3)) rfl rfl rfl rfl (fun c2 => ?_) (fun c2 => ?_)
      · skip
        refine ok_seg (L := [((.iconst 0), 1)]) (pc' := 41) (ls' := [some (.int x0), some (.int x1), some (.int x2), some (.int x3)]) (st' := [.int 0]) (w' := w) (by decide +kernel) rfl ?_
        exact o_C_isOrder_p41 0 (some (.int x0)) (some (.int x1)) (some (.int x2)) (some (.int x3)) w
      · skip
        refine ok_seg (L := [((.iconst 1), 1)]) (pc' := 37) (ls' := [some (.int x0), some (.int x1), some (.int x2), some (.int x3)]) (st' := [.int 1]) (w' := w) (by decide +kernel) rfl ?_
        refine ok_goto (t := 41) (by decide +kernel : decode m_C_isOrder.2.1 37 = .ok ((.goto 4), 3)) rfl ?_
        exact o_C_isOrder_p41 1 (some (.int x0)) (some (.int x1)) (some (.int x2)) (some (.int x3)) w
    · skip
      refine ok_seg (L := [((.iload_n 2), 1), ((.iconst 1), 1), ((.iload_n 0), 1), ((.iconst 2), 1), ((.iload_n 3), 1), (.imul, 1), (.ishr, 1), ((.iconst 3), 1), (.iand, 1), (.ishl, 1), (.ior, 1), ((.istore_n 2), 1), ((.iinc 3 1), 3)]) (pc' := 24) (ls' := [some (.int x0), some (.int x1), some (.int (x2 ||| (1 <<< (((x0 >>> ((2 * x3) &&& 31)) &&& 3) &&& 31)))), some (.int (x3 + 1))]) (st' := []) (w' := w) (by decide +kernel) rfl ?_
      refine ok_goto (t := 4) (by decide +kernel : decode m_C_isOrder.2.1 24 = .ok ((.goto (-20)), 3)) rfl ?_
      exact ih x0 x1 (x2 ||| (1 <<< (((x0 >>> ((2 * x3) &&& 31)) &&& 3) &&& 31))) (x3 + 1) w
theorem o_C_isOrder (d : Nat) (x0 : Int32) (x1 : Int32) (w : am_W) : am_Ok am_ji (d + 0) m_C_isOrder 0 (am_en m_C_isOrder [.int x0, .int x1]) [] w (f_C_isOrder x0 x1 w) := by
  show am_Ok _ _ _ 0 [some (.int x0), some (.int x1), none, none] [] w _
  unfold f_C_isOrder
  unfold e_C_isOrder
  refine ok_seg (L := [((.iconst 0), 1), ((.istore_n 2), 1), ((.iconst 0), 1), ((.istore_n 3), 1)]) (pc' := 4) (ls' := [some (.int x0), some (.int x1), some (.int 0), some (.int 0)]) (st' := []) (w' := w) (by decide +kernel) rfl ?_
  exact o_C_isOrder_p4 am_N x0 x1 0 0 w
-- m_G_isOfOneColour
def f_G_isOfOneColour_p2 : Nat → Nat → Int64 → Int32 → am_W → Option (am_W × Int32)
  | 0, _, _, _, _ => none
  | n + 1, x0, x1, x3, w => ((am_gi w x0 1 3).bind fun v1 => (if v1 < x3 then (some (w, 0)) else ((f_G_cellsOf (x0) (x3) w).bind fun r4 => (if ¬ (lg_cmp r4.2 x1) = 0 then (f_G_isOfOneColour_p2 n x0 x1 (x3 + 1) r4.1) else (some (r4.1, 1))))))
def e_G_isOfOneColour (x0 : Nat) (x1 : Int64) (w : am_W) : Option (am_W × Int32) := (f_G_isOfOneColour_p2 am_N x0 x1 1 w)
def f_G_isOfOneColour (x0 : Nat) (x1 : Int64) (w : am_W) : Option (am_W × Int32) := am_self w x0 1 (e_G_isOfOneColour x0 x1 w)
theorem o_G_isOfOneColour_p2 {d : Nat} : ∀ (n : Nat) (x0 : Nat) (x1 : Int64) (x3 : Int32) (y2 : Option Value) (w : am_W), am_Ok am_ji (d + 1) m_G_isOfOneColour 2 [some (.ref x0), some (.long x1), y2, some (.int x3)] [] w (f_G_isOfOneColour_p2 n x0 x1 x3 w) := by
  intro n
  induction n with
  | zero => intros; exact ok_none
  | succ n ih =>
    intro x0 x1 x3 y2 w
    unfold f_G_isOfOneColour_p2
    refine ok_seg (L := [((.iload_n 3), 1), ((.aload_n 0), 1)]) (pc' := 4) (ls' := [some (.ref x0), some (.long x1), y2, some (.int x3)]) (st' := [.ref x0, .int x3]) (w' := w) (by decide +kernel) rfl ?_
    refine ok_gi (by decide +kernel : decode m_G_isOfOneColour.2.1 4 = .ok ((.getfield 22), 3)) rfl (fun v1 h2 => ?_)
    refine ok_br (P := v1 < x3) (off := 21) (t := 28) (by decide +kernel : decode m_G_isOfOneColour.2.1 7 = .ok ((.if_icmp .gt 21), 3)) rfl rfl rfl rfl (fun c3 => ?_) (fun c3 => ?_)
    · skip
      refine ok_seg (L := [((.iconst 0), 1)]) (pc' := 29) (ls' := [some (.ref x0), some (.long x1), y2, some (.int x3)]) (st' := [.int 0]) (w' := w) (by decide +kernel) rfl ?_
      exact ok_ret (v := 0) (by decide +kernel : decode m_G_isOfOneColour.2.1 29 = .ok (.ireturn, 1)) rfl
    · skip
      refine ok_seg (L := [((.aload_n 0), 1), ((.iload_n 3), 1)]) (pc' := 12) (ls' := [some (.ref x0), some (.long x1), y2, some (.int x3)]) (st' := [.int x3, .ref x0]) (w' := w) (by decide +kernel) rfl ?_
      refine ok_call0 (inj' := am_jj) (by decide +kernel : decode m_G_isOfOneColour.2.1 12 = .ok ((.invokevirtual 31), 3)) rfl (fun q hq => am_iv0 (am_self_eq hq).1 rfl rfl rfl) (o_G_cellsOf (d + 0) (x0) (x3) w) (fun _ _ => rfl) (fun r4 h5 => ?_)
      refine ok_seg (L := [((.lload_n 1), 1), (.lcmp, 1)]) (pc' := 17) (ls' := [some (.ref x0), some (.long x1), y2, some (.int x3)]) (st' := [.int (lg_cmp r4.2 x1)]) (w' := r4.1) (by decide +kernel) rfl ?_
      refine ok_br (P := ¬ (lg_cmp r4.2 x1) = 0) (off := 5) (t := 22) (by decide +kernel : decode m_G_isOfOneColour.2.1 17 = .ok ((.ifCond .ne 5), 3)) rfl rfl rfl rfl (fun c6 => ?_) (fun c6 => ?_)
      · skip
        refine ok_seg (L := [((.iinc 3 1), 3)]) (pc' := 25) (ls' := [some (.ref x0), some (.long x1), y2, some (.int (x3 + 1))]) (st' := []) (w' := r4.1) (by decide +kernel) rfl ?_
        refine ok_goto (t := 2) (by decide +kernel : decode m_G_isOfOneColour.2.1 25 = .ok ((.goto (-23)), 3)) rfl ?_
        exact ih x0 x1 (x3 + 1) y2 r4.1
      · skip
        refine ok_seg (L := [((.iconst 1), 1)]) (pc' := 21) (ls' := [some (.ref x0), some (.long x1), y2, some (.int x3)]) (st' := [.int 1]) (w' := r4.1) (by decide +kernel) rfl ?_
        exact ok_ret (v := 1) (by decide +kernel : decode m_G_isOfOneColour.2.1 21 = .ok (.ireturn, 1)) rfl
theorem o_G_isOfOneColour (d : Nat) (x0 : Nat) (x1 : Int64) (w : am_W) : am_Ok am_ji (d + 1) m_G_isOfOneColour 0 (am_en m_G_isOfOneColour [.ref x0, .long x1]) [] w (f_G_isOfOneColour x0 x1 w) := by
  show am_Ok _ _ _ 0 [some (.ref x0), some (.long x1), none, none] [] w _
  unfold f_G_isOfOneColour
  refine ok_self ?_
  unfold e_G_isOfOneColour
  refine ok_seg (L := [((.iconst 1), 1), ((.istore_n 3), 1)]) (pc' := 2) (ls' := [some (.ref x0), some (.long x1), none, some (.int 1)]) (st' := []) (w' := w) (by decide +kernel) rfl ?_
  exact o_G_isOfOneColour_p2 am_N x0 x1 1 none w
