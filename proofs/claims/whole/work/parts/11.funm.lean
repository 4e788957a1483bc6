-- m_L_law
def f_L_law_p1075 (k23 : Nat → Nat → Nat → Nat → Int32 → am_W → Option (am_W × Int32)) (x0 : Nat) (x1 : Nat) (x2 : Nat) (x3 : Nat) (x4 : Int32) (w : am_W) : Option (am_W × Int32) := (k23 x0 x1 x2 x3 (x4 + 6) w)
def f_L_law_p406 (k23 : Nat → Nat → Nat → Nat → Int32 → am_W → Option (am_W × Int32)) (x0 : Nat) (x1 : Nat) (x2 : Nat) (x3 : Nat) (x4 : Int32) (w : am_W) : Option (am_W × Int32) := (f_L_law_p1075 k23 x0 x1 x2 x3 x4 w)
def f_L_law_p574 (k23 : Nat → Nat → Nat → Nat → Int32 → am_W → Option (am_W × Int32)) (x0 : Nat) (x1 : Nat) (x2 : Nat) (x3 : Nat) (x4 : Int32) (w : am_W) : Option (am_W × Int32) := (f_L_law_p1075 k23 x0 x1 x2 x3 x4 w)
def f_L_law_p23 : Nat → Nat → Nat → Nat → Nat → Int32 → am_W → Option (am_W × Int32)
  | 0, _, _, _, _, _, _ => none
  | n + 1, x0, x1, x2, x3, x4, w => ((am_al w x0).bind fun v1 => (if (v1 - 6) < x4 then (some (w, 1)) else ((am_ai w x0 x4).bind fun v4 => (am_sw31 (v4 &&& 31) ((am_ai w x0 (x4 + 1)).bind fun v7 => ((am_ai w x0 (x4 + 2)).bind fun v9 => ((am_ai w x0 (x4 + 3)).bind fun v11 => ((am_ai w x0 (x4 + 4)).bind fun v13 => ((am_ai w x0 (x4 + 5)).bind fun v15 => ((f_C_feed (x1) (v7) (v9) (v11) (v13) (v15) w).bind fun r17 => ((am_ai r17.1 x0 (x4 + 1)).bind fun v19 => ((am_ai r17.1 x0 (x4 + 2)).bind fun v21 => ((am_ai r17.1 x0 (x4 + 3)).bind fun v23 => ((am_ai r17.1 x0 (x4 + 4)).bind fun v25 => ((am_ai r17.1 x0 (x4 + 5)).bind fun v27 => ((f_M_feed (x2) (v19) (v21) (v23) (v25) (v27) r17.1).bind fun r29 => (if r17.2 = r29.2 then (f_L_law_p1075 (f_L_law_p23 n) x0 x1 x2 x3 x4 r29.1) else (some (r29.1, 0))))))))))))))) ((am_ai w x0 (x4 + 1)).bind fun v32 => ((f_C_end (x1) (v32) w).bind fun r34 => ((am_ai r34.1 x0 (x4 + 1)).bind fun v36 => ((f_M_end (x2) (v36) r34.1).bind fun r38 => (if r34.2 = r38.2 then (f_L_law_p1075 (f_L_law_p23 n) x0 x1 x2 x3 x4 r38.1) else (some (r38.1, 0))))))) ((f_C_text (x1) w).bind fun r41 => ((f_M_text (x2) r41.1).bind fun r43 => (if r41.2 = r43.2 then (f_L_law_p1075 (f_L_law_p23 n) x0 x1 x2 x3 x4 r43.1) else (some (r43.1, 0))))) ((f_C_fault (x1) w).bind fun r46 => ((f_M_fault (x2) r46.1).bind fun r48 => (if r46.2 = r48.2 then (f_L_law_p1075 (f_L_law_p23 n) x0 x1 x2 x3 x4 r48.1) else (some (r48.1, 0))))) ((am_ai w x0 (x4 + 1)).bind fun v51 => ((f_C_now (x1) (v51) w).bind fun r53 => ((am_ai r53.1 x0 (x4 + 1)).bind fun v55 => ((f_M_now (x2) (v55) r53.1).bind fun r57 => (if r53.2 = r57.2 then (f_L_law_p1075 (f_L_law_p23 n) x0 x1 x2 x3 x4 r57.1) else (some (r57.1, 0))))))) ((am_ai w x0 (x4 + 1)).bind fun v60 => ((f_C_at (x1) (v60) w).bind fun r62 => ((am_ai r62.1 x0 (x4 + 1)).bind fun v64 => ((f_M_at (x2) (v64) r62.1).bind fun r66 => (if r62.2 = r66.2 then (f_L_law_p1075 (f_L_law_p23 n) x0 x1 x2 x3 x4 r66.1) else (some (r66.1, 0))))))) ((am_ai w x0 (x4 + 1)).bind fun v69 => (((f_C_having (x1) (v69) w).bind (am_xo x3)).bind fun r71 => ((am_ai r71.1 x0 (x4 + 1)).bind fun v73 => ((f_M_having (x2) (v73) r71.1).bind fun r75 => ((f_M_thrown (x2) r75.1).bind fun r77 => (if r77.2 = r71.2 then (if ¬ r71.2 = 0 then (f_L_law_p406 (f_L_law_p23 n) x0 x1 x2 x3 x4 r77.1) else ((am_aj r77.1 x3 0).bind fun v81 => (if (lg_cmp v81 r75.2) = 0 then (f_L_law_p406 (f_L_law_p23 n) x0 x1 x2 x3 x4 r77.1) else (some (r77.1, 0))))) else (some (r77.1, 0)))))))) ((am_ai w x0 (x4 + 1)).bind fun v84 => ((f_C_rectangles (x1) (v84) w).bind fun r86 => ((am_ai r86.1 x0 (x4 + 1)).bind fun v88 => ((f_M_rectangles (x2) (v88) r86.1).bind fun r90 => (if r86.2 = r90.2 then (f_L_law_p1075 (f_L_law_p23 n) x0 x1 x2 x3 x4 r90.1) else (some (r90.1, 0))))))) ((am_ai w x0 (x4 + 1)).bind fun v93 => ((am_ai w x0 (x4 + 2)).bind fun v95 => ((f_C_rectangle (x1) (v93) (v95) w).bind fun r97 => ((am_ai r97.1 x0 (x4 + 1)).bind fun v99 => ((am_ai r97.1 x0 (x4 + 2)).bind fun v101 => ((f_M_rectangle (x2) (v99) (v101) r97.1).bind fun r103 => (if r97.2 = r103.2 then (f_L_law_p1075 (f_L_law_p23 n) x0 x1 x2 x3 x4 r103.1) else (some (r103.1, 0))))))))) ((am_ai w x0 (x4 + 1)).bind fun v106 => ((f_C_through (x1) (v106) w).bind fun r108 => ((am_ai r108.1 x0 (x4 + 1)).bind fun v110 => ((f_M_through (x2) (v110) r108.1).bind fun r112 => (if r108.2 = r112.2 then (f_L_law_p1075 (f_L_law_p23 n) x0 x1 x2 x3 x4 r112.1) else (some (r112.1, 0))))))) ((f_C_worst (x1) w).bind fun r115 => ((f_M_worst (x2) r115.1).bind fun r117 => (if r115.2 = r117.2 then (f_L_law_p1075 (f_L_law_p23 n) x0 x1 x2 x3 x4 r117.1) else (some (r117.1, 0))))) ((am_ai w x0 (x4 + 1)).bind fun v120 => ((f_C_may (x1) (v120) w).bind fun r122 => ((am_ai r122.1 x0 (x4 + 1)).bind fun v124 => ((f_M_may (x2) (v124) r122.1).bind fun r126 => (if r122.2 = r126.2 then (f_L_law_p1075 (f_L_law_p23 n) x0 x1 x2 x3 x4 r126.1) else (some (r126.1, 0))))))) (((f_C_mend (x1) w).bind (am_xo x3)).bind fun r129 => ((f_M_mend (x2) r129.1).bind fun r131 => ((f_M_thrown (x2) r131.1).bind fun r133 => (if r133.2 = r129.2 then (if ¬ r129.2 = 0 then (f_L_law_p574 (f_L_law_p23 n) x0 x1 x2 x3 x4 r133.1) else ((am_aj r133.1 x3 0).bind fun v137 => (if (lg_cmp v137 r131.2) = 0 then (f_L_law_p574 (f_L_law_p23 n) x0 x1 x2 x3 x4 r133.1) else (some (r133.1, 0))))) else (some (r133.1, 0)))))) ((am_ai w x0 (x4 + 1)).bind fun v140 => ((am_ai w x0 (x4 + 2)).bind fun v142 => ((f_C_most (x1) (v140) (v142) w).bind fun r144 => ((am_ai r144.1 x0 (x4 + 1)).bind fun v146 => ((am_ai r144.1 x0 (x4 + 2)).bind fun v148 => ((f_M_most (x2) (v146) (v148) r144.1).bind fun r150 => (if r144.2 = r150.2 then (f_L_law_p1075 (f_L_law_p23 n) x0 x1 x2 x3 x4 r150.1) else (some (r150.1, 0))))))))) ((am_ai w x0 (x4 + 1)).bind fun v153 => ((am_ai w x0 (x4 + 2)).bind fun v155 => ((am_ai w x0 (x4 + 3)).bind fun v157 => ((f_C_crowded (x1) (v153) (v155) (v157) w).bind fun r159 => ((am_ai r159.1 x0 (x4 + 1)).bind fun v161 => ((am_ai r159.1 x0 (x4 + 2)).bind fun v163 => ((am_ai r159.1 x0 (x4 + 3)).bind fun v165 => ((f_M_crowded (x2) (v161) (v163) (v165) r159.1).bind fun r167 => (if r159.2 = r167.2 then (f_L_law_p1075 (f_L_law_p23 n) x0 x1 x2 x3 x4 r167.1) else (some (r167.1, 0))))))))))) ((am_ai w x0 (x4 + 1)).bind fun v170 => ((am_ai w x0 (x4 + 2)).bind fun v172 => ((am_ai w x0 (x4 + 3)).bind fun v174 => ((f_C_paired (x1) (v170) (v172) (v174) w).bind fun r176 => ((am_ai r176.1 x0 (x4 + 1)).bind fun v178 => ((am_ai r176.1 x0 (x4 + 2)).bind fun v180 => ((am_ai r176.1 x0 (x4 + 3)).bind fun v182 => ((f_M_paired (x2) (v178) (v180) (v182) r176.1).bind fun r184 => (if r176.2 = r184.2 then (f_L_law_p1075 (f_L_law_p23 n) x0 x1 x2 x3 x4 r184.1) else (some (r184.1, 0))))))))))) ((am_ai w x0 (x4 + 1)).bind fun v187 => ((f_C_search (x1) (v187) w).bind fun r189 => ((am_ai r189.1 x0 (x4 + 1)).bind fun v191 => ((f_M_search (x2) (v191) r189.1).bind fun r193 => (if r189.2 = r193.2 then (f_L_law_p1075 (f_L_law_p23 n) x0 x1 x2 x3 x4 r193.1) else (some (r193.1, 0))))))) ((am_ai w x0 (x4 + 1)).bind fun v196 => ((f_C_found (x1) (v196) w).bind fun r198 => ((am_ai r198.1 x0 (x4 + 1)).bind fun v200 => ((f_M_found (x2) (v200) r198.1).bind fun r202 => (if r198.2 = r202.2 then (f_L_law_p1075 (f_L_law_p23 n) x0 x1 x2 x3 x4 r202.1) else (some (r202.1, 0))))))) ((f_C_fill (x1) w).bind fun r205 => ((f_M_fill (x2) r205.1).bind fun r207 => (if r205.2 = r207.2 then (f_L_law_p1075 (f_L_law_p23 n) x0 x1 x2 x3 x4 r207.1) else (some (r207.1, 0))))) ((f_C_likes (x1) w).bind fun r210 => ((f_M_likes (x2) r210.1).bind fun r212 => (if r210.2 = r212.2 then (f_L_law_p1075 (f_L_law_p23 n) x0 x1 x2 x3 x4 r212.1) else (some (r212.1, 0))))) ((f_C_lay (x1) w).bind fun r215 => ((f_M_lay_1 (x2) r215.1).bind fun r217 => (if r215.2 = r217.2 then (f_L_law_p1075 (f_L_law_p23 n) x0 x1 x2 x3 x4 r217.1) else (some (r217.1, 0))))) ((f_C_apart (x1) w).bind fun r220 => ((f_M_apart (x2) r220.1).bind fun r222 => (if r220.2 = r222.2 then (f_L_law_p1075 (f_L_law_p23 n) x0 x1 x2 x3 x4 r222.1) else (some (r222.1, 0))))) ((am_ai w x0 (x4 + 1)).bind fun v225 => ((am_ai w x0 (x4 + 2)).bind fun v227 => ((f_C_paint (x1) (v225) (v227) w).bind fun r229 => ((am_ai r229.1 x0 (x4 + 1)).bind fun v231 => ((am_ai r229.1 x0 (x4 + 2)).bind fun v233 => ((f_M_paint (x2) (v231) (v233) r229.1).bind fun r235 => (if r229.2 = r235.2 then (f_L_law_p1075 (f_L_law_p23 n) x0 x1 x2 x3 x4 r235.1) else (some (r235.1, 0))))))))) ((am_ai w x0 (x4 + 1)).bind fun v238 => ((am_ai w x0 (x4 + 2)).bind fun v240 => ((f_C_rows (x1) (v238) (v240) w).bind fun r242 => ((am_ai r242.1 x0 (x4 + 1)).bind fun v244 => ((am_ai r242.1 x0 (x4 + 2)).bind fun v246 => ((f_M_rows (x2) (v244) (v246) r242.1).bind fun r248 => (if r242.2 = r248.2 then (f_L_law_p1075 (f_L_law_p23 n) x0 x1 x2 x3 x4 r248.1) else (some (r248.1, 0))))))))) ((am_ai w x0 (x4 + 1)).bind fun v251 => ((am_ai w x0 (x4 + 2)).bind fun v253 => ((f_C_columns (x1) (v251) (v253) w).bind fun r255 => ((am_ai r255.1 x0 (x4 + 1)).bind fun v257 => ((am_ai r255.1 x0 (x4 + 2)).bind fun v259 => ((f_M_columns (x2) (v257) (v259) r255.1).bind fun r261 => (if r255.2 = r261.2 then (f_L_law_p1075 (f_L_law_p23 n) x0 x1 x2 x3 x4 r261.1) else (some (r261.1, 0))))))))) ((am_ai w x0 (x4 + 1)).bind fun v264 => ((am_ai w x0 (x4 + 2)).bind fun v266 => ((f_C_name (x1) (v264) (v266) w).bind fun r268 => ((am_ai r268.1 x0 (x4 + 1)).bind fun v270 => ((am_ai r268.1 x0 (x4 + 2)).bind fun v272 => ((f_M_name (x2) (v270) (v272) r268.1).bind fun r274 => (if r268.2 = r274.2 then (f_L_law_p1075 (f_L_law_p23 n) x0 x1 x2 x3 x4 r274.1) else (some (r274.1, 0))))))))) ((f_C_turn (x1) w).bind fun r277 => ((f_M_turn (x2) r277.1).bind fun r279 => (if r277.2 = r279.2 then (f_L_law_p1075 (f_L_law_p23 n) x0 x1 x2 x3 x4 r279.1) else (some (r279.1, 0))))) ((am_ai w x0 (x4 + 1)).bind fun v282 => ((am_ai w x0 (x4 + 2)).bind fun v284 => ((f_C_drawn (x1) (v282) (v284) w).bind fun r286 => ((am_ai r286.1 x0 (x4 + 1)).bind fun v288 => ((am_ai r286.1 x0 (x4 + 2)).bind fun v290 => ((f_M_drawn (x2) (v288) (v290) r286.1).bind fun r292 => (if r286.2 = r292.2 then (f_L_law_p1075 (f_L_law_p23 n) x0 x1 x2 x3 x4 r292.1) else (some (r292.1, 0))))))))) ((f_C_undo (x1) w).bind fun r295 => ((f_M_undo (x2) r295.1).bind fun r297 => (if r295.2 = r297.2 then (f_L_law_p1075 (f_L_law_p23 n) x0 x1 x2 x3 x4 r297.1) else (some (r297.1, 0))))) ((am_ai w x0 (x4 + 1)).bind fun v300 => ((f_C_image (x1) (v300) w).bind fun r302 => ((am_ai r302.1 x0 (x4 + 1)).bind fun v304 => ((f_M_image (x2) (v304) r302.1).bind fun r306 => (if r302.2 = r306.2 then (f_L_law_p1075 (f_L_law_p23 n) x0 x1 x2 x3 x4 r306.1) else (some (r306.1, 0))))))) ((am_ai w x0 (x4 + 1)).bind fun v309 => ((f_C_restore (x1) (v309) w).bind fun r311 => ((am_ai r311.1 x0 (x4 + 1)).bind fun v313 => ((f_M_restore (x2) (v313) r311.1).bind fun r315 => (if r311.2 = r315.2 then (f_L_law_p1075 (f_L_law_p23 n) x0 x1 x2 x3 x4 r315.1) else (some (r315.1, 0))))))) (f_L_law_p1075 (f_L_law_p23 n) x0 x1 x2 x3 x4 w)))))
def e_L_law (x0 : Nat) (w : am_W) : Option (am_W × Int32) := ((am_nw w (.inr (0, am_d0)) 8).bind fun w318 => ((f_C_init (w.2.2.length) w318).bind fun r320 => ((am_nw r320.1 (.inr (7, am_d7)) 34).bind fun w322 => ((f_M_init (r320.1.2.2.length) w322).bind fun r324 => ((am_na r324.1 1 1).bind fun w326 => (f_L_law_p23 am_N x0 w.2.2.length r320.1.2.2.length r324.1.2.2.length 0 w326))))))
def f_L_law (x0 : Nat) (w : am_W) : Option (am_W × Int32) := e_L_law x0 w
theorem o_L_law_p1075 {d : Nat} {k23 : Nat → Nat → Nat → Nat → Int32 → am_W → Option (am_W × Int32)} (hk23 : ∀ (x0 : Nat) (x1 : Nat) (x2 : Nat) (x3 : Nat) (x4 : Int32) (y5 y6 y7 : Option Value) (w : am_W), am_Ok am_ji (d + 16) m_L_law 23 [some (.ref x0), some (.ref x1), some (.ref x2), some (.ref x3), some (.int x4), y5, y6, y7] [] w (k23 x0 x1 x2 x3 x4 w)) (x0 : Nat) (x1 : Nat) (x2 : Nat) (x3 : Nat) (x4 : Int32) (y5 y6 y7 : Option Value) (w : am_W) : am_Ok am_ji (d + 16) m_L_law 1075 [some (.ref x0), some (.ref x1), some (.ref x2), some (.ref x3), some (.int x4), y5, y6, y7] [] w (f_L_law_p1075 k23 x0 x1 x2 x3 x4 w) := by
  unfold f_L_law_p1075
  refine ok_seg (L := [((.iinc 4 6), 3)]) (pc' := 1078) (ls' := [some (.ref x0), some (.ref x1), some (.ref x2), some (.ref x3), some (.int (x4 + 6)), y5, y6, y7]) (st' := []) (w' := w) (by decide +kernel) rfl ?_
  refine ok_goto (t := 23) (by decide +kernel : decode m_L_law.2.1 1078 = .ok ((.goto (-1055)), 3)) rfl ?_
  exact hk23 x0 x1 x2 x3 (x4 + 6) y5 y6 y7 w
theorem o_L_law_p406 {d : Nat} {k23 : Nat → Nat → Nat → Nat → Int32 → am_W → Option (am_W × Int32)} (hk23 : ∀ (x0 : Nat) (x1 : Nat) (x2 : Nat) (x3 : Nat) (x4 : Int32) (y5 y6 y7 : Option Value) (w : am_W), am_Ok am_ji (d + 16) m_L_law 23 [some (.ref x0), some (.ref x1), some (.ref x2), some (.ref x3), some (.int x4), y5, y6, y7] [] w (k23 x0 x1 x2 x3 x4 w)) (x0 : Nat) (x1 : Nat) (x2 : Nat) (x3 : Nat) (x4 : Int32) (y5 y6 y7 : Option Value) (w : am_W) : am_Ok am_ji (d + 16) m_L_law 406 [some (.ref x0), some (.ref x1), some (.ref x2), some (.ref x3), some (.int x4), y5, y6, y7] [] w (f_L_law_p406 k23 x0 x1 x2 x3 x4 w) := by
  unfold f_L_law_p406
  refine ok_goto (t := 1075) (by decide +kernel : decode m_L_law.2.1 406 = .ok ((.goto 669), 3)) rfl ?_
  exact o_L_law_p1075 hk23 x0 x1 x2 x3 x4 y5 y6 y7 w
theorem o_L_law_p574 {d : Nat} {k23 : Nat → Nat → Nat → Nat → Int32 → am_W → Option (am_W × Int32)} (hk23 : ∀ (x0 : Nat) (x1 : Nat) (x2 : Nat) (x3 : Nat) (x4 : Int32) (y5 y6 y7 : Option Value) (w : am_W), am_Ok am_ji (d + 16) m_L_law 23 [some (.ref x0), some (.ref x1), some (.ref x2), some (.ref x3), some (.int x4), y5, y6, y7] [] w (k23 x0 x1 x2 x3 x4 w)) (x0 : Nat) (x1 : Nat) (x2 : Nat) (x3 : Nat) (x4 : Int32) (y5 y6 y7 : Option Value) (w : am_W) : am_Ok am_ji (d + 16) m_L_law 574 [some (.ref x0), some (.ref x1), some (.ref x2), some (.ref x3), some (.int x4), y5, y6, y7] [] w (f_L_law_p574 k23 x0 x1 x2 x3 x4 w) := by
  unfold f_L_law_p574
  refine ok_goto (t := 1075) (by decide +kernel : decode m_L_law.2.1 574 = .ok ((.goto 501), 3)) rfl ?_
  exact o_L_law_p1075 hk23 x0 x1 x2 x3 x4 y5 y6 y7 w
theorem o_L_law_p23 {d : Nat} : ∀ (n : Nat) (x0 : Nat) (x1 : Nat) (x2 : Nat) (x3 : Nat) (x4 : Int32) (y5 y6 y7 : Option Value) (w : am_W), am_Ok am_ji (d + 16) m_L_law 23 [some (.ref x0), some (.ref x1), some (.ref x2), some (.ref x3), some (.int x4), y5, y6, y7] [] w (f_L_law_p23 n x0 x1 x2 x3 x4 w) := by
  intro n
  induction n with
  | zero => intros; exact ok_none
  | succ n ih =>
    intro x0 x1 x2 x3 x4 y5 y6 y7 w
    unfold f_L_law_p23
    refine ok_seg (L := [((.iload 4), 2), ((.aload_n 0), 1)]) (pc' := 26) (ls' := [some (.ref x0), some (.ref x1), some (.ref x2), some (.ref x3), some (.int x4), y5, y6, y7]) (st' := [.ref x0, .int x4]) (w' := w) (by decide +kernel) rfl ?_
    refine ok_al (by decide +kernel : decode m_L_law.2.1 26 = .ok (.arraylength, 1)) (fun v1 h2 => ?_)
    refine ok_seg (L := [((.bipush 6), 2), (.isub, 1)]) (pc' := 30) (ls' := [some (.ref x0), some (.ref x1), some (.ref x2), some (.ref x3), some (.int x4), y5, y6, y7]) (st' := [.int (v1 - 6), .int x4]) (w' := w) (by decide +kernel) rfl ?_
    refine ok_br (P := (v1 - 6) < x4) (off := 1051) (t := 1081) (by decide +kernel : decode m_L_law.2.1 30 = .ok ((.if_icmp .gt 1051), 3)) rfl rfl rfl rfl (fun c3 => ?_) (fun c3 => ?_)
    · skip
      refine ok_seg (L := [((.iconst 1), 1)]) (pc' := 1082) (ls' := [some (.ref x0), some (.ref x1), some (.ref x2), some (.ref x3), some (.int x4), y5, y6, y7]) (st' := [.int 1]) (w' := w) (by decide +kernel) rfl ?_
      exact ok_ret (v := 1) (by decide +kernel : decode m_L_law.2.1 1082 = .ok (.ireturn, 1)) rfl
    · skip
      refine ok_seg (L := [((.aload_n 0), 1), ((.iload 4), 2)]) (pc' := 36) (ls' := [some (.ref x0), some (.ref x1), some (.ref x2), some (.ref x3), some (.int x4), y5, y6, y7]) (st' := [.int x4, .ref x0]) (w' := w) (by decide +kernel) rfl ?_
      refine ok_ai (by decide +kernel : decode m_L_law.2.1 36 = .ok (.iaload, 1)) (fun v4 h5 => ?_)
      refine ok_seg (L := [((.bipush 31), 2), (.iand, 1)]) (pc' := 40) (ls' := [some (.ref x0), some (.ref x1), some (.ref x2), some (.ref x3), some (.int x4), y5, y6, y7]) (st' := [.int (v4 &&& 31)]) (w' := w) (by decide +kernel) rfl ?_
      refine ok_sw31 (by decide +kernel : decode m_L_law.2.1 40 = .ok ((.tableswitch 1035 0 30 #[140, 213, 238, 251, 264, 289, 314, 369, 394, 431, 456, 469, 494, 537, 574, 623, 672, 697, 722, 735, 748, 761, 774, 811, 848, 885, 922, 935, 972, 985, 1010]), 140)) rfl rfl rfl rfl rfl rfl rfl rfl rfl rfl rfl rfl rfl rfl rfl rfl rfl rfl rfl rfl rfl rfl rfl rfl rfl rfl rfl rfl rfl rfl rfl rfl ?_ ?_ ?_ ?_ ?_ ?_ ?_ ?_ ?_ ?_ ?_ ?_ ?_ ?_ ?_ ?_ ?_ ?_ ?_ ?_ ?_ ?_ ?_ ?_ ?_ ?_ ?_ ?_ ?_ ?_ ?_ ?_ rfl rfl
      · skip
        refine ok_seg (L := [((.aload_n 1), 1), ((.aload_n 0), 1), ((.iload 4), 2), ((.iconst 1), 1), (.iadd, 1)]) (pc' := 186) (ls' := [some (.ref x0), some (.ref x1), some (.ref x2), some (.ref x3), some (.int x4), y5, y6, y7]) (st' := [.int (x4 + 1), .ref x0, .ref x1]) (w' := w) (by decide +kernel) rfl ?_
        refine ok_ai (by decide +kernel : decode m_L_law.2.1 186 = .ok (.iaload, 1)) (fun v7 h8 => ?_)
        refine ok_seg (L := [((.aload_n 0), 1), ((.iload 4), 2), ((.iconst 2), 1), (.iadd, 1)]) (pc' := 192) (ls' := [some (.ref x0), some (.ref x1), some (.ref x2), some (.ref x3), some (.int x4), y5, y6, y7]) (st' := [.int (x4 + 2), .ref x0, .int v7, .ref x1]) (w' := w) (by decide +kernel) rfl ?_
        refine ok_ai (by decide +kernel : decode m_L_law.2.1 192 = .ok (.iaload, 1)) (fun v9 h10 => ?_)
        refine ok_seg (L := [((.aload_n 0), 1), ((.iload 4), 2), ((.iconst 3), 1), (.iadd, 1)]) (pc' := 198) (ls' := [some (.ref x0), some (.ref x1), some (.ref x2), some (.ref x3), some (.int x4), y5, y6, y7]) (st' := [.int (x4 + 3), .ref x0, .int v9, .int v7, .ref x1]) (w' := w) (by decide +kernel) rfl ?_
        refine ok_ai (by decide +kernel : decode m_L_law.2.1 198 = .ok (.iaload, 1)) (fun v11 h12 => ?_)
        refine ok_seg (L := [((.aload_n 0), 1), ((.iload 4), 2), ((.iconst 4), 1), (.iadd, 1)]) (pc' := 204) (ls' := [some (.ref x0), some (.ref x1), some (.ref x2), some (.ref x3), some (.int x4), y5, y6, y7]) (st' := [.int (x4 + 4), .ref x0, .int v11, .int v9, .int v7, .ref x1]) (w' := w) (by decide +kernel) rfl ?_
        refine ok_ai (by decide +kernel : decode m_L_law.2.1 204 = .ok (.iaload, 1)) (fun v13 h14 => ?_)
        refine ok_seg (L := [((.aload_n 0), 1), ((.iload 4), 2), ((.iconst 5), 1), (.iadd, 1)]) (pc' := 210) (ls' := [some (.ref x0), some (.ref x1), some (.ref x2), some (.ref x3), some (.int x4), y5, y6, y7]) (st' := [.int (x4 + 5), .ref x0, .int v13, .int v11, .int v9, .int v7, .ref x1]) (w' := w) (by decide +kernel) rfl ?_
        refine ok_ai (by decide +kernel : decode m_L_law.2.1 210 = .ok (.iaload, 1)) (fun v15 h16 => ?_)
        refine ok_call0 (inj' := am_ji) (by decide +kernel : decode m_L_law.2.1 211 = .ok ((.invokevirtual 23), 3)) rfl (fun q hq => am_iv0 (am_self_eq hq).1 rfl rfl rfl) (o_C_feed (d + 14) (x1) (v7) (v9) (v11) (v13) (v15) w) (fun _ _ => rfl) (fun r17 h18 => ?_)
        refine ok_seg (L := [((.aload_n 2), 1), ((.aload_n 0), 1), ((.iload 4), 2), ((.iconst 1), 1), (.iadd, 1)]) (pc' := 220) (ls' := [some (.ref x0), some (.ref x1), some (.ref x2), some (.ref x3), some (.int x4), y5, y6, y7]) (st' := [.int (x4 + 1), .ref x0, .ref x2, .int r17.2]) (w' := r17.1) (by decide +kernel) rfl ?_
        refine ok_ai (by decide +kernel : decode m_L_law.2.1 220 = .ok (.iaload, 1)) (fun v19 h20 => ?_)
        refine ok_seg (L := [((.aload_n 0), 1), ((.iload 4), 2), ((.iconst 2), 1), (.iadd, 1)]) (pc' := 226) (ls' := [some (.ref x0), some (.ref x1), some (.ref x2), some (.ref x3), some (.int x4), y5, y6, y7]) (st' := [.int (x4 + 2), .ref x0, .int v19, .ref x2, .int r17.2]) (w' := r17.1) (by decide +kernel) rfl ?_
        refine ok_ai (by decide +kernel : decode m_L_law.2.1 226 = .ok (.iaload, 1)) (fun v21 h22 => ?_)
        refine ok_seg (L := [((.aload_n 0), 1), ((.iload 4), 2), ((.iconst 3), 1), (.iadd, 1)]) (pc' := 232) (ls' := [some (.ref x0), some (.ref x1), some (.ref x2), some (.ref x3), some (.int x4), y5, y6, y7]) (st' := [.int (x4 + 3), .ref x0, .int v21, .int v19, .ref x2, .int r17.2]) (w' := r17.1) (by decide +kernel) rfl ?_
        refine ok_ai (by decide +kernel : decode m_L_law.2.1 232 = .ok (.iaload, 1)) (fun v23 h24 => ?_)
        refine ok_seg (L := [((.aload_n 0), 1), ((.iload 4), 2), ((.iconst 4), 1), (.iadd, 1)]) (pc' := 238) (ls' := [some (.ref x0), some (.ref x1), some (.ref x2), some (.ref x3), some (.int x4), y5, y6, y7]) (st' := [.int (x4 + 4), .ref x0, .int v23, .int v21, .int v19, .ref x2, .int r17.2]) (w' := r17.1) (by decide +kernel) rfl ?_
        refine ok_ai (by decide +kernel : decode m_L_law.2.1 238 = .ok (.iaload, 1)) (fun v25 h26 => ?_)
        refine ok_seg (L := [((.aload_n 0), 1), ((.iload 4), 2), ((.iconst 5), 1), (.iadd, 1)]) (pc' := 244) (ls' := [some (.ref x0), some (.ref x1), some (.ref x2), some (.ref x3), some (.int x4), y5, y6, y7]) (st' := [.int (x4 + 5), .ref x0, .int v25, .int v23, .int v21, .int v19, .ref x2, .int r17.2]) (w' := r17.1) (by decide +kernel) rfl ?_
        refine ok_ai (by decide +kernel : decode m_L_law.2.1 244 = .ok (.iaload, 1)) (fun v27 h28 => ?_)
        refine ok_call0 (inj' := am_ji) (by decide +kernel : decode m_L_law.2.1 245 = .ok ((.invokevirtual 27), 3)) rfl (fun q hq => am_iv0 (am_self_eq hq).1 rfl rfl rfl) (o_M_feed (d + 14) (x2) (v19) (v21) (v23) (v25) (v27) r17.1) (fun _ _ => rfl) (fun r29 h30 => ?_)
        refine ok_br (P := r17.2 = r29.2) (off := 827) (t := 1075) (by decide +kernel : decode m_L_law.2.1 248 = .ok ((.if_icmp .eq 827), 3)) rfl rfl rfl rfl (fun c31 => ?_) (fun c31 => ?_)
        · skip
          exact o_L_law_p1075 ih x0 x1 x2 x3 x4 y5 y6 y7 r29.1
        · skip
          refine ok_seg (L := [((.iconst 0), 1)]) (pc' := 252) (ls' := [some (.ref x0), some (.ref x1), some (.ref x2), some (.ref x3), some (.int x4), y5, y6, y7]) (st' := [.int 0]) (w' := r29.1) (by decide +kernel) rfl ?_
          exact ok_ret (v := 0) (by decide +kernel : decode m_L_law.2.1 252 = .ok (.ireturn, 1)) rfl
      · skip
        refine ok_seg (L := [((.aload_n 1), 1), ((.aload_n 0), 1), ((.iload 4), 2), ((.iconst 1), 1), (.iadd, 1)]) (pc' := 259) (ls' := [some (.ref x0), some (.ref x1), some (.ref x2), some (.ref x3), some (.int x4), y5, y6, y7]) (st' := [.int (x4 + 1), .ref x0, .ref x1]) (w' := w) (by decide +kernel) rfl ?_
        refine ok_ai (by decide +kernel : decode m_L_law.2.1 259 = .ok (.iaload, 1)) (fun v32 h33 => ?_)
        refine ok_call0 (inj' := am_ji) (by decide +kernel : decode m_L_law.2.1 260 = .ok ((.invokevirtual 28), 3)) rfl (fun q hq => am_iv0 (am_self_eq hq).1 rfl rfl rfl) (o_C_end (d + 14) (x1) (v32) w) (fun _ _ => rfl) (fun r34 h35 => ?_)
        refine ok_seg (L := [((.aload_n 2), 1), ((.aload_n 0), 1), ((.iload 4), 2), ((.iconst 1), 1), (.iadd, 1)]) (pc' := 269) (ls' := [some (.ref x0), some (.ref x1), some (.ref x2), some (.ref x3), some (.int x4), y5, y6, y7]) (st' := [.int (x4 + 1), .ref x0, .ref x2, .int r34.2]) (w' := r34.1) (by decide +kernel) rfl ?_
        refine ok_ai (by decide +kernel : decode m_L_law.2.1 269 = .ok (.iaload, 1)) (fun v36 h37 => ?_)
        refine ok_call0 (inj' := am_ji) (by decide +kernel : decode m_L_law.2.1 270 = .ok ((.invokevirtual 32), 3)) rfl (fun q hq => am_iv0 (am_self_eq hq).1 rfl rfl rfl) (o_M_end (d + 15) (x2) (v36) r34.1) (fun _ _ => rfl) (fun r38 h39 => ?_)
        refine ok_br (P := r34.2 = r38.2) (off := 802) (t := 1075) (by decide +kernel : decode m_L_law.2.1 273 = .ok ((.if_icmp .eq 802), 3)) rfl rfl rfl rfl (fun c40 => ?_) (fun c40 => ?_)
        · skip
          exact o_L_law_p1075 ih x0 x1 x2 x3 x4 y5 y6 y7 r38.1
        · skip
          refine ok_seg (L := [((.iconst 0), 1)]) (pc' := 277) (ls' := [some (.ref x0), some (.ref x1), some (.ref x2), some (.ref x3), some (.int x4), y5, y6, y7]) (st' := [.int 0]) (w' := r38.1) (by decide +kernel) rfl ?_
          exact ok_ret (v := 0) (by decide +kernel : decode m_L_law.2.1 277 = .ok (.ireturn, 1)) rfl
      · skip
        refine ok_seg (L := [((.aload_n 1), 1)]) (pc' := 279) (ls' := [some (.ref x0), some (.ref x1), some (.ref x2), some (.ref x3), some (.int x4), y5, y6, y7]) (st' := [.ref x1]) (w' := w) (by decide +kernel) rfl ?_
        refine ok_call0 (inj' := am_ji) (by decide +kernel : decode m_L_law.2.1 279 = .ok ((.invokevirtual 33), 3)) rfl (fun q hq => am_iv0 (am_self_eq hq).1 rfl rfl rfl) (o_C_text (d + 9) (x1) w) (fun _ _ => rfl) (fun r41 h42 => ?_)
        refine ok_seg (L := [((.aload_n 2), 1)]) (pc' := 283) (ls' := [some (.ref x0), some (.ref x1), some (.ref x2), some (.ref x3), some (.int x4), y5, y6, y7]) (st' := [.ref x2, .int r41.2]) (w' := r41.1) (by decide +kernel) rfl ?_
        refine ok_call0 (inj' := am_ji) (by decide +kernel : decode m_L_law.2.1 283 = .ok ((.invokevirtual 37), 3)) rfl (fun q hq => am_iv0 (am_self_eq hq).1 rfl rfl rfl) (o_M_text (d + 10) (x2) r41.1) (fun _ _ => rfl) (fun r43 h44 => ?_)
        refine ok_br (P := r41.2 = r43.2) (off := 789) (t := 1075) (by decide +kernel : decode m_L_law.2.1 286 = .ok ((.if_icmp .eq 789), 3)) rfl rfl rfl rfl (fun c45 => ?_) (fun c45 => ?_)
        · skip
          exact o_L_law_p1075 ih x0 x1 x2 x3 x4 y5 y6 y7 r43.1
        · skip
          refine ok_seg (L := [((.iconst 0), 1)]) (pc' := 290) (ls' := [some (.ref x0), some (.ref x1), some (.ref x2), some (.ref x3), some (.int x4), y5, y6, y7]) (st' := [.int 0]) (w' := r43.1) (by decide +kernel) rfl ?_
          exact ok_ret (v := 0) (by decide +kernel : decode m_L_law.2.1 290 = .ok (.ireturn, 1)) rfl
      · skip
        refine ok_seg (L := [((.aload_n 1), 1)]) (pc' := 292) (ls' := [some (.ref x0), some (.ref x1), some (.ref x2), some (.ref x3), some (.int x4), y5, y6, y7]) (st' := [.ref x1]) (w' := w) (by decide +kernel) rfl ?_
        refine ok_call0 (inj' := am_ji) (by decide +kernel : decode m_L_law.2.1 292 = .ok ((.invokevirtual 38), 3)) rfl (fun q hq => am_iv0 (am_self_eq hq).1 rfl rfl rfl) (o_C_fault (d + 15) (x1) w) (fun _ _ => rfl) (fun r46 h47 => ?_)
        refine ok_seg (L := [((.aload_n 2), 1)]) (pc' := 296) (ls' := [some (.ref x0), some (.ref x1), some (.ref x2), some (.ref x3), some (.int x4), y5, y6, y7]) (st' := [.ref x2, .int r46.2]) (w' := r46.1) (by decide +kernel) rfl ?_
        refine ok_call0 (inj' := am_ji) (by decide +kernel : decode m_L_law.2.1 296 = .ok ((.invokevirtual 41), 3)) rfl (fun q hq => am_iv0 (am_self_eq hq).1 rfl rfl rfl) (o_M_fault (d + 15) (x2) r46.1) (fun _ _ => rfl) (fun r48 h49 => ?_)
        refine ok_br (P := r46.2 = r48.2) (off := 776) (t := 1075) (by decide +kernel : decode m_L_law.2.1 299 = .ok ((.if_icmp .eq 776), 3)) rfl rfl rfl rfl (fun c50 => ?_) (fun c50 => ?_)
        · skip
          exact o_L_law_p1075 ih x0 x1 x2 x3 x4 y5 y6 y7 r48.1
        · skip
          refine ok_seg (L := [((.iconst 0), 1)]) (pc' := 303) (ls' := [some (.ref x0), some (.ref x1), some (.ref x2), some (.ref x3), some (.int x4), y5, y6, y7]) (st' := [.int 0]) (w' := r48.1) (by decide +kernel) rfl ?_
          exact ok_ret (v := 0) (by decide +kernel : decode m_L_law.2.1 303 = .ok (.ireturn, 1)) rfl
      · skip
        refine ok_seg (L := [((.aload_n 1), 1), ((.aload_n 0), 1), ((.iload 4), 2), ((.iconst 1), 1), (.iadd, 1)]) (pc' := 310) (ls' := [some (.ref x0), some (.ref x1), some (.ref x2), some (.ref x3), some (.int x4), y5, y6, y7]) (st' := [.int (x4 + 1), .ref x0, .ref x1]) (w' := w) (by decide +kernel) rfl ?_
        refine ok_ai (by decide +kernel : decode m_L_law.2.1 310 = .ok (.iaload, 1)) (fun v51 h52 => ?_)
        refine ok_call0 (inj' := am_ji) (by decide +kernel : decode m_L_law.2.1 311 = .ok ((.invokevirtual 42), 3)) rfl (fun q hq => am_iv0 (am_self_eq hq).1 rfl rfl rfl) (o_C_now (d + 11) (x1) (v51) w) (fun _ _ => rfl) (fun r53 h54 => ?_)
        refine ok_seg (L := [((.aload_n 2), 1), ((.aload_n 0), 1), ((.iload 4), 2), ((.iconst 1), 1), (.iadd, 1)]) (pc' := 320) (ls' := [some (.ref x0), some (.ref x1), some (.ref x2), some (.ref x3), some (.int x4), y5, y6, y7]) (st' := [.int (x4 + 1), .ref x0, .ref x2, .int r53.2]) (w' := r53.1) (by decide +kernel) rfl ?_
        refine ok_ai (by decide +kernel : decode m_L_law.2.1 320 = .ok (.iaload, 1)) (fun v55 h56 => ?_)
        refine ok_call0 (inj' := am_ji) (by decide +kernel : decode m_L_law.2.1 321 = .ok ((.invokevirtual 46), 3)) rfl (fun q hq => am_iv0 (am_self_eq hq).1 rfl rfl rfl) (o_M_now (d + 11) (x2) (v55) r53.1) (fun _ _ => rfl) (fun r57 h58 => ?_)
        refine ok_br (P := r53.2 = r57.2) (off := 751) (t := 1075) (by decide +kernel : decode m_L_law.2.1 324 = .ok ((.if_icmp .eq 751), 3)) rfl rfl rfl rfl (fun c59 => ?_) (fun c59 => ?_)
        · skip
          exact o_L_law_p1075 ih x0 x1 x2 x3 x4 y5 y6 y7 r57.1
        · skip
          refine ok_seg (L := [((.iconst 0), 1)]) (pc' := 328) (ls' := [some (.ref x0), some (.ref x1), some (.ref x2), some (.ref x3), some (.int x4), y5, y6, y7]) (st' := [.int 0]) (w' := r57.1) (by decide +kernel) rfl ?_
          exact ok_ret (v := 0) (by decide +kernel : decode m_L_law.2.1 328 = .ok (.ireturn, 1)) rfl
      · skip
        refine ok_seg (L := [((.aload_n 1), 1), ((.aload_n 0), 1), ((.iload 4), 2), ((.iconst 1), 1), (.iadd, 1)]) (pc' := 335) (ls' := [some (.ref x0), some (.ref x1), some (.ref x2), some (.ref x3), some (.int x4), y5, y6, y7]) (st' := [.int (x4 + 1), .ref x0, .ref x1]) (w' := w) (by decide +kernel) rfl ?_
        refine ok_ai (by decide +kernel : decode m_L_law.2.1 335 = .ok (.iaload, 1)) (fun v60 h61 => ?_)
        refine ok_call0 (inj' := am_ji) (by decide +kernel : decode m_L_law.2.1 336 = .ok ((.invokevirtual 47), 3)) rfl (fun q hq => am_iv0 (am_self_eq hq).1 rfl rfl rfl) (o_C_at (d + 13) (x1) (v60) w) (fun _ _ => rfl) (fun r62 h63 => ?_)
        refine ok_seg (L := [((.aload_n 2), 1), ((.aload_n 0), 1), ((.iload 4), 2), ((.iconst 1), 1), (.iadd, 1)]) (pc' := 345) (ls' := [some (.ref x0), some (.ref x1), some (.ref x2), some (.ref x3), some (.int x4), y5, y6, y7]) (st' := [.int (x4 + 1), .ref x0, .ref x2, .int r62.2]) (w' := r62.1) (by decide +kernel) rfl ?_
        refine ok_ai (by decide +kernel : decode m_L_law.2.1 345 = .ok (.iaload, 1)) (fun v64 h65 => ?_)
        refine ok_call0 (inj' := am_ji) (by decide +kernel : decode m_L_law.2.1 346 = .ok ((.invokevirtual 50), 3)) rfl (fun q hq => am_iv0 (am_self_eq hq).1 rfl rfl rfl) (o_M_at (d + 12) (x2) (v64) r62.1) (fun _ _ => rfl) (fun r66 h67 => ?_)
        refine ok_br (P := r62.2 = r66.2) (off := 726) (t := 1075) (by decide +kernel : decode m_L_law.2.1 349 = .ok ((.if_icmp .eq 726), 3)) rfl rfl rfl rfl (fun c68 => ?_) (fun c68 => ?_)
        · skip
          exact o_L_law_p1075 ih x0 x1 x2 x3 x4 y5 y6 y7 r66.1
        · skip
          refine ok_seg (L := [((.iconst 0), 1)]) (pc' := 353) (ls' := [some (.ref x0), some (.ref x1), some (.ref x2), some (.ref x3), some (.int x4), y5, y6, y7]) (st' := [.int 0]) (w' := r66.1) (by decide +kernel) rfl ?_
          exact ok_ret (v := 0) (by decide +kernel : decode m_L_law.2.1 353 = .ok (.ireturn, 1)) rfl
      · skip
        refine ok_seg (L := [((.aload_n 1), 1), ((.aload_n 0), 1), ((.iload 4), 2), ((.iconst 1), 1), (.iadd, 1)]) (pc' := 360) (ls' := [some (.ref x0), some (.ref x1), some (.ref x2), some (.ref x3), some (.int x4), y5, y6, y7]) (st' := [.int (x4 + 1), .ref x0, .ref x1]) (w' := w) (by decide +kernel) rfl ?_
        refine ok_ai (by decide +kernel : decode m_L_law.2.1 360 = .ok (.iaload, 1)) (fun v69 h70 => ?_)
        refine ok_seg (L := [((.aload_n 3), 1)]) (pc' := 362) (ls' := [some (.ref x0), some (.ref x1), some (.ref x2), some (.ref x3), some (.int x4), y5, y6, y7]) (st' := [.ref x3, .int v69, .ref x1]) (w' := w) (by decide +kernel) rfl ?_
        refine ok_callx (by decide +kernel : decode m_L_law.2.1 362 = .ok ((.invokestatic 51), 3)) rfl (fun q hq ho => am_iv8 (am_self_eq hq).1 ho rfl rfl) (o_C_having (d + 14) (x1) (v69) w) (fun r71 h72 => ?_)
        refine ok_seg (L := [((.istore 5), 2), ((.aload_n 2), 1), ((.aload_n 0), 1), ((.iload 4), 2), ((.iconst 1), 1), (.iadd, 1)]) (pc' := 373) (ls' := [some (.ref x0), some (.ref x1), some (.ref x2), some (.ref x3), some (.int x4), some (.int r71.2), y6, y7]) (st' := [.int (x4 + 1), .ref x0, .ref x2]) (w' := r71.1) (by decide +kernel) rfl ?_
        refine ok_ai (by decide +kernel : decode m_L_law.2.1 373 = .ok (.iaload, 1)) (fun v73 h74 => ?_)
        refine ok_call0 (inj' := am_jj) (by decide +kernel : decode m_L_law.2.1 374 = .ok ((.invokevirtual 56), 3)) rfl (fun q hq => am_iv0 (am_self_eq hq).1 rfl rfl rfl) (o_M_having (d + 13) (x2) (v73) r71.1) (fun _ _ => rfl) (fun r75 h76 => ?_)
        refine ok_seg (L := [((.lstore 6), 2), ((.aload_n 2), 1)]) (pc' := 380) (ls' := [some (.ref x0), some (.ref x1), some (.ref x2), some (.ref x3), some (.int x4), some (.int r71.2), some (.long r75.2), none]) (st' := [.ref x2]) (w' := r75.1) (by decide +kernel) rfl ?_
        refine ok_call0 (inj' := am_ji) (by decide +kernel : decode m_L_law.2.1 380 = .ok ((.invokevirtual 57), 3)) rfl (fun q hq => am_iv0 (am_self_eq hq).1 rfl rfl rfl) (o_M_thrown (d + 15) (x2) r75.1) (fun _ _ => rfl) (fun r77 h78 => ?_)
        refine ok_seg (L := [((.iload 5), 2)]) (pc' := 385) (ls' := [some (.ref x0), some (.ref x1), some (.ref x2), some (.ref x3), some (.int x4), some (.int r71.2), some (.long r75.2), none]) (st' := [.int r71.2, .int r77.2]) (w' := r77.1) (by decide +kernel) rfl ?_
        refine ok_br (P := r77.2 = r71.2) (off := 5) (t := 390) (by decide +kernel : decode m_L_law.2.1 385 = .ok ((.if_icmp .eq 5), 3)) rfl rfl rfl rfl (fun c79 => ?_) (fun c79 => ?_)
        · skip
          refine ok_seg (L := [((.iload 5), 2)]) (pc' := 392) (ls' := [some (.ref x0), some (.ref x1), some (.ref x2), some (.ref x3), some (.int x4), some (.int r71.2), some (.long r75.2), none]) (st' := [.int r71.2]) (w' := r77.1) (by decide +kernel) rfl ?_
          refine ok_br (P := ¬ r71.2 = 0) (off := 14) (t := 406) (by decide +kernel : decode m_L_law.2.1 392 = .ok ((.ifCond .ne 14), 3)) rfl rfl rfl rfl (fun c80 => ?_) (fun c80 => ?_)
          · skip
            exact o_L_law_p406 ih x0 x1 x2 x3 x4 (some (.int r71.2)) (some (.long r75.2)) none r77.1
          · skip
            refine ok_seg (L := [((.aload_n 3), 1), ((.iconst 0), 1)]) (pc' := 397) (ls' := [some (.ref x0), some (.ref x1), some (.ref x2), some (.ref x3), some (.int x4), some (.int r71.2), some (.long r75.2), none]) (st' := [.int 0, .ref x3]) (w' := r77.1) (by decide +kernel) rfl ?_
            refine ok_aj (by decide +kernel : decode m_L_law.2.1 397 = .ok (.laload, 1)) (fun v81 h82 => ?_)
            refine ok_seg (L := [((.lload 6), 2), (.lcmp, 1)]) (pc' := 401) (ls' := [some (.ref x0), some (.ref x1), some (.ref x2), some (.ref x3), some (.int x4), some (.int r71.2), some (.long r75.2), none]) (st' := [.int (lg_cmp v81 r75.2)]) (w' := r77.1) (by decide +kernel) rfl ?_
            refine ok_br (P := (lg_cmp v81 r75.2) = 0) (off := 5) (t := 406) (by decide +kernel : decode m_L_law.2.1 401 = .ok ((.ifCond .eq 5), 3)) rfl rfl rfl rfl (fun c83 => ?_) (fun c83 => ?_)
            · skip
              exact o_L_law_p406 ih x0 x1 x2 x3 x4 (some (.int r71.2)) (some (.long r75.2)) none r77.1
            · skip
              refine ok_seg (L := [((.iconst 0), 1)]) (pc' := 405) (ls' := [some (.ref x0), some (.ref x1), some (.ref x2), some (.ref x3), some (.int x4), some (.int r71.2), some (.long r75.2), none]) (st' := [.int 0]) (w' := r77.1) (by decide +kernel) rfl ?_
              exact ok_ret (v := 0) (by decide +kernel : decode m_L_law.2.1 405 = .ok (.ireturn, 1)) rfl
        · skip
          refine ok_seg (L := [((.iconst 0), 1)]) (pc' := 389) (ls' := [some (.ref x0), some (.ref x1), some (.ref x2), some (.ref x3), some (.int x4), some (.int r71.2), some (.long r75.2), none]) (st' := [.int 0]) (w' := r77.1) (by decide +kernel) rfl ?_
          exact ok_ret (v := 0) (by decide +kernel : decode m_L_law.2.1 389 = .ok (.ireturn, 1)) rfl
      · skip
        refine ok_seg (L := [((.aload_n 1), 1), ((.aload_n 0), 1), ((.iload 4), 2), ((.iconst 1), 1), (.iadd, 1)]) (pc' := 415) (ls' := [some (.ref x0), some (.ref x1), some (.ref x2), some (.ref x3), some (.int x4), y5, y6, y7]) (st' := [.int (x4 + 1), .ref x0, .ref x1]) (w' := w) (by decide +kernel) rfl ?_
        refine ok_ai (by decide +kernel : decode m_L_law.2.1 415 = .ok (.iaload, 1)) (fun v84 h85 => ?_)
        refine ok_call0 (inj' := am_ji) (by decide +kernel : decode m_L_law.2.1 416 = .ok ((.invokevirtual 60), 3)) rfl (fun q hq => am_iv0 (am_self_eq hq).1 rfl rfl rfl) (o_C_rectangles (d + 12) (x1) (v84) w) (fun _ _ => rfl) (fun r86 h87 => ?_)
        refine ok_seg (L := [((.aload_n 2), 1), ((.aload_n 0), 1), ((.iload 4), 2), ((.iconst 1), 1), (.iadd, 1)]) (pc' := 425) (ls' := [some (.ref x0), some (.ref x1), some (.ref x2), some (.ref x3), some (.int x4), y5, y6, y7]) (st' := [.int (x4 + 1), .ref x0, .ref x2, .int r86.2]) (w' := r86.1) (by decide +kernel) rfl ?_
        refine ok_ai (by decide +kernel : decode m_L_law.2.1 425 = .ok (.iaload, 1)) (fun v88 h89 => ?_)
        refine ok_call0 (inj' := am_ji) (by decide +kernel : decode m_L_law.2.1 426 = .ok ((.invokevirtual 63), 3)) rfl (fun q hq => am_iv0 (am_self_eq hq).1 rfl rfl rfl) (o_M_rectangles (d + 12) (x2) (v88) r86.1) (fun _ _ => rfl) (fun r90 h91 => ?_)
        refine ok_br (P := r86.2 = r90.2) (off := 646) (t := 1075) (by decide +kernel : decode m_L_law.2.1 429 = .ok ((.if_icmp .eq 646), 3)) rfl rfl rfl rfl (fun c92 => ?_) (fun c92 => ?_)
        · skip
          exact o_L_law_p1075 ih x0 x1 x2 x3 x4 y5 y6 y7 r90.1
        · skip
          refine ok_seg (L := [((.iconst 0), 1)]) (pc' := 433) (ls' := [some (.ref x0), some (.ref x1), some (.ref x2), some (.ref x3), some (.int x4), y5, y6, y7]) (st' := [.int 0]) (w' := r90.1) (by decide +kernel) rfl ?_
          exact ok_ret (v := 0) (by decide +kernel : decode m_L_law.2.1 433 = .ok (.ireturn, 1)) rfl
      · skip
        refine ok_seg (L := [((.aload_n 1), 1), ((.aload_n 0), 1), ((.iload 4), 2), ((.iconst 1), 1), (.iadd, 1)]) (pc' := 440) (ls' := [some (.ref x0), some (.ref x1), some (.ref x2), some (.ref x3), some (.int x4), y5, y6, y7]) (st' := [.int (x4 + 1), .ref x0, .ref x1]) (w' := w) (by decide +kernel) rfl ?_
        refine ok_ai (by decide +kernel : decode m_L_law.2.1 440 = .ok (.iaload, 1)) (fun v93 h94 => ?_)
        refine ok_seg (L := [((.aload_n 0), 1), ((.iload 4), 2), ((.iconst 2), 1), (.iadd, 1)]) (pc' := 446) (ls' := [some (.ref x0), some (.ref x1), some (.ref x2), some (.ref x3), some (.int x4), y5, y6, y7]) (st' := [.int (x4 + 2), .ref x0, .int v93, .ref x1]) (w' := w) (by decide +kernel) rfl ?_
        refine ok_ai (by decide +kernel : decode m_L_law.2.1 446 = .ok (.iaload, 1)) (fun v95 h96 => ?_)
        refine ok_call0 (inj' := am_ji) (by decide +kernel : decode m_L_law.2.1 447 = .ok ((.invokevirtual 64), 3)) rfl (fun q hq => am_iv0 (am_self_eq hq).1 rfl rfl rfl) (o_C_rectangle (d + 10) (x1) (v93) (v95) w) (fun _ _ => rfl) (fun r97 h98 => ?_)
        refine ok_seg (L := [((.aload_n 2), 1), ((.aload_n 0), 1), ((.iload 4), 2), ((.iconst 1), 1), (.iadd, 1)]) (pc' := 456) (ls' := [some (.ref x0), some (.ref x1), some (.ref x2), some (.ref x3), some (.int x4), y5, y6, y7]) (st' := [.int (x4 + 1), .ref x0, .ref x2, .int r97.2]) (w' := r97.1) (by decide +kernel) rfl ?_
        refine ok_ai (by decide +kernel : decode m_L_law.2.1 456 = .ok (.iaload, 1)) (fun v99 h100 => ?_)
        refine ok_seg (L := [((.aload_n 0), 1), ((.iload 4), 2), ((.iconst 2), 1), (.iadd, 1)]) (pc' := 462) (ls' := [some (.ref x0), some (.ref x1), some (.ref x2), some (.ref x3), some (.int x4), y5, y6, y7]) (st' := [.int (x4 + 2), .ref x0, .int v99, .ref x2, .int r97.2]) (w' := r97.1) (by decide +kernel) rfl ?_
        refine ok_ai (by decide +kernel : decode m_L_law.2.1 462 = .ok (.iaload, 1)) (fun v101 h102 => ?_)
        refine ok_call0 (inj' := am_ji) (by decide +kernel : decode m_L_law.2.1 463 = .ok ((.invokevirtual 68), 3)) rfl (fun q hq => am_iv0 (am_self_eq hq).1 rfl rfl rfl) (o_M_rectangle (d + 12) (x2) (v99) (v101) r97.1) (fun _ _ => rfl) (fun r103 h104 => ?_)
        refine ok_br (P := r97.2 = r103.2) (off := 609) (t := 1075) (by decide +kernel : decode m_L_law.2.1 466 = .ok ((.if_icmp .eq 609), 3)) rfl rfl rfl rfl (fun c105 => ?_) (fun c105 => ?_)
        · skip
          exact o_L_law_p1075 ih x0 x1 x2 x3 x4 y5 y6 y7 r103.1
        · skip
          refine ok_seg (L := [((.iconst 0), 1)]) (pc' := 470) (ls' := [some (.ref x0), some (.ref x1), some (.ref x2), some (.ref x3), some (.int x4), y5, y6, y7]) (st' := [.int 0]) (w' := r103.1) (by decide +kernel) rfl ?_
          exact ok_ret (v := 0) (by decide +kernel : decode m_L_law.2.1 470 = .ok (.ireturn, 1)) rfl
      · skip
        refine ok_seg (L := [((.aload_n 1), 1), ((.aload_n 0), 1), ((.iload 4), 2), ((.iconst 1), 1), (.iadd, 1)]) (pc' := 477) (ls' := [some (.ref x0), some (.ref x1), some (.ref x2), some (.ref x3), some (.int x4), y5, y6, y7]) (st' := [.int (x4 + 1), .ref x0, .ref x1]) (w' := w) (by decide +kernel) rfl ?_
        refine ok_ai (by decide +kernel : decode m_L_law.2.1 477 = .ok (.iaload, 1)) (fun v106 h107 => ?_)
        refine ok_call0 (inj' := am_ji) (by decide +kernel : decode m_L_law.2.1 478 = .ok ((.invokevirtual 69), 3)) rfl (fun q hq => am_iv0 (am_self_eq hq).1 rfl rfl rfl) (o_C_through (d + 13) (x1) (v106) w) (fun _ _ => rfl) (fun r108 h109 => ?_)
        refine ok_seg (L := [((.aload_n 2), 1), ((.aload_n 0), 1), ((.iload 4), 2), ((.iconst 1), 1), (.iadd, 1)]) (pc' := 487) (ls' := [some (.ref x0), some (.ref x1), some (.ref x2), some (.ref x3), some (.int x4), y5, y6, y7]) (st' := [.int (x4 + 1), .ref x0, .ref x2, .int r108.2]) (w' := r108.1) (by decide +kernel) rfl ?_
        refine ok_ai (by decide +kernel : decode m_L_law.2.1 487 = .ok (.iaload, 1)) (fun v110 h111 => ?_)
        refine ok_call0 (inj' := am_ji) (by decide +kernel : decode m_L_law.2.1 488 = .ok ((.invokevirtual 72), 3)) rfl (fun q hq => am_iv0 (am_self_eq hq).1 rfl rfl rfl) (o_M_through (d + 12) (x2) (v110) r108.1) (fun _ _ => rfl) (fun r112 h113 => ?_)
        refine ok_br (P := r108.2 = r112.2) (off := 584) (t := 1075) (by decide +kernel : decode m_L_law.2.1 491 = .ok ((.if_icmp .eq 584), 3)) rfl rfl rfl rfl (fun c114 => ?_) (fun c114 => ?_)
        · skip
          exact o_L_law_p1075 ih x0 x1 x2 x3 x4 y5 y6 y7 r112.1
        · skip
          refine ok_seg (L := [((.iconst 0), 1)]) (pc' := 495) (ls' := [some (.ref x0), some (.ref x1), some (.ref x2), some (.ref x3), some (.int x4), y5, y6, y7]) (st' := [.int 0]) (w' := r112.1) (by decide +kernel) rfl ?_
          exact ok_ret (v := 0) (by decide +kernel : decode m_L_law.2.1 495 = .ok (.ireturn, 1)) rfl
      · skip
        refine ok_seg (L := [((.aload_n 1), 1)]) (pc' := 497) (ls' := [some (.ref x0), some (.ref x1), some (.ref x2), some (.ref x3), some (.int x4), y5, y6, y7]) (st' := [.ref x1]) (w' := w) (by decide +kernel) rfl ?_
        refine ok_call0 (inj' := am_ji) (by decide +kernel : decode m_L_law.2.1 497 = .ok ((.invokevirtual 73), 3)) rfl (fun q hq => am_iv0 (am_self_eq hq).1 rfl rfl rfl) (o_C_worst (d + 13) (x1) w) (fun _ _ => rfl) (fun r115 h116 => ?_)
        refine ok_seg (L := [((.aload_n 2), 1)]) (pc' := 501) (ls' := [some (.ref x0), some (.ref x1), some (.ref x2), some (.ref x3), some (.int x4), y5, y6, y7]) (st' := [.ref x2, .int r115.2]) (w' := r115.1) (by decide +kernel) rfl ?_
        refine ok_call0 (inj' := am_ji) (by decide +kernel : decode m_L_law.2.1 501 = .ok ((.invokevirtual 76), 3)) rfl (fun q hq => am_iv0 (am_self_eq hq).1 rfl rfl rfl) (o_M_worst (d + 12) (x2) r115.1) (fun _ _ => rfl) (fun r117 h118 => ?_)
        refine ok_br (P := r115.2 = r117.2) (off := 571) (t := 1075) (by decide +kernel : decode m_L_law.2.1 504 = .ok ((.if_icmp .eq 571), 3)) rfl rfl rfl rfl (fun c119 => ?_) (fun c119 => ?_)
        · skip
          exact o_L_law_p1075 ih x0 x1 x2 x3 x4 y5 y6 y7 r117.1
        · skip
          refine ok_seg (L := [((.iconst 0), 1)]) (pc' := 508) (ls' := [some (.ref x0), some (.ref x1), some (.ref x2), some (.ref x3), some (.int x4), y5, y6, y7]) (st' := [.int 0]) (w' := r117.1) (by decide +kernel) rfl ?_
          exact ok_ret (v := 0) (by decide +kernel : decode m_L_law.2.1 508 = .ok (.ireturn, 1)) rfl
      · skip
        refine ok_seg (L := [((.aload_n 1), 1), ((.aload_n 0), 1), ((.iload 4), 2), ((.iconst 1), 1), (.iadd, 1)]) (pc' := 515) (ls' := [some (.ref x0), some (.ref x1), some (.ref x2), some (.ref x3), some (.int x4), y5, y6, y7]) (st' := [.int (x4 + 1), .ref x0, .ref x1]) (w' := w) (by decide +kernel) rfl ?_
        refine ok_ai (by decide +kernel : decode m_L_law.2.1 515 = .ok (.iaload, 1)) (fun v120 h121 => ?_)
        refine ok_call0 (inj' := am_ji) (by decide +kernel : decode m_L_law.2.1 516 = .ok ((.invokevirtual 77), 3)) rfl (fun q hq => am_iv0 (am_self_eq hq).1 rfl rfl rfl) (o_C_may (d + 13) (x1) (v120) w) (fun _ _ => rfl) (fun r122 h123 => ?_)
        refine ok_seg (L := [((.aload_n 2), 1), ((.aload_n 0), 1), ((.iload 4), 2), ((.iconst 1), 1), (.iadd, 1)]) (pc' := 525) (ls' := [some (.ref x0), some (.ref x1), some (.ref x2), some (.ref x3), some (.int x4), y5, y6, y7]) (st' := [.int (x4 + 1), .ref x0, .ref x2, .int r122.2]) (w' := r122.1) (by decide +kernel) rfl ?_
        refine ok_ai (by decide +kernel : decode m_L_law.2.1 525 = .ok (.iaload, 1)) (fun v124 h125 => ?_)
        refine ok_call0 (inj' := am_ji) (by decide +kernel : decode m_L_law.2.1 526 = .ok ((.invokevirtual 80), 3)) rfl (fun q hq => am_iv0 (am_self_eq hq).1 rfl rfl rfl) (o_M_may (d + 12) (x2) (v124) r122.1) (fun _ _ => rfl) (fun r126 h127 => ?_)
        refine ok_br (P := r122.2 = r126.2) (off := 546) (t := 1075) (by decide +kernel : decode m_L_law.2.1 529 = .ok ((.if_icmp .eq 546), 3)) rfl rfl rfl rfl (fun c128 => ?_) (fun c128 => ?_)
        · skip
          exact o_L_law_p1075 ih x0 x1 x2 x3 x4 y5 y6 y7 r126.1
        · skip
          refine ok_seg (L := [((.iconst 0), 1)]) (pc' := 533) (ls' := [some (.ref x0), some (.ref x1), some (.ref x2), some (.ref x3), some (.int x4), y5, y6, y7]) (st' := [.int 0]) (w' := r126.1) (by decide +kernel) rfl ?_
          exact ok_ret (v := 0) (by decide +kernel : decode m_L_law.2.1 533 = .ok (.ireturn, 1)) rfl
      · skip
        refine ok_seg (L := [((.aload_n 1), 1), ((.aload_n 3), 1)]) (pc' := 536) (ls' := [some (.ref x0), some (.ref x1), some (.ref x2), some (.ref x3), some (.int x4), y5, y6, y7]) (st' := [.ref x3, .ref x1]) (w' := w) (by decide +kernel) rfl ?_
        refine ok_callx (by decide +kernel : decode m_L_law.2.1 536 = .ok ((.invokestatic 81), 3)) rfl (fun q hq ho => am_iv9 (am_self_eq hq).1 ho rfl rfl) (o_C_mend (d + 5) (x1) w) (fun r129 h130 => ?_)
        refine ok_seg (L := [((.istore 5), 2), ((.aload_n 2), 1)]) (pc' := 542) (ls' := [some (.ref x0), some (.ref x1), some (.ref x2), some (.ref x3), some (.int x4), some (.int r129.2), y6, y7]) (st' := [.ref x2]) (w' := r129.1) (by decide +kernel) rfl ?_
        refine ok_call0 (inj' := am_jj) (by decide +kernel : decode m_L_law.2.1 542 = .ok ((.invokevirtual 84), 3)) rfl (fun q hq => am_iv0 (am_self_eq hq).1 rfl rfl rfl) (o_M_mend (d + 12) (x2) r129.1) (fun _ _ => rfl) (fun r131 h132 => ?_)
        refine ok_seg (L := [((.lstore 6), 2), ((.aload_n 2), 1)]) (pc' := 548) (ls' := [some (.ref x0), some (.ref x1), some (.ref x2), some (.ref x3), some (.int x4), some (.int r129.2), some (.long r131.2), none]) (st' := [.ref x2]) (w' := r131.1) (by decide +kernel) rfl ?_
        refine ok_call0 (inj' := am_ji) (by decide +kernel : decode m_L_law.2.1 548 = .ok ((.invokevirtual 57), 3)) rfl (fun q hq => am_iv0 (am_self_eq hq).1 rfl rfl rfl) (o_M_thrown (d + 15) (x2) r131.1) (fun _ _ => rfl) (fun r133 h134 => ?_)
        refine ok_seg (L := [((.iload 5), 2)]) (pc' := 553) (ls' := [some (.ref x0), some (.ref x1), some (.ref x2), some (.ref x3), some (.int x4), some (.int r129.2), some (.long r131.2), none]) (st' := [.int r129.2, .int r133.2]) (w' := r133.1) (by decide +kernel) rfl ?_
        refine ok_br (P := r133.2 = r129.2) (off := 5) (t := 558) (by decide +kernel : decode m_L_law.2.1 553 = .ok ((.if_icmp .eq 5), 3)) rfl rfl rfl rfl (fun c135 => ?_) (fun c135 => ?_)
        · skip
          refine ok_seg (L := [((.iload 5), 2)]) (pc' := 560) (ls' := [some (.ref x0), some (.ref x1), some (.ref x2), some (.ref x3), some (.int x4), some (.int r129.2), some (.long r131.2), none]) (st' := [.int r129.2]) (w' := r133.1) (by decide +kernel) rfl ?_
          refine ok_br (P := ¬ r129.2 = 0) (off := 14) (t := 574) (by decide +kernel : decode m_L_law.2.1 560 = .ok ((.ifCond .ne 14), 3)) rfl rfl rfl rfl (fun c136 => ?_) (fun c136 => ?_)
          · skip
            exact o_L_law_p574 ih x0 x1 x2 x3 x4 (some (.int r129.2)) (some (.long r131.2)) none r133.1
          · skip
            refine ok_seg (L := [((.aload_n 3), 1), ((.iconst 0), 1)]) (pc' := 565) (ls' := [some (.ref x0), some (.ref x1), some (.ref x2), some (.ref x3), some (.int x4), some (.int r129.2), some (.long r131.2), none]) (st' := [.int 0, .ref x3]) (w' := r133.1) (by decide +kernel) rfl ?_
            refine ok_aj (by decide +kernel : decode m_L_law.2.1 565 = .ok (.laload, 1)) (fun v137 h138 => ?_)
            refine ok_seg (L := [((.lload 6), 2), (.lcmp, 1)]) (pc' := 569) (ls' := [some (.ref x0), some (.ref x1), some (.ref x2), some (.ref x3), some (.int x4), some (.int r129.2), some (.long r131.2), none]) (st' := [.int (lg_cmp v137 r131.2)]) (w' := r133.1) (by decide +kernel) rfl ?_
            refine ok_br (P := (lg_cmp v137 r131.2) = 0) (off := 5) (t := 574) (by decide +kernel : decode m_L_law.2.1 569 = .ok ((.ifCond .eq 5), 3)) rfl rfl rfl rfl (fun c139 => ?_) (fun c139 => ?_)
            · skip
              exact o_L_law_p574 ih x0 x1 x2 x3 x4 (some (.int r129.2)) (some (.long r131.2)) none r133.1
            · skip
              refine ok_seg (L := [((.iconst 0), 1)]) (pc' := 573) (ls' := [some (.ref x0), some (.ref x1), some (.ref x2), some (.ref x3), some (.int x4), some (.int r129.2), some (.long r131.2), none]) (st' := [.int 0]) (w' := r133.1) (by decide +kernel) rfl ?_
              exact ok_ret (v := 0) (by decide +kernel : decode m_L_law.2.1 573 = .ok (.ireturn, 1)) rfl
        · skip
          refine ok_seg (L := [((.iconst 0), 1)]) (pc' := 557) (ls' := [some (.ref x0), some (.ref x1), some (.ref x2), some (.ref x3), some (.int x4), some (.int r129.2), some (.long r131.2), none]) (st' := [.int 0]) (w' := r133.1) (by decide +kernel) rfl ?_
          exact ok_ret (v := 0) (by decide +kernel : decode m_L_law.2.1 557 = .ok (.ireturn, 1)) rfl
      · skip
        refine ok_seg (L := [((.aload_n 1), 1), ((.aload_n 0), 1), ((.iload 4), 2), ((.iconst 1), 1), (.iadd, 1)]) (pc' := 583) (ls' := [some (.ref x0), some (.ref x1), some (.ref x2), some (.ref x3), some (.int x4), y5, y6, y7]) (st' := [.int (x4 + 1), .ref x0, .ref x1]) (w' := w) (by decide +kernel) rfl ?_
        refine ok_ai (by decide +kernel : decode m_L_law.2.1 583 = .ok (.iaload, 1)) (fun v140 h141 => ?_)
        refine ok_seg (L := [((.aload_n 0), 1), ((.iload 4), 2), ((.iconst 2), 1), (.iadd, 1)]) (pc' := 589) (ls' := [some (.ref x0), some (.ref x1), some (.ref x2), some (.ref x3), some (.int x4), y5, y6, y7]) (st' := [.int (x4 + 2), .ref x0, .int v140, .ref x1]) (w' := w) (by decide +kernel) rfl ?_
        refine ok_ai (by decide +kernel : decode m_L_law.2.1 589 = .ok (.iaload, 1)) (fun v142 h143 => ?_)
        refine ok_call0 (inj' := am_ji) (by decide +kernel : decode m_L_law.2.1 590 = .ok ((.invokevirtual 85), 3)) rfl (fun q hq => am_iv0 (am_self_eq hq).1 rfl rfl rfl) (o_C_most (d + 14) (x1) (v140) (v142) w) (fun _ _ => rfl) (fun r144 h145 => ?_)
        refine ok_seg (L := [((.aload_n 2), 1), ((.aload_n 0), 1), ((.iload 4), 2), ((.iconst 1), 1), (.iadd, 1)]) (pc' := 599) (ls' := [some (.ref x0), some (.ref x1), some (.ref x2), some (.ref x3), some (.int x4), y5, y6, y7]) (st' := [.int (x4 + 1), .ref x0, .ref x2, .int r144.2]) (w' := r144.1) (by decide +kernel) rfl ?_
        refine ok_ai (by decide +kernel : decode m_L_law.2.1 599 = .ok (.iaload, 1)) (fun v146 h147 => ?_)
        refine ok_seg (L := [((.aload_n 0), 1), ((.iload 4), 2), ((.iconst 2), 1), (.iadd, 1)]) (pc' := 605) (ls' := [some (.ref x0), some (.ref x1), some (.ref x2), some (.ref x3), some (.int x4), y5, y6, y7]) (st' := [.int (x4 + 2), .ref x0, .int v146, .ref x2, .int r144.2]) (w' := r144.1) (by decide +kernel) rfl ?_
        refine ok_ai (by decide +kernel : decode m_L_law.2.1 605 = .ok (.iaload, 1)) (fun v148 h149 => ?_)
        refine ok_call0 (inj' := am_ji) (by decide +kernel : decode m_L_law.2.1 606 = .ok ((.invokevirtual 88), 3)) rfl (fun q hq => am_iv0 (am_self_eq hq).1 rfl rfl rfl) (o_M_most (d + 13) (x2) (v146) (v148) r144.1) (fun _ _ => rfl) (fun r150 h151 => ?_)
        refine ok_br (P := r144.2 = r150.2) (off := 466) (t := 1075) (by decide +kernel : decode m_L_law.2.1 609 = .ok ((.if_icmp .eq 466), 3)) rfl rfl rfl rfl (fun c152 => ?_) (fun c152 => ?_)
        · skip
          exact o_L_law_p1075 ih x0 x1 x2 x3 x4 y5 y6 y7 r150.1
        · skip
          refine ok_seg (L := [((.iconst 0), 1)]) (pc' := 613) (ls' := [some (.ref x0), some (.ref x1), some (.ref x2), some (.ref x3), some (.int x4), y5, y6, y7]) (st' := [.int 0]) (w' := r150.1) (by decide +kernel) rfl ?_
          exact ok_ret (v := 0) (by decide +kernel : decode m_L_law.2.1 613 = .ok (.ireturn, 1)) rfl
      · skip
        refine ok_seg (L := [((.aload_n 1), 1), ((.aload_n 0), 1), ((.iload 4), 2), ((.iconst 1), 1), (.iadd, 1)]) (pc' := 620) (ls' := [some (.ref x0), some (.ref x1), some (.ref x2), some (.ref x3), some (.int x4), y5, y6, y7]) (st' := [.int (x4 + 1), .ref x0, .ref x1]) (w' := w) (by decide +kernel) rfl ?_
        refine ok_ai (by decide +kernel : decode m_L_law.2.1 620 = .ok (.iaload, 1)) (fun v153 h154 => ?_)
        refine ok_seg (L := [((.aload_n 0), 1), ((.iload 4), 2), ((.iconst 2), 1), (.iadd, 1)]) (pc' := 626) (ls' := [some (.ref x0), some (.ref x1), some (.ref x2), some (.ref x3), some (.int x4), y5, y6, y7]) (st' := [.int (x4 + 2), .ref x0, .int v153, .ref x1]) (w' := w) (by decide +kernel) rfl ?_
        refine ok_ai (by decide +kernel : decode m_L_law.2.1 626 = .ok (.iaload, 1)) (fun v155 h156 => ?_)
        refine ok_seg (L := [((.aload_n 0), 1), ((.iload 4), 2), ((.iconst 3), 1), (.iadd, 1)]) (pc' := 632) (ls' := [some (.ref x0), some (.ref x1), some (.ref x2), some (.ref x3), some (.int x4), y5, y6, y7]) (st' := [.int (x4 + 3), .ref x0, .int v155, .int v153, .ref x1]) (w' := w) (by decide +kernel) rfl ?_
        refine ok_ai (by decide +kernel : decode m_L_law.2.1 632 = .ok (.iaload, 1)) (fun v157 h158 => ?_)
        refine ok_call0 (inj' := am_ji) (by decide +kernel : decode m_L_law.2.1 633 = .ok ((.invokevirtual 89), 3)) rfl (fun q hq => am_iv0 (am_self_eq hq).1 rfl rfl rfl) (o_C_crowded (d + 14) (x1) (v153) (v155) (v157) w) (fun _ _ => rfl) (fun r159 h160 => ?_)
        refine ok_seg (L := [((.aload_n 2), 1), ((.aload_n 0), 1), ((.iload 4), 2), ((.iconst 1), 1), (.iadd, 1)]) (pc' := 642) (ls' := [some (.ref x0), some (.ref x1), some (.ref x2), some (.ref x3), some (.int x4), y5, y6, y7]) (st' := [.int (x4 + 1), .ref x0, .ref x2, .int r159.2]) (w' := r159.1) (by decide +kernel) rfl ?_
        refine ok_ai (by decide +kernel : decode m_L_law.2.1 642 = .ok (.iaload, 1)) (fun v161 h162 => ?_)
        refine ok_seg (L := [((.aload_n 0), 1), ((.iload 4), 2), ((.iconst 2), 1), (.iadd, 1)]) (pc' := 648) (ls' := [some (.ref x0), some (.ref x1), some (.ref x2), some (.ref x3), some (.int x4), y5, y6, y7]) (st' := [.int (x4 + 2), .ref x0, .int v161, .ref x2, .int r159.2]) (w' := r159.1) (by decide +kernel) rfl ?_
        refine ok_ai (by decide +kernel : decode m_L_law.2.1 648 = .ok (.iaload, 1)) (fun v163 h164 => ?_)
        refine ok_seg (L := [((.aload_n 0), 1), ((.iload 4), 2), ((.iconst 3), 1), (.iadd, 1)]) (pc' := 654) (ls' := [some (.ref x0), some (.ref x1), some (.ref x2), some (.ref x3), some (.int x4), y5, y6, y7]) (st' := [.int (x4 + 3), .ref x0, .int v163, .int v161, .ref x2, .int r159.2]) (w' := r159.1) (by decide +kernel) rfl ?_
        refine ok_ai (by decide +kernel : decode m_L_law.2.1 654 = .ok (.iaload, 1)) (fun v165 h166 => ?_)
        refine ok_call0 (inj' := am_ji) (by decide +kernel : decode m_L_law.2.1 655 = .ok ((.invokevirtual 93), 3)) rfl (fun q hq => am_iv0 (am_self_eq hq).1 rfl rfl rfl) (o_M_crowded (d + 13) (x2) (v161) (v163) (v165) r159.1) (fun _ _ => rfl) (fun r167 h168 => ?_)
        refine ok_br (P := r159.2 = r167.2) (off := 417) (t := 1075) (by decide +kernel : decode m_L_law.2.1 658 = .ok ((.if_icmp .eq 417), 3)) rfl rfl rfl rfl (fun c169 => ?_) (fun c169 => ?_)
        · skip
          exact o_L_law_p1075 ih x0 x1 x2 x3 x4 y5 y6 y7 r167.1
        · skip
          refine ok_seg (L := [((.iconst 0), 1)]) (pc' := 662) (ls' := [some (.ref x0), some (.ref x1), some (.ref x2), some (.ref x3), some (.int x4), y5, y6, y7]) (st' := [.int 0]) (w' := r167.1) (by decide +kernel) rfl ?_
          exact ok_ret (v := 0) (by decide +kernel : decode m_L_law.2.1 662 = .ok (.ireturn, 1)) rfl
      · skip
        refine ok_seg (L := [((.aload_n 1), 1), ((.aload_n 0), 1), ((.iload 4), 2), ((.iconst 1), 1), (.iadd, 1)]) (pc' := 669) (ls' := [some (.ref x0), some (.ref x1), some (.ref x2), some (.ref x3), some (.int x4), y5, y6, y7]) (st' := [.int (x4 + 1), .ref x0, .ref x1]) (w' := w) (by decide +kernel) rfl ?_
        refine ok_ai (by decide +kernel : decode m_L_law.2.1 669 = .ok (.iaload, 1)) (fun v170 h171 => ?_)
        refine ok_seg (L := [((.aload_n 0), 1), ((.iload 4), 2), ((.iconst 2), 1), (.iadd, 1)]) (pc' := 675) (ls' := [some (.ref x0), some (.ref x1), some (.ref x2), some (.ref x3), some (.int x4), y5, y6, y7]) (st' := [.int (x4 + 2), .ref x0, .int v170, .ref x1]) (w' := w) (by decide +kernel) rfl ?_
        refine ok_ai (by decide +kernel : decode m_L_law.2.1 675 = .ok (.iaload, 1)) (fun v172 h173 => ?_)
        refine ok_seg (L := [((.aload_n 0), 1), ((.iload 4), 2), ((.iconst 3), 1), (.iadd, 1)]) (pc' := 681) (ls' := [some (.ref x0), some (.ref x1), some (.ref x2), some (.ref x3), some (.int x4), y5, y6, y7]) (st' := [.int (x4 + 3), .ref x0, .int v172, .int v170, .ref x1]) (w' := w) (by decide +kernel) rfl ?_
        refine ok_ai (by decide +kernel : decode m_L_law.2.1 681 = .ok (.iaload, 1)) (fun v174 h175 => ?_)
        refine ok_call0 (inj' := am_ji) (by decide +kernel : decode m_L_law.2.1 682 = .ok ((.invokevirtual 94), 3)) rfl (fun q hq => am_iv0 (am_self_eq hq).1 rfl rfl rfl) (o_C_paired (d + 14) (x1) (v170) (v172) (v174) w) (fun _ _ => rfl) (fun r176 h177 => ?_)
        refine ok_seg (L := [((.aload_n 2), 1), ((.aload_n 0), 1), ((.iload 4), 2), ((.iconst 1), 1), (.iadd, 1)]) (pc' := 691) (ls' := [some (.ref x0), some (.ref x1), some (.ref x2), some (.ref x3), some (.int x4), y5, y6, y7]) (st' := [.int (x4 + 1), .ref x0, .ref x2, .int r176.2]) (w' := r176.1) (by decide +kernel) rfl ?_
        refine ok_ai (by decide +kernel : decode m_L_law.2.1 691 = .ok (.iaload, 1)) (fun v178 h179 => ?_)
        refine ok_seg (L := [((.aload_n 0), 1), ((.iload 4), 2), ((.iconst 2), 1), (.iadd, 1)]) (pc' := 697) (ls' := [some (.ref x0), some (.ref x1), some (.ref x2), some (.ref x3), some (.int x4), y5, y6, y7]) (st' := [.int (x4 + 2), .ref x0, .int v178, .ref x2, .int r176.2]) (w' := r176.1) (by decide +kernel) rfl ?_
        refine ok_ai (by decide +kernel : decode m_L_law.2.1 697 = .ok (.iaload, 1)) (fun v180 h181 => ?_)
        refine ok_seg (L := [((.aload_n 0), 1), ((.iload 4), 2), ((.iconst 3), 1), (.iadd, 1)]) (pc' := 703) (ls' := [some (.ref x0), some (.ref x1), some (.ref x2), some (.ref x3), some (.int x4), y5, y6, y7]) (st' := [.int (x4 + 3), .ref x0, .int v180, .int v178, .ref x2, .int r176.2]) (w' := r176.1) (by decide +kernel) rfl ?_
        refine ok_ai (by decide +kernel : decode m_L_law.2.1 703 = .ok (.iaload, 1)) (fun v182 h183 => ?_)
        refine ok_call0 (inj' := am_ji) (by decide +kernel : decode m_L_law.2.1 704 = .ok ((.invokevirtual 97), 3)) rfl (fun q hq => am_iv0 (am_self_eq hq).1 rfl rfl rfl) (o_M_paired (d + 14) (x2) (v178) (v180) (v182) r176.1) (fun _ _ => rfl) (fun r184 h185 => ?_)
        refine ok_br (P := r176.2 = r184.2) (off := 368) (t := 1075) (by decide +kernel : decode m_L_law.2.1 707 = .ok ((.if_icmp .eq 368), 3)) rfl rfl rfl rfl (fun c186 => ?_) (fun c186 => ?_)
        · skip
          exact o_L_law_p1075 ih x0 x1 x2 x3 x4 y5 y6 y7 r184.1
        · skip
          refine ok_seg (L := [((.iconst 0), 1)]) (pc' := 711) (ls' := [some (.ref x0), some (.ref x1), some (.ref x2), some (.ref x3), some (.int x4), y5, y6, y7]) (st' := [.int 0]) (w' := r184.1) (by decide +kernel) rfl ?_
          exact ok_ret (v := 0) (by decide +kernel : decode m_L_law.2.1 711 = .ok (.ireturn, 1)) rfl
      · skip
        refine ok_seg (L := [((.aload_n 1), 1), ((.aload_n 0), 1), ((.iload 4), 2), ((.iconst 1), 1), (.iadd, 1)]) (pc' := 718) (ls' := [some (.ref x0), some (.ref x1), some (.ref x2), some (.ref x3), some (.int x4), y5, y6, y7]) (st' := [.int (x4 + 1), .ref x0, .ref x1]) (w' := w) (by decide +kernel) rfl ?_
        refine ok_ai (by decide +kernel : decode m_L_law.2.1 718 = .ok (.iaload, 1)) (fun v187 h188 => ?_)
        refine ok_call0 (inj' := am_ji) (by decide +kernel : decode m_L_law.2.1 719 = .ok ((.invokevirtual 98), 3)) rfl (fun q hq => am_iv0 (am_self_eq hq).1 rfl rfl rfl) (o_C_search (d + 10) (x1) (v187) w) (fun _ _ => rfl) (fun r189 h190 => ?_)
        refine ok_seg (L := [((.aload_n 2), 1), ((.aload_n 0), 1), ((.iload 4), 2), ((.iconst 1), 1), (.iadd, 1)]) (pc' := 728) (ls' := [some (.ref x0), some (.ref x1), some (.ref x2), some (.ref x3), some (.int x4), y5, y6, y7]) (st' := [.int (x4 + 1), .ref x0, .ref x2, .int r189.2]) (w' := r189.1) (by decide +kernel) rfl ?_
        refine ok_ai (by decide +kernel : decode m_L_law.2.1 728 = .ok (.iaload, 1)) (fun v191 h192 => ?_)
        refine ok_call0 (inj' := am_ji) (by decide +kernel : decode m_L_law.2.1 729 = .ok ((.invokevirtual 101), 3)) rfl (fun q hq => am_iv0 (am_self_eq hq).1 rfl rfl rfl) (o_M_search (d + 10) (x2) (v191) r189.1) (fun _ _ => rfl) (fun r193 h194 => ?_)
        refine ok_br (P := r189.2 = r193.2) (off := 343) (t := 1075) (by decide +kernel : decode m_L_law.2.1 732 = .ok ((.if_icmp .eq 343), 3)) rfl rfl rfl rfl (fun c195 => ?_) (fun c195 => ?_)
        · skip
          exact o_L_law_p1075 ih x0 x1 x2 x3 x4 y5 y6 y7 r193.1
        · skip
          refine ok_seg (L := [((.iconst 0), 1)]) (pc' := 736) (ls' := [some (.ref x0), some (.ref x1), some (.ref x2), some (.ref x3), some (.int x4), y5, y6, y7]) (st' := [.int 0]) (w' := r193.1) (by decide +kernel) rfl ?_
          exact ok_ret (v := 0) (by decide +kernel : decode m_L_law.2.1 736 = .ok (.ireturn, 1)) rfl
      · skip
        refine ok_seg (L := [((.aload_n 1), 1), ((.aload_n 0), 1), ((.iload 4), 2), ((.iconst 1), 1), (.iadd, 1)]) (pc' := 743) (ls' := [some (.ref x0), some (.ref x1), some (.ref x2), some (.ref x3), some (.int x4), y5, y6, y7]) (st' := [.int (x4 + 1), .ref x0, .ref x1]) (w' := w) (by decide +kernel) rfl ?_
        refine ok_ai (by decide +kernel : decode m_L_law.2.1 743 = .ok (.iaload, 1)) (fun v196 h197 => ?_)
        refine ok_call0 (inj' := am_ji) (by decide +kernel : decode m_L_law.2.1 744 = .ok ((.invokevirtual 102), 3)) rfl (fun q hq => am_iv0 (am_self_eq hq).1 rfl rfl rfl) (o_C_found (d + 9) (x1) (v196) w) (fun _ _ => rfl) (fun r198 h199 => ?_)
        refine ok_seg (L := [((.aload_n 2), 1), ((.aload_n 0), 1), ((.iload 4), 2), ((.iconst 1), 1), (.iadd, 1)]) (pc' := 753) (ls' := [some (.ref x0), some (.ref x1), some (.ref x2), some (.ref x3), some (.int x4), y5, y6, y7]) (st' := [.int (x4 + 1), .ref x0, .ref x2, .int r198.2]) (w' := r198.1) (by decide +kernel) rfl ?_
        refine ok_ai (by decide +kernel : decode m_L_law.2.1 753 = .ok (.iaload, 1)) (fun v200 h201 => ?_)
        refine ok_call0 (inj' := am_ji) (by decide +kernel : decode m_L_law.2.1 754 = .ok ((.invokevirtual 105), 3)) rfl (fun q hq => am_iv0 (am_self_eq hq).1 rfl rfl rfl) (o_M_found (d + 10) (x2) (v200) r198.1) (fun _ _ => rfl) (fun r202 h203 => ?_)
        refine ok_br (P := r198.2 = r202.2) (off := 318) (t := 1075) (by decide +kernel : decode m_L_law.2.1 757 = .ok ((.if_icmp .eq 318), 3)) rfl rfl rfl rfl (fun c204 => ?_) (fun c204 => ?_)
        · skip
          exact o_L_law_p1075 ih x0 x1 x2 x3 x4 y5 y6 y7 r202.1
        · skip
          refine ok_seg (L := [((.iconst 0), 1)]) (pc' := 761) (ls' := [some (.ref x0), some (.ref x1), some (.ref x2), some (.ref x3), some (.int x4), y5, y6, y7]) (st' := [.int 0]) (w' := r202.1) (by decide +kernel) rfl ?_
          exact ok_ret (v := 0) (by decide +kernel : decode m_L_law.2.1 761 = .ok (.ireturn, 1)) rfl
      · skip
        refine ok_seg (L := [((.aload_n 1), 1)]) (pc' := 763) (ls' := [some (.ref x0), some (.ref x1), some (.ref x2), some (.ref x3), some (.int x4), y5, y6, y7]) (st' := [.ref x1]) (w' := w) (by decide +kernel) rfl ?_
        refine ok_call0 (inj' := am_ji) (by decide +kernel : decode m_L_law.2.1 763 = .ok ((.invokevirtual 106), 3)) rfl (fun q hq => am_iv0 (am_self_eq hq).1 rfl rfl rfl) (o_C_fill (d + 9) (x1) w) (fun _ _ => rfl) (fun r205 h206 => ?_)
        refine ok_seg (L := [((.aload_n 2), 1)]) (pc' := 767) (ls' := [some (.ref x0), some (.ref x1), some (.ref x2), some (.ref x3), some (.int x4), y5, y6, y7]) (st' := [.ref x2, .int r205.2]) (w' := r205.1) (by decide +kernel) rfl ?_
        refine ok_call0 (inj' := am_ji) (by decide +kernel : decode m_L_law.2.1 767 = .ok ((.invokevirtual 109), 3)) rfl (fun q hq => am_iv0 (am_self_eq hq).1 rfl rfl rfl) (o_M_fill (d + 10) (x2) r205.1) (fun _ _ => rfl) (fun r207 h208 => ?_)
        refine ok_br (P := r205.2 = r207.2) (off := 305) (t := 1075) (by decide +kernel : decode m_L_law.2.1 770 = .ok ((.if_icmp .eq 305), 3)) rfl rfl rfl rfl (fun c209 => ?_) (fun c209 => ?_)
        · skip
          exact o_L_law_p1075 ih x0 x1 x2 x3 x4 y5 y6 y7 r207.1
        · skip
          refine ok_seg (L := [((.iconst 0), 1)]) (pc' := 774) (ls' := [some (.ref x0), some (.ref x1), some (.ref x2), some (.ref x3), some (.int x4), y5, y6, y7]) (st' := [.int 0]) (w' := r207.1) (by decide +kernel) rfl ?_
          exact ok_ret (v := 0) (by decide +kernel : decode m_L_law.2.1 774 = .ok (.ireturn, 1)) rfl
      · skip
        refine ok_seg (L := [((.aload_n 1), 1)]) (pc' := 776) (ls' := [some (.ref x0), some (.ref x1), some (.ref x2), some (.ref x3), some (.int x4), y5, y6, y7]) (st' := [.ref x1]) (w' := w) (by decide +kernel) rfl ?_
        refine ok_call0 (inj' := am_ji) (by decide +kernel : decode m_L_law.2.1 776 = .ok ((.invokevirtual 110), 3)) rfl (fun q hq => am_iv0 (am_self_eq hq).1 rfl rfl rfl) (o_C_likes (d + 11) (x1) w) (fun _ _ => rfl) (fun r210 h211 => ?_)
        refine ok_seg (L := [((.aload_n 2), 1)]) (pc' := 780) (ls' := [some (.ref x0), some (.ref x1), some (.ref x2), some (.ref x3), some (.int x4), y5, y6, y7]) (st' := [.ref x2, .int r210.2]) (w' := r210.1) (by decide +kernel) rfl ?_
        refine ok_call0 (inj' := am_ji) (by decide +kernel : decode m_L_law.2.1 780 = .ok ((.invokevirtual 113), 3)) rfl (fun q hq => am_iv0 (am_self_eq hq).1 rfl rfl rfl) (o_M_likes (d + 0) (x2) r210.1) (fun _ _ => rfl) (fun r212 h213 => ?_)
        refine ok_br (P := r210.2 = r212.2) (off := 292) (t := 1075) (by decide +kernel : decode m_L_law.2.1 783 = .ok ((.if_icmp .eq 292), 3)) rfl rfl rfl rfl (fun c214 => ?_) (fun c214 => ?_)
        · skip
          exact o_L_law_p1075 ih x0 x1 x2 x3 x4 y5 y6 y7 r212.1
        · skip
          refine ok_seg (L := [((.iconst 0), 1)]) (pc' := 787) (ls' := [some (.ref x0), some (.ref x1), some (.ref x2), some (.ref x3), some (.int x4), y5, y6, y7]) (st' := [.int 0]) (w' := r212.1) (by decide +kernel) rfl ?_
          exact ok_ret (v := 0) (by decide +kernel : decode m_L_law.2.1 787 = .ok (.ireturn, 1)) rfl
      · skip
        refine ok_seg (L := [((.aload_n 1), 1)]) (pc' := 789) (ls' := [some (.ref x0), some (.ref x1), some (.ref x2), some (.ref x3), some (.int x4), y5, y6, y7]) (st' := [.ref x1]) (w' := w) (by decide +kernel) rfl ?_
        refine ok_call0 (inj' := am_ji) (by decide +kernel : decode m_L_law.2.1 789 = .ok ((.invokevirtual 114), 3)) rfl (fun q hq => am_iv0 (am_self_eq hq).1 rfl rfl rfl) (o_C_lay (d + 11) (x1) w) (fun _ _ => rfl) (fun r215 h216 => ?_)
        refine ok_seg (L := [((.aload_n 2), 1)]) (pc' := 793) (ls' := [some (.ref x0), some (.ref x1), some (.ref x2), some (.ref x3), some (.int x4), y5, y6, y7]) (st' := [.ref x2, .int r215.2]) (w' := r215.1) (by decide +kernel) rfl ?_
        refine ok_call0 (inj' := am_ji) (by decide +kernel : decode m_L_law.2.1 793 = .ok ((.invokevirtual 117), 3)) rfl (fun q hq => am_iv0 (am_self_eq hq).1 rfl rfl rfl) (o_M_lay_1 (d + 12) (x2) r215.1) (fun _ _ => rfl) (fun r217 h218 => ?_)
        refine ok_br (P := r215.2 = r217.2) (off := 279) (t := 1075) (by decide +kernel : decode m_L_law.2.1 796 = .ok ((.if_icmp .eq 279), 3)) rfl rfl rfl rfl (fun c219 => ?_) (fun c219 => ?_)
        · skip
          exact o_L_law_p1075 ih x0 x1 x2 x3 x4 y5 y6 y7 r217.1
        · skip
          refine ok_seg (L := [((.iconst 0), 1)]) (pc' := 800) (ls' := [some (.ref x0), some (.ref x1), some (.ref x2), some (.ref x3), some (.int x4), y5, y6, y7]) (st' := [.int 0]) (w' := r217.1) (by decide +kernel) rfl ?_
          exact ok_ret (v := 0) (by decide +kernel : decode m_L_law.2.1 800 = .ok (.ireturn, 1)) rfl
      · skip
        refine ok_seg (L := [((.aload_n 1), 1)]) (pc' := 802) (ls' := [some (.ref x0), some (.ref x1), some (.ref x2), some (.ref x3), some (.int x4), y5, y6, y7]) (st' := [.ref x1]) (w' := w) (by decide +kernel) rfl ?_
        refine ok_call0 (inj' := am_ji) (by decide +kernel : decode m_L_law.2.1 802 = .ok ((.invokevirtual 118), 3)) rfl (fun q hq => am_iv0 (am_self_eq hq).1 rfl rfl rfl) (o_C_apart (d + 13) (x1) w) (fun _ _ => rfl) (fun r220 h221 => ?_)
        refine ok_seg (L := [((.aload_n 2), 1)]) (pc' := 806) (ls' := [some (.ref x0), some (.ref x1), some (.ref x2), some (.ref x3), some (.int x4), y5, y6, y7]) (st' := [.ref x2, .int r220.2]) (w' := r220.1) (by decide +kernel) rfl ?_
        refine ok_call0 (inj' := am_ji) (by decide +kernel : decode m_L_law.2.1 806 = .ok ((.invokevirtual 121), 3)) rfl (fun q hq => am_iv0 (am_self_eq hq).1 rfl rfl rfl) (o_M_apart (d + 14) (x2) r220.1) (fun _ _ => rfl) (fun r222 h223 => ?_)
        refine ok_br (P := r220.2 = r222.2) (off := 266) (t := 1075) (by decide +kernel : decode m_L_law.2.1 809 = .ok ((.if_icmp .eq 266), 3)) rfl rfl rfl rfl (fun c224 => ?_) (fun c224 => ?_)
        · skip
          exact o_L_law_p1075 ih x0 x1 x2 x3 x4 y5 y6 y7 r222.1
        · skip
          refine ok_seg (L := [((.iconst 0), 1)]) (pc' := 813) (ls' := [some (.ref x0), some (.ref x1), some (.ref x2), some (.ref x3), some (.int x4), y5, y6, y7]) (st' := [.int 0]) (w' := r222.1) (by decide +kernel) rfl ?_
          exact ok_ret (v := 0) (by decide +kernel : decode m_L_law.2.1 813 = .ok (.ireturn, 1)) rfl
      · skip
        refine ok_seg (L := [((.aload_n 1), 1), ((.aload_n 0), 1), ((.iload 4), 2), ((.iconst 1), 1), (.iadd, 1)]) (pc' := 820) (ls' := [some (.ref x0), some (.ref x1), some (.ref x2), some (.ref x3), some (.int x4), y5, y6, y7]) (st' := [.int (x4 + 1), .ref x0, .ref x1]) (w' := w) (by decide +kernel) rfl ?_
        refine ok_ai (by decide +kernel : decode m_L_law.2.1 820 = .ok (.iaload, 1)) (fun v225 h226 => ?_)
        refine ok_seg (L := [((.aload_n 0), 1), ((.iload 4), 2), ((.iconst 2), 1), (.iadd, 1)]) (pc' := 826) (ls' := [some (.ref x0), some (.ref x1), some (.ref x2), some (.ref x3), some (.int x4), y5, y6, y7]) (st' := [.int (x4 + 2), .ref x0, .int v225, .ref x1]) (w' := w) (by decide +kernel) rfl ?_
        refine ok_ai (by decide +kernel : decode m_L_law.2.1 826 = .ok (.iaload, 1)) (fun v227 h228 => ?_)
        refine ok_call0 (inj' := am_ji) (by decide +kernel : decode m_L_law.2.1 827 = .ok ((.invokevirtual 122), 3)) rfl (fun q hq => am_iv0 (am_self_eq hq).1 rfl rfl rfl) (o_C_paint (d + 11) (x1) (v225) (v227) w) (fun _ _ => rfl) (fun r229 h230 => ?_)
        refine ok_seg (L := [((.aload_n 2), 1), ((.aload_n 0), 1), ((.iload 4), 2), ((.iconst 1), 1), (.iadd, 1)]) (pc' := 836) (ls' := [some (.ref x0), some (.ref x1), some (.ref x2), some (.ref x3), some (.int x4), y5, y6, y7]) (st' := [.int (x4 + 1), .ref x0, .ref x2, .int r229.2]) (w' := r229.1) (by decide +kernel) rfl ?_
        refine ok_ai (by decide +kernel : decode m_L_law.2.1 836 = .ok (.iaload, 1)) (fun v231 h232 => ?_)
        refine ok_seg (L := [((.aload_n 0), 1), ((.iload 4), 2), ((.iconst 2), 1), (.iadd, 1)]) (pc' := 842) (ls' := [some (.ref x0), some (.ref x1), some (.ref x2), some (.ref x3), some (.int x4), y5, y6, y7]) (st' := [.int (x4 + 2), .ref x0, .int v231, .ref x2, .int r229.2]) (w' := r229.1) (by decide +kernel) rfl ?_
        refine ok_ai (by decide +kernel : decode m_L_law.2.1 842 = .ok (.iaload, 1)) (fun v233 h234 => ?_)
        refine ok_call0 (inj' := am_ji) (by decide +kernel : decode m_L_law.2.1 843 = .ok ((.invokevirtual 125), 3)) rfl (fun q hq => am_iv0 (am_self_eq hq).1 rfl rfl rfl) (o_M_paint (d + 12) (x2) (v231) (v233) r229.1) (fun _ _ => rfl) (fun r235 h236 => ?_)
        refine ok_br (P := r229.2 = r235.2) (off := 229) (t := 1075) (by decide +kernel : decode m_L_law.2.1 846 = .ok ((.if_icmp .eq 229), 3)) rfl rfl rfl rfl (fun c237 => ?_) (fun c237 => ?_)
        · skip
          exact o_L_law_p1075 ih x0 x1 x2 x3 x4 y5 y6 y7 r235.1
        · skip
          refine ok_seg (L := [((.iconst 0), 1)]) (pc' := 850) (ls' := [some (.ref x0), some (.ref x1), some (.ref x2), some (.ref x3), some (.int x4), y5, y6, y7]) (st' := [.int 0]) (w' := r235.1) (by decide +kernel) rfl ?_
          exact ok_ret (v := 0) (by decide +kernel : decode m_L_law.2.1 850 = .ok (.ireturn, 1)) rfl
      · skip
        refine ok_seg (L := [((.aload_n 1), 1), ((.aload_n 0), 1), ((.iload 4), 2), ((.iconst 1), 1), (.iadd, 1)]) (pc' := 857) (ls' := [some (.ref x0), some (.ref x1), some (.ref x2), some (.ref x3), some (.int x4), y5, y6, y7]) (st' := [.int (x4 + 1), .ref x0, .ref x1]) (w' := w) (by decide +kernel) rfl ?_
        refine ok_ai (by decide +kernel : decode m_L_law.2.1 857 = .ok (.iaload, 1)) (fun v238 h239 => ?_)
        refine ok_seg (L := [((.aload_n 0), 1), ((.iload 4), 2), ((.iconst 2), 1), (.iadd, 1)]) (pc' := 863) (ls' := [some (.ref x0), some (.ref x1), some (.ref x2), some (.ref x3), some (.int x4), y5, y6, y7]) (st' := [.int (x4 + 2), .ref x0, .int v238, .ref x1]) (w' := w) (by decide +kernel) rfl ?_
        refine ok_ai (by decide +kernel : decode m_L_law.2.1 863 = .ok (.iaload, 1)) (fun v240 h241 => ?_)
        refine ok_call0 (inj' := am_ji) (by decide +kernel : decode m_L_law.2.1 864 = .ok ((.invokevirtual 126), 3)) rfl (fun q hq => am_iv0 (am_self_eq hq).1 rfl rfl rfl) (o_C_rows (d + 11) (x1) (v238) (v240) w) (fun _ _ => rfl) (fun r242 h243 => ?_)
        refine ok_seg (L := [((.aload_n 2), 1), ((.aload_n 0), 1), ((.iload 4), 2), ((.iconst 1), 1), (.iadd, 1)]) (pc' := 873) (ls' := [some (.ref x0), some (.ref x1), some (.ref x2), some (.ref x3), some (.int x4), y5, y6, y7]) (st' := [.int (x4 + 1), .ref x0, .ref x2, .int r242.2]) (w' := r242.1) (by decide +kernel) rfl ?_
        refine ok_ai (by decide +kernel : decode m_L_law.2.1 873 = .ok (.iaload, 1)) (fun v244 h245 => ?_)
        refine ok_seg (L := [((.aload_n 0), 1), ((.iload 4), 2), ((.iconst 2), 1), (.iadd, 1)]) (pc' := 879) (ls' := [some (.ref x0), some (.ref x1), some (.ref x2), some (.ref x3), some (.int x4), y5, y6, y7]) (st' := [.int (x4 + 2), .ref x0, .int v244, .ref x2, .int r242.2]) (w' := r242.1) (by decide +kernel) rfl ?_
        refine ok_ai (by decide +kernel : decode m_L_law.2.1 879 = .ok (.iaload, 1)) (fun v246 h247 => ?_)
        refine ok_call0 (inj' := am_ji) (by decide +kernel : decode m_L_law.2.1 880 = .ok ((.invokevirtual 130), 3)) rfl (fun q hq => am_iv0 (am_self_eq hq).1 rfl rfl rfl) (o_M_rows (d + 13) (x2) (v244) (v246) r242.1) (fun _ _ => rfl) (fun r248 h249 => ?_)
        refine ok_br (P := r242.2 = r248.2) (off := 192) (t := 1075) (by decide +kernel : decode m_L_law.2.1 883 = .ok ((.if_icmp .eq 192), 3)) rfl rfl rfl rfl (fun c250 => ?_) (fun c250 => ?_)
        · skip
          exact o_L_law_p1075 ih x0 x1 x2 x3 x4 y5 y6 y7 r248.1
        · skip
          refine ok_seg (L := [((.iconst 0), 1)]) (pc' := 887) (ls' := [some (.ref x0), some (.ref x1), some (.ref x2), some (.ref x3), some (.int x4), y5, y6, y7]) (st' := [.int 0]) (w' := r248.1) (by decide +kernel) rfl ?_
          exact ok_ret (v := 0) (by decide +kernel : decode m_L_law.2.1 887 = .ok (.ireturn, 1)) rfl
      · skip
        refine ok_seg (L := [((.aload_n 1), 1), ((.aload_n 0), 1), ((.iload 4), 2), ((.iconst 1), 1), (.iadd, 1)]) (pc' := 894) (ls' := [some (.ref x0), some (.ref x1), some (.ref x2), some (.ref x3), some (.int x4), y5, y6, y7]) (st' := [.int (x4 + 1), .ref x0, .ref x1]) (w' := w) (by decide +kernel) rfl ?_
        refine ok_ai (by decide +kernel : decode m_L_law.2.1 894 = .ok (.iaload, 1)) (fun v251 h252 => ?_)
        refine ok_seg (L := [((.aload_n 0), 1), ((.iload 4), 2), ((.iconst 2), 1), (.iadd, 1)]) (pc' := 900) (ls' := [some (.ref x0), some (.ref x1), some (.ref x2), some (.ref x3), some (.int x4), y5, y6, y7]) (st' := [.int (x4 + 2), .ref x0, .int v251, .ref x1]) (w' := w) (by decide +kernel) rfl ?_
        refine ok_ai (by decide +kernel : decode m_L_law.2.1 900 = .ok (.iaload, 1)) (fun v253 h254 => ?_)
        refine ok_call0 (inj' := am_ji) (by decide +kernel : decode m_L_law.2.1 901 = .ok ((.invokevirtual 131), 3)) rfl (fun q hq => am_iv0 (am_self_eq hq).1 rfl rfl rfl) (o_C_columns (d + 11) (x1) (v251) (v253) w) (fun _ _ => rfl) (fun r255 h256 => ?_)
        refine ok_seg (L := [((.aload_n 2), 1), ((.aload_n 0), 1), ((.iload 4), 2), ((.iconst 1), 1), (.iadd, 1)]) (pc' := 910) (ls' := [some (.ref x0), some (.ref x1), some (.ref x2), some (.ref x3), some (.int x4), y5, y6, y7]) (st' := [.int (x4 + 1), .ref x0, .ref x2, .int r255.2]) (w' := r255.1) (by decide +kernel) rfl ?_
        refine ok_ai (by decide +kernel : decode m_L_law.2.1 910 = .ok (.iaload, 1)) (fun v257 h258 => ?_)
        refine ok_seg (L := [((.aload_n 0), 1), ((.iload 4), 2), ((.iconst 2), 1), (.iadd, 1)]) (pc' := 916) (ls' := [some (.ref x0), some (.ref x1), some (.ref x2), some (.ref x3), some (.int x4), y5, y6, y7]) (st' := [.int (x4 + 2), .ref x0, .int v257, .ref x2, .int r255.2]) (w' := r255.1) (by decide +kernel) rfl ?_
        refine ok_ai (by decide +kernel : decode m_L_law.2.1 916 = .ok (.iaload, 1)) (fun v259 h260 => ?_)
        refine ok_call0 (inj' := am_ji) (by decide +kernel : decode m_L_law.2.1 917 = .ok ((.invokevirtual 134), 3)) rfl (fun q hq => am_iv0 (am_self_eq hq).1 rfl rfl rfl) (o_M_columns (d + 13) (x2) (v257) (v259) r255.1) (fun _ _ => rfl) (fun r261 h262 => ?_)
        refine ok_br (P := r255.2 = r261.2) (off := 155) (t := 1075) (by decide +kernel : decode m_L_law.2.1 920 = .ok ((.if_icmp .eq 155), 3)) rfl rfl rfl rfl (fun c263 => ?_) (fun c263 => ?_)
        · skip
          exact o_L_law_p1075 ih x0 x1 x2 x3 x4 y5 y6 y7 r261.1
        · skip
          refine ok_seg (L := [((.iconst 0), 1)]) (pc' := 924) (ls' := [some (.ref x0), some (.ref x1), some (.ref x2), some (.ref x3), some (.int x4), y5, y6, y7]) (st' := [.int 0]) (w' := r261.1) (by decide +kernel) rfl ?_
          exact ok_ret (v := 0) (by decide +kernel : decode m_L_law.2.1 924 = .ok (.ireturn, 1)) rfl
      · skip
        refine ok_seg (L := [((.aload_n 1), 1), ((.aload_n 0), 1), ((.iload 4), 2), ((.iconst 1), 1), (.iadd, 1)]) (pc' := 931) (ls' := [some (.ref x0), some (.ref x1), some (.ref x2), some (.ref x3), some (.int x4), y5, y6, y7]) (st' := [.int (x4 + 1), .ref x0, .ref x1]) (w' := w) (by decide +kernel) rfl ?_
        refine ok_ai (by decide +kernel : decode m_L_law.2.1 931 = .ok (.iaload, 1)) (fun v264 h265 => ?_)
        refine ok_seg (L := [((.aload_n 0), 1), ((.iload 4), 2), ((.iconst 2), 1), (.iadd, 1)]) (pc' := 937) (ls' := [some (.ref x0), some (.ref x1), some (.ref x2), some (.ref x3), some (.int x4), y5, y6, y7]) (st' := [.int (x4 + 2), .ref x0, .int v264, .ref x1]) (w' := w) (by decide +kernel) rfl ?_
        refine ok_ai (by decide +kernel : decode m_L_law.2.1 937 = .ok (.iaload, 1)) (fun v266 h267 => ?_)
        refine ok_call0 (inj' := am_ji) (by decide +kernel : decode m_L_law.2.1 938 = .ok ((.invokevirtual 135), 3)) rfl (fun q hq => am_iv0 (am_self_eq hq).1 rfl rfl rfl) (o_C_name (d + 11) (x1) (v264) (v266) w) (fun _ _ => rfl) (fun r268 h269 => ?_)
        refine ok_seg (L := [((.aload_n 2), 1), ((.aload_n 0), 1), ((.iload 4), 2), ((.iconst 1), 1), (.iadd, 1)]) (pc' := 947) (ls' := [some (.ref x0), some (.ref x1), some (.ref x2), some (.ref x3), some (.int x4), y5, y6, y7]) (st' := [.int (x4 + 1), .ref x0, .ref x2, .int r268.2]) (w' := r268.1) (by decide +kernel) rfl ?_
        refine ok_ai (by decide +kernel : decode m_L_law.2.1 947 = .ok (.iaload, 1)) (fun v270 h271 => ?_)
        refine ok_seg (L := [((.aload_n 0), 1), ((.iload 4), 2), ((.iconst 2), 1), (.iadd, 1)]) (pc' := 953) (ls' := [some (.ref x0), some (.ref x1), some (.ref x2), some (.ref x3), some (.int x4), y5, y6, y7]) (st' := [.int (x4 + 2), .ref x0, .int v270, .ref x2, .int r268.2]) (w' := r268.1) (by decide +kernel) rfl ?_
        refine ok_ai (by decide +kernel : decode m_L_law.2.1 953 = .ok (.iaload, 1)) (fun v272 h273 => ?_)
        refine ok_call0 (inj' := am_ji) (by decide +kernel : decode m_L_law.2.1 954 = .ok ((.invokevirtual 138), 3)) rfl (fun q hq => am_iv0 (am_self_eq hq).1 rfl rfl rfl) (o_M_name (d + 13) (x2) (v270) (v272) r268.1) (fun _ _ => rfl) (fun r274 h275 => ?_)
        refine ok_br (P := r268.2 = r274.2) (off := 118) (t := 1075) (by decide +kernel : decode m_L_law.2.1 957 = .ok ((.if_icmp .eq 118), 3)) rfl rfl rfl rfl (fun c276 => ?_) (fun c276 => ?_)
        · skip
          exact o_L_law_p1075 ih x0 x1 x2 x3 x4 y5 y6 y7 r274.1
        · skip
          refine ok_seg (L := [((.iconst 0), 1)]) (pc' := 961) (ls' := [some (.ref x0), some (.ref x1), some (.ref x2), some (.ref x3), some (.int x4), y5, y6, y7]) (st' := [.int 0]) (w' := r274.1) (by decide +kernel) rfl ?_
          exact ok_ret (v := 0) (by decide +kernel : decode m_L_law.2.1 961 = .ok (.ireturn, 1)) rfl
      · skip
        refine ok_seg (L := [((.aload_n 1), 1)]) (pc' := 963) (ls' := [some (.ref x0), some (.ref x1), some (.ref x2), some (.ref x3), some (.int x4), y5, y6, y7]) (st' := [.ref x1]) (w' := w) (by decide +kernel) rfl ?_
        refine ok_call0 (inj' := am_ji) (by decide +kernel : decode m_L_law.2.1 963 = .ok ((.invokevirtual 139), 3)) rfl (fun q hq => am_iv0 (am_self_eq hq).1 rfl rfl rfl) (o_C_turn (d + 11) (x1) w) (fun _ _ => rfl) (fun r277 h278 => ?_)
        refine ok_seg (L := [((.aload_n 2), 1)]) (pc' := 967) (ls' := [some (.ref x0), some (.ref x1), some (.ref x2), some (.ref x3), some (.int x4), y5, y6, y7]) (st' := [.ref x2, .int r277.2]) (w' := r277.1) (by decide +kernel) rfl ?_
        refine ok_call0 (inj' := am_ji) (by decide +kernel : decode m_L_law.2.1 967 = .ok ((.invokevirtual 142), 3)) rfl (fun q hq => am_iv0 (am_self_eq hq).1 rfl rfl rfl) (o_M_turn (d + 13) (x2) r277.1) (fun _ _ => rfl) (fun r279 h280 => ?_)
        refine ok_br (P := r277.2 = r279.2) (off := 105) (t := 1075) (by decide +kernel : decode m_L_law.2.1 970 = .ok ((.if_icmp .eq 105), 3)) rfl rfl rfl rfl (fun c281 => ?_) (fun c281 => ?_)
        · skip
          exact o_L_law_p1075 ih x0 x1 x2 x3 x4 y5 y6 y7 r279.1
        · skip
          refine ok_seg (L := [((.iconst 0), 1)]) (pc' := 974) (ls' := [some (.ref x0), some (.ref x1), some (.ref x2), some (.ref x3), some (.int x4), y5, y6, y7]) (st' := [.int 0]) (w' := r279.1) (by decide +kernel) rfl ?_
          exact ok_ret (v := 0) (by decide +kernel : decode m_L_law.2.1 974 = .ok (.ireturn, 1)) rfl
      · skip
        refine ok_seg (L := [((.aload_n 1), 1), ((.aload_n 0), 1), ((.iload 4), 2), ((.iconst 1), 1), (.iadd, 1)]) (pc' := 981) (ls' := [some (.ref x0), some (.ref x1), some (.ref x2), some (.ref x3), some (.int x4), y5, y6, y7]) (st' := [.int (x4 + 1), .ref x0, .ref x1]) (w' := w) (by decide +kernel) rfl ?_
        refine ok_ai (by decide +kernel : decode m_L_law.2.1 981 = .ok (.iaload, 1)) (fun v282 h283 => ?_)
        refine ok_seg (L := [((.aload_n 0), 1), ((.iload 4), 2), ((.iconst 2), 1), (.iadd, 1)]) (pc' := 987) (ls' := [some (.ref x0), some (.ref x1), some (.ref x2), some (.ref x3), some (.int x4), y5, y6, y7]) (st' := [.int (x4 + 2), .ref x0, .int v282, .ref x1]) (w' := w) (by decide +kernel) rfl ?_
        refine ok_ai (by decide +kernel : decode m_L_law.2.1 987 = .ok (.iaload, 1)) (fun v284 h285 => ?_)
        refine ok_call0 (inj' := am_ji) (by decide +kernel : decode m_L_law.2.1 988 = .ok ((.invokevirtual 143), 3)) rfl (fun q hq => am_iv0 (am_self_eq hq).1 rfl rfl rfl) (o_C_drawn (d + 11) (x1) (v282) (v284) w) (fun _ _ => rfl) (fun r286 h287 => ?_)
        refine ok_seg (L := [((.aload_n 2), 1), ((.aload_n 0), 1), ((.iload 4), 2), ((.iconst 1), 1), (.iadd, 1)]) (pc' := 997) (ls' := [some (.ref x0), some (.ref x1), some (.ref x2), some (.ref x3), some (.int x4), y5, y6, y7]) (st' := [.int (x4 + 1), .ref x0, .ref x2, .int r286.2]) (w' := r286.1) (by decide +kernel) rfl ?_
        refine ok_ai (by decide +kernel : decode m_L_law.2.1 997 = .ok (.iaload, 1)) (fun v288 h289 => ?_)
        refine ok_seg (L := [((.aload_n 0), 1), ((.iload 4), 2), ((.iconst 2), 1), (.iadd, 1)]) (pc' := 1003) (ls' := [some (.ref x0), some (.ref x1), some (.ref x2), some (.ref x3), some (.int x4), y5, y6, y7]) (st' := [.int (x4 + 2), .ref x0, .int v288, .ref x2, .int r286.2]) (w' := r286.1) (by decide +kernel) rfl ?_
        refine ok_ai (by decide +kernel : decode m_L_law.2.1 1003 = .ok (.iaload, 1)) (fun v290 h291 => ?_)
        refine ok_call0 (inj' := am_ji) (by decide +kernel : decode m_L_law.2.1 1004 = .ok ((.invokevirtual 146), 3)) rfl (fun q hq => am_iv0 (am_self_eq hq).1 rfl rfl rfl) (o_M_drawn (d + 11) (x2) (v288) (v290) r286.1) (fun _ _ => rfl) (fun r292 h293 => ?_)
        refine ok_br (P := r286.2 = r292.2) (off := 68) (t := 1075) (by decide +kernel : decode m_L_law.2.1 1007 = .ok ((.if_icmp .eq 68), 3)) rfl rfl rfl rfl (fun c294 => ?_) (fun c294 => ?_)
        · skip
          exact o_L_law_p1075 ih x0 x1 x2 x3 x4 y5 y6 y7 r292.1
        · skip
          refine ok_seg (L := [((.iconst 0), 1)]) (pc' := 1011) (ls' := [some (.ref x0), some (.ref x1), some (.ref x2), some (.ref x3), some (.int x4), y5, y6, y7]) (st' := [.int 0]) (w' := r292.1) (by decide +kernel) rfl ?_
          exact ok_ret (v := 0) (by decide +kernel : decode m_L_law.2.1 1011 = .ok (.ireturn, 1)) rfl
      · skip
        refine ok_seg (L := [((.aload_n 1), 1)]) (pc' := 1013) (ls' := [some (.ref x0), some (.ref x1), some (.ref x2), some (.ref x3), some (.int x4), y5, y6, y7]) (st' := [.ref x1]) (w' := w) (by decide +kernel) rfl ?_
        refine ok_call0 (inj' := am_ji) (by decide +kernel : decode m_L_law.2.1 1013 = .ok ((.invokevirtual 147), 3)) rfl (fun q hq => am_iv0 (am_self_eq hq).1 rfl rfl rfl) (o_C_undo (d + 11) (x1) w) (fun _ _ => rfl) (fun r295 h296 => ?_)
        refine ok_seg (L := [((.aload_n 2), 1)]) (pc' := 1017) (ls' := [some (.ref x0), some (.ref x1), some (.ref x2), some (.ref x3), some (.int x4), y5, y6, y7]) (st' := [.ref x2, .int r295.2]) (w' := r295.1) (by decide +kernel) rfl ?_
        refine ok_call0 (inj' := am_ji) (by decide +kernel : decode m_L_law.2.1 1017 = .ok ((.invokevirtual 150), 3)) rfl (fun q hq => am_iv0 (am_self_eq hq).1 rfl rfl rfl) (o_M_undo (d + 14) (x2) r295.1) (fun _ _ => rfl) (fun r297 h298 => ?_)
        refine ok_br (P := r295.2 = r297.2) (off := 55) (t := 1075) (by decide +kernel : decode m_L_law.2.1 1020 = .ok ((.if_icmp .eq 55), 3)) rfl rfl rfl rfl (fun c299 => ?_) (fun c299 => ?_)
        · skip
          exact o_L_law_p1075 ih x0 x1 x2 x3 x4 y5 y6 y7 r297.1
        · skip
          refine ok_seg (L := [((.iconst 0), 1)]) (pc' := 1024) (ls' := [some (.ref x0), some (.ref x1), some (.ref x2), some (.ref x3), some (.int x4), y5, y6, y7]) (st' := [.int 0]) (w' := r297.1) (by decide +kernel) rfl ?_
          exact ok_ret (v := 0) (by decide +kernel : decode m_L_law.2.1 1024 = .ok (.ireturn, 1)) rfl
      · skip
        refine ok_seg (L := [((.aload_n 1), 1), ((.aload_n 0), 1), ((.iload 4), 2), ((.iconst 1), 1), (.iadd, 1)]) (pc' := 1031) (ls' := [some (.ref x0), some (.ref x1), some (.ref x2), some (.ref x3), some (.int x4), y5, y6, y7]) (st' := [.int (x4 + 1), .ref x0, .ref x1]) (w' := w) (by decide +kernel) rfl ?_
        refine ok_ai (by decide +kernel : decode m_L_law.2.1 1031 = .ok (.iaload, 1)) (fun v300 h301 => ?_)
        refine ok_call0 (inj' := am_ji) (by decide +kernel : decode m_L_law.2.1 1032 = .ok ((.invokevirtual 151), 3)) rfl (fun q hq => am_iv0 (am_self_eq hq).1 rfl rfl rfl) (o_C_image (d + 12) (x1) (v300) w) (fun _ _ => rfl) (fun r302 h303 => ?_)
        refine ok_seg (L := [((.aload_n 2), 1), ((.aload_n 0), 1), ((.iload 4), 2), ((.iconst 1), 1), (.iadd, 1)]) (pc' := 1041) (ls' := [some (.ref x0), some (.ref x1), some (.ref x2), some (.ref x3), some (.int x4), y5, y6, y7]) (st' := [.int (x4 + 1), .ref x0, .ref x2, .int r302.2]) (w' := r302.1) (by decide +kernel) rfl ?_
        refine ok_ai (by decide +kernel : decode m_L_law.2.1 1041 = .ok (.iaload, 1)) (fun v304 h305 => ?_)
        refine ok_call0 (inj' := am_ji) (by decide +kernel : decode m_L_law.2.1 1042 = .ok ((.invokevirtual 154), 3)) rfl (fun q hq => am_iv0 (am_self_eq hq).1 rfl rfl rfl) (o_M_image (d + 14) (x2) (v304) r302.1) (fun _ _ => rfl) (fun r306 h307 => ?_)
        refine ok_br (P := r302.2 = r306.2) (off := 30) (t := 1075) (by decide +kernel : decode m_L_law.2.1 1045 = .ok ((.if_icmp .eq 30), 3)) rfl rfl rfl rfl (fun c308 => ?_) (fun c308 => ?_)
        · skip
          exact o_L_law_p1075 ih x0 x1 x2 x3 x4 y5 y6 y7 r306.1
        · skip
          refine ok_seg (L := [((.iconst 0), 1)]) (pc' := 1049) (ls' := [some (.ref x0), some (.ref x1), some (.ref x2), some (.ref x3), some (.int x4), y5, y6, y7]) (st' := [.int 0]) (w' := r306.1) (by decide +kernel) rfl ?_
          exact ok_ret (v := 0) (by decide +kernel : decode m_L_law.2.1 1049 = .ok (.ireturn, 1)) rfl
      · skip
        refine ok_seg (L := [((.aload_n 1), 1), ((.aload_n 0), 1), ((.iload 4), 2), ((.iconst 1), 1), (.iadd, 1)]) (pc' := 1056) (ls' := [some (.ref x0), some (.ref x1), some (.ref x2), some (.ref x3), some (.int x4), y5, y6, y7]) (st' := [.int (x4 + 1), .ref x0, .ref x1]) (w' := w) (by decide +kernel) rfl ?_
        refine ok_ai (by decide +kernel : decode m_L_law.2.1 1056 = .ok (.iaload, 1)) (fun v309 h310 => ?_)
        refine ok_call0 (inj' := am_ji) (by decide +kernel : decode m_L_law.2.1 1057 = .ok ((.invokevirtual 155), 3)) rfl (fun q hq => am_iv0 (am_self_eq hq).1 rfl rfl rfl) (o_C_restore (d + 12) (x1) (v309) w) (fun _ _ => rfl) (fun r311 h312 => ?_)
        refine ok_seg (L := [((.aload_n 2), 1), ((.aload_n 0), 1), ((.iload 4), 2), ((.iconst 1), 1), (.iadd, 1)]) (pc' := 1066) (ls' := [some (.ref x0), some (.ref x1), some (.ref x2), some (.ref x3), some (.int x4), y5, y6, y7]) (st' := [.int (x4 + 1), .ref x0, .ref x2, .int r311.2]) (w' := r311.1) (by decide +kernel) rfl ?_
        refine ok_ai (by decide +kernel : decode m_L_law.2.1 1066 = .ok (.iaload, 1)) (fun v313 h314 => ?_)
        refine ok_call0 (inj' := am_ji) (by decide +kernel : decode m_L_law.2.1 1067 = .ok ((.invokevirtual 158), 3)) rfl (fun q hq => am_iv0 (am_self_eq hq).1 rfl rfl rfl) (o_M_restore (d + 14) (x2) (v313) r311.1) (fun _ _ => rfl) (fun r315 h316 => ?_)
        refine ok_br (P := r311.2 = r315.2) (off := 5) (t := 1075) (by decide +kernel : decode m_L_law.2.1 1070 = .ok ((.if_icmp .eq 5), 3)) rfl rfl rfl rfl (fun c317 => ?_) (fun c317 => ?_)
        · skip
          exact o_L_law_p1075 ih x0 x1 x2 x3 x4 y5 y6 y7 r315.1
        · skip
          refine ok_seg (L := [((.iconst 0), 1)]) (pc' := 1074) (ls' := [some (.ref x0), some (.ref x1), some (.ref x2), some (.ref x3), some (.int x4), y5, y6, y7]) (st' := [.int 0]) (w' := r315.1) (by decide +kernel) rfl ?_
          exact ok_ret (v := 0) (by decide +kernel : decode m_L_law.2.1 1074 = .ok (.ireturn, 1)) rfl
      · skip
        exact o_L_law_p1075 ih x0 x1 x2 x3 x4 y5 y6 y7 w
theorem o_L_law (d : Nat) (x0 : Nat) (w : am_W) : am_Ok am_ji (d + 16) m_L_law 0 (am_en m_L_law [.ref x0]) [] w (f_L_law x0 w) := by
  show am_Ok _ _ _ 0 [some (.ref x0), none, none, none, none, none, none, none] [] w _
  unfold f_L_law
  unfold e_L_law
  refine ok_new (fs := am_d0) (by decide +kernel : decode m_L_law.2.1 0 = .ok ((.new 8), 3)) rfl rfl rfl rfl (fun w318 h319 => ?_)
  refine ok_seg (L := [(.dup, 1)]) (pc' := 4) (ls' := [some (.ref x0), none, none, none, none, none, none, none]) (st' := [.ref w.2.2.length, .ref w.2.2.length]) (w' := w318) (by decide +kernel) rfl ?_
  refine ok_call0 (inj' := am_jv) (by decide +kernel : decode m_L_law.2.1 4 = .ok ((.invokespecial 19), 3)) rfl (fun _ _ => rfl) (o_C_init (d + 12) (w.2.2.length) w318) (fun _ _ => rfl) (fun r320 h321 => ?_)
  refine ok_seg (L := [((.astore_n 1), 1)]) (pc' := 8) (ls' := [some (.ref x0), some (.ref w.2.2.length), none, none, none, none, none, none]) (st' := []) (w' := r320.1) (by decide +kernel) rfl ?_
  refine ok_new (fs := am_d7) (by decide +kernel : decode m_L_law.2.1 8 = .ok ((.new 20), 3)) rfl rfl rfl rfl (fun w322 h323 => ?_)
  refine ok_seg (L := [(.dup, 1)]) (pc' := 12) (ls' := [some (.ref x0), some (.ref w.2.2.length), none, none, none, none, none, none]) (st' := [.ref r320.1.2.2.length, .ref r320.1.2.2.length]) (w' := w322) (by decide +kernel) rfl ?_
  refine ok_call0 (inj' := am_jv) (by decide +kernel : decode m_L_law.2.1 12 = .ok ((.invokespecial 22), 3)) rfl (fun _ _ => rfl) (o_M_init (d + 15) (r320.1.2.2.length) w322) (fun _ _ => rfl) (fun r324 h325 => ?_)
  refine ok_seg (L := [((.astore_n 2), 1), ((.iconst 1), 1)]) (pc' := 17) (ls' := [some (.ref x0), some (.ref w.2.2.length), some (.ref r320.1.2.2.length), none, none, none, none, none]) (st' := [.int 1]) (w' := r324.1) (by decide +kernel) rfl ?_
  refine ok_na (by decide +kernel : decode m_L_law.2.1 17 = .ok ((.newarray .long), 2)) (by decide) (fun w326 h327 => ?_)
  refine ok_seg (L := [((.astore_n 3), 1), ((.iconst 0), 1), ((.istore 4), 2)]) (pc' := 23) (ls' := [some (.ref x0), some (.ref w.2.2.length), some (.ref r320.1.2.2.length), some (.ref r324.1.2.2.length), some (.int 0), none, none, none]) (st' := []) (w' := w326) (by decide +kernel) rfl ?_
  exact o_L_law_p23 am_N x0 w.2.2.length r320.1.2.2.length r324.1.2.2.length 0 none none none w326
