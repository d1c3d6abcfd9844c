/-! LAYER 1, made by wip/whole/gen.py: X4 -/
def X4_startWith (V_t : Nat → Int32) (P1 : Int32) : Option ((Nat → Int32)) := (some ((upd (upd (upd (upd V_t 2 P1) 3 (0 : Int32)) 4 (0 : Int32)) 5 (0 : Int32))))
theorem ok_X4_startWith : xV yX4_startWith cX4_startWith 2 none 1 := ⟨tw_276, tw_274, tw_275, tw_54, by decide +kernel, by decide +kernel, by decide +kernel⟩
set_option maxHeartbeats 4000000 in
set_option maxRecDepth 100000 in
theorem c_X4_startWith (l : Launch) (D : va_G) (cI cB : ClassId) (A_t A_t_knots : Nat) (V_t : Nat → Int32) (P1 : Int32) (r : (Nat → Int32)) (hM : X4_startWith V_t P1 = some r) : xC l D (xT cI cB) yX4_startWith cX4_startWith 2 none { frames := 0, cells := 0, slots := 0, locals := 0 } [.ref A_t, .int P1] [(A_t, oX4 A_t_knots V_t)] none [(A_t, oX4 A_t_knots r)] := by
  refine xC.of (by decide +kernel) (Nat.le_of_ble_eq_true rfl) (fun p e s m below meth c A ls E hP hD hS hl => ?_)
  obtain ⟨hx, hb, hr, hts, hown, hml, hlocks, hA, hK⟩ := id E
  replace hl : lv_has ls 2 [(0, .ref A_t), (1, .int P1)] := hl
  rw [X4_startWith] at hM
  refine lv_aload_n hx hb dX4_startWith_0 rfl (lv_at hl 0 rfl) ?_
  refine lv_iload_n hx hb dX4_startWith_1 rfl (lv_at hl 1 rfl) ?_
  refine px4_2 (wn := [(A_t, oX4 A_t_knots (upd V_t 2 P1))]) E hP hD hS 0 rfl tw_142 dX4_startWith_2 rfl (fun H locs hP hD hS => ?_)
  refine lv_aload_n hx hb dX4_startWith_5 rfl (lv_at hl 0 rfl) ?_
  refine lv_iconst (v := 0) hx hb dX4_startWith_6 (by decide) ?_
  refine px4_3 (wn := [(A_t, oX4 A_t_knots (upd (upd V_t 2 P1) 3 (0 : Int32)))]) E hP hD hS 0 rfl tw_144 dX4_startWith_7 rfl (fun H locs hP hD hS => ?_)
  refine lv_aload_n hx hb dX4_startWith_10 rfl (lv_at hl 0 rfl) ?_
  refine lv_iconst (v := 0) hx hb dX4_startWith_11 (by decide) ?_
  refine px4_4 (wn := [(A_t, oX4 A_t_knots (upd (upd (upd V_t 2 P1) 3 (0 : Int32)) 4 (0 : Int32)))]) E hP hD hS 0 rfl tw_146 dX4_startWith_12 rfl (fun H locs hP hD hS => ?_)
  refine lv_aload_n hx hb dX4_startWith_15 rfl (lv_at hl 0 rfl) ?_
  refine lv_iconst (v := 0) hx hb dX4_startWith_16 (by decide) ?_
  refine px4_5 (wn := [(A_t, oX4 A_t_knots (upd (upd (upd (upd V_t 2 P1) 3 (0 : Int32)) 4 (0 : Int32)) 5 (0 : Int32)))]) E hP hD hS 0 rfl tw_148 dX4_startWith_17 rfl (fun H locs hP hD hS => ?_)
  obtain rfl := Option.some.inj hM
  exact x_vret E hP hD hS dX4_startWith_20
def X4_setWax (V_t : Nat → Int32) (P1 : Int32) (P2 : Int32) : Option ((Nat → Int32)) := (if P2 = 0 then (some ((upd V_t 1 ((V_t 1) &&& (((1 : Int32) <<< (P1 &&& 31)) ^^^ (-1 : Int32)))))) else (some ((upd V_t 1 ((V_t 1) ||| ((1 : Int32) <<< (P1 &&& 31)))))))
theorem ok_X4_setWax : xV yX4_setWax cX4_setWax 3 none 2 := ⟨tw_311, tw_309, tw_310, tw_54, by decide +kernel, by decide +kernel, by decide +kernel⟩
set_option maxHeartbeats 4000000 in
set_option maxRecDepth 100000 in
theorem c_X4_setWax (l : Launch) (D : va_G) (cI cB : ClassId) (A_t A_t_knots : Nat) (V_t : Nat → Int32) (P1 : Int32) (P2 : Int32) (r : (Nat → Int32)) (hM : X4_setWax V_t P1 P2 = some r) : xC l D (xT cI cB) yX4_setWax cX4_setWax 3 none { frames := 0, cells := 0, slots := 0, locals := 0 } [.ref A_t, .int P1, .int P2] [(A_t, oX4 A_t_knots V_t)] none [(A_t, oX4 A_t_knots r)] := by
  refine xC.of (by decide +kernel) (Nat.le_of_ble_eq_true rfl) (fun p e s m below meth c A ls E hP hD hS hl => ?_)
  obtain ⟨hx, hb, hr, hts, hown, hml, hlocks, hA, hK⟩ := id E
  replace hl : lv_has ls 3 [(0, .ref A_t), (1, .int P1), (2, .int P2)] := hl
  rw [X4_setWax] at hM
  refine lv_aload_n hx hb dX4_setWax_0 rfl (lv_at hl 0 rfl) ?_
  refine lv_iload_n hx hb dX4_setWax_1 rfl (lv_at hl 2 rfl) ?_
  refine lv_if_eq (tgt := 16) hx hb dX4_setWax_2 (by decide) (fun c1 => ?_) (fun c1 => ?_)
  · replace hM := og_p c1 hM
    refine lv_aload_n hx hb dX4_setWax_16 rfl (lv_at hl 0 rfl) ?_
    refine gx4_1 (v := (V_t 1)) E hP 0 rfl rfl tw_140 dX4_setWax_17 ?_
    refine lv_iconst (v := 1) hx hb dX4_setWax_20 (by decide) ?_
    refine lv_iload_n hx hb dX4_setWax_21 rfl (lv_at hl 1 rfl) ?_
    refine lv_ishl hx hb dX4_setWax_22 ?_
    refine lv_iconst (v := (-1)) hx hb dX4_setWax_23 (by decide) ?_
    refine lv_ixor hx hb dX4_setWax_24 ?_
    refine lv_iand hx hb dX4_setWax_25 ?_
    refine px4_1 (wn := [(A_t, oX4 A_t_knots (upd V_t 1 ((V_t 1) &&& (((1 : Int32) <<< (P1 &&& 31)) ^^^ (-1 : Int32)))))]) E hP hD hS 0 rfl tw_140 dX4_setWax_26 rfl (fun H locs hP hD hS => ?_)
    obtain rfl := Option.some.inj hM
    exact x_vret E hP hD hS dX4_setWax_29
  · replace hM := og_n c1 hM
    refine lv_aload_n hx hb dX4_setWax_5 rfl (lv_at hl 0 rfl) ?_
    refine gx4_1 (v := (V_t 1)) E hP 0 rfl rfl tw_140 dX4_setWax_6 ?_
    refine lv_iconst (v := 1) hx hb dX4_setWax_9 (by decide) ?_
    refine lv_iload_n hx hb dX4_setWax_10 rfl (lv_at hl 1 rfl) ?_
    refine lv_ishl hx hb dX4_setWax_11 ?_
    refine lv_ior hx hb dX4_setWax_12 ?_
    refine lv_goto (tgt := 26) hx hb dX4_setWax_13 (by decide) ?_
    refine px4_1 (wn := [(A_t, oX4 A_t_knots (upd V_t 1 ((V_t 1) ||| ((1 : Int32) <<< (P1 &&& 31)))))]) E hP hD hS 0 rfl tw_140 dX4_setWax_26 rfl (fun H locs hP hD hS => ?_)
    obtain rfl := Option.some.inj hM
    exact x_vret E hP hD hS dX4_setWax_29
def X4_setKnots (V_t : Nat → Int32) (V_t_knots : Nat → Int32) (P1 : Int32) (P2 : Int32) : Option ((Nat → Int32)) := (if P1 < 0 then (some (V_t_knots)) else (if (5 : Int32) ≤ P1 then (some (V_t_knots)) else (if xin P1 5 then (some ((upd V_t_knots P1.toNatClampNeg P2))) else none)))
theorem ok_X4_setKnots : xV yX4_setKnots cX4_setKnots 3 none 2 := ⟨tw_315, tw_313, tw_314, tw_54, by decide +kernel, by decide +kernel, by decide +kernel⟩
set_option maxHeartbeats 4000000 in
set_option maxRecDepth 100000 in
theorem c_X4_setKnots (l : Launch) (D : va_G) (cI cB : ClassId) (A_t A_t_knots : Nat) (V_t : Nat → Int32) (V_t_knots : Nat → Int32) (P1 : Int32) (P2 : Int32) (r : (Nat → Int32)) (hM : X4_setKnots V_t V_t_knots P1 P2 = some r) : xC l D (xT cI cB) yX4_setKnots cX4_setKnots 3 none { frames := 0, cells := 0, slots := 0, locals := 0 } [.ref A_t, .int P1, .int P2] [(A_t, oX4 A_t_knots V_t), (A_t_knots, .inl (cI, 5, .inl V_t_knots))] none [(A_t, oX4 A_t_knots V_t), (A_t_knots, .inl (cI, 5, .inl r))] := by
  refine xC.of (by decide +kernel) (Nat.le_of_ble_eq_true rfl) (fun p e s m below meth c A ls E hP hD hS hl => ?_)
  obtain ⟨hx, hb, hr, hts, hown, hml, hlocks, hA, hK⟩ := id E
  replace hl : lv_has ls 3 [(0, .ref A_t), (1, .int P1), (2, .int P2)] := hl
  rw [X4_setKnots] at hM
  refine lv_iload_n hx hb dX4_setKnots_0 rfl (lv_at hl 1 rfl) ?_
  refine lv_if_lt (tgt := 16) hx hb dX4_setKnots_1 (by decide) (fun c3 => ?_) (fun c3 => ?_)
  · replace hM := og_p c3 hM
    obtain rfl := Option.some.inj hM
    exact x_vret E hP hD hS dX4_setKnots_16
  · replace hM := og_n c3 hM
    refine lv_iload_n hx hb dX4_setKnots_4 rfl (lv_at hl 1 rfl) ?_
    refine lv_iconst (v := 5) hx hb dX4_setKnots_5 (by decide) ?_
    refine lv_icmp_ge (tgt := 16) hx hb dX4_setKnots_6 (by decide) (fun c2 => ?_) (fun c2 => ?_)
    · replace hM := og_p c2 hM
      obtain rfl := Option.some.inj hM
      exact x_vret E hP hD hS dX4_setKnots_16
    · replace hM := og_n c2 hM
      refine lv_aload_n hx hb dX4_setKnots_9 rfl (lv_at hl 0 rfl) ?_
      refine gx4_0 E hP 0 rfl tw_139 dX4_setKnots_10 ?_
      refine lv_iload_n hx hb dX4_setKnots_13 rfl (lv_at hl 1 rfl) ?_
      refine lv_iload_n hx hb dX4_setKnots_14 rfl (lv_at hl 2 rfl) ?_
      obtain ⟨hi1, hM⟩ := og_g hM
      refine x_iast (wn := [(A_t, oX4 A_t_knots V_t), (A_t_knots, .inl (cI, 5, .inl (upd V_t_knots P1.toNatClampNeg P2)))]) E hi1 hP hD hS 1 rfl dX4_setKnots_15 rfl (fun H locs hP hD hS => ?_)
      obtain rfl := Option.some.inj hM
      exact x_vret E hP hD hS dX4_setKnots_16
def X4_board (V_t : Nat → Int32) (V_t_knots : Nat → Int32) (P1 : Int32) : Option ((Nat → Int32) × (Nat → Int32)) := ((X4_setWax (upd V_t 2 ((V_t 2) ||| ((1 : Int32) <<< (P1 &&& 31)))) P1 (0 : Int32)).bind fun u1 => ((X4_setKnots u1 V_t_knots P1 (0 : Int32)).bind fun u3 => (some (u1, u3))))
theorem ok_X4_board : xV yX4_board cX4_board 2 none 1 := ⟨tw_307, tw_305, tw_306, tw_54, by decide +kernel, by decide +kernel, by decide +kernel⟩
set_option maxHeartbeats 4000000 in
set_option maxRecDepth 100000 in
theorem c_X4_board (l : Launch) (D : va_G) (cI cB : ClassId) (A_t A_t_knots : Nat) (V_t : Nat → Int32) (V_t_knots : Nat → Int32) (P1 : Int32) (r : (Nat → Int32) × (Nat → Int32)) (hM : X4_board V_t V_t_knots P1 = some r) : xC l D (xT cI cB) yX4_board cX4_board 2 none { frames := 1, cells := 0, slots := 0, locals := 22 } [.ref A_t, .int P1] [(A_t, oX4 A_t_knots V_t), (A_t_knots, .inl (cI, 5, .inl V_t_knots))] none [(A_t, oX4 A_t_knots r.1), (A_t_knots, .inl (cI, 5, .inl r.2))] := by
  refine xC.of (by decide +kernel) (Nat.le_of_ble_eq_true rfl) (fun p e s m below meth c A ls E hP hD hS hl => ?_)
  obtain ⟨hx, hb, hr, hts, hown, hml, hlocks, hA, hK⟩ := id E
  replace hl : lv_has ls 2 [(0, .ref A_t), (1, .int P1)] := hl
  rw [X4_board] at hM
  refine lv_aload_n hx hb dX4_board_0 rfl (lv_at hl 0 rfl) ?_
  refine lv_dup hx hb dX4_board_1 rfl ?_
  refine gx4_2 (v := (V_t 2)) E hP 0 rfl rfl tw_142 dX4_board_2 ?_
  refine lv_iconst (v := 1) hx hb dX4_board_5 (by decide) ?_
  refine lv_iload_n hx hb dX4_board_6 rfl (lv_at hl 1 rfl) ?_
  refine lv_ishl hx hb dX4_board_7 ?_
  refine lv_ior hx hb dX4_board_8 ?_
  refine px4_2 (wn := [(A_t, oX4 A_t_knots (upd V_t 2 ((V_t 2) ||| ((1 : Int32) <<< (P1 &&& 31))))), (A_t_knots, .inl (cI, 5, .inl V_t_knots))]) E hP hD hS 0 rfl tw_142 dX4_board_9 rfl (fun H locs hP hD hS => ?_)
  refine lv_aload_n hx hb dX4_board_12 rfl (lv_at hl 0 rfl) ?_
  refine lv_iload_n hx hb dX4_board_13 rfl (lv_at hl 1 rfl) ?_
  refine lv_iconst (v := 0) hx hb dX4_board_14 (by decide) ?_
  obtain ⟨u1, hu2, hM⟩ := og_b hM
  refine x_Vv (n := 2) (q0 := 0) (rest := []) (wn := [(A_t, oX4 A_t_knots u1), (A_t_knots, .inl (cI, 5, .inl V_t_knots))]) E (c_X4_setWax l D cI cB A_t A_t_knots (upd V_t 2 ((V_t 2) ||| ((1 : Int32) <<< (P1 &&& 31)))) P1 (0 : Int32) u1 hu2) ok_X4_setWax tw_308 ⟨rfl, rfl⟩ ⟨Nat.le_of_ble_eq_true rfl, Nat.le_of_ble_eq_true rfl⟩ rfl rfl (Nat.le_of_ble_eq_true rfl) hl dX4_board_15 ⟨Nat.zero_le _, Nat.zero_le _⟩ hP hD hS [0] [1] [(A_t_knots, .inl (cI, 5, .inl V_t_knots))] [A_t, A_t_knots] 2 rfl rfl rfl rfl rfl rfl rfl (by decide +kernel) rfl rfl rfl (fun H locs hP hD hS => ?_)
  refine lv_aload_n hx hb dX4_board_18 rfl (lv_at hl 0 rfl) ?_
  refine lv_iload_n hx hb dX4_board_19 rfl (lv_at hl 1 rfl) ?_
  refine lv_iconst (v := 0) hx hb dX4_board_20 (by decide) ?_
  obtain ⟨u3, hu4, hM⟩ := og_b hM
  refine x_Vv (n := 2) (q0 := 0) (rest := []) (wn := [(A_t, oX4 A_t_knots u1), (A_t_knots, .inl (cI, 5, .inl u3))]) E (c_X4_setKnots l D cI cB A_t A_t_knots u1 V_t_knots P1 (0 : Int32) u3 hu4) ok_X4_setKnots tw_312 ⟨rfl, rfl⟩ ⟨Nat.le_of_ble_eq_true rfl, Nat.le_of_ble_eq_true rfl⟩ rfl rfl (Nat.le_of_ble_eq_true rfl) hl dX4_board_21 ⟨Nat.zero_le _, Nat.zero_le _⟩ hP hD hS [0, 1] [] [] [A_t, A_t_knots] 2 rfl rfl rfl rfl rfl rfl rfl (by decide +kernel) rfl rfl rfl (fun H locs hP hD hS => ?_)
  obtain rfl := Option.some.inj hM
  exact x_vret E hP hD hS dX4_board_24
def X4_isWaxed (V_t : Nat → Int32) (P1 : Int32) : Option (Bool) := (if ((V_t 1) &&& ((1 : Int32) <<< (P1 &&& 31))) = 0 then (some (false)) else (some (true)))
theorem ok_X4_isWaxed : xV yX4_isWaxed cX4_isWaxed 2 (some .boolean) 1 := ⟨tw_339, tw_337, tw_338, tw_54, by decide +kernel, by decide +kernel, by decide +kernel⟩
set_option maxHeartbeats 4000000 in
set_option maxRecDepth 100000 in
theorem c_X4_isWaxed (l : Launch) (D : va_G) (cI cB : ClassId) (A_t A_t_knots : Nat) (V_t : Nat → Int32) (P1 : Int32) (r : Bool) (hM : X4_isWaxed V_t P1 = some r) : xC l D (xT cI cB) yX4_isWaxed cX4_isWaxed 2 (some .boolean) { frames := 0, cells := 0, slots := 0, locals := 0 } [.ref A_t, .int P1] [(A_t, oX4 A_t_knots V_t)] (some (.int (bz r))) [(A_t, oX4 A_t_knots V_t)] := by
  refine xC.of (by decide +kernel) (Nat.le_of_ble_eq_true rfl) (fun p e s m below meth c A ls E hP hD hS hl => ?_)
  obtain ⟨hx, hb, hr, hts, hown, hml, hlocks, hA, hK⟩ := id E
  replace hl : lv_has ls 2 [(0, .ref A_t), (1, .int P1)] := hl
  rw [X4_isWaxed] at hM
  refine lv_aload_n hx hb dX4_isWaxed_0 rfl (lv_at hl 0 rfl) ?_
  refine gx4_1 (v := (V_t 1)) E hP 0 rfl rfl tw_140 dX4_isWaxed_1 ?_
  refine lv_iconst (v := 1) hx hb dX4_isWaxed_4 (by decide) ?_
  refine lv_iload_n hx hb dX4_isWaxed_5 rfl (lv_at hl 1 rfl) ?_
  refine lv_ishl hx hb dX4_isWaxed_6 ?_
  refine lv_iand hx hb dX4_isWaxed_7 ?_
  refine lv_if_eq (tgt := 15) hx hb dX4_isWaxed_8 (by decide) (fun c1 => ?_) (fun c1 => ?_)
  · replace hM := og_p c1 hM
    refine lv_iconst (v := 0) hx hb dX4_isWaxed_15 (by decide) ?_
    obtain rfl := Option.some.inj hM
    exact x_zret (b := false) E hP hD hS dX4_isWaxed_16
  · replace hM := og_n c1 hM
    refine lv_iconst (v := 1) hx hb dX4_isWaxed_11 (by decide) ?_
    refine lv_goto (tgt := 16) hx hb dX4_isWaxed_12 (by decide) ?_
    obtain rfl := Option.some.inj hM
    exact x_zret (b := true) E hP hD hS dX4_isWaxed_16
def X4_knotsOf (V_t : Nat → Int32) (V_t_knots : Nat → Int32) (P1 : Int32) : Option (Int32) := (if P1 < 0 then (some ((0 : Int32))) else (if (5 : Int32) ≤ P1 then (some ((0 : Int32))) else (if xin P1 5 then (some ((V_t_knots P1.toNatClampNeg))) else none)))
theorem ok_X4_knotsOf : xV yX4_knotsOf cX4_knotsOf 2 (some .int) 1 := ⟨tw_346, tw_344, tw_345, tw_54, by decide +kernel, by decide +kernel, by decide +kernel⟩
set_option maxHeartbeats 4000000 in
set_option maxRecDepth 100000 in
theorem c_X4_knotsOf (l : Launch) (D : va_G) (cI cB : ClassId) (A_t A_t_knots : Nat) (V_t : Nat → Int32) (V_t_knots : Nat → Int32) (P1 : Int32) (r : Int32) (hM : X4_knotsOf V_t V_t_knots P1 = some r) : xC l D (xT cI cB) yX4_knotsOf cX4_knotsOf 2 (some .int) { frames := 0, cells := 0, slots := 0, locals := 0 } [.ref A_t, .int P1] [(A_t, oX4 A_t_knots V_t), (A_t_knots, .inl (cI, 5, .inl V_t_knots))] (some (.int r)) [(A_t, oX4 A_t_knots V_t), (A_t_knots, .inl (cI, 5, .inl V_t_knots))] := by
  refine xC.of (by decide +kernel) (Nat.le_of_ble_eq_true rfl) (fun p e s m below meth c A ls E hP hD hS hl => ?_)
  obtain ⟨hx, hb, hr, hts, hown, hml, hlocks, hA, hK⟩ := id E
  replace hl : lv_has ls 2 [(0, .ref A_t), (1, .int P1)] := hl
  rw [X4_knotsOf] at hM
  refine lv_iload_n hx hb dX4_knotsOf_0 rfl (lv_at hl 1 rfl) ?_
  refine lv_if_lt (tgt := 18) hx hb dX4_knotsOf_1 (by decide) (fun c3 => ?_) (fun c3 => ?_)
  · replace hM := og_p c3 hM
    refine lv_iconst (v := 0) hx hb dX4_knotsOf_18 (by decide) ?_
    obtain rfl := Option.some.inj hM
    exact x_iret E hP hD hS dX4_knotsOf_19
  · replace hM := og_n c3 hM
    refine lv_iload_n hx hb dX4_knotsOf_4 rfl (lv_at hl 1 rfl) ?_
    refine lv_iconst (v := 5) hx hb dX4_knotsOf_5 (by decide) ?_
    refine lv_icmp_ge (tgt := 18) hx hb dX4_knotsOf_6 (by decide) (fun c2 => ?_) (fun c2 => ?_)
    · replace hM := og_p c2 hM
      refine lv_iconst (v := 0) hx hb dX4_knotsOf_18 (by decide) ?_
      obtain rfl := Option.some.inj hM
      exact x_iret E hP hD hS dX4_knotsOf_19
    · replace hM := og_n c2 hM
      refine lv_aload_n hx hb dX4_knotsOf_9 rfl (lv_at hl 0 rfl) ?_
      refine gx4_0 E hP 0 rfl tw_139 dX4_knotsOf_10 ?_
      refine lv_iload_n hx hb dX4_knotsOf_13 rfl (lv_at hl 1 rfl) ?_
      obtain ⟨hi1, hM⟩ := og_g hM
      refine x_iald E hi1 hP 1 rfl dX4_knotsOf_14 ?_
      refine lv_goto (tgt := 19) hx hb dX4_knotsOf_15 (by decide) ?_
      obtain rfl := Option.some.inj hM
      exact x_iret E hP hD hS dX4_knotsOf_19
def X4_isAboard (V_t : Nat → Int32) (P1 : Int32) : Option (Bool) := (if ((V_t 2) &&& ((1 : Int32) <<< (P1 &&& 31))) = 0 then (some (false)) else (some (true)))
theorem ok_X4_isAboard : xV yX4_isAboard cX4_isAboard 2 (some .boolean) 1 := ⟨tw_350, tw_348, tw_349, tw_54, by decide +kernel, by decide +kernel, by decide +kernel⟩
set_option maxHeartbeats 4000000 in
set_option maxRecDepth 100000 in
theorem c_X4_isAboard (l : Launch) (D : va_G) (cI cB : ClassId) (A_t A_t_knots : Nat) (V_t : Nat → Int32) (P1 : Int32) (r : Bool) (hM : X4_isAboard V_t P1 = some r) : xC l D (xT cI cB) yX4_isAboard cX4_isAboard 2 (some .boolean) { frames := 0, cells := 0, slots := 0, locals := 0 } [.ref A_t, .int P1] [(A_t, oX4 A_t_knots V_t)] (some (.int (bz r))) [(A_t, oX4 A_t_knots V_t)] := by
  refine xC.of (by decide +kernel) (Nat.le_of_ble_eq_true rfl) (fun p e s m below meth c A ls E hP hD hS hl => ?_)
  obtain ⟨hx, hb, hr, hts, hown, hml, hlocks, hA, hK⟩ := id E
  replace hl : lv_has ls 2 [(0, .ref A_t), (1, .int P1)] := hl
  rw [X4_isAboard] at hM
  refine lv_aload_n hx hb dX4_isAboard_0 rfl (lv_at hl 0 rfl) ?_
  refine gx4_2 (v := (V_t 2)) E hP 0 rfl rfl tw_142 dX4_isAboard_1 ?_
  refine lv_iconst (v := 1) hx hb dX4_isAboard_4 (by decide) ?_
  refine lv_iload_n hx hb dX4_isAboard_5 rfl (lv_at hl 1 rfl) ?_
  refine lv_ishl hx hb dX4_isAboard_6 ?_
  refine lv_iand hx hb dX4_isAboard_7 ?_
  refine lv_if_eq (tgt := 15) hx hb dX4_isAboard_8 (by decide) (fun c1 => ?_) (fun c1 => ?_)
  · replace hM := og_p c1 hM
    refine lv_iconst (v := 0) hx hb dX4_isAboard_15 (by decide) ?_
    obtain rfl := Option.some.inj hM
    exact x_zret (b := false) E hP hD hS dX4_isAboard_16
  · replace hM := og_n c1 hM
    refine lv_iconst (v := 1) hx hb dX4_isAboard_11 (by decide) ?_
    refine lv_goto (tgt := 16) hx hb dX4_isAboard_12 (by decide) ?_
    obtain rfl := Option.some.inj hM
    exact x_zret (b := true) E hP hD hS dX4_isAboard_16
def X4_isHearing (V_t : Nat → Int32) (V_p2 : Nat → Int32) (V_p3 : Nat → Int32) (V_p3_kinds : Nat → Int32) (P1 : Int32) : Option (Bool) := ((X0_kindOf V_p3 V_p3_kinds P1).bind fun u1 => (if u1 = (1 : Int32) then (some (false)) else ((X4_isWaxed V_t P1).bind fun u3 => (if (bz u3) = 0 then (some (true)) else (if (V_t 4) < (V_p2 3) then (some (false)) else (some (true)))))))
theorem ok_X4_isHearing : xV yX4_isHearing cX4_isHearing 4 (some .boolean) 3 := ⟨tw_354, tw_352, tw_353, tw_54, by decide +kernel, by decide +kernel, by decide +kernel⟩
set_option maxHeartbeats 4000000 in
set_option maxRecDepth 100000 in
theorem c_X4_isHearing (l : Launch) (D : va_G) (cI cB : ClassId) (A_t A_t_knots A_p2 A_p2_songs A_p2_rocks A_p3 A_p3_kinds A_p3_oars A_p3_wills : Nat) (V_t : Nat → Int32) (V_p2 : Nat → Int32) (V_p3 : Nat → Int32) (V_p3_kinds : Nat → Int32) (P1 : Int32) (r : Bool) (hM : X4_isHearing V_t V_p2 V_p3 V_p3_kinds P1 = some r) : xC l D (xT cI cB) yX4_isHearing cX4_isHearing 4 (some .boolean) { frames := 1, cells := 0, slots := 0, locals := 21 } [.ref A_t, .int P1, .ref A_p2, .ref A_p3] [(A_t, oX4 A_t_knots V_t), (A_p2, oX3 A_p2_songs A_p2_rocks V_p2), (A_p3, oX0 A_p3_kinds A_p3_oars A_p3_wills V_p3), (A_p3_kinds, .inl (cI, 5, .inl V_p3_kinds))] (some (.int (bz r))) [(A_t, oX4 A_t_knots V_t), (A_p2, oX3 A_p2_songs A_p2_rocks V_p2), (A_p3, oX0 A_p3_kinds A_p3_oars A_p3_wills V_p3), (A_p3_kinds, .inl (cI, 5, .inl V_p3_kinds))] := by
  refine xC.of (by decide +kernel) (Nat.le_of_ble_eq_true rfl) (fun p e s m below meth c A ls E hP hD hS hl => ?_)
  obtain ⟨hx, hb, hr, hts, hown, hml, hlocks, hA, hK⟩ := id E
  replace hl : lv_has ls 4 [(0, .ref A_t), (1, .int P1), (2, .ref A_p2), (3, .ref A_p3)] := hl
  rw [X4_isHearing] at hM
  refine lv_aload_n hx hb dX4_isHearing_0 rfl (lv_at hl 3 rfl) ?_
  refine lv_iload_n hx hb dX4_isHearing_1 rfl (lv_at hl 1 rfl) ?_
  obtain ⟨u1, hu2, hM⟩ := og_b hM
  refine x_Vi (n := 1) (q0 := 0) (rest := []) (wn := [(A_t, oX4 A_t_knots V_t), (A_p2, oX3 A_p2_songs A_p2_rocks V_p2), (A_p3, oX0 A_p3_kinds A_p3_oars A_p3_wills V_p3), (A_p3_kinds, .inl (cI, 5, .inl V_p3_kinds))]) E (c_X0_kindOf l D cI cB A_p3 A_p3_kinds A_p3_oars A_p3_wills V_p3 V_p3_kinds P1 u1 hu2) ok_X0_kindOf tw_355 ⟨rfl, rfl⟩ ⟨Nat.le_of_ble_eq_true rfl, Nat.le_of_ble_eq_true rfl⟩ rfl rfl (Nat.le_of_ble_eq_true rfl) hl dX4_isHearing_2 ⟨Nat.zero_le _, Nat.zero_le _⟩ hP hD hS [2, 3] [0, 1] [(A_t, oX4 A_t_knots V_t), (A_p2, oX3 A_p2_songs A_p2_rocks V_p2)] [A_t, A_p2, A_p3, A_p3_kinds] 4 rfl rfl rfl rfl rfl rfl rfl (by decide +kernel) rfl rfl rfl (fun H locs hP hD hS => ?_)
  refine lv_iconst (v := 1) hx hb dX4_isHearing_5 (by decide) ?_
  refine lv_icmp_eq (tgt := 32) hx hb dX4_isHearing_6 (by decide) (fun c7 => ?_) (fun c7 => ?_)
  · replace hM := og_p c7 hM
    refine lv_iconst (v := 0) hx hb dX4_isHearing_32 (by decide) ?_
    obtain rfl := Option.some.inj hM
    exact x_zret (b := false) E hP hD hS dX4_isHearing_33
  · replace hM := og_n c7 hM
    refine lv_aload_n hx hb dX4_isHearing_9 rfl (lv_at hl 0 rfl) ?_
    refine lv_iload_n hx hb dX4_isHearing_10 rfl (lv_at hl 1 rfl) ?_
    obtain ⟨u3, hu4, hM⟩ := og_b hM
    refine x_Vi (n := 1) (q0 := 0) (rest := []) (wn := [(A_t, oX4 A_t_knots V_t), (A_p2, oX3 A_p2_songs A_p2_rocks V_p2), (A_p3, oX0 A_p3_kinds A_p3_oars A_p3_wills V_p3), (A_p3_kinds, .inl (cI, 5, .inl V_p3_kinds))]) E (c_X4_isWaxed l D cI cB A_t A_t_knots V_t P1 u3 hu4) ok_X4_isWaxed tw_356 ⟨rfl, rfl⟩ ⟨Nat.le_of_ble_eq_true rfl, Nat.le_of_ble_eq_true rfl⟩ rfl rfl (Nat.le_of_ble_eq_true rfl) hl dX4_isHearing_11 ⟨Nat.zero_le _, Nat.zero_le _⟩ hP hD hS [0] [1, 2, 3] [(A_p2, oX3 A_p2_songs A_p2_rocks V_p2), (A_p3, oX0 A_p3_kinds A_p3_oars A_p3_wills V_p3), (A_p3_kinds, .inl (cI, 5, .inl V_p3_kinds))] [A_t, A_p2, A_p3, A_p3_kinds] 4 rfl rfl rfl rfl rfl rfl rfl (by decide +kernel) rfl rfl rfl (fun H locs hP hD hS => ?_)
    refine lv_if_eq (tgt := 28) hx hb dX4_isHearing_14 (by decide) (fun c6 => ?_) (fun c6 => ?_)
    · replace hM := og_p c6 hM
      refine lv_iconst (v := 1) hx hb dX4_isHearing_28 (by decide) ?_
      refine lv_goto (tgt := 33) hx hb dX4_isHearing_29 (by decide) ?_
      obtain rfl := Option.some.inj hM
      exact x_zret (b := true) E hP hD hS dX4_isHearing_33
    · replace hM := og_n c6 hM
      refine lv_aload_n hx hb dX4_isHearing_17 rfl (lv_at hl 0 rfl) ?_
      refine gx4_4 (v := (V_t 4)) E hP 0 rfl rfl tw_146 dX4_isHearing_18 ?_
      refine lv_aload_n hx hb dX4_isHearing_21 rfl (lv_at hl 2 rfl) ?_
      refine gx3_3 (v := (V_p2 3)) E hP 1 rfl rfl tw_96 dX4_isHearing_22 ?_
      refine lv_icmp_lt (tgt := 32) hx hb dX4_isHearing_25 (by decide) (fun c5 => ?_) (fun c5 => ?_)
      · replace hM := og_p c5 hM
        refine lv_iconst (v := 0) hx hb dX4_isHearing_32 (by decide) ?_
        obtain rfl := Option.some.inj hM
        exact x_zret (b := false) E hP hD hS dX4_isHearing_33
      · replace hM := og_n c5 hM
        refine lv_iconst (v := 1) hx hb dX4_isHearing_28 (by decide) ?_
        refine lv_goto (tgt := 33) hx hb dX4_isHearing_29 (by decide) ?_
        obtain rfl := Option.some.inj hM
        exact x_zret (b := true) E hP hD hS dX4_isHearing_33
def X4_holdOn (V_t : Nat → Int32) (V_t_knots : Nat → Int32) (V_p2 : Nat → Int32) (V_p2_kinds : Nat → Int32) (V_p2_wills : Nat → Int32) (P1 : Int32) : Option (Int32) := ((X0_kindOf V_p2 V_p2_kinds P1).bind fun u1 => (if u1 = (4 : Int32) then ((X0_willOf V_p2 V_p2_wills P1).bind fun u7 => ((X4_knotsOf V_t V_t_knots P1).bind fun u9 => (some ((u7 + ((3 : Int32) * u9)))))) else ((X0_willOf V_p2 V_p2_wills P1).bind fun u3 => ((X4_knotsOf V_t V_t_knots P1).bind fun u5 => (some ((u3 + ((2 : Int32) * u5))))))))
theorem ok_X4_holdOn : xV yX4_holdOn cX4_holdOn 4 (some .int) 2 := ⟨tw_360, tw_358, tw_359, tw_54, by decide +kernel, by decide +kernel, by decide +kernel⟩
set_option maxHeartbeats 4000000 in
set_option maxRecDepth 100000 in
theorem c_X4_holdOn (l : Launch) (D : va_G) (cI cB : ClassId) (A_t A_t_knots A_p2 A_p2_kinds A_p2_oars A_p2_wills : Nat) (V_t : Nat → Int32) (V_t_knots : Nat → Int32) (V_p2 : Nat → Int32) (V_p2_kinds : Nat → Int32) (V_p2_wills : Nat → Int32) (P1 : Int32) (r : Int32) (hM : X4_holdOn V_t V_t_knots V_p2 V_p2_kinds V_p2_wills P1 = some r) : xC l D (xT cI cB) yX4_holdOn cX4_holdOn 4 (some .int) { frames := 1, cells := 0, slots := 0, locals := 21 } [.ref A_t, .int P1, .ref A_p2] [(A_t, oX4 A_t_knots V_t), (A_t_knots, .inl (cI, 5, .inl V_t_knots)), (A_p2, oX0 A_p2_kinds A_p2_oars A_p2_wills V_p2), (A_p2_kinds, .inl (cI, 5, .inl V_p2_kinds)), (A_p2_wills, .inl (cI, 5, .inl V_p2_wills))] (some (.int r)) [(A_t, oX4 A_t_knots V_t), (A_t_knots, .inl (cI, 5, .inl V_t_knots)), (A_p2, oX0 A_p2_kinds A_p2_oars A_p2_wills V_p2), (A_p2_kinds, .inl (cI, 5, .inl V_p2_kinds)), (A_p2_wills, .inl (cI, 5, .inl V_p2_wills))] := by
  refine xC.of (by decide +kernel) (Nat.le_of_ble_eq_true rfl) (fun p e s m below meth c A ls E hP hD hS hl => ?_)
  obtain ⟨hx, hb, hr, hts, hown, hml, hlocks, hA, hK⟩ := id E
  replace hl : lv_has ls 4 [(0, .ref A_t), (1, .int P1), (2, .ref A_p2)] := hl
  rw [X4_holdOn] at hM
  refine lv_aload_n hx hb dX4_holdOn_0 rfl (lv_at hl 2 rfl) ?_
  refine lv_iload_n hx hb dX4_holdOn_1 rfl (lv_at hl 1 rfl) ?_
  obtain ⟨u1, hu2, hM⟩ := og_b hM
  refine x_Vi (n := 1) (q0 := 0) (rest := []) (wn := [(A_t, oX4 A_t_knots V_t), (A_t_knots, .inl (cI, 5, .inl V_t_knots)), (A_p2, oX0 A_p2_kinds A_p2_oars A_p2_wills V_p2), (A_p2_kinds, .inl (cI, 5, .inl V_p2_kinds)), (A_p2_wills, .inl (cI, 5, .inl V_p2_wills))]) E (c_X0_kindOf l D cI cB A_p2 A_p2_kinds A_p2_oars A_p2_wills V_p2 V_p2_kinds P1 u1 hu2) ok_X0_kindOf tw_355 ⟨rfl, rfl⟩ ⟨Nat.le_of_ble_eq_true rfl, Nat.le_of_ble_eq_true rfl⟩ rfl rfl (Nat.le_of_ble_eq_true rfl) hl dX4_holdOn_2 ⟨Nat.zero_le _, Nat.zero_le _⟩ hP hD hS [2, 3] [0, 1, 4] [(A_t, oX4 A_t_knots V_t), (A_t_knots, .inl (cI, 5, .inl V_t_knots)), (A_p2_wills, .inl (cI, 5, .inl V_p2_wills))] [A_t, A_t_knots, A_p2, A_p2_kinds, A_p2_wills] 5 rfl rfl rfl rfl rfl rfl rfl (by decide +kernel) rfl rfl rfl (fun H locs hP hD hS => ?_)
  refine lv_iconst (v := 4) hx hb dX4_holdOn_5 (by decide) ?_
  refine lv_icmp_ne (tgt := 13) hx hb dX4_holdOn_6 (by decide) (fun c11 => ?_) (fun c11 => ?_)
  · replace hM := og_n c11 hM
    refine lv_iconst (v := 2) hx hb dX4_holdOn_13 (by decide) ?_
    refine lv_istore_n (lv' := [(3, .int (2 : Int32)), (0, .ref A_t), (1, .int P1), (2, .ref A_p2)]) hx hb dX4_holdOn_14 rfl hl (by decide) rfl (fun ls hl => ?_)
    refine lv_aload_n hx hb dX4_holdOn_15 rfl (lv_at hl 3 rfl) ?_
    refine lv_iload_n hx hb dX4_holdOn_16 rfl (lv_at hl 2 rfl) ?_
    obtain ⟨u3, hu4, hM⟩ := og_b hM
    refine x_Vi (n := 1) (q0 := 0) (rest := []) (wn := [(A_t, oX4 A_t_knots V_t), (A_t_knots, .inl (cI, 5, .inl V_t_knots)), (A_p2, oX0 A_p2_kinds A_p2_oars A_p2_wills V_p2), (A_p2_kinds, .inl (cI, 5, .inl V_p2_kinds)), (A_p2_wills, .inl (cI, 5, .inl V_p2_wills))]) E (c_X0_willOf l D cI cB A_p2 A_p2_kinds A_p2_oars A_p2_wills V_p2 V_p2_wills P1 u3 hu4) ok_X0_willOf tw_361 ⟨rfl, rfl⟩ ⟨Nat.le_of_ble_eq_true rfl, Nat.le_of_ble_eq_true rfl⟩ rfl rfl (Nat.le_of_ble_eq_true rfl) hl dX4_holdOn_17 ⟨Nat.zero_le _, Nat.zero_le _⟩ hP hD hS [2, 4] [0, 1, 3] [(A_t, oX4 A_t_knots V_t), (A_t_knots, .inl (cI, 5, .inl V_t_knots)), (A_p2_kinds, .inl (cI, 5, .inl V_p2_kinds))] [A_t, A_t_knots, A_p2, A_p2_kinds, A_p2_wills] 5 rfl rfl rfl rfl rfl rfl rfl (by decide +kernel) rfl rfl rfl (fun H locs hP hD hS => ?_)
    refine lv_iload_n hx hb dX4_holdOn_20 rfl (lv_at hl 0 rfl) ?_
    refine lv_aload_n hx hb dX4_holdOn_21 rfl (lv_at hl 1 rfl) ?_
    refine lv_iload_n hx hb dX4_holdOn_22 rfl (lv_at hl 2 rfl) ?_
    obtain ⟨u5, hu6, hM⟩ := og_b hM
    refine x_Vi (n := 1) (q0 := 0) (rest := [.int (2 : Int32), .int u3]) (wn := [(A_t, oX4 A_t_knots V_t), (A_t_knots, .inl (cI, 5, .inl V_t_knots)), (A_p2, oX0 A_p2_kinds A_p2_oars A_p2_wills V_p2), (A_p2_kinds, .inl (cI, 5, .inl V_p2_kinds)), (A_p2_wills, .inl (cI, 5, .inl V_p2_wills))]) E (c_X4_knotsOf l D cI cB A_t A_t_knots V_t V_t_knots P1 u5 hu6) ok_X4_knotsOf tw_362 ⟨rfl, rfl⟩ ⟨Nat.le_of_ble_eq_true rfl, Nat.le_of_ble_eq_true rfl⟩ rfl rfl (Nat.le_of_ble_eq_true rfl) hl dX4_holdOn_23 ⟨Nat.zero_le _, Nat.zero_le _⟩ hP hD hS [0, 1] [2, 3, 4] [(A_p2, oX0 A_p2_kinds A_p2_oars A_p2_wills V_p2), (A_p2_kinds, .inl (cI, 5, .inl V_p2_kinds)), (A_p2_wills, .inl (cI, 5, .inl V_p2_wills))] [A_t, A_t_knots, A_p2, A_p2_kinds, A_p2_wills] 5 rfl rfl rfl rfl rfl rfl rfl (by decide +kernel) rfl rfl rfl (fun H locs hP hD hS => ?_)
    refine lv_imul hx hb dX4_holdOn_26 ?_
    refine lv_iadd hx hb dX4_holdOn_27 ?_
    obtain rfl := Option.some.inj hM
    exact x_iret E hP hD hS dX4_holdOn_28
  · replace hM := og_p c11 hM
    refine lv_iconst (v := 3) hx hb dX4_holdOn_9 (by decide) ?_
    refine lv_goto (tgt := 14) hx hb dX4_holdOn_10 (by decide) ?_
    refine lv_istore_n (lv' := [(3, .int (3 : Int32)), (0, .ref A_t), (1, .int P1), (2, .ref A_p2)]) hx hb dX4_holdOn_14 rfl hl (by decide) rfl (fun ls hl => ?_)
    refine lv_aload_n hx hb dX4_holdOn_15 rfl (lv_at hl 3 rfl) ?_
    refine lv_iload_n hx hb dX4_holdOn_16 rfl (lv_at hl 2 rfl) ?_
    obtain ⟨u7, hu8, hM⟩ := og_b hM
    refine x_Vi (n := 1) (q0 := 0) (rest := []) (wn := [(A_t, oX4 A_t_knots V_t), (A_t_knots, .inl (cI, 5, .inl V_t_knots)), (A_p2, oX0 A_p2_kinds A_p2_oars A_p2_wills V_p2), (A_p2_kinds, .inl (cI, 5, .inl V_p2_kinds)), (A_p2_wills, .inl (cI, 5, .inl V_p2_wills))]) E (c_X0_willOf l D cI cB A_p2 A_p2_kinds A_p2_oars A_p2_wills V_p2 V_p2_wills P1 u7 hu8) ok_X0_willOf tw_361 ⟨rfl, rfl⟩ ⟨Nat.le_of_ble_eq_true rfl, Nat.le_of_ble_eq_true rfl⟩ rfl rfl (Nat.le_of_ble_eq_true rfl) hl dX4_holdOn_17 ⟨Nat.zero_le _, Nat.zero_le _⟩ hP hD hS [2, 4] [0, 1, 3] [(A_t, oX4 A_t_knots V_t), (A_t_knots, .inl (cI, 5, .inl V_t_knots)), (A_p2_kinds, .inl (cI, 5, .inl V_p2_kinds))] [A_t, A_t_knots, A_p2, A_p2_kinds, A_p2_wills] 5 rfl rfl rfl rfl rfl rfl rfl (by decide +kernel) rfl rfl rfl (fun H locs hP hD hS => ?_)
    refine lv_iload_n hx hb dX4_holdOn_20 rfl (lv_at hl 0 rfl) ?_
    refine lv_aload_n hx hb dX4_holdOn_21 rfl (lv_at hl 1 rfl) ?_
    refine lv_iload_n hx hb dX4_holdOn_22 rfl (lv_at hl 2 rfl) ?_
    obtain ⟨u9, hu10, hM⟩ := og_b hM
    refine x_Vi (n := 1) (q0 := 0) (rest := [.int (3 : Int32), .int u7]) (wn := [(A_t, oX4 A_t_knots V_t), (A_t_knots, .inl (cI, 5, .inl V_t_knots)), (A_p2, oX0 A_p2_kinds A_p2_oars A_p2_wills V_p2), (A_p2_kinds, .inl (cI, 5, .inl V_p2_kinds)), (A_p2_wills, .inl (cI, 5, .inl V_p2_wills))]) E (c_X4_knotsOf l D cI cB A_t A_t_knots V_t V_t_knots P1 u9 hu10) ok_X4_knotsOf tw_362 ⟨rfl, rfl⟩ ⟨Nat.le_of_ble_eq_true rfl, Nat.le_of_ble_eq_true rfl⟩ rfl rfl (Nat.le_of_ble_eq_true rfl) hl dX4_holdOn_23 ⟨Nat.zero_le _, Nat.zero_le _⟩ hP hD hS [0, 1] [2, 3, 4] [(A_p2, oX0 A_p2_kinds A_p2_oars A_p2_wills V_p2), (A_p2_kinds, .inl (cI, 5, .inl V_p2_kinds)), (A_p2_wills, .inl (cI, 5, .inl V_p2_wills))] [A_t, A_t_knots, A_p2, A_p2_kinds, A_p2_wills] 5 rfl rfl rfl rfl rfl rfl rfl (by decide +kernel) rfl rfl rfl (fun H locs hP hD hS => ?_)
    refine lv_imul hx hb dX4_holdOn_26 ?_
    refine lv_iadd hx hb dX4_holdOn_27 ?_
    obtain rfl := Option.some.inj hM
    exact x_iret E hP hD hS dX4_holdOn_28
def X4_swimmersAt_15 (n : Nat) (V_t : Nat → Int32) (V_t_knots : Nat → Int32) (V_p1 : Nat → Int32) (V_p1_songs : Nat → Int32) (V_p2 : Nat → Int32) (V_p2_kinds : Nat → Int32) (V_p2_wills : Nat → Int32) : Nat → Int32 → Int32 → Int32 → Option (Int32)
  | 0, _, _, _ => none
  | k + 1, L3, L4, L5 => (if (V_p2 3) ≤ L5 then (some (L4)) else ((X0_kindOf V_p2 V_p2_kinds L5).bind fun u3 => (if u3 = (2 : Int32) then ((X4_isAboard V_t L5).bind fun u14 => (if (bz u14) = 0 then (X4_swimmersAt_15 n V_t V_t_knots V_p1 V_p1_songs V_p2 V_p2_kinds V_p2_wills k L3 L4 (L5 + 1)) else ((X4_isHearing V_t V_p1 V_p2 V_p2_kinds L5).bind fun u16 => (if (bz u16) = 0 then (X4_swimmersAt_15 n V_t V_t_knots V_p1 V_p1_songs V_p2 V_p2_kinds V_p2_wills k L3 L4 (L5 + 1)) else ((X4_holdOn V_t V_t_knots V_p2 V_p2_kinds V_p2_wills L5).bind fun u18 => (if (L3 / (2 : Int32)) ≤ u18 then (X4_swimmersAt_15 n V_t V_t_knots V_p1 V_p1_songs V_p2 V_p2_kinds V_p2_wills k L3 L4 (L5 + 1)) else (X4_swimmersAt_15 n V_t V_t_knots V_p1 V_p1_songs V_p2 V_p2_kinds V_p2_wills k L3 (L4 ||| ((1 : Int32) <<< (L5 &&& 31))) (L5 + 1)))))))) else ((X4_isAboard V_t L5).bind fun u5 => (if (bz u5) = 0 then (X4_swimmersAt_15 n V_t V_t_knots V_p1 V_p1_songs V_p2 V_p2_kinds V_p2_wills k L3 L4 (L5 + 1)) else ((X4_isHearing V_t V_p1 V_p2 V_p2_kinds L5).bind fun u7 => (if (bz u7) = 0 then (X4_swimmersAt_15 n V_t V_t_knots V_p1 V_p1_songs V_p2 V_p2_kinds V_p2_wills k L3 L4 (L5 + 1)) else ((X4_holdOn V_t V_t_knots V_p2 V_p2_kinds V_p2_wills L5).bind fun u9 => (if L3 ≤ u9 then (X4_swimmersAt_15 n V_t V_t_knots V_p1 V_p1_songs V_p2 V_p2_kinds V_p2_wills k L3 L4 (L5 + 1)) else (X4_swimmersAt_15 n V_t V_t_knots V_p1 V_p1_songs V_p2 V_p2_kinds V_p2_wills k L3 (L4 ||| ((1 : Int32) <<< (L5 &&& 31))) (L5 + 1)))))))))))
set_option maxHeartbeats 4000000 in
set_option maxRecDepth 100000 in
theorem lp_X4_swimmersAt_15 (n : Nat) (l : Launch) (D : va_G) (cI cB : ClassId) (A_t A_t_knots A_p1 A_p1_songs A_p1_rocks A_p2 A_p2_kinds A_p2_oars A_p2_wills : Nat) (V_t : Nat → Int32) (V_t_knots : Nat → Int32) (V_p1 : Nat → Int32) (V_p1_songs : Nat → Int32) (V_p2 : Nat → Int32) (V_p2_kinds : Nat → Int32) (V_p2_wills : Nat → Int32) (r : Int32) {p : Program} {e : Env} {s : State} {m : MethodId} {args : Array Value} {below : List Frame} {meth : Method} {c : Code} {A : Nat → Prop} (E : xE p s m args meth c A D (xT cI cB) RX4 cX4_swimmersAt 7 (some .int)) :
    ∀ (k : Nat) (L3 : Int32) (L4 : Int32) (L5 : Int32), X4_swimmersAt_15 n V_t V_t_knots V_p1 V_p1_songs V_p2 V_p2_kinds V_p2_wills k L3 L4 L5 = some r → ∀ (H : Heap) (locs : List Loc) (ls : Array Slot), va_P D vwCl [(A_t, oX4 A_t_knots V_t), (A_t_knots, .inl (cI, 5, .inl V_t_knots)), (A_p1, oX3 A_p1_songs A_p1_rocks V_p1), (A_p1_songs, .inl (cI, 12, .inl V_p1_songs)), (A_p2, oX0 A_p2_kinds A_p2_oars A_p2_wills V_p2), (A_p2_kinds, .inl (cI, 5, .inl V_p2_kinds)), (A_p2_wills, .inl (cI, 5, .inl V_p2_wills))] H → va_D A [(A_t, oX4 A_t_knots V_t), (A_t_knots, .inl (cI, 5, .inl V_t_knots)), (A_p1, oX3 A_p1_songs A_p1_rocks V_p1), (A_p1_songs, .inl (cI, 12, .inl V_p1_songs)), (A_p2, oX0 A_p2_kinds A_p2_oars A_p2_wills V_p2), (A_p2_kinds, .inl (cI, 5, .inl V_p2_kinds)), (A_p2_wills, .inl (cI, 5, .inl V_p2_wills))] → va_S A s.heap H locs → lv_has ls 7 [(0, .ref A_t), (1, .ref A_p1), (2, .ref A_p2), (3, .int L3), (4, .int L4), (5, .int L5)] → W p l e { frames := 2, cells := 0, slots := 0, locals := 44 } s m args below meth c H locs 0 0 (MQ below (xQ D (xT cI cB) [(A_t, oX4 A_t_knots V_t), (A_t_knots, .inl (cI, 5, .inl V_t_knots)), (A_p1, oX3 A_p1_songs A_p1_rocks V_p1), (A_p1_songs, .inl (cI, 12, .inl V_p1_songs)), (A_p2, oX0 A_p2_kinds A_p2_oars A_p2_wills V_p2), (A_p2_kinds, .inl (cI, 5, .inl V_p2_kinds)), (A_p2_wills, .inl (cI, 5, .inl V_p2_wills))] (some (.int r)) A) args s 0 0 A) (F0 m 15 ls []) := by
  obtain ⟨hx, hb, hr, hts, hown, hml, hlocks, hA, hK⟩ := id E
  intro k
  induction k with
  | zero =>
    intro L3 L4 L5 hM
    rw [X4_swimmersAt_15] at hM
    cases hM
  | succ k ih =>
    intro L3 L4 L5 hM H locs ls hP hD hS hl
    rw [X4_swimmersAt_15] at hM
    refine lv_iload hx hb dX4_swimmersAt_15 (lv_at hl 5 rfl) ?_
    refine lv_aload_n hx hb dX4_swimmersAt_17 rfl (lv_at hl 2 rfl) ?_
    refine gx0_3 (v := (V_p2 3)) E hP 4 rfl rfl tw_123 dX4_swimmersAt_18 ?_
    refine lv_icmp_ge (tgt := 90) hx hb dX4_swimmersAt_21 (by decide) (fun c24 => ?_) (fun c24 => ?_)
    · replace hM := og_p c24 hM
      refine lv_iload hx hb dX4_swimmersAt_90 (lv_at hl 4 rfl) ?_
      obtain rfl := Option.some.inj hM
      exact x_iret E hP hD hS dX4_swimmersAt_92
    · replace hM := og_n c24 hM
      refine lv_aload_n hx hb dX4_swimmersAt_24 rfl (lv_at hl 2 rfl) ?_
      refine lv_iload hx hb dX4_swimmersAt_25 (lv_at hl 5 rfl) ?_
      obtain ⟨u3, hu4, hM⟩ := og_b hM
      refine x_Vi (n := 1) (q0 := 0) (rest := []) (wn := [(A_t, oX4 A_t_knots V_t), (A_t_knots, .inl (cI, 5, .inl V_t_knots)), (A_p1, oX3 A_p1_songs A_p1_rocks V_p1), (A_p1_songs, .inl (cI, 12, .inl V_p1_songs)), (A_p2, oX0 A_p2_kinds A_p2_oars A_p2_wills V_p2), (A_p2_kinds, .inl (cI, 5, .inl V_p2_kinds)), (A_p2_wills, .inl (cI, 5, .inl V_p2_wills))]) E (c_X0_kindOf l D cI cB A_p2 A_p2_kinds A_p2_oars A_p2_wills V_p2 V_p2_kinds L5 u3 hu4) ok_X0_kindOf tw_355 ⟨rfl, rfl⟩ ⟨Nat.le_of_ble_eq_true rfl, Nat.le_of_ble_eq_true rfl⟩ rfl rfl (Nat.le_of_ble_eq_true rfl) hl dX4_swimmersAt_27 ⟨Nat.zero_le _, Nat.zero_le _⟩ hP hD hS [4, 5] [0, 1, 2, 3, 6] [(A_t, oX4 A_t_knots V_t), (A_t_knots, .inl (cI, 5, .inl V_t_knots)), (A_p1, oX3 A_p1_songs A_p1_rocks V_p1), (A_p1_songs, .inl (cI, 12, .inl V_p1_songs)), (A_p2_wills, .inl (cI, 5, .inl V_p2_wills))] [A_t, A_t_knots, A_p1, A_p1_songs, A_p2, A_p2_kinds, A_p2_wills] 7 rfl rfl rfl rfl rfl rfl rfl (by decide +kernel) rfl rfl rfl (fun H locs hP hD hS => ?_)
      refine lv_iconst (v := 2) hx hb dX4_swimmersAt_30 (by decide) ?_
      refine lv_icmp_ne (tgt := 40) hx hb dX4_swimmersAt_31 (by decide) (fun c23 => ?_) (fun c23 => ?_)
      · replace hM := og_n c23 hM
        refine lv_iload_n hx hb dX4_swimmersAt_40 rfl (lv_at hl 3 rfl) ?_
        refine lv_istore (lv' := [(6, .int L3), (0, .ref A_t), (1, .ref A_p1), (2, .ref A_p2), (3, .int L3), (4, .int L4), (5, .int L5)]) hx hb dX4_swimmersAt_41 hl (by decide) rfl (fun ls hl => ?_)
        refine lv_aload_n hx hb dX4_swimmersAt_43 rfl (lv_at hl 1 rfl) ?_
        refine lv_iload hx hb dX4_swimmersAt_44 (lv_at hl 6 rfl) ?_
        obtain ⟨u5, hu6, hM⟩ := og_b hM
        refine x_Vi (n := 1) (q0 := 0) (rest := []) (wn := [(A_t, oX4 A_t_knots V_t), (A_t_knots, .inl (cI, 5, .inl V_t_knots)), (A_p1, oX3 A_p1_songs A_p1_rocks V_p1), (A_p1_songs, .inl (cI, 12, .inl V_p1_songs)), (A_p2, oX0 A_p2_kinds A_p2_oars A_p2_wills V_p2), (A_p2_kinds, .inl (cI, 5, .inl V_p2_kinds)), (A_p2_wills, .inl (cI, 5, .inl V_p2_wills))]) E (c_X4_isAboard l D cI cB A_t A_t_knots V_t L5 u5 hu6) ok_X4_isAboard tw_399 ⟨rfl, rfl⟩ ⟨Nat.le_of_ble_eq_true rfl, Nat.le_of_ble_eq_true rfl⟩ rfl rfl (Nat.le_of_ble_eq_true rfl) hl dX4_swimmersAt_46 ⟨Nat.zero_le _, Nat.zero_le _⟩ hP hD hS [0] [1, 2, 3, 4, 5, 6] [(A_t_knots, .inl (cI, 5, .inl V_t_knots)), (A_p1, oX3 A_p1_songs A_p1_rocks V_p1), (A_p1_songs, .inl (cI, 12, .inl V_p1_songs)), (A_p2, oX0 A_p2_kinds A_p2_oars A_p2_wills V_p2), (A_p2_kinds, .inl (cI, 5, .inl V_p2_kinds)), (A_p2_wills, .inl (cI, 5, .inl V_p2_wills))] [A_t, A_t_knots, A_p1, A_p1_songs, A_p2, A_p2_kinds, A_p2_wills] 7 rfl rfl rfl rfl rfl rfl rfl (by decide +kernel) rfl rfl rfl (fun H locs hP hD hS => ?_)
        refine lv_if_eq (tgt := 84) hx hb dX4_swimmersAt_49 (by decide) (fun c13 => ?_) (fun c13 => ?_)
        · replace hM := og_p c13 hM
          refine lv_iinc (v := (L5 + 1)) (lv' := [(5, .int (L5 + 1)), (6, .int L3), (0, .ref A_t), (1, .ref A_p1), (2, .ref A_p2), (3, .int L3), (4, .int L4)]) hx hb dX4_swimmersAt_84 hl (k := 6) rfl rfl (by decide) rfl (fun ls hl => ?_)
          refine lv_goto (tgt := 15) hx hb dX4_swimmersAt_87 (by decide) ?_
          exact ih L3 L4 (L5 + 1) hM _ _ _ hP hD hS (lv_sub hl [2, 3, 4, 5, 6, 0] rfl)
        · replace hM := og_n c13 hM
          refine lv_aload_n hx hb dX4_swimmersAt_52 rfl (lv_at hl 1 rfl) ?_
          refine lv_iload hx hb dX4_swimmersAt_53 (lv_at hl 6 rfl) ?_
          refine lv_aload_n hx hb dX4_swimmersAt_55 rfl (lv_at hl 2 rfl) ?_
          refine lv_aload_n hx hb dX4_swimmersAt_56 rfl (lv_at hl 3 rfl) ?_
          obtain ⟨u7, hu8, hM⟩ := og_b hM
          refine x_Vi (n := 3) (q0 := 0) (rest := []) (wn := [(A_t, oX4 A_t_knots V_t), (A_t_knots, .inl (cI, 5, .inl V_t_knots)), (A_p1, oX3 A_p1_songs A_p1_rocks V_p1), (A_p1_songs, .inl (cI, 12, .inl V_p1_songs)), (A_p2, oX0 A_p2_kinds A_p2_oars A_p2_wills V_p2), (A_p2_kinds, .inl (cI, 5, .inl V_p2_kinds)), (A_p2_wills, .inl (cI, 5, .inl V_p2_wills))]) E (c_X4_isHearing l D cI cB A_t A_t_knots A_p1 A_p1_songs A_p1_rocks A_p2 A_p2_kinds A_p2_oars A_p2_wills V_t V_p1 V_p2 V_p2_kinds L5 u7 hu8) ok_X4_isHearing tw_400 ⟨rfl, rfl⟩ ⟨Nat.le_of_ble_eq_true rfl, Nat.le_of_ble_eq_true rfl⟩ rfl rfl (Nat.le_of_ble_eq_true rfl) hl dX4_swimmersAt_57 ⟨Nat.zero_le _, Nat.zero_le _⟩ hP hD hS [0, 2, 4, 5] [1, 3, 6] [(A_t_knots, .inl (cI, 5, .inl V_t_knots)), (A_p1_songs, .inl (cI, 12, .inl V_p1_songs)), (A_p2_wills, .inl (cI, 5, .inl V_p2_wills))] [A_t, A_t_knots, A_p1, A_p1_songs, A_p2, A_p2_kinds, A_p2_wills] 7 rfl rfl rfl rfl rfl rfl rfl (by decide +kernel) rfl rfl rfl (fun H locs hP hD hS => ?_)
          refine lv_if_eq (tgt := 84) hx hb dX4_swimmersAt_60 (by decide) (fun c12 => ?_) (fun c12 => ?_)
          · replace hM := og_p c12 hM
            refine lv_iinc (v := (L5 + 1)) (lv' := [(5, .int (L5 + 1)), (6, .int L3), (0, .ref A_t), (1, .ref A_p1), (2, .ref A_p2), (3, .int L3), (4, .int L4)]) hx hb dX4_swimmersAt_84 hl (k := 6) rfl rfl (by decide) rfl (fun ls hl => ?_)
            refine lv_goto (tgt := 15) hx hb dX4_swimmersAt_87 (by decide) ?_
            exact ih L3 L4 (L5 + 1) hM _ _ _ hP hD hS (lv_sub hl [2, 3, 4, 5, 6, 0] rfl)
          · replace hM := og_n c12 hM
            refine lv_aload_n hx hb dX4_swimmersAt_63 rfl (lv_at hl 1 rfl) ?_
            refine lv_iload hx hb dX4_swimmersAt_64 (lv_at hl 6 rfl) ?_
            refine lv_aload_n hx hb dX4_swimmersAt_66 rfl (lv_at hl 3 rfl) ?_
            obtain ⟨u9, hu10, hM⟩ := og_b hM
            refine x_Vi (n := 2) (q0 := 0) (rest := []) (wn := [(A_t, oX4 A_t_knots V_t), (A_t_knots, .inl (cI, 5, .inl V_t_knots)), (A_p1, oX3 A_p1_songs A_p1_rocks V_p1), (A_p1_songs, .inl (cI, 12, .inl V_p1_songs)), (A_p2, oX0 A_p2_kinds A_p2_oars A_p2_wills V_p2), (A_p2_kinds, .inl (cI, 5, .inl V_p2_kinds)), (A_p2_wills, .inl (cI, 5, .inl V_p2_wills))]) E (c_X4_holdOn l D cI cB A_t A_t_knots A_p2 A_p2_kinds A_p2_oars A_p2_wills V_t V_t_knots V_p2 V_p2_kinds V_p2_wills L5 u9 hu10) ok_X4_holdOn tw_401 ⟨rfl, rfl⟩ ⟨Nat.le_of_ble_eq_true rfl, Nat.le_of_ble_eq_true rfl⟩ rfl rfl (Nat.le_of_ble_eq_true rfl) hl dX4_swimmersAt_67 ⟨Nat.zero_le _, Nat.zero_le _⟩ hP hD hS [0, 1, 4, 5, 6] [2, 3] [(A_p1, oX3 A_p1_songs A_p1_rocks V_p1), (A_p1_songs, .inl (cI, 12, .inl V_p1_songs))] [A_t, A_t_knots, A_p1, A_p1_songs, A_p2, A_p2_kinds, A_p2_wills] 7 rfl rfl rfl rfl rfl rfl rfl (by decide +kernel) rfl rfl rfl (fun H locs hP hD hS => ?_)
            refine lv_iload hx hb dX4_swimmersAt_70 (lv_at hl 0 rfl) ?_
            refine lv_icmp_ge (tgt := 84) hx hb dX4_swimmersAt_72 (by decide) (fun c11 => ?_) (fun c11 => ?_)
            · replace hM := og_p c11 hM
              refine lv_iinc (v := (L5 + 1)) (lv' := [(5, .int (L5 + 1)), (6, .int L3), (0, .ref A_t), (1, .ref A_p1), (2, .ref A_p2), (3, .int L3), (4, .int L4)]) hx hb dX4_swimmersAt_84 hl (k := 6) rfl rfl (by decide) rfl (fun ls hl => ?_)
              refine lv_goto (tgt := 15) hx hb dX4_swimmersAt_87 (by decide) ?_
              exact ih L3 L4 (L5 + 1) hM _ _ _ hP hD hS (lv_sub hl [2, 3, 4, 5, 6, 0] rfl)
            · replace hM := og_n c11 hM
              refine lv_iload hx hb dX4_swimmersAt_75 (lv_at hl 5 rfl) ?_
              refine lv_iconst (v := 1) hx hb dX4_swimmersAt_77 (by decide) ?_
              refine lv_iload hx hb dX4_swimmersAt_78 (lv_at hl 6 rfl) ?_
              refine lv_ishl hx hb dX4_swimmersAt_80 ?_
              refine lv_ior hx hb dX4_swimmersAt_81 ?_
              refine lv_istore (lv' := [(4, .int (L4 ||| ((1 : Int32) <<< (L5 &&& 31)))), (6, .int L3), (0, .ref A_t), (1, .ref A_p1), (2, .ref A_p2), (3, .int L3), (5, .int L5)]) hx hb dX4_swimmersAt_82 hl (by decide) rfl (fun ls hl => ?_)
              refine lv_iinc (v := (L5 + 1)) (lv' := [(5, .int (L5 + 1)), (4, .int (L4 ||| ((1 : Int32) <<< (L5 &&& 31)))), (6, .int L3), (0, .ref A_t), (1, .ref A_p1), (2, .ref A_p2), (3, .int L3)]) hx hb dX4_swimmersAt_84 hl (k := 6) rfl rfl (by decide) rfl (fun ls hl => ?_)
              refine lv_goto (tgt := 15) hx hb dX4_swimmersAt_87 (by decide) ?_
              exact ih L3 (L4 ||| ((1 : Int32) <<< (L5 &&& 31))) (L5 + 1) hM _ _ _ hP hD hS (lv_sub hl [3, 4, 5, 6, 1, 0] rfl)
      · replace hM := og_p c23 hM
        refine lv_iload_n hx hb dX4_swimmersAt_34 rfl (lv_at hl 3 rfl) ?_
        refine lv_iconst (v := 2) hx hb dX4_swimmersAt_35 (by decide) ?_
        refine lv_idiv hx hb dX4_swimmersAt_36 (by decide) ?_
        refine lv_goto (tgt := 41) hx hb dX4_swimmersAt_37 (by decide) ?_
        refine lv_istore (lv' := [(6, .int (L3 / (2 : Int32))), (0, .ref A_t), (1, .ref A_p1), (2, .ref A_p2), (3, .int L3), (4, .int L4), (5, .int L5)]) hx hb dX4_swimmersAt_41 hl (by decide) rfl (fun ls hl => ?_)
        refine lv_aload_n hx hb dX4_swimmersAt_43 rfl (lv_at hl 1 rfl) ?_
        refine lv_iload hx hb dX4_swimmersAt_44 (lv_at hl 6 rfl) ?_
        obtain ⟨u14, hu15, hM⟩ := og_b hM
        refine x_Vi (n := 1) (q0 := 0) (rest := []) (wn := [(A_t, oX4 A_t_knots V_t), (A_t_knots, .inl (cI, 5, .inl V_t_knots)), (A_p1, oX3 A_p1_songs A_p1_rocks V_p1), (A_p1_songs, .inl (cI, 12, .inl V_p1_songs)), (A_p2, oX0 A_p2_kinds A_p2_oars A_p2_wills V_p2), (A_p2_kinds, .inl (cI, 5, .inl V_p2_kinds)), (A_p2_wills, .inl (cI, 5, .inl V_p2_wills))]) E (c_X4_isAboard l D cI cB A_t A_t_knots V_t L5 u14 hu15) ok_X4_isAboard tw_399 ⟨rfl, rfl⟩ ⟨Nat.le_of_ble_eq_true rfl, Nat.le_of_ble_eq_true rfl⟩ rfl rfl (Nat.le_of_ble_eq_true rfl) hl dX4_swimmersAt_46 ⟨Nat.zero_le _, Nat.zero_le _⟩ hP hD hS [0] [1, 2, 3, 4, 5, 6] [(A_t_knots, .inl (cI, 5, .inl V_t_knots)), (A_p1, oX3 A_p1_songs A_p1_rocks V_p1), (A_p1_songs, .inl (cI, 12, .inl V_p1_songs)), (A_p2, oX0 A_p2_kinds A_p2_oars A_p2_wills V_p2), (A_p2_kinds, .inl (cI, 5, .inl V_p2_kinds)), (A_p2_wills, .inl (cI, 5, .inl V_p2_wills))] [A_t, A_t_knots, A_p1, A_p1_songs, A_p2, A_p2_kinds, A_p2_wills] 7 rfl rfl rfl rfl rfl rfl rfl (by decide +kernel) rfl rfl rfl (fun H locs hP hD hS => ?_)
        refine lv_if_eq (tgt := 84) hx hb dX4_swimmersAt_49 (by decide) (fun c22 => ?_) (fun c22 => ?_)
        · replace hM := og_p c22 hM
          refine lv_iinc (v := (L5 + 1)) (lv' := [(5, .int (L5 + 1)), (6, .int (L3 / (2 : Int32))), (0, .ref A_t), (1, .ref A_p1), (2, .ref A_p2), (3, .int L3), (4, .int L4)]) hx hb dX4_swimmersAt_84 hl (k := 6) rfl rfl (by decide) rfl (fun ls hl => ?_)
          refine lv_goto (tgt := 15) hx hb dX4_swimmersAt_87 (by decide) ?_
          exact ih L3 L4 (L5 + 1) hM _ _ _ hP hD hS (lv_sub hl [2, 3, 4, 5, 6, 0] rfl)
        · replace hM := og_n c22 hM
          refine lv_aload_n hx hb dX4_swimmersAt_52 rfl (lv_at hl 1 rfl) ?_
          refine lv_iload hx hb dX4_swimmersAt_53 (lv_at hl 6 rfl) ?_
          refine lv_aload_n hx hb dX4_swimmersAt_55 rfl (lv_at hl 2 rfl) ?_
          refine lv_aload_n hx hb dX4_swimmersAt_56 rfl (lv_at hl 3 rfl) ?_
          obtain ⟨u16, hu17, hM⟩ := og_b hM
          refine x_Vi (n := 3) (q0 := 0) (rest := []) (wn := [(A_t, oX4 A_t_knots V_t), (A_t_knots, .inl (cI, 5, .inl V_t_knots)), (A_p1, oX3 A_p1_songs A_p1_rocks V_p1), (A_p1_songs, .inl (cI, 12, .inl V_p1_songs)), (A_p2, oX0 A_p2_kinds A_p2_oars A_p2_wills V_p2), (A_p2_kinds, .inl (cI, 5, .inl V_p2_kinds)), (A_p2_wills, .inl (cI, 5, .inl V_p2_wills))]) E (c_X4_isHearing l D cI cB A_t A_t_knots A_p1 A_p1_songs A_p1_rocks A_p2 A_p2_kinds A_p2_oars A_p2_wills V_t V_p1 V_p2 V_p2_kinds L5 u16 hu17) ok_X4_isHearing tw_400 ⟨rfl, rfl⟩ ⟨Nat.le_of_ble_eq_true rfl, Nat.le_of_ble_eq_true rfl⟩ rfl rfl (Nat.le_of_ble_eq_true rfl) hl dX4_swimmersAt_57 ⟨Nat.zero_le _, Nat.zero_le _⟩ hP hD hS [0, 2, 4, 5] [1, 3, 6] [(A_t_knots, .inl (cI, 5, .inl V_t_knots)), (A_p1_songs, .inl (cI, 12, .inl V_p1_songs)), (A_p2_wills, .inl (cI, 5, .inl V_p2_wills))] [A_t, A_t_knots, A_p1, A_p1_songs, A_p2, A_p2_kinds, A_p2_wills] 7 rfl rfl rfl rfl rfl rfl rfl (by decide +kernel) rfl rfl rfl (fun H locs hP hD hS => ?_)
          refine lv_if_eq (tgt := 84) hx hb dX4_swimmersAt_60 (by decide) (fun c21 => ?_) (fun c21 => ?_)
          · replace hM := og_p c21 hM
            refine lv_iinc (v := (L5 + 1)) (lv' := [(5, .int (L5 + 1)), (6, .int (L3 / (2 : Int32))), (0, .ref A_t), (1, .ref A_p1), (2, .ref A_p2), (3, .int L3), (4, .int L4)]) hx hb dX4_swimmersAt_84 hl (k := 6) rfl rfl (by decide) rfl (fun ls hl => ?_)
            refine lv_goto (tgt := 15) hx hb dX4_swimmersAt_87 (by decide) ?_
            exact ih L3 L4 (L5 + 1) hM _ _ _ hP hD hS (lv_sub hl [2, 3, 4, 5, 6, 0] rfl)
          · replace hM := og_n c21 hM
            refine lv_aload_n hx hb dX4_swimmersAt_63 rfl (lv_at hl 1 rfl) ?_
            refine lv_iload hx hb dX4_swimmersAt_64 (lv_at hl 6 rfl) ?_
            refine lv_aload_n hx hb dX4_swimmersAt_66 rfl (lv_at hl 3 rfl) ?_
            obtain ⟨u18, hu19, hM⟩ := og_b hM
            refine x_Vi (n := 2) (q0 := 0) (rest := []) (wn := [(A_t, oX4 A_t_knots V_t), (A_t_knots, .inl (cI, 5, .inl V_t_knots)), (A_p1, oX3 A_p1_songs A_p1_rocks V_p1), (A_p1_songs, .inl (cI, 12, .inl V_p1_songs)), (A_p2, oX0 A_p2_kinds A_p2_oars A_p2_wills V_p2), (A_p2_kinds, .inl (cI, 5, .inl V_p2_kinds)), (A_p2_wills, .inl (cI, 5, .inl V_p2_wills))]) E (c_X4_holdOn l D cI cB A_t A_t_knots A_p2 A_p2_kinds A_p2_oars A_p2_wills V_t V_t_knots V_p2 V_p2_kinds V_p2_wills L5 u18 hu19) ok_X4_holdOn tw_401 ⟨rfl, rfl⟩ ⟨Nat.le_of_ble_eq_true rfl, Nat.le_of_ble_eq_true rfl⟩ rfl rfl (Nat.le_of_ble_eq_true rfl) hl dX4_swimmersAt_67 ⟨Nat.zero_le _, Nat.zero_le _⟩ hP hD hS [0, 1, 4, 5, 6] [2, 3] [(A_p1, oX3 A_p1_songs A_p1_rocks V_p1), (A_p1_songs, .inl (cI, 12, .inl V_p1_songs))] [A_t, A_t_knots, A_p1, A_p1_songs, A_p2, A_p2_kinds, A_p2_wills] 7 rfl rfl rfl rfl rfl rfl rfl (by decide +kernel) rfl rfl rfl (fun H locs hP hD hS => ?_)
            refine lv_iload hx hb dX4_swimmersAt_70 (lv_at hl 0 rfl) ?_
            refine lv_icmp_ge (tgt := 84) hx hb dX4_swimmersAt_72 (by decide) (fun c20 => ?_) (fun c20 => ?_)
            · replace hM := og_p c20 hM
              refine lv_iinc (v := (L5 + 1)) (lv' := [(5, .int (L5 + 1)), (6, .int (L3 / (2 : Int32))), (0, .ref A_t), (1, .ref A_p1), (2, .ref A_p2), (3, .int L3), (4, .int L4)]) hx hb dX4_swimmersAt_84 hl (k := 6) rfl rfl (by decide) rfl (fun ls hl => ?_)
              refine lv_goto (tgt := 15) hx hb dX4_swimmersAt_87 (by decide) ?_
              exact ih L3 L4 (L5 + 1) hM _ _ _ hP hD hS (lv_sub hl [2, 3, 4, 5, 6, 0] rfl)
            · replace hM := og_n c20 hM
              refine lv_iload hx hb dX4_swimmersAt_75 (lv_at hl 5 rfl) ?_
              refine lv_iconst (v := 1) hx hb dX4_swimmersAt_77 (by decide) ?_
              refine lv_iload hx hb dX4_swimmersAt_78 (lv_at hl 6 rfl) ?_
              refine lv_ishl hx hb dX4_swimmersAt_80 ?_
              refine lv_ior hx hb dX4_swimmersAt_81 ?_
              refine lv_istore (lv' := [(4, .int (L4 ||| ((1 : Int32) <<< (L5 &&& 31)))), (6, .int (L3 / (2 : Int32))), (0, .ref A_t), (1, .ref A_p1), (2, .ref A_p2), (3, .int L3), (5, .int L5)]) hx hb dX4_swimmersAt_82 hl (by decide) rfl (fun ls hl => ?_)
              refine lv_iinc (v := (L5 + 1)) (lv' := [(5, .int (L5 + 1)), (4, .int (L4 ||| ((1 : Int32) <<< (L5 &&& 31)))), (6, .int (L3 / (2 : Int32))), (0, .ref A_t), (1, .ref A_p1), (2, .ref A_p2), (3, .int L3)]) hx hb dX4_swimmersAt_84 hl (k := 6) rfl rfl (by decide) rfl (fun ls hl => ?_)
              refine lv_goto (tgt := 15) hx hb dX4_swimmersAt_87 (by decide) ?_
              exact ih L3 (L4 ||| ((1 : Int32) <<< (L5 &&& 31))) (L5 + 1) hM _ _ _ hP hD hS (lv_sub hl [3, 4, 5, 6, 1, 0] rfl)
def X4_swimmersAt (n : Nat) (V_t : Nat → Int32) (V_t_knots : Nat → Int32) (V_p1 : Nat → Int32) (V_p1_songs : Nat → Int32) (V_p2 : Nat → Int32) (V_p2_kinds : Nat → Int32) (V_p2_wills : Nat → Int32) : Option (Int32) := ((X3_songAt V_p1 V_p1_songs (V_t 3)).bind fun u1 => (X4_swimmersAt_15 n V_t V_t_knots V_p1 V_p1_songs V_p2 V_p2_kinds V_p2_wills n u1 (0 : Int32) (0 : Int32)))
theorem ok_X4_swimmersAt : xV yX4_swimmersAt cX4_swimmersAt 7 (some .int) 2 := ⟨tw_397, tw_396, tw_6, tw_54, by decide +kernel, by decide +kernel, by decide +kernel⟩
set_option maxHeartbeats 4000000 in
set_option maxRecDepth 100000 in
theorem c_X4_swimmersAt (n : Nat) (l : Launch) (D : va_G) (cI cB : ClassId) (A_t A_t_knots A_p1 A_p1_songs A_p1_rocks A_p2 A_p2_kinds A_p2_oars A_p2_wills : Nat) (V_t : Nat → Int32) (V_t_knots : Nat → Int32) (V_p1 : Nat → Int32) (V_p1_songs : Nat → Int32) (V_p2 : Nat → Int32) (V_p2_kinds : Nat → Int32) (V_p2_wills : Nat → Int32) (r : Int32) (hM : X4_swimmersAt n V_t V_t_knots V_p1 V_p1_songs V_p2 V_p2_kinds V_p2_wills = some r) : xC l D (xT cI cB) yX4_swimmersAt cX4_swimmersAt 7 (some .int) { frames := 2, cells := 0, slots := 0, locals := 44 } [.ref A_t, .ref A_p1, .ref A_p2] [(A_t, oX4 A_t_knots V_t), (A_t_knots, .inl (cI, 5, .inl V_t_knots)), (A_p1, oX3 A_p1_songs A_p1_rocks V_p1), (A_p1_songs, .inl (cI, 12, .inl V_p1_songs)), (A_p2, oX0 A_p2_kinds A_p2_oars A_p2_wills V_p2), (A_p2_kinds, .inl (cI, 5, .inl V_p2_kinds)), (A_p2_wills, .inl (cI, 5, .inl V_p2_wills))] (some (.int r)) [(A_t, oX4 A_t_knots V_t), (A_t_knots, .inl (cI, 5, .inl V_t_knots)), (A_p1, oX3 A_p1_songs A_p1_rocks V_p1), (A_p1_songs, .inl (cI, 12, .inl V_p1_songs)), (A_p2, oX0 A_p2_kinds A_p2_oars A_p2_wills V_p2), (A_p2_kinds, .inl (cI, 5, .inl V_p2_kinds)), (A_p2_wills, .inl (cI, 5, .inl V_p2_wills))] := by
  refine xC.of (by decide +kernel) (Nat.le_of_ble_eq_true rfl) (fun p e s m below meth c A ls E hP hD hS hl => ?_)
  obtain ⟨hx, hb, hr, hts, hown, hml, hlocks, hA, hK⟩ := id E
  replace hl : lv_has ls 7 [(0, .ref A_t), (1, .ref A_p1), (2, .ref A_p2)] := hl
  rw [X4_swimmersAt] at hM
  refine lv_aload_n hx hb dX4_swimmersAt_0 rfl (lv_at hl 1 rfl) ?_
  refine lv_aload_n hx hb dX4_swimmersAt_1 rfl (lv_at hl 0 rfl) ?_
  refine gx4_3 (v := (V_t 3)) E hP 0 rfl rfl tw_144 dX4_swimmersAt_2 ?_
  obtain ⟨u1, hu2, hM⟩ := og_b hM
  refine x_Vi (n := 1) (q0 := 0) (rest := []) (wn := [(A_t, oX4 A_t_knots V_t), (A_t_knots, .inl (cI, 5, .inl V_t_knots)), (A_p1, oX3 A_p1_songs A_p1_rocks V_p1), (A_p1_songs, .inl (cI, 12, .inl V_p1_songs)), (A_p2, oX0 A_p2_kinds A_p2_oars A_p2_wills V_p2), (A_p2_kinds, .inl (cI, 5, .inl V_p2_kinds)), (A_p2_wills, .inl (cI, 5, .inl V_p2_wills))]) E (c_X3_songAt l D cI cB A_p1 A_p1_songs A_p1_rocks V_p1 V_p1_songs (V_t 3) u1 hu2) ok_X3_songAt tw_398 ⟨rfl, rfl⟩ ⟨Nat.le_of_ble_eq_true rfl, Nat.le_of_ble_eq_true rfl⟩ rfl rfl (Nat.le_of_ble_eq_true rfl) hl dX4_swimmersAt_5 ⟨Nat.zero_le _, Nat.zero_le _⟩ hP hD hS [2, 3] [0, 1, 4, 5, 6] [(A_t, oX4 A_t_knots V_t), (A_t_knots, .inl (cI, 5, .inl V_t_knots)), (A_p2, oX0 A_p2_kinds A_p2_oars A_p2_wills V_p2), (A_p2_kinds, .inl (cI, 5, .inl V_p2_kinds)), (A_p2_wills, .inl (cI, 5, .inl V_p2_wills))] [A_t, A_t_knots, A_p1, A_p1_songs, A_p2, A_p2_kinds, A_p2_wills] 7 rfl rfl rfl rfl rfl rfl rfl (by decide +kernel) rfl rfl rfl (fun H locs hP hD hS => ?_)
  refine lv_istore_n (lv' := [(3, .int u1), (0, .ref A_t), (1, .ref A_p1), (2, .ref A_p2)]) hx hb dX4_swimmersAt_8 rfl hl (by decide) rfl (fun ls hl => ?_)
  refine lv_iconst (v := 0) hx hb dX4_swimmersAt_9 (by decide) ?_
  refine lv_istore (lv' := [(4, .int (0 : Int32)), (3, .int u1), (0, .ref A_t), (1, .ref A_p1), (2, .ref A_p2)]) hx hb dX4_swimmersAt_10 hl (by decide) rfl (fun ls hl => ?_)
  refine lv_iconst (v := 0) hx hb dX4_swimmersAt_12 (by decide) ?_
  refine lv_istore (lv' := [(5, .int (0 : Int32)), (4, .int (0 : Int32)), (3, .int u1), (0, .ref A_t), (1, .ref A_p1), (2, .ref A_p2)]) hx hb dX4_swimmersAt_13 hl (by decide) rfl (fun ls hl => ?_)
  exact lp_X4_swimmersAt_15 n l D cI cB A_t A_t_knots A_p1 A_p1_songs A_p1_rocks A_p2 A_p2_kinds A_p2_oars A_p2_wills V_t V_t_knots V_p1 V_p1_songs V_p2 V_p2_kinds V_p2_wills r E n u1 (0 : Int32) (0 : Int32) hM _ _ _ hP hD hS (lv_sub hl [3, 4, 5, 2, 1, 0] rfl)
def X4_isFree (V_t : Nat → Int32) (V_t_knots : Nat → Int32) (P1 : Int32) : Option (Bool) := ((X4_isAboard V_t P1).bind fun u1 => (if (bz u1) = 0 then (some (false)) else ((X4_knotsOf V_t V_t_knots P1).bind fun u3 => (if u3 = 0 then (some (true)) else (some (false))))))
theorem ok_X4_isFree : xV yX4_isFree cX4_isFree 2 (some .boolean) 1 := ⟨tw_410, tw_409, tw_8, tw_54, by decide +kernel, by decide +kernel, by decide +kernel⟩
set_option maxHeartbeats 4000000 in
set_option maxRecDepth 100000 in
theorem c_X4_isFree (l : Launch) (D : va_G) (cI cB : ClassId) (A_t A_t_knots : Nat) (V_t : Nat → Int32) (V_t_knots : Nat → Int32) (P1 : Int32) (r : Bool) (hM : X4_isFree V_t V_t_knots P1 = some r) : xC l D (xT cI cB) yX4_isFree cX4_isFree 2 (some .boolean) { frames := 1, cells := 0, slots := 0, locals := 21 } [.ref A_t, .int P1] [(A_t, oX4 A_t_knots V_t), (A_t_knots, .inl (cI, 5, .inl V_t_knots))] (some (.int (bz r))) [(A_t, oX4 A_t_knots V_t), (A_t_knots, .inl (cI, 5, .inl V_t_knots))] := by
  refine xC.of (by decide +kernel) (Nat.le_of_ble_eq_true rfl) (fun p e s m below meth c A ls E hP hD hS hl => ?_)
  obtain ⟨hx, hb, hr, hts, hown, hml, hlocks, hA, hK⟩ := id E
  replace hl : lv_has ls 2 [(0, .ref A_t), (1, .int P1)] := hl
  rw [X4_isFree] at hM
  refine lv_aload_n hx hb dX4_isFree_0 rfl (lv_at hl 0 rfl) ?_
  refine lv_iload_n hx hb dX4_isFree_1 rfl (lv_at hl 1 rfl) ?_
  obtain ⟨u1, hu2, hM⟩ := og_b hM
  refine x_Vi (n := 1) (q0 := 0) (rest := []) (wn := [(A_t, oX4 A_t_knots V_t), (A_t_knots, .inl (cI, 5, .inl V_t_knots))]) E (c_X4_isAboard l D cI cB A_t A_t_knots V_t P1 u1 hu2) ok_X4_isAboard tw_399 ⟨rfl, rfl⟩ ⟨Nat.le_of_ble_eq_true rfl, Nat.le_of_ble_eq_true rfl⟩ rfl rfl (Nat.le_of_ble_eq_true rfl) hl dX4_isFree_2 ⟨Nat.zero_le _, Nat.zero_le _⟩ hP hD hS [0] [1] [(A_t_knots, .inl (cI, 5, .inl V_t_knots))] [A_t, A_t_knots] 2 rfl rfl rfl rfl rfl rfl rfl (by decide +kernel) rfl rfl rfl (fun H locs hP hD hS => ?_)
  refine lv_if_eq (tgt := 20) hx hb dX4_isFree_5 (by decide) (fun c6 => ?_) (fun c6 => ?_)
  · replace hM := og_p c6 hM
    refine lv_iconst (v := 0) hx hb dX4_isFree_20 (by decide) ?_
    obtain rfl := Option.some.inj hM
    exact x_zret (b := false) E hP hD hS dX4_isFree_21
  · replace hM := og_n c6 hM
    refine lv_aload_n hx hb dX4_isFree_8 rfl (lv_at hl 0 rfl) ?_
    refine lv_iload_n hx hb dX4_isFree_9 rfl (lv_at hl 1 rfl) ?_
    obtain ⟨u3, hu4, hM⟩ := og_b hM
    refine x_Vi (n := 1) (q0 := 0) (rest := []) (wn := [(A_t, oX4 A_t_knots V_t), (A_t_knots, .inl (cI, 5, .inl V_t_knots))]) E (c_X4_knotsOf l D cI cB A_t A_t_knots V_t V_t_knots P1 u3 hu4) ok_X4_knotsOf tw_362 ⟨rfl, rfl⟩ ⟨Nat.le_of_ble_eq_true rfl, Nat.le_of_ble_eq_true rfl⟩ rfl rfl (Nat.le_of_ble_eq_true rfl) hl dX4_isFree_10 ⟨Nat.zero_le _, Nat.zero_le _⟩ hP hD hS [0, 1] [] [] [A_t, A_t_knots] 2 rfl rfl rfl rfl rfl rfl rfl (by decide +kernel) rfl rfl rfl (fun H locs hP hD hS => ?_)
    refine lv_if_ne (tgt := 20) hx hb dX4_isFree_13 (by decide) (fun c5 => ?_) (fun c5 => ?_)
    · replace hM := og_n c5 hM
      refine lv_iconst (v := 0) hx hb dX4_isFree_20 (by decide) ?_
      obtain rfl := Option.some.inj hM
      exact x_zret (b := false) E hP hD hS dX4_isFree_21
    · replace hM := og_p c5 hM
      refine lv_iconst (v := 1) hx hb dX4_isFree_16 (by decide) ?_
      refine lv_goto (tgt := 21) hx hb dX4_isFree_17 (by decide) ?_
      obtain rfl := Option.some.inj hM
      exact x_zret (b := true) E hP hD hS dX4_isFree_21
def X4_isStriking_9 (n : Nat) (V_t : Nat → Int32) (V_t_knots : Nat → Int32) (V_p2 : Nat → Int32) (V_p3 : Nat → Int32) (V_p3_kinds : Nat → Int32) : Nat → Int32 → Int32 → Option (Bool)
  | 0, _, _ => none
  | k + 1, L1, L4 => (if (V_p3 3) ≤ L4 then (some (true)) else (if L1 = (1 : Int32) then ((X4_isAboard V_t L4).bind fun u8 => (if (bz u8) = 0 then (if L1 = (2 : Int32) then ((X4_isFree V_t V_t_knots L4).bind fun u10 => (if (bz u10) = 0 then (X4_isStriking_9 n V_t V_t_knots V_p2 V_p3 V_p3_kinds k L1 (L4 + 1)) else ((X0_isOfKind V_p3 V_p3_kinds L4 (3 : Int32)).bind fun u12 => (if (bz u12) = 0 then (X4_isStriking_9 n V_t V_t_knots V_p2 V_p3 V_p3_kinds k L1 (L4 + 1)) else (some (false)))))) else (X4_isStriking_9 n V_t V_t_knots V_p2 V_p3 V_p3_kinds k L1 (L4 + 1))) else ((X4_isHearing V_t V_p2 V_p3 V_p3_kinds L4).bind fun u17 => (if (bz u17) = 0 then (if L1 = (2 : Int32) then ((X4_isFree V_t V_t_knots L4).bind fun u19 => (if (bz u19) = 0 then (X4_isStriking_9 n V_t V_t_knots V_p2 V_p3 V_p3_kinds k L1 (L4 + 1)) else ((X0_isOfKind V_p3 V_p3_kinds L4 (3 : Int32)).bind fun u21 => (if (bz u21) = 0 then (X4_isStriking_9 n V_t V_t_knots V_p2 V_p3 V_p3_kinds k L1 (L4 + 1)) else (some (false)))))) else (X4_isStriking_9 n V_t V_t_knots V_p2 V_p3 V_p3_kinds k L1 (L4 + 1))) else (some (false)))))) else (if L1 = (2 : Int32) then ((X4_isFree V_t V_t_knots L4).bind fun u1 => (if (bz u1) = 0 then (X4_isStriking_9 n V_t V_t_knots V_p2 V_p3 V_p3_kinds k L1 (L4 + 1)) else ((X0_isOfKind V_p3 V_p3_kinds L4 (3 : Int32)).bind fun u3 => (if (bz u3) = 0 then (X4_isStriking_9 n V_t V_t_knots V_p2 V_p3 V_p3_kinds k L1 (L4 + 1)) else (some (false)))))) else (X4_isStriking_9 n V_t V_t_knots V_p2 V_p3 V_p3_kinds k L1 (L4 + 1)))))
set_option maxHeartbeats 4000000 in
set_option maxRecDepth 100000 in
theorem lp_X4_isStriking_9 (n : Nat) (l : Launch) (D : va_G) (cI cB : ClassId) (A_t A_t_knots A_p2 A_p2_songs A_p2_rocks A_p3 A_p3_kinds A_p3_oars A_p3_wills : Nat) (V_t : Nat → Int32) (V_t_knots : Nat → Int32) (V_p2 : Nat → Int32) (V_p3 : Nat → Int32) (V_p3_kinds : Nat → Int32) (r : Bool) {p : Program} {e : Env} {s : State} {m : MethodId} {args : Array Value} {below : List Frame} {meth : Method} {c : Code} {A : Nat → Prop} (E : xE p s m args meth c A D (xT cI cB) RX4 cX4_isStriking 5 (some .boolean)) :
    ∀ (k : Nat) (L1 : Int32) (L4 : Int32), X4_isStriking_9 n V_t V_t_knots V_p2 V_p3 V_p3_kinds k L1 L4 = some r → ∀ (H : Heap) (locs : List Loc) (ls : Array Slot), va_P D vwCl [(A_t, oX4 A_t_knots V_t), (A_t_knots, .inl (cI, 5, .inl V_t_knots)), (A_p2, oX3 A_p2_songs A_p2_rocks V_p2), (A_p3, oX0 A_p3_kinds A_p3_oars A_p3_wills V_p3), (A_p3_kinds, .inl (cI, 5, .inl V_p3_kinds))] H → va_D A [(A_t, oX4 A_t_knots V_t), (A_t_knots, .inl (cI, 5, .inl V_t_knots)), (A_p2, oX3 A_p2_songs A_p2_rocks V_p2), (A_p3, oX0 A_p3_kinds A_p3_oars A_p3_wills V_p3), (A_p3_kinds, .inl (cI, 5, .inl V_p3_kinds))] → va_S A s.heap H locs → lv_has ls 5 [(0, .ref A_t), (1, .int L1), (2, .ref A_p2), (3, .ref A_p3), (4, .int L4)] → W p l e { frames := 2, cells := 0, slots := 0, locals := 44 } s m args below meth c H locs 0 0 (MQ below (xQ D (xT cI cB) [(A_t, oX4 A_t_knots V_t), (A_t_knots, .inl (cI, 5, .inl V_t_knots)), (A_p2, oX3 A_p2_songs A_p2_rocks V_p2), (A_p3, oX0 A_p3_kinds A_p3_oars A_p3_wills V_p3), (A_p3_kinds, .inl (cI, 5, .inl V_p3_kinds))] (some (.int (bz r))) A) args s 0 0 A) (F0 m 9 ls []) := by
  obtain ⟨hx, hb, hr, hts, hown, hml, hlocks, hA, hK⟩ := id E
  intro k
  induction k with
  | zero =>
    intro L1 L4 hM
    rw [X4_isStriking_9] at hM
    cases hM
  | succ k ih =>
    intro L1 L4 hM H locs ls hP hD hS hl
    rw [X4_isStriking_9] at hM
    refine lv_iload hx hb dX4_isStriking_9 (lv_at hl 4 rfl) ?_
    refine lv_aload_n hx hb dX4_isStriking_11 rfl (lv_at hl 3 rfl) ?_
    refine gx0_3 (v := (V_p3 3)) E hP 3 rfl rfl tw_123 dX4_isStriking_12 ?_
    refine lv_icmp_ge (tgt := 77) hx hb dX4_isStriking_15 (by decide) (fun c29 => ?_) (fun c29 => ?_)
    · replace hM := og_p c29 hM
      refine lv_iconst (v := 1) hx hb dX4_isStriking_77 (by decide) ?_
      obtain rfl := Option.some.inj hM
      exact x_zret (b := true) E hP hD hS dX4_isStriking_78
    · replace hM := og_n c29 hM
      refine lv_iload_n hx hb dX4_isStriking_18 rfl (lv_at hl 1 rfl) ?_
      refine lv_iconst (v := 1) hx hb dX4_isStriking_19 (by decide) ?_
      refine lv_icmp_ne (tgt := 45) hx hb dX4_isStriking_20 (by decide) (fun c28 => ?_) (fun c28 => ?_)
      · replace hM := og_n c28 hM
        refine lv_iload_n hx hb dX4_isStriking_45 rfl (lv_at hl 1 rfl) ?_
        refine lv_iconst (v := 2) hx hb dX4_isStriking_46 (by decide) ?_
        refine lv_icmp_ne (tgt := 71) hx hb dX4_isStriking_47 (by decide) (fun c7 => ?_) (fun c7 => ?_)
        · replace hM := og_n c7 hM
          refine lv_iinc (v := (L4 + 1)) (lv' := [(4, .int (L4 + 1)), (0, .ref A_t), (1, .int L1), (2, .ref A_p2), (3, .ref A_p3)]) hx hb dX4_isStriking_71 hl (k := 4) rfl rfl (by decide) rfl (fun ls hl => ?_)
          refine lv_goto (tgt := 9) hx hb dX4_isStriking_74 (by decide) ?_
          exact ih L1 (L4 + 1) hM _ _ _ hP hD hS (lv_sub hl [1, 2, 3, 4, 0] rfl)
        · replace hM := og_p c7 hM
          refine lv_aload_n hx hb dX4_isStriking_50 rfl (lv_at hl 0 rfl) ?_
          refine lv_iload hx hb dX4_isStriking_51 (lv_at hl 4 rfl) ?_
          obtain ⟨u1, hu2, hM⟩ := og_b hM
          refine x_Vi (n := 1) (q0 := 0) (rest := []) (wn := [(A_t, oX4 A_t_knots V_t), (A_t_knots, .inl (cI, 5, .inl V_t_knots)), (A_p2, oX3 A_p2_songs A_p2_rocks V_p2), (A_p3, oX0 A_p3_kinds A_p3_oars A_p3_wills V_p3), (A_p3_kinds, .inl (cI, 5, .inl V_p3_kinds))]) E (c_X4_isFree l D cI cB A_t A_t_knots V_t V_t_knots L4 u1 hu2) ok_X4_isFree tw_407 ⟨rfl, rfl⟩ ⟨Nat.le_of_ble_eq_true rfl, Nat.le_of_ble_eq_true rfl⟩ rfl rfl (Nat.le_of_ble_eq_true rfl) hl dX4_isStriking_53 ⟨Nat.zero_le _, Nat.zero_le _⟩ hP hD hS [0, 1] [2, 3, 4] [(A_p2, oX3 A_p2_songs A_p2_rocks V_p2), (A_p3, oX0 A_p3_kinds A_p3_oars A_p3_wills V_p3), (A_p3_kinds, .inl (cI, 5, .inl V_p3_kinds))] [A_t, A_t_knots, A_p2, A_p3, A_p3_kinds] 5 rfl rfl rfl rfl rfl rfl rfl (by decide +kernel) rfl rfl rfl (fun H locs hP hD hS => ?_)
          refine lv_if_eq (tgt := 71) hx hb dX4_isStriking_56 (by decide) (fun c6 => ?_) (fun c6 => ?_)
          · replace hM := og_p c6 hM
            refine lv_iinc (v := (L4 + 1)) (lv' := [(4, .int (L4 + 1)), (0, .ref A_t), (1, .int L1), (2, .ref A_p2), (3, .ref A_p3)]) hx hb dX4_isStriking_71 hl (k := 4) rfl rfl (by decide) rfl (fun ls hl => ?_)
            refine lv_goto (tgt := 9) hx hb dX4_isStriking_74 (by decide) ?_
            exact ih L1 (L4 + 1) hM _ _ _ hP hD hS (lv_sub hl [1, 2, 3, 4, 0] rfl)
          · replace hM := og_n c6 hM
            refine lv_aload_n hx hb dX4_isStriking_59 rfl (lv_at hl 3 rfl) ?_
            refine lv_iload hx hb dX4_isStriking_60 (lv_at hl 4 rfl) ?_
            refine lv_iconst (v := 3) hx hb dX4_isStriking_62 (by decide) ?_
            obtain ⟨u3, hu4, hM⟩ := og_b hM
            refine x_Vi (n := 2) (q0 := 0) (rest := []) (wn := [(A_t, oX4 A_t_knots V_t), (A_t_knots, .inl (cI, 5, .inl V_t_knots)), (A_p2, oX3 A_p2_songs A_p2_rocks V_p2), (A_p3, oX0 A_p3_kinds A_p3_oars A_p3_wills V_p3), (A_p3_kinds, .inl (cI, 5, .inl V_p3_kinds))]) E (c_X0_isOfKind l D cI cB A_p3 A_p3_kinds A_p3_oars A_p3_wills V_p3 V_p3_kinds L4 (3 : Int32) u3 hu4) ok_X0_isOfKind tw_411 ⟨rfl, rfl⟩ ⟨Nat.le_of_ble_eq_true rfl, Nat.le_of_ble_eq_true rfl⟩ rfl rfl (Nat.le_of_ble_eq_true rfl) hl dX4_isStriking_63 ⟨Nat.zero_le _, Nat.zero_le _⟩ hP hD hS [3, 4] [0, 1, 2] [(A_t, oX4 A_t_knots V_t), (A_t_knots, .inl (cI, 5, .inl V_t_knots)), (A_p2, oX3 A_p2_songs A_p2_rocks V_p2)] [A_t, A_t_knots, A_p2, A_p3, A_p3_kinds] 5 rfl rfl rfl rfl rfl rfl rfl (by decide +kernel) rfl rfl rfl (fun H locs hP hD hS => ?_)
            refine lv_if_eq (tgt := 71) hx hb dX4_isStriking_66 (by decide) (fun c5 => ?_) (fun c5 => ?_)
            · replace hM := og_p c5 hM
              refine lv_iinc (v := (L4 + 1)) (lv' := [(4, .int (L4 + 1)), (0, .ref A_t), (1, .int L1), (2, .ref A_p2), (3, .ref A_p3)]) hx hb dX4_isStriking_71 hl (k := 4) rfl rfl (by decide) rfl (fun ls hl => ?_)
              refine lv_goto (tgt := 9) hx hb dX4_isStriking_74 (by decide) ?_
              exact ih L1 (L4 + 1) hM _ _ _ hP hD hS (lv_sub hl [1, 2, 3, 4, 0] rfl)
            · replace hM := og_n c5 hM
              refine lv_iconst (v := 0) hx hb dX4_isStriking_69 (by decide) ?_
              obtain rfl := Option.some.inj hM
              exact x_zret (b := false) E hP hD hS dX4_isStriking_70
      · replace hM := og_p c28 hM
        refine lv_aload_n hx hb dX4_isStriking_23 rfl (lv_at hl 0 rfl) ?_
        refine lv_iload hx hb dX4_isStriking_24 (lv_at hl 4 rfl) ?_
        obtain ⟨u8, hu9, hM⟩ := og_b hM
        refine x_Vi (n := 1) (q0 := 0) (rest := []) (wn := [(A_t, oX4 A_t_knots V_t), (A_t_knots, .inl (cI, 5, .inl V_t_knots)), (A_p2, oX3 A_p2_songs A_p2_rocks V_p2), (A_p3, oX0 A_p3_kinds A_p3_oars A_p3_wills V_p3), (A_p3_kinds, .inl (cI, 5, .inl V_p3_kinds))]) E (c_X4_isAboard l D cI cB A_t A_t_knots V_t L4 u8 hu9) ok_X4_isAboard tw_399 ⟨rfl, rfl⟩ ⟨Nat.le_of_ble_eq_true rfl, Nat.le_of_ble_eq_true rfl⟩ rfl rfl (Nat.le_of_ble_eq_true rfl) hl dX4_isStriking_26 ⟨Nat.zero_le _, Nat.zero_le _⟩ hP hD hS [0] [1, 2, 3, 4] [(A_t_knots, .inl (cI, 5, .inl V_t_knots)), (A_p2, oX3 A_p2_songs A_p2_rocks V_p2), (A_p3, oX0 A_p3_kinds A_p3_oars A_p3_wills V_p3), (A_p3_kinds, .inl (cI, 5, .inl V_p3_kinds))] [A_t, A_t_knots, A_p2, A_p3, A_p3_kinds] 5 rfl rfl rfl rfl rfl rfl rfl (by decide +kernel) rfl rfl rfl (fun H locs hP hD hS => ?_)
        refine lv_if_eq (tgt := 45) hx hb dX4_isStriking_29 (by decide) (fun c27 => ?_) (fun c27 => ?_)
        · replace hM := og_p c27 hM
          refine lv_iload_n hx hb dX4_isStriking_45 rfl (lv_at hl 1 rfl) ?_
          refine lv_iconst (v := 2) hx hb dX4_isStriking_46 (by decide) ?_
          refine lv_icmp_ne (tgt := 71) hx hb dX4_isStriking_47 (by decide) (fun c16 => ?_) (fun c16 => ?_)
          · replace hM := og_n c16 hM
            refine lv_iinc (v := (L4 + 1)) (lv' := [(4, .int (L4 + 1)), (0, .ref A_t), (1, .int L1), (2, .ref A_p2), (3, .ref A_p3)]) hx hb dX4_isStriking_71 hl (k := 4) rfl rfl (by decide) rfl (fun ls hl => ?_)
            refine lv_goto (tgt := 9) hx hb dX4_isStriking_74 (by decide) ?_
            exact ih L1 (L4 + 1) hM _ _ _ hP hD hS (lv_sub hl [1, 2, 3, 4, 0] rfl)
          · replace hM := og_p c16 hM
            refine lv_aload_n hx hb dX4_isStriking_50 rfl (lv_at hl 0 rfl) ?_
            refine lv_iload hx hb dX4_isStriking_51 (lv_at hl 4 rfl) ?_
            obtain ⟨u10, hu11, hM⟩ := og_b hM
            refine x_Vi (n := 1) (q0 := 0) (rest := []) (wn := [(A_t, oX4 A_t_knots V_t), (A_t_knots, .inl (cI, 5, .inl V_t_knots)), (A_p2, oX3 A_p2_songs A_p2_rocks V_p2), (A_p3, oX0 A_p3_kinds A_p3_oars A_p3_wills V_p3), (A_p3_kinds, .inl (cI, 5, .inl V_p3_kinds))]) E (c_X4_isFree l D cI cB A_t A_t_knots V_t V_t_knots L4 u10 hu11) ok_X4_isFree tw_407 ⟨rfl, rfl⟩ ⟨Nat.le_of_ble_eq_true rfl, Nat.le_of_ble_eq_true rfl⟩ rfl rfl (Nat.le_of_ble_eq_true rfl) hl dX4_isStriking_53 ⟨Nat.zero_le _, Nat.zero_le _⟩ hP hD hS [0, 1] [2, 3, 4] [(A_p2, oX3 A_p2_songs A_p2_rocks V_p2), (A_p3, oX0 A_p3_kinds A_p3_oars A_p3_wills V_p3), (A_p3_kinds, .inl (cI, 5, .inl V_p3_kinds))] [A_t, A_t_knots, A_p2, A_p3, A_p3_kinds] 5 rfl rfl rfl rfl rfl rfl rfl (by decide +kernel) rfl rfl rfl (fun H locs hP hD hS => ?_)
            refine lv_if_eq (tgt := 71) hx hb dX4_isStriking_56 (by decide) (fun c15 => ?_) (fun c15 => ?_)
            · replace hM := og_p c15 hM
              refine lv_iinc (v := (L4 + 1)) (lv' := [(4, .int (L4 + 1)), (0, .ref A_t), (1, .int L1), (2, .ref A_p2), (3, .ref A_p3)]) hx hb dX4_isStriking_71 hl (k := 4) rfl rfl (by decide) rfl (fun ls hl => ?_)
              refine lv_goto (tgt := 9) hx hb dX4_isStriking_74 (by decide) ?_
              exact ih L1 (L4 + 1) hM _ _ _ hP hD hS (lv_sub hl [1, 2, 3, 4, 0] rfl)
            · replace hM := og_n c15 hM
              refine lv_aload_n hx hb dX4_isStriking_59 rfl (lv_at hl 3 rfl) ?_
              refine lv_iload hx hb dX4_isStriking_60 (lv_at hl 4 rfl) ?_
              refine lv_iconst (v := 3) hx hb dX4_isStriking_62 (by decide) ?_
              obtain ⟨u12, hu13, hM⟩ := og_b hM
              refine x_Vi (n := 2) (q0 := 0) (rest := []) (wn := [(A_t, oX4 A_t_knots V_t), (A_t_knots, .inl (cI, 5, .inl V_t_knots)), (A_p2, oX3 A_p2_songs A_p2_rocks V_p2), (A_p3, oX0 A_p3_kinds A_p3_oars A_p3_wills V_p3), (A_p3_kinds, .inl (cI, 5, .inl V_p3_kinds))]) E (c_X0_isOfKind l D cI cB A_p3 A_p3_kinds A_p3_oars A_p3_wills V_p3 V_p3_kinds L4 (3 : Int32) u12 hu13) ok_X0_isOfKind tw_411 ⟨rfl, rfl⟩ ⟨Nat.le_of_ble_eq_true rfl, Nat.le_of_ble_eq_true rfl⟩ rfl rfl (Nat.le_of_ble_eq_true rfl) hl dX4_isStriking_63 ⟨Nat.zero_le _, Nat.zero_le _⟩ hP hD hS [3, 4] [0, 1, 2] [(A_t, oX4 A_t_knots V_t), (A_t_knots, .inl (cI, 5, .inl V_t_knots)), (A_p2, oX3 A_p2_songs A_p2_rocks V_p2)] [A_t, A_t_knots, A_p2, A_p3, A_p3_kinds] 5 rfl rfl rfl rfl rfl rfl rfl (by decide +kernel) rfl rfl rfl (fun H locs hP hD hS => ?_)
              refine lv_if_eq (tgt := 71) hx hb dX4_isStriking_66 (by decide) (fun c14 => ?_) (fun c14 => ?_)
              · replace hM := og_p c14 hM
                refine lv_iinc (v := (L4 + 1)) (lv' := [(4, .int (L4 + 1)), (0, .ref A_t), (1, .int L1), (2, .ref A_p2), (3, .ref A_p3)]) hx hb dX4_isStriking_71 hl (k := 4) rfl rfl (by decide) rfl (fun ls hl => ?_)
                refine lv_goto (tgt := 9) hx hb dX4_isStriking_74 (by decide) ?_
                exact ih L1 (L4 + 1) hM _ _ _ hP hD hS (lv_sub hl [1, 2, 3, 4, 0] rfl)
              · replace hM := og_n c14 hM
                refine lv_iconst (v := 0) hx hb dX4_isStriking_69 (by decide) ?_
                obtain rfl := Option.some.inj hM
                exact x_zret (b := false) E hP hD hS dX4_isStriking_70
        · replace hM := og_n c27 hM
          refine lv_aload_n hx hb dX4_isStriking_32 rfl (lv_at hl 0 rfl) ?_
          refine lv_iload hx hb dX4_isStriking_33 (lv_at hl 4 rfl) ?_
          refine lv_aload_n hx hb dX4_isStriking_35 rfl (lv_at hl 2 rfl) ?_
          refine lv_aload_n hx hb dX4_isStriking_36 rfl (lv_at hl 3 rfl) ?_
          obtain ⟨u17, hu18, hM⟩ := og_b hM
          refine x_Vi (n := 3) (q0 := 0) (rest := []) (wn := [(A_t, oX4 A_t_knots V_t), (A_t_knots, .inl (cI, 5, .inl V_t_knots)), (A_p2, oX3 A_p2_songs A_p2_rocks V_p2), (A_p3, oX0 A_p3_kinds A_p3_oars A_p3_wills V_p3), (A_p3_kinds, .inl (cI, 5, .inl V_p3_kinds))]) E (c_X4_isHearing l D cI cB A_t A_t_knots A_p2 A_p2_songs A_p2_rocks A_p3 A_p3_kinds A_p3_oars A_p3_wills V_t V_p2 V_p3 V_p3_kinds L4 u17 hu18) ok_X4_isHearing tw_400 ⟨rfl, rfl⟩ ⟨Nat.le_of_ble_eq_true rfl, Nat.le_of_ble_eq_true rfl⟩ rfl rfl (Nat.le_of_ble_eq_true rfl) hl dX4_isStriking_37 ⟨Nat.zero_le _, Nat.zero_le _⟩ hP hD hS [0, 2, 3, 4] [1] [(A_t_knots, .inl (cI, 5, .inl V_t_knots))] [A_t, A_t_knots, A_p2, A_p3, A_p3_kinds] 5 rfl rfl rfl rfl rfl rfl rfl (by decide +kernel) rfl rfl rfl (fun H locs hP hD hS => ?_)
          refine lv_if_eq (tgt := 45) hx hb dX4_isStriking_40 (by decide) (fun c26 => ?_) (fun c26 => ?_)
          · replace hM := og_p c26 hM
            refine lv_iload_n hx hb dX4_isStriking_45 rfl (lv_at hl 1 rfl) ?_
            refine lv_iconst (v := 2) hx hb dX4_isStriking_46 (by decide) ?_
            refine lv_icmp_ne (tgt := 71) hx hb dX4_isStriking_47 (by decide) (fun c25 => ?_) (fun c25 => ?_)
            · replace hM := og_n c25 hM
              refine lv_iinc (v := (L4 + 1)) (lv' := [(4, .int (L4 + 1)), (0, .ref A_t), (1, .int L1), (2, .ref A_p2), (3, .ref A_p3)]) hx hb dX4_isStriking_71 hl (k := 4) rfl rfl (by decide) rfl (fun ls hl => ?_)
              refine lv_goto (tgt := 9) hx hb dX4_isStriking_74 (by decide) ?_
              exact ih L1 (L4 + 1) hM _ _ _ hP hD hS (lv_sub hl [1, 2, 3, 4, 0] rfl)
            · replace hM := og_p c25 hM
              refine lv_aload_n hx hb dX4_isStriking_50 rfl (lv_at hl 0 rfl) ?_
              refine lv_iload hx hb dX4_isStriking_51 (lv_at hl 4 rfl) ?_
              obtain ⟨u19, hu20, hM⟩ := og_b hM
              refine x_Vi (n := 1) (q0 := 0) (rest := []) (wn := [(A_t, oX4 A_t_knots V_t), (A_t_knots, .inl (cI, 5, .inl V_t_knots)), (A_p2, oX3 A_p2_songs A_p2_rocks V_p2), (A_p3, oX0 A_p3_kinds A_p3_oars A_p3_wills V_p3), (A_p3_kinds, .inl (cI, 5, .inl V_p3_kinds))]) E (c_X4_isFree l D cI cB A_t A_t_knots V_t V_t_knots L4 u19 hu20) ok_X4_isFree tw_407 ⟨rfl, rfl⟩ ⟨Nat.le_of_ble_eq_true rfl, Nat.le_of_ble_eq_true rfl⟩ rfl rfl (Nat.le_of_ble_eq_true rfl) hl dX4_isStriking_53 ⟨Nat.zero_le _, Nat.zero_le _⟩ hP hD hS [0, 1] [2, 3, 4] [(A_p2, oX3 A_p2_songs A_p2_rocks V_p2), (A_p3, oX0 A_p3_kinds A_p3_oars A_p3_wills V_p3), (A_p3_kinds, .inl (cI, 5, .inl V_p3_kinds))] [A_t, A_t_knots, A_p2, A_p3, A_p3_kinds] 5 rfl rfl rfl rfl rfl rfl rfl (by decide +kernel) rfl rfl rfl (fun H locs hP hD hS => ?_)
              refine lv_if_eq (tgt := 71) hx hb dX4_isStriking_56 (by decide) (fun c24 => ?_) (fun c24 => ?_)
              · replace hM := og_p c24 hM
                refine lv_iinc (v := (L4 + 1)) (lv' := [(4, .int (L4 + 1)), (0, .ref A_t), (1, .int L1), (2, .ref A_p2), (3, .ref A_p3)]) hx hb dX4_isStriking_71 hl (k := 4) rfl rfl (by decide) rfl (fun ls hl => ?_)
                refine lv_goto (tgt := 9) hx hb dX4_isStriking_74 (by decide) ?_
                exact ih L1 (L4 + 1) hM _ _ _ hP hD hS (lv_sub hl [1, 2, 3, 4, 0] rfl)
              · replace hM := og_n c24 hM
                refine lv_aload_n hx hb dX4_isStriking_59 rfl (lv_at hl 3 rfl) ?_
                refine lv_iload hx hb dX4_isStriking_60 (lv_at hl 4 rfl) ?_
                refine lv_iconst (v := 3) hx hb dX4_isStriking_62 (by decide) ?_
                obtain ⟨u21, hu22, hM⟩ := og_b hM
                refine x_Vi (n := 2) (q0 := 0) (rest := []) (wn := [(A_t, oX4 A_t_knots V_t), (A_t_knots, .inl (cI, 5, .inl V_t_knots)), (A_p2, oX3 A_p2_songs A_p2_rocks V_p2), (A_p3, oX0 A_p3_kinds A_p3_oars A_p3_wills V_p3), (A_p3_kinds, .inl (cI, 5, .inl V_p3_kinds))]) E (c_X0_isOfKind l D cI cB A_p3 A_p3_kinds A_p3_oars A_p3_wills V_p3 V_p3_kinds L4 (3 : Int32) u21 hu22) ok_X0_isOfKind tw_411 ⟨rfl, rfl⟩ ⟨Nat.le_of_ble_eq_true rfl, Nat.le_of_ble_eq_true rfl⟩ rfl rfl (Nat.le_of_ble_eq_true rfl) hl dX4_isStriking_63 ⟨Nat.zero_le _, Nat.zero_le _⟩ hP hD hS [3, 4] [0, 1, 2] [(A_t, oX4 A_t_knots V_t), (A_t_knots, .inl (cI, 5, .inl V_t_knots)), (A_p2, oX3 A_p2_songs A_p2_rocks V_p2)] [A_t, A_t_knots, A_p2, A_p3, A_p3_kinds] 5 rfl rfl rfl rfl rfl rfl rfl (by decide +kernel) rfl rfl rfl (fun H locs hP hD hS => ?_)
                refine lv_if_eq (tgt := 71) hx hb dX4_isStriking_66 (by decide) (fun c23 => ?_) (fun c23 => ?_)
                · replace hM := og_p c23 hM
                  refine lv_iinc (v := (L4 + 1)) (lv' := [(4, .int (L4 + 1)), (0, .ref A_t), (1, .int L1), (2, .ref A_p2), (3, .ref A_p3)]) hx hb dX4_isStriking_71 hl (k := 4) rfl rfl (by decide) rfl (fun ls hl => ?_)
                  refine lv_goto (tgt := 9) hx hb dX4_isStriking_74 (by decide) ?_
                  exact ih L1 (L4 + 1) hM _ _ _ hP hD hS (lv_sub hl [1, 2, 3, 4, 0] rfl)
                · replace hM := og_n c23 hM
                  refine lv_iconst (v := 0) hx hb dX4_isStriking_69 (by decide) ?_
                  obtain rfl := Option.some.inj hM
                  exact x_zret (b := false) E hP hD hS dX4_isStriking_70
          · replace hM := og_n c26 hM
            refine lv_iconst (v := 0) hx hb dX4_isStriking_43 (by decide) ?_
            obtain rfl := Option.some.inj hM
            exact x_zret (b := false) E hP hD hS dX4_isStriking_44
def X4_isStriking (n : Nat) (V_t : Nat → Int32) (V_t_knots : Nat → Int32) (V_p2 : Nat → Int32) (V_p3 : Nat → Int32) (V_p3_kinds : Nat → Int32) (P1 : Int32) : Option (Bool) := (if P1 = 0 then (some (false)) else (X4_isStriking_9 n V_t V_t_knots V_p2 V_p3 V_p3_kinds n P1 (0 : Int32)))
theorem ok_X4_isStriking : xV yX4_isStriking cX4_isStriking 5 (some .boolean) 3 := ⟨tw_406, tw_405, tw_7, tw_54, by decide +kernel, by decide +kernel, by decide +kernel⟩
set_option maxHeartbeats 4000000 in
set_option maxRecDepth 100000 in
theorem c_X4_isStriking (n : Nat) (l : Launch) (D : va_G) (cI cB : ClassId) (A_t A_t_knots A_p2 A_p2_songs A_p2_rocks A_p3 A_p3_kinds A_p3_oars A_p3_wills : Nat) (V_t : Nat → Int32) (V_t_knots : Nat → Int32) (V_p2 : Nat → Int32) (V_p3 : Nat → Int32) (V_p3_kinds : Nat → Int32) (P1 : Int32) (r : Bool) (hM : X4_isStriking n V_t V_t_knots V_p2 V_p3 V_p3_kinds P1 = some r) : xC l D (xT cI cB) yX4_isStriking cX4_isStriking 5 (some .boolean) { frames := 2, cells := 0, slots := 0, locals := 44 } [.ref A_t, .int P1, .ref A_p2, .ref A_p3] [(A_t, oX4 A_t_knots V_t), (A_t_knots, .inl (cI, 5, .inl V_t_knots)), (A_p2, oX3 A_p2_songs A_p2_rocks V_p2), (A_p3, oX0 A_p3_kinds A_p3_oars A_p3_wills V_p3), (A_p3_kinds, .inl (cI, 5, .inl V_p3_kinds))] (some (.int (bz r))) [(A_t, oX4 A_t_knots V_t), (A_t_knots, .inl (cI, 5, .inl V_t_knots)), (A_p2, oX3 A_p2_songs A_p2_rocks V_p2), (A_p3, oX0 A_p3_kinds A_p3_oars A_p3_wills V_p3), (A_p3_kinds, .inl (cI, 5, .inl V_p3_kinds))] := by
  refine xC.of (by decide +kernel) (Nat.le_of_ble_eq_true rfl) (fun p e s m below meth c A ls E hP hD hS hl => ?_)
  obtain ⟨hx, hb, hr, hts, hown, hml, hlocks, hA, hK⟩ := id E
  replace hl : lv_has ls 5 [(0, .ref A_t), (1, .int P1), (2, .ref A_p2), (3, .ref A_p3)] := hl
  rw [X4_isStriking] at hM
  refine lv_iload_n hx hb dX4_isStriking_0 rfl (lv_at hl 1 rfl) ?_
  refine lv_if_ne (tgt := 6) hx hb dX4_isStriking_1 (by decide) (fun c30 => ?_) (fun c30 => ?_)
  · replace hM := og_n c30 hM
    refine lv_iconst (v := 0) hx hb dX4_isStriking_6 (by decide) ?_
    refine lv_istore (lv' := [(4, .int (0 : Int32)), (0, .ref A_t), (1, .int P1), (2, .ref A_p2), (3, .ref A_p3)]) hx hb dX4_isStriking_7 hl (by decide) rfl (fun ls hl => ?_)
    exact lp_X4_isStriking_9 n l D cI cB A_t A_t_knots A_p2 A_p2_songs A_p2_rocks A_p3 A_p3_kinds A_p3_oars A_p3_wills V_t V_t_knots V_p2 V_p3 V_p3_kinds r E n P1 (0 : Int32) hM _ _ _ hP hD hS (lv_sub hl [1, 2, 3, 4, 0] rfl)
  · replace hM := og_p c30 hM
    refine lv_iconst (v := 0) hx hb dX4_isStriking_4 (by decide) ?_
    obtain rfl := Option.some.inj hM
    exact x_zret (b := false) E hP hD hS dX4_isStriking_5
def X4_freeOars_4 (n : Nat) (V_t : Nat → Int32) (V_t_knots : Nat → Int32) (V_p1 : Nat → Int32) (V_p1_oars : Nat → Int32) : Nat → Int32 → Int32 → Option (Int32)
  | 0, _, _ => none
  | k + 1, L2, L3 => (if (V_p1 3) ≤ L3 then (some (L2)) else ((X4_isFree V_t V_t_knots L3).bind fun u1 => (if (bz u1) = 0 then (X4_freeOars_4 n V_t V_t_knots V_p1 V_p1_oars k L2 (L3 + 1)) else ((X0_oarOf V_p1 V_p1_oars L3).bind fun u3 => (X4_freeOars_4 n V_t V_t_knots V_p1 V_p1_oars k (L2 + u3) (L3 + 1))))))
set_option maxHeartbeats 4000000 in
set_option maxRecDepth 100000 in
theorem lp_X4_freeOars_4 (n : Nat) (l : Launch) (D : va_G) (cI cB : ClassId) (A_t A_t_knots A_p1 A_p1_kinds A_p1_oars A_p1_wills : Nat) (V_t : Nat → Int32) (V_t_knots : Nat → Int32) (V_p1 : Nat → Int32) (V_p1_oars : Nat → Int32) (r : Int32) {p : Program} {e : Env} {s : State} {m : MethodId} {args : Array Value} {below : List Frame} {meth : Method} {c : Code} {A : Nat → Prop} (E : xE p s m args meth c A D (xT cI cB) RX4 cX4_freeOars 4 (some .int)) :
    ∀ (k : Nat) (L2 : Int32) (L3 : Int32), X4_freeOars_4 n V_t V_t_knots V_p1 V_p1_oars k L2 L3 = some r → ∀ (H : Heap) (locs : List Loc) (ls : Array Slot), va_P D vwCl [(A_t, oX4 A_t_knots V_t), (A_t_knots, .inl (cI, 5, .inl V_t_knots)), (A_p1, oX0 A_p1_kinds A_p1_oars A_p1_wills V_p1), (A_p1_oars, .inl (cI, 5, .inl V_p1_oars))] H → va_D A [(A_t, oX4 A_t_knots V_t), (A_t_knots, .inl (cI, 5, .inl V_t_knots)), (A_p1, oX0 A_p1_kinds A_p1_oars A_p1_wills V_p1), (A_p1_oars, .inl (cI, 5, .inl V_p1_oars))] → va_S A s.heap H locs → lv_has ls 4 [(0, .ref A_t), (1, .ref A_p1), (2, .int L2), (3, .int L3)] → W p l e { frames := 2, cells := 0, slots := 0, locals := 42 } s m args below meth c H locs 0 0 (MQ below (xQ D (xT cI cB) [(A_t, oX4 A_t_knots V_t), (A_t_knots, .inl (cI, 5, .inl V_t_knots)), (A_p1, oX0 A_p1_kinds A_p1_oars A_p1_wills V_p1), (A_p1_oars, .inl (cI, 5, .inl V_p1_oars))] (some (.int r)) A) args s 0 0 A) (F0 m 4 ls []) := by
  obtain ⟨hx, hb, hr, hts, hown, hml, hlocks, hA, hK⟩ := id E
  intro k
  induction k with
  | zero =>
    intro L2 L3 hM
    rw [X4_freeOars_4] at hM
    cases hM
  | succ k ih =>
    intro L2 L3 hM H locs ls hP hD hS hl
    rw [X4_freeOars_4] at hM
    refine lv_iload_n hx hb dX4_freeOars_4 rfl (lv_at hl 3 rfl) ?_
    refine lv_aload_n hx hb dX4_freeOars_5 rfl (lv_at hl 1 rfl) ?_
    refine gx0_3 (v := (V_p1 3)) E hP 2 rfl rfl tw_123 dX4_freeOars_6 ?_
    refine lv_icmp_ge (tgt := 34) hx hb dX4_freeOars_9 (by decide) (fun c6 => ?_) (fun c6 => ?_)
    · replace hM := og_p c6 hM
      refine lv_iload_n hx hb dX4_freeOars_34 rfl (lv_at hl 2 rfl) ?_
      obtain rfl := Option.some.inj hM
      exact x_iret E hP hD hS dX4_freeOars_35
    · replace hM := og_n c6 hM
      refine lv_aload_n hx hb dX4_freeOars_12 rfl (lv_at hl 0 rfl) ?_
      refine lv_iload_n hx hb dX4_freeOars_13 rfl (lv_at hl 3 rfl) ?_
      obtain ⟨u1, hu2, hM⟩ := og_b hM
      refine x_Vi (n := 1) (q0 := 0) (rest := []) (wn := [(A_t, oX4 A_t_knots V_t), (A_t_knots, .inl (cI, 5, .inl V_t_knots)), (A_p1, oX0 A_p1_kinds A_p1_oars A_p1_wills V_p1), (A_p1_oars, .inl (cI, 5, .inl V_p1_oars))]) E (c_X4_isFree l D cI cB A_t A_t_knots V_t V_t_knots L3 u1 hu2) ok_X4_isFree tw_407 ⟨rfl, rfl⟩ ⟨Nat.le_of_ble_eq_true rfl, Nat.le_of_ble_eq_true rfl⟩ rfl rfl (Nat.le_of_ble_eq_true rfl) hl dX4_freeOars_14 ⟨Nat.zero_le _, Nat.zero_le _⟩ hP hD hS [0, 1] [2, 3] [(A_p1, oX0 A_p1_kinds A_p1_oars A_p1_wills V_p1), (A_p1_oars, .inl (cI, 5, .inl V_p1_oars))] [A_t, A_t_knots, A_p1, A_p1_oars] 4 rfl rfl rfl rfl rfl rfl rfl (by decide +kernel) rfl rfl rfl (fun H locs hP hD hS => ?_)
      refine lv_if_eq (tgt := 28) hx hb dX4_freeOars_17 (by decide) (fun c5 => ?_) (fun c5 => ?_)
      · replace hM := og_p c5 hM
        refine lv_iinc (v := (L3 + 1)) (lv' := [(3, .int (L3 + 1)), (0, .ref A_t), (1, .ref A_p1), (2, .int L2)]) hx hb dX4_freeOars_28 hl (k := 3) rfl rfl (by decide) rfl (fun ls hl => ?_)
        refine lv_goto (tgt := 4) hx hb dX4_freeOars_31 (by decide) ?_
        exact ih L2 (L3 + 1) hM _ _ _ hP hD hS (lv_sub hl [1, 2, 3, 0] rfl)
      · replace hM := og_n c5 hM
        refine lv_iload_n hx hb dX4_freeOars_20 rfl (lv_at hl 2 rfl) ?_
        refine lv_aload_n hx hb dX4_freeOars_21 rfl (lv_at hl 1 rfl) ?_
        refine lv_iload_n hx hb dX4_freeOars_22 rfl (lv_at hl 3 rfl) ?_
        obtain ⟨u3, hu4, hM⟩ := og_b hM
        refine x_Vi (n := 1) (q0 := 0) (rest := [.int L2]) (wn := [(A_t, oX4 A_t_knots V_t), (A_t_knots, .inl (cI, 5, .inl V_t_knots)), (A_p1, oX0 A_p1_kinds A_p1_oars A_p1_wills V_p1), (A_p1_oars, .inl (cI, 5, .inl V_p1_oars))]) E (c_X0_oarOf l D cI cB A_p1 A_p1_kinds A_p1_oars A_p1_wills V_p1 V_p1_oars L3 u3 hu4) ok_X0_oarOf tw_416 ⟨rfl, rfl⟩ ⟨Nat.le_of_ble_eq_true rfl, Nat.le_of_ble_eq_true rfl⟩ rfl rfl (Nat.le_of_ble_eq_true rfl) hl dX4_freeOars_23 ⟨Nat.zero_le _, Nat.zero_le _⟩ hP hD hS [2, 3] [0, 1] [(A_t, oX4 A_t_knots V_t), (A_t_knots, .inl (cI, 5, .inl V_t_knots))] [A_t, A_t_knots, A_p1, A_p1_oars] 4 rfl rfl rfl rfl rfl rfl rfl (by decide +kernel) rfl rfl rfl (fun H locs hP hD hS => ?_)
        refine lv_iadd hx hb dX4_freeOars_26 ?_
        refine lv_istore_n (lv' := [(2, .int (L2 + u3)), (0, .ref A_t), (1, .ref A_p1), (3, .int L3)]) hx hb dX4_freeOars_27 rfl hl (by decide) rfl (fun ls hl => ?_)
        refine lv_iinc (v := (L3 + 1)) (lv' := [(3, .int (L3 + 1)), (2, .int (L2 + u3)), (0, .ref A_t), (1, .ref A_p1)]) hx hb dX4_freeOars_28 hl (k := 3) rfl rfl (by decide) rfl (fun ls hl => ?_)
        refine lv_goto (tgt := 4) hx hb dX4_freeOars_31 (by decide) ?_
        exact ih (L2 + u3) (L3 + 1) hM _ _ _ hP hD hS (lv_sub hl [2, 3, 1, 0] rfl)
def X4_freeOars (n : Nat) (V_t : Nat → Int32) (V_t_knots : Nat → Int32) (V_p1 : Nat → Int32) (V_p1_oars : Nat → Int32) : Option (Int32) := (X4_freeOars_4 n V_t V_t_knots V_p1 V_p1_oars n (0 : Int32) (0 : Int32))
theorem ok_X4_freeOars : xV yX4_freeOars cX4_freeOars 4 (some .int) 1 := ⟨tw_415, tw_414, tw_9, tw_54, by decide +kernel, by decide +kernel, by decide +kernel⟩
set_option maxHeartbeats 4000000 in
set_option maxRecDepth 100000 in
theorem c_X4_freeOars (n : Nat) (l : Launch) (D : va_G) (cI cB : ClassId) (A_t A_t_knots A_p1 A_p1_kinds A_p1_oars A_p1_wills : Nat) (V_t : Nat → Int32) (V_t_knots : Nat → Int32) (V_p1 : Nat → Int32) (V_p1_oars : Nat → Int32) (r : Int32) (hM : X4_freeOars n V_t V_t_knots V_p1 V_p1_oars = some r) : xC l D (xT cI cB) yX4_freeOars cX4_freeOars 4 (some .int) { frames := 2, cells := 0, slots := 0, locals := 42 } [.ref A_t, .ref A_p1] [(A_t, oX4 A_t_knots V_t), (A_t_knots, .inl (cI, 5, .inl V_t_knots)), (A_p1, oX0 A_p1_kinds A_p1_oars A_p1_wills V_p1), (A_p1_oars, .inl (cI, 5, .inl V_p1_oars))] (some (.int r)) [(A_t, oX4 A_t_knots V_t), (A_t_knots, .inl (cI, 5, .inl V_t_knots)), (A_p1, oX0 A_p1_kinds A_p1_oars A_p1_wills V_p1), (A_p1_oars, .inl (cI, 5, .inl V_p1_oars))] := by
  refine xC.of (by decide +kernel) (Nat.le_of_ble_eq_true rfl) (fun p e s m below meth c A ls E hP hD hS hl => ?_)
  obtain ⟨hx, hb, hr, hts, hown, hml, hlocks, hA, hK⟩ := id E
  replace hl : lv_has ls 4 [(0, .ref A_t), (1, .ref A_p1)] := hl
  rw [X4_freeOars] at hM
  refine lv_iconst (v := 0) hx hb dX4_freeOars_0 (by decide) ?_
  refine lv_istore_n (lv' := [(2, .int (0 : Int32)), (0, .ref A_t), (1, .ref A_p1)]) hx hb dX4_freeOars_1 rfl hl (by decide) rfl (fun ls hl => ?_)
  refine lv_iconst (v := 0) hx hb dX4_freeOars_2 (by decide) ?_
  refine lv_istore_n (lv' := [(3, .int (0 : Int32)), (2, .int (0 : Int32)), (0, .ref A_t), (1, .ref A_p1)]) hx hb dX4_freeOars_3 rfl hl (by decide) rfl (fun ls hl => ?_)
  exact lp_X4_freeOars_4 n l D cI cB A_t A_t_knots A_p1 A_p1_kinds A_p1_oars A_p1_wills V_t V_t_knots V_p1 V_p1_oars r E n (0 : Int32) (0 : Int32) hM _ _ _ hP hD hS (lv_sub hl [2, 3, 1, 0] rfl)
def X4_comeOn (V_t : Nat → Int32) (V_p1 : Nat → Int32) : Option ((Nat → Int32)) := (if (V_p1 4) ≤ ((V_t 3) + (1 : Int32)) then (some ((upd V_t 5 (1 : Int32)))) else (some ((upd V_t 3 ((V_t 3) + (1 : Int32))))))
theorem ok_X4_comeOn : xV yX4_comeOn cX4_comeOn 2 none 1 := ⟨tw_420, tw_419, tw_10, tw_54, by decide +kernel, by decide +kernel, by decide +kernel⟩
set_option maxHeartbeats 4000000 in
set_option maxRecDepth 100000 in
theorem c_X4_comeOn (l : Launch) (D : va_G) (cI cB : ClassId) (A_t A_t_knots A_p1 A_p1_songs A_p1_rocks : Nat) (V_t : Nat → Int32) (V_p1 : Nat → Int32) (r : (Nat → Int32)) (hM : X4_comeOn V_t V_p1 = some r) : xC l D (xT cI cB) yX4_comeOn cX4_comeOn 2 none { frames := 0, cells := 0, slots := 0, locals := 0 } [.ref A_t, .ref A_p1] [(A_t, oX4 A_t_knots V_t), (A_p1, oX3 A_p1_songs A_p1_rocks V_p1)] none [(A_t, oX4 A_t_knots r), (A_p1, oX3 A_p1_songs A_p1_rocks V_p1)] := by
  refine xC.of (by decide +kernel) (Nat.le_of_ble_eq_true rfl) (fun p e s m below meth c A ls E hP hD hS hl => ?_)
  obtain ⟨hx, hb, hr, hts, hown, hml, hlocks, hA, hK⟩ := id E
  replace hl : lv_has ls 2 [(0, .ref A_t), (1, .ref A_p1)] := hl
  rw [X4_comeOn] at hM
  refine lv_aload_n hx hb dX4_comeOn_0 rfl (lv_at hl 0 rfl) ?_
  refine gx4_3 (v := (V_t 3)) E hP 0 rfl rfl tw_144 dX4_comeOn_1 ?_
  refine lv_iconst (v := 1) hx hb dX4_comeOn_4 (by decide) ?_
  refine lv_iadd hx hb dX4_comeOn_5 ?_
  refine lv_aload_n hx hb dX4_comeOn_6 rfl (lv_at hl 1 rfl) ?_
  refine gx3_4 (v := (V_p1 4)) E hP 1 rfl rfl tw_100 dX4_comeOn_7 ?_
  refine lv_icmp_ge (tgt := 26) hx hb dX4_comeOn_10 (by decide) (fun c1 => ?_) (fun c1 => ?_)
  · replace hM := og_p c1 hM
    refine lv_aload_n hx hb dX4_comeOn_26 rfl (lv_at hl 0 rfl) ?_
    refine lv_iconst (v := 1) hx hb dX4_comeOn_27 (by decide) ?_
    refine px4_5 (wn := [(A_t, oX4 A_t_knots (upd V_t 5 (1 : Int32))), (A_p1, oX3 A_p1_songs A_p1_rocks V_p1)]) E hP hD hS 0 rfl tw_148 dX4_comeOn_28 rfl (fun H locs hP hD hS => ?_)
    obtain rfl := Option.some.inj hM
    exact x_vret E hP hD hS dX4_comeOn_31
  · replace hM := og_n c1 hM
    refine lv_aload_n hx hb dX4_comeOn_13 rfl (lv_at hl 0 rfl) ?_
    refine lv_dup hx hb dX4_comeOn_14 rfl ?_
    refine gx4_3 (v := (V_t 3)) E hP 0 rfl rfl tw_144 dX4_comeOn_15 ?_
    refine lv_iconst (v := 1) hx hb dX4_comeOn_18 (by decide) ?_
    refine lv_iadd hx hb dX4_comeOn_19 ?_
    refine px4_3 (wn := [(A_t, oX4 A_t_knots (upd V_t 3 ((V_t 3) + (1 : Int32)))), (A_p1, oX3 A_p1_songs A_p1_rocks V_p1)]) E hP hD hS 0 rfl tw_144 dX4_comeOn_20 rfl (fun H locs hP hD hS => ?_)
    refine lv_goto (tgt := 31) hx hb dX4_comeOn_23 (by decide) ?_
    obtain rfl := Option.some.inj hM
    exact x_vret E hP hD hS dX4_comeOn_31
def X4_row (n : Nat) (V_t : Nat → Int32) (V_t_knots : Nat → Int32) (V_p1 : Nat → Int32) (V_p1_songs : Nat → Int32) (V_p1_rocks : Nat → Int32) (V_p2 : Nat → Int32) (V_p2_kinds : Nat → Int32) (V_p2_oars : Nat → Int32) (V_p2_wills : Nat → Int32) : Option (Int32 × (Nat → Int32)) := ((X4_swimmersAt n V_t V_t_knots V_p1 V_p1_songs V_p2 V_p2_kinds V_p2_wills).bind fun u1 => (if ((V_t 2) &&& (u1 ^^^ (-1 : Int32))) = 0 then (some (u1, (upd (upd (upd V_t 2 ((V_t 2) &&& (u1 ^^^ (-1 : Int32)))) 5 (3 : Int32)) 4 (((upd (upd V_t 2 ((V_t 2) &&& (u1 ^^^ (-1 : Int32)))) 5 (3 : Int32)) 4) + (1 : Int32))))) else ((X3_rockAt V_p1 V_p1_rocks ((upd V_t 2 ((V_t 2) &&& (u1 ^^^ (-1 : Int32)))) 3)).bind fun u3 => ((X4_isStriking n (upd V_t 2 ((V_t 2) &&& (u1 ^^^ (-1 : Int32)))) V_t_knots V_p1 V_p2 V_p2_kinds u3).bind fun u5 => (if (bz u5) = 0 then ((X4_freeOars n (upd V_t 2 ((V_t 2) &&& (u1 ^^^ (-1 : Int32)))) V_t_knots V_p2 V_p2_oars).bind fun u7 => (if u7 < (V_p1 2) then (some (u1, (upd (upd V_t 2 ((V_t 2) &&& (u1 ^^^ (-1 : Int32)))) 4 (((upd V_t 2 ((V_t 2) &&& (u1 ^^^ (-1 : Int32)))) 4) + (1 : Int32))))) else ((X4_comeOn (upd V_t 2 ((V_t 2) &&& (u1 ^^^ (-1 : Int32)))) V_p1).bind fun u9 => (some (u1, (upd u9 4 ((u9 4) + (1 : Int32)))))))) else (some (u1, (upd (upd (upd (upd V_t 2 ((V_t 2) &&& (u1 ^^^ (-1 : Int32)))) 2 (0 : Int32)) 5 (2 : Int32)) 4 (((upd (upd (upd V_t 2 ((V_t 2) &&& (u1 ^^^ (-1 : Int32)))) 2 (0 : Int32)) 5 (2 : Int32)) 4) + (1 : Int32))))))))))
theorem ok_X4_row : xV yX4_row cX4_row 4 (some .int) 2 := ⟨tw_393, tw_391, tw_392, tw_54, by decide +kernel, by decide +kernel, by decide +kernel⟩
set_option maxHeartbeats 4000000 in
set_option maxRecDepth 100000 in
theorem c_X4_row (n : Nat) (l : Launch) (D : va_G) (cI cB : ClassId) (A_t A_t_knots A_p1 A_p1_songs A_p1_rocks A_p2 A_p2_kinds A_p2_oars A_p2_wills : Nat) (V_t : Nat → Int32) (V_t_knots : Nat → Int32) (V_p1 : Nat → Int32) (V_p1_songs : Nat → Int32) (V_p1_rocks : Nat → Int32) (V_p2 : Nat → Int32) (V_p2_kinds : Nat → Int32) (V_p2_oars : Nat → Int32) (V_p2_wills : Nat → Int32) (r : Int32 × (Nat → Int32)) (hM : X4_row n V_t V_t_knots V_p1 V_p1_songs V_p1_rocks V_p2 V_p2_kinds V_p2_oars V_p2_wills = some r) : xC l D (xT cI cB) yX4_row cX4_row 4 (some .int) { frames := 3, cells := 0, slots := 0, locals := 70 } [.ref A_t, .ref A_p1, .ref A_p2] [(A_t, oX4 A_t_knots V_t), (A_t_knots, .inl (cI, 5, .inl V_t_knots)), (A_p1, oX3 A_p1_songs A_p1_rocks V_p1), (A_p1_songs, .inl (cI, 12, .inl V_p1_songs)), (A_p1_rocks, .inl (cI, 12, .inl V_p1_rocks)), (A_p2, oX0 A_p2_kinds A_p2_oars A_p2_wills V_p2), (A_p2_kinds, .inl (cI, 5, .inl V_p2_kinds)), (A_p2_oars, .inl (cI, 5, .inl V_p2_oars)), (A_p2_wills, .inl (cI, 5, .inl V_p2_wills))] (some (.int r.1)) [(A_t, oX4 A_t_knots r.2), (A_t_knots, .inl (cI, 5, .inl V_t_knots)), (A_p1, oX3 A_p1_songs A_p1_rocks V_p1), (A_p1_songs, .inl (cI, 12, .inl V_p1_songs)), (A_p1_rocks, .inl (cI, 12, .inl V_p1_rocks)), (A_p2, oX0 A_p2_kinds A_p2_oars A_p2_wills V_p2), (A_p2_kinds, .inl (cI, 5, .inl V_p2_kinds)), (A_p2_oars, .inl (cI, 5, .inl V_p2_oars)), (A_p2_wills, .inl (cI, 5, .inl V_p2_wills))] := by
  refine xC.of (by decide +kernel) (Nat.le_of_ble_eq_true rfl) (fun p e s m below meth c A ls E hP hD hS hl => ?_)
  obtain ⟨hx, hb, hr, hts, hown, hml, hlocks, hA, hK⟩ := id E
  replace hl : lv_has ls 4 [(0, .ref A_t), (1, .ref A_p1), (2, .ref A_p2)] := hl
  rw [X4_row] at hM
  refine lv_aload_n hx hb dX4_row_0 rfl (lv_at hl 0 rfl) ?_
  refine lv_aload_n hx hb dX4_row_1 rfl (lv_at hl 1 rfl) ?_
  refine lv_aload_n hx hb dX4_row_2 rfl (lv_at hl 2 rfl) ?_
  obtain ⟨u1, hu2, hM⟩ := og_b hM
  refine x_Vi (n := 2) (q0 := 0) (rest := []) (wn := [(A_t, oX4 A_t_knots V_t), (A_t_knots, .inl (cI, 5, .inl V_t_knots)), (A_p1, oX3 A_p1_songs A_p1_rocks V_p1), (A_p1_songs, .inl (cI, 12, .inl V_p1_songs)), (A_p1_rocks, .inl (cI, 12, .inl V_p1_rocks)), (A_p2, oX0 A_p2_kinds A_p2_oars A_p2_wills V_p2), (A_p2_kinds, .inl (cI, 5, .inl V_p2_kinds)), (A_p2_oars, .inl (cI, 5, .inl V_p2_oars)), (A_p2_wills, .inl (cI, 5, .inl V_p2_wills))]) E (c_X4_swimmersAt n l D cI cB A_t A_t_knots A_p1 A_p1_songs A_p1_rocks A_p2 A_p2_kinds A_p2_oars A_p2_wills V_t V_t_knots V_p1 V_p1_songs V_p2 V_p2_kinds V_p2_wills u1 hu2) ok_X4_swimmersAt tw_394 ⟨rfl, rfl⟩ ⟨Nat.le_of_ble_eq_true rfl, Nat.le_of_ble_eq_true rfl⟩ rfl rfl (Nat.le_of_ble_eq_true rfl) hl dX4_row_3 ⟨Nat.zero_le _, Nat.zero_le _⟩ hP hD hS [0, 1, 2, 3, 5, 6, 8] [4, 7] [(A_p1_rocks, .inl (cI, 12, .inl V_p1_rocks)), (A_p2_oars, .inl (cI, 5, .inl V_p2_oars))] [A_t, A_t_knots, A_p1, A_p1_songs, A_p1_rocks, A_p2, A_p2_kinds, A_p2_oars, A_p2_wills] 9 rfl rfl rfl rfl rfl rfl rfl (by decide +kernel) rfl rfl rfl (fun H locs hP hD hS => ?_)
  refine lv_istore_n (lv' := [(3, .int u1), (0, .ref A_t), (1, .ref A_p1), (2, .ref A_p2)]) hx hb dX4_row_6 rfl hl (by decide) rfl (fun ls hl => ?_)
  refine lv_aload_n hx hb dX4_row_7 rfl (lv_at hl 1 rfl) ?_
  refine lv_dup hx hb dX4_row_8 rfl ?_
  refine gx4_2 (v := (V_t 2)) E hP 0 rfl rfl tw_142 dX4_row_9 ?_
  refine lv_iload_n hx hb dX4_row_12 rfl (lv_at hl 0 rfl) ?_
  refine lv_iconst (v := (-1)) hx hb dX4_row_13 (by decide) ?_
  refine lv_ixor hx hb dX4_row_14 ?_
  refine lv_iand hx hb dX4_row_15 ?_
  refine px4_2 (wn := [(A_t, oX4 A_t_knots (upd V_t 2 ((V_t 2) &&& (u1 ^^^ (-1 : Int32))))), (A_t_knots, .inl (cI, 5, .inl V_t_knots)), (A_p1, oX3 A_p1_songs A_p1_rocks V_p1), (A_p1_songs, .inl (cI, 12, .inl V_p1_songs)), (A_p1_rocks, .inl (cI, 12, .inl V_p1_rocks)), (A_p2, oX0 A_p2_kinds A_p2_oars A_p2_wills V_p2), (A_p2_kinds, .inl (cI, 5, .inl V_p2_kinds)), (A_p2_oars, .inl (cI, 5, .inl V_p2_oars)), (A_p2_wills, .inl (cI, 5, .inl V_p2_wills))]) E hP hD hS 0 rfl tw_142 dX4_row_16 rfl (fun H locs hP hD hS => ?_)
  refine lv_aload_n hx hb dX4_row_19 rfl (lv_at hl 1 rfl) ?_
  refine gx4_2 (v := ((V_t 2) &&& (u1 ^^^ (-1 : Int32)))) E hP 0 rfl rfl tw_142 dX4_row_20 ?_
  refine lv_if_ne (tgt := 34) hx hb dX4_row_23 (by decide) (fun c13 => ?_) (fun c13 => ?_)
  · replace hM := og_n c13 hM
    refine lv_aload_n hx hb dX4_row_34 rfl (lv_at hl 1 rfl) ?_
    refine lv_aload_n hx hb dX4_row_35 rfl (lv_at hl 2 rfl) ?_
    refine lv_aload_n hx hb dX4_row_36 rfl (lv_at hl 1 rfl) ?_
    refine gx4_3 (v := ((upd V_t 2 ((V_t 2) &&& (u1 ^^^ (-1 : Int32)))) 3)) E hP 0 rfl rfl tw_144 dX4_row_37 ?_
    obtain ⟨u3, hu4, hM⟩ := og_b hM
    refine x_Vi (n := 1) (q0 := 0) (rest := [.ref A_t]) (wn := [(A_t, oX4 A_t_knots (upd V_t 2 ((V_t 2) &&& (u1 ^^^ (-1 : Int32))))), (A_t_knots, .inl (cI, 5, .inl V_t_knots)), (A_p1, oX3 A_p1_songs A_p1_rocks V_p1), (A_p1_songs, .inl (cI, 12, .inl V_p1_songs)), (A_p1_rocks, .inl (cI, 12, .inl V_p1_rocks)), (A_p2, oX0 A_p2_kinds A_p2_oars A_p2_wills V_p2), (A_p2_kinds, .inl (cI, 5, .inl V_p2_kinds)), (A_p2_oars, .inl (cI, 5, .inl V_p2_oars)), (A_p2_wills, .inl (cI, 5, .inl V_p2_wills))]) E (c_X3_rockAt l D cI cB A_p1 A_p1_songs A_p1_rocks V_p1 V_p1_rocks ((upd V_t 2 ((V_t 2) &&& (u1 ^^^ (-1 : Int32)))) 3) u3 hu4) ok_X3_rockAt tw_402 ⟨rfl, rfl⟩ ⟨Nat.le_of_ble_eq_true rfl, Nat.le_of_ble_eq_true rfl⟩ rfl rfl (Nat.le_of_ble_eq_true rfl) hl dX4_row_40 ⟨Nat.zero_le _, Nat.zero_le _⟩ hP hD hS [2, 4] [0, 1, 3, 5, 6, 7, 8] [(A_t, oX4 A_t_knots (upd V_t 2 ((V_t 2) &&& (u1 ^^^ (-1 : Int32))))), (A_t_knots, .inl (cI, 5, .inl V_t_knots)), (A_p1_songs, .inl (cI, 12, .inl V_p1_songs)), (A_p2, oX0 A_p2_kinds A_p2_oars A_p2_wills V_p2), (A_p2_kinds, .inl (cI, 5, .inl V_p2_kinds)), (A_p2_oars, .inl (cI, 5, .inl V_p2_oars)), (A_p2_wills, .inl (cI, 5, .inl V_p2_wills))] [A_t, A_t_knots, A_p1, A_p1_songs, A_p1_rocks, A_p2, A_p2_kinds, A_p2_oars, A_p2_wills] 9 rfl rfl rfl rfl rfl rfl rfl (by decide +kernel) rfl rfl rfl (fun H locs hP hD hS => ?_)
    refine lv_aload_n hx hb dX4_row_43 rfl (lv_at hl 2 rfl) ?_
    refine lv_aload_n hx hb dX4_row_44 rfl (lv_at hl 3 rfl) ?_
    obtain ⟨u5, hu6, hM⟩ := og_b hM
    refine x_Vi (n := 3) (q0 := 0) (rest := []) (wn := [(A_t, oX4 A_t_knots (upd V_t 2 ((V_t 2) &&& (u1 ^^^ (-1 : Int32))))), (A_t_knots, .inl (cI, 5, .inl V_t_knots)), (A_p1, oX3 A_p1_songs A_p1_rocks V_p1), (A_p1_songs, .inl (cI, 12, .inl V_p1_songs)), (A_p1_rocks, .inl (cI, 12, .inl V_p1_rocks)), (A_p2, oX0 A_p2_kinds A_p2_oars A_p2_wills V_p2), (A_p2_kinds, .inl (cI, 5, .inl V_p2_kinds)), (A_p2_oars, .inl (cI, 5, .inl V_p2_oars)), (A_p2_wills, .inl (cI, 5, .inl V_p2_wills))]) E (c_X4_isStriking n l D cI cB A_t A_t_knots A_p1 A_p1_songs A_p1_rocks A_p2 A_p2_kinds A_p2_oars A_p2_wills (upd V_t 2 ((V_t 2) &&& (u1 ^^^ (-1 : Int32)))) V_t_knots V_p1 V_p2 V_p2_kinds u3 u5 hu6) ok_X4_isStriking tw_403 ⟨rfl, rfl⟩ ⟨Nat.le_of_ble_eq_true rfl, Nat.le_of_ble_eq_true rfl⟩ rfl rfl (Nat.le_of_ble_eq_true rfl) hl dX4_row_45 ⟨Nat.zero_le _, Nat.zero_le _⟩ hP hD hS [0, 1, 2, 5, 6] [3, 4, 7, 8] [(A_p1_songs, .inl (cI, 12, .inl V_p1_songs)), (A_p1_rocks, .inl (cI, 12, .inl V_p1_rocks)), (A_p2_oars, .inl (cI, 5, .inl V_p2_oars)), (A_p2_wills, .inl (cI, 5, .inl V_p2_wills))] [A_t, A_t_knots, A_p1, A_p1_songs, A_p1_rocks, A_p2, A_p2_kinds, A_p2_oars, A_p2_wills] 9 rfl rfl rfl rfl rfl rfl rfl (by decide +kernel) rfl rfl rfl (fun H locs hP hD hS => ?_)
    refine lv_if_eq (tgt := 64) hx hb dX4_row_48 (by decide) (fun c12 => ?_) (fun c12 => ?_)
    · replace hM := og_p c12 hM
      refine lv_aload_n hx hb dX4_row_64 rfl (lv_at hl 1 rfl) ?_
      refine lv_aload_n hx hb dX4_row_65 rfl (lv_at hl 3 rfl) ?_
      obtain ⟨u7, hu8, hM⟩ := og_b hM
      refine x_Vi (n := 1) (q0 := 0) (rest := []) (wn := [(A_t, oX4 A_t_knots (upd V_t 2 ((V_t 2) &&& (u1 ^^^ (-1 : Int32))))), (A_t_knots, .inl (cI, 5, .inl V_t_knots)), (A_p1, oX3 A_p1_songs A_p1_rocks V_p1), (A_p1_songs, .inl (cI, 12, .inl V_p1_songs)), (A_p1_rocks, .inl (cI, 12, .inl V_p1_rocks)), (A_p2, oX0 A_p2_kinds A_p2_oars A_p2_wills V_p2), (A_p2_kinds, .inl (cI, 5, .inl V_p2_kinds)), (A_p2_oars, .inl (cI, 5, .inl V_p2_oars)), (A_p2_wills, .inl (cI, 5, .inl V_p2_wills))]) E (c_X4_freeOars n l D cI cB A_t A_t_knots A_p2 A_p2_kinds A_p2_oars A_p2_wills (upd V_t 2 ((V_t 2) &&& (u1 ^^^ (-1 : Int32)))) V_t_knots V_p2 V_p2_oars u7 hu8) ok_X4_freeOars tw_412 ⟨rfl, rfl⟩ ⟨Nat.le_of_ble_eq_true rfl, Nat.le_of_ble_eq_true rfl⟩ rfl rfl (Nat.le_of_ble_eq_true rfl) hl dX4_row_66 ⟨Nat.zero_le _, Nat.zero_le _⟩ hP hD hS [0, 1, 5, 7] [2, 3, 4, 6, 8] [(A_p1, oX3 A_p1_songs A_p1_rocks V_p1), (A_p1_songs, .inl (cI, 12, .inl V_p1_songs)), (A_p1_rocks, .inl (cI, 12, .inl V_p1_rocks)), (A_p2_kinds, .inl (cI, 5, .inl V_p2_kinds)), (A_p2_wills, .inl (cI, 5, .inl V_p2_wills))] [A_t, A_t_knots, A_p1, A_p1_songs, A_p1_rocks, A_p2, A_p2_kinds, A_p2_oars, A_p2_wills] 9 rfl rfl rfl rfl rfl rfl rfl (by decide +kernel) rfl rfl rfl (fun H locs hP hD hS => ?_)
      refine lv_aload_n hx hb dX4_row_69 rfl (lv_at hl 2 rfl) ?_
      refine gx3_2 (v := (V_p1 2)) E hP 2 rfl rfl tw_93 dX4_row_70 ?_
      refine lv_icmp_lt (tgt := 81) hx hb dX4_row_73 (by decide) (fun c11 => ?_) (fun c11 => ?_)
      · replace hM := og_p c11 hM
        refine lv_aload_n hx hb dX4_row_81 rfl (lv_at hl 1 rfl) ?_
        refine lv_dup hx hb dX4_row_82 rfl ?_
        refine gx4_4 (v := ((upd V_t 2 ((V_t 2) &&& (u1 ^^^ (-1 : Int32)))) 4)) E hP 0 rfl rfl tw_146 dX4_row_83 ?_
        refine lv_iconst (v := 1) hx hb dX4_row_86 (by decide) ?_
        refine lv_iadd hx hb dX4_row_87 ?_
        refine px4_4 (wn := [(A_t, oX4 A_t_knots (upd (upd V_t 2 ((V_t 2) &&& (u1 ^^^ (-1 : Int32)))) 4 (((upd V_t 2 ((V_t 2) &&& (u1 ^^^ (-1 : Int32)))) 4) + (1 : Int32)))), (A_t_knots, .inl (cI, 5, .inl V_t_knots)), (A_p1, oX3 A_p1_songs A_p1_rocks V_p1), (A_p1_songs, .inl (cI, 12, .inl V_p1_songs)), (A_p1_rocks, .inl (cI, 12, .inl V_p1_rocks)), (A_p2, oX0 A_p2_kinds A_p2_oars A_p2_wills V_p2), (A_p2_kinds, .inl (cI, 5, .inl V_p2_kinds)), (A_p2_oars, .inl (cI, 5, .inl V_p2_oars)), (A_p2_wills, .inl (cI, 5, .inl V_p2_wills))]) E hP hD hS 0 rfl tw_146 dX4_row_88 rfl (fun H locs hP hD hS => ?_)
        refine lv_iload_n hx hb dX4_row_91 rfl (lv_at hl 0 rfl) ?_
        obtain rfl := Option.some.inj hM
        exact x_iret E hP hD hS dX4_row_92
      · replace hM := og_n c11 hM
        refine lv_aload_n hx hb dX4_row_76 rfl (lv_at hl 1 rfl) ?_
        refine lv_aload_n hx hb dX4_row_77 rfl (lv_at hl 2 rfl) ?_
        obtain ⟨u9, hu10, hM⟩ := og_b hM
        refine x_Vv (n := 1) (q0 := 0) (rest := []) (wn := [(A_t, oX4 A_t_knots u9), (A_t_knots, .inl (cI, 5, .inl V_t_knots)), (A_p1, oX3 A_p1_songs A_p1_rocks V_p1), (A_p1_songs, .inl (cI, 12, .inl V_p1_songs)), (A_p1_rocks, .inl (cI, 12, .inl V_p1_rocks)), (A_p2, oX0 A_p2_kinds A_p2_oars A_p2_wills V_p2), (A_p2_kinds, .inl (cI, 5, .inl V_p2_kinds)), (A_p2_oars, .inl (cI, 5, .inl V_p2_oars)), (A_p2_wills, .inl (cI, 5, .inl V_p2_wills))]) E (c_X4_comeOn l D cI cB A_t A_t_knots A_p1 A_p1_songs A_p1_rocks (upd V_t 2 ((V_t 2) &&& (u1 ^^^ (-1 : Int32)))) V_p1 u9 hu10) ok_X4_comeOn tw_417 ⟨rfl, rfl⟩ ⟨Nat.le_of_ble_eq_true rfl, Nat.le_of_ble_eq_true rfl⟩ rfl rfl (Nat.le_of_ble_eq_true rfl) hl dX4_row_78 ⟨Nat.zero_le _, Nat.zero_le _⟩ hP hD hS [0, 2] [1, 3, 4, 5, 6, 7, 8] [(A_t_knots, .inl (cI, 5, .inl V_t_knots)), (A_p1_songs, .inl (cI, 12, .inl V_p1_songs)), (A_p1_rocks, .inl (cI, 12, .inl V_p1_rocks)), (A_p2, oX0 A_p2_kinds A_p2_oars A_p2_wills V_p2), (A_p2_kinds, .inl (cI, 5, .inl V_p2_kinds)), (A_p2_oars, .inl (cI, 5, .inl V_p2_oars)), (A_p2_wills, .inl (cI, 5, .inl V_p2_wills))] [A_t, A_t_knots, A_p1, A_p1_songs, A_p1_rocks, A_p2, A_p2_kinds, A_p2_oars, A_p2_wills] 9 rfl rfl rfl rfl rfl rfl rfl (by decide +kernel) rfl rfl rfl (fun H locs hP hD hS => ?_)
        refine lv_aload_n hx hb dX4_row_81 rfl (lv_at hl 1 rfl) ?_
        refine lv_dup hx hb dX4_row_82 rfl ?_
        refine gx4_4 (v := (u9 4)) E hP 0 rfl rfl tw_146 dX4_row_83 ?_
        refine lv_iconst (v := 1) hx hb dX4_row_86 (by decide) ?_
        refine lv_iadd hx hb dX4_row_87 ?_
        refine px4_4 (wn := [(A_t, oX4 A_t_knots (upd u9 4 ((u9 4) + (1 : Int32)))), (A_t_knots, .inl (cI, 5, .inl V_t_knots)), (A_p1, oX3 A_p1_songs A_p1_rocks V_p1), (A_p1_songs, .inl (cI, 12, .inl V_p1_songs)), (A_p1_rocks, .inl (cI, 12, .inl V_p1_rocks)), (A_p2, oX0 A_p2_kinds A_p2_oars A_p2_wills V_p2), (A_p2_kinds, .inl (cI, 5, .inl V_p2_kinds)), (A_p2_oars, .inl (cI, 5, .inl V_p2_oars)), (A_p2_wills, .inl (cI, 5, .inl V_p2_wills))]) E hP hD hS 0 rfl tw_146 dX4_row_88 rfl (fun H locs hP hD hS => ?_)
        refine lv_iload_n hx hb dX4_row_91 rfl (lv_at hl 0 rfl) ?_
        obtain rfl := Option.some.inj hM
        exact x_iret E hP hD hS dX4_row_92
    · replace hM := og_n c12 hM
      refine lv_aload_n hx hb dX4_row_51 rfl (lv_at hl 1 rfl) ?_
      refine lv_iconst (v := 0) hx hb dX4_row_52 (by decide) ?_
      refine px4_2 (wn := [(A_t, oX4 A_t_knots (upd (upd V_t 2 ((V_t 2) &&& (u1 ^^^ (-1 : Int32)))) 2 (0 : Int32))), (A_t_knots, .inl (cI, 5, .inl V_t_knots)), (A_p1, oX3 A_p1_songs A_p1_rocks V_p1), (A_p1_songs, .inl (cI, 12, .inl V_p1_songs)), (A_p1_rocks, .inl (cI, 12, .inl V_p1_rocks)), (A_p2, oX0 A_p2_kinds A_p2_oars A_p2_wills V_p2), (A_p2_kinds, .inl (cI, 5, .inl V_p2_kinds)), (A_p2_oars, .inl (cI, 5, .inl V_p2_oars)), (A_p2_wills, .inl (cI, 5, .inl V_p2_wills))]) E hP hD hS 0 rfl tw_142 dX4_row_53 rfl (fun H locs hP hD hS => ?_)
      refine lv_aload_n hx hb dX4_row_56 rfl (lv_at hl 1 rfl) ?_
      refine lv_iconst (v := 2) hx hb dX4_row_57 (by decide) ?_
      refine px4_5 (wn := [(A_t, oX4 A_t_knots (upd (upd (upd V_t 2 ((V_t 2) &&& (u1 ^^^ (-1 : Int32)))) 2 (0 : Int32)) 5 (2 : Int32))), (A_t_knots, .inl (cI, 5, .inl V_t_knots)), (A_p1, oX3 A_p1_songs A_p1_rocks V_p1), (A_p1_songs, .inl (cI, 12, .inl V_p1_songs)), (A_p1_rocks, .inl (cI, 12, .inl V_p1_rocks)), (A_p2, oX0 A_p2_kinds A_p2_oars A_p2_wills V_p2), (A_p2_kinds, .inl (cI, 5, .inl V_p2_kinds)), (A_p2_oars, .inl (cI, 5, .inl V_p2_oars)), (A_p2_wills, .inl (cI, 5, .inl V_p2_wills))]) E hP hD hS 0 rfl tw_148 dX4_row_58 rfl (fun H locs hP hD hS => ?_)
      refine lv_goto (tgt := 81) hx hb dX4_row_61 (by decide) ?_
      refine lv_aload_n hx hb dX4_row_81 rfl (lv_at hl 1 rfl) ?_
      refine lv_dup hx hb dX4_row_82 rfl ?_
      refine gx4_4 (v := ((upd (upd (upd V_t 2 ((V_t 2) &&& (u1 ^^^ (-1 : Int32)))) 2 (0 : Int32)) 5 (2 : Int32)) 4)) E hP 0 rfl rfl tw_146 dX4_row_83 ?_
      refine lv_iconst (v := 1) hx hb dX4_row_86 (by decide) ?_
      refine lv_iadd hx hb dX4_row_87 ?_
      refine px4_4 (wn := [(A_t, oX4 A_t_knots (upd (upd (upd (upd V_t 2 ((V_t 2) &&& (u1 ^^^ (-1 : Int32)))) 2 (0 : Int32)) 5 (2 : Int32)) 4 (((upd (upd (upd V_t 2 ((V_t 2) &&& (u1 ^^^ (-1 : Int32)))) 2 (0 : Int32)) 5 (2 : Int32)) 4) + (1 : Int32)))), (A_t_knots, .inl (cI, 5, .inl V_t_knots)), (A_p1, oX3 A_p1_songs A_p1_rocks V_p1), (A_p1_songs, .inl (cI, 12, .inl V_p1_songs)), (A_p1_rocks, .inl (cI, 12, .inl V_p1_rocks)), (A_p2, oX0 A_p2_kinds A_p2_oars A_p2_wills V_p2), (A_p2_kinds, .inl (cI, 5, .inl V_p2_kinds)), (A_p2_oars, .inl (cI, 5, .inl V_p2_oars)), (A_p2_wills, .inl (cI, 5, .inl V_p2_wills))]) E hP hD hS 0 rfl tw_146 dX4_row_88 rfl (fun H locs hP hD hS => ?_)
      refine lv_iload_n hx hb dX4_row_91 rfl (lv_at hl 0 rfl) ?_
      obtain rfl := Option.some.inj hM
      exact x_iret E hP hD hS dX4_row_92
  · replace hM := og_p c13 hM
    refine lv_aload_n hx hb dX4_row_26 rfl (lv_at hl 1 rfl) ?_
    refine lv_iconst (v := 3) hx hb dX4_row_27 (by decide) ?_
    refine px4_5 (wn := [(A_t, oX4 A_t_knots (upd (upd V_t 2 ((V_t 2) &&& (u1 ^^^ (-1 : Int32)))) 5 (3 : Int32))), (A_t_knots, .inl (cI, 5, .inl V_t_knots)), (A_p1, oX3 A_p1_songs A_p1_rocks V_p1), (A_p1_songs, .inl (cI, 12, .inl V_p1_songs)), (A_p1_rocks, .inl (cI, 12, .inl V_p1_rocks)), (A_p2, oX0 A_p2_kinds A_p2_oars A_p2_wills V_p2), (A_p2_kinds, .inl (cI, 5, .inl V_p2_kinds)), (A_p2_oars, .inl (cI, 5, .inl V_p2_oars)), (A_p2_wills, .inl (cI, 5, .inl V_p2_wills))]) E hP hD hS 0 rfl tw_148 dX4_row_28 rfl (fun H locs hP hD hS => ?_)
    refine lv_goto (tgt := 81) hx hb dX4_row_31 (by decide) ?_
    refine lv_aload_n hx hb dX4_row_81 rfl (lv_at hl 1 rfl) ?_
    refine lv_dup hx hb dX4_row_82 rfl ?_
    refine gx4_4 (v := ((upd (upd V_t 2 ((V_t 2) &&& (u1 ^^^ (-1 : Int32)))) 5 (3 : Int32)) 4)) E hP 0 rfl rfl tw_146 dX4_row_83 ?_
    refine lv_iconst (v := 1) hx hb dX4_row_86 (by decide) ?_
    refine lv_iadd hx hb dX4_row_87 ?_
    refine px4_4 (wn := [(A_t, oX4 A_t_knots (upd (upd (upd V_t 2 ((V_t 2) &&& (u1 ^^^ (-1 : Int32)))) 5 (3 : Int32)) 4 (((upd (upd V_t 2 ((V_t 2) &&& (u1 ^^^ (-1 : Int32)))) 5 (3 : Int32)) 4) + (1 : Int32)))), (A_t_knots, .inl (cI, 5, .inl V_t_knots)), (A_p1, oX3 A_p1_songs A_p1_rocks V_p1), (A_p1_songs, .inl (cI, 12, .inl V_p1_songs)), (A_p1_rocks, .inl (cI, 12, .inl V_p1_rocks)), (A_p2, oX0 A_p2_kinds A_p2_oars A_p2_wills V_p2), (A_p2_kinds, .inl (cI, 5, .inl V_p2_kinds)), (A_p2_oars, .inl (cI, 5, .inl V_p2_oars)), (A_p2_wills, .inl (cI, 5, .inl V_p2_wills))]) E hP hD hS 0 rfl tw_146 dX4_row_88 rfl (fun H locs hP hD hS => ?_)
    refine lv_iload_n hx hb dX4_row_91 rfl (lv_at hl 0 rfl) ?_
    obtain rfl := Option.some.inj hM
    exact x_iret E hP hD hS dX4_row_92
def X4_copy (V_t : Nat → Int32) (V_t_knots : Nat → Int32) (V_p1 : Nat → Int32) (V_p1_knots : Nat → Int32) : Option ((Nat → Int32) × (Nat → Int32)) := (some ((upd (upd (upd (upd (upd V_t 1 (V_p1 1)) 2 (V_p1 2)) 3 (V_p1 3)) 4 (V_p1 4)) 5 (V_p1 5)), (va_cpy V_p1_knots V_t_knots (0 : Int32).toNatClampNeg (0 : Int32).toNatClampNeg (5 : Int32).toNatClampNeg)))
theorem ok_X4_copy : xV yX4_copy cX4_copy 2 none 1 := ⟨tw_428, tw_426, tw_427, tw_54, by decide +kernel, by decide +kernel, by decide +kernel⟩
set_option maxHeartbeats 4000000 in
set_option maxRecDepth 100000 in
theorem c_X4_copy (l : Launch) (D : va_G) (cI cB : ClassId) (A_t A_t_knots A_p1 A_p1_knots : Nat) (V_t : Nat → Int32) (V_t_knots : Nat → Int32) (V_p1 : Nat → Int32) (V_p1_knots : Nat → Int32) (r : (Nat → Int32) × (Nat → Int32)) (hM : X4_copy V_t V_t_knots V_p1 V_p1_knots = some r) : xC l D (xT cI cB) yX4_copy cX4_copy 2 none { frames := 1, cells := 0, slots := 0, locals := 18 } [.ref A_t, .ref A_p1] [(A_t, oX4 A_t_knots V_t), (A_t_knots, .inl (cI, 5, .inl V_t_knots)), (A_p1, oX4 A_p1_knots V_p1), (A_p1_knots, .inl (cI, 5, .inl V_p1_knots))] none [(A_t, oX4 A_t_knots r.1), (A_t_knots, .inl (cI, 5, .inl r.2)), (A_p1, oX4 A_p1_knots V_p1), (A_p1_knots, .inl (cI, 5, .inl V_p1_knots))] := by
  refine xC.of (by decide +kernel) (Nat.le_of_ble_eq_true rfl) (fun p e s m below meth c A ls E hP hD hS hl => ?_)
  obtain ⟨hx, hb, hr, hts, hown, hml, hlocks, hA, hK⟩ := id E
  replace hl : lv_has ls 2 [(0, .ref A_t), (1, .ref A_p1)] := hl
  rw [X4_copy] at hM
  refine lv_aload_n hx hb dX4_copy_0 rfl (lv_at hl 1 rfl) ?_
  refine gx4_0 E hP 2 rfl tw_139 dX4_copy_1 ?_
  refine lv_iconst (v := 0) hx hb dX4_copy_4 (by decide) ?_
  refine lv_aload_n hx hb dX4_copy_5 rfl (lv_at hl 0 rfl) ?_
  refine gx4_0 E hP 0 rfl tw_139 dX4_copy_6 ?_
  refine lv_iconst (v := 0) hx hb dX4_copy_9 (by decide) ?_
  refine lv_iconst (v := 5) hx hb dX4_copy_10 (by decide) ?_
  refine x_copy (wn := [(A_t, oX4 A_t_knots V_t), (A_t_knots, .inl (cI, 5, .inl (va_cpy V_p1_knots V_t_knots (0 : Int32).toNatClampNeg (0 : Int32).toNatClampNeg (5 : Int32).toNatClampNeg))), (A_p1, oX4 A_p1_knots V_p1), (A_p1_knots, .inl (cI, 5, .inl V_p1_knots))]) E hl.1 tw_429 tw_431 tw_430 tw_57 hP hD hS 3 1 rfl rfl (by decide) (by decide) (by decide) (by decide) (by decide) (Nat.le_of_ble_eq_true rfl) (Nat.le_of_ble_eq_true rfl) dX4_copy_11 rfl (fun H locs hP hD hS => ?_)
  refine lv_aload_n hx hb dX4_copy_14 rfl (lv_at hl 0 rfl) ?_
  refine lv_aload_n hx hb dX4_copy_15 rfl (lv_at hl 1 rfl) ?_
  refine gx4_1 (v := (V_p1 1)) E hP 2 rfl rfl tw_140 dX4_copy_16 ?_
  refine px4_1 (wn := [(A_t, oX4 A_t_knots (upd V_t 1 (V_p1 1))), (A_t_knots, .inl (cI, 5, .inl (va_cpy V_p1_knots V_t_knots (0 : Int32).toNatClampNeg (0 : Int32).toNatClampNeg (5 : Int32).toNatClampNeg))), (A_p1, oX4 A_p1_knots V_p1), (A_p1_knots, .inl (cI, 5, .inl V_p1_knots))]) E hP hD hS 0 rfl tw_140 dX4_copy_19 rfl (fun H locs hP hD hS => ?_)
  refine lv_aload_n hx hb dX4_copy_22 rfl (lv_at hl 0 rfl) ?_
  refine lv_aload_n hx hb dX4_copy_23 rfl (lv_at hl 1 rfl) ?_
  refine gx4_2 (v := (V_p1 2)) E hP 2 rfl rfl tw_142 dX4_copy_24 ?_
  refine px4_2 (wn := [(A_t, oX4 A_t_knots (upd (upd V_t 1 (V_p1 1)) 2 (V_p1 2))), (A_t_knots, .inl (cI, 5, .inl (va_cpy V_p1_knots V_t_knots (0 : Int32).toNatClampNeg (0 : Int32).toNatClampNeg (5 : Int32).toNatClampNeg))), (A_p1, oX4 A_p1_knots V_p1), (A_p1_knots, .inl (cI, 5, .inl V_p1_knots))]) E hP hD hS 0 rfl tw_142 dX4_copy_27 rfl (fun H locs hP hD hS => ?_)
  refine lv_aload_n hx hb dX4_copy_30 rfl (lv_at hl 0 rfl) ?_
  refine lv_aload_n hx hb dX4_copy_31 rfl (lv_at hl 1 rfl) ?_
  refine gx4_3 (v := (V_p1 3)) E hP 2 rfl rfl tw_144 dX4_copy_32 ?_
  refine px4_3 (wn := [(A_t, oX4 A_t_knots (upd (upd (upd V_t 1 (V_p1 1)) 2 (V_p1 2)) 3 (V_p1 3))), (A_t_knots, .inl (cI, 5, .inl (va_cpy V_p1_knots V_t_knots (0 : Int32).toNatClampNeg (0 : Int32).toNatClampNeg (5 : Int32).toNatClampNeg))), (A_p1, oX4 A_p1_knots V_p1), (A_p1_knots, .inl (cI, 5, .inl V_p1_knots))]) E hP hD hS 0 rfl tw_144 dX4_copy_35 rfl (fun H locs hP hD hS => ?_)
  refine lv_aload_n hx hb dX4_copy_38 rfl (lv_at hl 0 rfl) ?_
  refine lv_aload_n hx hb dX4_copy_39 rfl (lv_at hl 1 rfl) ?_
  refine gx4_4 (v := (V_p1 4)) E hP 2 rfl rfl tw_146 dX4_copy_40 ?_
  refine px4_4 (wn := [(A_t, oX4 A_t_knots (upd (upd (upd (upd V_t 1 (V_p1 1)) 2 (V_p1 2)) 3 (V_p1 3)) 4 (V_p1 4))), (A_t_knots, .inl (cI, 5, .inl (va_cpy V_p1_knots V_t_knots (0 : Int32).toNatClampNeg (0 : Int32).toNatClampNeg (5 : Int32).toNatClampNeg))), (A_p1, oX4 A_p1_knots V_p1), (A_p1_knots, .inl (cI, 5, .inl V_p1_knots))]) E hP hD hS 0 rfl tw_146 dX4_copy_43 rfl (fun H locs hP hD hS => ?_)
  refine lv_aload_n hx hb dX4_copy_46 rfl (lv_at hl 0 rfl) ?_
  refine lv_aload_n hx hb dX4_copy_47 rfl (lv_at hl 1 rfl) ?_
  refine gx4_5 (v := (V_p1 5)) E hP 2 rfl rfl tw_148 dX4_copy_48 ?_
  refine px4_5 (wn := [(A_t, oX4 A_t_knots (upd (upd (upd (upd (upd V_t 1 (V_p1 1)) 2 (V_p1 2)) 3 (V_p1 3)) 4 (V_p1 4)) 5 (V_p1 5))), (A_t_knots, .inl (cI, 5, .inl (va_cpy V_p1_knots V_t_knots (0 : Int32).toNatClampNeg (0 : Int32).toNatClampNeg (5 : Int32).toNatClampNeg))), (A_p1, oX4 A_p1_knots V_p1), (A_p1_knots, .inl (cI, 5, .inl V_p1_knots))]) E hP hD hS 0 rfl tw_148 dX4_copy_51 rfl (fun H locs hP hD hS => ?_)
  obtain rfl := Option.some.inj hM
  exact x_vret E hP hD hS dX4_copy_54
def X4_rowOn_2 (n : Nat) (V_t_knots : Nat → Int32) (V_p1 : Nat → Int32) (V_p1_songs : Nat → Int32) (V_p1_rocks : Nat → Int32) (V_p2 : Nat → Int32) (V_p2_kinds : Nat → Int32) (V_p2_oars : Nat → Int32) (V_p2_wills : Nat → Int32) : Nat → (Nat → Int32) → Int32 → Option (Int32 × (Nat → Int32))
  | 0, _, _ => none
  | k + 1, V_t, L3 => (if (30 : Int32) ≤ L3 then (some (L3, V_t)) else (if (V_t 5) = 0 then ((X4_row n V_t V_t_knots V_p1 V_p1_songs V_p1_rocks V_p2 V_p2_kinds V_p2_oars V_p2_wills).bind fun u1 => (X4_rowOn_2 n V_t_knots V_p1 V_p1_songs V_p1_rocks V_p2 V_p2_kinds V_p2_oars V_p2_wills k u1.2 (L3 + 1))) else (some (L3, V_t))))
set_option maxHeartbeats 4000000 in
set_option maxRecDepth 100000 in
theorem lp_X4_rowOn_2 (n : Nat) (l : Launch) (D : va_G) (cI cB : ClassId) (A_t A_t_knots A_p1 A_p1_songs A_p1_rocks A_p2 A_p2_kinds A_p2_oars A_p2_wills : Nat) (V_t_knots : Nat → Int32) (V_p1 : Nat → Int32) (V_p1_songs : Nat → Int32) (V_p1_rocks : Nat → Int32) (V_p2 : Nat → Int32) (V_p2_kinds : Nat → Int32) (V_p2_oars : Nat → Int32) (V_p2_wills : Nat → Int32) (r : Int32 × (Nat → Int32)) {p : Program} {e : Env} {s : State} {m : MethodId} {args : Array Value} {below : List Frame} {meth : Method} {c : Code} {A : Nat → Prop} (E : xE p s m args meth c A D (xT cI cB) RX4 cX4_rowOn 4 (some .int)) :
    ∀ (k : Nat) (V_t : Nat → Int32) (L3 : Int32), X4_rowOn_2 n V_t_knots V_p1 V_p1_songs V_p1_rocks V_p2 V_p2_kinds V_p2_oars V_p2_wills k V_t L3 = some r → ∀ (H : Heap) (locs : List Loc) (ls : Array Slot), va_P D vwCl [(A_t, oX4 A_t_knots V_t), (A_t_knots, .inl (cI, 5, .inl V_t_knots)), (A_p1, oX3 A_p1_songs A_p1_rocks V_p1), (A_p1_songs, .inl (cI, 12, .inl V_p1_songs)), (A_p1_rocks, .inl (cI, 12, .inl V_p1_rocks)), (A_p2, oX0 A_p2_kinds A_p2_oars A_p2_wills V_p2), (A_p2_kinds, .inl (cI, 5, .inl V_p2_kinds)), (A_p2_oars, .inl (cI, 5, .inl V_p2_oars)), (A_p2_wills, .inl (cI, 5, .inl V_p2_wills))] H → va_D A [(A_t, oX4 A_t_knots V_t), (A_t_knots, .inl (cI, 5, .inl V_t_knots)), (A_p1, oX3 A_p1_songs A_p1_rocks V_p1), (A_p1_songs, .inl (cI, 12, .inl V_p1_songs)), (A_p1_rocks, .inl (cI, 12, .inl V_p1_rocks)), (A_p2, oX0 A_p2_kinds A_p2_oars A_p2_wills V_p2), (A_p2_kinds, .inl (cI, 5, .inl V_p2_kinds)), (A_p2_oars, .inl (cI, 5, .inl V_p2_oars)), (A_p2_wills, .inl (cI, 5, .inl V_p2_wills))] → va_S A s.heap H locs → lv_has ls 4 [(0, .ref A_t), (1, .ref A_p1), (2, .ref A_p2), (3, .int L3)] → W p l e { frames := 4, cells := 0, slots := 0, locals := 93 } s m args below meth c H locs 0 0 (MQ below (xQ D (xT cI cB) [(A_t, oX4 A_t_knots r.2), (A_t_knots, .inl (cI, 5, .inl V_t_knots)), (A_p1, oX3 A_p1_songs A_p1_rocks V_p1), (A_p1_songs, .inl (cI, 12, .inl V_p1_songs)), (A_p1_rocks, .inl (cI, 12, .inl V_p1_rocks)), (A_p2, oX0 A_p2_kinds A_p2_oars A_p2_wills V_p2), (A_p2_kinds, .inl (cI, 5, .inl V_p2_kinds)), (A_p2_oars, .inl (cI, 5, .inl V_p2_oars)), (A_p2_wills, .inl (cI, 5, .inl V_p2_wills))] (some (.int r.1)) A) args s 0 0 A) (F0 m 2 ls []) := by
  obtain ⟨hx, hb, hr, hts, hown, hml, hlocks, hA, hK⟩ := id E
  intro k
  induction k with
  | zero =>
    intro V_t L3 hM
    rw [X4_rowOn_2] at hM
    cases hM
  | succ k ih =>
    intro V_t L3 hM H locs ls hP hD hS hl
    rw [X4_rowOn_2] at hM
    refine lv_iload_n hx hb dX4_rowOn_2 rfl (lv_at hl 3 rfl) ?_
    refine lv_bipush (v := 30) hx hb dX4_rowOn_3 (by decide) ?_
    refine lv_icmp_ge (tgt := 28) hx hb dX4_rowOn_5 (by decide) (fun c4 => ?_) (fun c4 => ?_)
    · replace hM := og_p c4 hM
      refine lv_iload_n hx hb dX4_rowOn_28 rfl (lv_at hl 3 rfl) ?_
      obtain rfl := Option.some.inj hM
      exact x_iret E hP hD hS dX4_rowOn_29
    · replace hM := og_n c4 hM
      refine lv_aload_n hx hb dX4_rowOn_8 rfl (lv_at hl 0 rfl) ?_
      refine gx4_5 (v := (V_t 5)) E hP 0 rfl rfl tw_148 dX4_rowOn_9 ?_
      refine lv_if_ne (tgt := 28) hx hb dX4_rowOn_12 (by decide) (fun c3 => ?_) (fun c3 => ?_)
      · replace hM := og_n c3 hM
        refine lv_iload_n hx hb dX4_rowOn_28 rfl (lv_at hl 3 rfl) ?_
        obtain rfl := Option.some.inj hM
        exact x_iret E hP hD hS dX4_rowOn_29
      · replace hM := og_p c3 hM
        refine lv_aload_n hx hb dX4_rowOn_15 rfl (lv_at hl 0 rfl) ?_
        refine lv_aload_n hx hb dX4_rowOn_16 rfl (lv_at hl 1 rfl) ?_
        refine lv_aload_n hx hb dX4_rowOn_17 rfl (lv_at hl 2 rfl) ?_
        obtain ⟨u1, hu2, hM⟩ := og_b hM
        refine x_Vi (n := 2) (q0 := 0) (rest := []) (wn := [(A_t, oX4 A_t_knots u1.2), (A_t_knots, .inl (cI, 5, .inl V_t_knots)), (A_p1, oX3 A_p1_songs A_p1_rocks V_p1), (A_p1_songs, .inl (cI, 12, .inl V_p1_songs)), (A_p1_rocks, .inl (cI, 12, .inl V_p1_rocks)), (A_p2, oX0 A_p2_kinds A_p2_oars A_p2_wills V_p2), (A_p2_kinds, .inl (cI, 5, .inl V_p2_kinds)), (A_p2_oars, .inl (cI, 5, .inl V_p2_oars)), (A_p2_wills, .inl (cI, 5, .inl V_p2_wills))]) E (c_X4_row n l D cI cB A_t A_t_knots A_p1 A_p1_songs A_p1_rocks A_p2 A_p2_kinds A_p2_oars A_p2_wills V_t V_t_knots V_p1 V_p1_songs V_p1_rocks V_p2 V_p2_kinds V_p2_oars V_p2_wills u1 hu2) ok_X4_row tw_436 ⟨rfl, rfl⟩ ⟨Nat.le_of_ble_eq_true rfl, Nat.le_of_ble_eq_true rfl⟩ rfl rfl (Nat.le_of_ble_eq_true rfl) hl dX4_rowOn_18 ⟨Nat.zero_le _, Nat.zero_le _⟩ hP hD hS [0, 1, 2, 3, 4, 5, 6, 7, 8] [] [] [A_t, A_t_knots, A_p1, A_p1_songs, A_p1_rocks, A_p2, A_p2_kinds, A_p2_oars, A_p2_wills] 9 rfl rfl rfl rfl rfl rfl rfl (by decide +kernel) rfl rfl rfl (fun H locs hP hD hS => ?_)
        refine lv_pop hx hb dX4_rowOn_21 rfl ?_
        refine lv_iinc (v := (L3 + 1)) (lv' := [(3, .int (L3 + 1)), (0, .ref A_t), (1, .ref A_p1), (2, .ref A_p2)]) hx hb dX4_rowOn_22 hl (k := 3) rfl rfl (by decide) rfl (fun ls hl => ?_)
        refine lv_goto (tgt := 2) hx hb dX4_rowOn_25 (by decide) ?_
        exact ih u1.2 (L3 + 1) hM _ _ _ hP hD hS (lv_sub hl [1, 2, 3, 0] rfl)
def X4_rowOn (n : Nat) (V_t : Nat → Int32) (V_t_knots : Nat → Int32) (V_p1 : Nat → Int32) (V_p1_songs : Nat → Int32) (V_p1_rocks : Nat → Int32) (V_p2 : Nat → Int32) (V_p2_kinds : Nat → Int32) (V_p2_oars : Nat → Int32) (V_p2_wills : Nat → Int32) : Option (Int32 × (Nat → Int32)) := (X4_rowOn_2 n V_t_knots V_p1 V_p1_songs V_p1_rocks V_p2 V_p2_kinds V_p2_oars V_p2_wills n V_t (0 : Int32))
theorem ok_X4_rowOn : xV yX4_rowOn cX4_rowOn 4 (some .int) 2 := ⟨tw_435, tw_433, tw_434, tw_54, by decide +kernel, by decide +kernel, by decide +kernel⟩
set_option maxHeartbeats 4000000 in
set_option maxRecDepth 100000 in
theorem c_X4_rowOn (n : Nat) (l : Launch) (D : va_G) (cI cB : ClassId) (A_t A_t_knots A_p1 A_p1_songs A_p1_rocks A_p2 A_p2_kinds A_p2_oars A_p2_wills : Nat) (V_t : Nat → Int32) (V_t_knots : Nat → Int32) (V_p1 : Nat → Int32) (V_p1_songs : Nat → Int32) (V_p1_rocks : Nat → Int32) (V_p2 : Nat → Int32) (V_p2_kinds : Nat → Int32) (V_p2_oars : Nat → Int32) (V_p2_wills : Nat → Int32) (r : Int32 × (Nat → Int32)) (hM : X4_rowOn n V_t V_t_knots V_p1 V_p1_songs V_p1_rocks V_p2 V_p2_kinds V_p2_oars V_p2_wills = some r) : xC l D (xT cI cB) yX4_rowOn cX4_rowOn 4 (some .int) { frames := 4, cells := 0, slots := 0, locals := 93 } [.ref A_t, .ref A_p1, .ref A_p2] [(A_t, oX4 A_t_knots V_t), (A_t_knots, .inl (cI, 5, .inl V_t_knots)), (A_p1, oX3 A_p1_songs A_p1_rocks V_p1), (A_p1_songs, .inl (cI, 12, .inl V_p1_songs)), (A_p1_rocks, .inl (cI, 12, .inl V_p1_rocks)), (A_p2, oX0 A_p2_kinds A_p2_oars A_p2_wills V_p2), (A_p2_kinds, .inl (cI, 5, .inl V_p2_kinds)), (A_p2_oars, .inl (cI, 5, .inl V_p2_oars)), (A_p2_wills, .inl (cI, 5, .inl V_p2_wills))] (some (.int r.1)) [(A_t, oX4 A_t_knots r.2), (A_t_knots, .inl (cI, 5, .inl V_t_knots)), (A_p1, oX3 A_p1_songs A_p1_rocks V_p1), (A_p1_songs, .inl (cI, 12, .inl V_p1_songs)), (A_p1_rocks, .inl (cI, 12, .inl V_p1_rocks)), (A_p2, oX0 A_p2_kinds A_p2_oars A_p2_wills V_p2), (A_p2_kinds, .inl (cI, 5, .inl V_p2_kinds)), (A_p2_oars, .inl (cI, 5, .inl V_p2_oars)), (A_p2_wills, .inl (cI, 5, .inl V_p2_wills))] := by
  refine xC.of (by decide +kernel) (Nat.le_of_ble_eq_true rfl) (fun p e s m below meth c A ls E hP hD hS hl => ?_)
  obtain ⟨hx, hb, hr, hts, hown, hml, hlocks, hA, hK⟩ := id E
  replace hl : lv_has ls 4 [(0, .ref A_t), (1, .ref A_p1), (2, .ref A_p2)] := hl
  rw [X4_rowOn] at hM
  refine lv_iconst (v := 0) hx hb dX4_rowOn_0 (by decide) ?_
  refine lv_istore_n (lv' := [(3, .int (0 : Int32)), (0, .ref A_t), (1, .ref A_p1), (2, .ref A_p2)]) hx hb dX4_rowOn_1 rfl hl (by decide) rfl (fun ls hl => ?_)
  exact lp_X4_rowOn_2 n l D cI cB A_t A_t_knots A_p1 A_p1_songs A_p1_rocks A_p2 A_p2_kinds A_p2_oars A_p2_wills V_t_knots V_p1 V_p1_songs V_p1_rocks V_p2 V_p2_kinds V_p2_oars V_p2_wills r E n V_t (0 : Int32) hM _ _ _ hP hD hS (lv_sub hl [1, 2, 3, 0] rfl)
def X4_lostOf (V_t : Nat → Int32) (V_p1 : Nat → Int32) : Option (Int32) := ((J6_bitCount_0f7a4 (V_t 2)).bind fun u1 => (some (((V_p1 3) - u1))))
theorem ok_X4_lostOf : xV yX4_lostOf cX4_lostOf 2 (some .int) 1 := ⟨tw_440, tw_438, tw_439, tw_54, by decide +kernel, by decide +kernel, by decide +kernel⟩
set_option maxHeartbeats 4000000 in
set_option maxRecDepth 100000 in
theorem c_X4_lostOf (l : Launch) (D : va_G) (cI cB : ClassId) (A_t A_t_knots A_p1 A_p1_kinds A_p1_oars A_p1_wills : Nat) (V_t : Nat → Int32) (V_p1 : Nat → Int32) (r : Int32) (hM : X4_lostOf V_t V_p1 = some r) : xC l D (xT cI cB) yX4_lostOf cX4_lostOf 2 (some .int) { frames := 1, cells := 0, slots := 0, locals := 20 } [.ref A_t, .ref A_p1] [(A_t, oX4 A_t_knots V_t), (A_p1, oX0 A_p1_kinds A_p1_oars A_p1_wills V_p1)] (some (.int r)) [(A_t, oX4 A_t_knots V_t), (A_p1, oX0 A_p1_kinds A_p1_oars A_p1_wills V_p1)] := by
  refine xC.of (by decide +kernel) (Nat.le_of_ble_eq_true rfl) (fun p e s m below meth c A ls E hP hD hS hl => ?_)
  obtain ⟨hx, hb, hr, hts, hown, hml, hlocks, hA, hK⟩ := id E
  replace hl : lv_has ls 2 [(0, .ref A_t), (1, .ref A_p1)] := hl
  rw [X4_lostOf] at hM
  refine lv_aload_n hx hb dX4_lostOf_0 rfl (lv_at hl 1 rfl) ?_
  refine gx0_3 (v := (V_p1 3)) E hP 1 rfl rfl tw_123 dX4_lostOf_1 ?_
  refine lv_aload_n hx hb dX4_lostOf_4 rfl (lv_at hl 0 rfl) ?_
  refine gx4_2 (v := (V_t 2)) E hP 0 rfl rfl tw_142 dX4_lostOf_5 ?_
  obtain ⟨u1, hu2, hM⟩ := og_b hM
  refine x_Si (n := 1) (rest := [.int (V_p1 3)]) (wn := [(A_t, oX4 A_t_knots V_t), (A_p1, oX0 A_p1_kinds A_p1_oars A_p1_wills V_p1)]) E (c_J6_bitCount_0f7a4 l D cI cB (V_t 2) u1 hu2) ok_J6_bitCount_0f7a4 tw_441 ⟨rfl, rfl⟩ ⟨Nat.le_of_ble_eq_true rfl, Nat.le_of_ble_eq_true rfl⟩ rfl rfl (Nat.le_of_ble_eq_true rfl) hl dX4_lostOf_8 ⟨Nat.zero_le _, Nat.zero_le _⟩ hP hD hS [] [0, 1] [(A_t, oX4 A_t_knots V_t), (A_p1, oX0 A_p1_kinds A_p1_oars A_p1_wills V_p1)] [A_t, A_p1] 2 rfl rfl rfl rfl rfl rfl rfl (by decide +kernel) (fun H locs hP hD hS => ?_)
  refine lv_isub hx hb dX4_lostOf_11 ?_
  obtain rfl := Option.some.inj hM
  exact x_iret E hP hD hS dX4_lostOf_12
