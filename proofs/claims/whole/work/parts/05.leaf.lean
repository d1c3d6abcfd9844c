/-! LAYER 1, made by wip/whole/gen.py: J6, X0, X1, X2, X3 -/
def X2_add (V_t : Nat → Int32) (V_t_letters : Nat → Int32) (P1 : Int32) : Option ((Nat → Int32) × (Nat → Int32)) := (if (V_t 1) < 0 then (some (V_t, V_t_letters)) else (if (30 : Int32) ≤ (V_t 1) then (some (V_t, V_t_letters)) else (if xin (V_t 1) 30 then (some ((upd V_t 1 ((V_t 1) + (1 : Int32))), (upd V_t_letters (V_t 1).toNatClampNeg P1))) else none)))
theorem ok_X2_add : xV yX2_add cX2_add 2 none 1 := ⟨tw_221, tw_219, tw_220, tw_51, by decide +kernel, by decide +kernel, by decide +kernel⟩
set_option maxHeartbeats 4000000 in
set_option maxRecDepth 100000 in
theorem c_X2_add (l : Launch) (D : va_G) (cI cB : ClassId) (A_t A_t_letters : Nat) (V_t : Nat → Int32) (V_t_letters : Nat → Int32) (P1 : Int32) (r : (Nat → Int32) × (Nat → Int32)) (hM : X2_add V_t V_t_letters P1 = some r) : xC l D (xT cI cB) yX2_add cX2_add 2 none { frames := 0, cells := 0, slots := 0, locals := 0 } [.ref A_t, .int P1] [(A_t, oX2 A_t_letters V_t), (A_t_letters, .inl (cI, 30, .inl V_t_letters))] none [(A_t, oX2 A_t_letters r.1), (A_t_letters, .inl (cI, 30, .inl r.2))] := by
  refine xC.of (by decide +kernel) (Nat.le_of_ble_eq_true rfl) (fun p e s m below meth c A ls E hP hD hS hl => ?_)
  obtain ⟨hx, hb, hr, hts, hown, hml, hlocks, hA, hK⟩ := id E
  replace hl : lv_has ls 2 [(0, .ref A_t), (1, .int P1)] := hl
  rw [X2_add] at hM
  refine lv_aload_n hx hb dX2_add_0 rfl (lv_at hl 0 rfl) ?_
  refine gx2_1 (v := (V_t 1)) E hP 0 rfl rfl tw_75 dX2_add_1 ?_
  refine lv_if_lt (tgt := 39) hx hb dX2_add_4 (by decide) (fun c3 => ?_) (fun c3 => ?_)
  · replace hM := og_p c3 hM
    obtain rfl := Option.some.inj hM
    exact x_vret E hP hD hS dX2_add_39
  · replace hM := og_n c3 hM
    refine lv_aload_n hx hb dX2_add_7 rfl (lv_at hl 0 rfl) ?_
    refine gx2_1 (v := (V_t 1)) E hP 0 rfl rfl tw_75 dX2_add_8 ?_
    refine lv_aload_n hx hb dX2_add_11 rfl (lv_at hl 0 rfl) ?_
    refine gx2_0 E hP 0 rfl tw_74 dX2_add_12 ?_
    refine x_alen (v := 30) E hP 1 rfl (by decide) dX2_add_15 ?_
    refine lv_icmp_ge (tgt := 39) hx hb dX2_add_16 (by decide) (fun c2 => ?_) (fun c2 => ?_)
    · replace hM := og_p c2 hM
      obtain rfl := Option.some.inj hM
      exact x_vret E hP hD hS dX2_add_39
    · replace hM := og_n c2 hM
      refine lv_aload_n hx hb dX2_add_19 rfl (lv_at hl 0 rfl) ?_
      refine gx2_0 E hP 0 rfl tw_74 dX2_add_20 ?_
      refine lv_aload_n hx hb dX2_add_23 rfl (lv_at hl 0 rfl) ?_
      refine gx2_1 (v := (V_t 1)) E hP 0 rfl rfl tw_75 dX2_add_24 ?_
      refine lv_iload_n hx hb dX2_add_27 rfl (lv_at hl 1 rfl) ?_
      obtain ⟨hi1, hM⟩ := og_g hM
      refine x_iast (wn := [(A_t, oX2 A_t_letters V_t), (A_t_letters, .inl (cI, 30, .inl (upd V_t_letters (V_t 1).toNatClampNeg P1)))]) E hi1 hP hD hS 1 rfl dX2_add_28 rfl (fun H locs hP hD hS => ?_)
      refine lv_aload_n hx hb dX2_add_29 rfl (lv_at hl 0 rfl) ?_
      refine lv_dup hx hb dX2_add_30 rfl ?_
      refine gx2_1 (v := (V_t 1)) E hP 0 rfl rfl tw_75 dX2_add_31 ?_
      refine lv_iconst (v := 1) hx hb dX2_add_34 (by decide) ?_
      refine lv_iadd hx hb dX2_add_35 ?_
      refine px2_1 (wn := [(A_t, oX2 A_t_letters (upd V_t 1 ((V_t 1) + (1 : Int32)))), (A_t_letters, .inl (cI, 30, .inl (upd V_t_letters (V_t 1).toNatClampNeg P1)))]) E hP hD hS 0 rfl tw_75 dX2_add_36 rfl (fun H locs hP hD hS => ?_)
      obtain rfl := Option.some.inj hM
      exact x_vret E hP hD hS dX2_add_39
def X2_codeAt (V_t : Nat → Int32) (V_t_letters : Nat → Int32) (P1 : Int32) : Option (Int32) := (if P1 < 0 then (some ((0 : Int32))) else (if (30 : Int32) ≤ P1 then (some ((0 : Int32))) else (if xin P1 30 then (some ((V_t_letters P1.toNatClampNeg))) else none)))
theorem ok_X2_codeAt : xV yX2_codeAt cX2_codeAt 2 (some .int) 1 := ⟨tw_237, tw_235, tw_236, tw_51, by decide +kernel, by decide +kernel, by decide +kernel⟩
set_option maxHeartbeats 4000000 in
set_option maxRecDepth 100000 in
theorem c_X2_codeAt (l : Launch) (D : va_G) (cI cB : ClassId) (A_t A_t_letters : Nat) (V_t : Nat → Int32) (V_t_letters : Nat → Int32) (P1 : Int32) (r : Int32) (hM : X2_codeAt V_t V_t_letters P1 = some r) : xC l D (xT cI cB) yX2_codeAt cX2_codeAt 2 (some .int) { frames := 0, cells := 0, slots := 0, locals := 0 } [.ref A_t, .int P1] [(A_t, oX2 A_t_letters V_t), (A_t_letters, .inl (cI, 30, .inl V_t_letters))] (some (.int r)) [(A_t, oX2 A_t_letters V_t), (A_t_letters, .inl (cI, 30, .inl V_t_letters))] := by
  refine xC.of (by decide +kernel) (Nat.le_of_ble_eq_true rfl) (fun p e s m below meth c A ls E hP hD hS hl => ?_)
  obtain ⟨hx, hb, hr, hts, hown, hml, hlocks, hA, hK⟩ := id E
  replace hl : lv_has ls 2 [(0, .ref A_t), (1, .int P1)] := hl
  rw [X2_codeAt] at hM
  refine lv_iload_n hx hb dX2_codeAt_0 rfl (lv_at hl 1 rfl) ?_
  refine lv_if_lt (tgt := 22) hx hb dX2_codeAt_1 (by decide) (fun c3 => ?_) (fun c3 => ?_)
  · replace hM := og_p c3 hM
    refine lv_iconst (v := 0) hx hb dX2_codeAt_22 (by decide) ?_
    obtain rfl := Option.some.inj hM
    exact x_iret E hP hD hS dX2_codeAt_23
  · replace hM := og_n c3 hM
    refine lv_iload_n hx hb dX2_codeAt_4 rfl (lv_at hl 1 rfl) ?_
    refine lv_aload_n hx hb dX2_codeAt_5 rfl (lv_at hl 0 rfl) ?_
    refine gx2_0 E hP 0 rfl tw_74 dX2_codeAt_6 ?_
    refine x_alen (v := 30) E hP 1 rfl (by decide) dX2_codeAt_9 ?_
    refine lv_icmp_ge (tgt := 22) hx hb dX2_codeAt_10 (by decide) (fun c2 => ?_) (fun c2 => ?_)
    · replace hM := og_p c2 hM
      refine lv_iconst (v := 0) hx hb dX2_codeAt_22 (by decide) ?_
      obtain rfl := Option.some.inj hM
      exact x_iret E hP hD hS dX2_codeAt_23
    · replace hM := og_n c2 hM
      refine lv_aload_n hx hb dX2_codeAt_13 rfl (lv_at hl 0 rfl) ?_
      refine gx2_0 E hP 0 rfl tw_74 dX2_codeAt_14 ?_
      refine lv_iload_n hx hb dX2_codeAt_17 rfl (lv_at hl 1 rfl) ?_
      obtain ⟨hi1, hM⟩ := og_g hM
      refine x_iald E hi1 hP 1 rfl dX2_codeAt_18 ?_
      refine lv_goto (tgt := 23) hx hb dX2_codeAt_19 (by decide) ?_
      obtain rfl := Option.some.inj hM
      exact x_iret E hP hD hS dX2_codeAt_23
def X2_isInHead (V_t : Nat → Int32) (V_t_letters : Nat → Int32) (P1 : Int32) (P2 : Int32) : Option (Bool) := (if P1 = 0 then (if P2 < (48 : Int32) then (some (false)) else (if (52 : Int32) < P2 then (some (false)) else (some (true)))) else (if P1 = 1 then (if P2 < (48 : Int32) then (some (false)) else ((X2_codeAt V_t V_t_letters (0 : Int32)).bind fun u5 => (if u5 = (52 : Int32) then (if (53 : Int32) < P2 then (some (false)) else (some (true))) else (if (57 : Int32) < P2 then (some (false)) else (some (true)))))) else (if P1 = 2 then (if P2 < (49 : Int32) then (some (false)) else (if (57 : Int32) < P2 then (some (false)) else (some (true)))) else (if P2 = (58 : Int32) then (some (true)) else (some (false))))))
theorem ok_X2_isInHead : xV yX2_isInHead cX2_isInHead 3 (some .boolean) 2 := ⟨tw_241, tw_240, tw_0, tw_51, by decide +kernel, by decide +kernel, by decide +kernel⟩
set_option maxHeartbeats 4000000 in
set_option maxRecDepth 100000 in
theorem c_X2_isInHead (l : Launch) (D : va_G) (cI cB : ClassId) (A_t A_t_letters : Nat) (V_t : Nat → Int32) (V_t_letters : Nat → Int32) (P1 : Int32) (P2 : Int32) (r : Bool) (hM : X2_isInHead V_t V_t_letters P1 P2 = some r) : xC l D (xT cI cB) yX2_isInHead cX2_isInHead 3 (some .boolean) { frames := 1, cells := 0, slots := 0, locals := 21 } [.ref A_t, .int P1, .int P2] [(A_t, oX2 A_t_letters V_t), (A_t_letters, .inl (cI, 30, .inl V_t_letters))] (some (.int (bz r))) [(A_t, oX2 A_t_letters V_t), (A_t_letters, .inl (cI, 30, .inl V_t_letters))] := by
  refine xC.of (by decide +kernel) (Nat.le_of_ble_eq_true rfl) (fun p e s m below meth c A ls E hP hD hS hl => ?_)
  obtain ⟨hx, hb, hr, hts, hown, hml, hlocks, hA, hK⟩ := id E
  replace hl : lv_has ls 3 [(0, .ref A_t), (1, .int P1), (2, .int P2)] := hl
  rw [X2_isInHead] at hM
  refine lv_iload_n hx hb dX2_isInHead_0 rfl (lv_at hl 1 rfl) ?_
  by_cases c1 : P1 = 0
  · replace hM := og_p c1 hM
    refine lv_tableIn (tgt := 28) hx hb dX2_isInHead_1 (by rw [c1]; decide) (by rw [c1]; decide) (by rw [c1]; rfl) (by decide) ?_
    refine lv_iload_n hx hb dX2_isInHead_28 rfl (lv_at hl 2 rfl) ?_
    refine lv_bipush (v := 48) hx hb dX2_isInHead_29 (by decide) ?_
    refine lv_icmp_lt (tgt := 44) hx hb dX2_isInHead_31 (by decide) (fun c3 => ?_) (fun c3 => ?_)
    · replace hM := og_p c3 hM
      refine lv_iconst (v := 0) hx hb dX2_isInHead_44 (by decide) ?_
      obtain rfl := Option.some.inj hM
      exact x_zret (b := false) E hP hD hS dX2_isInHead_45
    · replace hM := og_n c3 hM
      refine lv_iload_n hx hb dX2_isInHead_34 rfl (lv_at hl 2 rfl) ?_
      refine lv_bipush (v := 52) hx hb dX2_isInHead_35 (by decide) ?_
      refine lv_icmp_gt (tgt := 44) hx hb dX2_isInHead_37 (by decide) (fun c2 => ?_) (fun c2 => ?_)
      · replace hM := og_p c2 hM
        refine lv_iconst (v := 0) hx hb dX2_isInHead_44 (by decide) ?_
        obtain rfl := Option.some.inj hM
        exact x_zret (b := false) E hP hD hS dX2_isInHead_45
      · replace hM := og_n c2 hM
        refine lv_iconst (v := 1) hx hb dX2_isInHead_40 (by decide) ?_
        refine lv_goto (tgt := 45) hx hb dX2_isInHead_41 (by decide) ?_
        obtain rfl := Option.some.inj hM
        exact x_zret (b := true) E hP hD hS dX2_isInHead_45
  replace hM := og_n c1 hM
  by_cases c4 : P1 = 1
  · replace hM := og_p c4 hM
    refine lv_tableIn (tgt := 46) hx hb dX2_isInHead_1 (by rw [c4]; decide) (by rw [c4]; decide) (by rw [c4]; rfl) (by decide) ?_
    refine lv_iload_n hx hb dX2_isInHead_46 rfl (lv_at hl 2 rfl) ?_
    refine lv_bipush (v := 48) hx hb dX2_isInHead_47 (by decide) ?_
    refine lv_icmp_lt (tgt := 77) hx hb dX2_isInHead_49 (by decide) (fun c10 => ?_) (fun c10 => ?_)
    · replace hM := og_p c10 hM
      refine lv_iconst (v := 0) hx hb dX2_isInHead_77 (by decide) ?_
      obtain rfl := Option.some.inj hM
      exact x_zret (b := false) E hP hD hS dX2_isInHead_78
    · replace hM := og_n c10 hM
      refine lv_iload_n hx hb dX2_isInHead_52 rfl (lv_at hl 2 rfl) ?_
      refine lv_aload_n hx hb dX2_isInHead_53 rfl (lv_at hl 0 rfl) ?_
      refine lv_iconst (v := 0) hx hb dX2_isInHead_54 (by decide) ?_
      obtain ⟨u5, hu6, hM⟩ := og_b hM
      refine x_Vi (n := 1) (q0 := 0) (rest := [.int P2]) (wn := [(A_t, oX2 A_t_letters V_t), (A_t_letters, .inl (cI, 30, .inl V_t_letters))]) E (c_X2_codeAt l D cI cB A_t A_t_letters V_t V_t_letters (0 : Int32) u5 hu6) ok_X2_codeAt tw_234 ⟨rfl, rfl⟩ ⟨Nat.le_of_ble_eq_true rfl, Nat.le_of_ble_eq_true rfl⟩ rfl rfl (Nat.le_of_ble_eq_true rfl) hl dX2_isInHead_55 ⟨Nat.zero_le _, Nat.zero_le _⟩ hP hD hS [0, 1] [] [] [A_t, A_t_letters] 2 rfl rfl rfl rfl rfl rfl rfl (by decide +kernel) rfl rfl rfl (fun H locs hP hD hS => ?_)
      refine lv_bipush (v := 52) hx hb dX2_isInHead_58 (by decide) ?_
      refine lv_icmp_ne (tgt := 68) hx hb dX2_isInHead_60 (by decide) (fun c9 => ?_) (fun c9 => ?_)
      · replace hM := og_n c9 hM
        refine lv_bipush (v := 57) hx hb dX2_isInHead_68 (by decide) ?_
        refine lv_icmp_gt (tgt := 77) hx hb dX2_isInHead_70 (by decide) (fun c7 => ?_) (fun c7 => ?_)
        · replace hM := og_p c7 hM
          refine lv_iconst (v := 0) hx hb dX2_isInHead_77 (by decide) ?_
          obtain rfl := Option.some.inj hM
          exact x_zret (b := false) E hP hD hS dX2_isInHead_78
        · replace hM := og_n c7 hM
          refine lv_iconst (v := 1) hx hb dX2_isInHead_73 (by decide) ?_
          refine lv_goto (tgt := 78) hx hb dX2_isInHead_74 (by decide) ?_
          obtain rfl := Option.some.inj hM
          exact x_zret (b := true) E hP hD hS dX2_isInHead_78
      · replace hM := og_p c9 hM
        refine lv_bipush (v := 53) hx hb dX2_isInHead_63 (by decide) ?_
        refine lv_goto (tgt := 70) hx hb dX2_isInHead_65 (by decide) ?_
        refine lv_icmp_gt (tgt := 77) hx hb dX2_isInHead_70 (by decide) (fun c8 => ?_) (fun c8 => ?_)
        · replace hM := og_p c8 hM
          refine lv_iconst (v := 0) hx hb dX2_isInHead_77 (by decide) ?_
          obtain rfl := Option.some.inj hM
          exact x_zret (b := false) E hP hD hS dX2_isInHead_78
        · replace hM := og_n c8 hM
          refine lv_iconst (v := 1) hx hb dX2_isInHead_73 (by decide) ?_
          refine lv_goto (tgt := 78) hx hb dX2_isInHead_74 (by decide) ?_
          obtain rfl := Option.some.inj hM
          exact x_zret (b := true) E hP hD hS dX2_isInHead_78
  replace hM := og_n c4 hM
  by_cases c11 : P1 = 2
  · replace hM := og_p c11 hM
    refine lv_tableIn (tgt := 79) hx hb dX2_isInHead_1 (by rw [c11]; decide) (by rw [c11]; decide) (by rw [c11]; rfl) (by decide) ?_
    refine lv_iload_n hx hb dX2_isInHead_79 rfl (lv_at hl 2 rfl) ?_
    refine lv_bipush (v := 49) hx hb dX2_isInHead_80 (by decide) ?_
    refine lv_icmp_lt (tgt := 95) hx hb dX2_isInHead_82 (by decide) (fun c13 => ?_) (fun c13 => ?_)
    · replace hM := og_p c13 hM
      refine lv_iconst (v := 0) hx hb dX2_isInHead_95 (by decide) ?_
      obtain rfl := Option.some.inj hM
      exact x_zret (b := false) E hP hD hS dX2_isInHead_96
    · replace hM := og_n c13 hM
      refine lv_iload_n hx hb dX2_isInHead_85 rfl (lv_at hl 2 rfl) ?_
      refine lv_bipush (v := 57) hx hb dX2_isInHead_86 (by decide) ?_
      refine lv_icmp_gt (tgt := 95) hx hb dX2_isInHead_88 (by decide) (fun c12 => ?_) (fun c12 => ?_)
      · replace hM := og_p c12 hM
        refine lv_iconst (v := 0) hx hb dX2_isInHead_95 (by decide) ?_
        obtain rfl := Option.some.inj hM
        exact x_zret (b := false) E hP hD hS dX2_isInHead_96
      · replace hM := og_n c12 hM
        refine lv_iconst (v := 1) hx hb dX2_isInHead_91 (by decide) ?_
        refine lv_goto (tgt := 96) hx hb dX2_isInHead_92 (by decide) ?_
        obtain rfl := Option.some.inj hM
        exact x_zret (b := true) E hP hD hS dX2_isInHead_96
  replace hM := og_n c11 hM
  have tc1 := lv_neT (a := 0) c1 (by decide)
  have tc4 := lv_neT (a := 1) c4 (by decide)
  have tc11 := lv_neT (a := 2) c11 (by decide)
  refine lv_tableOut (tgt := 97) hx hb dX2_isInHead_1 (by omega) (by decide) ?_
  refine lv_iload_n hx hb dX2_isInHead_97 rfl (lv_at hl 2 rfl) ?_
  refine lv_bipush (v := 58) hx hb dX2_isInHead_98 (by decide) ?_
  refine lv_icmp_ne (tgt := 107) hx hb dX2_isInHead_100 (by decide) (fun c14 => ?_) (fun c14 => ?_)
  · replace hM := og_n c14 hM
    refine lv_iconst (v := 0) hx hb dX2_isInHead_107 (by decide) ?_
    obtain rfl := Option.some.inj hM
    exact x_zret (b := false) E hP hD hS dX2_isInHead_108
  · replace hM := og_p c14 hM
    refine lv_iconst (v := 1) hx hb dX2_isInHead_103 (by decide) ?_
    refine lv_goto (tgt := 108) hx hb dX2_isInHead_104 (by decide) ?_
    obtain rfl := Option.some.inj hM
    exact x_zret (b := true) E hP hD hS dX2_isInHead_108
def X2_isSong (P1 : Int32) : Option (Bool) := (if P1 = (115 : Int32) then (some (true)) else (if P1 = (98 : Int32) then (some (true)) else (some (false))))
theorem ok_X2_isSong : xSt yX2_isSong cX2_isSong 1 (some .boolean) 1 := ⟨tw_247, tw_246, tw_51, by decide +kernel, by decide +kernel, by decide +kernel⟩
set_option maxHeartbeats 4000000 in
set_option maxRecDepth 100000 in
theorem c_X2_isSong (l : Launch) (D : va_G) (cI cB : ClassId) (P1 : Int32) (r : Bool) (hM : X2_isSong P1 = some r) : xC l D (xT cI cB) yX2_isSong cX2_isSong 1 (some .boolean) { frames := 0, cells := 0, slots := 0, locals := 0 } [.int P1] [] (some (.int (bz r))) [] := by
  refine xC.of (by decide +kernel) (Nat.le_of_ble_eq_true rfl) (fun p e s m below meth c A ls E hP hD hS hl => ?_)
  obtain ⟨hx, hb, hr, hts, hown, hml, hlocks, hA, hK⟩ := id E
  replace hl : lv_has ls 1 [(0, .int P1)] := hl
  rw [X2_isSong] at hM
  refine lv_iload_n hx hb dX2_isSong_0 rfl (lv_at hl 0 rfl) ?_
  refine lv_bipush (v := 115) hx hb dX2_isSong_1 (by decide) ?_
  refine lv_icmp_eq (tgt := 12) hx hb dX2_isSong_3 (by decide) (fun c2 => ?_) (fun c2 => ?_)
  · replace hM := og_p c2 hM
    refine lv_iconst (v := 1) hx hb dX2_isSong_12 (by decide) ?_
    refine lv_goto (tgt := 17) hx hb dX2_isSong_13 (by decide) ?_
    obtain rfl := Option.some.inj hM
    exact x_zret (b := true) E hP hD hS dX2_isSong_17
  · replace hM := og_n c2 hM
    refine lv_iload_n hx hb dX2_isSong_6 rfl (lv_at hl 0 rfl) ?_
    refine lv_bipush (v := 98) hx hb dX2_isSong_7 (by decide) ?_
    refine lv_icmp_ne (tgt := 16) hx hb dX2_isSong_9 (by decide) (fun c1 => ?_) (fun c1 => ?_)
    · replace hM := og_n c1 hM
      refine lv_iconst (v := 0) hx hb dX2_isSong_16 (by decide) ?_
      obtain rfl := Option.some.inj hM
      exact x_zret (b := false) E hP hD hS dX2_isSong_17
    · replace hM := og_p c1 hM
      refine lv_iconst (v := 1) hx hb dX2_isSong_12 (by decide) ?_
      refine lv_goto (tgt := 17) hx hb dX2_isSong_13 (by decide) ?_
      obtain rfl := Option.some.inj hM
      exact x_zret (b := true) E hP hD hS dX2_isSong_17
def X2_beginsPlace (P1 : Int32) : Option (Bool) := (if P1 = (46 : Int32) then (some (true)) else (if P1 = (114 : Int32) then (some (true)) else (if P1 = (101 : Int32) then (some (true)) else ((X2_isSong P1).bind fun u1 => (if (bz u1) = 0 then (some (false)) else (some (true)))))))
theorem ok_X2_beginsPlace : xSt yX2_beginsPlace cX2_beginsPlace 1 (some .boolean) 1 := ⟨tw_244, tw_243, tw_51, by decide +kernel, by decide +kernel, by decide +kernel⟩
set_option maxHeartbeats 4000000 in
set_option maxRecDepth 100000 in
theorem c_X2_beginsPlace (l : Launch) (D : va_G) (cI cB : ClassId) (P1 : Int32) (r : Bool) (hM : X2_beginsPlace P1 = some r) : xC l D (xT cI cB) yX2_beginsPlace cX2_beginsPlace 1 (some .boolean) { frames := 1, cells := 0, slots := 0, locals := 20 } [.int P1] [] (some (.int (bz r))) [] := by
  refine xC.of (by decide +kernel) (Nat.le_of_ble_eq_true rfl) (fun p e s m below meth c A ls E hP hD hS hl => ?_)
  obtain ⟨hx, hb, hr, hts, hown, hml, hlocks, hA, hK⟩ := id E
  replace hl : lv_has ls 1 [(0, .int P1)] := hl
  rw [X2_beginsPlace] at hM
  refine lv_iload_n hx hb dX2_beginsPlace_0 rfl (lv_at hl 0 rfl) ?_
  refine lv_bipush (v := 46) hx hb dX2_beginsPlace_1 (by decide) ?_
  refine lv_icmp_eq (tgt := 25) hx hb dX2_beginsPlace_3 (by decide) (fun c6 => ?_) (fun c6 => ?_)
  · replace hM := og_p c6 hM
    refine lv_iconst (v := 1) hx hb dX2_beginsPlace_25 (by decide) ?_
    refine lv_goto (tgt := 30) hx hb dX2_beginsPlace_26 (by decide) ?_
    obtain rfl := Option.some.inj hM
    exact x_zret (b := true) E hP hD hS dX2_beginsPlace_30
  · replace hM := og_n c6 hM
    refine lv_iload_n hx hb dX2_beginsPlace_6 rfl (lv_at hl 0 rfl) ?_
    refine lv_bipush (v := 114) hx hb dX2_beginsPlace_7 (by decide) ?_
    refine lv_icmp_eq (tgt := 25) hx hb dX2_beginsPlace_9 (by decide) (fun c5 => ?_) (fun c5 => ?_)
    · replace hM := og_p c5 hM
      refine lv_iconst (v := 1) hx hb dX2_beginsPlace_25 (by decide) ?_
      refine lv_goto (tgt := 30) hx hb dX2_beginsPlace_26 (by decide) ?_
      obtain rfl := Option.some.inj hM
      exact x_zret (b := true) E hP hD hS dX2_beginsPlace_30
    · replace hM := og_n c5 hM
      refine lv_iload_n hx hb dX2_beginsPlace_12 rfl (lv_at hl 0 rfl) ?_
      refine lv_bipush (v := 101) hx hb dX2_beginsPlace_13 (by decide) ?_
      refine lv_icmp_eq (tgt := 25) hx hb dX2_beginsPlace_15 (by decide) (fun c4 => ?_) (fun c4 => ?_)
      · replace hM := og_p c4 hM
        refine lv_iconst (v := 1) hx hb dX2_beginsPlace_25 (by decide) ?_
        refine lv_goto (tgt := 30) hx hb dX2_beginsPlace_26 (by decide) ?_
        obtain rfl := Option.some.inj hM
        exact x_zret (b := true) E hP hD hS dX2_beginsPlace_30
      · replace hM := og_n c4 hM
        refine lv_iload_n hx hb dX2_beginsPlace_18 rfl (lv_at hl 0 rfl) ?_
        obtain ⟨u1, hu2, hM⟩ := og_b hM
        refine x_Si (n := 1) (rest := []) (wn := []) E (c_X2_isSong l D cI cB P1 u1 hu2) ok_X2_isSong tw_245 ⟨rfl, rfl⟩ ⟨Nat.le_of_ble_eq_true rfl, Nat.le_of_ble_eq_true rfl⟩ rfl rfl (Nat.le_of_ble_eq_true rfl) hl dX2_beginsPlace_19 ⟨Nat.zero_le _, Nat.zero_le _⟩ hP hD hS [] [] [] [] 0 rfl rfl rfl rfl rfl rfl rfl (by decide +kernel) (fun H locs hP hD hS => ?_)
        refine lv_if_eq (tgt := 29) hx hb dX2_beginsPlace_22 (by decide) (fun c3 => ?_) (fun c3 => ?_)
        · replace hM := og_p c3 hM
          refine lv_iconst (v := 0) hx hb dX2_beginsPlace_29 (by decide) ?_
          obtain rfl := Option.some.inj hM
          exact x_zret (b := false) E hP hD hS dX2_beginsPlace_30
        · replace hM := og_n c3 hM
          refine lv_iconst (v := 1) hx hb dX2_beginsPlace_25 (by decide) ?_
          refine lv_goto (tgt := 30) hx hb dX2_beginsPlace_26 (by decide) ?_
          obtain rfl := Option.some.inj hM
          exact x_zret (b := true) E hP hD hS dX2_beginsPlace_30
def X2_firstFault_6 (n : Nat) (V_t : Nat → Int32) (V_t_letters : Nat → Int32) : Nat → Int32 → Int32 → Int32 → Option (Int32)
  | 0, _, _, _ => none
  | k + 1, L1, L2, L3 => (if (V_t 1) ≤ L3 then (some ((V_t 1))) else ((X2_codeAt V_t V_t_letters L3).bind fun u1 => (if (4 : Int32) ≤ L3 then (if L2 = 0 then (if (12 : Int32) ≤ L1 then (some (L3)) else ((X2_beginsPlace u1).bind fun u3 => (if (bz u3) = 0 then (some (L3)) else ((X2_isSong u1).bind fun u5 => (X2_firstFault_6 n V_t V_t_letters k (L1 + 1) (bz u5) (L3 + 1)))))) else (if u1 < (49 : Int32) then (some (L3)) else (if u1 ≤ (57 : Int32) then (X2_firstFault_6 n V_t V_t_letters k L1 (0 : Int32) (L3 + 1)) else (some (L3))))) else ((X2_isInHead V_t V_t_letters L3 u1).bind fun u12 => (if (bz u12) = 0 then (some (L3)) else (X2_firstFault_6 n V_t V_t_letters k L1 L2 (L3 + 1)))))))
set_option maxHeartbeats 4000000 in
set_option maxRecDepth 100000 in
theorem lp_X2_firstFault_6 (n : Nat) (l : Launch) (D : va_G) (cI cB : ClassId) (A_t A_t_letters : Nat) (V_t : Nat → Int32) (V_t_letters : Nat → Int32) (r : Int32) {p : Program} {e : Env} {s : State} {m : MethodId} {args : Array Value} {below : List Frame} {meth : Method} {c : Code} {A : Nat → Prop} (E : xE p s m args meth c A D (xT cI cB) RX2 cX2_firstFault 5 (some .int)) :
    ∀ (k : Nat) (L1 : Int32) (L2 : Int32) (L3 : Int32), X2_firstFault_6 n V_t V_t_letters k L1 L2 L3 = some r → ∀ (H : Heap) (locs : List Loc) (ls : Array Slot), va_P D vwCl [(A_t, oX2 A_t_letters V_t), (A_t_letters, .inl (cI, 30, .inl V_t_letters))] H → va_D A [(A_t, oX2 A_t_letters V_t), (A_t_letters, .inl (cI, 30, .inl V_t_letters))] → va_S A s.heap H locs → lv_has ls 5 [(0, .ref A_t), (1, .int L1), (2, .int L2), (3, .int L3)] → W p l e { frames := 2, cells := 0, slots := 0, locals := 43 } s m args below meth c H locs 0 0 (MQ below (xQ D (xT cI cB) [(A_t, oX2 A_t_letters V_t), (A_t_letters, .inl (cI, 30, .inl V_t_letters))] (some (.int r)) A) args s 0 0 A) (F0 m 6 ls []) := by
  obtain ⟨hx, hb, hr, hts, hown, hml, hlocks, hA, hK⟩ := id E
  intro k
  induction k with
  | zero =>
    intro L1 L2 L3 hM
    rw [X2_firstFault_6] at hM
    cases hM
  | succ k ih =>
    intro L1 L2 L3 hM H locs ls hP hD hS hl
    rw [X2_firstFault_6] at hM
    refine lv_iload_n hx hb dX2_firstFault_6 rfl (lv_at hl 3 rfl) ?_
    refine lv_aload_n hx hb dX2_firstFault_7 rfl (lv_at hl 0 rfl) ?_
    refine gx2_1 (v := (V_t 1)) E hP 0 rfl rfl tw_75 dX2_firstFault_8 ?_
    refine lv_icmp_ge (tgt := 94) hx hb dX2_firstFault_11 (by decide) (fun c16 => ?_) (fun c16 => ?_)
    · replace hM := og_p c16 hM
      refine lv_aload_n hx hb dX2_firstFault_94 rfl (lv_at hl 0 rfl) ?_
      refine gx2_1 (v := (V_t 1)) E hP 0 rfl rfl tw_75 dX2_firstFault_95 ?_
      obtain rfl := Option.some.inj hM
      exact x_iret E hP hD hS dX2_firstFault_98
    · replace hM := og_n c16 hM
      refine lv_aload_n hx hb dX2_firstFault_14 rfl (lv_at hl 0 rfl) ?_
      refine lv_iload_n hx hb dX2_firstFault_15 rfl (lv_at hl 3 rfl) ?_
      obtain ⟨u1, hu2, hM⟩ := og_b hM
      refine x_Vi (n := 1) (q0 := 0) (rest := []) (wn := [(A_t, oX2 A_t_letters V_t), (A_t_letters, .inl (cI, 30, .inl V_t_letters))]) E (c_X2_codeAt l D cI cB A_t A_t_letters V_t V_t_letters L3 u1 hu2) ok_X2_codeAt tw_234 ⟨rfl, rfl⟩ ⟨Nat.le_of_ble_eq_true rfl, Nat.le_of_ble_eq_true rfl⟩ rfl rfl (Nat.le_of_ble_eq_true rfl) hl dX2_firstFault_16 ⟨Nat.zero_le _, Nat.zero_le _⟩ hP hD hS [0, 1] [] [] [A_t, A_t_letters] 2 rfl rfl rfl rfl rfl rfl rfl (by decide +kernel) rfl rfl rfl (fun H locs hP hD hS => ?_)
      refine lv_istore (lv' := [(4, .int u1), (0, .ref A_t), (1, .int L1), (2, .int L2), (3, .int L3)]) hx hb dX2_firstFault_19 hl (by decide) rfl (fun ls hl => ?_)
      refine lv_iload_n hx hb dX2_firstFault_21 rfl (lv_at hl 4 rfl) ?_
      refine lv_iconst (v := 4) hx hb dX2_firstFault_22 (by decide) ?_
      refine lv_icmp_ge (tgt := 38) hx hb dX2_firstFault_23 (by decide) (fun c15 => ?_) (fun c15 => ?_)
      · replace hM := og_p c15 hM
        refine lv_iload_n hx hb dX2_firstFault_38 rfl (lv_at hl 3 rfl) ?_
        refine lv_if_eq (tgt := 63) hx hb dX2_firstFault_39 (by decide) (fun c11 => ?_) (fun c11 => ?_)
        · replace hM := og_p c11 hM
          refine lv_iload_n hx hb dX2_firstFault_63 rfl (lv_at hl 2 rfl) ?_
          refine lv_bipush (v := 12) hx hb dX2_firstFault_64 (by decide) ?_
          refine lv_icmp_ge (tgt := 77) hx hb dX2_firstFault_66 (by decide) (fun c8 => ?_) (fun c8 => ?_)
          · replace hM := og_p c8 hM
            refine lv_iload_n hx hb dX2_firstFault_77 rfl (lv_at hl 4 rfl) ?_
            obtain rfl := Option.some.inj hM
            exact x_iret E hP hD hS dX2_firstFault_78
          · replace hM := og_n c8 hM
            refine lv_iload hx hb dX2_firstFault_69 (lv_at hl 0 rfl) ?_
            obtain ⟨u3, hu4, hM⟩ := og_b hM
            refine x_Si (n := 1) (rest := []) (wn := [(A_t, oX2 A_t_letters V_t), (A_t_letters, .inl (cI, 30, .inl V_t_letters))]) E (c_X2_beginsPlace l D cI cB u1 u3 hu4) ok_X2_beginsPlace tw_242 ⟨rfl, rfl⟩ ⟨Nat.le_of_ble_eq_true rfl, Nat.le_of_ble_eq_true rfl⟩ rfl rfl (Nat.le_of_ble_eq_true rfl) hl dX2_firstFault_71 ⟨Nat.zero_le _, Nat.zero_le _⟩ hP hD hS [] [0, 1] [(A_t, oX2 A_t_letters V_t), (A_t_letters, .inl (cI, 30, .inl V_t_letters))] [A_t, A_t_letters] 2 rfl rfl rfl rfl rfl rfl rfl (by decide +kernel) (fun H locs hP hD hS => ?_)
            refine lv_if_ne (tgt := 79) hx hb dX2_firstFault_74 (by decide) (fun c7 => ?_) (fun c7 => ?_)
            · replace hM := og_n c7 hM
              refine lv_iinc (v := (L1 + 1)) (lv' := [(1, .int (L1 + 1)), (4, .int u1), (0, .ref A_t), (2, .int L2), (3, .int L3)]) hx hb dX2_firstFault_79 hl (k := 2) rfl rfl (by decide) rfl (fun ls hl => ?_)
              refine lv_iload hx hb dX2_firstFault_82 (lv_at hl 1 rfl) ?_
              obtain ⟨u5, hu6, hM⟩ := og_b hM
              refine x_Si (n := 1) (rest := []) (wn := [(A_t, oX2 A_t_letters V_t), (A_t_letters, .inl (cI, 30, .inl V_t_letters))]) E (c_X2_isSong l D cI cB u1 u5 hu6) ok_X2_isSong tw_245 ⟨rfl, rfl⟩ ⟨Nat.le_of_ble_eq_true rfl, Nat.le_of_ble_eq_true rfl⟩ rfl rfl (Nat.le_of_ble_eq_true rfl) hl dX2_firstFault_84 ⟨Nat.zero_le _, Nat.zero_le _⟩ hP hD hS [] [0, 1] [(A_t, oX2 A_t_letters V_t), (A_t_letters, .inl (cI, 30, .inl V_t_letters))] [A_t, A_t_letters] 2 rfl rfl rfl rfl rfl rfl rfl (by decide +kernel) (fun H locs hP hD hS => ?_)
              refine lv_istore_n (lv' := [(2, .int (bz u5)), (1, .int (L1 + 1)), (4, .int u1), (0, .ref A_t), (3, .int L3)]) hx hb dX2_firstFault_87 rfl hl (by decide) rfl (fun ls hl => ?_)
              refine lv_iinc (v := (L3 + 1)) (lv' := [(3, .int (L3 + 1)), (2, .int (bz u5)), (1, .int (L1 + 1)), (4, .int u1), (0, .ref A_t)]) hx hb dX2_firstFault_88 hl (k := 4) rfl rfl (by decide) rfl (fun ls hl => ?_)
              refine lv_goto (tgt := 6) hx hb dX2_firstFault_91 (by decide) ?_
              exact ih (L1 + 1) (bz u5) (L3 + 1) hM _ _ _ hP hD hS (lv_sub hl [4, 2, 1, 0] rfl)
            · replace hM := og_p c7 hM
              refine lv_iload_n hx hb dX2_firstFault_77 rfl (lv_at hl 4 rfl) ?_
              obtain rfl := Option.some.inj hM
              exact x_iret E hP hD hS dX2_firstFault_78
        · replace hM := og_n c11 hM
          refine lv_iload hx hb dX2_firstFault_42 (lv_at hl 0 rfl) ?_
          refine lv_bipush (v := 49) hx hb dX2_firstFault_44 (by decide) ?_
          refine lv_icmp_lt (tgt := 56) hx hb dX2_firstFault_46 (by decide) (fun c10 => ?_) (fun c10 => ?_)
          · replace hM := og_p c10 hM
            refine lv_iload_n hx hb dX2_firstFault_56 rfl (lv_at hl 4 rfl) ?_
            obtain rfl := Option.some.inj hM
            exact x_iret E hP hD hS dX2_firstFault_57
          · replace hM := og_n c10 hM
            refine lv_iload hx hb dX2_firstFault_49 (lv_at hl 0 rfl) ?_
            refine lv_bipush (v := 57) hx hb dX2_firstFault_51 (by decide) ?_
            refine lv_icmp_le (tgt := 58) hx hb dX2_firstFault_53 (by decide) (fun c9 => ?_) (fun c9 => ?_)
            · replace hM := og_p c9 hM
              refine lv_iconst (v := 0) hx hb dX2_firstFault_58 (by decide) ?_
              refine lv_istore_n (lv' := [(2, .int (0 : Int32)), (4, .int u1), (0, .ref A_t), (1, .int L1), (3, .int L3)]) hx hb dX2_firstFault_59 rfl hl (by decide) rfl (fun ls hl => ?_)
              refine lv_goto (tgt := 88) hx hb dX2_firstFault_60 (by decide) ?_
              refine lv_iinc (v := (L3 + 1)) (lv' := [(3, .int (L3 + 1)), (2, .int (0 : Int32)), (4, .int u1), (0, .ref A_t), (1, .int L1)]) hx hb dX2_firstFault_88 hl (k := 4) rfl rfl (by decide) rfl (fun ls hl => ?_)
              refine lv_goto (tgt := 6) hx hb dX2_firstFault_91 (by decide) ?_
              exact ih L1 (0 : Int32) (L3 + 1) hM _ _ _ hP hD hS (lv_sub hl [3, 4, 1, 0] rfl)
            · replace hM := og_n c9 hM
              refine lv_iload_n hx hb dX2_firstFault_56 rfl (lv_at hl 4 rfl) ?_
              obtain rfl := Option.some.inj hM
              exact x_iret E hP hD hS dX2_firstFault_57
      · replace hM := og_n c15 hM
        refine lv_aload_n hx hb dX2_firstFault_26 rfl (lv_at hl 1 rfl) ?_
        refine lv_iload_n hx hb dX2_firstFault_27 rfl (lv_at hl 4 rfl) ?_
        refine lv_iload hx hb dX2_firstFault_28 (lv_at hl 0 rfl) ?_
        obtain ⟨u12, hu13, hM⟩ := og_b hM
        refine x_Vi (n := 2) (q0 := 0) (rest := []) (wn := [(A_t, oX2 A_t_letters V_t), (A_t_letters, .inl (cI, 30, .inl V_t_letters))]) E (c_X2_isInHead l D cI cB A_t A_t_letters V_t V_t_letters L3 u1 u12 hu13) ok_X2_isInHead tw_238 ⟨rfl, rfl⟩ ⟨Nat.le_of_ble_eq_true rfl, Nat.le_of_ble_eq_true rfl⟩ rfl rfl (Nat.le_of_ble_eq_true rfl) hl dX2_firstFault_30 ⟨Nat.zero_le _, Nat.zero_le _⟩ hP hD hS [0, 1] [] [] [A_t, A_t_letters] 2 rfl rfl rfl rfl rfl rfl rfl (by decide +kernel) rfl rfl rfl (fun H locs hP hD hS => ?_)
        refine lv_if_ne (tgt := 88) hx hb dX2_firstFault_33 (by decide) (fun c14 => ?_) (fun c14 => ?_)
        · replace hM := og_n c14 hM
          refine lv_iinc (v := (L3 + 1)) (lv' := [(3, .int (L3 + 1)), (4, .int u1), (0, .ref A_t), (1, .int L1), (2, .int L2)]) hx hb dX2_firstFault_88 hl (k := 4) rfl rfl (by decide) rfl (fun ls hl => ?_)
          refine lv_goto (tgt := 6) hx hb dX2_firstFault_91 (by decide) ?_
          exact ih L1 L2 (L3 + 1) hM _ _ _ hP hD hS (lv_sub hl [2, 3, 4, 0] rfl)
        · replace hM := og_p c14 hM
          refine lv_iload_n hx hb dX2_firstFault_36 rfl (lv_at hl 4 rfl) ?_
          obtain rfl := Option.some.inj hM
          exact x_iret E hP hD hS dX2_firstFault_37
def X2_firstFault (n : Nat) (V_t : Nat → Int32) (V_t_letters : Nat → Int32) : Option (Int32) := (X2_firstFault_6 n V_t V_t_letters n (0 : Int32) (0 : Int32) (0 : Int32))
theorem ok_X2_firstFault : xV yX2_firstFault cX2_firstFault 5 (some .int) 0 := ⟨tw_233, tw_231, tw_232, tw_51, by decide +kernel, by decide +kernel, by decide +kernel⟩
set_option maxHeartbeats 4000000 in
set_option maxRecDepth 100000 in
theorem c_X2_firstFault (n : Nat) (l : Launch) (D : va_G) (cI cB : ClassId) (A_t A_t_letters : Nat) (V_t : Nat → Int32) (V_t_letters : Nat → Int32) (r : Int32) (hM : X2_firstFault n V_t V_t_letters = some r) : xC l D (xT cI cB) yX2_firstFault cX2_firstFault 5 (some .int) { frames := 2, cells := 0, slots := 0, locals := 43 } [.ref A_t] [(A_t, oX2 A_t_letters V_t), (A_t_letters, .inl (cI, 30, .inl V_t_letters))] (some (.int r)) [(A_t, oX2 A_t_letters V_t), (A_t_letters, .inl (cI, 30, .inl V_t_letters))] := by
  refine xC.of (by decide +kernel) (Nat.le_of_ble_eq_true rfl) (fun p e s m below meth c A ls E hP hD hS hl => ?_)
  obtain ⟨hx, hb, hr, hts, hown, hml, hlocks, hA, hK⟩ := id E
  replace hl : lv_has ls 5 [(0, .ref A_t)] := hl
  rw [X2_firstFault] at hM
  refine lv_iconst (v := 0) hx hb dX2_firstFault_0 (by decide) ?_
  refine lv_istore_n (lv' := [(1, .int (0 : Int32)), (0, .ref A_t)]) hx hb dX2_firstFault_1 rfl hl (by decide) rfl (fun ls hl => ?_)
  refine lv_iconst (v := 0) hx hb dX2_firstFault_2 (by decide) ?_
  refine lv_istore_n (lv' := [(2, .int (0 : Int32)), (1, .int (0 : Int32)), (0, .ref A_t)]) hx hb dX2_firstFault_3 rfl hl (by decide) rfl (fun ls hl => ?_)
  refine lv_iconst (v := 0) hx hb dX2_firstFault_4 (by decide) ?_
  refine lv_istore_n (lv' := [(3, .int (0 : Int32)), (2, .int (0 : Int32)), (1, .int (0 : Int32)), (0, .ref A_t)]) hx hb dX2_firstFault_5 rfl hl (by decide) rfl (fun ls hl => ?_)
  exact lp_X2_firstFault_6 n l D cI cB A_t A_t_letters V_t V_t_letters r E n (0 : Int32) (0 : Int32) (0 : Int32) hM _ _ _ hP hD hS (lv_sub hl [3, 2, 1, 0] rfl)
def X2_isPassage (n : Nat) (V_t : Nat → Int32) (V_t_letters : Nat → Int32) : Option (Bool) := (if (V_t 1) ≤ (4 : Int32) then (some (false)) else ((X2_firstFault n V_t V_t_letters).bind fun u1 => (if u1 = (V_t 1) then ((X2_codeAt V_t V_t_letters ((V_t 1) - (1 : Int32))).bind fun u3 => ((X2_isSong u3).bind fun u5 => (if (bz u5) = 0 then (some (true)) else (some (false))))) else (some (false)))))
theorem ok_X2_isPassage : xV yX2_isPassage cX2_isPassage 1 (some .boolean) 0 := ⟨tw_255, tw_253, tw_254, tw_51, by decide +kernel, by decide +kernel, by decide +kernel⟩
set_option maxHeartbeats 4000000 in
set_option maxRecDepth 100000 in
theorem c_X2_isPassage (n : Nat) (l : Launch) (D : va_G) (cI cB : ClassId) (A_t A_t_letters : Nat) (V_t : Nat → Int32) (V_t_letters : Nat → Int32) (r : Bool) (hM : X2_isPassage n V_t V_t_letters = some r) : xC l D (xT cI cB) yX2_isPassage cX2_isPassage 1 (some .boolean) { frames := 3, cells := 0, slots := 0, locals := 67 } [.ref A_t] [(A_t, oX2 A_t_letters V_t), (A_t_letters, .inl (cI, 30, .inl V_t_letters))] (some (.int (bz r))) [(A_t, oX2 A_t_letters V_t), (A_t_letters, .inl (cI, 30, .inl V_t_letters))] := by
  refine xC.of (by decide +kernel) (Nat.le_of_ble_eq_true rfl) (fun p e s m below meth c A ls E hP hD hS hl => ?_)
  obtain ⟨hx, hb, hr, hts, hown, hml, hlocks, hA, hK⟩ := id E
  replace hl : lv_has ls 1 [(0, .ref A_t)] := hl
  rw [X2_isPassage] at hM
  refine lv_aload_n hx hb dX2_isPassage_0 rfl (lv_at hl 0 rfl) ?_
  refine gx2_1 (v := (V_t 1)) E hP 0 rfl rfl tw_75 dX2_isPassage_1 ?_
  refine lv_iconst (v := 4) hx hb dX2_isPassage_4 (by decide) ?_
  refine lv_icmp_le (tgt := 39) hx hb dX2_isPassage_5 (by decide) (fun c9 => ?_) (fun c9 => ?_)
  · replace hM := og_p c9 hM
    refine lv_iconst (v := 0) hx hb dX2_isPassage_39 (by decide) ?_
    obtain rfl := Option.some.inj hM
    exact x_zret (b := false) E hP hD hS dX2_isPassage_40
  · replace hM := og_n c9 hM
    refine lv_aload_n hx hb dX2_isPassage_8 rfl (lv_at hl 0 rfl) ?_
    obtain ⟨u1, hu2, hM⟩ := og_b hM
    refine x_Vi (n := 0) (q0 := 0) (rest := []) (wn := [(A_t, oX2 A_t_letters V_t), (A_t_letters, .inl (cI, 30, .inl V_t_letters))]) E (c_X2_firstFault n l D cI cB A_t A_t_letters V_t V_t_letters u1 hu2) ok_X2_firstFault tw_256 ⟨rfl, rfl⟩ ⟨Nat.le_of_ble_eq_true rfl, Nat.le_of_ble_eq_true rfl⟩ rfl rfl (Nat.le_of_ble_eq_true rfl) hl dX2_isPassage_9 ⟨Nat.zero_le _, Nat.zero_le _⟩ hP hD hS [0, 1] [] [] [A_t, A_t_letters] 2 rfl rfl rfl rfl rfl rfl rfl (by decide +kernel) rfl rfl rfl (fun H locs hP hD hS => ?_)
    refine lv_aload_n hx hb dX2_isPassage_12 rfl (lv_at hl 0 rfl) ?_
    refine gx2_1 (v := (V_t 1)) E hP 0 rfl rfl tw_75 dX2_isPassage_13 ?_
    refine lv_icmp_ne (tgt := 39) hx hb dX2_isPassage_16 (by decide) (fun c8 => ?_) (fun c8 => ?_)
    · replace hM := og_n c8 hM
      refine lv_iconst (v := 0) hx hb dX2_isPassage_39 (by decide) ?_
      obtain rfl := Option.some.inj hM
      exact x_zret (b := false) E hP hD hS dX2_isPassage_40
    · replace hM := og_p c8 hM
      refine lv_aload_n hx hb dX2_isPassage_19 rfl (lv_at hl 0 rfl) ?_
      refine lv_aload_n hx hb dX2_isPassage_20 rfl (lv_at hl 0 rfl) ?_
      refine gx2_1 (v := (V_t 1)) E hP 0 rfl rfl tw_75 dX2_isPassage_21 ?_
      refine lv_iconst (v := 1) hx hb dX2_isPassage_24 (by decide) ?_
      refine lv_isub hx hb dX2_isPassage_25 ?_
      obtain ⟨u3, hu4, hM⟩ := og_b hM
      refine x_Vi (n := 1) (q0 := 0) (rest := []) (wn := [(A_t, oX2 A_t_letters V_t), (A_t_letters, .inl (cI, 30, .inl V_t_letters))]) E (c_X2_codeAt l D cI cB A_t A_t_letters V_t V_t_letters ((V_t 1) - (1 : Int32)) u3 hu4) ok_X2_codeAt tw_234 ⟨rfl, rfl⟩ ⟨Nat.le_of_ble_eq_true rfl, Nat.le_of_ble_eq_true rfl⟩ rfl rfl (Nat.le_of_ble_eq_true rfl) hl dX2_isPassage_26 ⟨Nat.zero_le _, Nat.zero_le _⟩ hP hD hS [0, 1] [] [] [A_t, A_t_letters] 2 rfl rfl rfl rfl rfl rfl rfl (by decide +kernel) rfl rfl rfl (fun H locs hP hD hS => ?_)
      obtain ⟨u5, hu6, hM⟩ := og_b hM
      refine x_Si (n := 1) (rest := []) (wn := [(A_t, oX2 A_t_letters V_t), (A_t_letters, .inl (cI, 30, .inl V_t_letters))]) E (c_X2_isSong l D cI cB u3 u5 hu6) ok_X2_isSong tw_245 ⟨rfl, rfl⟩ ⟨Nat.le_of_ble_eq_true rfl, Nat.le_of_ble_eq_true rfl⟩ rfl rfl (Nat.le_of_ble_eq_true rfl) hl dX2_isPassage_29 ⟨Nat.zero_le _, Nat.zero_le _⟩ hP hD hS [] [0, 1] [(A_t, oX2 A_t_letters V_t), (A_t_letters, .inl (cI, 30, .inl V_t_letters))] [A_t, A_t_letters] 2 rfl rfl rfl rfl rfl rfl rfl (by decide +kernel) (fun H locs hP hD hS => ?_)
      refine lv_if_ne (tgt := 39) hx hb dX2_isPassage_32 (by decide) (fun c7 => ?_) (fun c7 => ?_)
      · replace hM := og_n c7 hM
        refine lv_iconst (v := 0) hx hb dX2_isPassage_39 (by decide) ?_
        obtain rfl := Option.some.inj hM
        exact x_zret (b := false) E hP hD hS dX2_isPassage_40
      · replace hM := og_p c7 hM
        refine lv_iconst (v := 1) hx hb dX2_isPassage_35 (by decide) ?_
        refine lv_goto (tgt := 40) hx hb dX2_isPassage_36 (by decide) ?_
        obtain rfl := Option.some.inj hM
        exact x_zret (b := true) E hP hD hS dX2_isPassage_40
def X3_setSong (V_t : Nat → Int32) (V_t_songs : Nat → Int32) (P1 : Int32) (P2 : Int32) : Option ((Nat → Int32)) := (if P1 < 0 then (some (V_t_songs)) else (if (12 : Int32) ≤ P1 then (some (V_t_songs)) else (if xin P1 12 then (some ((upd V_t_songs P1.toNatClampNeg P2))) else none)))
theorem ok_X3_setSong : xV yX3_setSong cX3_setSong 3 none 2 := ⟨tw_265, tw_264, tw_1, tw_52, by decide +kernel, by decide +kernel, by decide +kernel⟩
set_option maxHeartbeats 4000000 in
set_option maxRecDepth 100000 in
theorem c_X3_setSong (l : Launch) (D : va_G) (cI cB : ClassId) (A_t A_t_songs A_t_rocks : Nat) (V_t : Nat → Int32) (V_t_songs : Nat → Int32) (P1 : Int32) (P2 : Int32) (r : (Nat → Int32)) (hM : X3_setSong V_t V_t_songs P1 P2 = some r) : xC l D (xT cI cB) yX3_setSong cX3_setSong 3 none { frames := 0, cells := 0, slots := 0, locals := 0 } [.ref A_t, .int P1, .int P2] [(A_t, oX3 A_t_songs A_t_rocks V_t), (A_t_songs, .inl (cI, 12, .inl V_t_songs))] none [(A_t, oX3 A_t_songs A_t_rocks V_t), (A_t_songs, .inl (cI, 12, .inl r))] := by
  refine xC.of (by decide +kernel) (Nat.le_of_ble_eq_true rfl) (fun p e s m below meth c A ls E hP hD hS hl => ?_)
  obtain ⟨hx, hb, hr, hts, hown, hml, hlocks, hA, hK⟩ := id E
  replace hl : lv_has ls 3 [(0, .ref A_t), (1, .int P1), (2, .int P2)] := hl
  rw [X3_setSong] at hM
  refine lv_iload_n hx hb dX3_setSong_0 rfl (lv_at hl 1 rfl) ?_
  refine lv_if_lt (tgt := 17) hx hb dX3_setSong_1 (by decide) (fun c3 => ?_) (fun c3 => ?_)
  · replace hM := og_p c3 hM
    obtain rfl := Option.some.inj hM
    exact x_vret E hP hD hS dX3_setSong_17
  · replace hM := og_n c3 hM
    refine lv_iload_n hx hb dX3_setSong_4 rfl (lv_at hl 1 rfl) ?_
    refine lv_bipush (v := 12) hx hb dX3_setSong_5 (by decide) ?_
    refine lv_icmp_ge (tgt := 17) hx hb dX3_setSong_7 (by decide) (fun c2 => ?_) (fun c2 => ?_)
    · replace hM := og_p c2 hM
      obtain rfl := Option.some.inj hM
      exact x_vret E hP hD hS dX3_setSong_17
    · replace hM := og_n c2 hM
      refine lv_aload_n hx hb dX3_setSong_10 rfl (lv_at hl 0 rfl) ?_
      refine gx3_0 E hP 0 rfl tw_90 dX3_setSong_11 ?_
      refine lv_iload_n hx hb dX3_setSong_14 rfl (lv_at hl 1 rfl) ?_
      refine lv_iload_n hx hb dX3_setSong_15 rfl (lv_at hl 2 rfl) ?_
      obtain ⟨hi1, hM⟩ := og_g hM
      refine x_iast (wn := [(A_t, oX3 A_t_songs A_t_rocks V_t), (A_t_songs, .inl (cI, 12, .inl (upd V_t_songs P1.toNatClampNeg P2)))]) E hi1 hP hD hS 1 rfl dX3_setSong_16 rfl (fun H locs hP hD hS => ?_)
      obtain rfl := Option.some.inj hM
      exact x_vret E hP hD hS dX3_setSong_17
def X3_rockBy (P1 : Int32) : Option (Int32) := (if P1 = (114 : Int32) then (some ((1 : Int32))) else (if P1 = (98 : Int32) then (some ((1 : Int32))) else (if P1 = (101 : Int32) then (some ((2 : Int32))) else (some ((0 : Int32))))))
theorem ok_X3_rockBy : xSt yX3_rockBy cX3_rockBy 1 (some .int) 1 := ⟨tw_268, tw_267, tw_52, by decide +kernel, by decide +kernel, by decide +kernel⟩
set_option maxHeartbeats 4000000 in
set_option maxRecDepth 100000 in
theorem c_X3_rockBy (l : Launch) (D : va_G) (cI cB : ClassId) (P1 : Int32) (r : Int32) (hM : X3_rockBy P1 = some r) : xC l D (xT cI cB) yX3_rockBy cX3_rockBy 1 (some .int) { frames := 0, cells := 0, slots := 0, locals := 0 } [.int P1] [] (some (.int r)) [] := by
  refine xC.of (by decide +kernel) (Nat.le_of_ble_eq_true rfl) (fun p e s m below meth c A ls E hP hD hS hl => ?_)
  obtain ⟨hx, hb, hr, hts, hown, hml, hlocks, hA, hK⟩ := id E
  replace hl : lv_has ls 1 [(0, .int P1)] := hl
  rw [X3_rockBy] at hM
  refine lv_iload_n hx hb dX3_rockBy_0 rfl (lv_at hl 0 rfl) ?_
  refine lv_bipush (v := 114) hx hb dX3_rockBy_1 (by decide) ?_
  refine lv_icmp_eq (tgt := 12) hx hb dX3_rockBy_3 (by decide) (fun c3 => ?_) (fun c3 => ?_)
  · replace hM := og_p c3 hM
    refine lv_iconst (v := 1) hx hb dX3_rockBy_12 (by decide) ?_
    obtain rfl := Option.some.inj hM
    exact x_iret E hP hD hS dX3_rockBy_13
  · replace hM := og_n c3 hM
    refine lv_iload_n hx hb dX3_rockBy_6 rfl (lv_at hl 0 rfl) ?_
    refine lv_bipush (v := 98) hx hb dX3_rockBy_7 (by decide) ?_
    refine lv_icmp_ne (tgt := 14) hx hb dX3_rockBy_9 (by decide) (fun c2 => ?_) (fun c2 => ?_)
    · replace hM := og_n c2 hM
      refine lv_iload_n hx hb dX3_rockBy_14 rfl (lv_at hl 0 rfl) ?_
      refine lv_bipush (v := 101) hx hb dX3_rockBy_15 (by decide) ?_
      refine lv_icmp_ne (tgt := 24) hx hb dX3_rockBy_17 (by decide) (fun c1 => ?_) (fun c1 => ?_)
      · replace hM := og_n c1 hM
        refine lv_iconst (v := 0) hx hb dX3_rockBy_24 (by decide) ?_
        obtain rfl := Option.some.inj hM
        exact x_iret E hP hD hS dX3_rockBy_25
      · replace hM := og_p c1 hM
        refine lv_iconst (v := 2) hx hb dX3_rockBy_20 (by decide) ?_
        refine lv_goto (tgt := 25) hx hb dX3_rockBy_21 (by decide) ?_
        obtain rfl := Option.some.inj hM
        exact x_iret E hP hD hS dX3_rockBy_25
    · replace hM := og_p c2 hM
      refine lv_iconst (v := 1) hx hb dX3_rockBy_12 (by decide) ?_
      obtain rfl := Option.some.inj hM
      exact x_iret E hP hD hS dX3_rockBy_13
def X3_addPlace (V_t : Nat → Int32) (V_t_songs : Nat → Int32) (V_t_rocks : Nat → Int32) (P1 : Int32) : Option ((Nat → Int32) × (Nat → Int32) × (Nat → Int32)) := (if (V_t 4) < 0 then (some (V_t, V_t_songs, V_t_rocks)) else (if (12 : Int32) ≤ (V_t 4) then (some (V_t, V_t_songs, V_t_rocks)) else (if xin (V_t 4) 12 then (if xin (V_t 4) 12 then (some ((upd V_t 4 ((V_t 4) + (1 : Int32))), (upd V_t_songs (V_t 4).toNatClampNeg (0 : Int32)), (upd V_t_rocks (V_t 4).toNatClampNeg P1))) else none) else none)))
theorem ok_X3_addPlace : xV yX3_addPlace cX3_addPlace 2 none 1 := ⟨tw_272, tw_271, tw_2, tw_52, by decide +kernel, by decide +kernel, by decide +kernel⟩
set_option maxHeartbeats 4000000 in
set_option maxRecDepth 100000 in
theorem c_X3_addPlace (l : Launch) (D : va_G) (cI cB : ClassId) (A_t A_t_songs A_t_rocks : Nat) (V_t : Nat → Int32) (V_t_songs : Nat → Int32) (V_t_rocks : Nat → Int32) (P1 : Int32) (r : (Nat → Int32) × (Nat → Int32) × (Nat → Int32)) (hM : X3_addPlace V_t V_t_songs V_t_rocks P1 = some r) : xC l D (xT cI cB) yX3_addPlace cX3_addPlace 2 none { frames := 0, cells := 0, slots := 0, locals := 0 } [.ref A_t, .int P1] [(A_t, oX3 A_t_songs A_t_rocks V_t), (A_t_songs, .inl (cI, 12, .inl V_t_songs)), (A_t_rocks, .inl (cI, 12, .inl V_t_rocks))] none [(A_t, oX3 A_t_songs A_t_rocks r.1), (A_t_songs, .inl (cI, 12, .inl r.2.1)), (A_t_rocks, .inl (cI, 12, .inl r.2.2))] := by
  refine xC.of (by decide +kernel) (Nat.le_of_ble_eq_true rfl) (fun p e s m below meth c A ls E hP hD hS hl => ?_)
  obtain ⟨hx, hb, hr, hts, hown, hml, hlocks, hA, hK⟩ := id E
  replace hl : lv_has ls 2 [(0, .ref A_t), (1, .int P1)] := hl
  rw [X3_addPlace] at hM
  refine lv_aload_n hx hb dX3_addPlace_0 rfl (lv_at hl 0 rfl) ?_
  refine gx3_4 (v := (V_t 4)) E hP 0 rfl rfl tw_98 dX3_addPlace_1 ?_
  refine lv_if_lt (tgt := 46) hx hb dX3_addPlace_4 (by decide) (fun c4 => ?_) (fun c4 => ?_)
  · replace hM := og_p c4 hM
    obtain rfl := Option.some.inj hM
    exact x_vret E hP hD hS dX3_addPlace_46
  · replace hM := og_n c4 hM
    refine lv_aload_n hx hb dX3_addPlace_7 rfl (lv_at hl 0 rfl) ?_
    refine gx3_4 (v := (V_t 4)) E hP 0 rfl rfl tw_98 dX3_addPlace_8 ?_
    refine lv_bipush (v := 12) hx hb dX3_addPlace_11 (by decide) ?_
    refine lv_icmp_ge (tgt := 46) hx hb dX3_addPlace_13 (by decide) (fun c3 => ?_) (fun c3 => ?_)
    · replace hM := og_p c3 hM
      obtain rfl := Option.some.inj hM
      exact x_vret E hP hD hS dX3_addPlace_46
    · replace hM := og_n c3 hM
      refine lv_aload_n hx hb dX3_addPlace_16 rfl (lv_at hl 0 rfl) ?_
      refine gx3_0 E hP 0 rfl tw_90 dX3_addPlace_17 ?_
      refine lv_aload_n hx hb dX3_addPlace_20 rfl (lv_at hl 0 rfl) ?_
      refine gx3_4 (v := (V_t 4)) E hP 0 rfl rfl tw_98 dX3_addPlace_21 ?_
      refine lv_iconst (v := 0) hx hb dX3_addPlace_24 (by decide) ?_
      obtain ⟨hi1, hM⟩ := og_g hM
      refine x_iast (wn := [(A_t, oX3 A_t_songs A_t_rocks V_t), (A_t_songs, .inl (cI, 12, .inl (upd V_t_songs (V_t 4).toNatClampNeg (0 : Int32)))), (A_t_rocks, .inl (cI, 12, .inl V_t_rocks))]) E hi1 hP hD hS 1 rfl dX3_addPlace_25 rfl (fun H locs hP hD hS => ?_)
      refine lv_aload_n hx hb dX3_addPlace_26 rfl (lv_at hl 0 rfl) ?_
      refine gx3_1 E hP 0 rfl tw_91 dX3_addPlace_27 ?_
      refine lv_aload_n hx hb dX3_addPlace_30 rfl (lv_at hl 0 rfl) ?_
      refine gx3_4 (v := (V_t 4)) E hP 0 rfl rfl tw_98 dX3_addPlace_31 ?_
      refine lv_iload_n hx hb dX3_addPlace_34 rfl (lv_at hl 1 rfl) ?_
      obtain ⟨hi2, hM⟩ := og_g hM
      refine x_iast (wn := [(A_t, oX3 A_t_songs A_t_rocks V_t), (A_t_songs, .inl (cI, 12, .inl (upd V_t_songs (V_t 4).toNatClampNeg (0 : Int32)))), (A_t_rocks, .inl (cI, 12, .inl (upd V_t_rocks (V_t 4).toNatClampNeg P1)))]) E hi2 hP hD hS 2 rfl dX3_addPlace_35 rfl (fun H locs hP hD hS => ?_)
      refine lv_aload_n hx hb dX3_addPlace_36 rfl (lv_at hl 0 rfl) ?_
      refine lv_dup hx hb dX3_addPlace_37 rfl ?_
      refine gx3_4 (v := (V_t 4)) E hP 0 rfl rfl tw_98 dX3_addPlace_38 ?_
      refine lv_iconst (v := 1) hx hb dX3_addPlace_41 (by decide) ?_
      refine lv_iadd hx hb dX3_addPlace_42 ?_
      refine px3_4 (wn := [(A_t, oX3 A_t_songs A_t_rocks (upd V_t 4 ((V_t 4) + (1 : Int32)))), (A_t_songs, .inl (cI, 12, .inl (upd V_t_songs (V_t 4).toNatClampNeg (0 : Int32)))), (A_t_rocks, .inl (cI, 12, .inl (upd V_t_rocks (V_t 4).toNatClampNeg P1)))]) E hP hD hS 0 rfl tw_98 dX3_addPlace_43 rfl (fun H locs hP hD hS => ?_)
      obtain rfl := Option.some.inj hM
      exact x_vret E hP hD hS dX3_addPlace_46
def X3_read_43 (n : Nat) (V_p1 : Nat → Int32) (V_p1_letters : Nat → Int32) : Nat → (Nat → Int32) → (Nat → Int32) → (Nat → Int32) → Int32 → Option ((Nat → Int32) × (Nat → Int32) × (Nat → Int32))
  | 0, _, _, _, _ => none
  | k + 1, V_t, V_t_songs, V_t_rocks, L2 => (if (V_p1 1) ≤ L2 then (some (V_t, V_t_songs, V_t_rocks)) else ((X2_codeAt V_p1 V_p1_letters L2).bind fun u7 => (if u7 < (49 : Int32) then ((X3_rockBy u7).bind fun u9 => ((X3_addPlace V_t V_t_songs V_t_rocks u9).bind fun u11 => (X3_read_43 n V_p1 V_p1_letters k u11.1 u11.2.1 u11.2.2 (L2 + 1)))) else (if (57 : Int32) < u7 then ((X3_rockBy u7).bind fun u13 => ((X3_addPlace V_t V_t_songs V_t_rocks u13).bind fun u15 => (X3_read_43 n V_p1 V_p1_letters k u15.1 u15.2.1 u15.2.2 (L2 + 1)))) else ((X3_setSong V_t V_t_songs ((V_t 4) - (1 : Int32)) (u7 - (48 : Int32))).bind fun u17 => (X3_read_43 n V_p1 V_p1_letters k V_t u17 V_t_rocks (L2 + 1)))))))
set_option maxHeartbeats 4000000 in
set_option maxRecDepth 100000 in
theorem lp_X3_read_43 (n : Nat) (l : Launch) (D : va_G) (cI cB : ClassId) (A_t A_t_songs A_t_rocks A_p1 A_p1_letters : Nat) (V_p1 : Nat → Int32) (V_p1_letters : Nat → Int32) (r : (Nat → Int32) × (Nat → Int32) × (Nat → Int32)) {p : Program} {e : Env} {s : State} {m : MethodId} {args : Array Value} {below : List Frame} {meth : Method} {c : Code} {A : Nat → Prop} (E : xE p s m args meth c A D (xT cI cB) RX3 cX3_read 4 none) :
    ∀ (k : Nat) (V_t : Nat → Int32) (V_t_songs : Nat → Int32) (V_t_rocks : Nat → Int32) (L2 : Int32), X3_read_43 n V_p1 V_p1_letters k V_t V_t_songs V_t_rocks L2 = some r → ∀ (H : Heap) (locs : List Loc) (ls : Array Slot), va_P D vwCl [(A_t, oX3 A_t_songs A_t_rocks V_t), (A_t_songs, .inl (cI, 12, .inl V_t_songs)), (A_t_rocks, .inl (cI, 12, .inl V_t_rocks)), (A_p1, oX2 A_p1_letters V_p1), (A_p1_letters, .inl (cI, 30, .inl V_p1_letters))] H → va_D A [(A_t, oX3 A_t_songs A_t_rocks V_t), (A_t_songs, .inl (cI, 12, .inl V_t_songs)), (A_t_rocks, .inl (cI, 12, .inl V_t_rocks)), (A_p1, oX2 A_p1_letters V_p1), (A_p1_letters, .inl (cI, 30, .inl V_p1_letters))] → va_S A s.heap H locs → lv_has ls 4 [(0, .ref A_t), (1, .ref A_p1), (2, .int L2)] → W p l e { frames := 1, cells := 0, slots := 0, locals := 22 } s m args below meth c H locs 0 0 (MQ below (xQ D (xT cI cB) [(A_t, oX3 A_t_songs A_t_rocks r.1), (A_t_songs, .inl (cI, 12, .inl r.2.1)), (A_t_rocks, .inl (cI, 12, .inl r.2.2)), (A_p1, oX2 A_p1_letters V_p1), (A_p1_letters, .inl (cI, 30, .inl V_p1_letters))] none A) args s 0 0 A) (F0 m 43 ls []) := by
  obtain ⟨hx, hb, hr, hts, hown, hml, hlocks, hA, hK⟩ := id E
  intro k
  induction k with
  | zero =>
    intro V_t V_t_songs V_t_rocks L2 hM
    rw [X3_read_43] at hM
    cases hM
  | succ k ih =>
    intro V_t V_t_songs V_t_rocks L2 hM H locs ls hP hD hS hl
    rw [X3_read_43] at hM
    refine lv_iload_n hx hb dX3_read_43 rfl (lv_at hl 2 rfl) ?_
    refine lv_aload_n hx hb dX3_read_44 rfl (lv_at hl 1 rfl) ?_
    refine gx2_1 (v := (V_p1 1)) E hP 3 rfl rfl tw_77 dX3_read_45 ?_
    refine lv_icmp_ge (tgt := 100) hx hb dX3_read_48 (by decide) (fun c21 => ?_) (fun c21 => ?_)
    · replace hM := og_p c21 hM
      obtain rfl := Option.some.inj hM
      exact x_vret E hP hD hS dX3_read_100
    · replace hM := og_n c21 hM
      refine lv_aload_n hx hb dX3_read_51 rfl (lv_at hl 1 rfl) ?_
      refine lv_iload_n hx hb dX3_read_52 rfl (lv_at hl 2 rfl) ?_
      obtain ⟨u7, hu8, hM⟩ := og_b hM
      refine x_Vi (n := 1) (q0 := 0) (rest := []) (wn := [(A_t, oX3 A_t_songs A_t_rocks V_t), (A_t_songs, .inl (cI, 12, .inl V_t_songs)), (A_t_rocks, .inl (cI, 12, .inl V_t_rocks)), (A_p1, oX2 A_p1_letters V_p1), (A_p1_letters, .inl (cI, 30, .inl V_p1_letters))]) E (c_X2_codeAt l D cI cB A_p1 A_p1_letters V_p1 V_p1_letters L2 u7 hu8) ok_X2_codeAt tw_261 ⟨rfl, rfl⟩ ⟨Nat.le_of_ble_eq_true rfl, Nat.le_of_ble_eq_true rfl⟩ rfl rfl (Nat.le_of_ble_eq_true rfl) hl dX3_read_53 ⟨Nat.zero_le _, Nat.zero_le _⟩ hP hD hS [3, 4] [0, 1, 2] [(A_t, oX3 A_t_songs A_t_rocks V_t), (A_t_songs, .inl (cI, 12, .inl V_t_songs)), (A_t_rocks, .inl (cI, 12, .inl V_t_rocks))] [A_t, A_t_songs, A_t_rocks, A_p1, A_p1_letters] 5 rfl rfl rfl rfl rfl rfl rfl (by decide +kernel) rfl rfl rfl (fun H locs hP hD hS => ?_)
      refine lv_istore_n (lv' := [(3, .int u7), (0, .ref A_t), (1, .ref A_p1), (2, .int L2)]) hx hb dX3_read_56 rfl hl (by decide) rfl (fun ls hl => ?_)
      refine lv_iload_n hx hb dX3_read_57 rfl (lv_at hl 0 rfl) ?_
      refine lv_bipush (v := 49) hx hb dX3_read_58 (by decide) ?_
      refine lv_icmp_lt (tgt := 86) hx hb dX3_read_60 (by decide) (fun c20 => ?_) (fun c20 => ?_)
      · replace hM := og_p c20 hM
        refine lv_aload_n hx hb dX3_read_86 rfl (lv_at hl 1 rfl) ?_
        refine lv_iload_n hx hb dX3_read_87 rfl (lv_at hl 0 rfl) ?_
        obtain ⟨u9, hu10, hM⟩ := og_b hM
        refine x_Si (n := 1) (rest := [.ref A_t]) (wn := [(A_t, oX3 A_t_songs A_t_rocks V_t), (A_t_songs, .inl (cI, 12, .inl V_t_songs)), (A_t_rocks, .inl (cI, 12, .inl V_t_rocks)), (A_p1, oX2 A_p1_letters V_p1), (A_p1_letters, .inl (cI, 30, .inl V_p1_letters))]) E (c_X3_rockBy l D cI cB u7 u9 hu10) ok_X3_rockBy tw_266 ⟨rfl, rfl⟩ ⟨Nat.le_of_ble_eq_true rfl, Nat.le_of_ble_eq_true rfl⟩ rfl rfl (Nat.le_of_ble_eq_true rfl) hl dX3_read_88 ⟨Nat.zero_le _, Nat.zero_le _⟩ hP hD hS [] [0, 1, 2, 3, 4] [(A_t, oX3 A_t_songs A_t_rocks V_t), (A_t_songs, .inl (cI, 12, .inl V_t_songs)), (A_t_rocks, .inl (cI, 12, .inl V_t_rocks)), (A_p1, oX2 A_p1_letters V_p1), (A_p1_letters, .inl (cI, 30, .inl V_p1_letters))] [A_t, A_t_songs, A_t_rocks, A_p1, A_p1_letters] 5 rfl rfl rfl rfl rfl rfl rfl (by decide +kernel) (fun H locs hP hD hS => ?_)
        obtain ⟨u11, hu12, hM⟩ := og_b hM
        refine x_Vv (n := 1) (q0 := 0) (rest := []) (wn := [(A_t, oX3 A_t_songs A_t_rocks u11.1), (A_t_songs, .inl (cI, 12, .inl u11.2.1)), (A_t_rocks, .inl (cI, 12, .inl u11.2.2)), (A_p1, oX2 A_p1_letters V_p1), (A_p1_letters, .inl (cI, 30, .inl V_p1_letters))]) E (c_X3_addPlace l D cI cB A_t A_t_songs A_t_rocks V_t V_t_songs V_t_rocks u9 u11 hu12) ok_X3_addPlace tw_269 ⟨rfl, rfl⟩ ⟨Nat.le_of_ble_eq_true rfl, Nat.le_of_ble_eq_true rfl⟩ rfl rfl (Nat.le_of_ble_eq_true rfl) hl dX3_read_91 ⟨Nat.zero_le _, Nat.zero_le _⟩ hP hD hS [0, 1, 2] [3, 4] [(A_p1, oX2 A_p1_letters V_p1), (A_p1_letters, .inl (cI, 30, .inl V_p1_letters))] [A_t, A_t_songs, A_t_rocks, A_p1, A_p1_letters] 5 rfl rfl rfl rfl rfl rfl rfl (by decide +kernel) rfl rfl rfl (fun H locs hP hD hS => ?_)
        refine lv_iinc (v := (L2 + 1)) (lv' := [(2, .int (L2 + 1)), (3, .int u7), (0, .ref A_t), (1, .ref A_p1)]) hx hb dX3_read_94 hl (k := 3) rfl rfl (by decide) rfl (fun ls hl => ?_)
        refine lv_goto (tgt := 43) hx hb dX3_read_97 (by decide) ?_
        exact ih u11.1 u11.2.1 u11.2.2 (L2 + 1) hM _ _ _ hP hD hS (lv_sub hl [2, 3, 0] rfl)
      · replace hM := og_n c20 hM
        refine lv_iload_n hx hb dX3_read_63 rfl (lv_at hl 0 rfl) ?_
        refine lv_bipush (v := 57) hx hb dX3_read_64 (by decide) ?_
        refine lv_icmp_gt (tgt := 86) hx hb dX3_read_66 (by decide) (fun c19 => ?_) (fun c19 => ?_)
        · replace hM := og_p c19 hM
          refine lv_aload_n hx hb dX3_read_86 rfl (lv_at hl 1 rfl) ?_
          refine lv_iload_n hx hb dX3_read_87 rfl (lv_at hl 0 rfl) ?_
          obtain ⟨u13, hu14, hM⟩ := og_b hM
          refine x_Si (n := 1) (rest := [.ref A_t]) (wn := [(A_t, oX3 A_t_songs A_t_rocks V_t), (A_t_songs, .inl (cI, 12, .inl V_t_songs)), (A_t_rocks, .inl (cI, 12, .inl V_t_rocks)), (A_p1, oX2 A_p1_letters V_p1), (A_p1_letters, .inl (cI, 30, .inl V_p1_letters))]) E (c_X3_rockBy l D cI cB u7 u13 hu14) ok_X3_rockBy tw_266 ⟨rfl, rfl⟩ ⟨Nat.le_of_ble_eq_true rfl, Nat.le_of_ble_eq_true rfl⟩ rfl rfl (Nat.le_of_ble_eq_true rfl) hl dX3_read_88 ⟨Nat.zero_le _, Nat.zero_le _⟩ hP hD hS [] [0, 1, 2, 3, 4] [(A_t, oX3 A_t_songs A_t_rocks V_t), (A_t_songs, .inl (cI, 12, .inl V_t_songs)), (A_t_rocks, .inl (cI, 12, .inl V_t_rocks)), (A_p1, oX2 A_p1_letters V_p1), (A_p1_letters, .inl (cI, 30, .inl V_p1_letters))] [A_t, A_t_songs, A_t_rocks, A_p1, A_p1_letters] 5 rfl rfl rfl rfl rfl rfl rfl (by decide +kernel) (fun H locs hP hD hS => ?_)
          obtain ⟨u15, hu16, hM⟩ := og_b hM
          refine x_Vv (n := 1) (q0 := 0) (rest := []) (wn := [(A_t, oX3 A_t_songs A_t_rocks u15.1), (A_t_songs, .inl (cI, 12, .inl u15.2.1)), (A_t_rocks, .inl (cI, 12, .inl u15.2.2)), (A_p1, oX2 A_p1_letters V_p1), (A_p1_letters, .inl (cI, 30, .inl V_p1_letters))]) E (c_X3_addPlace l D cI cB A_t A_t_songs A_t_rocks V_t V_t_songs V_t_rocks u13 u15 hu16) ok_X3_addPlace tw_269 ⟨rfl, rfl⟩ ⟨Nat.le_of_ble_eq_true rfl, Nat.le_of_ble_eq_true rfl⟩ rfl rfl (Nat.le_of_ble_eq_true rfl) hl dX3_read_91 ⟨Nat.zero_le _, Nat.zero_le _⟩ hP hD hS [0, 1, 2] [3, 4] [(A_p1, oX2 A_p1_letters V_p1), (A_p1_letters, .inl (cI, 30, .inl V_p1_letters))] [A_t, A_t_songs, A_t_rocks, A_p1, A_p1_letters] 5 rfl rfl rfl rfl rfl rfl rfl (by decide +kernel) rfl rfl rfl (fun H locs hP hD hS => ?_)
          refine lv_iinc (v := (L2 + 1)) (lv' := [(2, .int (L2 + 1)), (3, .int u7), (0, .ref A_t), (1, .ref A_p1)]) hx hb dX3_read_94 hl (k := 3) rfl rfl (by decide) rfl (fun ls hl => ?_)
          refine lv_goto (tgt := 43) hx hb dX3_read_97 (by decide) ?_
          exact ih u15.1 u15.2.1 u15.2.2 (L2 + 1) hM _ _ _ hP hD hS (lv_sub hl [2, 3, 0] rfl)
        · replace hM := og_n c19 hM
          refine lv_aload_n hx hb dX3_read_69 rfl (lv_at hl 1 rfl) ?_
          refine lv_aload_n hx hb dX3_read_70 rfl (lv_at hl 1 rfl) ?_
          refine gx3_4 (v := (V_t 4)) E hP 0 rfl rfl tw_98 dX3_read_71 ?_
          refine lv_iconst (v := 1) hx hb dX3_read_74 (by decide) ?_
          refine lv_isub hx hb dX3_read_75 ?_
          refine lv_iload_n hx hb dX3_read_76 rfl (lv_at hl 0 rfl) ?_
          refine lv_bipush (v := 48) hx hb dX3_read_77 (by decide) ?_
          refine lv_isub hx hb dX3_read_79 ?_
          obtain ⟨u17, hu18, hM⟩ := og_b hM
          refine x_Vv (n := 2) (q0 := 0) (rest := []) (wn := [(A_t, oX3 A_t_songs A_t_rocks V_t), (A_t_songs, .inl (cI, 12, .inl u17)), (A_t_rocks, .inl (cI, 12, .inl V_t_rocks)), (A_p1, oX2 A_p1_letters V_p1), (A_p1_letters, .inl (cI, 30, .inl V_p1_letters))]) E (c_X3_setSong l D cI cB A_t A_t_songs A_t_rocks V_t V_t_songs ((V_t 4) - (1 : Int32)) (u7 - (48 : Int32)) u17 hu18) ok_X3_setSong tw_262 ⟨rfl, rfl⟩ ⟨Nat.le_of_ble_eq_true rfl, Nat.le_of_ble_eq_true rfl⟩ rfl rfl (Nat.le_of_ble_eq_true rfl) hl dX3_read_80 ⟨Nat.zero_le _, Nat.zero_le _⟩ hP hD hS [0, 1] [2, 3, 4] [(A_t_rocks, .inl (cI, 12, .inl V_t_rocks)), (A_p1, oX2 A_p1_letters V_p1), (A_p1_letters, .inl (cI, 30, .inl V_p1_letters))] [A_t, A_t_songs, A_t_rocks, A_p1, A_p1_letters] 5 rfl rfl rfl rfl rfl rfl rfl (by decide +kernel) rfl rfl rfl (fun H locs hP hD hS => ?_)
          refine lv_goto (tgt := 94) hx hb dX3_read_83 (by decide) ?_
          refine lv_iinc (v := (L2 + 1)) (lv' := [(2, .int (L2 + 1)), (3, .int u7), (0, .ref A_t), (1, .ref A_p1)]) hx hb dX3_read_94 hl (k := 3) rfl rfl (by decide) rfl (fun ls hl => ?_)
          refine lv_goto (tgt := 43) hx hb dX3_read_97 (by decide) ?_
          exact ih V_t u17 V_t_rocks (L2 + 1) hM _ _ _ hP hD hS (lv_sub hl [2, 3, 0] rfl)
def X3_read (n : Nat) (V_t : Nat → Int32) (V_t_songs : Nat → Int32) (V_t_rocks : Nat → Int32) (V_p1 : Nat → Int32) (V_p1_letters : Nat → Int32) : Option ((Nat → Int32) × (Nat → Int32) × (Nat → Int32)) := ((X2_codeAt V_p1 V_p1_letters (0 : Int32)).bind fun u1 => ((X2_codeAt V_p1 V_p1_letters (1 : Int32)).bind fun u3 => ((X2_codeAt V_p1 V_p1_letters (2 : Int32)).bind fun u5 => (X3_read_43 n V_p1 V_p1_letters n (upd (upd (upd V_t 2 ((((10 : Int32) * (u1 - (48 : Int32))) + u3) - (48 : Int32))) 3 (u5 - (48 : Int32))) 4 (0 : Int32)) V_t_songs V_t_rocks (4 : Int32)))))
theorem ok_X3_read : xV yX3_read cX3_read 4 none 1 := ⟨tw_260, tw_258, tw_259, tw_52, by decide +kernel, by decide +kernel, by decide +kernel⟩
set_option maxHeartbeats 4000000 in
set_option maxRecDepth 100000 in
theorem c_X3_read (n : Nat) (l : Launch) (D : va_G) (cI cB : ClassId) (A_t A_t_songs A_t_rocks A_p1 A_p1_letters : Nat) (V_t : Nat → Int32) (V_t_songs : Nat → Int32) (V_t_rocks : Nat → Int32) (V_p1 : Nat → Int32) (V_p1_letters : Nat → Int32) (r : (Nat → Int32) × (Nat → Int32) × (Nat → Int32)) (hM : X3_read n V_t V_t_songs V_t_rocks V_p1 V_p1_letters = some r) : xC l D (xT cI cB) yX3_read cX3_read 4 none { frames := 1, cells := 0, slots := 0, locals := 22 } [.ref A_t, .ref A_p1] [(A_t, oX3 A_t_songs A_t_rocks V_t), (A_t_songs, .inl (cI, 12, .inl V_t_songs)), (A_t_rocks, .inl (cI, 12, .inl V_t_rocks)), (A_p1, oX2 A_p1_letters V_p1), (A_p1_letters, .inl (cI, 30, .inl V_p1_letters))] none [(A_t, oX3 A_t_songs A_t_rocks r.1), (A_t_songs, .inl (cI, 12, .inl r.2.1)), (A_t_rocks, .inl (cI, 12, .inl r.2.2)), (A_p1, oX2 A_p1_letters V_p1), (A_p1_letters, .inl (cI, 30, .inl V_p1_letters))] := by
  refine xC.of (by decide +kernel) (Nat.le_of_ble_eq_true rfl) (fun p e s m below meth c A ls E hP hD hS hl => ?_)
  obtain ⟨hx, hb, hr, hts, hown, hml, hlocks, hA, hK⟩ := id E
  replace hl : lv_has ls 4 [(0, .ref A_t), (1, .ref A_p1)] := hl
  rw [X3_read] at hM
  refine lv_aload_n hx hb dX3_read_0 rfl (lv_at hl 0 rfl) ?_
  refine lv_bipush (v := 10) hx hb dX3_read_1 (by decide) ?_
  refine lv_aload_n hx hb dX3_read_3 rfl (lv_at hl 1 rfl) ?_
  refine lv_iconst (v := 0) hx hb dX3_read_4 (by decide) ?_
  obtain ⟨u1, hu2, hM⟩ := og_b hM
  refine x_Vi (n := 1) (q0 := 0) (rest := [.int (10 : Int32), .ref A_t]) (wn := [(A_t, oX3 A_t_songs A_t_rocks V_t), (A_t_songs, .inl (cI, 12, .inl V_t_songs)), (A_t_rocks, .inl (cI, 12, .inl V_t_rocks)), (A_p1, oX2 A_p1_letters V_p1), (A_p1_letters, .inl (cI, 30, .inl V_p1_letters))]) E (c_X2_codeAt l D cI cB A_p1 A_p1_letters V_p1 V_p1_letters (0 : Int32) u1 hu2) ok_X2_codeAt tw_261 ⟨rfl, rfl⟩ ⟨Nat.le_of_ble_eq_true rfl, Nat.le_of_ble_eq_true rfl⟩ rfl rfl (Nat.le_of_ble_eq_true rfl) hl dX3_read_5 ⟨Nat.zero_le _, Nat.zero_le _⟩ hP hD hS [3, 4] [0, 1, 2] [(A_t, oX3 A_t_songs A_t_rocks V_t), (A_t_songs, .inl (cI, 12, .inl V_t_songs)), (A_t_rocks, .inl (cI, 12, .inl V_t_rocks))] [A_t, A_t_songs, A_t_rocks, A_p1, A_p1_letters] 5 rfl rfl rfl rfl rfl rfl rfl (by decide +kernel) rfl rfl rfl (fun H locs hP hD hS => ?_)
  refine lv_bipush (v := 48) hx hb dX3_read_8 (by decide) ?_
  refine lv_isub hx hb dX3_read_10 ?_
  refine lv_imul hx hb dX3_read_11 ?_
  refine lv_aload_n hx hb dX3_read_12 rfl (lv_at hl 1 rfl) ?_
  refine lv_iconst (v := 1) hx hb dX3_read_13 (by decide) ?_
  obtain ⟨u3, hu4, hM⟩ := og_b hM
  refine x_Vi (n := 1) (q0 := 0) (rest := [.int ((10 : Int32) * (u1 - (48 : Int32))), .ref A_t]) (wn := [(A_t, oX3 A_t_songs A_t_rocks V_t), (A_t_songs, .inl (cI, 12, .inl V_t_songs)), (A_t_rocks, .inl (cI, 12, .inl V_t_rocks)), (A_p1, oX2 A_p1_letters V_p1), (A_p1_letters, .inl (cI, 30, .inl V_p1_letters))]) E (c_X2_codeAt l D cI cB A_p1 A_p1_letters V_p1 V_p1_letters (1 : Int32) u3 hu4) ok_X2_codeAt tw_261 ⟨rfl, rfl⟩ ⟨Nat.le_of_ble_eq_true rfl, Nat.le_of_ble_eq_true rfl⟩ rfl rfl (Nat.le_of_ble_eq_true rfl) hl dX3_read_14 ⟨Nat.zero_le _, Nat.zero_le _⟩ hP hD hS [3, 4] [0, 1, 2] [(A_t, oX3 A_t_songs A_t_rocks V_t), (A_t_songs, .inl (cI, 12, .inl V_t_songs)), (A_t_rocks, .inl (cI, 12, .inl V_t_rocks))] [A_t, A_t_songs, A_t_rocks, A_p1, A_p1_letters] 5 rfl rfl rfl rfl rfl rfl rfl (by decide +kernel) rfl rfl rfl (fun H locs hP hD hS => ?_)
  refine lv_iadd hx hb dX3_read_17 ?_
  refine lv_bipush (v := 48) hx hb dX3_read_18 (by decide) ?_
  refine lv_isub hx hb dX3_read_20 ?_
  refine px3_2 (wn := [(A_t, oX3 A_t_songs A_t_rocks (upd V_t 2 ((((10 : Int32) * (u1 - (48 : Int32))) + u3) - (48 : Int32)))), (A_t_songs, .inl (cI, 12, .inl V_t_songs)), (A_t_rocks, .inl (cI, 12, .inl V_t_rocks)), (A_p1, oX2 A_p1_letters V_p1), (A_p1_letters, .inl (cI, 30, .inl V_p1_letters))]) E hP hD hS 0 rfl tw_92 dX3_read_21 rfl (fun H locs hP hD hS => ?_)
  refine lv_aload_n hx hb dX3_read_24 rfl (lv_at hl 0 rfl) ?_
  refine lv_aload_n hx hb dX3_read_25 rfl (lv_at hl 1 rfl) ?_
  refine lv_iconst (v := 2) hx hb dX3_read_26 (by decide) ?_
  obtain ⟨u5, hu6, hM⟩ := og_b hM
  refine x_Vi (n := 1) (q0 := 0) (rest := [.ref A_t]) (wn := [(A_t, oX3 A_t_songs A_t_rocks (upd V_t 2 ((((10 : Int32) * (u1 - (48 : Int32))) + u3) - (48 : Int32)))), (A_t_songs, .inl (cI, 12, .inl V_t_songs)), (A_t_rocks, .inl (cI, 12, .inl V_t_rocks)), (A_p1, oX2 A_p1_letters V_p1), (A_p1_letters, .inl (cI, 30, .inl V_p1_letters))]) E (c_X2_codeAt l D cI cB A_p1 A_p1_letters V_p1 V_p1_letters (2 : Int32) u5 hu6) ok_X2_codeAt tw_261 ⟨rfl, rfl⟩ ⟨Nat.le_of_ble_eq_true rfl, Nat.le_of_ble_eq_true rfl⟩ rfl rfl (Nat.le_of_ble_eq_true rfl) hl dX3_read_27 ⟨Nat.zero_le _, Nat.zero_le _⟩ hP hD hS [3, 4] [0, 1, 2] [(A_t, oX3 A_t_songs A_t_rocks (upd V_t 2 ((((10 : Int32) * (u1 - (48 : Int32))) + u3) - (48 : Int32)))), (A_t_songs, .inl (cI, 12, .inl V_t_songs)), (A_t_rocks, .inl (cI, 12, .inl V_t_rocks))] [A_t, A_t_songs, A_t_rocks, A_p1, A_p1_letters] 5 rfl rfl rfl rfl rfl rfl rfl (by decide +kernel) rfl rfl rfl (fun H locs hP hD hS => ?_)
  refine lv_bipush (v := 48) hx hb dX3_read_30 (by decide) ?_
  refine lv_isub hx hb dX3_read_32 ?_
  refine px3_3 (wn := [(A_t, oX3 A_t_songs A_t_rocks (upd (upd V_t 2 ((((10 : Int32) * (u1 - (48 : Int32))) + u3) - (48 : Int32))) 3 (u5 - (48 : Int32)))), (A_t_songs, .inl (cI, 12, .inl V_t_songs)), (A_t_rocks, .inl (cI, 12, .inl V_t_rocks)), (A_p1, oX2 A_p1_letters V_p1), (A_p1_letters, .inl (cI, 30, .inl V_p1_letters))]) E hP hD hS 0 rfl tw_95 dX3_read_33 rfl (fun H locs hP hD hS => ?_)
  refine lv_aload_n hx hb dX3_read_36 rfl (lv_at hl 0 rfl) ?_
  refine lv_iconst (v := 0) hx hb dX3_read_37 (by decide) ?_
  refine px3_4 (wn := [(A_t, oX3 A_t_songs A_t_rocks (upd (upd (upd V_t 2 ((((10 : Int32) * (u1 - (48 : Int32))) + u3) - (48 : Int32))) 3 (u5 - (48 : Int32))) 4 (0 : Int32))), (A_t_songs, .inl (cI, 12, .inl V_t_songs)), (A_t_rocks, .inl (cI, 12, .inl V_t_rocks)), (A_p1, oX2 A_p1_letters V_p1), (A_p1_letters, .inl (cI, 30, .inl V_p1_letters))]) E hP hD hS 0 rfl tw_98 dX3_read_38 rfl (fun H locs hP hD hS => ?_)
  refine lv_iconst (v := 4) hx hb dX3_read_41 (by decide) ?_
  refine lv_istore_n (lv' := [(2, .int (4 : Int32)), (0, .ref A_t), (1, .ref A_p1)]) hx hb dX3_read_42 rfl hl (by decide) rfl (fun ls hl => ?_)
  exact lp_X3_read_43 n l D cI cB A_t A_t_songs A_t_rocks A_p1 A_p1_letters V_p1 V_p1_letters r E n (upd (upd (upd V_t 2 ((((10 : Int32) * (u1 - (48 : Int32))) + u3) - (48 : Int32))) 3 (u5 - (48 : Int32))) 4 (0 : Int32)) V_t_songs V_t_rocks (4 : Int32) hM _ _ _ hP hD hS (lv_sub hl [1, 2, 0] rfl)
def X3_songAt (V_t : Nat → Int32) (V_t_songs : Nat → Int32) (P1 : Int32) : Option (Int32) := (if P1 < 0 then (some ((0 : Int32))) else (if (12 : Int32) ≤ P1 then (some ((0 : Int32))) else (if xin P1 12 then (some ((V_t_songs P1.toNatClampNeg))) else none)))
theorem ok_X3_songAt : xV yX3_songAt cX3_songAt 2 (some .int) 1 := ⟨tw_284, tw_282, tw_283, tw_52, by decide +kernel, by decide +kernel, by decide +kernel⟩
set_option maxHeartbeats 4000000 in
set_option maxRecDepth 100000 in
theorem c_X3_songAt (l : Launch) (D : va_G) (cI cB : ClassId) (A_t A_t_songs A_t_rocks : Nat) (V_t : Nat → Int32) (V_t_songs : Nat → Int32) (P1 : Int32) (r : Int32) (hM : X3_songAt V_t V_t_songs P1 = some r) : xC l D (xT cI cB) yX3_songAt cX3_songAt 2 (some .int) { frames := 0, cells := 0, slots := 0, locals := 0 } [.ref A_t, .int P1] [(A_t, oX3 A_t_songs A_t_rocks V_t), (A_t_songs, .inl (cI, 12, .inl V_t_songs))] (some (.int r)) [(A_t, oX3 A_t_songs A_t_rocks V_t), (A_t_songs, .inl (cI, 12, .inl V_t_songs))] := by
  refine xC.of (by decide +kernel) (Nat.le_of_ble_eq_true rfl) (fun p e s m below meth c A ls E hP hD hS hl => ?_)
  obtain ⟨hx, hb, hr, hts, hown, hml, hlocks, hA, hK⟩ := id E
  replace hl : lv_has ls 2 [(0, .ref A_t), (1, .int P1)] := hl
  rw [X3_songAt] at hM
  refine lv_iload_n hx hb dX3_songAt_0 rfl (lv_at hl 1 rfl) ?_
  refine lv_if_lt (tgt := 19) hx hb dX3_songAt_1 (by decide) (fun c3 => ?_) (fun c3 => ?_)
  · replace hM := og_p c3 hM
    refine lv_iconst (v := 0) hx hb dX3_songAt_19 (by decide) ?_
    obtain rfl := Option.some.inj hM
    exact x_iret E hP hD hS dX3_songAt_20
  · replace hM := og_n c3 hM
    refine lv_iload_n hx hb dX3_songAt_4 rfl (lv_at hl 1 rfl) ?_
    refine lv_bipush (v := 12) hx hb dX3_songAt_5 (by decide) ?_
    refine lv_icmp_ge (tgt := 19) hx hb dX3_songAt_7 (by decide) (fun c2 => ?_) (fun c2 => ?_)
    · replace hM := og_p c2 hM
      refine lv_iconst (v := 0) hx hb dX3_songAt_19 (by decide) ?_
      obtain rfl := Option.some.inj hM
      exact x_iret E hP hD hS dX3_songAt_20
    · replace hM := og_n c2 hM
      refine lv_aload_n hx hb dX3_songAt_10 rfl (lv_at hl 0 rfl) ?_
      refine gx3_0 E hP 0 rfl tw_90 dX3_songAt_11 ?_
      refine lv_iload_n hx hb dX3_songAt_14 rfl (lv_at hl 1 rfl) ?_
      obtain ⟨hi1, hM⟩ := og_g hM
      refine x_iald E hi1 hP 1 rfl dX3_songAt_15 ?_
      refine lv_goto (tgt := 20) hx hb dX3_songAt_16 (by decide) ?_
      obtain rfl := Option.some.inj hM
      exact x_iret E hP hD hS dX3_songAt_20
def X3_rockAt (V_t : Nat → Int32) (V_t_rocks : Nat → Int32) (P1 : Int32) : Option (Int32) := (if P1 < 0 then (some ((0 : Int32))) else (if (12 : Int32) ≤ P1 then (some ((0 : Int32))) else (if xin P1 12 then (some ((V_t_rocks P1.toNatClampNeg))) else none)))
theorem ok_X3_rockAt : xV yX3_rockAt cX3_rockAt 2 (some .int) 1 := ⟨tw_288, tw_286, tw_287, tw_52, by decide +kernel, by decide +kernel, by decide +kernel⟩
set_option maxHeartbeats 4000000 in
set_option maxRecDepth 100000 in
theorem c_X3_rockAt (l : Launch) (D : va_G) (cI cB : ClassId) (A_t A_t_songs A_t_rocks : Nat) (V_t : Nat → Int32) (V_t_rocks : Nat → Int32) (P1 : Int32) (r : Int32) (hM : X3_rockAt V_t V_t_rocks P1 = some r) : xC l D (xT cI cB) yX3_rockAt cX3_rockAt 2 (some .int) { frames := 0, cells := 0, slots := 0, locals := 0 } [.ref A_t, .int P1] [(A_t, oX3 A_t_songs A_t_rocks V_t), (A_t_rocks, .inl (cI, 12, .inl V_t_rocks))] (some (.int r)) [(A_t, oX3 A_t_songs A_t_rocks V_t), (A_t_rocks, .inl (cI, 12, .inl V_t_rocks))] := by
  refine xC.of (by decide +kernel) (Nat.le_of_ble_eq_true rfl) (fun p e s m below meth c A ls E hP hD hS hl => ?_)
  obtain ⟨hx, hb, hr, hts, hown, hml, hlocks, hA, hK⟩ := id E
  replace hl : lv_has ls 2 [(0, .ref A_t), (1, .int P1)] := hl
  rw [X3_rockAt] at hM
  refine lv_iload_n hx hb dX3_rockAt_0 rfl (lv_at hl 1 rfl) ?_
  refine lv_if_lt (tgt := 19) hx hb dX3_rockAt_1 (by decide) (fun c3 => ?_) (fun c3 => ?_)
  · replace hM := og_p c3 hM
    refine lv_iconst (v := 0) hx hb dX3_rockAt_19 (by decide) ?_
    obtain rfl := Option.some.inj hM
    exact x_iret E hP hD hS dX3_rockAt_20
  · replace hM := og_n c3 hM
    refine lv_iload_n hx hb dX3_rockAt_4 rfl (lv_at hl 1 rfl) ?_
    refine lv_bipush (v := 12) hx hb dX3_rockAt_5 (by decide) ?_
    refine lv_icmp_ge (tgt := 19) hx hb dX3_rockAt_7 (by decide) (fun c2 => ?_) (fun c2 => ?_)
    · replace hM := og_p c2 hM
      refine lv_iconst (v := 0) hx hb dX3_rockAt_19 (by decide) ?_
      obtain rfl := Option.some.inj hM
      exact x_iret E hP hD hS dX3_rockAt_20
    · replace hM := og_n c2 hM
      refine lv_aload_n hx hb dX3_rockAt_10 rfl (lv_at hl 0 rfl) ?_
      refine gx3_1 E hP 0 rfl tw_91 dX3_rockAt_11 ?_
      refine lv_iload_n hx hb dX3_rockAt_14 rfl (lv_at hl 1 rfl) ?_
      obtain ⟨hi1, hM⟩ := og_g hM
      refine x_iald E hi1 hP 1 rfl dX3_rockAt_15 ?_
      refine lv_goto (tgt := 20) hx hb dX3_rockAt_16 (by decide) ?_
      obtain rfl := Option.some.inj hM
      exact x_iret E hP hD hS dX3_rockAt_20
def X0_add (V_t : Nat → Int32) (V_t_kinds : Nat → Int32) (V_t_oars : Nat → Int32) (V_t_wills : Nat → Int32) (P1 : Int32) (P2 : Int32) (P3 : Int32) : Option ((Nat → Int32) × (Nat → Int32) × (Nat → Int32) × (Nat → Int32)) := (if (V_t 3) < 0 then (some (V_t, V_t_kinds, V_t_oars, V_t_wills)) else (if (5 : Int32) ≤ (V_t 3) then (some (V_t, V_t_kinds, V_t_oars, V_t_wills)) else (if xin (V_t 3) 5 then (if xin (V_t 3) 5 then (if xin (V_t 3) 5 then (some ((upd V_t 3 ((V_t 3) + (1 : Int32))), (upd V_t_kinds (V_t 3).toNatClampNeg P1), (upd V_t_oars (V_t 3).toNatClampNeg P2), (upd V_t_wills (V_t 3).toNatClampNeg P3))) else none) else none) else none)))
theorem ok_X0_add : xV yX0_add cX0_add 4 none 3 := ⟨tw_303, tw_301, tw_302, tw_53, by decide +kernel, by decide +kernel, by decide +kernel⟩
set_option maxHeartbeats 4000000 in
set_option maxRecDepth 100000 in
theorem c_X0_add (l : Launch) (D : va_G) (cI cB : ClassId) (A_t A_t_kinds A_t_oars A_t_wills : Nat) (V_t : Nat → Int32) (V_t_kinds : Nat → Int32) (V_t_oars : Nat → Int32) (V_t_wills : Nat → Int32) (P1 : Int32) (P2 : Int32) (P3 : Int32) (r : (Nat → Int32) × (Nat → Int32) × (Nat → Int32) × (Nat → Int32)) (hM : X0_add V_t V_t_kinds V_t_oars V_t_wills P1 P2 P3 = some r) : xC l D (xT cI cB) yX0_add cX0_add 4 none { frames := 0, cells := 0, slots := 0, locals := 0 } [.ref A_t, .int P1, .int P2, .int P3] [(A_t, oX0 A_t_kinds A_t_oars A_t_wills V_t), (A_t_kinds, .inl (cI, 5, .inl V_t_kinds)), (A_t_oars, .inl (cI, 5, .inl V_t_oars)), (A_t_wills, .inl (cI, 5, .inl V_t_wills))] none [(A_t, oX0 A_t_kinds A_t_oars A_t_wills r.1), (A_t_kinds, .inl (cI, 5, .inl r.2.1)), (A_t_oars, .inl (cI, 5, .inl r.2.2.1)), (A_t_wills, .inl (cI, 5, .inl r.2.2.2))] := by
  refine xC.of (by decide +kernel) (Nat.le_of_ble_eq_true rfl) (fun p e s m below meth c A ls E hP hD hS hl => ?_)
  obtain ⟨hx, hb, hr, hts, hown, hml, hlocks, hA, hK⟩ := id E
  replace hl : lv_has ls 4 [(0, .ref A_t), (1, .int P1), (2, .int P2), (3, .int P3)] := hl
  rw [X0_add] at hM
  refine lv_aload_n hx hb dX0_add_0 rfl (lv_at hl 0 rfl) ?_
  refine gx0_3 (v := (V_t 3)) E hP 0 rfl rfl tw_121 dX0_add_1 ?_
  refine lv_if_lt (tgt := 55) hx hb dX0_add_4 (by decide) (fun c5 => ?_) (fun c5 => ?_)
  · replace hM := og_p c5 hM
    obtain rfl := Option.some.inj hM
    exact x_vret E hP hD hS dX0_add_55
  · replace hM := og_n c5 hM
    refine lv_aload_n hx hb dX0_add_7 rfl (lv_at hl 0 rfl) ?_
    refine gx0_3 (v := (V_t 3)) E hP 0 rfl rfl tw_121 dX0_add_8 ?_
    refine lv_iconst (v := 5) hx hb dX0_add_11 (by decide) ?_
    refine lv_icmp_ge (tgt := 55) hx hb dX0_add_12 (by decide) (fun c4 => ?_) (fun c4 => ?_)
    · replace hM := og_p c4 hM
      obtain rfl := Option.some.inj hM
      exact x_vret E hP hD hS dX0_add_55
    · replace hM := og_n c4 hM
      refine lv_aload_n hx hb dX0_add_15 rfl (lv_at hl 0 rfl) ?_
      refine gx0_0 E hP 0 rfl tw_118 dX0_add_16 ?_
      refine lv_aload_n hx hb dX0_add_19 rfl (lv_at hl 0 rfl) ?_
      refine gx0_3 (v := (V_t 3)) E hP 0 rfl rfl tw_121 dX0_add_20 ?_
      refine lv_iload_n hx hb dX0_add_23 rfl (lv_at hl 1 rfl) ?_
      obtain ⟨hi1, hM⟩ := og_g hM
      refine x_iast (wn := [(A_t, oX0 A_t_kinds A_t_oars A_t_wills V_t), (A_t_kinds, .inl (cI, 5, .inl (upd V_t_kinds (V_t 3).toNatClampNeg P1))), (A_t_oars, .inl (cI, 5, .inl V_t_oars)), (A_t_wills, .inl (cI, 5, .inl V_t_wills))]) E hi1 hP hD hS 1 rfl dX0_add_24 rfl (fun H locs hP hD hS => ?_)
      refine lv_aload_n hx hb dX0_add_25 rfl (lv_at hl 0 rfl) ?_
      refine gx0_1 E hP 0 rfl tw_119 dX0_add_26 ?_
      refine lv_aload_n hx hb dX0_add_29 rfl (lv_at hl 0 rfl) ?_
      refine gx0_3 (v := (V_t 3)) E hP 0 rfl rfl tw_121 dX0_add_30 ?_
      refine lv_iload_n hx hb dX0_add_33 rfl (lv_at hl 2 rfl) ?_
      obtain ⟨hi2, hM⟩ := og_g hM
      refine x_iast (wn := [(A_t, oX0 A_t_kinds A_t_oars A_t_wills V_t), (A_t_kinds, .inl (cI, 5, .inl (upd V_t_kinds (V_t 3).toNatClampNeg P1))), (A_t_oars, .inl (cI, 5, .inl (upd V_t_oars (V_t 3).toNatClampNeg P2))), (A_t_wills, .inl (cI, 5, .inl V_t_wills))]) E hi2 hP hD hS 2 rfl dX0_add_34 rfl (fun H locs hP hD hS => ?_)
      refine lv_aload_n hx hb dX0_add_35 rfl (lv_at hl 0 rfl) ?_
      refine gx0_2 E hP 0 rfl tw_120 dX0_add_36 ?_
      refine lv_aload_n hx hb dX0_add_39 rfl (lv_at hl 0 rfl) ?_
      refine gx0_3 (v := (V_t 3)) E hP 0 rfl rfl tw_121 dX0_add_40 ?_
      refine lv_iload_n hx hb dX0_add_43 rfl (lv_at hl 3 rfl) ?_
      obtain ⟨hi3, hM⟩ := og_g hM
      refine x_iast (wn := [(A_t, oX0 A_t_kinds A_t_oars A_t_wills V_t), (A_t_kinds, .inl (cI, 5, .inl (upd V_t_kinds (V_t 3).toNatClampNeg P1))), (A_t_oars, .inl (cI, 5, .inl (upd V_t_oars (V_t 3).toNatClampNeg P2))), (A_t_wills, .inl (cI, 5, .inl (upd V_t_wills (V_t 3).toNatClampNeg P3)))]) E hi3 hP hD hS 3 rfl dX0_add_44 rfl (fun H locs hP hD hS => ?_)
      refine lv_aload_n hx hb dX0_add_45 rfl (lv_at hl 0 rfl) ?_
      refine lv_dup hx hb dX0_add_46 rfl ?_
      refine gx0_3 (v := (V_t 3)) E hP 0 rfl rfl tw_121 dX0_add_47 ?_
      refine lv_iconst (v := 1) hx hb dX0_add_50 (by decide) ?_
      refine lv_iadd hx hb dX0_add_51 ?_
      refine px0_3 (wn := [(A_t, oX0 A_t_kinds A_t_oars A_t_wills (upd V_t 3 ((V_t 3) + (1 : Int32)))), (A_t_kinds, .inl (cI, 5, .inl (upd V_t_kinds (V_t 3).toNatClampNeg P1))), (A_t_oars, .inl (cI, 5, .inl (upd V_t_oars (V_t 3).toNatClampNeg P2))), (A_t_wills, .inl (cI, 5, .inl (upd V_t_wills (V_t 3).toNatClampNeg P3)))]) E hP hD hS 0 rfl tw_121 dX0_add_52 rfl (fun H locs hP hD hS => ?_)
      obtain rfl := Option.some.inj hM
      exact x_vret E hP hD hS dX0_add_55
def X0_kindOf (V_t : Nat → Int32) (V_t_kinds : Nat → Int32) (P1 : Int32) : Option (Int32) := (if P1 < 0 then (some ((0 : Int32))) else (if (5 : Int32) ≤ P1 then (some ((0 : Int32))) else (if xin P1 5 then (some ((V_t_kinds P1.toNatClampNeg))) else none)))
theorem ok_X0_kindOf : xV yX0_kindOf cX0_kindOf 2 (some .int) 1 := ⟨tw_327, tw_325, tw_326, tw_53, by decide +kernel, by decide +kernel, by decide +kernel⟩
set_option maxHeartbeats 4000000 in
set_option maxRecDepth 100000 in
theorem c_X0_kindOf (l : Launch) (D : va_G) (cI cB : ClassId) (A_t A_t_kinds A_t_oars A_t_wills : Nat) (V_t : Nat → Int32) (V_t_kinds : Nat → Int32) (P1 : Int32) (r : Int32) (hM : X0_kindOf V_t V_t_kinds P1 = some r) : xC l D (xT cI cB) yX0_kindOf cX0_kindOf 2 (some .int) { frames := 0, cells := 0, slots := 0, locals := 0 } [.ref A_t, .int P1] [(A_t, oX0 A_t_kinds A_t_oars A_t_wills V_t), (A_t_kinds, .inl (cI, 5, .inl V_t_kinds))] (some (.int r)) [(A_t, oX0 A_t_kinds A_t_oars A_t_wills V_t), (A_t_kinds, .inl (cI, 5, .inl V_t_kinds))] := by
  refine xC.of (by decide +kernel) (Nat.le_of_ble_eq_true rfl) (fun p e s m below meth c A ls E hP hD hS hl => ?_)
  obtain ⟨hx, hb, hr, hts, hown, hml, hlocks, hA, hK⟩ := id E
  replace hl : lv_has ls 2 [(0, .ref A_t), (1, .int P1)] := hl
  rw [X0_kindOf] at hM
  refine lv_iload_n hx hb dX0_kindOf_0 rfl (lv_at hl 1 rfl) ?_
  refine lv_if_lt (tgt := 18) hx hb dX0_kindOf_1 (by decide) (fun c3 => ?_) (fun c3 => ?_)
  · replace hM := og_p c3 hM
    refine lv_iconst (v := 0) hx hb dX0_kindOf_18 (by decide) ?_
    obtain rfl := Option.some.inj hM
    exact x_iret E hP hD hS dX0_kindOf_19
  · replace hM := og_n c3 hM
    refine lv_iload_n hx hb dX0_kindOf_4 rfl (lv_at hl 1 rfl) ?_
    refine lv_iconst (v := 5) hx hb dX0_kindOf_5 (by decide) ?_
    refine lv_icmp_ge (tgt := 18) hx hb dX0_kindOf_6 (by decide) (fun c2 => ?_) (fun c2 => ?_)
    · replace hM := og_p c2 hM
      refine lv_iconst (v := 0) hx hb dX0_kindOf_18 (by decide) ?_
      obtain rfl := Option.some.inj hM
      exact x_iret E hP hD hS dX0_kindOf_19
    · replace hM := og_n c2 hM
      refine lv_aload_n hx hb dX0_kindOf_9 rfl (lv_at hl 0 rfl) ?_
      refine gx0_0 E hP 0 rfl tw_118 dX0_kindOf_10 ?_
      refine lv_iload_n hx hb dX0_kindOf_13 rfl (lv_at hl 1 rfl) ?_
      obtain ⟨hi1, hM⟩ := og_g hM
      refine x_iald E hi1 hP 1 rfl dX0_kindOf_14 ?_
      refine lv_goto (tgt := 19) hx hb dX0_kindOf_15 (by decide) ?_
      obtain rfl := Option.some.inj hM
      exact x_iret E hP hD hS dX0_kindOf_19
def X0_oarOf (V_t : Nat → Int32) (V_t_oars : Nat → Int32) (P1 : Int32) : Option (Int32) := (if P1 < 0 then (some ((0 : Int32))) else (if (5 : Int32) ≤ P1 then (some ((0 : Int32))) else (if xin P1 5 then (some ((V_t_oars P1.toNatClampNeg))) else none)))
theorem ok_X0_oarOf : xV yX0_oarOf cX0_oarOf 2 (some .int) 1 := ⟨tw_331, tw_329, tw_330, tw_53, by decide +kernel, by decide +kernel, by decide +kernel⟩
set_option maxHeartbeats 4000000 in
set_option maxRecDepth 100000 in
theorem c_X0_oarOf (l : Launch) (D : va_G) (cI cB : ClassId) (A_t A_t_kinds A_t_oars A_t_wills : Nat) (V_t : Nat → Int32) (V_t_oars : Nat → Int32) (P1 : Int32) (r : Int32) (hM : X0_oarOf V_t V_t_oars P1 = some r) : xC l D (xT cI cB) yX0_oarOf cX0_oarOf 2 (some .int) { frames := 0, cells := 0, slots := 0, locals := 0 } [.ref A_t, .int P1] [(A_t, oX0 A_t_kinds A_t_oars A_t_wills V_t), (A_t_oars, .inl (cI, 5, .inl V_t_oars))] (some (.int r)) [(A_t, oX0 A_t_kinds A_t_oars A_t_wills V_t), (A_t_oars, .inl (cI, 5, .inl V_t_oars))] := by
  refine xC.of (by decide +kernel) (Nat.le_of_ble_eq_true rfl) (fun p e s m below meth c A ls E hP hD hS hl => ?_)
  obtain ⟨hx, hb, hr, hts, hown, hml, hlocks, hA, hK⟩ := id E
  replace hl : lv_has ls 2 [(0, .ref A_t), (1, .int P1)] := hl
  rw [X0_oarOf] at hM
  refine lv_iload_n hx hb dX0_oarOf_0 rfl (lv_at hl 1 rfl) ?_
  refine lv_if_lt (tgt := 18) hx hb dX0_oarOf_1 (by decide) (fun c3 => ?_) (fun c3 => ?_)
  · replace hM := og_p c3 hM
    refine lv_iconst (v := 0) hx hb dX0_oarOf_18 (by decide) ?_
    obtain rfl := Option.some.inj hM
    exact x_iret E hP hD hS dX0_oarOf_19
  · replace hM := og_n c3 hM
    refine lv_iload_n hx hb dX0_oarOf_4 rfl (lv_at hl 1 rfl) ?_
    refine lv_iconst (v := 5) hx hb dX0_oarOf_5 (by decide) ?_
    refine lv_icmp_ge (tgt := 18) hx hb dX0_oarOf_6 (by decide) (fun c2 => ?_) (fun c2 => ?_)
    · replace hM := og_p c2 hM
      refine lv_iconst (v := 0) hx hb dX0_oarOf_18 (by decide) ?_
      obtain rfl := Option.some.inj hM
      exact x_iret E hP hD hS dX0_oarOf_19
    · replace hM := og_n c2 hM
      refine lv_aload_n hx hb dX0_oarOf_9 rfl (lv_at hl 0 rfl) ?_
      refine gx0_1 E hP 0 rfl tw_119 dX0_oarOf_10 ?_
      refine lv_iload_n hx hb dX0_oarOf_13 rfl (lv_at hl 1 rfl) ?_
      obtain ⟨hi1, hM⟩ := og_g hM
      refine x_iald E hi1 hP 1 rfl dX0_oarOf_14 ?_
      refine lv_goto (tgt := 19) hx hb dX0_oarOf_15 (by decide) ?_
      obtain rfl := Option.some.inj hM
      exact x_iret E hP hD hS dX0_oarOf_19
def X0_willOf (V_t : Nat → Int32) (V_t_wills : Nat → Int32) (P1 : Int32) : Option (Int32) := (if P1 < 0 then (some ((0 : Int32))) else (if (5 : Int32) ≤ P1 then (some ((0 : Int32))) else (if xin P1 5 then (some ((V_t_wills P1.toNatClampNeg))) else none)))
theorem ok_X0_willOf : xV yX0_willOf cX0_willOf 2 (some .int) 1 := ⟨tw_335, tw_333, tw_334, tw_53, by decide +kernel, by decide +kernel, by decide +kernel⟩
set_option maxHeartbeats 4000000 in
set_option maxRecDepth 100000 in
theorem c_X0_willOf (l : Launch) (D : va_G) (cI cB : ClassId) (A_t A_t_kinds A_t_oars A_t_wills : Nat) (V_t : Nat → Int32) (V_t_wills : Nat → Int32) (P1 : Int32) (r : Int32) (hM : X0_willOf V_t V_t_wills P1 = some r) : xC l D (xT cI cB) yX0_willOf cX0_willOf 2 (some .int) { frames := 0, cells := 0, slots := 0, locals := 0 } [.ref A_t, .int P1] [(A_t, oX0 A_t_kinds A_t_oars A_t_wills V_t), (A_t_wills, .inl (cI, 5, .inl V_t_wills))] (some (.int r)) [(A_t, oX0 A_t_kinds A_t_oars A_t_wills V_t), (A_t_wills, .inl (cI, 5, .inl V_t_wills))] := by
  refine xC.of (by decide +kernel) (Nat.le_of_ble_eq_true rfl) (fun p e s m below meth c A ls E hP hD hS hl => ?_)
  obtain ⟨hx, hb, hr, hts, hown, hml, hlocks, hA, hK⟩ := id E
  replace hl : lv_has ls 2 [(0, .ref A_t), (1, .int P1)] := hl
  rw [X0_willOf] at hM
  refine lv_iload_n hx hb dX0_willOf_0 rfl (lv_at hl 1 rfl) ?_
  refine lv_if_lt (tgt := 18) hx hb dX0_willOf_1 (by decide) (fun c3 => ?_) (fun c3 => ?_)
  · replace hM := og_p c3 hM
    refine lv_iconst (v := 0) hx hb dX0_willOf_18 (by decide) ?_
    obtain rfl := Option.some.inj hM
    exact x_iret E hP hD hS dX0_willOf_19
  · replace hM := og_n c3 hM
    refine lv_iload_n hx hb dX0_willOf_4 rfl (lv_at hl 1 rfl) ?_
    refine lv_iconst (v := 5) hx hb dX0_willOf_5 (by decide) ?_
    refine lv_icmp_ge (tgt := 18) hx hb dX0_willOf_6 (by decide) (fun c2 => ?_) (fun c2 => ?_)
    · replace hM := og_p c2 hM
      refine lv_iconst (v := 0) hx hb dX0_willOf_18 (by decide) ?_
      obtain rfl := Option.some.inj hM
      exact x_iret E hP hD hS dX0_willOf_19
    · replace hM := og_n c2 hM
      refine lv_aload_n hx hb dX0_willOf_9 rfl (lv_at hl 0 rfl) ?_
      refine gx0_2 E hP 0 rfl tw_120 dX0_willOf_10 ?_
      refine lv_iload_n hx hb dX0_willOf_13 rfl (lv_at hl 1 rfl) ?_
      obtain ⟨hi1, hM⟩ := og_g hM
      refine x_iald E hi1 hP 1 rfl dX0_willOf_14 ?_
      refine lv_goto (tgt := 19) hx hb dX0_willOf_15 (by decide) ?_
      obtain rfl := Option.some.inj hM
      exact x_iret E hP hD hS dX0_willOf_19
def X0_isOfKind (V_t : Nat → Int32) (V_t_kinds : Nat → Int32) (P1 : Int32) (P2 : Int32) : Option (Bool) := ((X0_kindOf V_t V_t_kinds P1).bind fun u1 => (if P2 = 0 then (some (true)) else (if u1 = P2 then (some (true)) else (if P2 = (3 : Int32) then (if u1 = (4 : Int32) then (some (true)) else (some (false))) else (some (false))))))
theorem ok_X0_isOfKind : xV yX0_isOfKind cX0_isOfKind 4 (some .boolean) 2 := ⟨tw_370, tw_368, tw_369, tw_53, by decide +kernel, by decide +kernel, by decide +kernel⟩
set_option maxHeartbeats 4000000 in
set_option maxRecDepth 100000 in
theorem c_X0_isOfKind (l : Launch) (D : va_G) (cI cB : ClassId) (A_t A_t_kinds A_t_oars A_t_wills : Nat) (V_t : Nat → Int32) (V_t_kinds : Nat → Int32) (P1 : Int32) (P2 : Int32) (r : Bool) (hM : X0_isOfKind V_t V_t_kinds P1 P2 = some r) : xC l D (xT cI cB) yX0_isOfKind cX0_isOfKind 4 (some .boolean) { frames := 1, cells := 0, slots := 0, locals := 21 } [.ref A_t, .int P1, .int P2] [(A_t, oX0 A_t_kinds A_t_oars A_t_wills V_t), (A_t_kinds, .inl (cI, 5, .inl V_t_kinds))] (some (.int (bz r))) [(A_t, oX0 A_t_kinds A_t_oars A_t_wills V_t), (A_t_kinds, .inl (cI, 5, .inl V_t_kinds))] := by
  refine xC.of (by decide +kernel) (Nat.le_of_ble_eq_true rfl) (fun p e s m below meth c A ls E hP hD hS hl => ?_)
  obtain ⟨hx, hb, hr, hts, hown, hml, hlocks, hA, hK⟩ := id E
  replace hl : lv_has ls 4 [(0, .ref A_t), (1, .int P1), (2, .int P2)] := hl
  rw [X0_isOfKind] at hM
  refine lv_aload_n hx hb dX0_isOfKind_0 rfl (lv_at hl 0 rfl) ?_
  refine lv_iload_n hx hb dX0_isOfKind_1 rfl (lv_at hl 1 rfl) ?_
  obtain ⟨u1, hu2, hM⟩ := og_b hM
  refine x_Vi (n := 1) (q0 := 0) (rest := []) (wn := [(A_t, oX0 A_t_kinds A_t_oars A_t_wills V_t), (A_t_kinds, .inl (cI, 5, .inl V_t_kinds))]) E (c_X0_kindOf l D cI cB A_t A_t_kinds A_t_oars A_t_wills V_t V_t_kinds P1 u1 hu2) ok_X0_kindOf tw_371 ⟨rfl, rfl⟩ ⟨Nat.le_of_ble_eq_true rfl, Nat.le_of_ble_eq_true rfl⟩ rfl rfl (Nat.le_of_ble_eq_true rfl) hl dX0_isOfKind_2 ⟨Nat.zero_le _, Nat.zero_le _⟩ hP hD hS [0, 1] [] [] [A_t, A_t_kinds] 2 rfl rfl rfl rfl rfl rfl rfl (by decide +kernel) rfl rfl rfl (fun H locs hP hD hS => ?_)
  refine lv_istore_n (lv' := [(3, .int u1), (0, .ref A_t), (1, .int P1), (2, .int P2)]) hx hb dX0_isOfKind_5 rfl hl (by decide) rfl (fun ls hl => ?_)
  refine lv_iload_n hx hb dX0_isOfKind_6 rfl (lv_at hl 3 rfl) ?_
  refine lv_if_eq (tgt := 25) hx hb dX0_isOfKind_7 (by decide) (fun c6 => ?_) (fun c6 => ?_)
  · replace hM := og_p c6 hM
    refine lv_iconst (v := 1) hx hb dX0_isOfKind_25 (by decide) ?_
    refine lv_goto (tgt := 30) hx hb dX0_isOfKind_26 (by decide) ?_
    obtain rfl := Option.some.inj hM
    exact x_zret (b := true) E hP hD hS dX0_isOfKind_30
  · replace hM := og_n c6 hM
    refine lv_iload_n hx hb dX0_isOfKind_10 rfl (lv_at hl 0 rfl) ?_
    refine lv_iload_n hx hb dX0_isOfKind_11 rfl (lv_at hl 3 rfl) ?_
    refine lv_icmp_eq (tgt := 25) hx hb dX0_isOfKind_12 (by decide) (fun c5 => ?_) (fun c5 => ?_)
    · replace hM := og_p c5 hM
      refine lv_iconst (v := 1) hx hb dX0_isOfKind_25 (by decide) ?_
      refine lv_goto (tgt := 30) hx hb dX0_isOfKind_26 (by decide) ?_
      obtain rfl := Option.some.inj hM
      exact x_zret (b := true) E hP hD hS dX0_isOfKind_30
    · replace hM := og_n c5 hM
      refine lv_iload_n hx hb dX0_isOfKind_15 rfl (lv_at hl 3 rfl) ?_
      refine lv_iconst (v := 3) hx hb dX0_isOfKind_16 (by decide) ?_
      refine lv_icmp_ne (tgt := 29) hx hb dX0_isOfKind_17 (by decide) (fun c4 => ?_) (fun c4 => ?_)
      · replace hM := og_n c4 hM
        refine lv_iconst (v := 0) hx hb dX0_isOfKind_29 (by decide) ?_
        obtain rfl := Option.some.inj hM
        exact x_zret (b := false) E hP hD hS dX0_isOfKind_30
      · replace hM := og_p c4 hM
        refine lv_iload_n hx hb dX0_isOfKind_20 rfl (lv_at hl 0 rfl) ?_
        refine lv_iconst (v := 4) hx hb dX0_isOfKind_21 (by decide) ?_
        refine lv_icmp_ne (tgt := 29) hx hb dX0_isOfKind_22 (by decide) (fun c3 => ?_) (fun c3 => ?_)
        · replace hM := og_n c3 hM
          refine lv_iconst (v := 0) hx hb dX0_isOfKind_29 (by decide) ?_
          obtain rfl := Option.some.inj hM
          exact x_zret (b := false) E hP hD hS dX0_isOfKind_30
        · replace hM := og_p c3 hM
          refine lv_iconst (v := 1) hx hb dX0_isOfKind_25 (by decide) ?_
          refine lv_goto (tgt := 30) hx hb dX0_isOfKind_26 (by decide) ?_
          obtain rfl := Option.some.inj hM
          exact x_zret (b := true) E hP hD hS dX0_isOfKind_30
def J6_bitCount_0f7a4 (P1 : Int32) : Option (Int32) := (some (((((((((P1 - ((P1.toUInt32 >>> ((1 : Int32).toUInt32 &&& Int32.toUInt32 31)).toInt32 &&& (1431655765 : Int32))) &&& (858993459 : Int32)) + (((P1 - ((P1.toUInt32 >>> ((1 : Int32).toUInt32 &&& Int32.toUInt32 31)).toInt32 &&& (1431655765 : Int32))).toUInt32 >>> ((2 : Int32).toUInt32 &&& Int32.toUInt32 31)).toInt32 &&& (858993459 : Int32))) + ((((P1 - ((P1.toUInt32 >>> ((1 : Int32).toUInt32 &&& Int32.toUInt32 31)).toInt32 &&& (1431655765 : Int32))) &&& (858993459 : Int32)) + (((P1 - ((P1.toUInt32 >>> ((1 : Int32).toUInt32 &&& Int32.toUInt32 31)).toInt32 &&& (1431655765 : Int32))).toUInt32 >>> ((2 : Int32).toUInt32 &&& Int32.toUInt32 31)).toInt32 &&& (858993459 : Int32))).toUInt32 >>> ((4 : Int32).toUInt32 &&& Int32.toUInt32 31)).toInt32) &&& (252645135 : Int32)) + ((((((P1 - ((P1.toUInt32 >>> ((1 : Int32).toUInt32 &&& Int32.toUInt32 31)).toInt32 &&& (1431655765 : Int32))) &&& (858993459 : Int32)) + (((P1 - ((P1.toUInt32 >>> ((1 : Int32).toUInt32 &&& Int32.toUInt32 31)).toInt32 &&& (1431655765 : Int32))).toUInt32 >>> ((2 : Int32).toUInt32 &&& Int32.toUInt32 31)).toInt32 &&& (858993459 : Int32))) + ((((P1 - ((P1.toUInt32 >>> ((1 : Int32).toUInt32 &&& Int32.toUInt32 31)).toInt32 &&& (1431655765 : Int32))) &&& (858993459 : Int32)) + (((P1 - ((P1.toUInt32 >>> ((1 : Int32).toUInt32 &&& Int32.toUInt32 31)).toInt32 &&& (1431655765 : Int32))).toUInt32 >>> ((2 : Int32).toUInt32 &&& Int32.toUInt32 31)).toInt32 &&& (858993459 : Int32))).toUInt32 >>> ((4 : Int32).toUInt32 &&& Int32.toUInt32 31)).toInt32) &&& (252645135 : Int32)).toUInt32 >>> ((8 : Int32).toUInt32 &&& Int32.toUInt32 31)).toInt32) + (((((((P1 - ((P1.toUInt32 >>> ((1 : Int32).toUInt32 &&& Int32.toUInt32 31)).toInt32 &&& (1431655765 : Int32))) &&& (858993459 : Int32)) + (((P1 - ((P1.toUInt32 >>> ((1 : Int32).toUInt32 &&& Int32.toUInt32 31)).toInt32 &&& (1431655765 : Int32))).toUInt32 >>> ((2 : Int32).toUInt32 &&& Int32.toUInt32 31)).toInt32 &&& (858993459 : Int32))) + ((((P1 - ((P1.toUInt32 >>> ((1 : Int32).toUInt32 &&& Int32.toUInt32 31)).toInt32 &&& (1431655765 : Int32))) &&& (858993459 : Int32)) + (((P1 - ((P1.toUInt32 >>> ((1 : Int32).toUInt32 &&& Int32.toUInt32 31)).toInt32 &&& (1431655765 : Int32))).toUInt32 >>> ((2 : Int32).toUInt32 &&& Int32.toUInt32 31)).toInt32 &&& (858993459 : Int32))).toUInt32 >>> ((4 : Int32).toUInt32 &&& Int32.toUInt32 31)).toInt32) &&& (252645135 : Int32)) + ((((((P1 - ((P1.toUInt32 >>> ((1 : Int32).toUInt32 &&& Int32.toUInt32 31)).toInt32 &&& (1431655765 : Int32))) &&& (858993459 : Int32)) + (((P1 - ((P1.toUInt32 >>> ((1 : Int32).toUInt32 &&& Int32.toUInt32 31)).toInt32 &&& (1431655765 : Int32))).toUInt32 >>> ((2 : Int32).toUInt32 &&& Int32.toUInt32 31)).toInt32 &&& (858993459 : Int32))) + ((((P1 - ((P1.toUInt32 >>> ((1 : Int32).toUInt32 &&& Int32.toUInt32 31)).toInt32 &&& (1431655765 : Int32))) &&& (858993459 : Int32)) + (((P1 - ((P1.toUInt32 >>> ((1 : Int32).toUInt32 &&& Int32.toUInt32 31)).toInt32 &&& (1431655765 : Int32))).toUInt32 >>> ((2 : Int32).toUInt32 &&& Int32.toUInt32 31)).toInt32 &&& (858993459 : Int32))).toUInt32 >>> ((4 : Int32).toUInt32 &&& Int32.toUInt32 31)).toInt32) &&& (252645135 : Int32)).toUInt32 >>> ((8 : Int32).toUInt32 &&& Int32.toUInt32 31)).toInt32).toUInt32 >>> ((16 : Int32).toUInt32 &&& Int32.toUInt32 31)).toInt32) &&& (63 : Int32))))
theorem ok_J6_bitCount_0f7a4 : xSt yJ6_bitCount_0f7a4 cJ6_bitCount_0f7a4 1 (some .int) 1 := ⟨tw_443, tw_442, tw_58, by decide +kernel, by decide +kernel, by decide +kernel⟩
set_option maxHeartbeats 4000000 in
set_option maxRecDepth 100000 in
theorem c_J6_bitCount_0f7a4 (l : Launch) (D : va_G) (cI cB : ClassId) (P1 : Int32) (r : Int32) (hM : J6_bitCount_0f7a4 P1 = some r) : xC l D (xT cI cB) yJ6_bitCount_0f7a4 cJ6_bitCount_0f7a4 1 (some .int) { frames := 0, cells := 0, slots := 0, locals := 0 } [.int P1] [] (some (.int r)) [] := by
  refine xC.of (by decide +kernel) (Nat.le_of_ble_eq_true rfl) (fun p e s m below meth c A ls E hP hD hS hl => ?_)
  obtain ⟨hx, hb, hr, hts, hown, hml, hlocks, hA, hK⟩ := id E
  replace hl : lv_has ls 1 [(0, .int P1)] := hl
  rw [J6_bitCount_0f7a4] at hM
  refine lv_iload_n hx hb dJ6_bitCount_0f7a4_0 rfl (lv_at hl 0 rfl) ?_
  refine lv_iload_n hx hb dJ6_bitCount_0f7a4_1 rfl (lv_at hl 0 rfl) ?_
  refine lv_iconst (v := 1) hx hb dJ6_bitCount_0f7a4_2 (by decide) ?_
  refine lv_iushr (v := (P1.toUInt32 >>> ((1 : Int32).toUInt32 &&& Int32.toUInt32 31)).toInt32) hx hb dJ6_bitCount_0f7a4_3 rfl ?_
  refine lv_ldcw (v := 1431655765) hx hb hown (hts _ tw_444) dJ6_bitCount_0f7a4_4 ?_
  refine lv_iand hx hb dJ6_bitCount_0f7a4_7 ?_
  refine lv_isub hx hb dJ6_bitCount_0f7a4_8 ?_
  refine lv_istore_n (lv' := [(0, .int (P1 - ((P1.toUInt32 >>> ((1 : Int32).toUInt32 &&& Int32.toUInt32 31)).toInt32 &&& (1431655765 : Int32))))]) hx hb dJ6_bitCount_0f7a4_9 rfl hl (by decide) rfl (fun ls hl => ?_)
  refine lv_iload_n hx hb dJ6_bitCount_0f7a4_10 rfl (lv_at hl 0 rfl) ?_
  refine lv_ldcw (v := 858993459) hx hb hown (hts _ tw_445) dJ6_bitCount_0f7a4_11 ?_
  refine lv_iand hx hb dJ6_bitCount_0f7a4_14 ?_
  refine lv_iload_n hx hb dJ6_bitCount_0f7a4_15 rfl (lv_at hl 0 rfl) ?_
  refine lv_iconst (v := 2) hx hb dJ6_bitCount_0f7a4_16 (by decide) ?_
  refine lv_iushr (v := ((P1 - ((P1.toUInt32 >>> ((1 : Int32).toUInt32 &&& Int32.toUInt32 31)).toInt32 &&& (1431655765 : Int32))).toUInt32 >>> ((2 : Int32).toUInt32 &&& Int32.toUInt32 31)).toInt32) hx hb dJ6_bitCount_0f7a4_17 rfl ?_
  refine lv_ldcw (v := 858993459) hx hb hown (hts _ tw_445) dJ6_bitCount_0f7a4_18 ?_
  refine lv_iand hx hb dJ6_bitCount_0f7a4_21 ?_
  refine lv_iadd hx hb dJ6_bitCount_0f7a4_22 ?_
  refine lv_istore_n (lv' := [(0, .int (((P1 - ((P1.toUInt32 >>> ((1 : Int32).toUInt32 &&& Int32.toUInt32 31)).toInt32 &&& (1431655765 : Int32))) &&& (858993459 : Int32)) + (((P1 - ((P1.toUInt32 >>> ((1 : Int32).toUInt32 &&& Int32.toUInt32 31)).toInt32 &&& (1431655765 : Int32))).toUInt32 >>> ((2 : Int32).toUInt32 &&& Int32.toUInt32 31)).toInt32 &&& (858993459 : Int32))))]) hx hb dJ6_bitCount_0f7a4_23 rfl hl (by decide) rfl (fun ls hl => ?_)
  refine lv_iload_n hx hb dJ6_bitCount_0f7a4_24 rfl (lv_at hl 0 rfl) ?_
  refine lv_iload_n hx hb dJ6_bitCount_0f7a4_25 rfl (lv_at hl 0 rfl) ?_
  refine lv_iconst (v := 4) hx hb dJ6_bitCount_0f7a4_26 (by decide) ?_
  refine lv_iushr (v := ((((P1 - ((P1.toUInt32 >>> ((1 : Int32).toUInt32 &&& Int32.toUInt32 31)).toInt32 &&& (1431655765 : Int32))) &&& (858993459 : Int32)) + (((P1 - ((P1.toUInt32 >>> ((1 : Int32).toUInt32 &&& Int32.toUInt32 31)).toInt32 &&& (1431655765 : Int32))).toUInt32 >>> ((2 : Int32).toUInt32 &&& Int32.toUInt32 31)).toInt32 &&& (858993459 : Int32))).toUInt32 >>> ((4 : Int32).toUInt32 &&& Int32.toUInt32 31)).toInt32) hx hb dJ6_bitCount_0f7a4_27 rfl ?_
  refine lv_iadd hx hb dJ6_bitCount_0f7a4_28 ?_
  refine lv_ldcw (v := 252645135) hx hb hown (hts _ tw_446) dJ6_bitCount_0f7a4_29 ?_
  refine lv_iand hx hb dJ6_bitCount_0f7a4_32 ?_
  refine lv_istore_n (lv' := [(0, .int (((((P1 - ((P1.toUInt32 >>> ((1 : Int32).toUInt32 &&& Int32.toUInt32 31)).toInt32 &&& (1431655765 : Int32))) &&& (858993459 : Int32)) + (((P1 - ((P1.toUInt32 >>> ((1 : Int32).toUInt32 &&& Int32.toUInt32 31)).toInt32 &&& (1431655765 : Int32))).toUInt32 >>> ((2 : Int32).toUInt32 &&& Int32.toUInt32 31)).toInt32 &&& (858993459 : Int32))) + ((((P1 - ((P1.toUInt32 >>> ((1 : Int32).toUInt32 &&& Int32.toUInt32 31)).toInt32 &&& (1431655765 : Int32))) &&& (858993459 : Int32)) + (((P1 - ((P1.toUInt32 >>> ((1 : Int32).toUInt32 &&& Int32.toUInt32 31)).toInt32 &&& (1431655765 : Int32))).toUInt32 >>> ((2 : Int32).toUInt32 &&& Int32.toUInt32 31)).toInt32 &&& (858993459 : Int32))).toUInt32 >>> ((4 : Int32).toUInt32 &&& Int32.toUInt32 31)).toInt32) &&& (252645135 : Int32)))]) hx hb dJ6_bitCount_0f7a4_33 rfl hl (by decide) rfl (fun ls hl => ?_)
  refine lv_iload_n hx hb dJ6_bitCount_0f7a4_34 rfl (lv_at hl 0 rfl) ?_
  refine lv_iload_n hx hb dJ6_bitCount_0f7a4_35 rfl (lv_at hl 0 rfl) ?_
  refine lv_bipush (v := 8) hx hb dJ6_bitCount_0f7a4_36 (by decide) ?_
  refine lv_iushr (v := ((((((P1 - ((P1.toUInt32 >>> ((1 : Int32).toUInt32 &&& Int32.toUInt32 31)).toInt32 &&& (1431655765 : Int32))) &&& (858993459 : Int32)) + (((P1 - ((P1.toUInt32 >>> ((1 : Int32).toUInt32 &&& Int32.toUInt32 31)).toInt32 &&& (1431655765 : Int32))).toUInt32 >>> ((2 : Int32).toUInt32 &&& Int32.toUInt32 31)).toInt32 &&& (858993459 : Int32))) + ((((P1 - ((P1.toUInt32 >>> ((1 : Int32).toUInt32 &&& Int32.toUInt32 31)).toInt32 &&& (1431655765 : Int32))) &&& (858993459 : Int32)) + (((P1 - ((P1.toUInt32 >>> ((1 : Int32).toUInt32 &&& Int32.toUInt32 31)).toInt32 &&& (1431655765 : Int32))).toUInt32 >>> ((2 : Int32).toUInt32 &&& Int32.toUInt32 31)).toInt32 &&& (858993459 : Int32))).toUInt32 >>> ((4 : Int32).toUInt32 &&& Int32.toUInt32 31)).toInt32) &&& (252645135 : Int32)).toUInt32 >>> ((8 : Int32).toUInt32 &&& Int32.toUInt32 31)).toInt32) hx hb dJ6_bitCount_0f7a4_38 rfl ?_
  refine lv_iadd hx hb dJ6_bitCount_0f7a4_39 ?_
  refine lv_istore_n (lv' := [(0, .int ((((((P1 - ((P1.toUInt32 >>> ((1 : Int32).toUInt32 &&& Int32.toUInt32 31)).toInt32 &&& (1431655765 : Int32))) &&& (858993459 : Int32)) + (((P1 - ((P1.toUInt32 >>> ((1 : Int32).toUInt32 &&& Int32.toUInt32 31)).toInt32 &&& (1431655765 : Int32))).toUInt32 >>> ((2 : Int32).toUInt32 &&& Int32.toUInt32 31)).toInt32 &&& (858993459 : Int32))) + ((((P1 - ((P1.toUInt32 >>> ((1 : Int32).toUInt32 &&& Int32.toUInt32 31)).toInt32 &&& (1431655765 : Int32))) &&& (858993459 : Int32)) + (((P1 - ((P1.toUInt32 >>> ((1 : Int32).toUInt32 &&& Int32.toUInt32 31)).toInt32 &&& (1431655765 : Int32))).toUInt32 >>> ((2 : Int32).toUInt32 &&& Int32.toUInt32 31)).toInt32 &&& (858993459 : Int32))).toUInt32 >>> ((4 : Int32).toUInt32 &&& Int32.toUInt32 31)).toInt32) &&& (252645135 : Int32)) + ((((((P1 - ((P1.toUInt32 >>> ((1 : Int32).toUInt32 &&& Int32.toUInt32 31)).toInt32 &&& (1431655765 : Int32))) &&& (858993459 : Int32)) + (((P1 - ((P1.toUInt32 >>> ((1 : Int32).toUInt32 &&& Int32.toUInt32 31)).toInt32 &&& (1431655765 : Int32))).toUInt32 >>> ((2 : Int32).toUInt32 &&& Int32.toUInt32 31)).toInt32 &&& (858993459 : Int32))) + ((((P1 - ((P1.toUInt32 >>> ((1 : Int32).toUInt32 &&& Int32.toUInt32 31)).toInt32 &&& (1431655765 : Int32))) &&& (858993459 : Int32)) + (((P1 - ((P1.toUInt32 >>> ((1 : Int32).toUInt32 &&& Int32.toUInt32 31)).toInt32 &&& (1431655765 : Int32))).toUInt32 >>> ((2 : Int32).toUInt32 &&& Int32.toUInt32 31)).toInt32 &&& (858993459 : Int32))).toUInt32 >>> ((4 : Int32).toUInt32 &&& Int32.toUInt32 31)).toInt32) &&& (252645135 : Int32)).toUInt32 >>> ((8 : Int32).toUInt32 &&& Int32.toUInt32 31)).toInt32))]) hx hb dJ6_bitCount_0f7a4_40 rfl hl (by decide) rfl (fun ls hl => ?_)
  refine lv_iload_n hx hb dJ6_bitCount_0f7a4_41 rfl (lv_at hl 0 rfl) ?_
  refine lv_iload_n hx hb dJ6_bitCount_0f7a4_42 rfl (lv_at hl 0 rfl) ?_
  refine lv_bipush (v := 16) hx hb dJ6_bitCount_0f7a4_43 (by decide) ?_
  refine lv_iushr (v := (((((((P1 - ((P1.toUInt32 >>> ((1 : Int32).toUInt32 &&& Int32.toUInt32 31)).toInt32 &&& (1431655765 : Int32))) &&& (858993459 : Int32)) + (((P1 - ((P1.toUInt32 >>> ((1 : Int32).toUInt32 &&& Int32.toUInt32 31)).toInt32 &&& (1431655765 : Int32))).toUInt32 >>> ((2 : Int32).toUInt32 &&& Int32.toUInt32 31)).toInt32 &&& (858993459 : Int32))) + ((((P1 - ((P1.toUInt32 >>> ((1 : Int32).toUInt32 &&& Int32.toUInt32 31)).toInt32 &&& (1431655765 : Int32))) &&& (858993459 : Int32)) + (((P1 - ((P1.toUInt32 >>> ((1 : Int32).toUInt32 &&& Int32.toUInt32 31)).toInt32 &&& (1431655765 : Int32))).toUInt32 >>> ((2 : Int32).toUInt32 &&& Int32.toUInt32 31)).toInt32 &&& (858993459 : Int32))).toUInt32 >>> ((4 : Int32).toUInt32 &&& Int32.toUInt32 31)).toInt32) &&& (252645135 : Int32)) + ((((((P1 - ((P1.toUInt32 >>> ((1 : Int32).toUInt32 &&& Int32.toUInt32 31)).toInt32 &&& (1431655765 : Int32))) &&& (858993459 : Int32)) + (((P1 - ((P1.toUInt32 >>> ((1 : Int32).toUInt32 &&& Int32.toUInt32 31)).toInt32 &&& (1431655765 : Int32))).toUInt32 >>> ((2 : Int32).toUInt32 &&& Int32.toUInt32 31)).toInt32 &&& (858993459 : Int32))) + ((((P1 - ((P1.toUInt32 >>> ((1 : Int32).toUInt32 &&& Int32.toUInt32 31)).toInt32 &&& (1431655765 : Int32))) &&& (858993459 : Int32)) + (((P1 - ((P1.toUInt32 >>> ((1 : Int32).toUInt32 &&& Int32.toUInt32 31)).toInt32 &&& (1431655765 : Int32))).toUInt32 >>> ((2 : Int32).toUInt32 &&& Int32.toUInt32 31)).toInt32 &&& (858993459 : Int32))).toUInt32 >>> ((4 : Int32).toUInt32 &&& Int32.toUInt32 31)).toInt32) &&& (252645135 : Int32)).toUInt32 >>> ((8 : Int32).toUInt32 &&& Int32.toUInt32 31)).toInt32).toUInt32 >>> ((16 : Int32).toUInt32 &&& Int32.toUInt32 31)).toInt32) hx hb dJ6_bitCount_0f7a4_45 rfl ?_
  refine lv_iadd hx hb dJ6_bitCount_0f7a4_46 ?_
  refine lv_istore_n (lv' := [(0, .int (((((((P1 - ((P1.toUInt32 >>> ((1 : Int32).toUInt32 &&& Int32.toUInt32 31)).toInt32 &&& (1431655765 : Int32))) &&& (858993459 : Int32)) + (((P1 - ((P1.toUInt32 >>> ((1 : Int32).toUInt32 &&& Int32.toUInt32 31)).toInt32 &&& (1431655765 : Int32))).toUInt32 >>> ((2 : Int32).toUInt32 &&& Int32.toUInt32 31)).toInt32 &&& (858993459 : Int32))) + ((((P1 - ((P1.toUInt32 >>> ((1 : Int32).toUInt32 &&& Int32.toUInt32 31)).toInt32 &&& (1431655765 : Int32))) &&& (858993459 : Int32)) + (((P1 - ((P1.toUInt32 >>> ((1 : Int32).toUInt32 &&& Int32.toUInt32 31)).toInt32 &&& (1431655765 : Int32))).toUInt32 >>> ((2 : Int32).toUInt32 &&& Int32.toUInt32 31)).toInt32 &&& (858993459 : Int32))).toUInt32 >>> ((4 : Int32).toUInt32 &&& Int32.toUInt32 31)).toInt32) &&& (252645135 : Int32)) + ((((((P1 - ((P1.toUInt32 >>> ((1 : Int32).toUInt32 &&& Int32.toUInt32 31)).toInt32 &&& (1431655765 : Int32))) &&& (858993459 : Int32)) + (((P1 - ((P1.toUInt32 >>> ((1 : Int32).toUInt32 &&& Int32.toUInt32 31)).toInt32 &&& (1431655765 : Int32))).toUInt32 >>> ((2 : Int32).toUInt32 &&& Int32.toUInt32 31)).toInt32 &&& (858993459 : Int32))) + ((((P1 - ((P1.toUInt32 >>> ((1 : Int32).toUInt32 &&& Int32.toUInt32 31)).toInt32 &&& (1431655765 : Int32))) &&& (858993459 : Int32)) + (((P1 - ((P1.toUInt32 >>> ((1 : Int32).toUInt32 &&& Int32.toUInt32 31)).toInt32 &&& (1431655765 : Int32))).toUInt32 >>> ((2 : Int32).toUInt32 &&& Int32.toUInt32 31)).toInt32 &&& (858993459 : Int32))).toUInt32 >>> ((4 : Int32).toUInt32 &&& Int32.toUInt32 31)).toInt32) &&& (252645135 : Int32)).toUInt32 >>> ((8 : Int32).toUInt32 &&& Int32.toUInt32 31)).toInt32) + (((((((P1 - ((P1.toUInt32 >>> ((1 : Int32).toUInt32 &&& Int32.toUInt32 31)).toInt32 &&& (1431655765 : Int32))) &&& (858993459 : Int32)) + (((P1 - ((P1.toUInt32 >>> ((1 : Int32).toUInt32 &&& Int32.toUInt32 31)).toInt32 &&& (1431655765 : Int32))).toUInt32 >>> ((2 : Int32).toUInt32 &&& Int32.toUInt32 31)).toInt32 &&& (858993459 : Int32))) + ((((P1 - ((P1.toUInt32 >>> ((1 : Int32).toUInt32 &&& Int32.toUInt32 31)).toInt32 &&& (1431655765 : Int32))) &&& (858993459 : Int32)) + (((P1 - ((P1.toUInt32 >>> ((1 : Int32).toUInt32 &&& Int32.toUInt32 31)).toInt32 &&& (1431655765 : Int32))).toUInt32 >>> ((2 : Int32).toUInt32 &&& Int32.toUInt32 31)).toInt32 &&& (858993459 : Int32))).toUInt32 >>> ((4 : Int32).toUInt32 &&& Int32.toUInt32 31)).toInt32) &&& (252645135 : Int32)) + ((((((P1 - ((P1.toUInt32 >>> ((1 : Int32).toUInt32 &&& Int32.toUInt32 31)).toInt32 &&& (1431655765 : Int32))) &&& (858993459 : Int32)) + (((P1 - ((P1.toUInt32 >>> ((1 : Int32).toUInt32 &&& Int32.toUInt32 31)).toInt32 &&& (1431655765 : Int32))).toUInt32 >>> ((2 : Int32).toUInt32 &&& Int32.toUInt32 31)).toInt32 &&& (858993459 : Int32))) + ((((P1 - ((P1.toUInt32 >>> ((1 : Int32).toUInt32 &&& Int32.toUInt32 31)).toInt32 &&& (1431655765 : Int32))) &&& (858993459 : Int32)) + (((P1 - ((P1.toUInt32 >>> ((1 : Int32).toUInt32 &&& Int32.toUInt32 31)).toInt32 &&& (1431655765 : Int32))).toUInt32 >>> ((2 : Int32).toUInt32 &&& Int32.toUInt32 31)).toInt32 &&& (858993459 : Int32))).toUInt32 >>> ((4 : Int32).toUInt32 &&& Int32.toUInt32 31)).toInt32) &&& (252645135 : Int32)).toUInt32 >>> ((8 : Int32).toUInt32 &&& Int32.toUInt32 31)).toInt32).toUInt32 >>> ((16 : Int32).toUInt32 &&& Int32.toUInt32 31)).toInt32))]) hx hb dJ6_bitCount_0f7a4_47 rfl hl (by decide) rfl (fun ls hl => ?_)
  refine lv_iload_n hx hb dJ6_bitCount_0f7a4_48 rfl (lv_at hl 0 rfl) ?_
  refine lv_bipush (v := 63) hx hb dJ6_bitCount_0f7a4_49 (by decide) ?_
  refine lv_iand hx hb dJ6_bitCount_0f7a4_51 ?_
  obtain rfl := Option.some.inj hM
  exact x_iret E hP hD hS dJ6_bitCount_0f7a4_52
def X0_everyone (V_t : Nat → Int32) : Option (Int32) := (some ((((1 : Int32) <<< ((V_t 3) &&& 31)) - (1 : Int32))))
theorem ok_X0_everyone : xV yX0_everyone cX0_everyone 1 (some .int) 0 := ⟨tw_462, tw_460, tw_461, tw_53, by decide +kernel, by decide +kernel, by decide +kernel⟩
set_option maxHeartbeats 4000000 in
set_option maxRecDepth 100000 in
theorem c_X0_everyone (l : Launch) (D : va_G) (cI cB : ClassId) (A_t A_t_kinds A_t_oars A_t_wills : Nat) (V_t : Nat → Int32) (r : Int32) (hM : X0_everyone V_t = some r) : xC l D (xT cI cB) yX0_everyone cX0_everyone 1 (some .int) { frames := 0, cells := 0, slots := 0, locals := 0 } [.ref A_t] [(A_t, oX0 A_t_kinds A_t_oars A_t_wills V_t)] (some (.int r)) [(A_t, oX0 A_t_kinds A_t_oars A_t_wills V_t)] := by
  refine xC.of (by decide +kernel) (Nat.le_of_ble_eq_true rfl) (fun p e s m below meth c A ls E hP hD hS hl => ?_)
  obtain ⟨hx, hb, hr, hts, hown, hml, hlocks, hA, hK⟩ := id E
  replace hl : lv_has ls 1 [(0, .ref A_t)] := hl
  rw [X0_everyone] at hM
  refine lv_iconst (v := 1) hx hb dX0_everyone_0 (by decide) ?_
  refine lv_aload_n hx hb dX0_everyone_1 rfl (lv_at hl 0 rfl) ?_
  refine gx0_3 (v := (V_t 3)) E hP 0 rfl rfl tw_121 dX0_everyone_2 ?_
  refine lv_ishl hx hb dX0_everyone_5 ?_
  refine lv_iconst (v := 1) hx hb dX0_everyone_6 (by decide) ?_
  refine lv_isub hx hb dX0_everyone_7 ?_
  obtain rfl := Option.some.inj hM
  exact x_iret E hP hD hS dX0_everyone_8
def X3_copy (V_t : Nat → Int32) (V_t_songs : Nat → Int32) (V_t_rocks : Nat → Int32) (V_p1 : Nat → Int32) (V_p1_songs : Nat → Int32) (V_p1_rocks : Nat → Int32) : Option ((Nat → Int32) × (Nat → Int32) × (Nat → Int32)) := (some ((upd (upd (upd V_t 2 (V_p1 2)) 3 (V_p1 3)) 4 (V_p1 4)), (va_cpy V_p1_songs V_t_songs (0 : Int32).toNatClampNeg (0 : Int32).toNatClampNeg (12 : Int32).toNatClampNeg), (va_cpy V_p1_rocks V_t_rocks (0 : Int32).toNatClampNeg (0 : Int32).toNatClampNeg (12 : Int32).toNatClampNeg)))
theorem ok_X3_copy : xV yX3_copy cX3_copy 2 none 1 := ⟨tw_487, tw_486, tw_14, tw_52, by decide +kernel, by decide +kernel, by decide +kernel⟩
set_option maxHeartbeats 4000000 in
set_option maxRecDepth 100000 in
theorem c_X3_copy (l : Launch) (D : va_G) (cI cB : ClassId) (A_t A_t_songs A_t_rocks A_p1 A_p1_songs A_p1_rocks : Nat) (V_t : Nat → Int32) (V_t_songs : Nat → Int32) (V_t_rocks : Nat → Int32) (V_p1 : Nat → Int32) (V_p1_songs : Nat → Int32) (V_p1_rocks : Nat → Int32) (r : (Nat → Int32) × (Nat → Int32) × (Nat → Int32)) (hM : X3_copy V_t V_t_songs V_t_rocks V_p1 V_p1_songs V_p1_rocks = some r) : xC l D (xT cI cB) yX3_copy cX3_copy 2 none { frames := 1, cells := 0, slots := 0, locals := 18 } [.ref A_t, .ref A_p1] [(A_t, oX3 A_t_songs A_t_rocks V_t), (A_t_songs, .inl (cI, 12, .inl V_t_songs)), (A_t_rocks, .inl (cI, 12, .inl V_t_rocks)), (A_p1, oX3 A_p1_songs A_p1_rocks V_p1), (A_p1_songs, .inl (cI, 12, .inl V_p1_songs)), (A_p1_rocks, .inl (cI, 12, .inl V_p1_rocks))] none [(A_t, oX3 A_t_songs A_t_rocks r.1), (A_t_songs, .inl (cI, 12, .inl r.2.1)), (A_t_rocks, .inl (cI, 12, .inl r.2.2)), (A_p1, oX3 A_p1_songs A_p1_rocks V_p1), (A_p1_songs, .inl (cI, 12, .inl V_p1_songs)), (A_p1_rocks, .inl (cI, 12, .inl V_p1_rocks))] := by
  refine xC.of (by decide +kernel) (Nat.le_of_ble_eq_true rfl) (fun p e s m below meth c A ls E hP hD hS hl => ?_)
  obtain ⟨hx, hb, hr, hts, hown, hml, hlocks, hA, hK⟩ := id E
  replace hl : lv_has ls 2 [(0, .ref A_t), (1, .ref A_p1)] := hl
  rw [X3_copy] at hM
  refine lv_aload_n hx hb dX3_copy_0 rfl (lv_at hl 1 rfl) ?_
  refine gx3_0 E hP 3 rfl tw_90 dX3_copy_1 ?_
  refine lv_iconst (v := 0) hx hb dX3_copy_4 (by decide) ?_
  refine lv_aload_n hx hb dX3_copy_5 rfl (lv_at hl 0 rfl) ?_
  refine gx3_0 E hP 0 rfl tw_90 dX3_copy_6 ?_
  refine lv_iconst (v := 0) hx hb dX3_copy_9 (by decide) ?_
  refine lv_bipush (v := 12) hx hb dX3_copy_10 (by decide) ?_
  refine x_copy (wn := [(A_t, oX3 A_t_songs A_t_rocks V_t), (A_t_songs, .inl (cI, 12, .inl (va_cpy V_p1_songs V_t_songs (0 : Int32).toNatClampNeg (0 : Int32).toNatClampNeg (12 : Int32).toNatClampNeg))), (A_t_rocks, .inl (cI, 12, .inl V_t_rocks)), (A_p1, oX3 A_p1_songs A_p1_rocks V_p1), (A_p1_songs, .inl (cI, 12, .inl V_p1_songs)), (A_p1_rocks, .inl (cI, 12, .inl V_p1_rocks))]) E hl.1 tw_488 tw_431 tw_430 tw_57 hP hD hS 4 1 rfl rfl (by decide) (by decide) (by decide) (by decide) (by decide) (Nat.le_of_ble_eq_true rfl) (Nat.le_of_ble_eq_true rfl) dX3_copy_12 rfl (fun H locs hP hD hS => ?_)
  refine lv_aload_n hx hb dX3_copy_15 rfl (lv_at hl 1 rfl) ?_
  refine gx3_1 E hP 3 rfl tw_91 dX3_copy_16 ?_
  refine lv_iconst (v := 0) hx hb dX3_copy_19 (by decide) ?_
  refine lv_aload_n hx hb dX3_copy_20 rfl (lv_at hl 0 rfl) ?_
  refine gx3_1 E hP 0 rfl tw_91 dX3_copy_21 ?_
  refine lv_iconst (v := 0) hx hb dX3_copy_24 (by decide) ?_
  refine lv_bipush (v := 12) hx hb dX3_copy_25 (by decide) ?_
  refine x_copy (wn := [(A_t, oX3 A_t_songs A_t_rocks V_t), (A_t_songs, .inl (cI, 12, .inl (va_cpy V_p1_songs V_t_songs (0 : Int32).toNatClampNeg (0 : Int32).toNatClampNeg (12 : Int32).toNatClampNeg))), (A_t_rocks, .inl (cI, 12, .inl (va_cpy V_p1_rocks V_t_rocks (0 : Int32).toNatClampNeg (0 : Int32).toNatClampNeg (12 : Int32).toNatClampNeg))), (A_p1, oX3 A_p1_songs A_p1_rocks V_p1), (A_p1_songs, .inl (cI, 12, .inl V_p1_songs)), (A_p1_rocks, .inl (cI, 12, .inl V_p1_rocks))]) E hl.1 tw_488 tw_431 tw_430 tw_57 hP hD hS 5 2 rfl rfl (by decide) (by decide) (by decide) (by decide) (by decide) (Nat.le_of_ble_eq_true rfl) (Nat.le_of_ble_eq_true rfl) dX3_copy_27 rfl (fun H locs hP hD hS => ?_)
  refine lv_aload_n hx hb dX3_copy_30 rfl (lv_at hl 0 rfl) ?_
  refine lv_aload_n hx hb dX3_copy_31 rfl (lv_at hl 1 rfl) ?_
  refine gx3_2 (v := (V_p1 2)) E hP 3 rfl rfl tw_92 dX3_copy_32 ?_
  refine px3_2 (wn := [(A_t, oX3 A_t_songs A_t_rocks (upd V_t 2 (V_p1 2))), (A_t_songs, .inl (cI, 12, .inl (va_cpy V_p1_songs V_t_songs (0 : Int32).toNatClampNeg (0 : Int32).toNatClampNeg (12 : Int32).toNatClampNeg))), (A_t_rocks, .inl (cI, 12, .inl (va_cpy V_p1_rocks V_t_rocks (0 : Int32).toNatClampNeg (0 : Int32).toNatClampNeg (12 : Int32).toNatClampNeg))), (A_p1, oX3 A_p1_songs A_p1_rocks V_p1), (A_p1_songs, .inl (cI, 12, .inl V_p1_songs)), (A_p1_rocks, .inl (cI, 12, .inl V_p1_rocks))]) E hP hD hS 0 rfl tw_92 dX3_copy_35 rfl (fun H locs hP hD hS => ?_)
  refine lv_aload_n hx hb dX3_copy_38 rfl (lv_at hl 0 rfl) ?_
  refine lv_aload_n hx hb dX3_copy_39 rfl (lv_at hl 1 rfl) ?_
  refine gx3_3 (v := (V_p1 3)) E hP 3 rfl rfl tw_95 dX3_copy_40 ?_
  refine px3_3 (wn := [(A_t, oX3 A_t_songs A_t_rocks (upd (upd V_t 2 (V_p1 2)) 3 (V_p1 3))), (A_t_songs, .inl (cI, 12, .inl (va_cpy V_p1_songs V_t_songs (0 : Int32).toNatClampNeg (0 : Int32).toNatClampNeg (12 : Int32).toNatClampNeg))), (A_t_rocks, .inl (cI, 12, .inl (va_cpy V_p1_rocks V_t_rocks (0 : Int32).toNatClampNeg (0 : Int32).toNatClampNeg (12 : Int32).toNatClampNeg))), (A_p1, oX3 A_p1_songs A_p1_rocks V_p1), (A_p1_songs, .inl (cI, 12, .inl V_p1_songs)), (A_p1_rocks, .inl (cI, 12, .inl V_p1_rocks))]) E hP hD hS 0 rfl tw_95 dX3_copy_43 rfl (fun H locs hP hD hS => ?_)
  refine lv_aload_n hx hb dX3_copy_46 rfl (lv_at hl 0 rfl) ?_
  refine lv_aload_n hx hb dX3_copy_47 rfl (lv_at hl 1 rfl) ?_
  refine gx3_4 (v := (V_p1 4)) E hP 3 rfl rfl tw_98 dX3_copy_48 ?_
  refine px3_4 (wn := [(A_t, oX3 A_t_songs A_t_rocks (upd (upd (upd V_t 2 (V_p1 2)) 3 (V_p1 3)) 4 (V_p1 4))), (A_t_songs, .inl (cI, 12, .inl (va_cpy V_p1_songs V_t_songs (0 : Int32).toNatClampNeg (0 : Int32).toNatClampNeg (12 : Int32).toNatClampNeg))), (A_t_rocks, .inl (cI, 12, .inl (va_cpy V_p1_rocks V_t_rocks (0 : Int32).toNatClampNeg (0 : Int32).toNatClampNeg (12 : Int32).toNatClampNeg))), (A_p1, oX3 A_p1_songs A_p1_rocks V_p1), (A_p1_songs, .inl (cI, 12, .inl V_p1_songs)), (A_p1_rocks, .inl (cI, 12, .inl V_p1_rocks))]) E hP hD hS 0 rfl tw_98 dX3_copy_51 rfl (fun H locs hP hD hS => ?_)
  obtain rfl := Option.some.inj hM
  exact x_vret E hP hD hS dX3_copy_54
def X3_copyWeaker_7 (n : Nat) (V_p1 : Nat → Int32) (V_p1_songs : Nat → Int32) (V_p1_rocks : Nat → Int32) : Nat → (Nat → Int32) → (Nat → Int32) → (Nat → Int32) → Int32 → Int32 → Option ((Nat → Int32) × (Nat → Int32) × (Nat → Int32))
  | 0, _, _, _, _, _ => none
  | k + 1, V_t, V_t_songs, V_t_rocks, L2, L3 => (if (V_t 4) ≤ L3 then (some (V_t, V_t_songs, V_t_rocks)) else ((X3_songAt V_t V_t_songs L3).bind fun u3 => ((X3_setSong V_t V_t_songs L3 (if (0 : Int32) < (u3 - L2) then (u3 - L2) else (0 : Int32))).bind fun u5 => (X3_copyWeaker_7 n V_p1 V_p1_songs V_p1_rocks k V_t u5 V_t_rocks L2 (L3 + 1)))))
set_option maxHeartbeats 4000000 in
set_option maxRecDepth 100000 in
theorem lp_X3_copyWeaker_7 (n : Nat) (l : Launch) (D : va_G) (cI cB : ClassId) (A_t A_t_songs A_t_rocks A_p1 A_p1_songs A_p1_rocks : Nat) (V_p1 : Nat → Int32) (V_p1_songs : Nat → Int32) (V_p1_rocks : Nat → Int32) (r : (Nat → Int32) × (Nat → Int32) × (Nat → Int32)) {p : Program} {e : Env} {s : State} {m : MethodId} {args : Array Value} {below : List Frame} {meth : Method} {c : Code} {A : Nat → Prop} (E : xE p s m args meth c A D (xT cI cB) RX3 cX3_copyWeaker 4 none) :
    ∀ (k : Nat) (V_t : Nat → Int32) (V_t_songs : Nat → Int32) (V_t_rocks : Nat → Int32) (L2 : Int32) (L3 : Int32), X3_copyWeaker_7 n V_p1 V_p1_songs V_p1_rocks k V_t V_t_songs V_t_rocks L2 L3 = some r → ∀ (H : Heap) (locs : List Loc) (ls : Array Slot), va_P D vwCl [(A_t, oX3 A_t_songs A_t_rocks V_t), (A_t_songs, .inl (cI, 12, .inl V_t_songs)), (A_t_rocks, .inl (cI, 12, .inl V_t_rocks)), (A_p1, oX3 A_p1_songs A_p1_rocks V_p1), (A_p1_songs, .inl (cI, 12, .inl V_p1_songs)), (A_p1_rocks, .inl (cI, 12, .inl V_p1_rocks))] H → va_D A [(A_t, oX3 A_t_songs A_t_rocks V_t), (A_t_songs, .inl (cI, 12, .inl V_t_songs)), (A_t_rocks, .inl (cI, 12, .inl V_t_rocks)), (A_p1, oX3 A_p1_songs A_p1_rocks V_p1), (A_p1_songs, .inl (cI, 12, .inl V_p1_songs)), (A_p1_rocks, .inl (cI, 12, .inl V_p1_rocks))] → va_S A s.heap H locs → lv_has ls 4 [(0, .ref A_t), (1, .ref A_p1), (2, .int L2), (3, .int L3)] → W p l e { frames := 2, cells := 0, slots := 0, locals := 39 } s m args below meth c H locs 0 0 (MQ below (xQ D (xT cI cB) [(A_t, oX3 A_t_songs A_t_rocks r.1), (A_t_songs, .inl (cI, 12, .inl r.2.1)), (A_t_rocks, .inl (cI, 12, .inl r.2.2)), (A_p1, oX3 A_p1_songs A_p1_rocks V_p1), (A_p1_songs, .inl (cI, 12, .inl V_p1_songs)), (A_p1_rocks, .inl (cI, 12, .inl V_p1_rocks))] none A) args s 0 0 A) (F0 m 7 ls []) := by
  obtain ⟨hx, hb, hr, hts, hown, hml, hlocks, hA, hK⟩ := id E
  intro k
  induction k with
  | zero =>
    intro V_t V_t_songs V_t_rocks L2 L3 hM
    rw [X3_copyWeaker_7] at hM
    cases hM
  | succ k ih =>
    intro V_t V_t_songs V_t_rocks L2 L3 hM H locs ls hP hD hS hl
    rw [X3_copyWeaker_7] at hM
    refine lv_iload_n hx hb dX3_copyWeaker_7 rfl (lv_at hl 3 rfl) ?_
    refine lv_aload_n hx hb dX3_copyWeaker_8 rfl (lv_at hl 0 rfl) ?_
    refine gx3_4 (v := (V_t 4)) E hP 0 rfl rfl tw_98 dX3_copyWeaker_9 ?_
    refine lv_icmp_ge (tgt := 37) hx hb dX3_copyWeaker_12 (by decide) (fun c7 => ?_) (fun c7 => ?_)
    · replace hM := og_p c7 hM
      obtain rfl := Option.some.inj hM
      exact x_vret E hP hD hS dX3_copyWeaker_37
    · replace hM := og_n c7 hM
      refine lv_aload_n hx hb dX3_copyWeaker_15 rfl (lv_at hl 0 rfl) ?_
      refine lv_iload_n hx hb dX3_copyWeaker_16 rfl (lv_at hl 3 rfl) ?_
      refine lv_iconst (v := 0) hx hb dX3_copyWeaker_17 (by decide) ?_
      refine lv_aload_n hx hb dX3_copyWeaker_18 rfl (lv_at hl 0 rfl) ?_
      refine lv_iload_n hx hb dX3_copyWeaker_19 rfl (lv_at hl 3 rfl) ?_
      obtain ⟨u3, hu4, hM⟩ := og_b hM
      refine x_Vi (n := 1) (q0 := 0) (rest := [.int (0 : Int32), .int L3, .ref A_t]) (wn := [(A_t, oX3 A_t_songs A_t_rocks V_t), (A_t_songs, .inl (cI, 12, .inl V_t_songs)), (A_t_rocks, .inl (cI, 12, .inl V_t_rocks)), (A_p1, oX3 A_p1_songs A_p1_rocks V_p1), (A_p1_songs, .inl (cI, 12, .inl V_p1_songs)), (A_p1_rocks, .inl (cI, 12, .inl V_p1_rocks))]) E (c_X3_songAt l D cI cB A_t A_t_songs A_t_rocks V_t V_t_songs L3 u3 hu4) ok_X3_songAt tw_489 ⟨rfl, rfl⟩ ⟨Nat.le_of_ble_eq_true rfl, Nat.le_of_ble_eq_true rfl⟩ rfl rfl (Nat.le_of_ble_eq_true rfl) hl dX3_copyWeaker_20 ⟨Nat.zero_le _, Nat.zero_le _⟩ hP hD hS [0, 1] [2, 3, 4, 5] [(A_t_rocks, .inl (cI, 12, .inl V_t_rocks)), (A_p1, oX3 A_p1_songs A_p1_rocks V_p1), (A_p1_songs, .inl (cI, 12, .inl V_p1_songs)), (A_p1_rocks, .inl (cI, 12, .inl V_p1_rocks))] [A_t, A_t_songs, A_t_rocks, A_p1, A_p1_songs, A_p1_rocks] 6 rfl rfl rfl rfl rfl rfl rfl (by decide +kernel) rfl rfl rfl (fun H locs hP hD hS => ?_)
      refine lv_iload_n hx hb dX3_copyWeaker_23 rfl (lv_at hl 2 rfl) ?_
      refine lv_isub hx hb dX3_copyWeaker_24 ?_
      refine va_mmax hx hb (hml.trans hl.1.symm) hown (hts _ tw_490) (hts _ tw_491) (hts _ tw_59) (hts _ tw_492) (Nat.le_of_ble_eq_true rfl) (Nat.le_of_ble_eq_true rfl) (Nat.zero_le _) (Nat.zero_le _) dX3_copyWeaker_25 ?_
      obtain ⟨u5, hu6, hM⟩ := og_b hM
      refine x_Vv (n := 2) (q0 := 0) (rest := []) (wn := [(A_t, oX3 A_t_songs A_t_rocks V_t), (A_t_songs, .inl (cI, 12, .inl u5)), (A_t_rocks, .inl (cI, 12, .inl V_t_rocks)), (A_p1, oX3 A_p1_songs A_p1_rocks V_p1), (A_p1_songs, .inl (cI, 12, .inl V_p1_songs)), (A_p1_rocks, .inl (cI, 12, .inl V_p1_rocks))]) E (c_X3_setSong l D cI cB A_t A_t_songs A_t_rocks V_t V_t_songs L3 (if (0 : Int32) < (u3 - L2) then (u3 - L2) else (0 : Int32)) u5 hu6) ok_X3_setSong tw_262 ⟨rfl, rfl⟩ ⟨Nat.le_of_ble_eq_true rfl, Nat.le_of_ble_eq_true rfl⟩ rfl rfl (Nat.le_of_ble_eq_true rfl) hl dX3_copyWeaker_28 ⟨Nat.zero_le _, Nat.zero_le _⟩ hP hD hS [0, 1] [2, 3, 4, 5] [(A_t_rocks, .inl (cI, 12, .inl V_t_rocks)), (A_p1, oX3 A_p1_songs A_p1_rocks V_p1), (A_p1_songs, .inl (cI, 12, .inl V_p1_songs)), (A_p1_rocks, .inl (cI, 12, .inl V_p1_rocks))] [A_t, A_t_songs, A_t_rocks, A_p1, A_p1_songs, A_p1_rocks] 6 rfl rfl rfl rfl rfl rfl rfl (by decide +kernel) rfl rfl rfl (fun H locs hP hD hS => ?_)
      refine lv_iinc (v := (L3 + 1)) (lv' := [(3, .int (L3 + 1)), (0, .ref A_t), (1, .ref A_p1), (2, .int L2)]) hx hb dX3_copyWeaker_31 hl (k := 3) rfl rfl (by decide) rfl (fun ls hl => ?_)
      refine lv_goto (tgt := 7) hx hb dX3_copyWeaker_34 (by decide) ?_
      exact ih V_t u5 V_t_rocks L2 (L3 + 1) hM _ _ _ hP hD hS (lv_sub hl [1, 2, 3, 0] rfl)
def X3_copyWeaker (n : Nat) (V_t : Nat → Int32) (V_t_songs : Nat → Int32) (V_t_rocks : Nat → Int32) (V_p1 : Nat → Int32) (V_p1_songs : Nat → Int32) (V_p1_rocks : Nat → Int32) (P2 : Int32) : Option ((Nat → Int32) × (Nat → Int32) × (Nat → Int32)) := ((X3_copy V_t V_t_songs V_t_rocks V_p1 V_p1_songs V_p1_rocks).bind fun u1 => (X3_copyWeaker_7 n V_p1 V_p1_songs V_p1_rocks n u1.1 u1.2.1 u1.2.2 P2 (0 : Int32)))
theorem ok_X3_copyWeaker : xV yX3_copyWeaker cX3_copyWeaker 4 none 2 := ⟨tw_483, tw_481, tw_482, tw_52, by decide +kernel, by decide +kernel, by decide +kernel⟩
set_option maxHeartbeats 4000000 in
set_option maxRecDepth 100000 in
theorem c_X3_copyWeaker (n : Nat) (l : Launch) (D : va_G) (cI cB : ClassId) (A_t A_t_songs A_t_rocks A_p1 A_p1_songs A_p1_rocks : Nat) (V_t : Nat → Int32) (V_t_songs : Nat → Int32) (V_t_rocks : Nat → Int32) (V_p1 : Nat → Int32) (V_p1_songs : Nat → Int32) (V_p1_rocks : Nat → Int32) (P2 : Int32) (r : (Nat → Int32) × (Nat → Int32) × (Nat → Int32)) (hM : X3_copyWeaker n V_t V_t_songs V_t_rocks V_p1 V_p1_songs V_p1_rocks P2 = some r) : xC l D (xT cI cB) yX3_copyWeaker cX3_copyWeaker 4 none { frames := 2, cells := 0, slots := 0, locals := 39 } [.ref A_t, .ref A_p1, .int P2] [(A_t, oX3 A_t_songs A_t_rocks V_t), (A_t_songs, .inl (cI, 12, .inl V_t_songs)), (A_t_rocks, .inl (cI, 12, .inl V_t_rocks)), (A_p1, oX3 A_p1_songs A_p1_rocks V_p1), (A_p1_songs, .inl (cI, 12, .inl V_p1_songs)), (A_p1_rocks, .inl (cI, 12, .inl V_p1_rocks))] none [(A_t, oX3 A_t_songs A_t_rocks r.1), (A_t_songs, .inl (cI, 12, .inl r.2.1)), (A_t_rocks, .inl (cI, 12, .inl r.2.2)), (A_p1, oX3 A_p1_songs A_p1_rocks V_p1), (A_p1_songs, .inl (cI, 12, .inl V_p1_songs)), (A_p1_rocks, .inl (cI, 12, .inl V_p1_rocks))] := by
  refine xC.of (by decide +kernel) (Nat.le_of_ble_eq_true rfl) (fun p e s m below meth c A ls E hP hD hS hl => ?_)
  obtain ⟨hx, hb, hr, hts, hown, hml, hlocks, hA, hK⟩ := id E
  replace hl : lv_has ls 4 [(0, .ref A_t), (1, .ref A_p1), (2, .int P2)] := hl
  rw [X3_copyWeaker] at hM
  refine lv_aload_n hx hb dX3_copyWeaker_0 rfl (lv_at hl 0 rfl) ?_
  refine lv_aload_n hx hb dX3_copyWeaker_1 rfl (lv_at hl 1 rfl) ?_
  obtain ⟨u1, hu2, hM⟩ := og_b hM
  refine x_Vv (n := 1) (q0 := 0) (rest := []) (wn := [(A_t, oX3 A_t_songs A_t_rocks u1.1), (A_t_songs, .inl (cI, 12, .inl u1.2.1)), (A_t_rocks, .inl (cI, 12, .inl u1.2.2)), (A_p1, oX3 A_p1_songs A_p1_rocks V_p1), (A_p1_songs, .inl (cI, 12, .inl V_p1_songs)), (A_p1_rocks, .inl (cI, 12, .inl V_p1_rocks))]) E (c_X3_copy l D cI cB A_t A_t_songs A_t_rocks A_p1 A_p1_songs A_p1_rocks V_t V_t_songs V_t_rocks V_p1 V_p1_songs V_p1_rocks u1 hu2) ok_X3_copy tw_484 ⟨rfl, rfl⟩ ⟨Nat.le_of_ble_eq_true rfl, Nat.le_of_ble_eq_true rfl⟩ rfl rfl (Nat.le_of_ble_eq_true rfl) hl dX3_copyWeaker_2 ⟨Nat.zero_le _, Nat.zero_le _⟩ hP hD hS [0, 1, 2, 3, 4, 5] [] [] [A_t, A_t_songs, A_t_rocks, A_p1, A_p1_songs, A_p1_rocks] 6 rfl rfl rfl rfl rfl rfl rfl (by decide +kernel) rfl rfl rfl (fun H locs hP hD hS => ?_)
  refine lv_iconst (v := 0) hx hb dX3_copyWeaker_5 (by decide) ?_
  refine lv_istore_n (lv' := [(3, .int (0 : Int32)), (0, .ref A_t), (1, .ref A_p1), (2, .int P2)]) hx hb dX3_copyWeaker_6 rfl hl (by decide) rfl (fun ls hl => ?_)
  exact lp_X3_copyWeaker_7 n l D cI cB A_t A_t_songs A_t_rocks A_p1 A_p1_songs A_p1_rocks V_p1 V_p1_songs V_p1_rocks r E n u1.1 u1.2.1 u1.2.2 P2 (0 : Int32) hM _ _ _ hP hD hS (lv_sub hl [1, 2, 3, 0] rfl)
def X1_add (V_t : Nat → Int32) (V_t_sets : Nat → Int32) (P1 : Int32) : Option ((Nat → Int32) × (Nat → Int32)) := (if (V_t 1) < 0 then (some (V_t, V_t_sets)) else (if (8 : Int32) ≤ (V_t 1) then (some (V_t, V_t_sets)) else (if xin (V_t 1) 8 then (some ((upd V_t 1 ((V_t 1) + (1 : Int32))), (upd V_t_sets (V_t 1).toNatClampNeg P1))) else none)))
theorem ok_X1_add : xV yX1_add cX1_add 2 none 1 := ⟨tw_500, tw_498, tw_499, tw_55, by decide +kernel, by decide +kernel, by decide +kernel⟩
set_option maxHeartbeats 4000000 in
set_option maxRecDepth 100000 in
theorem c_X1_add (l : Launch) (D : va_G) (cI cB : ClassId) (A_t A_t_sets : Nat) (V_t : Nat → Int32) (V_t_sets : Nat → Int32) (P1 : Int32) (r : (Nat → Int32) × (Nat → Int32)) (hM : X1_add V_t V_t_sets P1 = some r) : xC l D (xT cI cB) yX1_add cX1_add 2 none { frames := 0, cells := 0, slots := 0, locals := 0 } [.ref A_t, .int P1] [(A_t, oX1 A_t_sets V_t), (A_t_sets, .inl (cI, 8, .inl V_t_sets))] none [(A_t, oX1 A_t_sets r.1), (A_t_sets, .inl (cI, 8, .inl r.2))] := by
  refine xC.of (by decide +kernel) (Nat.le_of_ble_eq_true rfl) (fun p e s m below meth c A ls E hP hD hS hl => ?_)
  obtain ⟨hx, hb, hr, hts, hown, hml, hlocks, hA, hK⟩ := id E
  replace hl : lv_has ls 2 [(0, .ref A_t), (1, .int P1)] := hl
  rw [X1_add] at hM
  refine lv_aload_n hx hb dX1_add_0 rfl (lv_at hl 0 rfl) ?_
  refine gx1_1 (v := (V_t 1)) E hP 0 rfl rfl tw_170 dX1_add_1 ?_
  refine lv_if_lt (tgt := 36) hx hb dX1_add_4 (by decide) (fun c3 => ?_) (fun c3 => ?_)
  · replace hM := og_p c3 hM
    obtain rfl := Option.some.inj hM
    exact x_vret E hP hD hS dX1_add_36
  · replace hM := og_n c3 hM
    refine lv_aload_n hx hb dX1_add_7 rfl (lv_at hl 0 rfl) ?_
    refine gx1_1 (v := (V_t 1)) E hP 0 rfl rfl tw_170 dX1_add_8 ?_
    refine lv_bipush (v := 8) hx hb dX1_add_11 (by decide) ?_
    refine lv_icmp_ge (tgt := 36) hx hb dX1_add_13 (by decide) (fun c2 => ?_) (fun c2 => ?_)
    · replace hM := og_p c2 hM
      obtain rfl := Option.some.inj hM
      exact x_vret E hP hD hS dX1_add_36
    · replace hM := og_n c2 hM
      refine lv_aload_n hx hb dX1_add_16 rfl (lv_at hl 0 rfl) ?_
      refine gx1_0 E hP 0 rfl tw_169 dX1_add_17 ?_
      refine lv_aload_n hx hb dX1_add_20 rfl (lv_at hl 0 rfl) ?_
      refine gx1_1 (v := (V_t 1)) E hP 0 rfl rfl tw_170 dX1_add_21 ?_
      refine lv_iload_n hx hb dX1_add_24 rfl (lv_at hl 1 rfl) ?_
      obtain ⟨hi1, hM⟩ := og_g hM
      refine x_iast (wn := [(A_t, oX1 A_t_sets V_t), (A_t_sets, .inl (cI, 8, .inl (upd V_t_sets (V_t 1).toNatClampNeg P1)))]) E hi1 hP hD hS 1 rfl dX1_add_25 rfl (fun H locs hP hD hS => ?_)
      refine lv_aload_n hx hb dX1_add_26 rfl (lv_at hl 0 rfl) ?_
      refine lv_dup hx hb dX1_add_27 rfl ?_
      refine gx1_1 (v := (V_t 1)) E hP 0 rfl rfl tw_170 dX1_add_28 ?_
      refine lv_iconst (v := 1) hx hb dX1_add_31 (by decide) ?_
      refine lv_iadd hx hb dX1_add_32 ?_
      refine px1_1 (wn := [(A_t, oX1 A_t_sets (upd V_t 1 ((V_t 1) + (1 : Int32)))), (A_t_sets, .inl (cI, 8, .inl (upd V_t_sets (V_t 1).toNatClampNeg P1)))]) E hP hD hS 0 rfl tw_170 dX1_add_33 rfl (fun H locs hP hD hS => ?_)
      obtain rfl := Option.some.inj hM
      exact x_vret E hP hD hS dX1_add_36
def X1_setAt (V_t : Nat → Int32) (V_t_sets : Nat → Int32) (P1 : Int32) : Option (Int32) := (if P1 < 0 then (some ((0 : Int32))) else (if (8 : Int32) ≤ P1 then (some ((0 : Int32))) else (if xin P1 8 then (some ((V_t_sets P1.toNatClampNeg))) else none)))
theorem ok_X1_setAt : xV yX1_setAt cX1_setAt 2 (some .int) 1 := ⟨tw_520, tw_518, tw_519, tw_55, by decide +kernel, by decide +kernel, by decide +kernel⟩
set_option maxHeartbeats 4000000 in
set_option maxRecDepth 100000 in
theorem c_X1_setAt (l : Launch) (D : va_G) (cI cB : ClassId) (A_t A_t_sets : Nat) (V_t : Nat → Int32) (V_t_sets : Nat → Int32) (P1 : Int32) (r : Int32) (hM : X1_setAt V_t V_t_sets P1 = some r) : xC l D (xT cI cB) yX1_setAt cX1_setAt 2 (some .int) { frames := 0, cells := 0, slots := 0, locals := 0 } [.ref A_t, .int P1] [(A_t, oX1 A_t_sets V_t), (A_t_sets, .inl (cI, 8, .inl V_t_sets))] (some (.int r)) [(A_t, oX1 A_t_sets V_t), (A_t_sets, .inl (cI, 8, .inl V_t_sets))] := by
  refine xC.of (by decide +kernel) (Nat.le_of_ble_eq_true rfl) (fun p e s m below meth c A ls E hP hD hS hl => ?_)
  obtain ⟨hx, hb, hr, hts, hown, hml, hlocks, hA, hK⟩ := id E
  replace hl : lv_has ls 2 [(0, .ref A_t), (1, .int P1)] := hl
  rw [X1_setAt] at hM
  refine lv_iload_n hx hb dX1_setAt_0 rfl (lv_at hl 1 rfl) ?_
  refine lv_if_lt (tgt := 19) hx hb dX1_setAt_1 (by decide) (fun c3 => ?_) (fun c3 => ?_)
  · replace hM := og_p c3 hM
    refine lv_iconst (v := 0) hx hb dX1_setAt_19 (by decide) ?_
    obtain rfl := Option.some.inj hM
    exact x_iret E hP hD hS dX1_setAt_20
  · replace hM := og_n c3 hM
    refine lv_iload_n hx hb dX1_setAt_4 rfl (lv_at hl 1 rfl) ?_
    refine lv_bipush (v := 8) hx hb dX1_setAt_5 (by decide) ?_
    refine lv_icmp_ge (tgt := 19) hx hb dX1_setAt_7 (by decide) (fun c2 => ?_) (fun c2 => ?_)
    · replace hM := og_p c2 hM
      refine lv_iconst (v := 0) hx hb dX1_setAt_19 (by decide) ?_
      obtain rfl := Option.some.inj hM
      exact x_iret E hP hD hS dX1_setAt_20
    · replace hM := og_n c2 hM
      refine lv_aload_n hx hb dX1_setAt_10 rfl (lv_at hl 0 rfl) ?_
      refine gx1_0 E hP 0 rfl tw_169 dX1_setAt_11 ?_
      refine lv_iload_n hx hb dX1_setAt_14 rfl (lv_at hl 1 rfl) ?_
      obtain ⟨hi1, hM⟩ := og_g hM
      refine x_iald E hi1 hP 1 rfl dX1_setAt_15 ?_
      refine lv_goto (tgt := 20) hx hb dX1_setAt_16 (by decide) ?_
      obtain rfl := Option.some.inj hM
      exact x_iret E hP hD hS dX1_setAt_20
def X3_seedAfter (P1 : Int32) : Option (Int32) := (some (((((1103515245 : Int64) * P1.toInt64) + (12345 : Int64)) - (((1103515245 : Int64) * P1.toInt64) + (12345 : Int64)) / (2147483648 : Int64) * (2147483648 : Int64)).toInt32))
theorem ok_X3_seedAfter : xSt yX3_seedAfter cX3_seedAfter 1 (some .int) 1 := ⟨tw_535, tw_534, tw_52, by decide +kernel, by decide +kernel, by decide +kernel⟩
set_option maxHeartbeats 4000000 in
set_option maxRecDepth 100000 in
theorem c_X3_seedAfter (l : Launch) (D : va_G) (cI cB : ClassId) (P1 : Int32) (r : Int32) (hM : X3_seedAfter P1 = some r) : xC l D (xT cI cB) yX3_seedAfter cX3_seedAfter 1 (some .int) { frames := 0, cells := 0, slots := 0, locals := 0 } [.int P1] [] (some (.int r)) [] := by
  refine xC.of (by decide +kernel) (Nat.le_of_ble_eq_true rfl) (fun p e s m below meth c A ls E hP hD hS hl => ?_)
  obtain ⟨hx, hb, hr, hts, hown, hml, hlocks, hA, hK⟩ := id E
  replace hl : lv_has ls 1 [(0, .int P1)] := hl
  rw [X3_seedAfter] at hM
  refine lv_ldc2 (v := 1103515245) hx hb hown (hts _ tw_536) dX3_seedAfter_0 ?_
  refine lv_iload_n hx hb dX3_seedAfter_3 rfl (lv_at hl 0 rfl) ?_
  refine lv_i2l (v := P1.toInt64) hx hb dX3_seedAfter_4 rfl ?_
  refine lv_lmul hx hb dX3_seedAfter_5 ?_
  refine lv_ldc2 (v := 12345) hx hb hown (hts _ tw_537) dX3_seedAfter_6 ?_
  refine lv_ladd hx hb dX3_seedAfter_9 ?_
  refine lv_ldc2 (v := 2147483648) hx hb hown (hts _ tw_538) dX3_seedAfter_10 ?_
  refine lv_lrem hx hb dX3_seedAfter_13 (by decide) ?_
  refine lv_l2i (v := ((((1103515245 : Int64) * P1.toInt64) + (12345 : Int64)) - (((1103515245 : Int64) * P1.toInt64) + (12345 : Int64)) / (2147483648 : Int64) * (2147483648 : Int64)).toInt32) hx hb dX3_seedAfter_14 rfl ?_
  obtain rfl := Option.some.inj hM
  exact x_iret E hP hD hS dX3_seedAfter_15
def X3_copyDrawn_10 (n : Nat) (V_p1 : Nat → Int32) (V_p1_songs : Nat → Int32) (V_p1_rocks : Nat → Int32) : Nat → (Nat → Int32) → (Nat → Int32) → (Nat → Int32) → Int32 → Int32 → Int32 → Option (Int32 × (Nat → Int32) × (Nat → Int32) × (Nat → Int32))
  | 0, _, _, _, _, _, _ => none
  | k + 1, V_t, V_t_songs, V_t_rocks, L2, L3, L4 => (if (V_t 4) ≤ L4 then (some (L3, V_t, V_t_songs, V_t_rocks)) else ((X3_songAt V_t V_t_songs L4).bind fun u3 => (if u3 ≤ 0 then (X3_copyDrawn_10 n V_p1 V_p1_songs V_p1_rocks k V_t V_t_songs V_t_rocks L2 L3 (L4 + 1)) else ((X3_seedAfter L3).bind fun u5 => ((X3_setSong V_t V_t_songs L4 ((u5 / (65536 : Int32)) - (u5 / (65536 : Int32)) / (10 : Int32) * (10 : Int32))).bind fun u7 => (X3_copyDrawn_10 n V_p1 V_p1_songs V_p1_rocks k V_t u7 V_t_rocks L2 u5 (L4 + 1)))))))
set_option maxHeartbeats 4000000 in
set_option maxRecDepth 100000 in
theorem lp_X3_copyDrawn_10 (n : Nat) (l : Launch) (D : va_G) (cI cB : ClassId) (A_t A_t_songs A_t_rocks A_p1 A_p1_songs A_p1_rocks : Nat) (V_p1 : Nat → Int32) (V_p1_songs : Nat → Int32) (V_p1_rocks : Nat → Int32) (r : Int32 × (Nat → Int32) × (Nat → Int32) × (Nat → Int32)) {p : Program} {e : Env} {s : State} {m : MethodId} {args : Array Value} {below : List Frame} {meth : Method} {c : Code} {A : Nat → Prop} (E : xE p s m args meth c A D (xT cI cB) RX3 cX3_copyDrawn 5 (some .int)) :
    ∀ (k : Nat) (V_t : Nat → Int32) (V_t_songs : Nat → Int32) (V_t_rocks : Nat → Int32) (L2 : Int32) (L3 : Int32) (L4 : Int32), X3_copyDrawn_10 n V_p1 V_p1_songs V_p1_rocks k V_t V_t_songs V_t_rocks L2 L3 L4 = some r → ∀ (H : Heap) (locs : List Loc) (ls : Array Slot), va_P D vwCl [(A_t, oX3 A_t_songs A_t_rocks V_t), (A_t_songs, .inl (cI, 12, .inl V_t_songs)), (A_t_rocks, .inl (cI, 12, .inl V_t_rocks)), (A_p1, oX3 A_p1_songs A_p1_rocks V_p1), (A_p1_songs, .inl (cI, 12, .inl V_p1_songs)), (A_p1_rocks, .inl (cI, 12, .inl V_p1_rocks))] H → va_D A [(A_t, oX3 A_t_songs A_t_rocks V_t), (A_t_songs, .inl (cI, 12, .inl V_t_songs)), (A_t_rocks, .inl (cI, 12, .inl V_t_rocks)), (A_p1, oX3 A_p1_songs A_p1_rocks V_p1), (A_p1_songs, .inl (cI, 12, .inl V_p1_songs)), (A_p1_rocks, .inl (cI, 12, .inl V_p1_rocks))] → va_S A s.heap H locs → lv_has ls 5 [(0, .ref A_t), (1, .ref A_p1), (2, .int L2), (3, .int L3), (4, .int L4)] → W p l e { frames := 2, cells := 0, slots := 0, locals := 39 } s m args below meth c H locs 0 0 (MQ below (xQ D (xT cI cB) [(A_t, oX3 A_t_songs A_t_rocks r.2.1), (A_t_songs, .inl (cI, 12, .inl r.2.2.1)), (A_t_rocks, .inl (cI, 12, .inl r.2.2.2)), (A_p1, oX3 A_p1_songs A_p1_rocks V_p1), (A_p1_songs, .inl (cI, 12, .inl V_p1_songs)), (A_p1_rocks, .inl (cI, 12, .inl V_p1_rocks))] (some (.int r.1)) A) args s 0 0 A) (F0 m 10 ls []) := by
  obtain ⟨hx, hb, hr, hts, hown, hml, hlocks, hA, hK⟩ := id E
  intro k
  induction k with
  | zero =>
    intro V_t V_t_songs V_t_rocks L2 L3 L4 hM
    rw [X3_copyDrawn_10] at hM
    cases hM
  | succ k ih =>
    intro V_t V_t_songs V_t_rocks L2 L3 L4 hM H locs ls hP hD hS hl
    rw [X3_copyDrawn_10] at hM
    refine lv_iload hx hb dX3_copyDrawn_10 (lv_at hl 4 rfl) ?_
    refine lv_aload_n hx hb dX3_copyDrawn_12 rfl (lv_at hl 0 rfl) ?_
    refine gx3_4 (v := (V_t 4)) E hP 0 rfl rfl tw_98 dX3_copyDrawn_13 ?_
    refine lv_icmp_ge (tgt := 52) hx hb dX3_copyDrawn_16 (by decide) (fun c10 => ?_) (fun c10 => ?_)
    · replace hM := og_p c10 hM
      refine lv_iload_n hx hb dX3_copyDrawn_52 rfl (lv_at hl 3 rfl) ?_
      obtain rfl := Option.some.inj hM
      exact x_iret E hP hD hS dX3_copyDrawn_53
    · replace hM := og_n c10 hM
      refine lv_aload_n hx hb dX3_copyDrawn_19 rfl (lv_at hl 0 rfl) ?_
      refine lv_iload hx hb dX3_copyDrawn_20 (lv_at hl 4 rfl) ?_
      obtain ⟨u3, hu4, hM⟩ := og_b hM
      refine x_Vi (n := 1) (q0 := 0) (rest := []) (wn := [(A_t, oX3 A_t_songs A_t_rocks V_t), (A_t_songs, .inl (cI, 12, .inl V_t_songs)), (A_t_rocks, .inl (cI, 12, .inl V_t_rocks)), (A_p1, oX3 A_p1_songs A_p1_rocks V_p1), (A_p1_songs, .inl (cI, 12, .inl V_p1_songs)), (A_p1_rocks, .inl (cI, 12, .inl V_p1_rocks))]) E (c_X3_songAt l D cI cB A_t A_t_songs A_t_rocks V_t V_t_songs L4 u3 hu4) ok_X3_songAt tw_489 ⟨rfl, rfl⟩ ⟨Nat.le_of_ble_eq_true rfl, Nat.le_of_ble_eq_true rfl⟩ rfl rfl (Nat.le_of_ble_eq_true rfl) hl dX3_copyDrawn_22 ⟨Nat.zero_le _, Nat.zero_le _⟩ hP hD hS [0, 1] [2, 3, 4, 5] [(A_t_rocks, .inl (cI, 12, .inl V_t_rocks)), (A_p1, oX3 A_p1_songs A_p1_rocks V_p1), (A_p1_songs, .inl (cI, 12, .inl V_p1_songs)), (A_p1_rocks, .inl (cI, 12, .inl V_p1_rocks))] [A_t, A_t_songs, A_t_rocks, A_p1, A_p1_songs, A_p1_rocks] 6 rfl rfl rfl rfl rfl rfl rfl (by decide +kernel) rfl rfl rfl (fun H locs hP hD hS => ?_)
      refine lv_if_le (tgt := 46) hx hb dX3_copyDrawn_25 (by decide) (fun c9 => ?_) (fun c9 => ?_)
      · replace hM := og_p c9 hM
        refine lv_iinc (v := (L4 + 1)) (lv' := [(4, .int (L4 + 1)), (0, .ref A_t), (1, .ref A_p1), (2, .int L2), (3, .int L3)]) hx hb dX3_copyDrawn_46 hl (k := 4) rfl rfl (by decide) rfl (fun ls hl => ?_)
        refine lv_goto (tgt := 10) hx hb dX3_copyDrawn_49 (by decide) ?_
        exact ih V_t V_t_songs V_t_rocks L2 L3 (L4 + 1) hM _ _ _ hP hD hS (lv_sub hl [1, 2, 3, 4, 0] rfl)
      · replace hM := og_n c9 hM
        refine lv_iload_n hx hb dX3_copyDrawn_28 rfl (lv_at hl 3 rfl) ?_
        obtain ⟨u5, hu6, hM⟩ := og_b hM
        refine x_Si (n := 1) (rest := []) (wn := [(A_t, oX3 A_t_songs A_t_rocks V_t), (A_t_songs, .inl (cI, 12, .inl V_t_songs)), (A_t_rocks, .inl (cI, 12, .inl V_t_rocks)), (A_p1, oX3 A_p1_songs A_p1_rocks V_p1), (A_p1_songs, .inl (cI, 12, .inl V_p1_songs)), (A_p1_rocks, .inl (cI, 12, .inl V_p1_rocks))]) E (c_X3_seedAfter l D cI cB L3 u5 hu6) ok_X3_seedAfter tw_533 ⟨rfl, rfl⟩ ⟨Nat.le_of_ble_eq_true rfl, Nat.le_of_ble_eq_true rfl⟩ rfl rfl (Nat.le_of_ble_eq_true rfl) hl dX3_copyDrawn_29 ⟨Nat.zero_le _, Nat.zero_le _⟩ hP hD hS [] [0, 1, 2, 3, 4, 5] [(A_t, oX3 A_t_songs A_t_rocks V_t), (A_t_songs, .inl (cI, 12, .inl V_t_songs)), (A_t_rocks, .inl (cI, 12, .inl V_t_rocks)), (A_p1, oX3 A_p1_songs A_p1_rocks V_p1), (A_p1_songs, .inl (cI, 12, .inl V_p1_songs)), (A_p1_rocks, .inl (cI, 12, .inl V_p1_rocks))] [A_t, A_t_songs, A_t_rocks, A_p1, A_p1_songs, A_p1_rocks] 6 rfl rfl rfl rfl rfl rfl rfl (by decide +kernel) (fun H locs hP hD hS => ?_)
        refine lv_istore_n (lv' := [(3, .int u5), (0, .ref A_t), (1, .ref A_p1), (2, .int L2), (4, .int L4)]) hx hb dX3_copyDrawn_32 rfl hl (by decide) rfl (fun ls hl => ?_)
        refine lv_aload_n hx hb dX3_copyDrawn_33 rfl (lv_at hl 1 rfl) ?_
        refine lv_iload hx hb dX3_copyDrawn_34 (lv_at hl 4 rfl) ?_
        refine lv_iload_n hx hb dX3_copyDrawn_36 rfl (lv_at hl 0 rfl) ?_
        refine lv_ldc (v := 65536) hx hb hown (hts _ tw_539) dX3_copyDrawn_37 ?_
        refine lv_idiv hx hb dX3_copyDrawn_39 (by decide) ?_
        refine lv_bipush (v := 10) hx hb dX3_copyDrawn_40 (by decide) ?_
        refine lv_irem hx hb dX3_copyDrawn_42 (by decide) ?_
        obtain ⟨u7, hu8, hM⟩ := og_b hM
        refine x_Vv (n := 2) (q0 := 0) (rest := []) (wn := [(A_t, oX3 A_t_songs A_t_rocks V_t), (A_t_songs, .inl (cI, 12, .inl u7)), (A_t_rocks, .inl (cI, 12, .inl V_t_rocks)), (A_p1, oX3 A_p1_songs A_p1_rocks V_p1), (A_p1_songs, .inl (cI, 12, .inl V_p1_songs)), (A_p1_rocks, .inl (cI, 12, .inl V_p1_rocks))]) E (c_X3_setSong l D cI cB A_t A_t_songs A_t_rocks V_t V_t_songs L4 ((u5 / (65536 : Int32)) - (u5 / (65536 : Int32)) / (10 : Int32) * (10 : Int32)) u7 hu8) ok_X3_setSong tw_262 ⟨rfl, rfl⟩ ⟨Nat.le_of_ble_eq_true rfl, Nat.le_of_ble_eq_true rfl⟩ rfl rfl (Nat.le_of_ble_eq_true rfl) hl dX3_copyDrawn_43 ⟨Nat.zero_le _, Nat.zero_le _⟩ hP hD hS [0, 1] [2, 3, 4, 5] [(A_t_rocks, .inl (cI, 12, .inl V_t_rocks)), (A_p1, oX3 A_p1_songs A_p1_rocks V_p1), (A_p1_songs, .inl (cI, 12, .inl V_p1_songs)), (A_p1_rocks, .inl (cI, 12, .inl V_p1_rocks))] [A_t, A_t_songs, A_t_rocks, A_p1, A_p1_songs, A_p1_rocks] 6 rfl rfl rfl rfl rfl rfl rfl (by decide +kernel) rfl rfl rfl (fun H locs hP hD hS => ?_)
        refine lv_iinc (v := (L4 + 1)) (lv' := [(4, .int (L4 + 1)), (3, .int u5), (0, .ref A_t), (1, .ref A_p1), (2, .int L2)]) hx hb dX3_copyDrawn_46 hl (k := 4) rfl rfl (by decide) rfl (fun ls hl => ?_)
        refine lv_goto (tgt := 10) hx hb dX3_copyDrawn_49 (by decide) ?_
        exact ih V_t u7 V_t_rocks L2 u5 (L4 + 1) hM _ _ _ hP hD hS (lv_sub hl [2, 3, 4, 1, 0] rfl)
def X3_copyDrawn (n : Nat) (V_t : Nat → Int32) (V_t_songs : Nat → Int32) (V_t_rocks : Nat → Int32) (V_p1 : Nat → Int32) (V_p1_songs : Nat → Int32) (V_p1_rocks : Nat → Int32) (P2 : Int32) : Option (Int32 × (Nat → Int32) × (Nat → Int32) × (Nat → Int32)) := ((X3_copy V_t V_t_songs V_t_rocks V_p1 V_p1_songs V_p1_rocks).bind fun u1 => (X3_copyDrawn_10 n V_p1 V_p1_songs V_p1_rocks n u1.1 u1.2.1 u1.2.2 P2 P2 (0 : Int32)))
theorem ok_X3_copyDrawn : xV yX3_copyDrawn cX3_copyDrawn 5 (some .int) 2 := ⟨tw_532, tw_530, tw_531, tw_52, by decide +kernel, by decide +kernel, by decide +kernel⟩
set_option maxHeartbeats 4000000 in
set_option maxRecDepth 100000 in
theorem c_X3_copyDrawn (n : Nat) (l : Launch) (D : va_G) (cI cB : ClassId) (A_t A_t_songs A_t_rocks A_p1 A_p1_songs A_p1_rocks : Nat) (V_t : Nat → Int32) (V_t_songs : Nat → Int32) (V_t_rocks : Nat → Int32) (V_p1 : Nat → Int32) (V_p1_songs : Nat → Int32) (V_p1_rocks : Nat → Int32) (P2 : Int32) (r : Int32 × (Nat → Int32) × (Nat → Int32) × (Nat → Int32)) (hM : X3_copyDrawn n V_t V_t_songs V_t_rocks V_p1 V_p1_songs V_p1_rocks P2 = some r) : xC l D (xT cI cB) yX3_copyDrawn cX3_copyDrawn 5 (some .int) { frames := 2, cells := 0, slots := 0, locals := 39 } [.ref A_t, .ref A_p1, .int P2] [(A_t, oX3 A_t_songs A_t_rocks V_t), (A_t_songs, .inl (cI, 12, .inl V_t_songs)), (A_t_rocks, .inl (cI, 12, .inl V_t_rocks)), (A_p1, oX3 A_p1_songs A_p1_rocks V_p1), (A_p1_songs, .inl (cI, 12, .inl V_p1_songs)), (A_p1_rocks, .inl (cI, 12, .inl V_p1_rocks))] (some (.int r.1)) [(A_t, oX3 A_t_songs A_t_rocks r.2.1), (A_t_songs, .inl (cI, 12, .inl r.2.2.1)), (A_t_rocks, .inl (cI, 12, .inl r.2.2.2)), (A_p1, oX3 A_p1_songs A_p1_rocks V_p1), (A_p1_songs, .inl (cI, 12, .inl V_p1_songs)), (A_p1_rocks, .inl (cI, 12, .inl V_p1_rocks))] := by
  refine xC.of (by decide +kernel) (Nat.le_of_ble_eq_true rfl) (fun p e s m below meth c A ls E hP hD hS hl => ?_)
  obtain ⟨hx, hb, hr, hts, hown, hml, hlocks, hA, hK⟩ := id E
  replace hl : lv_has ls 5 [(0, .ref A_t), (1, .ref A_p1), (2, .int P2)] := hl
  rw [X3_copyDrawn] at hM
  refine lv_aload_n hx hb dX3_copyDrawn_0 rfl (lv_at hl 0 rfl) ?_
  refine lv_aload_n hx hb dX3_copyDrawn_1 rfl (lv_at hl 1 rfl) ?_
  obtain ⟨u1, hu2, hM⟩ := og_b hM
  refine x_Vv (n := 1) (q0 := 0) (rest := []) (wn := [(A_t, oX3 A_t_songs A_t_rocks u1.1), (A_t_songs, .inl (cI, 12, .inl u1.2.1)), (A_t_rocks, .inl (cI, 12, .inl u1.2.2)), (A_p1, oX3 A_p1_songs A_p1_rocks V_p1), (A_p1_songs, .inl (cI, 12, .inl V_p1_songs)), (A_p1_rocks, .inl (cI, 12, .inl V_p1_rocks))]) E (c_X3_copy l D cI cB A_t A_t_songs A_t_rocks A_p1 A_p1_songs A_p1_rocks V_t V_t_songs V_t_rocks V_p1 V_p1_songs V_p1_rocks u1 hu2) ok_X3_copy tw_484 ⟨rfl, rfl⟩ ⟨Nat.le_of_ble_eq_true rfl, Nat.le_of_ble_eq_true rfl⟩ rfl rfl (Nat.le_of_ble_eq_true rfl) hl dX3_copyDrawn_2 ⟨Nat.zero_le _, Nat.zero_le _⟩ hP hD hS [0, 1, 2, 3, 4, 5] [] [] [A_t, A_t_songs, A_t_rocks, A_p1, A_p1_songs, A_p1_rocks] 6 rfl rfl rfl rfl rfl rfl rfl (by decide +kernel) rfl rfl rfl (fun H locs hP hD hS => ?_)
  refine lv_iload_n hx hb dX3_copyDrawn_5 rfl (lv_at hl 2 rfl) ?_
  refine lv_istore_n (lv' := [(3, .int P2), (0, .ref A_t), (1, .ref A_p1), (2, .int P2)]) hx hb dX3_copyDrawn_6 rfl hl (by decide) rfl (fun ls hl => ?_)
  refine lv_iconst (v := 0) hx hb dX3_copyDrawn_7 (by decide) ?_
  refine lv_istore (lv' := [(4, .int (0 : Int32)), (3, .int P2), (0, .ref A_t), (1, .ref A_p1), (2, .int P2)]) hx hb dX3_copyDrawn_8 hl (by decide) rfl (fun ls hl => ?_)
  exact lp_X3_copyDrawn_10 n l D cI cB A_t A_t_songs A_t_rocks A_p1 A_p1_songs A_p1_rocks V_p1 V_p1_songs V_p1_rocks r E n u1.1 u1.2.1 u1.2.2 P2 P2 (0 : Int32) hM _ _ _ hP hD hS (lv_sub hl [2, 3, 4, 1, 0] rfl)
def X1_copy (V_t : Nat → Int32) (V_t_sets : Nat → Int32) (V_p1 : Nat → Int32) (V_p1_sets : Nat → Int32) : Option ((Nat → Int32) × (Nat → Int32)) := (some ((upd V_t 1 (V_p1 1)), (va_cpy V_p1_sets V_t_sets (0 : Int32).toNatClampNeg (0 : Int32).toNatClampNeg (8 : Int32).toNatClampNeg)))
theorem ok_X1_copy : xV yX1_copy cX1_copy 2 none 1 := ⟨tw_547, tw_545, tw_546, tw_55, by decide +kernel, by decide +kernel, by decide +kernel⟩
set_option maxHeartbeats 4000000 in
set_option maxRecDepth 100000 in
theorem c_X1_copy (l : Launch) (D : va_G) (cI cB : ClassId) (A_t A_t_sets A_p1 A_p1_sets : Nat) (V_t : Nat → Int32) (V_t_sets : Nat → Int32) (V_p1 : Nat → Int32) (V_p1_sets : Nat → Int32) (r : (Nat → Int32) × (Nat → Int32)) (hM : X1_copy V_t V_t_sets V_p1 V_p1_sets = some r) : xC l D (xT cI cB) yX1_copy cX1_copy 2 none { frames := 1, cells := 0, slots := 0, locals := 18 } [.ref A_t, .ref A_p1] [(A_t, oX1 A_t_sets V_t), (A_t_sets, .inl (cI, 8, .inl V_t_sets)), (A_p1, oX1 A_p1_sets V_p1), (A_p1_sets, .inl (cI, 8, .inl V_p1_sets))] none [(A_t, oX1 A_t_sets r.1), (A_t_sets, .inl (cI, 8, .inl r.2)), (A_p1, oX1 A_p1_sets V_p1), (A_p1_sets, .inl (cI, 8, .inl V_p1_sets))] := by
  refine xC.of (by decide +kernel) (Nat.le_of_ble_eq_true rfl) (fun p e s m below meth c A ls E hP hD hS hl => ?_)
  obtain ⟨hx, hb, hr, hts, hown, hml, hlocks, hA, hK⟩ := id E
  replace hl : lv_has ls 2 [(0, .ref A_t), (1, .ref A_p1)] := hl
  rw [X1_copy] at hM
  refine lv_aload_n hx hb dX1_copy_0 rfl (lv_at hl 1 rfl) ?_
  refine gx1_0 E hP 2 rfl tw_169 dX1_copy_1 ?_
  refine lv_iconst (v := 0) hx hb dX1_copy_4 (by decide) ?_
  refine lv_aload_n hx hb dX1_copy_5 rfl (lv_at hl 0 rfl) ?_
  refine gx1_0 E hP 0 rfl tw_169 dX1_copy_6 ?_
  refine lv_iconst (v := 0) hx hb dX1_copy_9 (by decide) ?_
  refine lv_bipush (v := 8) hx hb dX1_copy_10 (by decide) ?_
  refine x_copy (wn := [(A_t, oX1 A_t_sets V_t), (A_t_sets, .inl (cI, 8, .inl (va_cpy V_p1_sets V_t_sets (0 : Int32).toNatClampNeg (0 : Int32).toNatClampNeg (8 : Int32).toNatClampNeg))), (A_p1, oX1 A_p1_sets V_p1), (A_p1_sets, .inl (cI, 8, .inl V_p1_sets))]) E hl.1 tw_548 tw_431 tw_430 tw_57 hP hD hS 3 1 rfl rfl (by decide) (by decide) (by decide) (by decide) (by decide) (Nat.le_of_ble_eq_true rfl) (Nat.le_of_ble_eq_true rfl) dX1_copy_12 rfl (fun H locs hP hD hS => ?_)
  refine lv_aload_n hx hb dX1_copy_15 rfl (lv_at hl 0 rfl) ?_
  refine lv_aload_n hx hb dX1_copy_16 rfl (lv_at hl 1 rfl) ?_
  refine gx1_1 (v := (V_p1 1)) E hP 2 rfl rfl tw_170 dX1_copy_17 ?_
  refine px1_1 (wn := [(A_t, oX1 A_t_sets (upd V_t 1 (V_p1 1))), (A_t_sets, .inl (cI, 8, .inl (va_cpy V_p1_sets V_t_sets (0 : Int32).toNatClampNeg (0 : Int32).toNatClampNeg (8 : Int32).toNatClampNeg))), (A_p1, oX1 A_p1_sets V_p1), (A_p1_sets, .inl (cI, 8, .inl V_p1_sets))]) E hP hD hS 0 rfl tw_170 dX1_copy_20 rfl (fun H locs hP hD hS => ?_)
  obtain rfl := Option.some.inj hM
  exact x_vret E hP hD hS dX1_copy_23
