/-! LAYER 2: MAN, LOG, FORGET, IMAGE, RESTORE, COUNT -/
section Q
variable {t n pc pl st hw np lg t0 N : Nat} {need noon : Int32} {w a : Nat → Bool} {v : Nat → Nat} {xf pf la qf qs qr cf ck co cw sf kn lf ls ef ek gf gs tf tk uf us ur M so ro ns nr vk vs H rek rgs : Nat → Int32} {L : Nat → Int64}
theorem q_man {P1 P2 P3 : Int32} (q : Q t n pc pl st hw np lg t0 need noon w a v xf pf la qf qs qr cf ck co cw sf kn lf ls ef ek gf gs M so ro rek rgs) (ht : t < 1000) :
    ∃ (x : Int32) (cf' ck' co' cw' sf' kn' M' : Nat → Int32) (n' : Nat) (w' a' : Nat → Bool), X5_man xf qf cf ck co cw sf kn P1 P2 P3 = some (x, cf', ck', co', cw', sf', kn') ∧ X6_man M L ck co cw kn P1 P2 P3 = some (x, M', ck', co', cw', kn') ∧ Q t n' pc pl st hw np lg t0 need noon w' a' v xf pf la qf qs qr cf' ck' co' cw' sf' kn' lf ls ef ek gf gs M' so ro rek rgs := by
  have hn := q.G.1
  have same : ∀ y : Int32, X5_man xf qf cf ck co cw sf kn P1 P2 P3 = some (y, cf, ck, co, cw, sf, kn) → X6_man M L ck co cw kn P1 P2 P3 = some (y, M, ck, co, cw, kn) → ∃ (x : Int32) (cf' ck' co' cw' sf' kn' M' : Nat → Int32) (n' : Nat) (w' a' : Nat → Bool), X5_man xf qf cf ck co cw sf kn P1 P2 P3 = some (x, cf', ck', co', cw', sf', kn') ∧ X6_man M L ck co cw kn P1 P2 P3 = some (x, M', ck', co', cw', kn') ∧ Q t n' pc pl st hw np lg t0 need noon w' a' v xf pf la qf qs qr cf' ck' co' cw' sf' kn' lf ls ef ek gf gs M' so ro rek rgs :=
    fun y h1 h2 => ⟨y, cf, ck, co, cw, sf, kn, M, n, w, a, h1, h2, q⟩
  rcases rng P1 0 4 with ⟨h, e⟩ | ⟨h, h2, h3, e⟩ | ⟨h, h2, h3, e⟩
  · exact same (-102) (by rw [X5_man, X5_isKind, if_pos h]; rfl) (by rw [X6_man, e]; rfl)
  · exact same (-102) (by rw [X5_man, X5_isKind, if_neg h, if_pos h2]; rfl) (by rw [X6_man, e]; rfl)
  have k1 : X5_isKind P1 = some true := by rw [X5_isKind, if_neg h, if_neg h2]
  have k2 := e
  rcases rng P2 1 9 with ⟨h, e⟩ | ⟨h, h2, h3, e⟩ | ⟨h, h2, h3, e⟩
  · exact same (-102) (by rw [X5_man, k1, Option.bind_some, if_neg (show ¬ bz true = 0 by decide), if_pos h]) (by rw [X6_man, k2, Option.bind_some, if_neg (show ¬ bz true = 0 by decide), e]; rfl)
  · exact same (-102) (by rw [X5_man, k1, Option.bind_some, if_neg (show ¬ bz true = 0 by decide), if_neg h, if_pos h2]) (by rw [X6_man, k2, Option.bind_some, if_neg (show ¬ bz true = 0 by decide), e]; rfl)
  have l1 := h
  have l2 := h2
  have l3 := e
  rcases rng P3 0 9 with ⟨h, e⟩ | ⟨h, h2, h3, e⟩ | ⟨h, h2, h3, e⟩
  · exact same (-102) (by rw [X5_man, k1, Option.bind_some, if_neg (show ¬ bz true = 0 by decide), if_neg l1, if_neg l2, if_pos h]) (by rw [X6_man, k2, Option.bind_some, if_neg (show ¬ bz true = 0 by decide), l3, Option.bind_some, if_neg (show ¬ bz true = 0 by decide), e]; rfl)
  · exact same (-102) (by rw [X5_man, k1, Option.bind_some, if_neg (show ¬ bz true = 0 by decide), if_neg l1, if_neg l2, if_neg h, if_neg h3]) (by rw [X6_man, k2, Option.bind_some, if_neg (show ¬ bz true = 0 by decide), l3, Option.bind_some, if_neg (show ¬ bz true = 0 by decide), e]; rfl)
  obtain ⟨p3, hp3, rfl⟩ := nI_of2 (n := 9) (by decide) h h3
  have c1 : ∀ X, X5_man xf qf cf ck co cw sf kn P1 P2 (nI p3) = X ↔ ((X5_hasPassage xf qf).bind fun u3 => (if (bz u3) = 0 then (some ((-103 : Int32), cf, ck, co, cw, sf, kn)) else (if (sf 3) = 0 then (if (sf 4) = 0 then (if (cf 3) < (5 : Int32) then ((X0_add cf ck co cw P1 P2 (nI p3)).bind fun u5 => ((X4_board sf kn (cf 3)).bind fun u7 => (some ((cf 3), u5.1, u5.2.1, u5.2.2.1, u5.2.2.2, u7.1, u7.2)))) else (some ((-104 : Int32), cf, ck, co, cw, sf, kn))) else (some ((-103 : Int32), cf, ck, co, cw, sf, kn))) else (some ((-103 : Int32), cf, ck, co, cw, sf, kn))))) = X := by
    intro X
    rw [X5_man, k1, Option.bind_some, if_neg (show ¬ bz true = 0 by decide), if_neg l1, if_neg l2, if_neg h, if_pos h3]
  have c2 : ∀ X, X6_man M L ck co cw kn P1 P2 (nI p3) = X ↔ (if (M 0) = 0 then (some ((-103 : Int32), M, ck, co, cw, kn)) else (if (M 14) = 0 then (if (M 15) = 0 then (if (M 7) = (5 : Int32) then (some ((-104 : Int32), M, ck, co, cw, kn)) else (if xin (M 7) 5 then (if xin (M 7) 5 then (if xin (M 7) 5 then (if xin (M 7) 5 then (some (((((upd M 12 ((M 12) &&& (((1 : Int32) <<< ((M 7) &&& 31)) ^^^ (-1 : Int32)))) 7) + (1 : Int32)) - (1 : Int32)), (upd (upd M 12 ((M 12) &&& (((1 : Int32) <<< ((M 7) &&& 31)) ^^^ (-1 : Int32)))) 7 (((upd M 12 ((M 12) &&& (((1 : Int32) <<< ((M 7) &&& 31)) ^^^ (-1 : Int32)))) 7) + (1 : Int32))), (upd ck (M 7).toNatClampNeg P1), (upd co (M 7).toNatClampNeg P2), (upd cw (M 7).toNatClampNeg (nI p3)), (upd kn (M 7).toNatClampNeg (0 : Int32)))) else none) else none) else none) else none)) else (some ((-103 : Int32), M, ck, co, cw, kn))) else (some ((-103 : Int32), M, ck, co, cw, kn)))) = X := by
    intro X
    rw [X6_man, k2, Option.bind_some, if_neg (show ¬ bz true = 0 by decide), l3, Option.bind_some, if_neg (show ¬ bz true = 0 by decide), e, Option.bind_some, if_neg (show ¬ bz true = 0 by decide)]
  rcases q.hasP with ⟨hp, p1, p2⟩ | ⟨hp, p1, p2⟩
  · exact same (-103) ((c1 _).mpr (by rw [p1]; rfl)) ((c2 _).mpr (by rw [if_pos p2]))
  have hpc := q.G.2.1
  have hpl := q.plp hp
  have s3 := q.S.2.2.1
  have r3 := q.T.2.2.1
  by_cases h14 : ¬ pl = 0
  · have hz : ¬ nI pl = 0 := by rw [i_z (by omega)]; exact h14
    exact same (-103) ((c1 _).mpr (by rw [p1, Option.bind_some, if_neg (show ¬ bz true = 0 by decide), s3, if_neg hz])) ((c2 _).mpr (by rw [if_neg p2, r3, if_neg hz]))
  have h14 := Decidable.not_not.mp h14
  have hz3 : nI pl = 0 := by rw [h14]; rfl
  have s4 := q.S.2.2.2.1
  have r4 := q.T.2.2.2.1
  have hstt := q.stt
  by_cases h15 : ¬ nI st = 0
  · exact same (-103) ((c1 _).mpr (by rw [p1, Option.bind_some, if_neg (show ¬ bz true = 0 by decide), s3, if_pos hz3, s4, if_neg h15])) ((c2 _).mpr (by rw [if_neg p2, r3, if_pos hz3, r4, if_neg h15]))
  have h15 := Decidable.not_not.mp h15
  by_cases h5 : n = 5
  · exact same (-104) ((c1 _).mpr (by rw [p1, Option.bind_some, if_neg (show ¬ bz true = 0 by decide), s3, if_pos hz3, s4, if_pos h15, q.C.1, if_neg (by rw [h5]; decide)])) ((c2 _).mpr (by rw [if_neg p2, r3, if_pos hz3, r4, if_pos h15, q.R.1, if_pos (by rw [h5]; rfl)]))
  have hn4 : n < 5 := by omega
  have hst0 : ∀ j, j < n → a j = true := q.st0 (by rw [i_z (by omega)] at h15; exact h15)
  refine ⟨nI n, upd cf 3 (nI (n + 1)), upd ck n P1, upd co n P2, upd cw n (nI p3), upd (upd sf 2 (sf 2 ||| ((1 : Int32) <<< (nI n &&& 31)))) 1 (sf 1 &&& (((1 : Int32) <<< (nI n &&& 31)) ^^^ (-1 : Int32))), upd kn n 0, upd (upd M 12 (M 12 &&& (((1 : Int32) <<< (nI n &&& 31)) ^^^ (-1 : Int32)))) 7 (nI (n + 1)), n + 1, fun j => w j && !decide (j = n), fun j => a j || decide (j = n), ?_, ?_, ?_⟩
  · rw [c1, p1, Option.bind_some, if_neg (show ¬ bz true = 0 by decide), s3, if_pos hz3, s4, if_pos h15, q.C.1, if_pos (by rw [show (5 : Int32) = nI 5 from rfl, i_lt (by omega) (by omega)]; exact hn4), X0_add, q.C.1, if_neg (i_nlt0 (by omega)), if_neg (by rw [show (5 : Int32) = nI 5 from rfl, i_le (by omega) (by omega)]; omega), if_pos (xin_nI hn4 (by omega)), if_pos (xin_nI hn4 (by omega)), if_pos (xin_nI hn4 (by omega)), nI_1, nI_clamp (by omega), Option.bind_some, X4_board, X4_setWax, if_pos rfl, Option.bind_some, e_setKnots hn4, Option.bind_some, Option.bind_some, ud_n _ _ (show (1 : Nat) ≠ 2 by decide)]
  · rw [c2, if_neg p2, r3, if_pos hz3, r4, if_pos h15, q.R.1, if_neg (by rw [show (5 : Int32) = nI 5 from rfl, i_eq (by omega) (by omega)]; omega), if_pos (xin_nI hn4 (by omega)), if_pos (xin_nI hn4 (by omega)), if_pos (xin_nI hn4 (by omega)), if_pos (xin_nI hn4 (by omega)), ud_n _ _ (show (7 : Nat) ≠ 12 by decide), q.R.1, nI_1, nI_clamp (by omega), show nI (n + 1) - 1 = nI n from nI_pred n]
  · have hwx : ∀ (x : Int32), (∀ j, j < n → bt x j = w j) → ∀ j, j < n + 1 → bt (x &&& (((1 : Int32) <<< (nI n &&& 31)) ^^^ (-1 : Int32))) j = (w j && !decide (j = n)) := by
      intro x hx j hj
      rw [b_and, b_not _ (by omega), b_one (by omega) (by omega)]
      by_cases e : j = n
      · rw [decide_eq_true e]; simp
      · rw [decide_eq_false e, hx j (by omega)]
    obtain ⟨x1, x2, x3, x4, x5, x6⟩ := q.C
    obtain ⟨y1, y2, y3, y4, y5, y6⟩ := q.R
    obtain ⟨g1, g2, g3, g4, g5, g6⟩ := q.G
    obtain ⟨u1, u2, u3, u4, u5⟩ := q.S
    obtain ⟨o1, o2, o3, o4, o5⟩ := q.T
    refine ⟨⟨⟨ud_s _ _ _, x2, x3, x4, x5, x6⟩, ⟨ud_s _ _ _, by rw [ud_n _ _ (by decide), ud_n _ _ (by decide), y2], by rw [ud_n _ _ (by decide), ud_n _ _ (by decide), y3], by rw [ud_n _ _ (by decide), ud_n _ _ (by decide), y4], y5, y6⟩, ⟨by omega, g2, g3, g4, fun j hj => ?_, fun j hj => ?_⟩, by rw [ud_n _ _ (by decide), ud_n _ _ (by decide)]; exact q.M0⟩, ⟨⟨fun j hj => ?_, fun j hj _ => by rw [ud_s]; exact hwx _ q.wc j hj, by rw [ud_n _ _ (by decide), ud_n _ _ (by decide), u3], by rw [ud_n _ _ (by decide), ud_n _ _ (by decide), u4], by rw [ud_n _ _ (by decide), ud_n _ _ (by decide), u5]⟩, ⟨fun j hj => ?_, fun j hj _ => by rw [ud_n _ _ (by decide), ud_s]; exact hwx _ q.wr j hj, by rw [ud_n _ _ (by decide), ud_n _ _ (by decide), o3], by rw [ud_n _ _ (by decide), ud_n _ _ (by decide), o4], by rw [ud_n _ _ (by decide), ud_n _ _ (by decide), o5]⟩, by rw [ud_s]; exact hwx _ q.wc, by rw [ud_n _ _ (by decide), ud_s]; exact hwx _ q.wr, fun j hj => by show (a j || decide (j = n)) = false; rw [q.ab j (by omega), decide_eq_false (by omega)]; rfl, q.hw3, q.plp, fun h => by omega, fun _ j hj => ?_, q.stt⟩, q.page.M (by rw [ud_n _ _ (by decide), ud_n _ _ (by decide)]), q.log.M (by rw [ud_n _ _ (by decide), ud_n _ _ (by decide)]), q.time.M (by rw [ud_n _ _ (by decide), ud_n _ _ (by decide)]), ⟨q.zk.upd hn4, q.zr.2⟩, ?_⟩
    · by_cases e : j = n
      · subst e; exact ⟨p3, hp3, ud_s _ _ _⟩
      · rw [ud_n _ _ e]; exact g5 j (by omega)
    · by_cases e : j = n
      · subst e; exact ⟨0, by omega, ud_s _ _ _⟩
      · rw [ud_n _ _ e]; exact g6 j (by omega)
    · rw [ud_n _ _ (by decide), ud_s, b_or, u1 j hj, b_one (by omega) hj]
      show _ = (decide (j < n + 1) && (a j || decide (j = n)))
      by_cases e : j = n
      · rw [decide_eq_true e, decide_eq_true (show j < n + 1 by omega)]; simp
      · rw [decide_eq_false e]
        by_cases e2 : j < n
        · rw [decide_eq_true e2, decide_eq_true (show j < n + 1 by omega)]; simp
        · rw [decide_eq_false e2, decide_eq_false (show ¬ j < n + 1 by omega)]; simp
    · rw [ud_n _ _ (by decide), ud_n _ _ (by decide), o1 j hj]
      show _ = (decide (j < n + 1) && !(a j || decide (j = n)))
      by_cases e : j = n
      · rw [decide_eq_false (show ¬ j < n by omega), decide_eq_true e]; simp
      · rw [decide_eq_false e]
        by_cases e2 : j < n
        · rw [decide_eq_true e2, decide_eq_true (show j < n + 1 by omega)]; simp
        · rw [decide_eq_false e2, decide_eq_false (show ¬ j < n + 1 by omega)]; simp
    · show (a j || decide (j = n)) = true
      by_cases e : j = n
      · rw [decide_eq_true e]; simp
      · rw [hst0 j (by omega)]; rfl
    · have kp := q.kpt.M (M' := upd (upd M 12 (M 12 &&& (((1 : Int32) <<< (nI n &&& 31)) ^^^ (-1 : Int32)))) 7 (nI (n + 1))) (fun x hx => by rw [ud_n _ _ (by omega), ud_n _ _ (by omega)])
      refine ⟨kp.1, ?_⟩
      rcases kp.2 with h1 | ⟨h1, h2, h3, km, kpl, kst, khw, klg, kw, ka, K⟩
      · exact Or.inl h1
      · exact Or.inr ⟨h1, h2, h3, km, kpl, kst, khw, klg, kw, ka, K.up (Nat.le_refl t) (by have := K.kmn; omega)⟩
theorem q_log {P : Int32} (q : Q t n pc pl st hw np lg t0 need noon w a v xf pf la qf qs qr cf ck co cw sf kn lf ls ef ek gf gs M so ro rek rgs) :
    ∃ (x : Int32) (lf' ls' M' : Nat → Int32) (lg' : Nat), X5_log xf cf lf ls P = some (x, lf', ls') ∧ X6_log M L ls P = some (x, M', ls') ∧ Q t n pc pl st hw np lg' t0 need noon w a v xf pf la qf qs qr cf ck co cw sf kn lf' ls' ef ek gf gs M' so ro rek rgs := by
  have hn := q.G.1
  have h8 := q.lg8
  rw [X5_log, X6_log, e_everyone hn q.C.1, e_everybody hn q.R.1, Option.bind_some, Option.bind_some]
  rcases rng P 0 (nI (2 ^ n - 1)) with ⟨h, e⟩ | ⟨h, h2, h3, e⟩ | ⟨h, h2, h3, e⟩
  · exact ⟨-102, lf, ls, M, lg, by rw [if_pos h], by rw [e]; rfl, q⟩
  · exact ⟨-102, lf, ls, M, lg, by rw [if_neg h, if_neg h3], by rw [e]; rfl, q⟩
  rw [if_neg h, if_pos h3, e, Option.bind_some, if_neg (show ¬ bz true = 0 by decide), q.lz, q.lm]
  by_cases h4 : lg = 8
  · exact ⟨-104, lf, ls, M, lg, by rw [if_neg (by rw [h4]; decide)], by rw [if_pos (by rw [h4]; rfl)], q⟩
  · refine ⟨nI (lg + 1), upd lf 1 (nI (lg + 1)), upd ls lg P, upd M 18 (nI (lg + 1)), lg + 1, ?_, ?_, q.sea.M (fun x hx => ud_n _ _ (by omega)), q.ship.M (fun x hx hy => ud_n _ _ (by omega)), q.page.M (ud_n _ _ (by decide)), ⟨ud_s _ _ _, ud_s _ _ _, by omega⟩, q.time.M (ud_n _ _ (by decide)), ⟨q.zk, q.zek, q.zrek, q.zqs, q.zqr, q.zso, q.zls.upd (by omega), q.zgs, q.zrgs⟩, q.kpt.M (fun x hx => ud_n _ _ (by omega))⟩
    · rw [if_pos (by rw [show (8 : Int32) = nI 8 from rfl, i_lt (by omega) (by omega)]; omega), X1_add, q.lz, if_neg (i_nlt0 (by omega)), if_neg (by rw [show (8 : Int32) = nI 8 from rfl, i_le (by omega) (by omega)]; omega), if_pos (xin_nI (by omega) (by omega)), nI_1, nI_clamp (by omega), Option.bind_some]
      dsimp only
      rw [ud_s]
    · rw [if_neg (by rw [show (8 : Int32) = nI 8 from rfl, i_eq (by omega) (by omega)]; exact h4), if_pos (xin_nI (by omega) (by omega)), nI_1, nI_clamp (by omega)]
theorem q_forget (q : Q t n pc pl st hw np lg t0 need noon w a v xf pf la qf qs qr cf ck co cw sf kn lf ls ef ek gf gs M so ro rek rgs) :
    ∃ (x : Int32) (lf' M' : Nat → Int32), X5_forget xf lf = some (x, lf') ∧ X6_forget M L = some (x, M') ∧ Q t n pc pl st hw np 0 t0 need noon w a v xf pf la qf qs qr cf ck co cw sf kn lf' ls ef ek gf gs M' so ro rek rgs :=
  ⟨nI lg, upd lf 1 0, upd M 18 0, by rw [X5_forget, q.lz], by rw [X6_forget, q.lm], q.sea.M (fun x hx => ud_n _ _ (by omega)), q.ship.M (fun x hx hy => ud_n _ _ (by omega)), q.page.M (ud_n _ _ (by decide)), ⟨ud_s _ _ _, ud_s _ _ _, by decide⟩, q.time.M (ud_n _ _ (by decide)), q.zr, q.kpt.M (fun x hx => ud_n _ _ (by omega))⟩
theorem q_count {P : Int32} (q : Q t n pc pl st hw np lg t0 need noon w a v xf pf la qf qs qr cf ck co cw sf kn lf ls ef ek gf gs M so ro rek rgs) (hN : 40 < N) :
    ∃ x : Int32, X5_count xf pf qf cf sf lf P = some x ∧ X6_count N M L P = some x ∧ X6_howMany N M L P = some x := by
  have hn := q.G.1
  have key : ∀ x : Int32, X5_count xf pf qf cf sf lf P = some x → X6_howMany N M L P = some x → ∃ x : Int32, X5_count xf pf qf cf sf lf P = some x ∧ X6_count N M L P = some x ∧ X6_howMany N M L P = some x := fun x h1 h2 => ⟨x, h1, by rw [X6_count, h2]; rfl, h2⟩
  by_cases p0 : P = 0
  · subst p0; exact key (nI pc) (by rw [X5_count, if_pos rfl, q.C.2.2.2.1]) (by rw [X6_howMany, if_pos rfl, q.R.2.2.2.1])
  by_cases p1 : P = 1
  · subst p1; exact key need (by rw [X5_count, if_neg (by decide), if_pos rfl, q.C.2.1]) (by rw [X6_howMany, if_neg (by decide), if_pos rfl, q.R.2.1])
  by_cases p2 : P = 2
  · subst p2; exact key noon (by rw [X5_count, if_neg (by decide), if_neg (by decide), if_pos rfl, q.C.2.2.1]) (by rw [X6_howMany, if_neg (by decide), if_neg (by decide), if_pos rfl, q.R.2.2.1])
  by_cases p3 : P = 3
  · subst p3; exact key (nI n) (by rw [X5_count, if_neg (by decide), if_neg (by decide), if_neg (by decide), if_pos rfl, q.C.1]) (by rw [X6_howMany, if_neg (by decide), if_neg (by decide), if_neg (by decide), if_pos rfl, q.R.1])
  by_cases p4 : P = 4
  · subst p4; exact key (nI (n - cnt a n)) (by rw [X5_count, if_neg (by decide), if_neg (by decide), if_neg (by decide), if_neg (by decide), if_pos rfl, e_lostOf hn q.C.1 q.S]; rfl) (by rw [X6_howMany, if_neg (by decide), if_neg (by decide), if_neg (by decide), if_neg (by decide), if_pos rfl, e_lostR hn (by omega) q.T]; rfl)
  by_cases p5 : P = 5
  · subst p5; exact key (nI pl) (by rw [X5_count, if_neg (by decide), if_neg (by decide), if_neg (by decide), if_neg (by decide), if_neg (by decide), if_pos rfl, q.S.2.2.1]) (by rw [X6_howMany, if_neg (by decide), if_neg (by decide), if_neg (by decide), if_neg (by decide), if_neg (by decide), if_pos rfl, q.T.2.2.1])
  by_cases p6 : P = 6
  · subst p6; exact key (nI st) (by rw [X5_count, if_neg (by decide), if_neg (by decide), if_neg (by decide), if_neg (by decide), if_neg (by decide), if_neg (by decide), if_pos rfl, q.S.2.2.2.1]) (by rw [X6_howMany, if_neg (by decide), if_neg (by decide), if_neg (by decide), if_neg (by decide), if_neg (by decide), if_neg (by decide), if_pos rfl, q.T.2.2.2.1])
  by_cases p7 : P = 7
  · subst p7; exact key (nI hw) (by rw [X5_count, if_neg (by decide), if_neg (by decide), if_neg (by decide), if_neg (by decide), if_neg (by decide), if_neg (by decide), if_neg (by decide), if_pos rfl, q.S.2.2.2.2]) (by rw [X6_howMany, if_neg (by decide), if_neg (by decide), if_neg (by decide), if_neg (by decide), if_neg (by decide), if_neg (by decide), if_neg (by decide), if_pos rfl, q.T.2.2.2.2])
  by_cases p8 : P = 8
  · subst p8; exact key (nI lg) (by rw [X5_count, if_neg (by decide), if_neg (by decide), if_neg (by decide), if_neg (by decide), if_neg (by decide), if_neg (by decide), if_neg (by decide), if_neg (by decide), if_pos rfl, q.lz]) (by rw [X6_howMany, if_neg (by decide), if_neg (by decide), if_neg (by decide), if_neg (by decide), if_neg (by decide), if_neg (by decide), if_neg (by decide), if_neg (by decide), if_pos rfl, q.lm])
  by_cases p9 : P = 9
  · subst p9; exact key (nI np) (by rw [X5_count, if_neg (by decide), if_neg (by decide), if_neg (by decide), if_neg (by decide), if_neg (by decide), if_neg (by decide), if_neg (by decide), if_neg (by decide), if_neg (by decide), if_pos rfl, q.pz]) (by rw [X6_howMany, if_neg (by decide), if_neg (by decide), if_neg (by decide), if_neg (by decide), if_neg (by decide), if_neg (by decide), if_neg (by decide), if_neg (by decide), if_neg (by decide), if_pos rfl, q.pm])
  by_cases p10 : P = 10
  · subst p10; exact key (nI t0) (by rw [X5_count, if_neg (by decide), if_neg (by decide), if_neg (by decide), if_neg (by decide), if_neg (by decide), if_neg (by decide), if_neg (by decide), if_neg (by decide), if_neg (by decide), if_neg (by decide), if_pos rfl, q.x11]) (by rw [X6_howMany, if_neg (by decide), if_neg (by decide), if_neg (by decide), if_neg (by decide), if_neg (by decide), if_neg (by decide), if_neg (by decide), if_neg (by decide), if_neg (by decide), if_neg (by decide), if_pos rfl, q.m1])
  · exact key (-102) (by rw [X5_count, if_neg p0, if_neg p1, if_neg p2, if_neg p3, if_neg p4, if_neg p5, if_neg p6, if_neg p7, if_neg p8, if_neg p9, if_neg p10]) (by rw [X6_howMany, if_neg p0, if_neg p1, if_neg p2, if_neg p3, if_neg p4, if_neg p5, if_neg p6, if_neg p7, if_neg p8, if_neg p9, if_neg p10])
end Q
