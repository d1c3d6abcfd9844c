/-! LAYER 2: the calls that ask what would be -/
section Q
variable {t n pc pl st hw np lg t0 N : Nat} {need noon : Int32} {w a : Nat → Bool} {v : Nat → Nat} {xf pf la qf qs qr cf ck co cw sf kn lf ls ef ek gf gs tf tk uf us ur M so ro ns nr vk vs H rek rgs : Nat → Int32} {L : Nat → Int64}
theorem Q.on (q : Q t n pc pl st hw np lg t0 need noon w a v xf pf la qf qs qr cf ck co cw sf kn lf ls ef ek gf gs M so ro rek rgs) : ∃ b : Bool, X5_canGoOn xf qf cf sf = some b ∧ X6_isOn M L = some b ∧ (b = true → 0 < pc ∧ 0 < n ∧ hw = 0) ∧ b = (decide (0 < pc) && (decide (0 < n) && decide (hw = 0))) := by
  refine ⟨_, e_canGoOn q.G.1 q.G.2.1 q.C q.S q.hw3, e_isOn q.G.1 q.G.2.1 q.R q.M0 q.T q.hw3, fun h => ?_, rfl⟩
  rw [Bool.and_eq_true, Bool.and_eq_true, decide_eq_true_iff, decide_eq_true_iff, decide_eq_true_iff] at h
  exact h
theorem d_outcome {P : Int32} (q : Q t n pc pl st hw np lg t0 need noon w a v xf pf la qf qs qr cf ck co cw sf kn lf ls ef ek gf gs M so ro rek rgs) (f : Fr tk us ur vk vs) (hN : 40 < N) (hP : P = 0 ∨ P = 1 ∨ P = 2) (hon : 0 < pc ∧ 0 < n ∧ hw = 0) :
    ∃ (x : Int32) (tf' M' : Nat → Int32), X5_outcome N xf qf qs qr cf ck co cw sf kn tf tk P = some (x, tf', kn) ∧ X6_outcomeNow N M L so ro ck co cw kn vk vs P = some (x, M', so, kn, kn, so) ∧ svd M M' := by
  obtain ⟨tf', h1⟩ := c_outcome (N := N) (xf := xf) (tf := tf) (need := need) (co := co) q.G q.C q.S (q.plp hon.1) q.hw3 hN q.zk f.zt hP (by rw [decide_eq_true hon.1, decide_eq_true hon.2.1, decide_eq_true hon.2.2]; rfl)
  obtain ⟨M', h2, s⟩ := r_outcome (N := N) (L := L) (P := P) (need := need) (co := co) q.G q.R q.T (q.plp hon.1) q.hw3 hN q.zk f.zvk q.zso f.zvs
  exact ⟨_, tf', M', h1, h2, s⟩
theorem d_waxing {p : Nat} {P2 : Int32} (q : Q t n pc pl st hw np lg t0 need noon w a v xf pf la qf qs qr cf ck co cw sf kn lf ls ef ek gf gs M so ro rek rgs) (f : Fr tk us ur vk vs) (hN : 40 < N) (hp : p ≤ 5) (hP : P2 = 0 ∨ P2 = 1) (hon : 0 < pc ∧ 0 < n ∧ hw = 0) :
    ∃ (x : Int32) (tf' tk' M' : Nat → Int32), X5_waxing N xf qf qs qr cf ck co cw sf kn tf tk (nI p) P2 = some (x, tf', tk') ∧ X6_waxingNow N M L so ro ck co cw kn vk vs (nI p) P2 = some (x, M', so, kn, kn, so) ∧ svd M M' ∧ Zr 5 tk' := by
  have hn := q.G.1
  have h2n := pow5 hn
  obtain ⟨b, o1, -, -, o4⟩ := q.on (L := L)
  rw [show b = true by rw [o4, decide_eq_true hon.1, decide_eq_true hon.2.1, decide_eq_true hon.2.2]; rfl] at o1
  obtain ⟨t1, h0⟩ := c_rankW (N := N) (s := 0) (xf := xf) (tf := tf) (need := need) (co := co) q.G q.C q.S (q.plp hon.1) q.hw3 hN q.zk f.zt
  have hin : inW n p a 0 := ⟨by omega, v0 n a, by rw [w0]; omega⟩
  obtain ⟨tf', tk', b1, h1, z1, m1⟩ := c_waxL (N := N) (P2 := P2) (xf := xf) (need := need) (co := co) q.G q.C q.S (q.plp hon.1) q.hw3 hN q.zk hp (2 ^ n - 1) 1 N t1 kn 0 (by omega) (by omega) q.zk hin (by omega) (fun s' hs' _ => by obtain rfl : s' = 0 := (by omega); exact Nat.le_refl _)
  obtain ⟨M1, g1, s1⟩ := svd.save (M := M) (L := L) q.zk f.zvk q.zso f.zvs hN
  obtain ⟨M', b2, h2, s2, m2⟩ := r_waxO (N := N) (L := L) (P2 := P2) (need := need) (co := co) q.G q.R q.T (q.plp hon.1) q.hw3 hN q.zk q.zso hp (p + 1) 0 N M1 none (by omega) (by omega) s1 ⟨rfl, rfl⟩
  have hb : b1 = b2 := minW_eq hn (minW_congr hn (fun x y => sRank_lt hn) m1) m2
  subst hb
  have hge : ¬ nI p < 0 := i_nlt0 (by omega)
  have h5 : ¬ (5 : Int32) < nI p := by rw [show (5 : Int32) = nI 5 from rfl, i_lt (by omega) (by omega)]; omega
  have hP0 : ¬ P2 < 0 := by rcases hP with rfl | rfl <;> decide
  have hP1 : P2 ≤ 1 := by rcases hP with rfl | rfl <;> decide
  refine ⟨if P2 = 0 then nI (n - cnt (sWx n pc need noon so ro ck co cw kn a pl st hw b1).1 n) else nI b1, tf', tk', M', ?_, ?_, s2, z1⟩
  · rw [X5_waxing, if_neg hge, if_neg h5, if_neg hP0, if_pos hP1, o1, Option.bind_some, if_neg (show ¬ bz true = 0 by decide), show (0 : Int32) = nI 0 from rfl, h0, Option.bind_some]
    refine Eq.trans h1 ?_
    rcases hP with rfl | rfl
    · rfl
    · rfl
  · rw [X6_waxingNow, g1, Option.bind_some]
    exact h2
theorem d_listener (q : Q t n pc pl st hw np lg t0 need noon w a v xf pf la qf qs qr cf ck co cw sf kn lf ls ef ek gf gs M so ro rek rgs) (f : Fr tk us ur vk vs) (hN : 40 < N) (hon : 0 < pc ∧ 0 < n ∧ hw = 0) :
    ∃ (x : Int32) (tf' tk' M' : Nat → Int32), X5_listener N xf qf qs qr cf ck co cw sf kn tf tk = some (x, tf', tk') ∧ X6_listenerNow N M L so ro ck co cw kn vk vs = some (x, M', so, kn, kn, so) ∧ svd M M' ∧ Zr 5 tk' := by
  have hn := q.G.1
  obtain ⟨b, o1, -, -, o4⟩ := q.on (L := L)
  rw [show b = true by rw [o4, decide_eq_true hon.1, decide_eq_true hon.2.1, decide_eq_true hon.2.2]; rfl] at o1
  obtain ⟨tf', tk', h1, z1⟩ := c_listen (N := N) (xf := xf) (need := need) (co := co) q.G q.C q.S (q.plp hon.1) q.hw3 hN q.zk n 0 N tf tk none (by omega) (by omega) f.zt (fun x hx => absurd hx (by simp))
  obtain ⟨M1, g1, s1⟩ := svd.save (M := M) (L := L) q.zk f.zvk q.zso f.zvs hN
  obtain ⟨M', h2, s2⟩ := r_listen (N := N) (L := L) (need := need) (co := co) q.G q.R q.T (q.plp hon.1) q.hw3 hN q.zk q.zso q.ab n 0 N M1 none (by omega) (by omega) s1 (fun x hx => absurd hx (by simp))
  rw [lFold_congr (K := fun l => sRank 6 n (sLis n pc need noon so ro ck co cw kn a pl st hw l)) (K' := fun l => sRank 1000 n (sLis n pc need noon so ro ck co cw kn a pl st hw l)) (fun x y => sRank_lt hn)] at h1
  refine ⟨lVal (lFold a (fun l => sRank 1000 n (sLis n pc need noon so ro ck co cw kn a pl st hw l)) n 0 none), tf', tk', M', ?_, ?_, s2, z1⟩
  · rw [X5_listener, o1, Option.bind_some, if_neg (show ¬ bz true = 0 by decide)]
    exact h1
  · rw [X6_listenerNow, g1, Option.bind_some]
    exact h2
theorem d_sold (q : Q t n pc pl st hw np lg t0 need noon w a v xf pf la qf qs qr cf ck co cw sf kn lf ls ef ek gf gs M so ro rek rgs) (f : Fr tk us ur vk vs) (hN : 40 < N) (hon : 0 < pc ∧ 0 < n ∧ hw = 0) :
    ∃ (x : Int32) (tf' tk' uf' us' ur' M' : Nat → Int32), X5_sold N xf qf qs qr cf ck co cw sf kn tf tk uf us ur = some (x, tf', tk', uf', us', ur') ∧ X6_soldNow N M L so ro ck co cw kn vk vs = some (x, M', so, kn, kn, so) ∧ svd M M' ∧ Zr 5 tk' ∧ Zr 12 us' ∧ Zr 12 ur' := by
  have hn := q.G.1
  obtain ⟨b, o1, -, -, o4⟩ := q.on (L := L)
  rw [show b = true by rw [o4, decide_eq_true hon.1, decide_eq_true hon.2.1, decide_eq_true hon.2.2]; rfl] at o1
  obtain ⟨tf', tk', uf', us', ur', h1, z1, z2, z3⟩ := c_sold (N := N) (xf := xf) (need := need) (co := co) q.G q.C q.S (q.plp hon.1) q.hw3 hN q.zk q.zqs q.zqr 10 0 N tf tk uf us ur (by omega) (by omega) f.zt f.zus f.zur
  obtain ⟨M1, g1, s1⟩ := svd.save (M := M) (L := L) q.zk f.zvk q.zso f.zvs hN
  obtain ⟨M', h2, s2⟩ := r_sold (N := N) (L := L) (need := need) (co := co) q.G q.R q.T (q.plp hon.1) q.hw3 hN q.zk q.zso 10 0 N M1 (by omega) (by omega) s1
  refine ⟨sFirst (pSold n pc need noon so ro ck co cw kn w a pl st hw) 10 0, tf', tk', uf', us', ur', M', ?_, ?_, s2, z1, z2, z3⟩
  · rw [X5_sold, o1, Option.bind_some, if_neg (show ¬ bz true = 0 by decide), e_lostOf hn q.C.1 q.S, Option.bind_some]
    exact h1
  · rw [X6_soldNow, g1, Option.bind_some]
    exact h2
theorem d_fits (q : Q t n pc pl st hw np lg t0 need noon w a v xf pf la qf qs qr cf ck co cw sf kn lf ls ef ek gf gs M so ro rek rgs) (f : Fr tk us ur vk vs) (hN : 40 < N) (hon : 0 < pc ∧ 0 < n) :
    ∃ (x : Int32) (tf' tk' M' H' : Nat → Int32), X5_fits N xf qf qs qr cf ck co cw sf kn lf ls tf tk = some (x, tf', tk') ∧ X6_layFits N M L so ro ck co cw kn ls vk vs H = some (x, M', so, kn, kn, so, H') ∧ svd M M' ∧ Zr 5 tk' := by
  have hn := q.G.1
  obtain ⟨tf', tk', h1, z1⟩ := c_fits0 (N := N) (xf := xf) (sf := sf) (tf := tf) (need := need) (co := co) (ls := ls) q.G q.C hN q.lz q.lg8 hon.1 q.zk f.zt
  obtain ⟨M', H', h2, s, -⟩ := r_fits (N := N) (L := L) (H := H) (need := need) (co := co) (ls := ls) q.G q.R hN q.lm q.lg8 hon.1 q.zk f.zvk q.zso f.zvs
  rcases q.hasP with ⟨hp, -, -⟩ | ⟨-, p1, -⟩
  · exact absurd hp (by omega)
  refine ⟨nI (nFits n pc need noon so ro ck co cw kn ls lg), tf', tk', M', H', ?_, h2, s, z1⟩
  rw [X5_fits, p1, Option.bind_some, if_neg (show ¬ bz true = 0 by decide), q.C.1, if_neg (by rw [i_z (by omega)]; omega), h1]
  rfl
theorem Fr.next (f : Fr tk us ur vk vs) {tk' us' ur' vk' vs' : Nat → Int32} (h1 : Zr 5 tk') (h2 : Zr 12 us') (h3 : Zr 12 ur') (h4 : Zr 5 vk') (h5 : Zr 12 vs') : Fr tk' us' ur' vk' vs' := ⟨h1, h2, h3, h4, h5⟩
theorem q_outcome {P : Int32} (q : Q t n pc pl st hw np lg t0 need noon w a v xf pf la qf qs qr cf ck co cw sf kn lf ls ef ek gf gs M so ro rek rgs) (f : Fr tk us ur vk vs) (hN : 40 < N) :
    ∃ (x : Int32) (tf' tk' M' vk' vs' : Nat → Int32), X5_outcome N xf qf qs qr cf ck co cw sf kn tf tk P = some (x, tf', tk') ∧ X6_outcome N M L so ro ck co cw kn vk vs P = some (x, M', so, kn, vk', vs') ∧ Fr tk' us ur vk' vs' ∧ Q t n pc pl st hw np lg t0 need noon w a v xf pf la qf qs qr cf ck co cw sf kn lf ls ef ek gf gs M' so ro rek rgs := by
  obtain ⟨b, o1, o2, o3, -⟩ := q.on (L := L)
  rcases rng P 0 2 with ⟨h, e⟩ | ⟨h, h2, h3, e⟩ | ⟨h, h2, h3, e⟩
  · exact ⟨-102, tf, tk, M, vk, vs, by rw [X5_outcome, if_pos h], by rw [X6_outcome, e]; rfl, f, q⟩
  · refine ⟨-102, tf, tk, M, vk, vs, ?_, by rw [X6_outcome, e]; rfl, f, q⟩
    have h4 : ¬ P < 3 := by
      intro h5
      have a1 := Int32.lt_iff_toInt_lt.mp h2
      have a2 := Int32.lt_iff_toInt_lt.mp h5
      rw [show (2 : Int32).toInt = 2 by decide] at a1
      rw [show (3 : Int32).toInt = 3 by decide] at a2
      omega
    rw [X5_outcome, if_neg h, if_neg h4]
  · obtain ⟨j, hj, rfl⟩ := nI_of2 (n := 2) (by decide) h h3
    have hP : nI j = 0 ∨ nI j = 1 ∨ nI j = 2 := by rcases (show j = 0 ∨ j = 1 ∨ j = 2 by omega) with rfl | rfl | rfl <;> decide
    cases b with
    | false => exact ⟨-103, tf, tk, M, vk, vs, by rw [X5_outcome, if_neg h, if_pos (by rw [show (3 : Int32) = nI 3 from rfl, i_lt (by omega) (by omega)]; omega), o1]; rfl, by rw [X6_outcome, e, Option.bind_some, if_neg (show ¬ bz true = 0 by decide), o2]; rfl, f, q⟩
    | true =>
      obtain ⟨x, tf', M', h4, h5, s⟩ := d_outcome (N := N) (L := L) (tf := tf) q f hN hP (o3 rfl)
      exact ⟨x, tf', kn, M', kn, so, h4, by rw [X6_outcome, e, Option.bind_some, if_neg (show ¬ bz true = 0 by decide), o2, Option.bind_some, if_neg (show ¬ bz true = 0 by decide), h5]; rfl, f.next q.zk f.zus f.zur q.zk q.zso, q.svd s⟩
theorem q_waxing {P1 P2 : Int32} (q : Q t n pc pl st hw np lg t0 need noon w a v xf pf la qf qs qr cf ck co cw sf kn lf ls ef ek gf gs M so ro rek rgs) (f : Fr tk us ur vk vs) (hN : 40 < N) :
    ∃ (x : Int32) (tf' tk' M' vk' vs' : Nat → Int32), X5_waxing N xf qf qs qr cf ck co cw sf kn tf tk P1 P2 = some (x, tf', tk') ∧ X6_waxing N M L so ro ck co cw kn vk vs P1 P2 = some (x, M', so, kn, vk', vs') ∧ Fr tk' us ur vk' vs' ∧ Q t n pc pl st hw np lg t0 need noon w a v xf pf la qf qs qr cf ck co cw sf kn lf ls ef ek gf gs M' so ro rek rgs := by
  obtain ⟨b, o1, o2, o3, -⟩ := q.on (L := L)
  rcases rng P1 0 5 with ⟨h, e⟩ | ⟨h, h2, h3, e⟩ | ⟨h, h2, h3, e⟩
  · exact ⟨-102, tf, tk, M, vk, vs, by rw [X5_waxing, if_pos h], by rw [X6_waxing, e]; rfl, f, q⟩
  · exact ⟨-102, tf, tk, M, vk, vs, by rw [X5_waxing, if_neg h, if_pos h2], by rw [X6_waxing, e]; rfl, f, q⟩
  obtain ⟨p, hp, rfl⟩ := nI_of2 (n := 5) (by decide) h h3
  rcases rng P2 0 1 with ⟨h4, e4⟩ | ⟨h4, h5, h6, e4⟩ | ⟨h4, h5, h6, e4⟩
  · exact ⟨-102, tf, tk, M, vk, vs, by rw [X5_waxing, if_neg h, if_neg h2, if_pos h4], by rw [X6_waxing, e, Option.bind_some, if_neg (show ¬ bz true = 0 by decide), e4]; rfl, f, q⟩
  · exact ⟨-102, tf, tk, M, vk, vs, by rw [X5_waxing, if_neg h, if_neg h2, if_neg h4, if_neg h6], by rw [X6_waxing, e, Option.bind_some, if_neg (show ¬ bz true = 0 by decide), e4]; rfl, f, q⟩
  obtain ⟨j, hj, rfl⟩ := nI_of2 (n := 1) (by decide) h4 h6
  have hP : nI j = 0 ∨ nI j = 1 := by rcases (show j = 0 ∨ j = 1 by omega) with rfl | rfl <;> decide
  cases b with
  | false => exact ⟨-103, tf, tk, M, vk, vs, by rw [X5_waxing, if_neg h, if_neg h2, if_neg h4, if_pos h6, o1]; rfl, by rw [X6_waxing, e, Option.bind_some, if_neg (show ¬ bz true = 0 by decide), e4, Option.bind_some, if_neg (show ¬ bz true = 0 by decide), o2]; rfl, f, q⟩
  | true =>
    obtain ⟨x, tf', tk', M', g4, g5, s, z⟩ := d_waxing (N := N) (L := L) (tf := tf) q f hN hp hP (o3 rfl)
    exact ⟨x, tf', tk', M', kn, so, g4, by rw [X6_waxing, e, Option.bind_some, if_neg (show ¬ bz true = 0 by decide), e4, Option.bind_some, if_neg (show ¬ bz true = 0 by decide), o2, Option.bind_some, if_neg (show ¬ bz true = 0 by decide), g5]; rfl, f.next z f.zus f.zur q.zk q.zso, q.svd s⟩
theorem q_hold {P1 : Int32} (q : Q t n pc pl st hw np lg t0 need noon w a v xf pf la qf qs qr cf ck co cw sf kn lf ls ef ek gf gs M so ro rek rgs) (f : Fr tk us ur vk vs) (hN : 40 < N) :
    ∃ (x : Int32) (tf' tk' M' vk' vs' : Nat → Int32), X5_hold N xf qf qs qr cf ck co cw sf kn tf tk P1 = some (x, tf', tk') ∧ X6_hold N M L so ro ck co cw kn vk vs P1 = some (x, M', so, kn, vk', vs') ∧ Fr tk' us ur vk' vs' ∧ Q t n pc pl st hw np lg t0 need noon w a v xf pf la qf qs qr cf ck co cw sf kn lf ls ef ek gf gs M' so ro rek rgs := by
  have hn := q.G.1
  obtain ⟨b, o1, o2, o3, -⟩ := q.on (L := L)
  rw [X5_hold, X6_hold]
  rcases known (xf := xf) (L := L) P1 hn q.C.1 q.R.1 with ⟨e1, e2⟩ | ⟨i, hi, rfl, e1, e2⟩
  · exact ⟨-101, tf, tk, M, vk, vs, by rw [e1]; rfl, by rw [e2]; rfl, f, q⟩
  rw [e1, e2, o1, o2]
  cases b with
  | false => exact ⟨-103, tf, tk, M, vk, vs, rfl, rfl, f, q⟩
  | true =>
    obtain ⟨g1, g2, g3⟩ := o3 rfl
    have h1 := q.S.1 i (by omega)
    have h2 := q.T.1 i (by omega)
    rw [decide_eq_true hi, Bool.true_and] at h1 h2
    rw [Option.bind_some, Option.bind_some, if_neg (show ¬ bz true = 0 by decide), if_neg (show ¬ bz true = 0 by decide), Option.bind_some, Option.bind_some, if_neg (show ¬ bz true = 0 by decide), if_neg (show ¬ bz true = 0 by decide), e_isAboard (by omega), e_has (by omega), Option.bind_some, Option.bind_some, h1, h2]
    cases ha : a i with
    | false => exact ⟨-103, tf, tk, M, vk, vs, rfl, rfl, f, q⟩
    | true =>
      obtain ⟨tf', tk', h3, z⟩ := c_hold (N := N) (xf := xf) (need := need) (co := co) q.G q.C q.S (q.plp g1) q.hw3 hN q.zk hi 10 0 N tf tk (by omega) (by omega) f.zt
      obtain ⟨M1, h4, s1⟩ := svd.save (M := M) (L := L) q.zk f.zvk q.zso f.zvs hN
      obtain ⟨M', h5, s2⟩ := r_hold (N := N) (L := L) (need := need) (co := co) q.G q.R q.T (q.plp g1) q.hw3 hN q.zk q.zso hi 10 0 N M1 (by omega) (by omega) s1
      rw [if_neg (show ¬ bz true = 0 by decide), if_pos (show bz (!true) = 0 from rfl), X6_holdNow, h4, Option.bind_some]
      refine ⟨_, tf', tk', M', kn, so, h3, ?_, f.next z f.zus f.zur q.zk q.zso, q.svd s2⟩
      show (X6_holdNow_6 N L ro ck co cw N M1 so kn kn so (nI i) (nI 0)).bind _ = _
      rw [h5]; rfl
theorem q_listener (q : Q t n pc pl st hw np lg t0 need noon w a v xf pf la qf qs qr cf ck co cw sf kn lf ls ef ek gf gs M so ro rek rgs) (f : Fr tk us ur vk vs) (hN : 40 < N) :
    ∃ (x : Int32) (tf' tk' M' vk' vs' : Nat → Int32), X5_listener N xf qf qs qr cf ck co cw sf kn tf tk = some (x, tf', tk') ∧ X6_listener N M L so ro ck co cw kn vk vs = some (x, M', so, kn, vk', vs') ∧ Fr tk' us ur vk' vs' ∧ Q t n pc pl st hw np lg t0 need noon w a v xf pf la qf qs qr cf ck co cw sf kn lf ls ef ek gf gs M' so ro rek rgs := by
  obtain ⟨b, o1, o2, o3, -⟩ := q.on (L := L)
  cases b with
  | false => exact ⟨-103, tf, tk, M, vk, vs, by rw [X5_listener, o1]; rfl, by rw [X6_listener, o2]; rfl, f, q⟩
  | true =>
    obtain ⟨x, tf', tk', M', g4, g5, s, z⟩ := d_listener (N := N) (L := L) (tf := tf) q f hN (o3 rfl)
    exact ⟨x, tf', tk', M', kn, so, g4, by rw [X6_listener, o2, Option.bind_some, if_neg (show ¬ bz true = 0 by decide), g5]; rfl, f.next z f.zus f.zur q.zk q.zso, q.svd s⟩
theorem q_sold (q : Q t n pc pl st hw np lg t0 need noon w a v xf pf la qf qs qr cf ck co cw sf kn lf ls ef ek gf gs M so ro rek rgs) (f : Fr tk us ur vk vs) (hN : 40 < N) :
    ∃ (x : Int32) (tf' tk' uf' us' ur' M' vk' vs' : Nat → Int32), X5_sold N xf qf qs qr cf ck co cw sf kn tf tk uf us ur = some (x, tf', tk', uf', us', ur') ∧ X6_sold N M L so ro ck co cw kn vk vs = some (x, M', so, kn, vk', vs') ∧ Fr tk' us' ur' vk' vs' ∧ Q t n pc pl st hw np lg t0 need noon w a v xf pf la qf qs qr cf ck co cw sf kn lf ls ef ek gf gs M' so ro rek rgs := by
  obtain ⟨b, o1, o2, o3, -⟩ := q.on (L := L)
  cases b with
  | false => exact ⟨-103, tf, tk, uf, us, ur, M, vk, vs, by rw [X5_sold, o1]; rfl, by rw [X6_sold, o2]; rfl, f, q⟩
  | true =>
    obtain ⟨x, tf', tk', uf', us', ur', M', g4, g5, s, z1, z2, z3⟩ := d_sold (N := N) (L := L) (tf := tf) (uf := uf) q f hN (o3 rfl)
    exact ⟨x, tf', tk', uf', us', ur', M', kn, so, g4, by rw [X6_sold, o2, Option.bind_some, if_neg (show ¬ bz true = 0 by decide), g5]; rfl, f.next z1 z2 z3 q.zk q.zso, q.svd s⟩
theorem q_fits (q : Q t n pc pl st hw np lg t0 need noon w a v xf pf la qf qs qr cf ck co cw sf kn lf ls ef ek gf gs M so ro rek rgs) (f : Fr tk us ur vk vs) (hN : 40 < N) :
    ∃ (x : Int32) (tf' tk' M' vk' vs' H' : Nat → Int32), X5_fits N xf qf qs qr cf ck co cw sf kn lf ls tf tk = some (x, tf', tk') ∧ X6_fits N M L so ro ck co cw kn ls vk vs H = some (x, M', so, kn, vk', vs', H') ∧ Fr tk' us ur vk' vs' ∧ Q t n pc pl st hw np lg t0 need noon w a v xf pf la qf qs qr cf ck co cw sf kn lf ls ef ek gf gs M' so ro rek rgs := by
  have hn := q.G.1
  rcases q.hasP with ⟨hp, p1, p2⟩ | ⟨hp, p1, p2⟩
  · exact ⟨-103, tf, tk, M, vk, vs, H, by rw [X5_fits, p1]; rfl, by rw [X6_fits, if_pos p2], f, q⟩
  by_cases h0 : n = 0
  · exact ⟨-103, tf, tk, M, vk, vs, H, by rw [X5_fits, p1, Option.bind_some, if_neg (show ¬ bz true = 0 by decide), q.C.1, if_pos (by rw [i_z (by omega)]; exact h0)], by rw [X6_fits, if_neg p2, q.R.1, if_pos (by rw [i_lez (by omega)]; exact h0)], f, q⟩
  · obtain ⟨x, tf', tk', M', H', g4, g5, s, z⟩ := d_fits (N := N) (L := L) (tf := tf) (H := H) q f hN ⟨hp, by omega⟩
    exact ⟨x, tf', tk', M', kn, so, H', g4, by rw [X6_fits, if_neg p2, q.R.1, if_neg (by rw [i_lez (by omega)]; exact h0), g5]; rfl, f.next z f.zus f.zur q.zk q.zso, q.svd s⟩
theorem q_sure {P1 : Int32} (q : Q t n pc pl st hw np lg t0 need noon w a v xf pf la qf qs qr cf ck co cw sf kn lf ls ef ek gf gs M so ro rek rgs) (f : Fr tk us ur vk vs) (hN : 40 < N) :
    ∃ (x : Int32) (tf' tk' M' vk' vs' H' : Nat → Int32), X5_sure N xf qf qs qr cf ck co cw sf kn lf ls tf tk P1 = some (x, tf', tk') ∧ X6_sure N M L so ro ck co cw kn ls vk vs H P1 = some (x, M', so, kn, vk', vs', H') ∧ Fr tk' us ur vk' vs' ∧ Q t n pc pl st hw np lg t0 need noon w a v xf pf la qf qs qr cf ck co cw sf kn lf ls ef ek gf gs M' so ro rek rgs := by
  have hn := q.G.1
  rcases known (xf := xf) (L := L) P1 hn q.C.1 q.R.1 with ⟨e1, e2⟩ | ⟨i, hi, rfl, e1, e2⟩
  · exact ⟨-101, tf, tk, M, vk, vs, H, by rw [X5_sure, e1]; rfl, by rw [X6_sure, e2]; rfl, f, q⟩
  have hpc : 0 < pc := by have := q.np0; omega
  obtain ⟨tf', tk', h1, z1⟩ := c_sure (N := N) (i := i) (xf := xf) (sf := sf) (tf := tf) (need := need) (co := co) (ls := ls) q.G q.C hN q.lz q.lg8 hpc q.zk f.zt hi
  obtain ⟨M', H', h2, s⟩ := r_sure (N := N) (i := i) (L := L) (H := H) (need := need) (co := co) (ls := ls) q.G q.R hN q.lm q.lg8 hpc q.zk f.zvk q.zso f.zvs hi
  exact ⟨_, tf', tk', M', kn, so, H', h1, h2, f.next z1 f.zus f.zur q.zk q.zso, q.svd s⟩
theorem q_voyages {P1 P2 P3 : Int32} (q : Q t n pc pl st hw np lg t0 need noon w a v xf pf la qf qs qr cf ck co cw sf kn lf ls ef ek gf gs M so ro rek rgs) (f : Fr tk us ur vk vs) (hN : 40 < N) :
    ∃ (x : Int32) (tf' tk' uf' us' ur' M' vk' vs' : Nat → Int32) (L' : Nat → Int64), X5_voyages N xf qf qs qr cf ck co cw sf kn tf tk uf us ur P1 P2 P3 = some (x, tf', tk', uf', us', ur') ∧ X6_voyages N M L so ro ck co cw kn vk vs P1 P2 P3 = some (x, M', L', so, kn, vk', vs') ∧ Fr tk' us' ur' vk' vs' ∧ Q t n pc pl st hw np lg t0 need noon w a v xf pf la qf qs qr cf ck co cw sf kn lf ls ef ek gf gs M' so ro rek rgs := by
  have hn := q.G.1
  have bad : ∀ y : Int32, X5_voyages N xf qf qs qr cf ck co cw sf kn tf tk uf us ur P1 P2 P3 = some (y, tf, tk, uf, us, ur) → X6_voyages N M L so ro ck co cw kn vk vs P1 P2 P3 = some (y, M, L, so, kn, vk, vs) → ∃ (x : Int32) (tf' tk' uf' us' ur' M' vk' vs' : Nat → Int32) (L' : Nat → Int64), X5_voyages N xf qf qs qr cf ck co cw sf kn tf tk uf us ur P1 P2 P3 = some (x, tf', tk', uf', us', ur') ∧ X6_voyages N M L so ro ck co cw kn vk vs P1 P2 P3 = some (x, M', L', so, kn, vk', vs') ∧ Fr tk' us' ur' vk' vs' ∧ Q t n pc pl st hw np lg t0 need noon w a v xf pf la qf qs qr cf ck co cw sf kn lf ls ef ek gf gs M' so ro rek rgs :=
    fun y h1 h2 => ⟨y, tf, tk, uf, us, ur, M, vk, vs, L, h1, h2, f, q⟩
  rcases rng P1 1 20 with ⟨h, e⟩ | ⟨h, h2, h3, e⟩ | ⟨h, h2, h3, e⟩
  · exact bad (-102) (by rw [X5_voyages, if_pos h]) (by rw [X6_voyages, e]; rfl)
  · exact bad (-102) (by rw [X5_voyages, if_neg h, if_pos h2]) (by rw [X6_voyages, e]; rfl)
  by_cases hP2 : P2 < 0
  · exact bad (-102) (by rw [X5_voyages, if_neg h, if_neg h2, if_pos hP2]) (by rw [X6_voyages, e, Option.bind_some, if_neg (show ¬ bz true = 0 by decide), if_pos hP2])
  rcases rng P3 0 2 with ⟨h4, e4⟩ | ⟨h4, h5, h6, e4⟩ | ⟨h4, h5, h6, e4⟩
  · exact bad (-102) (by rw [X5_voyages, if_neg h, if_neg h2, if_neg hP2, if_pos h4]) (by rw [X6_voyages, e, Option.bind_some, if_neg (show ¬ bz true = 0 by decide), if_neg hP2, e4]; rfl)
  · exact bad (-102) (by rw [X5_voyages, if_neg h, if_neg h2, if_neg hP2, if_neg h4, if_neg h6]) (by rw [X6_voyages, e, Option.bind_some, if_neg (show ¬ bz true = 0 by decide), if_neg hP2, e4]; rfl)
  have c1 : ∀ X, X5_voyages N xf qf qs qr cf ck co cw sf kn tf tk uf us ur P1 P2 P3 = X ↔ ((X5_hasPassage xf qf).bind fun u1 => (if (bz u1) = 0 then (some ((-103 : Int32), tf, tk, uf, us, ur)) else (if (cf 3) = 0 then (some ((-103 : Int32), tf, tk, uf, us, ur)) else (X5_voyages_59 N xf qf qs qr cf ck co cw sf kn N tf tk uf us ur P1 P2 P3 (0 : Int32) (0 : Int32) P2 (0 : Int32))))) = X := by
    intro X
    rw [X5_voyages, if_neg h, if_neg h2, if_neg hP2, if_neg h4, if_pos h6]
  have c2 : ∀ X, X6_voyages N M L so ro ck co cw kn vk vs P1 P2 P3 = X ↔ (if (M 0) = 0 then (some ((-103 : Int32), M, L, so, kn, vk, vs)) else (if (M 7) ≤ 0 then (some ((-103 : Int32), M, L, so, kn, vk, vs)) else ((X6_voyagesNow N M L so ro ck co cw kn vk vs P1 P2 P3).bind fun u5 => (some (u5.1, u5.2.1, u5.2.2.1, u5.2.2.2.1, u5.2.2.2.2.1, u5.2.2.2.2.2.1, u5.2.2.2.2.2.2))))) = X := by
    intro X
    rw [X6_voyages, e, Option.bind_some, if_neg (show ¬ bz true = 0 by decide), if_neg hP2, e4, Option.bind_some, if_neg (show ¬ bz true = 0 by decide)]
  rcases q.hasP with ⟨hp, p1, p2⟩ | ⟨hp, p1, p2⟩
  · exact bad (-103) ((c1 _).mpr (by rw [p1]; rfl)) ((c2 _).mpr (by rw [if_pos p2]))
  by_cases h0 : n = 0
  · exact bad (-103) ((c1 _).mpr (by rw [p1, Option.bind_some, if_neg (show ¬ bz true = 0 by decide), q.C.1, if_pos (by rw [i_z (by omega)]; exact h0)])) ((c2 _).mpr (by rw [if_neg p2, q.R.1, if_pos (by rw [i_lez (by omega)]; exact h0)]))
  obtain ⟨s0, hs0, rfl⟩ := nI_of hP2
  have hP1 : ¬ P1 < 0 := fun hx => h (Int32.lt_iff_toInt_lt.mpr (by have := Int32.lt_iff_toInt_lt.mp hx; exact Int.lt_trans this (by decide)))
  obtain ⟨m, hm, rfl⟩ := nI_of2 (n := 20) (by decide) hP1 h3
  obtain ⟨tf', tk', uf', us', ur', g1, z1, z2, z3⟩ := c_voyL (N := N) (P := P3) (P2 := nI s0) (xf := xf) (w := w) (need := need) (co := co) q.G q.C q.wc hN hp hm hs0 q.zk q.zqs q.zqr m 0 N tf tk uf us ur (by omega) (by omega) f.zt f.zus f.zur
  obtain ⟨M', L', g2, s⟩ := r_voy (N := N) (P := P3) (L := L) (w := w) (need := need) (co := co) q.G q.R q.wr hN hp hm hs0 q.zk f.zvk q.zso f.zvs
  refine ⟨vVoy n pc need noon so ro ck co cw kn w s0 m P3, tf', tk', uf', us', ur', M', kn, so, L', (c1 _).mpr ?_, (c2 _).mpr ?_, f.next z1 z2 z3 q.zk q.zso, q.svd s⟩
  · rw [p1, Option.bind_some, if_neg (show ¬ bz true = 0 by decide), q.C.1, if_neg (by rw [i_z (by omega)]; exact h0)]
    exact g1
  · rw [if_neg p2, q.R.1, if_neg (by rw [i_lez (by omega)]; exact h0), g2]; rfl
end Q
