/-! LAYER 2: LISTENER -/
def kF (l j : Nat) : Int32 := if j = l then 9 else 0
def wL (l : Nat) : Nat → Bool := fun j => !decide (j = l)
abbrev sLis (n pc : Nat) (need noon : Int32) (sg rk ck co cw kn : Nat → Int32) (a : Nat → Bool) (pl st hw l : Nat) : (Nat → Bool) × Nat × Nat × Nat := sGo n pc need noon sg rk ck co cw (cpN (kF l) kn n) (wL l) a pl st hw
def lNext (a : Nat → Bool) (K : Nat → Nat) (b : Option Nat) (m : Nat) : Option Nat := bif a m then (match b with | none => some m | some x => if K m < K x then some m else some x) else b
def lFold (a : Nat → Bool) (K : Nat → Nat) : Nat → Nat → Option Nat → Option Nat
  | 0, _, b => b
  | e + 1, m, b => lFold a K e (m + 1) (lNext a K b m)
def lVal : Option Nat → Int32
  | none => -1
  | some x => nI x
def lRk (d : Int32) (K : Nat → Nat) : Option Nat → Int32
  | none => d
  | some x => nI (K x)
theorem lFold_congr {a : Nat → Bool} {K K' : Nat → Nat} (h : ∀ x y, K x < K y ↔ K' x < K' y) : ∀ (e m : Nat) (b : Option Nat), lFold a K e m b = lFold a K' e m b := by
  intro e
  induction e with
  | zero => intro m b; rfl
  | succ e ih =>
    intro m b
    have hn : lNext a K b m = lNext a K' b m := by
      unfold lNext
      cases a m with
      | false => rfl
      | true =>
        cases b with
        | none => rfl
        | some x => simp only [h]
    simp only [lFold, ih, hn]
theorem sRank_lt {n : Nat} {R R' : (Nat → Bool) × Nat × Nat × Nat} (hn : n ≤ 5) : sRank 6 n R < sRank 6 n R' ↔ sRank 1000 n R < sRank 1000 n R' := by
  unfold sRank
  split <;> split <;> omega
theorem sRank_le {c n : Nat} {R : (Nat → Bool) × Nat × Nat × Nat} : sRank c n R ≤ n + c := by
  unfold sRank
  split <;> omega
theorem lNext_lt {a : Nat → Bool} {K : Nat → Nat} {b : Option Nat} {m n : Nat} (hm : m < n) (hb : ∀ x, b = some x → x < n) : ∀ x, lNext a K b m = some x → x < n := by
  intro x
  unfold lNext
  cases a m with
  | false => exact hb x
  | true =>
    cases b with
    | none => intro h; cases h; exact hm
    | some y =>
      show (if K m < K y then some m else some y) = some x → _
      split
      · intro h; cases h; exact hm
      · intro h; cases h; exact hb _ rfl
section L
variable {n pc pl st hw N : Nat} {need noon : Int32} {sg rk ck co cw kn : Nat → Int32} {w a : Nat → Bool}
theorem kL_ok {l : Nat} {f : Nat → Int32} (G : gB n pc sg rk ck cw kn) (h : ∀ j, j < n → f j = kF l j ∨ f j = kn j) : gB n pc sg rk ck cw (cpN f kn n) := by
  refine G.kn (fun j hj => ?_)
  rw [cpN, if_pos hj]
  rcases h j hj with e | e
  · rw [e, kF]
    split
    · exact ⟨9, by omega, rfl⟩
    · exact ⟨0, by omega, rfl⟩
  · rw [e]; exact G.2.2.2.2.2 j hj
theorem c_rankL {l : Nat} {xf qf qs qr cf sf tf tk : Nat → Int32} (G : gB n pc sg rk ck cw kn) (C : cX n pc need noon sg rk qf qs qr cf) (S : cS n w a pl st hw sf) (hpl : pl < pc) (hhw : hw ≤ 3) (hN : 40 < N) (z1 : Zr 5 kn) (z2 : Zr 5 tk) (hl : l < n) :
    ∃ tf' tk' : Nat → Int32, X5_rankWithListener N xf qf qs qr cf ck co cw sf kn tf tk (nI l) = some (nI (sRank 6 n (sLis n pc need noon sg rk ck co cw kn a pl st hw l)), tf', tk') ∧ Zr 5 tk' := by
  have hn := G.1
  have G1 : gB n pc sg rk ck cw (cpN (kF l) kn n) := kL_ok G (fun j _ => Or.inl rfl)
  have S1 : cS n (wL l) a pl st hw (upd (upd (upd (upd (upd (upd tf 1 (sf 1)) 2 (sf 2)) 3 (sf 3)) 4 (sf 4)) 5 (sf 5)) 1 (sf 2 &&& (((1 : Int32) <<< (nI l &&& 31)) ^^^ (-1 : Int32)))) := by
    refine (c_trial (tf := tf) S).wax (fun j hj ha => ?_)
    rw [b_and, b_not _ (by omega), b_one (by omega) (by omega), S.1 j (by omega), decide_eq_true hj, ha, wL]; rfl
  obtain ⟨t1, h1, S2⟩ := cGo (N := N) (need := need) (co := co) G1 C S1 hpl hhw hN
  have h3 := (sRun_ok (n := n) (need := need) (noon := noon) (sg := sg) (rk := rk) (ck := ck) (co := co) (cw := cw) (kn := cpN (kF l) kn n) (w := wL l) 30 a pl st hw hpl hhw).2.1
  refine ⟨t1, cpN (kF l) kn n, ?_, Zr_cpN z1 hn⟩
  rw [X5_rankWithListener, e_copy z1 z2, Option.bind_some]
  have hg := lr (fun k (z : (Nat → Int32) × Int32) => X5_rankWithListener_33 N xf qf qs qr cf ck co cw sf kn k (upd (upd (upd (upd (upd (upd tf 1 (sf 1)) 2 (sf 2)) 3 (sf 3)) 4 (sf 4)) 5 (sf 5)) 1 (sf 2 &&& (((1 : Int32) <<< (nI l &&& 31)) ^^^ (-1 : Int32)))) z.1 (nI l) z.2) (fun i => (cpN (kF l) kn i, nI i)) n (some (nI (sRank 6 n (sLis n pc need noon sg rk ck co cw kn a pl st hw l)), t1, cpN (kF l) kn n)) (fun k i hi => by
      show X5_rankWithListener_33 N xf qf qs qr cf ck co cw sf kn (k + 1) _ (cpN (kF l) kn i) (nI l) (nI i) = X5_rankWithListener_33 N xf qf qs qr cf ck co cw sf kn k _ (cpN (kF l) kn (i + 1)) (nI l) (nI (i + 1))
      rw [X5_rankWithListener_33, C.1, if_neg (by rw [i_le (by omega) (by omega)]; omega), e_setKnots (by omega), e_setKnots (by omega), Option.bind_some, Option.bind_some, ← cpN_s (kF l) kn i, kF, nI_1]
      by_cases hil : i = l
      · rw [if_pos (by rw [hil]), if_pos hil]
      · rw [if_neg (by rw [i_eq (by omega) (by omega)]; exact hil), if_neg hil])
    (fun k => by
      show X5_rankWithListener_33 N xf qf qs qr cf ck co cw sf kn (k + 1) _ (cpN (kF l) kn n) (nI l) (nI n) = _
      rw [X5_rankWithListener_33, C.1, if_pos (by rw [i_le (by omega) (by omega)]; omega), h1, Option.bind_some, e_rank hn C.1 S2 h3, Option.bind_some]) N (by omega)
  rw [cpN_0] at hg
  exact hg
theorem c_listen {xf qf qs qr cf sf : Nat → Int32} (G : gB n pc sg rk ck cw kn) (C : cX n pc need noon sg rk qf qs qr cf) (S : cS n w a pl st hw sf) (hpl : pl < pc) (hhw : hw ≤ 3) (hN : 40 < N) (z1 : Zr 5 kn) :
    ∀ (e m k : Nat) (tf tk : Nat → Int32) (b : Option Nat), m + e = n → e < k → Zr 5 tk → (∀ x, b = some x → x < n) → ∃ tf' tk' : Nat → Int32, X5_listener_16 N xf qf qs qr cf ck co cw sf kn k tf tk (lVal b) (lRk 0 (fun l => sRank 6 n (sLis n pc need noon sg rk ck co cw kn a pl st hw l)) b) (nI m) = some (lVal (lFold a (fun l => sRank 6 n (sLis n pc need noon sg rk ck co cw kn a pl st hw l)) e m b), tf', tk') ∧ Zr 5 tk' := by
  have hn := G.1
  intro e
  induction e with
  | zero =>
    intro m k tf tk b hm hk z2 hb
    obtain ⟨k, rfl⟩ : ∃ q, k = q + 1 := ⟨k - 1, by omega⟩
    exact ⟨tf, tk, by rw [X5_listener_16, C.1, if_pos (by rw [i_le (by omega) (by omega)]; omega)]; rfl, z2⟩
  | succ e ih =>
    intro m k tf tk b hm hk z2 hb
    obtain ⟨k, rfl⟩ : ∃ q, k = q + 1 := ⟨k - 1, by omega⟩
    obtain ⟨t1, k1, h1, z3⟩ := c_rankL (N := N) (xf := xf) (tf := tf) (co := co) G C S hpl hhw hN z1 z2 (show m < n by omega)
    rw [X5_listener_16, C.1, if_neg (by rw [i_le (by omega) (by omega)]; omega), e_isAboard (by omega), Option.bind_some, S.1 m (by omega), decide_eq_true (by omega), Bool.true_and, nI_1]
    simp only [lFold]
    cases ha : a m with
    | false =>
      have hnx : lNext a (fun l => sRank 6 n (sLis n pc need noon sg rk ck co cw kn a pl st hw l)) b m = b := by unfold lNext; rw [ha]; rfl
      rw [hnx, if_pos (show bz false = 0 from rfl)]
      exact ih (m + 1) k tf tk b (by omega) (by omega) z2 hb
    | true =>
      rw [if_neg (by decide), h1, Option.bind_some]
      have hnx := lNext_lt (a := a) (K := fun l => sRank 6 n (sLis n pc need noon sg rk ck co cw kn a pl st hw l)) (show m < n by omega) hb
      obtain ⟨tf', tk', h4, z4⟩ := ih (m + 1) k t1 k1 _ (by omega) (by omega) z3 hnx
      refine ⟨tf', tk', ?_, z4⟩
      rw [← h4]
      cases b with
      | none =>
        have e1 : lNext a (fun l => sRank 6 n (sLis n pc need noon sg rk ck co cw kn a pl st hw l)) none m = some m := by unfold lNext; rw [ha]; rfl
        rw [e1, if_pos (show lVal none = -1 from rfl)]
        rfl
      | some x =>
        have e1 : lNext a (fun l => sRank 6 n (sLis n pc need noon sg rk ck co cw kn a pl st hw l)) (some x) m = (if sRank 6 n (sLis n pc need noon sg rk ck co cw kn a pl st hw m) < sRank 6 n (sLis n pc need noon sg rk ck co cw kn a pl st hw x) then some m else some x) := by unfold lNext; rw [ha]; rfl
        have hx := hb x rfl
        have q1 := sRank_le (c := 6) (n := n) (R := sLis n pc need noon sg rk ck co cw kn a pl st hw m)
        have q2 := sRank_le (c := 6) (n := n) (R := sLis n pc need noon sg rk ck co cw kn a pl st hw x)
        rw [e1, if_neg (show ¬ lVal (some x) = -1 from fun q => i_nlt0 (i := x) (by omega) (by rw [show nI x = lVal (some x) from rfl, q]; decide))]
        show (if nI (sRank 6 n (sLis n pc need noon sg rk ck co cw kn a pl st hw x)) ≤ nI (sRank 6 n (sLis n pc need noon sg rk ck co cw kn a pl st hw m)) then _ else _) = _
        by_cases hlt : sRank 6 n (sLis n pc need noon sg rk ck co cw kn a pl st hw m) < sRank 6 n (sLis n pc need noon sg rk ck co cw kn a pl st hw x)
        · rw [if_pos hlt, if_neg (by rw [i_le (by omega) (by omega)]; omega)]; rfl
        · rw [if_neg hlt, if_pos (by rw [i_le (by omega) (by omega)]; omega)]
theorem r_listen {M so ro : Nat → Int32} {L : Nat → Int64} (G : gB n pc sg rk ck cw kn) (C : rX n pc need noon sg rk M so ro) (S : rS n w a pl st hw M) (hpl : pl < pc) (hhw : hw ≤ 3) (hN : 40 < N) (z1 : Zr 5 kn) (z3 : Zr 12 so) (hab : ∀ j, n ≤ j → a j = false) :
    ∀ (e m k : Nat) (M1 : Nat → Int32) (b : Option Nat), m + e = n → e < k → svd M M1 → (∀ x, b = some x → x < n) → ∃ M' : Nat → Int32, X6_listenerNow_12 N L ro ck co cw k M1 so kn kn so (lVal b) (lRk 2000 (fun l => sRank 1000 n (sLis n pc need noon sg rk ck co cw kn a pl st hw l)) b) (nI m) = some (lVal (lFold a (fun l => sRank 1000 n (sLis n pc need noon sg rk ck co cw kn a pl st hw l)) e m b), M', so, kn, kn, so) ∧ svd M M' := by
  have hn := G.1
  intro e
  induction e with
  | zero =>
    intro m k M1 b hm hk s1 hb
    obtain ⟨k, rfl⟩ : ∃ q, k = q + 1 := ⟨k - 1, by omega⟩
    exact ⟨M1, by rw [X6_listenerNow_12, (s1.rX C).1, if_pos (by rw [i_le (by omega) (by omega)]; omega)]; rfl, s1⟩
  | succ e ih =>
    intro m k M1 b hm hk s1 hb
    obtain ⟨k, rfl⟩ : ∃ q, k = q + 1 := ⟨k - 1, by omega⟩
    have C1 := s1.rX C
    have S1 := s1.rS S
    rw [X6_listenerNow_12, C1.1, if_neg (by rw [i_le (by omega) (by omega)]; omega), e_has (by omega), Option.bind_some, S1.1 m (by omega), decide_eq_true (by omega), Bool.true_and]
    simp only [lFold]
    cases ha : a m with
    | false =>
      have hnx : lNext a (fun l => sRank 1000 n (sLis n pc need noon sg rk ck co cw kn a pl st hw l)) b m = b := by unfold lNext; rw [ha]; rfl
      rw [hnx, if_neg (by decide), nI_1]
      exact ih (m + 1) k M1 b (by omega) (by omega) s1 hb
    | true =>
      rw [if_pos (show bz (!true) = 0 from rfl)]
      obtain ⟨KK, hKK⟩ : ∃ z, z = X6_listenerNow_12 N L ro ck co cw k := ⟨_, rfl⟩
      rw [← hKK]
      obtain ⟨rF, hrF⟩ : ∃ z : Nat → Int32, z = fun j => bif a j then kF m j else kn j := ⟨_, rfl⟩
      have G1 : gB n pc sg rk ck cw (cpN rF kn n) := kL_ok (l := m) G (fun j _ => by
        rw [hrF]
        show (bif a j then kF m j else kn j) = kF m j ∨ (bif a j then kF m j else kn j) = kn j
        cases a j with
        | true => exact Or.inl rfl
        | false => exact Or.inr rfl)
      -- the reference's trial
      obtain ⟨x, hx⟩ : ∃ z, z = ((M1 29 &&& M1 13) ||| ((nI (2 ^ n - 1) &&& (M1 13 ^^^ (-1 : Int32))) &&& (((1 : Int32) <<< (nI m &&& 31)) ^^^ (-1 : Int32)))) := ⟨_, rfl⟩
      have S2 : rS n (wL m) a pl st hw (upd M1 12 x) := by
        refine S1.wax (fun j hj haj => ?_)
        rw [hx, b_or, b_and, b_and, b_and, b_not _ (by omega), b_not _ (by omega), b_one (by omega) (by omega), b_full hn (by omega), S1.1 j (by omega), decide_eq_true hj, haj, wL]
        simp
      have C2 : rX n pc need noon sg rk (upd M1 12 x) so ro := C1.at (fun i hi => ud_n _ _ (by omega))
      obtain ⟨M2, h2, S3, K2⟩ := rGo (N := N) (L := L) (need := need) (co := co) G1 C2 S2 hpl hhw hN
      obtain ⟨M3, h3, s3⟩ := svd.back (N := N) (L := L) s1 (M3 := M2) (so3 := so) (kn3 := cpN rF kn n) (fun q hq => by rw [K2 q (by omega) (by omega) (by omega) (by omega) (by omega), ud_n _ _ (by omega)]) z1 (Zr_cpN z1 hn) z3 z3 hN
      have hRR : sGo n pc need noon sg rk ck co cw (cpN rF kn n) (wL m) a pl st hw = sLis n pc need noon sg rk ck co cw kn a pl st hw m := by
        refine sRun_kn 30 a pl st hw (fun j haj => ?_)
        rcases Nat.lt_or_ge j n with hj | hj
        · rw [cpN, cpN, if_pos hj, if_pos hj, hrF]
          show (bif a j then kF m j else kn j) = kF m j
          rw [haj]; rfl
        · rw [hab j hj] at haj; cases haj
      rw [hRR] at S3
      have hle3 := (sRun_ok (n := n) (need := need) (noon := noon) (sg := sg) (rk := rk) (ck := ck) (co := co) (cw := cw) (kn := cpN (kF m) kn n) (w := wL m) 30 a pl st hw hpl hhw).2.1
      have hbad := e_bad (N := N) (L := L) hn hN S3 hle3
      have q1 := sRank_le (c := 1000) (n := n) (R := sLis n pc need noon sg rk ck co cw kn a pl st hw m)
      have hin := lr (fun q (z : (Nat → Int32) × Int32) => X6_listenerNow_34 N L ro ck co cw KK q M1 so z.1 kn so (lVal b) (lRk 2000 (fun l => sRank 1000 n (sLis n pc need noon sg rk ck co cw kn a pl st hw l)) b) (nI m) z.2) (fun i => (cpN rF kn i, nI i)) n
        (if lRk 2000 (fun l => sRank 1000 n (sLis n pc need noon sg rk ck co cw kn a pl st hw l)) b ≤ nI (sRank 1000 n (sLis n pc need noon sg rk ck co cw kn a pl st hw m)) then KK M3 so kn kn so (lVal b) (lRk 2000 (fun l => sRank 1000 n (sLis n pc need noon sg rk ck co cw kn a pl st hw l)) b) (nI m + 1) else KK M3 so kn kn so (nI m) (nI (sRank 1000 n (sLis n pc need noon sg rk ck co cw kn a pl st hw m))) (nI m + 1)) (fun q i hi => by
          show X6_listenerNow_34 N L ro ck co cw KK (q + 1) M1 so (cpN rF kn i) kn so _ _ (nI m) (nI i) = X6_listenerNow_34 N L ro ck co cw KK q M1 so (cpN rF kn (i + 1)) kn so _ _ (nI m) (nI (i + 1))
          have hci : cpN rF kn i i = kn i := by rw [cpN, if_neg (by omega)]
          rw [X6_listenerNow_34, C1.1, if_neg (by rw [i_le (by omega) (by omega)]; omega), e_has (by omega), Option.bind_some, S1.1 i (by omega), decide_eq_true hi, Bool.true_and]
          simp only [if_pos (xin_nI (show i < 5 by omega) (by omega)), nI_clamp (show i < 2 ^ 31 by omega), hci]
          rw [← cpN_s rF kn i, hrF, nI_1]
          show _ = X6_listenerNow_34 N L ro ck co cw KK q M1 so (upd (cpN (fun j => bif a j then kF m j else kn j) kn i) i (bif a i then kF m i else kn i)) kn so _ _ (nI m) (nI (i + 1))
          cases a i with
          | true =>
            rw [if_pos (show bz (!true) = 0 from rfl), cond_true, kF]
            by_cases him : i = m
            · rw [if_pos (by rw [him]), if_pos him]
            · rw [if_neg (by rw [i_eq (by omega) (by omega)]; exact him), if_neg him]
          | false => rw [if_neg (by decide), cond_false])
        (fun q => by
          show X6_listenerNow_34 N L ro ck co cw KK (q + 1) M1 so (cpN rF kn n) kn so _ _ (nI m) (nI n) = _
          rw [X6_listenerNow_34, C1.1, if_pos (by rw [i_le (by omega) (by omega)]; omega), e_everybody hn C1.1, Option.bind_some, ← hx, h2, Option.bind_some, hbad]
          simp only [Option.bind_some, h3]
          split
          · rfl
          · rfl) N (by omega)
      rw [cpN_0] at hin
      have hin2 : X6_listenerNow_34 N L ro ck co cw KK N M1 so kn kn so (lVal b) (lRk 2000 (fun l => sRank 1000 n (sLis n pc need noon sg rk ck co cw kn a pl st hw l)) b) (nI m) 0 = _ := hin
      rw [hin2]
      have hnx := lNext_lt (a := a) (K := fun l => sRank 1000 n (sLis n pc need noon sg rk ck co cw kn a pl st hw l)) (show m < n by omega) hb
      obtain ⟨M', h4, s4⟩ := ih (m + 1) k M3 _ (by omega) (by omega) s3 hnx
      refine ⟨M', ?_, s4⟩
      rw [← h4, hKK, nI_1]
      cases b with
      | none =>
        have e1 : lNext a (fun l => sRank 1000 n (sLis n pc need noon sg rk ck co cw kn a pl st hw l)) none m = some m := by unfold lNext; rw [ha]; rfl
        rw [e1]
        show (if nI 2000 ≤ _ then _ else _) = _
        rw [if_neg (by rw [i_le (by omega) (by omega)]; omega)]
        rfl
      | some y =>
        have e1 : lNext a (fun l => sRank 1000 n (sLis n pc need noon sg rk ck co cw kn a pl st hw l)) (some y) m = (if sRank 1000 n (sLis n pc need noon sg rk ck co cw kn a pl st hw m) < sRank 1000 n (sLis n pc need noon sg rk ck co cw kn a pl st hw y) then some m else some y) := by unfold lNext; rw [ha]; rfl
        have q2 := sRank_le (c := 1000) (n := n) (R := sLis n pc need noon sg rk ck co cw kn a pl st hw y)
        rw [e1]
        show (if nI (sRank 1000 n (sLis n pc need noon sg rk ck co cw kn a pl st hw y)) ≤ nI (sRank 1000 n (sLis n pc need noon sg rk ck co cw kn a pl st hw m)) then _ else _) = _
        by_cases hlt : sRank 1000 n (sLis n pc need noon sg rk ck co cw kn a pl st hw m) < sRank 1000 n (sLis n pc need noon sg rk ck co cw kn a pl st hw y)
        · rw [if_pos hlt, if_neg (by rw [i_le (by omega) (by omega)]; omega)]; rfl
        · rw [if_neg hlt, if_pos (by rw [i_le (by omega) (by omega)]; omega)]
end L
