/-! LAYER 2: FITS and SURE -/
def a0 (n : Nat) : Nat → Bool := fun j => decide (j < n)
def sFit (n pc : Nat) (need noon : Int32) (sg rk ck co cw kn ls : Nat → Int32) (w : Nat → Bool) : Nat → Nat → (Nat → Bool) → Nat → Nat → Nat → Bool
  | 0, _, _, _, _, _ => true
  | e + 1, i, a, pl, st, hw => if hw = 0 then decide (mk (sSwim noon sg ck cw kn w a pl st) n = ls i) && sFit n pc need noon sg rk ck co cw kn ls w e (i + 1) (sRow n pc need noon sg rk ck co cw kn w a pl st).1 (sRow n pc need noon sg rk ck co cw kn w a pl st).2.1 (st + 1) (sRow n pc need noon sg rk ck co cw kn w a pl st).2.2 else decide ((0 : Int32) = ls i) && sFit n pc need noon sg rk ck co cw kn ls w e (i + 1) a pl st hw
abbrev sFits (n pc : Nat) (need noon : Int32) (sg rk ck co cw kn ls : Nat → Int32) (lg s : Nat) : Bool := sFit n pc need noon sg rk ck co cw kn ls (wS s) lg 0 (a0 n) 0 0 0
section F
variable {n pc N lg : Nat} {need noon : Int32} {sg rk ck co cw kn ls : Nat → Int32} {w : Nat → Bool}
theorem c_fitL {P1 : Int32} {xf qf qs qr cf sf sk lf : Nat → Int32} (G : gB n pc sg rk ck cw kn) (C : cX n pc need noon sg rk qf qs qr cf) (hN : 40 < N) (hlf : lf 1 = nI lg) (hlg : lg ≤ 8) :
    ∀ (e i k : Nat) (tf : Nat → Int32) (a : Nat → Bool) (pl st hw : Nat), i + e = lg → e < k → cS n w a pl st hw tf → pl < pc → hw ≤ 3 → ∃ tf' : Nat → Int32, X5_isFitting_35 N xf qf qs qr cf ck co cw sf sk lf ls k tf kn P1 (nI i) = some (sFit n pc need noon sg rk ck co cw kn ls w e i a pl st hw, tf', kn) := by
  intro e
  induction e with
  | zero =>
    intro i k tf a pl st hw hi hk S hpl hhw
    obtain ⟨k, rfl⟩ : ∃ q, k = q + 1 := ⟨k - 1, by omega⟩
    exact ⟨tf, by rw [X5_isFitting_35, hlf, if_pos (by rw [i_le (by omega) (by omega)]; omega)]; rfl⟩
  | succ e ih =>
    intro i k tf a pl st hw hi hk S hpl hhw
    obtain ⟨k, rfl⟩ : ∃ q, k = q + 1 := ⟨k - 1, by omega⟩
    rw [X5_isFitting_35, hlf, if_neg (by rw [i_le (by omega) (by omega)]; omega), S.2.2.2.2, e_setAt (by omega), nI_1]
    simp only [sFit]
    by_cases h0 : hw = 0
    · subst h0
      obtain ⟨t1, h1, S1⟩ := cRow (N := N) (need := need) (co := co) G.x C S hpl (by omega)
      obtain ⟨r1, r2, r3⟩ := sRow_ok (n := n) (need := need) (noon := noon) (sg := sg) (rk := rk) (ck := ck) (co := co) (cw := cw) (kn := kn) (w := w) (a := a) (st := st) hpl
      rw [if_pos nI_0, if_pos rfl, h1, Option.bind_some, Option.bind_some]
      by_cases h2 : mk (sSwim noon sg ck cw kn w a pl st) n = ls i
      · rw [if_pos h2, decide_eq_true h2, Bool.true_and]
        exact ih (i + 1) k t1 _ _ (st + 1) _ (by omega) (by omega) S1 r1 r2
      · rw [if_neg h2, decide_eq_false h2, Bool.false_and]
        exact ⟨t1, rfl⟩
    · rw [if_neg (by rw [show (0 : Int32) = nI 0 from rfl, i_eq (by omega) (by omega)]; exact h0), if_neg h0, Option.bind_some]
      by_cases h2 : (0 : Int32) = ls i
      · rw [if_pos h2, decide_eq_true h2, Bool.true_and]
        exact ih (i + 1) k tf _ _ st _ (by omega) (by omega) S hpl hhw
      · rw [if_neg h2, decide_eq_false h2, Bool.false_and]
        exact ⟨tf, rfl⟩
theorem e_startWith {tf : Nat → Int32} {x : Int32} {v : Nat → Bool} (hn : n ≤ 5) (hv : ∀ j, j < n → bt x j = v j) : ∃ t1 : Nat → Int32, X4_startWith tf (nI (2 ^ n - 1)) = some t1 ∧ cS n v (a0 n) 0 0 0 (upd t1 1 x) ∧ (∀ i, i < 2 → t1 i = tf i) := by
  refine ⟨_, rfl, ⟨fun j hj => ?_, fun j hj _ => ?_, ?_, ?_, ?_⟩, fun i hi => ?_⟩
  · rw [ud_n _ _ (by decide), ud_n _ _ (by decide), ud_n _ _ (by decide), ud_n _ _ (by decide), ud_s, b_full hn hj, a0]; simp
  · rw [ud_s]; exact hv j hj
  · rw [ud_n _ _ (by decide), ud_n _ _ (by decide), ud_n _ _ (by decide), ud_s]; rfl
  · rw [ud_n _ _ (by decide), ud_n _ _ (by decide), ud_s]; rfl
  · rw [ud_n _ _ (by decide), ud_s]; rfl
  · rw [ud_n _ _ (by omega), ud_n _ _ (by omega), ud_n _ _ (by omega), ud_n _ _ (by omega)]
theorem e_everyone {cf : Nat → Int32} (hn : n ≤ 5) (hcf : cf 3 = nI n) : X0_everyone cf = some (nI (2 ^ n - 1)) := by rw [X0_everyone, hcf, i_all hn]
theorem c_isFit {s : Nat} {xf qf qs qr cf sf lf tf tk : Nat → Int32} (G : gB n pc sg rk ck cw kn) (C : cX n pc need noon sg rk qf qs qr cf) (hN : 40 < N) (hlf : lf 1 = nI lg) (hlg : lg ≤ 8) (hpc : 0 < pc) (z1 : Zr 5 kn) (z2 : Zr 5 tk) :
    ∃ tf' : Nat → Int32, X5_isFitting N xf qf qs qr cf ck co cw sf kn lf ls tf tk (nI s) = some (sFits n pc need noon sg rk ck co cw kn ls lg s, tf', kn) := by
  rw [X5_isFitting, e_copy z1 z2, Option.bind_some, e_everyone G.1 C.1, Option.bind_some]
  obtain ⟨t1, h1, S1, -⟩ := e_startWith (n := n) (tf := upd (upd (upd (upd (upd tf 1 (sf 1)) 2 (sf 2)) 3 (sf 3)) 4 (sf 4)) 5 (sf 5)) (x := nI s) (v := wS s) G.1 (fun j _ => rfl)
  rw [h1, Option.bind_some]
  exact c_fitL (N := N) (w := wS s) (co := co) G C hN hlf hlg lg 0 N _ (a0 n) 0 0 0 (by omega) (by omega) S1 hpc (by omega)
theorem cnt_mono {q r : Nat → Bool} (h : ∀ j, q j = true → r j = true) (n : Nat) : cnt q n ≤ cnt r n := (cnt_sub (n := n) h).1
theorem c_fitsWith {asked : Int32} {xf qf qs qr cf sf lf : Nat → Int32} (G : gB n pc sg rk ck cw kn) (C : cX n pc need noon sg rk qf qs qr cf) (hN : 40 < N) (hlf : lf 1 = nI lg) (hlg : lg ≤ 8) (hpc : 0 < pc) (z1 : Zr 5 kn) :
    ∀ (e s k : Nat) (tf tk : Nat → Int32), s + e = 2 ^ n → e < k → Zr 5 tk → ∃ tf' tk' : Nat → Int32, X5_fittingSetsWith_4 N xf qf qs qr cf ck co cw sf kn lf ls k tf tk asked (nI (cnt (fun t => decide ((nI t &&& asked) = asked) && sFits n pc need noon sg rk ck co cw kn ls lg t) s)) (nI s) = some (nI (cnt (fun t => decide ((nI t &&& asked) = asked) && sFits n pc need noon sg rk ck co cw kn ls lg t) (2 ^ n)), tf', tk') ∧ Zr 5 tk' := by
  have hn := G.1
  have h2n := pow5 hn
  intro e
  induction e with
  | zero =>
    intro s k tf tk hs hk z2
    obtain ⟨k, rfl⟩ : ∃ q, k = q + 1 := ⟨k - 1, by omega⟩
    obtain rfl : s = 2 ^ n := by omega
    exact ⟨tf, tk, by rw [X5_fittingSetsWith_4, e_everyone hn C.1, Option.bind_some, if_pos (by rw [i_lt (by omega) (by omega)]; omega)], z2⟩
  | succ e ih =>
    intro s k tf tk hs hk z2
    obtain ⟨k, rfl⟩ : ∃ q, k = q + 1 := ⟨k - 1, by omega⟩
    rw [X5_fittingSetsWith_4, e_everyone hn C.1, Option.bind_some, if_neg (by rw [i_lt (by omega) (by omega)]; omega), nI_1]
    by_cases h1 : (nI s &&& asked) = asked
    · obtain ⟨t1, h2⟩ := c_isFit (s := s) (N := N) (xf := xf) (sf := sf) (tf := tf) (co := co) (ls := ls) G C hN hlf hlg hpc z1 z2
      rw [if_pos h1, h2, Option.bind_some]
      obtain ⟨tf', tk', h3, z3⟩ := ih (s + 1) k t1 kn (by omega) (by omega) z1
      refine ⟨tf', tk', ?_, z3⟩
      rw [← h3]
      simp only [cnt, decide_eq_true h1, Bool.true_and]
      cases hq : sFits n pc need noon sg rk ck co cw kn ls lg s with
      | false => rw [if_pos (show bz false = 0 from rfl)]; rfl
      | true => rw [if_neg (by decide), nI_1]; rfl
    · rw [if_neg h1]
      obtain ⟨tf', tk', h3, z3⟩ := ih (s + 1) k tf tk (by omega) (by omega) z2
      refine ⟨tf', tk', ?_, z3⟩
      rw [← h3]
      simp only [cnt, decide_eq_false h1, Bool.false_and]
      rfl
-- ===== the reference =====
theorem svd17 {M0 M1 M3 : Nat → Int32} (h : ∀ i, (i < 12 ∨ 17 < i) → M3 i = M1 i) : (∀ i, (i < 12 ∨ 17 < i) → (upd M3 17 0) i = M1 i) := fun i hi => by rw [ud_n _ _ (by omega)]; exact h i hi
theorem r_fitL {P1 : Int32} {M0 M1 so ro : Nat → Int32} {L : Nat → Int64} (G : gB n pc sg rk ck cw kn) (C1 : rX n pc need noon sg rk M1 so ro) (s1 : svd M0 M1) (hN : 40 < N) (hlf : M1 18 = nI lg) (hlg : lg ≤ 8) (z1 : Zr 5 kn) (z3 : Zr 12 so) :
    ∀ (e i k : Nat) (M : Nat → Int32) (b : Bool) (a : Nat → Bool) (pl st hw : Nat), i + e = lg → e < k → (∀ i, (i < 12 ∨ 17 < i) → M i = M1 i) → rS n w a pl st hw M → pl < pc → hw ≤ 3 → ∃ M' : Nat → Int32, X6_isLoggedSo_13 N L ro ck co cw ls kn so k M so kn P1 b (nI i) = some (b && sFit n pc need noon sg rk ck co cw kn ls w e i a pl st hw, M', so, kn) ∧ svd M0 M' := by
  intro e
  induction e with
  | zero =>
    intro i k M b a pl st hw hi hk hM S hpl hhw
    obtain ⟨k, rfl⟩ : ∃ q, k = q + 1 := ⟨k - 1, by omega⟩
    obtain ⟨M3, h3, s3⟩ := svd.back (N := N) (L := L) s1 (M3 := M) hM z1 z1 z3 z3 hN
    exact ⟨M3, by rw [X6_isLoggedSo_13, hM 18 (by omega), hlf, if_pos (by rw [i_le (by omega) (by omega)]; omega), h3, Option.bind_some]; simp only [sFit, Bool.and_true], s3⟩
  | succ e ih =>
    intro i k M b a pl st hw hi hk hM S hpl hhw
    obtain ⟨k, rfl⟩ : ∃ q, k = q + 1 := ⟨k - 1, by omega⟩
    have hV : ∀ i, (i < 12 ∨ 17 < i) → (upd M 17 0) i = M1 i := svd17 (M0 := M0) hM
    have SV : rS n w a pl st hw (upd M 17 0) := by
      obtain ⟨s1, s2, s3, s4, s5⟩ := S
      exact ⟨fun j hj => by rw [ud_n _ _ (by decide)]; exact s1 j hj, fun j hj ha => by rw [ud_n _ _ (by decide)]; exact s2 j hj ha, by rw [ud_n _ _ (by decide), s3], by rw [ud_n _ _ (by decide), s4], by rw [ud_n _ _ (by decide), s5]⟩
    have CV : rX n pc need noon sg rk (upd M 17 0) so ro := C1.at (fun i hi => hV i (by omega))
    rw [X6_isLoggedSo_13, hM 18 (by omega), hlf, if_neg (by rw [i_le (by omega) (by omega)]; omega), SV.2.2.2.2, nI_1]
    simp only [if_pos (xin_nI (show i < 8 by omega) (by omega)), nI_clamp (show i < 2 ^ 31 by omega), sFit]
    by_cases h0 : hw = 0
    · subst h0
      obtain ⟨M2, h2, hsw, S2, K2⟩ := rRow (N := N) (L := L) (need := need) (co := co) G.x CV SV hpl (by omega)
      obtain ⟨r1, r2, r3⟩ := sRow_ok (n := n) (need := need) (noon := noon) (sg := sg) (rk := rk) (ck := ck) (co := co) (cw := cw) (kn := kn) (w := w) (a := a) (st := st) hpl
      have hM2 : ∀ i, (i < 12 ∨ 17 < i) → M2 i = M1 i := fun i hi => by rw [K2 i (by omega) (by omega) (by omega) (by omega) (by omega)]; exact hV i hi
      rw [if_pos nI_0, if_pos rfl, h2, Option.bind_some, hsw]
      cases b with
      | false =>
        rw [if_pos (show bz false = 0 from rfl), Bool.false_and]
        exact ih (i + 1) k M2 false _ _ (st + 1) _ (by omega) (by omega) hM2 S2 r1 r2
      | true =>
        rw [if_neg (by decide), Bool.true_and]
        by_cases h5 : mk (sSwim noon sg ck cw kn w a pl st) n = ls i
        · rw [if_pos h5, decide_eq_true h5]
          exact ih (i + 1) k M2 true _ _ (st + 1) _ (by omega) (by omega) hM2 S2 r1 r2
        · rw [if_neg h5, decide_eq_false h5]
          exact ih (i + 1) k M2 false _ _ (st + 1) _ (by omega) (by omega) hM2 S2 r1 r2
    · rw [if_neg (by rw [show (0 : Int32) = nI 0 from rfl, i_eq (by omega) (by omega)]; exact h0), if_neg h0]
      cases b with
      | false =>
        rw [if_pos (show bz false = 0 from rfl), Bool.false_and]
        exact ih (i + 1) k (upd M 17 0) false a pl st hw (by omega) (by omega) hV SV hpl hhw
      | true =>
        rw [if_neg (by decide), Bool.true_and]
        by_cases h5 : (0 : Int32) = ls i
        · rw [if_pos h5, decide_eq_true h5]
          exact ih (i + 1) k (upd M 17 0) true a pl st hw (by omega) (by omega) hV SV hpl hhw
        · rw [if_neg h5, decide_eq_false h5]
          exact ih (i + 1) k (upd M 17 0) false a pl st hw (by omega) (by omega) hV SV hpl hhw
theorem e_begin {M : Nat → Int32} {L : Nat → Int64} {x : Int32} {v : Nat → Bool} (hn : n ≤ 5) (hv : ∀ j, j < n → bt x j = v j) : ∃ M2 : Nat → Int32, X6_begin M L = some M2 ∧ rS n v (a0 n) 0 0 0 (upd M2 12 x) ∧ (∀ i, (i < 13 ∨ 16 < i) → M2 i = M i) ∧ M2 13 = 0 := by
  refine ⟨_, rfl, ⟨fun j hj => ?_, fun j hj _ => ?_, ?_, ?_, ?_⟩, fun i hi => ?_, ?_⟩
  · rw [ud_n _ _ (by decide), ud_n _ _ (by decide), ud_n _ _ (by decide), ud_n _ _ (by decide), ud_s, b_0, a0]; simp
  · rw [ud_s]; exact hv j hj
  · rw [ud_n _ _ (by decide), ud_n _ _ (by decide), ud_n _ _ (by decide), ud_s]; rfl
  · rw [ud_n _ _ (by decide), ud_n _ _ (by decide), ud_s]; rfl
  · rw [ud_n _ _ (by decide), ud_s]; rfl
  · rw [ud_n _ _ (by omega), ud_n _ _ (by omega), ud_n _ _ (by omega), ud_n _ _ (by omega)]
  · rw [ud_n _ _ (by decide), ud_n _ _ (by decide), ud_n _ _ (by decide), ud_s]
theorem r_isFit {s : Nat} {M0 M1 so ro : Nat → Int32} {L : Nat → Int64} (G : gB n pc sg rk ck cw kn) (C1 : rX n pc need noon sg rk M1 so ro) (s1 : svd M0 M1) (hN : 40 < N) (hlf : M1 18 = nI lg) (hlg : lg ≤ 8) (hpc : 0 < pc) (z1 : Zr 5 kn) (z3 : Zr 12 so) :
    ∃ M' : Nat → Int32, X6_isLoggedSo N M1 L so ro ck co cw kn ls kn so (nI s) = some (sFits n pc need noon sg rk ck co cw kn ls lg s, M', so, kn) ∧ svd M0 M' := by
  obtain ⟨M2, h2, S2, k2, -⟩ := e_begin (n := n) (M := M1) (L := L) (x := nI s) (v := wS s) G.1 (fun j _ => rfl)
  obtain ⟨M', h3, s3⟩ := r_fitL (N := N) (L := L) (w := wS s) (co := co) (need := need) (ls := ls) (P1 := nI s) G C1 s1 hN hlf hlg z1 z3 lg 0 N (upd M2 12 (nI s)) true (a0 n) 0 0 0 (by omega) (by omega) (fun i hi => by rw [ud_n _ _ (by omega)]; exact k2 i (by omega)) S2 hpc (by omega)
  refine ⟨M', ?_, s3⟩
  rw [X6_isLoggedSo, h2, Option.bind_some]
  refine Eq.trans h3 ?_
  rw [Bool.true_and]
def hd (q : Nat → Bool) (s j : Nat) : Int32 := nI (cnt (fun t => q t && bt (nI t) j) s)
theorem cpN_congr {f g h : Nat → Int32} {n : Nat} (e : ∀ j, j < n → f j = g j) : cpN f h n = cpN g h n := by
  funext j
  by_cases hj : j < n
  · rw [cpN, cpN, if_pos hj, if_pos hj, e j hj]
  · rw [cpN, cpN, if_neg hj, if_neg hj]
theorem cpN_cpN (f g h : Nat → Int32) (n : Nat) : cpN f (cpN g h n) n = cpN f h n := by
  funext j
  by_cases hj : j < n
  · simp only [cpN, if_pos hj]
  · simp only [cpN, if_neg hj]
theorem r_lay {M0 so ro H0 : Nat → Int32} {L : Nat → Int64} (G : gB n pc sg rk ck cw kn) (C : rX n pc need noon sg rk M0 so ro) (hN : 40 < N) (hlf : M0 18 = nI lg) (hlg : lg ≤ 8) (hpc : 0 < pc) (z1 : Zr 5 kn) (z3 : Zr 12 so) :
    ∀ (e s k : Nat) (M1 : Nat → Int32), s + e = 2 ^ n → e < k → svd M0 M1 → ∃ M' : Nat → Int32, X6_layFits_28 N L ro ck co cw ls k M1 so kn kn so (cpN (hd (fun t => sFits n pc need noon sg rk ck co cw kn ls lg t) s) H0 n) (nI (cnt (fun t => sFits n pc need noon sg rk ck co cw kn ls lg t) s)) (nI s) = some (nI (cnt (fun t => sFits n pc need noon sg rk ck co cw kn ls lg t) (2 ^ n)), M', so, kn, kn, so, cpN (hd (fun t => sFits n pc need noon sg rk ck co cw kn ls lg t) (2 ^ n)) H0 n) ∧ svd M0 M' := by
  have hn := G.1
  have h2n := pow5 hn
  intro e
  induction e with
  | zero =>
    intro s k M1 hs hk s1
    obtain ⟨k, rfl⟩ : ∃ q, k = q + 1 := ⟨k - 1, by omega⟩
    obtain rfl : s = 2 ^ n := by omega
    exact ⟨M1, by rw [X6_layFits_28, e_everybody hn (s1.rX C).1, Option.bind_some, if_pos (by rw [i_lt (by omega) (by omega)]; omega)], s1⟩
  | succ e ih =>
    intro s k M1 hs hk s1
    obtain ⟨k, rfl⟩ : ∃ q, k = q + 1 := ⟨k - 1, by omega⟩
    obtain ⟨M2, h2, s2⟩ := r_isFit (s := s) (N := N) (L := L) (co := co) (ls := ls) G (s1.rX C) s1 hN (by rw [s1.1 18 (by decide) (by omega), hlf]) hlg hpc z1 z3
    rw [X6_layFits_28, e_everybody hn (s1.rX C).1, Option.bind_some, if_neg (by rw [i_lt (by omega) (by omega)]; omega), h2, Option.bind_some]
    obtain ⟨M', h3, s3⟩ := ih (s + 1) k M2 (by omega) (by omega) s2
    refine ⟨M', ?_, s3⟩
    cases hq : sFits n pc need noon sg rk ck co cw kn ls lg s with
    | false =>
      rw [if_pos (show bz false = 0 from rfl), ← h3, nI_1]
      have e1 : cnt (fun t => sFits n pc need noon sg rk ck co cw kn ls lg t) (s + 1) = cnt (fun t => sFits n pc need noon sg rk ck co cw kn ls lg t) s := by simp only [cnt, hq]; rfl
      have e2 : cpN (hd (fun t => sFits n pc need noon sg rk ck co cw kn ls lg t) (s + 1)) H0 n = cpN (hd (fun t => sFits n pc need noon sg rk ck co cw kn ls lg t) s) H0 n := cpN_congr (fun j _ => by simp only [hd, cnt, hq, Bool.false_and]; rfl)
      rw [e1, e2]
    | true =>
      rw [if_neg (show ¬ bz true = 0 by decide)]
      obtain ⟨KK, hKK⟩ : ∃ z, z = X6_layFits_28 N L ro ck co cw ls k := ⟨_, rfl⟩
      rw [← hKK]
      have e1 : nI (cnt (fun t => sFits n pc need noon sg rk ck co cw kn ls lg t) s) + 1 = nI (cnt (fun t => sFits n pc need noon sg rk ck co cw kn ls lg t) (s + 1)) := by simp only [cnt, hq, nI_1]; rfl
      rw [e1]
      have hin := lr (fun q (z : (Nat → Int32) × Int32) => X6_layFits_49 N L ro ck co cw ls KK q M2 so kn kn so z.1 (nI (cnt (fun t => sFits n pc need noon sg rk ck co cw kn ls lg t) (s + 1))) (nI s) z.2)
        (fun i => (cpN (hd (fun t => sFits n pc need noon sg rk ck co cw kn ls lg t) (s + 1)) (cpN (hd (fun t => sFits n pc need noon sg rk ck co cw kn ls lg t) s) H0 n) i, nI i)) n
        (KK M2 so kn kn so (cpN (hd (fun t => sFits n pc need noon sg rk ck co cw kn ls lg t) (s + 1)) H0 n) (nI (cnt (fun t => sFits n pc need noon sg rk ck co cw kn ls lg t) (s + 1))) (nI (s + 1))) (fun q i hi => by
          show X6_layFits_49 N L ro ck co cw ls KK (q + 1) M2 so kn kn so _ _ (nI s) (nI i) = X6_layFits_49 N L ro ck co cw ls KK q M2 so kn kn so _ _ (nI s) (nI (i + 1))
          rw [X6_layFits_49, (s2.rX C).1, if_neg (by rw [i_le (by omega) (by omega)]; omega), if_pos (xin_nI (show i < 5 by omega) (by omega)), if_pos (xin_nI (show i < 5 by omega) (by omega)), nI_clamp (by omega), b_bit (by omega), nI_1, ← cpN_s]
          have hv : cpN (hd (fun t => sFits n pc need noon sg rk ck co cw kn ls lg t) (s + 1)) (cpN (hd (fun t => sFits n pc need noon sg rk ck co cw kn ls lg t) s) H0 n) i i + bz (bt (nI s) i) = hd (fun t => sFits n pc need noon sg rk ck co cw kn ls lg t) (s + 1) i := by
            rw [cpN, if_neg (by omega), cpN, if_pos hi]
            simp only [hd, cnt, hq, Bool.true_and]
            cases bt (nI s) i
            · exact nI_add _ 0
            · exact nI_add _ 1
          rw [hv])
        (fun q => by
          show X6_layFits_49 N L ro ck co cw ls KK (q + 1) M2 so kn kn so _ _ (nI s) (nI n) = _
          rw [X6_layFits_49, (s2.rX C).1, if_pos (by rw [i_le (by omega) (by omega)]; omega), nI_1, cpN_cpN]) N (by omega)
      rw [cpN_0] at hin
      rw [← h3, ← hKK]
      exact hin
theorem r_fits {M so ro vk vs H : Nat → Int32} {L : Nat → Int64} (G : gB n pc sg rk ck cw kn) (C : rX n pc need noon sg rk M so ro) (hN : 40 < N) (hlf : M 18 = nI lg) (hlg : lg ≤ 8) (hpc : 0 < pc) (z1 : Zr 5 kn) (z2 : Zr 5 vk) (z3 : Zr 12 so) (z4 : Zr 12 vs) :
    ∃ M' H' : Nat → Int32, X6_layFits N M L so ro ck co cw kn ls vk vs H = some (nI (cnt (fun t => sFits n pc need noon sg rk ck co cw kn ls lg t) (2 ^ n)), M', so, kn, kn, so, H') ∧ svd M M' ∧ ∀ j, j < n → H' j = nI (cnt (fun t => sFits n pc need noon sg rk ck co cw kn ls lg t && bt (nI t) j) (2 ^ n)) := by
  have hn := G.1
  have h2n := pow5 hn
  obtain ⟨M1, h1, s1⟩ := svd.save (M := M) (L := L) z1 z2 z3 z4 hN
  obtain ⟨M', h2, s2⟩ := r_lay (N := N) (L := L) (co := co) (ls := ls) (H0 := cpN (fun _ => 0) H 5) G C hN hlf hlg hpc z1 z3 (2 ^ n) 0 N M1 (by omega) (by omega) s1
  refine ⟨M', cpN (hd (fun t => sFits n pc need noon sg rk ck co cw kn ls lg t) (2 ^ n)) (cpN (fun _ => 0) H 5) n, ?_, s2, fun j hj => by rw [cpN, if_pos hj]; rfl⟩
  rw [X6_layFits]
  have h := lr (fun k (z : (Nat → Int32) × Int32) => X6_layFits_4 N L ro ck co cw ls k M so kn vk vs z.1 0 z.2) (fun i => (cpN (fun _ => 0) H i, nI i)) 5 (some (nI (cnt (fun t => sFits n pc need noon sg rk ck co cw kn ls lg t) (2 ^ n)), M', so, kn, kn, so, cpN (hd (fun t => sFits n pc need noon sg rk ck co cw kn ls lg t) (2 ^ n)) (cpN (fun _ => 0) H 5) n)) (fun k i hi => by
      show X6_layFits_4 N L ro ck co cw ls (k + 1) M so kn vk vs (cpN (fun _ => 0) H i) 0 (nI i) = X6_layFits_4 N L ro ck co cw ls k M so kn vk vs (cpN (fun _ => 0) H (i + 1)) 0 (nI (i + 1))
      rw [X6_layFits_4, if_neg (by rw [show (5 : Int32) = nI 5 from rfl, i_le (by omega) (by omega)]; omega), if_pos (xin_nI hi (by omega)), nI_clamp (by omega), nI_1, ← cpN_s])
    (fun k => by
      show X6_layFits_4 N L ro ck co cw ls (k + 1) M so kn vk vs (cpN (fun _ => 0) H 5) 0 (nI 5) = _
      rw [X6_layFits_4, if_pos (by decide), h1, Option.bind_some]
      refine Eq.trans ?_ h2
      have e0 : cpN (hd (fun t => sFits n pc need noon sg rk ck co cw kn ls lg t) 0) (cpN (fun _ => 0) H 5) n = cpN (fun _ => 0) H 5 := by
        funext j
        by_cases hj : j < n
        · rw [cpN, if_pos hj, cpN, if_pos (by omega)]; rfl
        · rw [cpN, if_neg hj]
      rw [e0]; rfl) N (by omega)
  rw [cpN_0] at h
  exact h
end F
