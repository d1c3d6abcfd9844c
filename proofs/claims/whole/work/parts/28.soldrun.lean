/-! LAYER 2: SOLD and LISTENER, the loops -/
section S2
variable {n pc pl st hw N : Nat} {need noon : Int32} {sg rk ck co cw kn : Nat → Int32} {w a : Nat → Bool}
theorem e_weaker {d : Nat} {uf us ur qf qs qr cf : Nat → Int32} (G : gB n pc sg rk ck cw kn) (C : cX n pc need noon sg rk qf qs qr cf) (hN : 40 < N) (z1 : Zr 12 us) (z2 : Zr 12 ur) (z3 : Zr 12 qs) (z4 : Zr 12 qr) :
    ∃ uf' us' : Nat → Int32, X3_copyWeaker N uf us ur qf qs qr (nI d) = some (uf', us', qr) ∧ cX n pc need noon (sWk sg d) rk uf' us' qr cf ∧ Zr 12 us' := by
  obtain ⟨hn, hpc, -⟩ := G
  have hC : cX n pc need noon (sWk sg d) rk (upd (upd (upd uf 2 (qf 2)) 3 (qf 3)) 4 (qf 4)) (cpN (sWk qs d) qs pc) qr cf := C.copy (fun k hk => by rw [cpN, if_pos hk, sWk, sWk, C.2.2.2.2.1 k hk])
  refine ⟨upd (upd (upd uf 2 (qf 2)) 3 (qf 3)) 4 (qf 4), cpN (sWk qs d) qs pc, ?_, hC, Zr_cpN z3 hpc⟩
  rw [X3_copyWeaker, e_pcopy z1 z2 z3 z4, Option.bind_some]
  have h4 := hC.2.2.2.1
  generalize upd (upd (upd uf 2 (qf 2)) 3 (qf 3)) 4 (qf 4) = V at h4 ⊢
  have h := lr (fun k (z : (Nat → Int32) × Int32) => X3_copyWeaker_7 N qf qs qr k V z.1 qr (nI d) z.2) (fun i => (cpN (sWk qs d) qs i, nI i)) pc (some (V, cpN (sWk qs d) qs pc, qr)) (fun k i hi => by
      show X3_copyWeaker_7 N qf qs qr (k + 1) V (cpN (sWk qs d) qs i) qr (nI d) (nI i) = X3_copyWeaker_7 N qf qs qr k V (cpN (sWk qs d) qs (i + 1)) qr (nI d) (nI (i + 1))
      have hci : cpN (sWk qs d) qs i i = qs i := by rw [cpN, if_neg (by omega)]
      have hsw : (if (0 : Int32) < qs i - nI d then qs i - nI d else 0) = sWk qs d i := rfl
      rw [X3_copyWeaker_7, h4, if_neg (by rw [i_le (by omega) (by omega)]; omega), e_songAt (by omega), Option.bind_some, hci, hsw, e_setSong (by omega), Option.bind_some, cpN_s, nI_1])
    (fun k => by
      show X3_copyWeaker_7 N qf qs qr (k + 1) V (cpN (sWk qs d) qs pc) qr (nI d) (nI pc) = _
      rw [X3_copyWeaker_7, h4, if_pos (by rw [i_le (by omega) (by omega)]; omega)]) N (by omega)
  rw [cpN_0] at h
  exact h
/-- nobody more is lost with the songs weaker by d -/
def pSold (n pc : Nat) (need noon : Int32) (sg rk ck co cw kn : Nat → Int32) (w a : Nat → Bool) (pl st hw : Nat) (d : Nat) : Bool := decide (cnt (sGo n pc need noon (sWk sg d) rk ck co cw kn w a pl st hw).1 n = cnt a n)
theorem c_sold {xf qf qs qr cf sf : Nat → Int32} (G : gB n pc sg rk ck cw kn) (C : cX n pc need noon sg rk qf qs qr cf) (S : cS n w a pl st hw sf) (hpl : pl < pc) (hhw : hw ≤ 3) (hN : 40 < N) (z1 : Zr 5 kn) (z3 : Zr 12 qs) (z4 : Zr 12 qr) :
    ∀ (e d k : Nat) (tf tk uf us ur : Nat → Int32), d + e = 10 → e < k → Zr 5 tk → Zr 12 us → Zr 12 ur → ∃ tf' tk' uf' us' ur' : Nat → Int32, X5_sold_24 N xf qf qs qr cf ck co cw sf kn k tf tk uf us ur (nI (n - cnt a n)) (nI d) = some (sFirst (pSold n pc need noon sg rk ck co cw kn w a pl st hw) e d, tf', tk', uf', us', ur') ∧ Zr 5 tk' ∧ Zr 12 us' ∧ Zr 12 ur' := by
  have hn := G.1
  intro e
  induction e with
  | zero =>
    intro d k tf tk uf us ur hd hk z2 z5 z6
    obtain ⟨k, rfl⟩ : ∃ q, k = q + 1 := ⟨k - 1, by omega⟩
    obtain rfl : d = 10 := by omega
    exact ⟨tf, tk, uf, us, ur, by rw [X5_sold_24, if_pos (by decide)]; rfl, z2, z5, z6⟩
  | succ e ih =>
    intro d k tf tk uf us ur hd hk z2 z5 z6
    obtain ⟨k, rfl⟩ : ∃ q, k = q + 1 := ⟨k - 1, by omega⟩
    obtain ⟨uf1, us1, h0, C1, z7⟩ := e_weaker (N := N) (d := d) (uf := uf) G C hN z5 z6 z3 z4
    have G1 : gB n pc (sWk sg d) rk ck cw kn := G.sg (fun q hq => by obtain ⟨s, hs, es⟩ := G.2.2.1 q hq; exact sWk_small hs (by omega) es)
    obtain ⟨t1, h1, S1⟩ := cGo (N := N) (need := need) (co := co) G1 C1 (c_trial (tf := tf) S) hpl hhw hN
    have hcl := cnt_le (sGo n pc need noon (sWk sg d) rk ck co cw kn w a pl st hw).1 n
    have hcl2 := cnt_le a n
    rw [X5_sold_24, if_neg (by rw [show (9 : Int32) = nI 9 from rfl, i_lt (by omega) (by omega)]; omega), h0, Option.bind_some, e_copy z1 z2, Option.bind_some, h1, Option.bind_some, e_lostOf hn C.1 S1, Option.bind_some, nI_1]
    simp only [sFirst]
    cases hq : pSold n pc need noon sg rk ck co cw kn w a pl st hw d with
    | true =>
      have hq := of_decide_eq_true hq
      exact ⟨t1, kn, uf1, us1, qr, by rw [if_pos (by rw [hq])]; rfl, z1, z7, z4⟩
    | false =>
      have hq := of_decide_eq_false hq
      obtain ⟨tf', tk', uf', us', ur', h3, z8⟩ := ih (d + 1) k t1 kn uf1 us1 qr (by omega) (by omega) z1 z7 z4
      exact ⟨tf', tk', uf', us', ur', by rw [if_neg (by rw [i_eq (by omega) (by omega)]; omega), cond_false]; exact h3, z8⟩
theorem r_sold {M so ro : Nat → Int32} {L : Nat → Int64} (G : gB n pc sg rk ck cw kn) (C : rX n pc need noon sg rk M so ro) (S : rS n w a pl st hw M) (hpl : pl < pc) (hhw : hw ≤ 3) (hN : 40 < N) (z1 : Zr 5 kn) (z3 : Zr 12 so) :
    ∀ (e d k : Nat) (M1 : Nat → Int32), d + e = 10 → e < k → svd M M1 → ∃ M' : Nat → Int32, X6_soldNow_6 N L ro ck co cw k M1 so kn kn so (nI d) = some (sFirst (pSold n pc need noon sg rk ck co cw kn w a pl st hw) e d, M', so, kn, kn, so) ∧ svd M M' := by
  have hn := G.1
  have hpc := G.2.1
  intro e
  induction e with
  | zero =>
    intro d k M1 hd hk s1
    obtain ⟨k, rfl⟩ : ∃ q, k = q + 1 := ⟨k - 1, by omega⟩
    obtain rfl : d = 10 := by omega
    exact ⟨M1, by rw [X6_soldNow_6, if_pos (by decide)]; rfl, s1⟩
  | succ e ih =>
    intro d k M1 hd hk s1
    obtain ⟨k, rfl⟩ : ∃ q, k = q + 1 := ⟨k - 1, by omega⟩
    have C1 := s1.rX C
    have hs2 : ∀ q, q < pc → cpN (rWk so d) so pc q = sWk sg d q := by
      intro q hq
      obtain ⟨s, hs, es⟩ := G.2.2.1 q hq
      rw [cpN, if_pos hq, rWk_eq (s := s) hs (by omega) (by rw [C.2.2.2.2.1 q hq, es]), sWk, sWk, C.2.2.2.2.1 q hq]
    have C2 : rX n pc need noon (sWk sg d) rk M1 (cpN (rWk so d) so pc) ro := ⟨C1.1, C1.2.1, C1.2.2.1, C1.2.2.2.1, hs2, C1.2.2.2.2.2⟩
    have G1 : gB n pc (sWk sg d) rk ck cw kn := G.sg (fun q hq => by obtain ⟨s, hs, es⟩ := G.2.2.1 q hq; exact sWk_small hs (by omega) es)
    obtain ⟨M2, h2, S2, K2⟩ := rGo (N := N) (L := L) (need := need) (co := co) G1 C2 (s1.rS S) hpl hhw hN
    obtain ⟨M3, h3, s3⟩ := svd.back (N := N) (L := L) s1 (M3 := M2) (fun q hq => K2 q (by omega) (by omega) (by omega) (by omega) (by omega)) z1 z1 z3 (Zr_cpN (f := rWk so d) z3 hpc) hN
    rw [X6_soldNow_6, if_neg (by rw [show (9 : Int32) = nI 9 from rfl, i_lt (by omega) (by omega)]; omega)]
    obtain ⟨KK, hKK⟩ : ∃ z, z = X6_soldNow_6 N L ro ck co cw k := ⟨_, rfl⟩
    rw [← hKK]
    have hsub := (sRun_ok (n := n) (need := need) (noon := noon) (sg := sWk sg d) (rk := rk) (ck := ck) (co := co) (cw := cw) (kn := kn) (w := w) 30 a pl st hw hpl hhw).2.2.2.2
    have hcs := cnt_sub (n := n) hsub
    have heq : (M2 13 = M2 30) ↔ pSold n pc need noon sg rk ck co cw kn w a pl st hw d = true := by
      rw [K2 30 (by decide) (by decide) (by decide) (by decide) (by decide), s1.2.2.1]
      constructor
      · intro h
        refine decide_eq_true (hcs.2.mpr (fun j hj => ?_))
        have h1 := S2.1 j (by omega)
        rw [h, S.1 j (by omega), decide_eq_true hj] at h1
        simpa using h1.symm
      · intro h
        have h := hcs.2.mp (of_decide_eq_true h)
        refine b_ext (fun j hj => ?_)
        rw [S2.1 j hj, S.1 j hj]
        by_cases hjn : j < n
        · rw [h j hjn]
        · rw [decide_eq_false hjn]; rfl
    have hin := lr (fun q (z : (Nat → Int32) × Int32) => X6_soldNow_14 N L ro ck co cw KK q M1 z.1 kn kn so (nI d) z.2) (fun i => (cpN (rWk so d) so i, nI i)) pc
      (if M2 13 = M2 30 then some (nI d, M3, so, kn, kn, so) else KK M3 so kn kn so (nI d + 1)) (fun q i hi => by
        show X6_soldNow_14 N L ro ck co cw KK (q + 1) M1 (cpN (rWk so d) so i) kn kn so (nI d) (nI i) = X6_soldNow_14 N L ro ck co cw KK q M1 (cpN (rWk so d) so (i + 1)) kn kn so (nI d) (nI (i + 1))
        have hci : cpN (rWk so d) so i i = so i := by rw [cpN, if_neg (by omega)]
        rw [X6_soldNow_14, C1.2.2.2.1, if_neg (by rw [i_le (by omega) (by omega)]; omega)]
        simp only [if_pos (xin_nI (show i < 12 by omega) (by omega)), nI_clamp (show i < 2 ^ 31 by omega), hci]
        rw [← cpN_s (rWk so d) so i, rWk, nI_1]
        by_cases hle : so i ≤ nI d
        · rw [if_pos hle, if_pos hle]
        · rw [if_neg hle, if_neg hle])
      (fun q => by
        show X6_soldNow_14 N L ro ck co cw KK (q + 1) M1 (cpN (rWk so d) so pc) kn kn so (nI d) (nI pc) = _
        rw [X6_soldNow_14, C1.2.2.2.1, if_pos (by rw [i_le (by omega) (by omega)]; omega), h2, Option.bind_some, h3, Option.bind_some, Option.bind_some]) N (by omega)
    rw [cpN_0] at hin
    have hin2 : X6_soldNow_14 N L ro ck co cw KK N M1 so kn kn so (nI d) 0 = _ := hin
    rw [hin2]
    simp only [sFirst]
    cases hq : pSold n pc need noon sg rk ck co cw kn w a pl st hw d with
    | true => exact ⟨M3, by rw [if_pos (heq.mpr hq)]; rfl, s3⟩
    | false =>
      obtain ⟨M', h4, s4⟩ := ih (d + 1) k M3 (by omega) (by omega) s3
      refine ⟨M', ?_, s4⟩
      rw [if_neg (fun q => by rw [heq.mp q] at hq; cases hq), hKK, nI_1, cond_false]
      exact h4
end S2
