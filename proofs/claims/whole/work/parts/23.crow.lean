/-! LAYER 2: the class's stroke is the spec's -/
def cS (n : Nat) (w a : Nat → Bool) (pl st hw : Nat) (sf : Nat → Int32) : Prop :=
  (∀ j, j < 32 → bt (sf 2) j = (decide (j < n) && a j)) ∧ (∀ j, j < n → a j = true → bt (sf 1) j = w j) ∧ sf 3 = nI pl ∧ sf 4 = nI st ∧ sf 5 = nI hw
def gX (n pc : Nat) (sg rk ck cw kn : Nat → Int32) : Prop :=
  n ≤ 5 ∧ pc ≤ 12 ∧ (∀ k, k < pc → ∃ s, s ≤ 9 ∧ sg k = nI s) ∧ (∀ k, k < pc → rk k = 0 ∨ rk k = 1 ∨ rk k = 2) ∧ (∀ j, j < n → ∃ h, h ≤ 100 ∧ sHold ck cw kn j = nI h)
def cX (n pc : Nat) (need noon : Int32) (sg rk qf qs qr cf : Nat → Int32) : Prop :=
  cf 3 = nI n ∧ qf 2 = need ∧ qf 3 = noon ∧ qf 4 = nI pc ∧ (∀ k, k < pc → qs k = sg k) ∧ (∀ k, k < pc → qr k = rk k)
theorem bt_zero_iff {x : Int32} {n : Nat} {p : Nat → Bool} (hn : n ≤ 5) (h : ∀ j, j < 32 → bt x j = (decide (j < n) && p j)) : x = 0 ↔ sAny p n = false := by
  rw [sAny_f]
  constructor
  · intro e j hj
    have := h j (by omega)
    rw [e, b_0, decide_eq_true hj] at this
    simpa using this.symm
  · intro e
    refine b_ext (fun j hj => ?_)
    rw [h j hj, b_0]
    by_cases h1 : j < n
    · rw [e j h1]; simp
    · rw [decide_eq_false h1]; rfl
theorem ud_s (f : Nat → Int32) (k : Nat) (x : Int32) : upd f k x k = x := by simp [upd]
theorem ud_n (f : Nat → Int32) {k j : Nat} (x : Int32) (h : j ≠ k) : upd f k x j = f j := by simp [upd, h]
theorem cRow {n pc pl st N : Nat} {need noon : Int32} {sg rk qf qs qr cf ck co cw kn sf : Nat → Int32} {w a : Nat → Bool} (G : gX n pc sg rk ck cw kn) (C : cX n pc need noon sg rk qf qs qr cf) (S : cS n w a pl st 0 sf) (hpl : pl < pc) (hN : 5 < N) :
    ∃ sf' : Nat → Int32, X4_row N sf kn qf qs qr cf ck co cw = some (mk (sSwim noon sg ck cw kn w a pl st) n, sf') ∧ cS n w (sRow n pc need noon sg rk ck co cw kn w a pl st).1 (sRow n pc need noon sg rk ck co cw kn w a pl st).2.1 (st + 1) (sRow n pc need noon sg rk ck co cw kn w a pl st).2.2 sf' := by
  obtain ⟨hn, hpc, hsg, hrk, hhold⟩ := G
  obtain ⟨hcf, hneed, hnoon, hsize, hqs, hqr⟩ := C
  obtain ⟨hA, hW, hP, hT, hH⟩ := S
  have hsw : mk (qSwim sf qf (sg pl) ck cw kn) n = mk (sSwim noon sg ck cw kn w a pl st) n := by
    refine mk_congr (fun j hj => ?_)
    simp only [qSwim, sSwim, sHear, hA j (by omega), decide_eq_true hj, Bool.true_and, hnoon, hT]
    cases ha : a j with
    | false => rfl
    | true => rw [hW j hj ha]
  rw [X4_row, X4_swimmersAt, hP, e_songAt (by omega), Option.bind_some, e_swimmersL hn hcf hN, hqs pl hpl, hsw, Option.bind_some]
  obtain ⟨a1, ha1⟩ : ∃ z : Nat → Bool, z = fun j => a j && !sSwim noon sg ck cw kn w a pl st j := ⟨_, rfl⟩
  have hrow : sRow n pc need noon sg rk ck co cw kn w a pl st = (bif !sAny a1 n then (a1, pl, 3) else bif sStrike n noon (rk pl) ck kn w a1 st then (fun _ => false, pl, 2) else if sOars co kn a1 n < need then (a1, pl, 0) else if pl + 1 < pc then (a1, pl + 1, 0) else (a1, pl, 1)) := by rw [ha1]; rfl
  rw [hrow]
  generalize hs : mk (sSwim noon sg ck cw kn w a pl st) n = s
  have hb : ∀ j, j < 32 → bt (sf 2 &&& (s ^^^ (-1 : Int32))) j = (decide (j < n) && a1 j) := by
    intro j hj
    rw [b_and, b_not _ hj, ← hs, bt_mk (by omega) hj, hA j hj, ha1]
    by_cases h1 : j < n
    · rw [decide_eq_true h1]; simp
    · rw [decide_eq_false h1]; simp
  have hsub : ∀ j, a1 j = true → a j = true := by
    intro j hj
    rw [ha1] at hj
    simp only [Bool.and_eq_true] at hj
    exact hj.1
  generalize sf 2 &&& (s ^^^ (-1 : Int32)) = x at hb ⊢
  have hx0 := bt_zero_iff hn hb
  by_cases h0 : x = 0
  · rw [if_pos h0, hx0.mp h0]
    refine ⟨_, rfl, ?_⟩
    refine ⟨fun j hj => ?_, fun j hj h => ?_, ?_, ?_, ?_⟩
    · rw [ud_n _ _ (by decide), ud_n _ _ (by decide), ud_s]; exact hb j hj
    · rw [ud_n _ _ (by decide), ud_n _ _ (by decide), ud_n _ _ (by decide)]; exact hW j hj (hsub j h)
    · rw [ud_n _ _ (by decide), ud_n _ _ (by decide), ud_n _ _ (by decide)]; exact hP
    · rw [ud_s, ud_n _ _ (by decide), ud_n _ _ (by decide), hT]; exact nI_1 st
    · rw [ud_n _ _ (by decide), ud_s]; rfl
  · have hany : sAny a1 n = true := by
      cases h : sAny a1 n with
      | true => rfl
      | false => exact absurd (hx0.mpr h) h0
    obtain ⟨V, hV⟩ : ∃ V, V = upd sf 2 x := ⟨_, rfl⟩
    have v1 : V 1 = sf 1 := by rw [hV, ud_n _ _ (by decide)]
    have v2 : V 2 = x := by rw [hV, ud_s]
    have v3 : V 3 = nI pl := by rw [hV, ud_n _ _ (by decide), hP]
    have v4 : V 4 = nI st := by rw [hV, ud_n _ _ (by decide), hT]
    have v5 : V 5 = nI 0 := by rw [hV, ud_n _ _ (by decide), hH]
    rw [if_neg h0, hany, ← hV, v3, e_rockAt (by omega), hqr pl hpl, Option.bind_some, e_isStriking hn hcf hN (hrk pl hpl), Option.bind_some]
    have hbv : ∀ j, j < n → bt (V 2) j = a1 j := fun j hj => by rw [v2, hb j (by omega), decide_eq_true hj]; rfl
    have hstr : (decide (rk pl = 1) && !sAny (qHear V qf ck) n || decide (rk pl = 2) && !sAny (sSees ck kn fun j => bt (V 2) j) n) = sStrike n noon (rk pl) ck kn w a1 st := by
      unfold sStrike
      rw [sAny_congr (p := qHear V qf ck) (q := fun j => a1 j && sHear noon ck w st j) (fun j hj => ?_), sAny_congr (p := sSees ck kn fun j => bt (V 2) j) (q := sSees ck kn a1) (fun j hj => by simp only [sSees, hbv j hj])]
      simp only [qHear, sHear, hbv j hj, hnoon, v4, v1]
      cases h1 : a1 j with
      | false => rfl
      | true => rw [hW j hj (hsub j h1)]
    rw [hstr, Bool.not_true, cond_false]
    cases hst : sStrike n noon (rk pl) ck kn w a1 st with
    | true =>
      rw [if_neg (by decide)]
      refine ⟨_, rfl, ?_⟩
      refine ⟨fun j hj => ?_, fun j hj h => absurd h (by simp), ?_, ?_, ?_⟩
      · rw [ud_n _ _ (by decide), ud_n _ _ (by decide), ud_s, b_0]; simp
      · rw [ud_n _ _ (by decide), ud_n _ _ (by decide), ud_n _ _ (by decide)]; exact v3
      · rw [ud_s, ud_n _ _ (by decide), ud_n _ _ (by decide), v4]; exact nI_1 st
      · rw [ud_n _ _ (by decide), ud_s]; rfl
    | false =>
      rw [if_pos (show bz false = 0 from rfl), e_freeOars hn hcf hN, Option.bind_some, hneed, sOars_congr (b := a1) hbv, cond_false]
      by_cases ho : sOars co kn a1 n < need
      · rw [if_pos ho, if_pos ho]
        refine ⟨_, rfl, ?_⟩
        refine ⟨fun j hj => ?_, fun j hj h => ?_, ?_, ?_, ?_⟩
        · rw [ud_n _ _ (by decide), v2]; exact hb j hj
        · rw [ud_n _ _ (by decide), v1]; exact hW j hj (hsub j h)
        · rw [ud_n _ _ (by decide)]; exact v3
        · rw [ud_s, v4]; exact nI_1 st
        · rw [ud_n _ _ (by decide)]; exact v5
      · rw [if_neg ho, if_neg ho, X4_comeOn, hsize, v3, nI_1]
        by_cases hl : pl + 1 < pc
        · rw [if_neg (by rw [i_le (by omega) (by omega)]; omega), if_pos hl, Option.bind_some]
          refine ⟨_, rfl, ?_⟩
          refine ⟨fun j hj => ?_, fun j hj h => ?_, ?_, ?_, ?_⟩
          · rw [ud_n _ _ (by decide), ud_n _ _ (by decide), v2]; exact hb j hj
          · rw [ud_n _ _ (by decide), ud_n _ _ (by decide), v1]; exact hW j hj (hsub j h)
          · rw [ud_n _ _ (by decide), ud_s]
          · rw [ud_s, ud_n _ _ (by decide), v4]; exact nI_1 st
          · rw [ud_n _ _ (by decide), ud_n _ _ (by decide)]; exact v5
        · rw [if_pos (by rw [i_le (by omega) (by omega)]; omega), if_neg hl, Option.bind_some]
          refine ⟨_, rfl, ?_⟩
          refine ⟨fun j hj => ?_, fun j hj h => ?_, ?_, ?_, ?_⟩
          · rw [ud_n _ _ (by decide), ud_n _ _ (by decide), v2]; exact hb j hj
          · rw [ud_n _ _ (by decide), ud_n _ _ (by decide), v1]; exact hW j hj (hsub j h)
          · rw [ud_n _ _ (by decide), ud_n _ _ (by decide)]; exact v3
          · rw [ud_s, ud_n _ _ (by decide), v4]; exact nI_1 st
          · rw [ud_n _ _ (by decide), ud_s]; rfl
