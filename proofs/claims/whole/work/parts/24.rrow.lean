/-! LAYER 2: the reference's stroke is the spec's -/
def rS (n : Nat) (w a : Nat → Bool) (pl st hw : Nat) (M : Nat → Int32) : Prop :=
  (∀ j, j < 32 → bt (M 13) j = (decide (j < n) && !a j)) ∧ (∀ j, j < n → a j = true → bt (M 12) j = w j) ∧ M 14 = nI pl ∧ M 15 = nI st ∧ M 16 = nI hw
def rX (n pc : Nat) (need noon : Int32) (sg rk M so ro : Nat → Int32) : Prop :=
  M 7 = nI n ∧ M 2 = need ∧ M 3 = noon ∧ M 4 = nI pc ∧ (∀ k, k < pc → so k = sg k) ∧ (∀ k, k < pc → ro k = rk k)
section RL
variable {M so ro ck co cw kn : Nat → Int32} {L : Nat → Int64} {n N : Nat}
theorem e_anyHears (hn : n ≤ 5) (hM : M 7 = nI n) (hN : 5 < N) : X6_anyHears N M L ck = some (sAny (fun j => !bt (M 13) j && (!decide (ck j = 1) && (!bt (M 12) j || !decide (M 15 < M 3)))) n) := by
  rw [X6_anyHears]
  refine lr (fun k (z : Bool × Int32) => X6_anyHears_4 N M L ck k z.1 z.2) (fun i => (sAny (fun j => !bt (M 13) j && (!decide (ck j = 1) && (!bt (M 12) j || !decide (M 15 < M 3)))) i, nI i)) n _ (fun k i hi => ?_) (fun k => ?_) N (by omega)
  · show X6_anyHears_4 N M L ck (k + 1) _ (nI i) = X6_anyHears_4 N M L ck k _ (nI (i + 1))
    have hg : ¬ nI n ≤ nI i := by rw [i_le (by omega) (by omega)]; omega
    rw [X6_anyHears_4, hM, if_neg hg, e_has (by omega), e_hears (by omega), nI_1]
    simp only [Option.bind_some, bz_eq0, sAny]
    generalize (!decide (ck i = 1) && (!bt (M 12) i || !decide (M 15 < M 3))) = z
    generalize sAny (fun j => !bt (M 13) j && (!decide (ck j = 1) && (!bt (M 12) j || !decide (M 15 < M 3)))) i = y
    cases y with
    | true => rfl
    | false =>
      cases bt (M 13) i with
      | true => rfl
      | false => cases z <;> rfl
  · show X6_anyHears_4 N M L ck (k + 1) _ (nI n) = _
    rw [X6_anyHears_4, hM, if_pos (by rw [i_le (by omega) (by omega)]; omega)]
def qSees (M ck kn : Nat → Int32) (j : Nat) : Bool := (!bt (M 13) j && decide (kn j = 0)) && (decide (ck j = 3) || decide (ck j = 4))
theorem e_anySees (hn : n ≤ 5) (hM : M 7 = nI n) (hN : 5 < N) : X6_anySees N M L ck kn = some (sAny (qSees M ck kn) n) := by
  rw [X6_anySees]
  refine lr (fun k (z : Bool × Int32) => X6_anySees_4 N M L ck kn k z.1 z.2) (fun i => (sAny (qSees M ck kn) i, nI i)) n _ (fun k i hi => ?_) (fun k => ?_) N (by omega)
  · show X6_anySees_4 N M L ck kn (k + 1) _ (nI i) = X6_anySees_4 N M L ck kn k _ (nI (i + 1))
    have hg : ¬ nI n ≤ nI i := by rw [i_le (by omega) (by omega)]; omega
    rw [X6_anySees_4, hM, if_neg hg, e_has (by omega), nI_1]
    simp only [Option.bind_some, bz_eq0, sAny, if_pos (xin_nI (show i < 5 by omega) (by omega)), nI_clamp (show i < 2 ^ 31 by omega)]
    have hq : qSees M ck kn i = ((!bt (M 13) i && decide (kn i = 0)) && (decide (ck i = 3) || decide (ck i = 4))) := rfl
    rw [hq]
    generalize sAny (qSees M ck kn) i = y
    by_cases h3 : ck i = 3
    · rw [if_pos h3, decide_eq_true h3]
      cases y with
      | true => rfl
      | false =>
        cases bt (M 13) i with
        | true => rfl
        | false =>
          by_cases h0 : kn i = 0
          · simp [h0]
          · simp [h0]
    · rw [if_neg h3, decide_eq_false h3]
      by_cases h4 : ck i = 4
      · rw [if_pos h4, decide_eq_true h4]
        cases y with
        | true => rfl
        | false =>
          cases bt (M 13) i with
          | true => rfl
          | false =>
            by_cases h0 : kn i = 0
            · simp [h0]
            · simp [h0]
      · rw [if_neg h4, decide_eq_false h4]
        cases y with
        | true => simp
        | false => cases bt (M 13) i <;> simp
  · show X6_anySees_4 N M L ck kn (k + 1) _ (nI n) = _
    rw [X6_anySees_4, hM, if_pos (by rw [i_le (by omega) (by omega)]; omega)]
theorem e_oars (hn : n ≤ 5) (hM : M 7 = nI n) (hN : 5 < N) : X6_oars N M L co kn = some (sOars co kn (fun j => !bt (M 13) j) n) := by
  rw [X6_oars]
  refine lr (fun k (z : Int32 × Int32) => X6_oars_4 N M L co kn k z.1 z.2) (fun i => (sOars co kn (fun j => !bt (M 13) j) i, nI i)) n _ (fun k i hi => ?_) (fun k => ?_) N (by omega)
  · show X6_oars_4 N M L co kn (k + 1) _ (nI i) = X6_oars_4 N M L co kn k _ (nI (i + 1))
    have hg : ¬ nI n ≤ nI i := by rw [i_le (by omega) (by omega)]; omega
    rw [X6_oars_4, hM, if_neg hg, e_has (by omega), nI_1]
    simp only [Option.bind_some, bz_eq0, sOars, if_pos (xin_nI (show i < 5 by omega) (by omega)), nI_clamp (show i < 2 ^ 31 by omega), Int32.add_zero]
    cases bt (M 13) i with
    | true => rfl
    | false =>
      by_cases h0 : kn i = 0
      · simp [h0]
      · simp [h0]
  · show X6_oars_4 N M L co kn (k + 1) _ (nI n) = _
    rw [X6_oars_4, hM, if_pos (by rw [i_le (by omega) (by omega)]; omega)]
theorem e_everybody (hn : n ≤ 5) (hM : M 7 = nI n) : X6_everybody M L = some (nI (2 ^ n - 1)) := by
  rw [X6_everybody, hM, i_all hn]
end RL
theorem b_full {n j : Nat} (hn : n ≤ 5) (hj : j < 32) : bt (nI (2 ^ n - 1)) j = decide (j < n) := by rw [← i_all hn]; exact b_all hn hj
theorem full_iff {x : Int32} {n : Nat} {p : Nat → Bool} (hn : n ≤ 5) (h : ∀ j, j < 32 → bt x j = (decide (j < n) && !p j)) : x = nI (2 ^ n - 1) ↔ sAny p n = false := by
  rw [sAny_f]
  constructor
  · intro e j hj
    have := h j (by omega)
    rw [e, b_full hn (by omega), decide_eq_true hj] at this
    simpa using this.symm
  · intro e
    refine b_ext (fun j hj => ?_)
    rw [h j hj, b_full hn hj]
    by_cases h1 : j < n
    · rw [e j h1]; simp
    · rw [decide_eq_false h1]; rfl
def rKeep (M M' : Nat → Int32) : Prop := ∀ i, i ≠ 13 → i ≠ 14 → i ≠ 15 → i ≠ 16 → i ≠ 17 → M' i = M i
theorem rRow {n pc pl st N : Nat} {need noon : Int32} {sg rk M so ro ck co cw kn : Nat → Int32} {L : Nat → Int64} {w a : Nat → Bool} (G : gX n pc sg rk ck cw kn) (C : rX n pc need noon sg rk M so ro) (S : rS n w a pl st 0 M) (hpl : pl < pc) (hN : 5 < N) :
    ∃ M' : Nat → Int32, X6_goStroke N M L so ro ck co cw kn = some M' ∧ M' 17 = mk (sSwim noon sg ck cw kn w a pl st) n ∧ rS n w (sRow n pc need noon sg rk ck co cw kn w a pl st).1 (sRow n pc need noon sg rk ck co cw kn w a pl st).2.1 (st + 1) (sRow n pc need noon sg rk ck co cw kn w a pl st).2.2 M' ∧ rKeep M M' := by
  obtain ⟨hn, hpc, hsg, hrk, hhold⟩ := G
  obtain ⟨hmen, hneed, hnoon, hsize, hso, hro⟩ := C
  obtain ⟨hA, hW, hP, hT, hH⟩ := S
  obtain ⟨p, hp⟩ : ∃ p : Nat → Bool, p = sSwim noon sg ck cw kn w a pl st := ⟨_, rfl⟩
  obtain ⟨g, hg9, hg⟩ := hsg pl hpl
  obtain ⟨M', hM', hprops⟩ : ∃ M' : Nat → Int32, X6_goStroke_7 N L so ro ck co cw kn (0 + 1) (upd M 17 (mk p n)) (nI n) = some M' ∧ (M' 17 = mk (sSwim noon sg ck cw kn w a pl st) n ∧ rS n w (sRow n pc need noon sg rk ck co cw kn w a pl st).1 (sRow n pc need noon sg rk ck co cw kn w a pl st).2.1 (st + 1) (sRow n pc need noon sg rk ck co cw kn w a pl st).2.2 M' ∧ rKeep M M') := by
    obtain ⟨V, hV⟩ : ∃ V, V = upd M 17 (mk p n) := ⟨_, rfl⟩
    have vk : ∀ i, i ≠ 17 → V i = M i := fun i hi => by rw [hV, ud_n _ _ hi]
    have v17 : V 17 = mk p n := by rw [hV, ud_s]
    rw [← hV, X6_goStroke_7, if_pos (by rw [vk 7 (by decide), hmen, i_le (by omega) (by omega)]; omega)]
    obtain ⟨a1, ha1⟩ : ∃ z : Nat → Bool, z = fun j => a j && !p j := ⟨_, rfl⟩
    have hrow : sRow n pc need noon sg rk ck co cw kn w a pl st = (bif !sAny a1 n then (a1, pl, 3) else bif sStrike n noon (rk pl) ck kn w a1 st then (fun _ => false, pl, 2) else if sOars co kn a1 n < need then (a1, pl, 0) else if pl + 1 < pc then (a1, pl + 1, 0) else (a1, pl, 1)) := by rw [ha1, hp]; rfl
    rw [hrow]
    have hsub : ∀ j, a1 j = true → a j = true := by
      intro j hj
      rw [ha1] at hj
      simp only [Bool.and_eq_true] at hj
      exact hj.1
    have hb : ∀ j, j < 32 → bt (V 13 ||| V 17) j = (decide (j < n) && !a1 j) := by
      intro j hj
      rw [b_or, vk 13 (by decide), v17, bt_mk (by omega) hj, hA j hj, ha1]
      by_cases h1 : j < n
      · rw [decide_eq_true h1]; simp
      · rw [decide_eq_false h1]; simp
    generalize V 13 ||| V 17 = x at hb ⊢
    obtain ⟨U, hU⟩ : ∃ U, U = upd V 13 x := ⟨_, rfl⟩
    have uk : ∀ i, i ≠ 13 → i ≠ 17 → U i = M i := fun i h1 h2 => by rw [hU, ud_n _ _ h1, vk i h2]
    have u13 : U 13 = x := by rw [hU, ud_s]
    have u17 : U 17 = mk p n := by rw [hU, ud_n _ _ (by decide), v17]
    have u7 : U 7 = nI n := by rw [uk 7 (by decide) (by decide), hmen]
    have u14 : U 14 = nI pl := by rw [uk 14 (by decide) (by decide), hP]
    have u15 : U 15 = nI st := by rw [uk 15 (by decide) (by decide), hT]
    have u16 : U 16 = nI 0 := by rw [uk 16 (by decide) (by decide), hH]
    rw [← hU, e_everybody hn u7, Option.bind_some, ← hp]
    have hf := full_iff hn hb
    by_cases h0 : x = nI (2 ^ n - 1)
    · rw [if_pos h0, hf.mp h0]
      refine ⟨_, rfl, ?_, ⟨fun j hj => ?_, fun j hj h => ?_, ?_, ?_, ?_⟩, fun i h1 h2 h3 h4 h5 => ?_⟩
      · rw [ud_n _ _ (by decide), ud_n _ _ (by decide)]; exact u17
      · rw [ud_n _ _ (by decide), ud_n _ _ (by decide), u13]; exact hb j hj
      · rw [ud_n _ _ (by decide), ud_n _ _ (by decide), uk 12 (by decide) (by decide)]; exact hW j hj (hsub j h)
      · rw [ud_n _ _ (by decide), ud_n _ _ (by decide)]; exact u14
      · rw [ud_s, ud_n _ _ (by decide), u15]; exact nI_1 st
      · rw [ud_n _ _ (by decide), ud_s]; rfl
      · rw [ud_n _ _ h3, ud_n _ _ h4]; exact uk i h1 h5
    · have hany : sAny a1 n = true := by
        cases h : sAny a1 n with
        | true => rfl
        | false => exact absurd (hf.mpr h) h0
      have hbn : ∀ j, j < n → (!bt (U 13) j) = a1 j := fun j hj => by rw [u13, hb j (by omega), decide_eq_true hj]; simp
      have hh : sAny (fun j => !bt (U 13) j && (!decide (ck j = 1) && (!bt (U 12) j || !decide (U 15 < U 3)))) n = sAny (fun j => a1 j && sHear noon ck w st j) n := by
        refine sAny_congr (fun j hj => ?_)
        rw [hbn j hj, uk 12 (by decide) (by decide), u15, uk 3 (by decide) (by decide), hnoon]
        cases h1 : a1 j with
        | false => rfl
        | true => rw [hW j hj (hsub j h1)]; rfl
      have hse : sAny (qSees U ck kn) n = sAny (sSees ck kn a1) n := sAny_congr (fun j hj => by simp only [qSees, sSees, hbn j hj])
      -- what follows the rocks
      have tail : ∀ E : Option (Nat → Int32), E = ((X6_oars N U L co kn).bind fun u30 => (if u30 < (U 2) then (some ((upd U 15 ((U 15) + (1 : Int32))))) else (if (U 14) = ((U 4) - (1 : Int32)) then (some ((upd (upd (upd U 16 (1 : Int32)) 14 (((upd U 16 (1 : Int32)) 14) + (0 : Int32))) 15 (((upd (upd U 16 (1 : Int32)) 14 (((upd U 16 (1 : Int32)) 14) + (0 : Int32))) 15) + (1 : Int32))))) else (some ((upd (upd (upd U 16 (0 : Int32)) 14 (((upd U 16 (0 : Int32)) 14) + (1 : Int32))) 15 (((upd (upd U 16 (0 : Int32)) 14 (((upd U 16 (0 : Int32)) 14) + (1 : Int32))) 15) + (1 : Int32)))))))) →
          ∃ M' : Nat → Int32, E = some M' ∧ M' 17 = mk p n ∧ rS n w (if sOars co kn a1 n < need then (a1, pl, 0) else if pl + 1 < pc then (a1, pl + 1, 0) else (a1, pl, 1)).1 (if sOars co kn a1 n < need then (a1, pl, 0) else if pl + 1 < pc then (a1, pl + 1, 0) else (a1, pl, 1)).2.1 (st + 1) (if sOars co kn a1 n < need then (a1, pl, 0) else if pl + 1 < pc then (a1, pl + 1, 0) else (a1, pl, 1)).2.2 M' ∧ rKeep M M' := by
        rintro E rfl
        rw [e_oars hn u7 hN, Option.bind_some, uk 2 (by decide) (by decide), hneed, sOars_congr (b := a1) hbn]
        by_cases ho : sOars co kn a1 n < need
        · rw [if_pos ho, if_pos ho]
          refine ⟨_, rfl, ?_, ⟨fun j hj => ?_, fun j hj h => ?_, ?_, ?_, ?_⟩, fun i h1 h2 h3 h4 h5 => ?_⟩
          · rw [ud_n _ _ (by decide)]; exact u17
          · rw [ud_n _ _ (by decide), u13]; exact hb j hj
          · rw [ud_n _ _ (by decide), uk 12 (by decide) (by decide)]; exact hW j hj (hsub j h)
          · rw [ud_n _ _ (by decide)]; exact u14
          · rw [ud_s, u15]; exact nI_1 st
          · rw [ud_n _ _ (by decide)]; exact u16
          · rw [ud_n _ _ h3]; exact uk i h1 h5
        · rw [if_neg ho, if_neg ho, u14, uk 4 (by decide) (by decide), hsize]
          have hlast : (nI pl = nI pc - 1) ↔ pl + 1 = pc := by
            have e1 : nI pc - 1 = nI (pc - 1) := pk_sub (a := pc) (b := 1) (by omega)
            rw [e1, i_eq (by omega) (by omega)]
            omega
          by_cases hl : pl + 1 < pc
          · rw [if_neg (fun q => by have := hlast.mp q; omega), if_pos hl]
            refine ⟨_, rfl, ?_, ⟨fun j hj => ?_, fun j hj h => ?_, ?_, ?_, ?_⟩, fun i h1 h2 h3 h4 h5 => ?_⟩
            · rw [ud_n _ _ (by decide), ud_n _ _ (by decide), ud_n _ _ (by decide)]; exact u17
            · rw [ud_n _ _ (by decide), ud_n _ _ (by decide), ud_n _ _ (by decide), u13]; exact hb j hj
            · rw [ud_n _ _ (by decide), ud_n _ _ (by decide), ud_n _ _ (by decide), uk 12 (by decide) (by decide)]; exact hW j hj (hsub j h)
            · rw [ud_n _ _ (by decide), ud_s, ud_n _ _ (by decide), u14]; exact nI_1 pl
            · rw [ud_s, ud_n _ _ (by decide), ud_n _ _ (by decide), u15]; exact nI_1 st
            · rw [ud_n _ _ (by decide), ud_n _ _ (by decide), ud_s]; rfl
            · rw [ud_n _ _ h3, ud_n _ _ h2, ud_n _ _ h4]; exact uk i h1 h5
          · rw [if_pos (hlast.mpr (by omega)), if_neg hl]
            refine ⟨_, rfl, ?_, ⟨fun j hj => ?_, fun j hj h => ?_, ?_, ?_, ?_⟩, fun i h1 h2 h3 h4 h5 => ?_⟩
            · rw [ud_n _ _ (by decide), ud_n _ _ (by decide), ud_n _ _ (by decide)]; exact u17
            · rw [ud_n _ _ (by decide), ud_n _ _ (by decide), ud_n _ _ (by decide), u13]; exact hb j hj
            · rw [ud_n _ _ (by decide), ud_n _ _ (by decide), ud_n _ _ (by decide), uk 12 (by decide) (by decide)]; exact hW j hj (hsub j h)
            · rw [ud_n _ _ (by decide), ud_s, ud_n _ _ (by decide), u14]; exact Int32.add_zero _
            · rw [ud_s, ud_n _ _ (by decide), ud_n _ _ (by decide), u15]; exact nI_1 st
            · rw [ud_n _ _ (by decide), ud_n _ _ (by decide), ud_s]; rfl
            · rw [ud_n _ _ h3, ud_n _ _ h2, ud_n _ _ h4]; exact uk i h1 h5
      have struck : ∀ E : Option (Nat → Int32), E = ((X6_everybody (upd U 16 (2 : Int32)) L).bind fun u21 => (some ((upd (upd (upd U 16 (2 : Int32)) 13 u21) 15 (((upd (upd U 16 (2 : Int32)) 13 u21) 15) + (1 : Int32)))))) →
          ∃ M' : Nat → Int32, E = some M' ∧ M' 17 = mk p n ∧ rS n w (fun _ => false) pl (st + 1) 2 M' ∧ rKeep M M' := by
        rintro E rfl
        rw [e_everybody (M := upd U 16 2) hn (by rw [ud_n _ _ (by decide), u7]), Option.bind_some]
        refine ⟨_, rfl, ?_, ⟨fun j hj => ?_, fun j hj h => absurd h (by simp), ?_, ?_, ?_⟩, fun i h1 h2 h3 h4 h5 => ?_⟩
        · rw [ud_n _ _ (by decide), ud_n _ _ (by decide), ud_n _ _ (by decide)]; exact u17
        · rw [ud_n _ _ (by decide), ud_s, b_full hn hj]; simp
        · rw [ud_n _ _ (by decide), ud_n _ _ (by decide), ud_n _ _ (by decide)]; exact u14
        · rw [ud_s, ud_n _ _ (by decide), ud_n _ _ (by decide), u15]; exact nI_1 st
        · rw [ud_n _ _ (by decide), ud_n _ _ (by decide), ud_s]; rfl
        · rw [ud_n _ _ h3, ud_n _ _ h1, ud_n _ _ h4]; exact uk i h1 h5
      rw [if_neg h0, hany, u14, if_pos (xin_nI (show pl < 12 by omega) (by omega)), nI_clamp (by omega), hro pl hpl, Bool.not_true, cond_false, e_anyHears hn u7 hN, e_anySees hn u7 hN, hh, hse, Option.bind_some, Option.bind_some, if_pos (xin_nI (show pl < 12 by omega) (by omega))]
      rcases hrk pl hpl with h | h | h
      · rw [h, if_neg (by decide), if_neg (by decide)]
        have : sStrike n noon 0 ck kn w a1 st = false := rfl
        rw [this, cond_false]
        rw [← u14]
        exact tail _ rfl
      · rw [h, if_pos rfl]
        have hst : sStrike n noon 1 ck kn w a1 st = !sAny (fun j => a1 j && sHear noon ck w st j) n := by
          unfold sStrike
          rw [decide_eq_true rfl, decide_eq_false (by decide)]; simp
        rw [hst]
        cases sAny (fun j => a1 j && sHear noon ck w st j) n with
        | false => rw [if_pos (show bz false = 0 from rfl)]; exact struck _ rfl
        | true =>
          rw [if_neg (by decide), if_neg (by decide), Bool.not_true, cond_false]
          rw [← u14]
          exact tail _ rfl
      · rw [h, if_neg (by decide), if_pos rfl]
        have hst : sStrike n noon 2 ck kn w a1 st = !sAny (sSees ck kn a1) n := by
          unfold sStrike
          rw [decide_eq_true rfl, decide_eq_false (by decide)]; simp
        rw [hst]
        cases sAny (sSees ck kn a1) n with
        | false => rw [if_pos (show bz false = 0 from rfl)]; exact struck _ rfl
        | true =>
          rw [if_neg (by decide), Bool.not_true, cond_false]
          rw [← u14]
          exact tail _ rfl
  refine ⟨M', ?_, hprops⟩
  rw [X6_goStroke]
  refine lr (fun k (z : (Nat → Int32) × Int32) => X6_goStroke_7 N L so ro ck co cw kn k z.1 z.2) (fun i => (upd M 17 (mk p i), nI i)) n _ (fun k i hi => ?_) (fun k => ?_) N (by omega)
  · show X6_goStroke_7 N L so ro ck co cw kn (k + 1) (upd M 17 (mk p i)) (nI i) = X6_goStroke_7 N L so ro ck co cw kn k (upd M 17 (mk p (i + 1))) (nI (i + 1))
    have q7 : upd M 17 (mk p i) 7 = nI n := by rw [ud_n _ _ (by decide), hmen]
    have q14 : upd M 17 (mk p i) 14 = nI pl := by rw [ud_n _ _ (by decide), hP]
    have hle : ¬ nI n ≤ nI i := by rw [i_le (by omega) (by omega)]; omega
    have hpi : p i = (a i && (sHear noon ck w st i && !decide (sPull (sg pl) ck i ≤ sHold ck cw kn i))) := by rw [hp]; rfl
    rw [X6_goStroke_7, q7, if_neg hle, q14, if_pos (xin_nI (show pl < 12 by omega) (by omega)), nI_clamp (by omega), hso pl hpl, ud_s, nI_1, upd_upd, upd_upd, Int32.or_zero]
    by_cases hz : sg pl ≤ 0
    · rw [if_pos hz]
      have hg0 : g = 0 := by
        rw [hg, show (0 : Int32) = nI 0 from rfl, i_le (by omega) (by omega)] at hz
        omega
      have hpf : p i = false := by
        obtain ⟨h, hh, he⟩ := hhold i hi
        have : sPull (sg pl) ck i ≤ sHold ck cw kn i := by
          have e0 : sPull (sg pl) ck i = nI 0 := by
            rw [hg, hg0, sPull]
            split <;> rfl
          rw [e0, he, i_le (by omega) (by omega)]
          omega
        rw [hpi, decide_eq_true this]; simp
      simp only [mk, hpf, cond_false]
    · rw [if_neg hz, if_pos (xin_nI (show pl < 12 by omega) (by omega)), e_swims (by omega), Option.bind_some]
      have hsw : (!bt (upd M 17 (mk p i) 13) i && (!decide (ck i = 1) && (!bt (upd M 17 (mk p i) 12) i || !decide (upd M 17 (mk p i) 15 < upd M 17 (mk p i) 3)) && !decide ((if ck i = 2 then sg pl / 2 else sg pl) ≤ sHold ck cw kn i))) = p i := by
        rw [ud_n _ _ (by decide), ud_n _ _ (by decide), ud_n _ _ (by decide), ud_n _ _ (by decide), hA i (by omega), decide_eq_true hi, hT, hnoon, hpi, sHear, sPull]
        cases h : a i with
        | false => rfl
        | true => rw [hW i hi h]; rfl
      rw [hsw]
      simp only [mk]
      cases p i with
      | false => rfl
      | true => rfl
  · show X6_goStroke_7 N L so ro ck co cw kn (k + 1) (upd M 17 (mk p n)) (nI n) = _
    have hle : upd M 17 (mk p n) 7 ≤ nI n := by rw [ud_n _ _ (by decide), hmen, i_le (by omega) (by omega)]; omega
    rw [← hM', X6_goStroke_7, X6_goStroke_7, if_pos hle, if_pos hle]
