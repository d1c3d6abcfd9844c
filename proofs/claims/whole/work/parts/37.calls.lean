/-! LAYER 2: the simple calls -/
section Q
variable {t n pc pl st hw np lg t0 N : Nat} {need noon : Int32} {w a : Nat → Bool} {v : Nat → Nat} {xf pf la qf qs qr cf ck co cw sf kn lf ls ef ek gf gs tf tk uf us ur M so ro ns nr vk vs H rek rgs : Nat → Int32} {L : Nat → Int64}
theorem i_pos {j : Nat} (h : j < 2 ^ 31) : (-1 : Int32) < nI j := by
  rw [Int32.lt_iff_toInt_lt, nI_toInt h]
  have : (-1 : Int32).toInt = -1 := by decide
  omega
/-- a number below m, as the reference asks it -/
theorem in_lt (P : Int32) {m : Nat} (hm : m < 2 ^ 31) : (P < 0 ∧ X6_within P 0 (nI m - 1) = some false) ∨ (¬ P < 0 ∧ nI m ≤ P ∧ X6_within P 0 (nI m - 1) = some false) ∨ (∃ i, i < m ∧ P = nI i ∧ X6_within P 0 (nI m - 1) = some true) := by
  by_cases h0 : P < 0
  · exact Or.inl ⟨h0, by rw [X6_within, if_pos h0]⟩
  obtain ⟨j, hj, rfl⟩ := nI_of h0
  by_cases h1 : m ≤ j
  · refine Or.inr (Or.inl ⟨h0, by rw [i_le hm hj]; exact h1, ?_⟩)
    rw [X6_within, if_neg h0]
    by_cases hz : m = 0
    · subst hz; rw [show nI 0 - 1 = -1 by decide, if_pos (i_pos hj)]
    · rw [show nI m - 1 = nI (m - 1) from pk_sub (a := m) (b := 1) (by omega), if_pos (by rw [i_lt (by omega) hj]; omega)]
  · refine Or.inr (Or.inr ⟨j, by omega, rfl, ?_⟩)
    rw [X6_within, if_neg h0, show nI m - 1 = nI (m - 1) from pk_sub (a := m) (b := 1) (by omega), if_neg (by rw [i_lt (by omega) hj]; omega)]
theorem known (P : Int32) (hn : n ≤ 5) (hcf : cf 3 = nI n) (hM : M 7 = nI n) : (X5_isKnown xf cf P = some false ∧ X6_isMan M L P = some false) ∨ (∃ i, i < n ∧ P = nI i ∧ X5_isKnown xf cf P = some true ∧ X6_isMan M L P = some true) := by
  rcases in_lt P (m := n) (by omega) with ⟨h, e⟩ | ⟨h, h2, e⟩ | ⟨i, hi, rfl, e⟩
  · exact Or.inl ⟨by rw [X5_isKnown, if_pos h], by rw [X6_isMan, hM, e]; rfl⟩
  · exact Or.inl ⟨by rw [X5_isKnown, if_neg h, hcf, if_pos h2], by rw [X6_isMan, hM, e]; rfl⟩
  · exact Or.inr ⟨i, hi, rfl, by rw [X5_isKnown, if_neg (i_nlt0 (by omega)), hcf, if_neg (by rw [i_le (by omega) (by omega)]; omega)], by rw [X6_isMan, hM, e]; rfl⟩
theorem rng (P A B : Int32) : (P < A ∧ X6_within P A B = some false) ∨ (¬ P < A ∧ B < P ∧ ¬ P ≤ B ∧ X6_within P A B = some false) ∨ (¬ P < A ∧ ¬ B < P ∧ P ≤ B ∧ X6_within P A B = some true) := by
  by_cases h0 : P < A
  · exact Or.inl ⟨h0, by rw [X6_within, if_pos h0]⟩
  by_cases h1 : B < P
  · exact Or.inr (Or.inl ⟨h0, h1, Int32.not_le.mpr h1, by rw [X6_within, if_neg h0, if_pos h1]⟩)
  · exact Or.inr (Or.inr ⟨h0, h1, Int32.not_lt.mp h1, by rw [X6_within, if_neg h0, if_neg h1]⟩)
theorem i_z {k : Nat} (h : k < 2 ^ 31) : (nI k = 0) = (k = 0) := by rw [show (0 : Int32) = nI 0 from rfl, i_eq h (by decide)]
theorem i_lez {k : Nat} (h : k < 2 ^ 31) : (nI k ≤ 0) = (k = 0) := by rw [show (0 : Int32) = nI 0 from rfl, i_le h (by decide)]; exact propext (by omega)
theorem Q.hasP (q : Q t n pc pl st hw np lg t0 need noon w a v xf pf la qf qs qr cf ck co cw sf kn lf ls ef ek gf gs M so ro rek rgs) : (pc = 0 ∧ X5_hasPassage xf qf = some false ∧ M 0 = 0) ∨ (0 < pc ∧ X5_hasPassage xf qf = some true ∧ ¬ M 0 = 0) := by
  have hpc := q.G.2.1
  rw [X5_hasPassage, q.C.2.2.2.1, q.M0]
  by_cases h : pc = 0
  · exact Or.inl ⟨h, by rw [if_pos (by rw [i_lez (by omega)]; exact h)], by rw [if_pos h]; rfl⟩
  · exact Or.inr ⟨by omega, by rw [if_neg (by rw [i_lez (by omega)]; exact h)], by rw [if_neg h]; decide⟩
theorem q_place {P1 P2 : Int32} (q : Q t n pc pl st hw np lg t0 need noon w a v xf pf la qf qs qr cf ck co cw sf kn lf ls ef ek gf gs M so ro rek rgs) :
    ∃ x : Int32, X5_place xf qf qs qr P1 P2 = some x ∧ X6_place M L so ro P1 P2 = some x := by
  have hpc := q.G.2.1
  rw [X5_place, X6_place, q.C.2.2.2.1, q.R.2.2.2.1]
  rcases in_lt P1 (m := pc) (by omega) with ⟨h, e⟩ | ⟨h, h2, e⟩ | ⟨i, hi, rfl, e⟩
  · exact ⟨-101, by rw [if_pos h], by rw [e]; rfl⟩
  · exact ⟨-101, by rw [if_neg h, if_neg (Int32.not_lt.mpr h2)], by rw [e]; rfl⟩
  · rw [if_neg (i_nlt0 (by omega)), if_pos (by rw [i_lt (by omega) (by omega)]; exact hi), e, Option.bind_some, if_neg (show ¬ bz true = 0 by decide)]
    rcases rng P2 0 1 with ⟨h, e⟩ | ⟨h, h2, h3, e⟩ | ⟨h, h2, h3, e⟩
    · exact ⟨-102, by rw [if_pos h], by rw [e]; rfl⟩
    · exact ⟨-102, by rw [if_neg h, if_neg h3], by rw [e]; rfl⟩
    · rw [if_neg h, if_pos h3, e, Option.bind_some, if_neg (show ¬ bz true = 0 by decide), if_pos (xin_nI (by omega) (by omega)), nI_clamp (by omega), if_pos (xin_nI (by omega) (by omega))]
      by_cases h4 : P2 = 0
      · exact ⟨so i, by rw [if_pos h4, e_songAt (by omega), Option.bind_some, q.C.2.2.2.2.1 i hi], by rw [if_pos h4]⟩
      · exact ⟨ro i, by rw [if_neg h4, e_rockAt (by omega), Option.bind_some, q.C.2.2.2.2.2 i hi], by rw [if_neg h4]⟩
theorem e_asInt (b : Bool) : X5_asInt (bz b) = some (bz b) := by cases b <;> rfl
theorem q_about {P1 P2 : Int32} (q : Q t n pc pl st hw np lg t0 need noon w a v xf pf la qf qs qr cf ck co cw sf kn lf ls ef ek gf gs M so ro rek rgs) :
    ∃ x : Int32, X5_about xf qf cf ck co cw sf kn P1 P2 = some x ∧ X6_about M L ck co cw kn P1 P2 = some x := by
  have hn := q.G.1
  rw [X5_about, X6_about]
  rcases known (xf := xf) (L := L) P1 hn q.C.1 q.R.1 with ⟨e1, e2⟩ | ⟨i, hi, rfl, e1, e2⟩
  · exact ⟨-101, by rw [e1]; rfl, by rw [e2]; rfl⟩
  rw [e1, e2, Option.bind_some, Option.bind_some, if_neg (show ¬ bz true = 0 by decide), if_neg (show ¬ bz true = 0 by decide), X6_manNow]
  simp only [if_pos (xin_nI (show i < 5 by omega) (show 5 < 2 ^ 31 by decide)), nI_clamp (show i < 2 ^ 31 by omega), e_kindOf (cf := cf) (ck := ck) (show i < 5 by omega), e_oarOf (cf := cf) (co := co) (show i < 5 by omega), e_willOf (cf := cf) (cw := cw) (show i < 5 by omega), e_isWaxed (sf := sf) (show i < 32 by omega), e_knotsOf (sf := sf) (kn := kn) (show i < 5 by omega), e_isAboard (sf := sf) (show i < 32 by omega), e_isHearing (sf := sf) (qf := qf) (cf := cf) (ck := ck) (show i < 5 by omega), e_holdOn (sf := sf) (kn := kn) (cf := cf) (ck := ck) (cw := cw) (show i < 5 by omega), e_hears (M := M) (L := L) (ck := ck) (show i < 5 by omega), e_holds (M := M) (L := L) (ck := ck) (cw := cw) (kn := kn) (show i < 5 by omega), Option.bind_some, e_asInt, b_bit (show i < 32 by omega)]
  rcases rng P2 0 7 with ⟨h, e⟩ | ⟨h, h2, h3, e⟩ | ⟨h, h2, h3, e⟩
  · refine ⟨-102, ?_, by rw [e]; rfl⟩
    have hne : ∀ k : Int32, ¬ k < 0 → ¬ P2 = k := fun k hk e => hk (e ▸ h)
    rw [if_neg (hne 0 (by decide)), if_neg (hne 1 (by decide)), if_neg (hne 2 (by decide)), if_neg (hne 3 (by decide)), if_neg (hne 4 (by decide)), if_neg (hne 5 (by decide)), if_neg (hne 6 (by decide)), if_neg (hne 7 (by decide))]
  · refine ⟨-102, ?_, by rw [e]; rfl⟩
    have hne : ∀ k : Int32, ¬ 7 < k → ¬ P2 = k := fun k hk e => hk (e ▸ h2)
    rw [if_neg (hne 0 (by decide)), if_neg (hne 1 (by decide)), if_neg (hne 2 (by decide)), if_neg (hne 3 (by decide)), if_neg (hne 4 (by decide)), if_neg (hne 5 (by decide)), if_neg (hne 6 (by decide)), if_neg (hne 7 (by decide))]
  · rw [e, Option.bind_some, if_neg (show ¬ bz true = 0 by decide)]
    obtain ⟨j, hj, rfl⟩ := nI_of2 (n := 7) (by decide) h h3
    have hw1 := q.wc i hi
    have hw2 := q.wr i hi
    rcases (show j = 0 ∨ j = 1 ∨ j = 2 ∨ j = 3 ∨ j = 4 ∨ j = 5 ∨ j = 6 ∨ j = 7 by omega) with rfl | rfl | rfl | rfl | rfl | rfl | rfl | rfl
    · exact ⟨ck i, rfl, rfl⟩
    · exact ⟨co i, rfl, rfl⟩
    · exact ⟨cw i, rfl, rfl⟩
    · exact ⟨bz (w i), by rw [hw1]; rfl, by rw [hw2]; rfl⟩
    · exact ⟨kn i, rfl, rfl⟩
    · have h1 := q.S.1 i (by omega)
      have h2 := q.T.1 i (by omega)
      rw [decide_eq_true hi, Bool.true_and] at h1 h2
      refine ⟨bz (!a i), ?_, by rw [h2]; rfl⟩
      rw [h1]
      cases a i <;> rfl
    · rw [hw1, hw2, q.S.2.2.2.1, q.T.2.2.2.1, q.C.2.2.1, q.R.2.2.1]
      refine ⟨bz (!decide (ck i = 1) && (!w i || !decide (nI st < noon))), rfl, ?_⟩
      show (if bz (!decide (ck i = 1) && (!w i || !decide (nI st < noon))) = 0 then some 0 else some 1 : Option Int32).bind _ = _
      cases (!decide (ck i = 1) && (!w i || !decide (nI st < noon))) <;> rfl
    · exact ⟨sHold ck cw kn i, rfl, rfl⟩
theorem q_as {P1 P2 : Int32} (q : Q t n pc pl st hw np lg t0 need noon w a v xf pf la qf qs qr cf ck co cw sf kn lf ls ef ek gf gs M so ro rek rgs) :
    ∃ x : Int32, X5_as xf cf ck P1 P2 = some x ∧ X6_as M L ck P1 P2 = some x := by
  have hn := q.G.1
  rw [X5_as, X6_as]
  rcases known (xf := xf) (L := L) P1 hn q.C.1 q.R.1 with ⟨e1, e2⟩ | ⟨i, hi, rfl, e1, e2⟩
  · exact ⟨-101, by rw [e1]; rfl, by rw [e2]; rfl⟩
  rw [e1, e2, Option.bind_some, Option.bind_some, if_neg (show ¬ bz true = 0 by decide), if_neg (show ¬ bz true = 0 by decide), X5_isKind]
  rcases rng P2 0 4 with ⟨h, e⟩ | ⟨h, h2, h3, e⟩ | ⟨h, h2, h3, e⟩
  · exact ⟨-102, by rw [if_pos h]; rfl, by rw [e]; rfl⟩
  · exact ⟨-102, by rw [if_neg h, if_pos h2]; rfl, by rw [e]; rfl⟩
  · rw [if_neg h, if_neg h2, e, Option.bind_some, Option.bind_some, if_neg (show ¬ bz true = 0 by decide), if_neg (show ¬ bz true = 0 by decide), X0_isOfKind, e_kindOf (by omega), Option.bind_some, if_pos (xin_nI (by omega) (by omega)), nI_clamp (by omega)]
    by_cases k0 : P2 = 0
    · exact ⟨nI i, by rw [if_pos k0]; rfl, by rw [if_pos k0]⟩
    rw [if_neg k0, if_neg k0]
    by_cases k1 : ck i = P2
    · exact ⟨nI i, by rw [if_pos k1]; rfl, by rw [if_pos k1]⟩
    rw [if_neg k1, if_neg k1]
    by_cases k2 : P2 = 3
    · rw [if_pos k2, if_pos k2]
      by_cases k3 : ck i = 4
      · exact ⟨nI i, by rw [if_pos k3]; rfl, by rw [if_pos k3]⟩
      · exact ⟨-1, by rw [if_neg k3]; rfl, by rw [if_neg k3]⟩
    · exact ⟨-1, by rw [if_neg k2]; rfl, by rw [if_neg k2]⟩
theorem q_wax {P1 P2 : Int32} (q : Q t n pc pl st hw np lg t0 need noon w a v xf pf la qf qs qr cf ck co cw sf kn lf ls ef ek gf gs M so ro rek rgs) :
    ∃ (x : Int32) (sf' M' : Nat → Int32) (w' : Nat → Bool), X5_wax xf cf sf P1 P2 = some (x, sf') ∧ X6_wax M L P1 P2 = some (x, M') ∧ Q t n pc pl st hw np lg t0 need noon w' a v xf pf la qf qs qr cf ck co cw sf' kn lf ls ef ek gf gs M' so ro rek rgs := by
  have hn := q.G.1
  have hh3 := q.hw3
  rw [X5_wax, X6_wax]
  rcases known (xf := xf) (L := L) P1 hn q.C.1 q.R.1 with ⟨e1, e2⟩ | ⟨i, hi, rfl, e1, e2⟩
  · exact ⟨-101, sf, M, w, by rw [e1]; rfl, by rw [e2]; rfl, q⟩
  have h1 := q.S.1 i (by omega)
  have h2 := q.T.1 i (by omega)
  rw [decide_eq_true hi, Bool.true_and] at h1 h2
  rw [e1, e2, Option.bind_some, Option.bind_some, if_neg (show ¬ bz true = 0 by decide), if_neg (show ¬ bz true = 0 by decide), e_isAboard (by omega), e_has (by omega), Option.bind_some, Option.bind_some, h1, h2]
  cases ha : a i with
  | false => exact ⟨-103, sf, M, w, rfl, rfl, q⟩
  | true =>
    rw [if_neg (show ¬ bz true = 0 by decide), if_pos (show bz (!true) = 0 from rfl), q.S.2.2.2.2, q.T.2.2.2.2]
    by_cases h0 : hw = 0
    · have hz : nI hw = 0 := by rw [h0]; rfl
      rw [if_pos hz, if_pos hz, e_isWaxed (by omega), Option.bind_some, e_asInt, Option.bind_some, X4_setWax, b_bit (by omega), q.wc i hi, q.wr i hi]
      have key : ∀ (x y : Int32) (w' : Nat → Bool), (∀ j, j < n → bt x j = w' j) → (∀ j, j < n → bt y j = w' j) → Q t n pc pl st hw np lg t0 need noon w' a v xf pf la qf qs qr cf ck co cw (upd sf 1 x) kn lf ls ef ek gf gs (upd M 12 y) so ro rek rgs := by
        intro x y w' hx hy
        refine ⟨q.sea.M (fun z hz => ud_n _ _ (by omega)), ⟨q.S.wax (fun j hj _ => hx j hj), q.T.wax (fun j hj _ => hy j hj), by rw [ud_s]; exact hx, by rw [ud_s]; exact hy, q.ship.2.2.2.2⟩, q.page.M (ud_n _ _ (by decide)), q.log.M (ud_n _ _ (by decide)), q.time.M (ud_n _ _ (by decide)), q.zr, q.kpt.M (fun z hz => ud_n _ _ (by omega))⟩
      have hbn : ∀ (x : Int32) (j : Nat), j < n → bt (x &&& (((1 : Int32) <<< (nI i &&& 31)) ^^^ (-1 : Int32))) j = (bt x j && !decide (j = i)) := fun x j hj => by rw [b_and, b_not _ (by omega), b_one (by omega) (by omega)]
      have hbo : ∀ (x : Int32) (j : Nat), j < n → bt (x ||| ((1 : Int32) <<< (nI i &&& 31))) j = (bt x j || decide (j = i)) := fun x j hj => by rw [b_or, b_one (by omega) (by omega)]
      by_cases hp : P2 = 0
      · refine ⟨bz (w i), _, _, fun j => w j && !decide (j = i), by rw [if_pos hp]; rfl, by rw [if_pos hp], key _ _ _ (fun j hj => by rw [hbn _ j hj, q.wc j hj]) (fun j hj => by rw [hbn _ j hj, q.wr j hj])⟩
      · refine ⟨bz (w i), _, _, fun j => w j || decide (j = i), by rw [if_neg hp]; rfl, by rw [if_neg hp], key _ _ _ (fun j hj => by rw [hbo _ j hj, q.wc j hj]) (fun j hj => by rw [hbo _ j hj, q.wr j hj])⟩
    · have hz : ¬ nI hw = 0 := by rw [i_z (by omega)]; exact h0
      exact ⟨-103, sf, M, w, by rw [if_neg hz], by rw [if_neg hz], q⟩
theorem q_bind {P1 P2 : Int32} (q : Q t n pc pl st hw np lg t0 need noon w a v xf pf la qf qs qr cf ck co cw sf kn lf ls ef ek gf gs M so ro rek rgs) :
    ∃ (x : Int32) (kn' : Nat → Int32), X5_bind xf cf sf kn P1 P2 = some (x, kn') ∧ X6_bind M L kn P1 P2 = some (x, kn') ∧ Q t n pc pl st hw np lg t0 need noon w a v xf pf la qf qs qr cf ck co cw sf kn' lf ls ef ek gf gs M so ro rek rgs := by
  have hn := q.G.1
  have hh3 := q.hw3
  rw [X5_bind, X6_bind]
  rcases known (xf := xf) (L := L) P1 hn q.C.1 q.R.1 with ⟨e1, e2⟩ | ⟨i, hi, rfl, e1, e2⟩
  · exact ⟨-101, kn, by rw [e1]; rfl, by rw [e2]; rfl, q⟩
  have h1 := q.S.1 i (by omega)
  have h2 := q.T.1 i (by omega)
  rw [decide_eq_true hi, Bool.true_and] at h1 h2
  rw [e1, e2, Option.bind_some, Option.bind_some, if_neg (show ¬ bz true = 0 by decide), if_neg (show ¬ bz true = 0 by decide)]
  rcases rng P2 0 9 with ⟨h, e⟩ | ⟨h, h4, h3, e⟩ | ⟨h, h4, h3, e⟩
  · exact ⟨-102, kn, by rw [if_pos h], by rw [e]; rfl, q⟩
  · exact ⟨-102, kn, by rw [if_neg h, if_neg h3], by rw [e]; rfl, q⟩
  obtain ⟨d, hd, rfl⟩ := nI_of2 (n := 9) (by decide) h h3
  rw [if_neg h, if_pos h3, e, Option.bind_some, if_neg (show ¬ bz true = 0 by decide), e_isAboard (by omega), e_has (by omega), Option.bind_some, Option.bind_some, h1, h2]
  cases ha : a i with
  | false => exact ⟨-103, kn, rfl, rfl, q⟩
  | true =>
    rw [if_neg (show ¬ bz true = 0 by decide), if_pos (show bz (!true) = 0 from rfl), q.S.2.2.2.2, q.T.2.2.2.2]
    by_cases h0 : hw = 0
    · have hz : nI hw = 0 := by rw [h0]; rfl
      refine ⟨kn i, upd kn i (nI d), ?_, ?_, ⟨q.C, q.R, hold_kn q.G hd, q.M0⟩, q.ship, q.page, q.log, q.time, ⟨q.zk.upd (by omega), q.zr.2⟩, q.kpt⟩
      · rw [if_pos hz, e_knotsOf (by omega), Option.bind_some, e_setKnots (by omega), Option.bind_some]
      · rw [if_pos hz, if_pos (xin_nI (by omega) (by omega)), if_pos (xin_nI (by omega) (by omega)), nI_clamp (by omega)]
    · have hz : ¬ nI hw = 0 := by rw [i_z (by omega)]; exact h0
      exact ⟨-103, kn, by rw [if_neg hz], by rw [if_neg hz], q⟩
theorem row_wax {r : Int32 × (Nat → Int32)} (h : X4_row N sf kn qf qs qr cf ck co cw = some r) : r.2 1 = sf 1 := by
  unfold X4_row at h
  simp only [Option.bind_eq_some_iff] at h
  obtain ⟨u1, -, h⟩ := h
  split at h
  · obtain rfl := Option.some.inj h; simp [upd]
  · simp only [Option.bind_eq_some_iff] at h
    obtain ⟨u3, -, u5, -, h⟩ := h
    split at h
    · simp only [Option.bind_eq_some_iff] at h
      obtain ⟨u7, -, h⟩ := h
      split at h
      · obtain rfl := Option.some.inj h; simp [upd]
      · simp only [Option.bind_eq_some_iff] at h
        obtain ⟨u9, h9, h⟩ := h
        obtain rfl := Option.some.inj h
        unfold X4_comeOn at h9
        split at h9
        · obtain rfl := Option.some.inj h9; simp [upd]
        · obtain rfl := Option.some.inj h9; simp [upd]
    · obtain rfl := Option.some.inj h; simp [upd]
theorem q_stroke (q : Q t n pc pl st hw np lg t0 need noon w a v xf pf la qf qs qr cf ck co cw sf kn lf ls ef ek gf gs M so ro rek rgs) (hN : 40 < N) :
    ∃ (x : Int32) (sf' M' : Nat → Int32) (pl' st' hw' : Nat) (a' : Nat → Bool), X5_stroke N xf qf qs qr cf ck co cw sf kn = some (x, sf') ∧ X6_stroke N M L so ro ck co cw kn = some (x, M') ∧ Q (t + 1) n pc pl' st' hw' np lg t0 need noon w a' v xf pf la qf qs qr cf ck co cw sf' kn lf ls ef ek gf gs M' so ro rek rgs := by
  have hn := q.G.1
  have hh3 := q.hw3
  have e1 := e_canGoOn (xf := xf) hn q.G.2.1 q.C q.S hh3
  have e2 := e_isOn (L := L) hn q.G.2.1 q.R q.M0 q.T hh3
  rw [X5_stroke, X6_stroke, e1, e2, Option.bind_some, Option.bind_some]
  cases hg : (decide (0 < pc) && (decide (0 < n) && decide (hw = 0))) with
  | false => exact ⟨-103, sf, M, pl, st, hw, a, by rw [if_pos (show bz false = 0 from rfl)], by rw [if_pos (show bz false = 0 from rfl)], q.up (Nat.le_succ t)⟩
  | true =>
    rw [Bool.and_eq_true, Bool.and_eq_true, decide_eq_true_iff, decide_eq_true_iff, decide_eq_true_iff] at hg
    obtain ⟨g1, g2, rfl⟩ := hg
    have hpl := q.plp g1
    obtain ⟨sf', h1, S'⟩ := cRow (N := N) (need := need) (co := co) q.G.x q.C q.S hpl (by omega)
    obtain ⟨M', h2, -, T', K⟩ := rRow (N := N) (L := L) (need := need) (co := co) q.G.x q.R q.T hpl (by omega)
    have hwx := row_wax h1
    obtain ⟨r1, r2, r3⟩ := sRow_ok (n := n) (need := need) (noon := noon) (sg := so) (rk := ro) (ck := ck) (co := co) (cw := cw) (kn := kn) (w := w) (a := a) (st := st) hpl
    have hst := q.stt
    have hQ : Q (t + 1) n pc (sRow n pc need noon so ro ck co cw kn w a pl st).2.1 (st + 1) (sRow n pc need noon so ro ck co cw kn w a pl st).2.2 np lg t0 need noon w (sRow n pc need noon so ro ck co cw kn w a pl st).1 v xf pf la qf qs qr cf ck co cw sf' kn lf ls ef ek gf gs M' so ro rek rgs := by
      have qu := q.up (Nat.le_succ t)
      refine ⟨qu.sea.M (fun x hx => K x (by omega) (by omega) (by omega) (by omega) (by omega)), ⟨S', T', fun j hj => by rw [show sf' 1 = sf 1 from hwx]; exact q.wc j hj, fun j hj => by rw [K 12 (by decide) (by decide) (by decide) (by decide) (by decide)]; exact q.wr j hj, fun j hj => ?_, r2, fun _ => r1, q.np0, fun h => by omega, by omega⟩, qu.page.M (K 20 (by decide) (by decide) (by decide) (by decide) (by decide)), qu.log.M (K 18 (by decide) (by decide) (by decide) (by decide) (by decide)), qu.time.M (K 1 (by decide) (by decide) (by decide) (by decide) (by decide)), qu.zr, qu.kpt.M (fun x hx => K x (by omega) (by omega) (by omega) (by omega) (by omega))⟩
      cases hb : (sRow n pc need noon so ro ck co cw kn w a pl st).1 j with
      | false => rfl
      | true => exact absurd (r3 j hb) (by rw [q.ab j hj]; decide)
    rw [if_neg (show ¬ bz true = 0 by decide), if_neg (show ¬ bz true = 0 by decide), h1, h2, Option.bind_some, Option.bind_some]
    dsimp only
    by_cases hz : nI (sRow n pc need noon so ro ck co cw kn w a pl st).2.2 = 0
    · refine ⟨nI (sRow n pc need noon so ro ck co cw kn w a pl st).2.1, sf', M', _, _, _, _, ?_, ?_, hQ⟩
      · rw [if_pos (by rw [S'.2.2.2.2]; exact hz), S'.2.2.1]
      · rw [if_pos (by rw [T'.2.2.2.2]; exact hz), T'.2.2.1]
    · refine ⟨-1, sf', M', _, _, _, _, ?_, ?_, hQ⟩
      · rw [if_neg (by rw [S'.2.2.2.2]; exact hz)]
      · rw [if_neg (by rw [T'.2.2.2.2]; exact hz)]
end Q
