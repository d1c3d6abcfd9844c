/-! LAYER 2: the small methods of class and reference, each as what it answers -/
theorem ite_b {c : Prop} [Decidable c] {b : Bool} (h : c ↔ b = false) : (if c then some false else some true : Option Bool) = some b := by
  cases b with
  | false => rw [if_pos (h.mpr rfl)]
  | true => rw [if_neg (fun q => by cases h.mp q)]
theorem x_arr {i n : Nat} {lit : Int32} (hl : lit = nI n) (h : i < n) (hn : n < 2 ^ 31) {α : Type} {a b c : α} {d : Option α} : (if nI i < 0 then some a else (if lit ≤ nI i then some b else (if xin (nI i) n then some c else d))) = some c := by
  subst hl
  rw [if_neg (i_nlt0 (by omega)), if_neg (by rw [i_le (by omega) (by omega)]; omega), if_pos (xin_nI h hn)]
theorem e_kindOf {cf ck : Nat → Int32} {i : Nat} (h : i < 5) : X0_kindOf cf ck (nI i) = some (ck i) := by
  rw [X0_kindOf, x_arr (n := 5) (lit := 5) rfl h (by omega), nI_clamp (by omega)]
theorem e_oarOf {cf co : Nat → Int32} {i : Nat} (h : i < 5) : X0_oarOf cf co (nI i) = some (co i) := by
  rw [X0_oarOf, x_arr (n := 5) (lit := 5) rfl h (by omega), nI_clamp (by omega)]
theorem e_willOf {cf cw : Nat → Int32} {i : Nat} (h : i < 5) : X0_willOf cf cw (nI i) = some (cw i) := by
  rw [X0_willOf, x_arr (n := 5) (lit := 5) rfl h (by omega), nI_clamp (by omega)]
theorem e_knotsOf {sf kn : Nat → Int32} {i : Nat} (h : i < 5) : X4_knotsOf sf kn (nI i) = some (kn i) := by
  rw [X4_knotsOf, x_arr (n := 5) (lit := 5) rfl h (by omega), nI_clamp (by omega)]
theorem e_setKnots {sf kn : Nat → Int32} {i : Nat} {v : Int32} (h : i < 5) : X4_setKnots sf kn (nI i) v = some (upd kn i v) := by
  rw [X4_setKnots, x_arr (n := 5) (lit := 5) rfl h (by omega), nI_clamp (by omega)]
theorem e_songAt {qf qs : Nat → Int32} {i : Nat} (h : i < 12) : X3_songAt qf qs (nI i) = some (qs i) := by
  rw [X3_songAt, x_arr (n := 12) (lit := 12) rfl h (by omega), nI_clamp (by omega)]
theorem e_rockAt {qf qr : Nat → Int32} {i : Nat} (h : i < 12) : X3_rockAt qf qr (nI i) = some (qr i) := by
  rw [X3_rockAt, x_arr (n := 12) (lit := 12) rfl h (by omega), nI_clamp (by omega)]
theorem e_setSong {qf qs : Nat → Int32} {i : Nat} {v : Int32} (h : i < 12) : X3_setSong qf qs (nI i) v = some (upd qs i v) := by
  rw [X3_setSong, x_arr (n := 12) (lit := 12) rfl h (by omega), nI_clamp (by omega)]
theorem e_setAt {lf ls : Nat → Int32} {i : Nat} (h : i < 8) : X1_setAt lf ls (nI i) = some (ls i) := by
  rw [X1_setAt, x_arr (n := 8) (lit := 8) rfl h (by omega), nI_clamp (by omega)]
theorem e_codeAt {pf la : Nat → Int32} {i : Nat} (h : i < 30) : X2_codeAt pf la (nI i) = some (la i) := by
  rw [X2_codeAt, x_arr (n := 30) (lit := 30) rfl h (by omega), nI_clamp (by omega)]
theorem e_isAboard {sf : Nat → Int32} {i : Nat} (h : i < 32) : X4_isAboard sf (nI i) = some (bt (sf 2) i) := ite_b (b_test h)
theorem e_isWaxed {sf : Nat → Int32} {i : Nat} (h : i < 32) : X4_isWaxed sf (nI i) = some (bt (sf 1) i) := ite_b (b_test h)
theorem e_has {x : Int32} {i : Nat} (h : i < 32) : X6_has x (nI i) = some (bt x i) := by
  rw [X6_has, b_bit h]
  cases bt x i <;> rfl
theorem e_isHearing {sf qf cf ck : Nat → Int32} {i : Nat} (h : i < 5) : X4_isHearing sf qf cf ck (nI i) = some (!decide (ck i = 1) && (!bt (sf 1) i || !decide (sf 4 < qf 3))) := by
  rw [X4_isHearing, e_kindOf h]
  show (if ck i = 1 then _ else _) = _
  by_cases h1 : ck i = 1
  · rw [if_pos h1, decide_eq_true h1]; rfl
  · rw [if_neg h1, decide_eq_false h1, e_isWaxed (by omega)]
    show (if bz (bt (sf 1) i) = 0 then _ else _) = _
    cases bt (sf 1) i with
    | false => rfl
    | true =>
      show (if sf 4 < qf 3 then some false else some true) = _
      by_cases h2 : sf 4 < qf 3
      · rw [if_pos h2, decide_eq_true h2]; rfl
      · rw [if_neg h2, decide_eq_false h2]; rfl
def sHold (ck cw kn : Nat → Int32) (j : Nat) : Int32 := if ck j = 4 then cw j + 3 * kn j else cw j + 2 * kn j
theorem e_holdOn {sf kn cf ck cw : Nat → Int32} {i : Nat} (h : i < 5) : X4_holdOn sf kn cf ck cw (nI i) = some (sHold ck cw kn i) := by
  rw [X4_holdOn, e_kindOf h]
  show (if ck i = 4 then _ else _) = _
  rw [e_willOf h]
  show (if ck i = 4 then (X4_knotsOf sf kn (nI i)).bind _ else (X4_knotsOf sf kn (nI i)).bind _) = _
  rw [e_knotsOf h, sHold]
  by_cases h1 : ck i = 4
  · rw [if_pos h1, if_pos h1]; rfl
  · rw [if_neg h1, if_neg h1]; rfl
theorem e_isFree {sf kn : Nat → Int32} {i : Nat} (h : i < 5) : X4_isFree sf kn (nI i) = some (bt (sf 2) i && decide (kn i = 0)) := by
  rw [X4_isFree, e_isAboard (by omega)]
  show (if bz (bt (sf 2) i) = 0 then _ else _) = _
  cases bt (sf 2) i with
  | false => rfl
  | true =>
    show (X4_knotsOf sf kn (nI i)).bind _ = _
    rw [e_knotsOf h]
    show (if kn i = 0 then some true else some false) = _
    by_cases h1 : kn i = 0
    · rw [if_pos h1, decide_eq_true h1]; rfl
    · rw [if_neg h1, decide_eq_false h1]; rfl
theorem e_sails {cf ck : Nat → Int32} {i : Nat} (h : i < 5) : X0_isOfKind cf ck (nI i) 3 = some (decide (ck i = 3) || decide (ck i = 4)) := by
  rw [X0_isOfKind, e_kindOf h]
  show (if (3 : Int32) = 0 then some true else (if ck i = 3 then some true else (if (3 : Int32) = 3 then (if ck i = 4 then some true else some false) else _))) = _
  rw [if_neg (by decide)]
  by_cases h1 : ck i = 3
  · rw [if_pos h1, decide_eq_true h1]; rfl
  · rw [if_neg h1, decide_eq_false h1, if_pos rfl]
    by_cases h2 : ck i = 4
    · rw [if_pos h2, decide_eq_true h2]; rfl
    · rw [if_neg h2, decide_eq_false h2]; rfl
theorem e_hears {M : Nat → Int32} {L : Nat → Int64} {ck : Nat → Int32} {i : Nat} (h : i < 5) : X6_hears M L ck (nI i) = some (!decide (ck i = 1) && (!bt (M 12) i || !decide (M 15 < M 3))) := by
  rw [X6_hears, if_pos (xin_nI h (by omega)), nI_clamp (by omega)]
  by_cases h1 : ck i = 1
  · rw [if_pos h1, decide_eq_true h1]; rfl
  · rw [if_neg h1, decide_eq_false h1, e_has (by omega)]
    show (if bz (bt (M 12) i) = 0 then _ else _) = _
    cases bt (M 12) i with
    | false => rfl
    | true =>
      show (if M 15 < M 3 then some false else some true) = _
      by_cases h2 : M 15 < M 3
      · rw [if_pos h2, decide_eq_true h2]; rfl
      · rw [if_neg h2, decide_eq_false h2]; rfl
theorem e_holds {M : Nat → Int32} {L : Nat → Int64} {ck cw kn : Nat → Int32} {i : Nat} (h : i < 5) : X6_holds M L ck cw kn (nI i) = some (sHold ck cw kn i) := by
  rw [X6_holds, if_pos (xin_nI h (by omega)), if_pos (xin_nI h (by omega)), if_pos (xin_nI h (by omega)), nI_clamp (by omega), sHold]
  by_cases h1 : ck i = 4
  · rw [if_pos h1, if_pos h1, Int32.mul_comm]
  · rw [if_neg h1, if_neg h1, Int32.mul_comm]
theorem e_swims {M : Nat → Int32} {L : Nat → Int64} {ck cw kn : Nat → Int32} {i : Nat} {g : Int32} (h : i < 5) : X6_swims M L ck cw kn (nI i) g = some (!bt (M 13) i && ((!decide (ck i = 1) && (!bt (M 12) i || !decide (M 15 < M 3))) && !decide ((if ck i = 2 then g / 2 else g) ≤ sHold ck cw kn i))) := by
  rw [X6_swims, if_pos (xin_nI h (by omega)), nI_clamp (by omega), e_has (by omega), e_hears h, e_holds h]
  generalize (!decide (ck i = 1) && (!bt (M 12) i || !decide (M 15 < M 3))) = z
  have key : ∀ q : Int32, ((some (bt (M 13) i)).bind fun u2 => (if bz u2 = 0 then ((some z).bind fun u4 => (if bz u4 = 0 then some false else ((some (sHold ck cw kn i)).bind fun u6 => (if q ≤ u6 then some false else some true)))) else some false)) = some (!bt (M 13) i && (z && !decide (q ≤ sHold ck cw kn i))) := by
    intro q
    cases bt (M 13) i with
    | true => rfl
    | false =>
      cases z with
      | false => rfl
      | true =>
        show (if q ≤ sHold ck cw kn i then some false else some true) = _
        by_cases h2 : q ≤ sHold ck cw kn i
        · rw [if_pos h2, decide_eq_true h2]; rfl
        · rw [if_neg h2, decide_eq_false h2]; rfl
  by_cases h1 : ck i = 2
  · rw [if_pos h1, if_pos h1]; exact key _
  · rw [if_neg h1, if_neg h1]; exact key _
