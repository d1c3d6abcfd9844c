/-! LAYER 2: one stroke: the spec, and that class and reference do it -/
def sAny (p : Nat → Bool) : Nat → Bool
  | 0 => false
  | i + 1 => sAny p i || p i
theorem sAny_f {p : Nat → Bool} {n : Nat} : sAny p n = false ↔ ∀ j, j < n → p j = false := by
  induction n with
  | zero => exact ⟨fun _ j hj => absurd hj (by omega), fun _ => rfl⟩
  | succ n ih =>
    simp only [sAny, Bool.or_eq_false_iff, ih]
    constructor
    · intro h j hj
      rcases Nat.lt_or_ge j n with h1 | h1
      · exact h.1 j h1
      · obtain rfl : j = n := by omega
        exact h.2
    · intro h
      exact ⟨fun j hj => h j (by omega), h n (by omega)⟩
theorem sAny_congr {p q : Nat → Bool} {n : Nat} (h : ∀ j, j < n → p j = q j) : sAny p n = sAny q n := by
  induction n with
  | zero => rfl
  | succ n ih => simp only [sAny, h n (by omega), ih (fun j hj => h j (by omega))]
/-- a loop that leaves with b at the first i with p i -/
theorem lr_any {ρ : Type} (F : Nat → Nat → Option ρ) (p : Nat → Bool) (n : Nat) (b e : Option ρ) (hs : ∀ k i, i < n → F (k + 1) i = bif p i then b else F k (i + 1)) (hx : ∀ k, F (k + 1) n = e) (N : Nat) (hN : n < N) : F N 0 = bif sAny p n then b else e := by
  have h : ∀ d i N, i + d = n → d < N → (∀ j, j < i → p j = false) → F N i = bif sAny p n then b else e := by
    intro d
    induction d with
    | zero =>
      intro i N hi hN hp
      obtain ⟨k, rfl⟩ : ∃ k, N = k + 1 := ⟨N - 1, by omega⟩
      obtain rfl : i = n := by omega
      rw [hx, sAny_f.mpr hp]; rfl
    | succ d ih =>
      intro i N hi hN hp
      obtain ⟨k, rfl⟩ : ∃ k, N = k + 1 := ⟨N - 1, by omega⟩
      rw [hs k i (by omega)]
      cases hpi : p i with
      | true =>
        cases ha : sAny p n with
        | true => rfl
        | false => rw [sAny_f.mp ha i (by omega)] at hpi; cases hpi
      | false =>
        refine ih (i + 1) k (by omega) (by omega) (fun j hj => ?_)
        rcases Nat.lt_or_ge j i with h1 | h1
        · exact hp j h1
        · obtain rfl : j = i := by omega
          exact hpi
  exact h n 0 N (by omega) hN (fun j hj => absurd hj (by omega))
/-- the set of those i below n with p i, as the loops build it -/
def mk (p : Nat → Bool) : Nat → Int32
  | 0 => 0
  | i + 1 => bif p i then mk p i ||| ((1 : Int32) <<< (nI i &&& 31)) else mk p i
theorem bt_mk {p : Nat → Bool} {n j : Nat} (hn : n ≤ 32) (hj : j < 32) : bt (mk p n) j = (decide (j < n) && p j) := by
  induction n with
  | zero => exact b_0 j
  | succ n ih =>
    have ih := ih (by omega)
    by_cases e : j = n
    · subst e
      rw [decide_eq_true (by omega : j < j + 1)]
      rw [decide_eq_false (by omega : ¬ j < j)] at ih
      simp only [mk]
      cases p j with
      | true => rw [cond_true, b_or, b_one (by omega) hj]; simp
      | false => rw [cond_false, ih]; rfl
    · have h2 : decide (j < n + 1) = decide (j < n) := by
        by_cases h3 : j < n
        · rw [decide_eq_true h3, decide_eq_true (by omega)]
        · rw [decide_eq_false h3, decide_eq_false (by omega)]
      rw [h2, ← ih]
      simp only [mk]
      cases p n with
      | true => rw [cond_true, b_or, b_one (by omega) hj, decide_eq_false e]; simp
      | false => rfl
theorem mk_congr {p q : Nat → Bool} {n : Nat} (h : ∀ j, j < n → p j = q j) : mk p n = mk q n := by
  induction n with
  | zero => rfl
  | succ n ih => simp only [mk, h n (by omega), ih (fun j hj => h j (by omega))]
theorem upd_upd (f : Nat → Int32) (k : Nat) (a b : Int32) : upd (upd f k a) k b = upd f k b := by
  funext j
  simp only [upd]
  split <;> rfl
def sHear (noon : Int32) (ck : Nat → Int32) (w : Nat → Bool) (st j : Nat) : Bool := !decide (ck j = 1) && (!w j || !decide (nI st < noon))
def sPull (g : Int32) (ck : Nat → Int32) (j : Nat) : Int32 := if ck j = 2 then g / 2 else g
def sSwim (noon : Int32) (sg ck cw kn : Nat → Int32) (w a : Nat → Bool) (pl st j : Nat) : Bool := a j && (sHear noon ck w st j && !decide (sPull (sg pl) ck j ≤ sHold ck cw kn j))
def sOars (co kn : Nat → Int32) (a : Nat → Bool) : Nat → Int32
  | 0 => 0
  | j + 1 => bif a j && decide (kn j = 0) then sOars co kn a j + co j else sOars co kn a j
theorem sOars_congr {co kn : Nat → Int32} {a b : Nat → Bool} {n : Nat} (h : ∀ j, j < n → a j = b j) : sOars co kn a n = sOars co kn b n := by
  induction n with
  | zero => rfl
  | succ n ih => simp only [sOars, h n (by omega), ih (fun j hj => h j (by omega))]
def sSees (ck kn : Nat → Int32) (a : Nat → Bool) (j : Nat) : Bool := (a j && decide (kn j = 0)) && (decide (ck j = 3) || decide (ck j = 4))
/-- whether the ship is struck, with a aboard -/
def sStrike (n : Nat) (noon r : Int32) (ck kn : Nat → Int32) (w a : Nat → Bool) (st : Nat) : Bool :=
  (decide (r = 1) && !sAny (fun j => a j && sHear noon ck w st j) n) || (decide (r = 2) && !sAny (sSees ck kn a) n)
theorem sStrike_congr {n : Nat} {noon r : Int32} {ck kn : Nat → Int32} {w v a b : Nat → Bool} {st : Nat} (h : ∀ j, j < n → a j = b j) (hw : ∀ j, j < n → a j = true → w j = v j) : sStrike n noon r ck kn w a st = sStrike n noon r ck kn v b st := by
  unfold sStrike
  rw [sAny_congr (q := fun j => b j && sHear noon ck v st j) (fun j hj => ?_), sAny_congr (p := sSees ck kn a) (q := sSees ck kn b) (fun j hj => by simp only [sSees, h j hj])]
  rw [← h j hj]
  cases ha : a j with
  | false => rfl
  | true => simp only [sHear, hw j hj ha]
/-- a stroke: who is aboard then, the place, how it is -/
def sRow (n pc : Nat) (need noon : Int32) (sg rk ck co cw kn : Nat → Int32) (w a : Nat → Bool) (pl st : Nat) : (Nat → Bool) × Nat × Nat :=
  let a1 : Nat → Bool := fun j => a j && !sSwim noon sg ck cw kn w a pl st j
  bif !sAny a1 n then (a1, pl, 3)
  else bif sStrike n noon (rk pl) ck kn w a1 st then (fun _ => false, pl, 2)
  else if sOars co kn a1 n < need then (a1, pl, 0)
  else if pl + 1 < pc then (a1, pl + 1, 0) else (a1, pl, 1)
-- ===== the class =====
section CL
variable {sf kn qf qs qr cf ck co cw : Nat → Int32} {n N : Nat}
def qSwim (sf qf : Nat → Int32) (g : Int32) (ck cw kn : Nat → Int32) (j : Nat) : Bool := bt (sf 2) j && ((!decide (ck j = 1) && (!bt (sf 1) j || !decide (sf 4 < qf 3))) && !decide (sPull g ck j ≤ sHold ck cw kn j))
theorem e_swimmersL {g : Int32} (hn : n ≤ 5) (hcf : cf 3 = nI n) (hN : 5 < N) : X4_swimmersAt_15 N sf kn qf qs cf ck cw N g 0 0 = some (mk (qSwim sf qf g ck cw kn) n) := by
  refine lr (fun k (z : Int32 × Int32) => X4_swimmersAt_15 N sf kn qf qs cf ck cw k g z.1 z.2) (fun i => (mk (qSwim sf qf g ck cw kn) i, nI i)) n _ (fun k i hi => ?_) (fun k => ?_) N (by omega)
  · show X4_swimmersAt_15 N sf kn qf qs cf ck cw (k + 1) g _ (nI i) = X4_swimmersAt_15 N sf kn qf qs cf ck cw k g _ (nI (i + 1))
    have hg : ¬ nI n ≤ nI i := by rw [i_le (by omega) (by omega)]; omega
    rw [X4_swimmersAt_15, hcf, if_neg hg, e_kindOf (by omega), e_isAboard (by omega), e_isHearing (by omega), e_holdOn (by omega), nI_1]
    simp only [Option.bind_some, bz_eq0, mk]
    have hq : qSwim sf qf g ck cw kn i = (bt (sf 2) i && ((!decide (ck i = 1) && (!bt (sf 1) i || !decide (sf 4 < qf 3))) && !decide (sPull g ck i ≤ sHold ck cw kn i))) := rfl
    rw [hq]
    generalize (!decide (ck i = 1) && (!bt (sf 1) i || !decide (sf 4 < qf 3))) = z
    by_cases h1 : ck i = 2
    · rw [if_pos h1, sPull, if_pos h1]
      cases bt (sf 2) i with
      | false => rfl
      | true =>
        cases z with
        | false => rfl
        | true =>
          by_cases h2 : g / 2 ≤ sHold ck cw kn i
          · simp [h2]
          · simp [h2]
    · rw [if_neg h1, sPull, if_neg h1]
      cases bt (sf 2) i with
      | false => rfl
      | true =>
        cases z with
        | false => rfl
        | true =>
          by_cases h2 : g ≤ sHold ck cw kn i
          · simp [h2]
          · simp [h2]
  · show X4_swimmersAt_15 N sf kn qf qs cf ck cw (k + 1) g _ (nI n) = _
    rw [X4_swimmersAt_15, hcf, if_pos (by rw [i_le (by omega) (by omega)]; omega)]
theorem e_freeOars (hn : n ≤ 5) (hcf : cf 3 = nI n) (hN : 5 < N) : X4_freeOars N sf kn cf co = some (sOars co kn (fun j => bt (sf 2) j) n) := by
  rw [X4_freeOars]
  refine lr (fun k (z : Int32 × Int32) => X4_freeOars_4 N sf kn cf co k z.1 z.2) (fun i => (sOars co kn (fun j => bt (sf 2) j) i, nI i)) n _ (fun k i hi => ?_) (fun k => ?_) N (by omega)
  · show X4_freeOars_4 N sf kn cf co (k + 1) _ (nI i) = X4_freeOars_4 N sf kn cf co k _ (nI (i + 1))
    have hg : ¬ nI n ≤ nI i := by rw [i_le (by omega) (by omega)]; omega
    rw [X4_freeOars_4, hcf, if_neg hg, e_isFree (by omega), e_oarOf (by omega), nI_1]
    simp only [Option.bind_some, bz_eq0, sOars]
    cases (bt (sf 2) i && decide (kn i = 0)) with
    | false => rfl
    | true => rfl
  · show X4_freeOars_4 N sf kn cf co (k + 1) _ (nI n) = _
    rw [X4_freeOars_4, hcf, if_pos (by rw [i_le (by omega) (by omega)]; omega)]
def qHear (sf qf ck : Nat → Int32) (j : Nat) : Bool := bt (sf 2) j && (!decide (ck j = 1) && (!bt (sf 1) j || !decide (sf 4 < qf 3)))
theorem e_isStriking {r : Int32} (hn : n ≤ 5) (hcf : cf 3 = nI n) (hN : 5 < N) (hr : r = 0 ∨ r = 1 ∨ r = 2) : X4_isStriking N sf kn qf cf ck r = some ((decide (r = 1) && !sAny (qHear sf qf ck) n) || (decide (r = 2) && !sAny (sSees ck kn (fun j => bt (sf 2) j)) n)) := by
  rw [X4_isStriking]
  rcases hr with rfl | rfl | rfl
  · rfl
  · rw [if_neg (by decide)]
    have h := lr_any (fun k i => X4_isStriking_9 N sf kn qf cf ck k 1 (nI i)) (qHear sf qf ck) n (some false) (some true)
      (fun k i hi => by
        have hg : ¬ nI n ≤ nI i := by rw [i_le (by omega) (by omega)]; omega
        show X4_isStriking_9 N sf kn qf cf ck (k + 1) 1 (nI i) = _
        rw [X4_isStriking_9, hcf, if_neg hg, if_pos rfl, e_isAboard (by omega), e_isHearing (by omega), nI_1]
        simp only [Option.bind_some, bz_eq0]
        rw [if_neg (by decide : ¬ (1 : Int32) = 2)]
        have hq : qHear sf qf ck i = (bt (sf 2) i && (!decide (ck i = 1) && (!bt (sf 1) i || !decide (sf 4 < qf 3)))) := rfl
        rw [hq]
        generalize (!decide (ck i = 1) && (!bt (sf 1) i || !decide (sf 4 < qf 3))) = z
        cases bt (sf 2) i with
        | false => rfl
        | true => cases z <;> rfl)
      (fun k => by
        show X4_isStriking_9 N sf kn qf cf ck (k + 1) 1 (nI n) = _
        rw [X4_isStriking_9, hcf, if_pos (by rw [i_le (by omega) (by omega)]; omega)]) N (by omega)
    refine Eq.trans h ?_
    cases sAny (qHear sf qf ck) n <;> rfl
  · rw [if_neg (by decide)]
    have h := lr_any (fun k i => X4_isStriking_9 N sf kn qf cf ck k 2 (nI i)) (sSees ck kn (fun j => bt (sf 2) j)) n (some false) (some true)
      (fun k i hi => by
        have hg : ¬ nI n ≤ nI i := by rw [i_le (by omega) (by omega)]; omega
        show X4_isStriking_9 N sf kn qf cf ck (k + 1) 2 (nI i) = _
        rw [X4_isStriking_9, hcf, if_neg hg, if_neg (by decide : ¬ (2 : Int32) = 1), if_pos rfl, e_isFree (by omega), e_sails (by omega), nI_1]
        simp only [Option.bind_some, bz_eq0, sSees]
        cases (bt (sf 2) i && decide (kn i = 0)) with
        | false => rfl
        | true => cases (decide (ck i = 3) || decide (ck i = 4)) <;> rfl)
      (fun k => by
        show X4_isStriking_9 N sf kn qf cf ck (k + 1) 2 (nI n) = _
        rw [X4_isStriking_9, hcf, if_pos (by rw [i_le (by omega) (by omega)]; omega)]) N (by omega)
    refine Eq.trans h ?_
    cases sAny (sSees ck kn (fun j => bt (sf 2) j)) n <;> rfl
end CL
