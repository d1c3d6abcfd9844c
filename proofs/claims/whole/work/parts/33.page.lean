/-! LAYER 2: the page: FAULT and PASSAGE -/
def isS (v : Nat) : Bool := decide (v = 115) || decide (v = 98)
def isP (v : Nat) : Bool := decide (v = 46) || (decide (v = 114) || decide (v = 101))
def rkv (v : Nat) : Nat := if v = 114 ∨ v = 98 then 1 else if v = 101 then 2 else 0
def pNext (v : Nat → Nat) (i q m : Nat) (S R : Nat → Int32) : Option (Nat × Nat × (Nat → Int32) × (Nat → Int32)) :=
  if q = 0 then (if 48 ≤ v i ∧ v i ≤ 52 then some (1, m, S, R) else none)
  else if q = 1 then (if 48 ≤ v i ∧ v i ≤ (if v 0 = 52 then 53 else 57) then some (2, m, S, R) else none)
  else if q = 2 then (if 49 ≤ v i ∧ v i ≤ 57 then some (3, m, S, R) else none)
  else if q = 3 then (if v i = 58 then some (4, m, S, R) else none)
  else if q = 6 then (if 49 ≤ v i ∧ v i ≤ 57 then some (5, m, upd S (m - 1) (nI (v i - 48)), R) else none)
  else (if m < 12 ∧ (isS (v i) || isP (v i)) = true then some ((if isS (v i) = true then 6 else 5), m + 1, upd S m 0, upd R m (nI (rkv (v i)))) else none)
def pRun (v : Nat → Nat) : Nat → Nat → Nat → Nat → (Nat → Int32) → (Nat → Int32) → Nat × Nat × Nat × (Nat → Int32) × (Nat → Int32)
  | 0, i, q, m, S, R => (i, q, m, S, R)
  | e + 1, i, q, m, S, R => match pNext v i q m S R with
    | none => (i, q, m, S, R)
    | some z => pRun v e (i + 1) z.1 z.2.1 z.2.2.1 z.2.2.2
def pInv (v : Nat → Nat) (i q m : Nat) : Prop :=
  m ≤ 12 ∧ ((i < 4 ∧ q = i ∧ m = 0) ∨ (4 ≤ i ∧ 4 ≤ q ∧ q ≤ 6 ∧ (q = 4 ↔ i = 4) ∧ (q ≠ 4 → 1 ≤ m))) ∧ (1 ≤ i → 48 ≤ v 0 ∧ v 0 ≤ 52) ∧ (2 ≤ i → 48 ≤ v 1 ∧ v 1 ≤ 57) ∧ (3 ≤ i → 49 ≤ v 2 ∧ v 2 ≤ 57) ∧ (4 < i → (q = 6 ↔ isS (v (i - 1)) = true))
def pDat (m : Nat) (S R : Nat → Int32) : Prop := (∀ k, k < m → ∃ s, s ≤ 9 ∧ S k = nI s) ∧ (∀ k, k < m → R k = 0 ∨ R k = 1 ∨ R k = 2)
theorem isS_cases {v : Nat} : isS v = true ↔ v = 115 ∨ v = 98 := by simp [isS]
theorem isP_cases {v : Nat} : isP v = true ↔ v = 46 ∨ v = 114 ∨ v = 101 := by simp [isP]
theorem pInv0 (v : Nat → Nat) : pInv v 0 0 0 := ⟨by omega, Or.inl ⟨by omega, rfl, rfl⟩, by omega, by omega, by omega, by omega⟩
theorem pNext_inv {v : Nat → Nat} {i q m : Nat} {S R : Nat → Int32} {z : Nat × Nat × (Nat → Int32) × (Nat → Int32)} (h : pInv v i q m) (e : pNext v i q m S R = some z) : pInv v (i + 1) z.1 z.2.1 := by
  obtain ⟨h1, h2, h3, h4, h5, h6⟩ := h
  rw [pNext] at e
  by_cases q0 : q = 0
  · rw [if_pos q0] at e
    have hi : i = 0 := by omega
    subst hi
    by_cases c : 48 ≤ v 0 ∧ v 0 ≤ 52
    · rw [if_pos c] at e
      obtain rfl := Option.some.inj e
      show pInv v (0 + 1) 1 m
      exact ⟨h1, Or.inl ⟨by omega, rfl, by omega⟩, fun _ => c, by omega, by omega, by omega⟩
    · rw [if_neg c] at e; exact absurd e (by simp)
  rw [if_neg q0] at e
  by_cases q1 : q = 1
  · rw [if_pos q1] at e
    have hi : i = 1 := by omega
    subst hi
    by_cases c : 48 ≤ v 1 ∧ v 1 ≤ (if v 0 = 52 then 53 else 57)
    · rw [if_pos c] at e
      obtain rfl := Option.some.inj e
      have c2 : v 1 ≤ 57 := by
        have := c.2
        by_cases w : v 0 = 52
        · rw [if_pos w] at this; omega
        · rw [if_neg w] at this; exact this
      show pInv v (1 + 1) 2 m
      exact ⟨h1, Or.inl ⟨by omega, rfl, by omega⟩, fun _ => h3 (by omega), fun _ => ⟨c.1, c2⟩, by omega, by omega⟩
    · rw [if_neg c] at e; exact absurd e (by simp)
  rw [if_neg q1] at e
  by_cases q2 : q = 2
  · rw [if_pos q2] at e
    have hi : i = 2 := by omega
    subst hi
    by_cases c : 49 ≤ v 2 ∧ v 2 ≤ 57
    · rw [if_pos c] at e
      obtain rfl := Option.some.inj e
      show pInv v (2 + 1) 3 m
      exact ⟨h1, Or.inl ⟨by omega, rfl, by omega⟩, fun _ => h3 (by omega), fun _ => h4 (by omega), fun _ => c, by omega⟩
    · rw [if_neg c] at e; exact absurd e (by simp)
  rw [if_neg q2] at e
  by_cases q3 : q = 3
  · rw [if_pos q3] at e
    have hi : i = 3 := by omega
    subst hi
    by_cases c : v 3 = 58
    · rw [if_pos c] at e
      obtain rfl := Option.some.inj e
      show pInv v (3 + 1) 4 m
      exact ⟨h1, Or.inr ⟨by omega, by omega, by omega, by omega, by omega⟩, fun _ => h3 (by omega), fun _ => h4 (by omega), fun _ => h5 (by omega), by omega⟩
    · rw [if_neg c] at e; exact absurd e (by simp)
  rw [if_neg q3] at e
  by_cases q6 : q = 6
  · rw [if_pos q6] at e
    by_cases c : 49 ≤ v i ∧ v i ≤ 57
    · rw [if_pos c] at e
      obtain rfl := Option.some.inj e
      show pInv v (i + 1) 5 m
      refine ⟨h1, Or.inr ⟨by omega, by omega, by omega, by omega, fun _ => by omega⟩, fun _ => h3 (by omega), fun _ => h4 (by omega), fun _ => h5 (by omega), fun _ => ?_⟩
      rw [Nat.add_sub_cancel, isS_cases]
      omega
    · rw [if_neg c] at e; exact absurd e (by simp)
  rw [if_neg q6] at e
  by_cases c : m < 12 ∧ (isS (v i) || isP (v i)) = true
  · rw [if_pos c] at e
    obtain rfl := Option.some.inj e
    show pInv v (i + 1) (if isS (v i) = true then 6 else 5) (m + 1)
    by_cases w : isS (v i) = true
    · rw [if_pos w]
      refine ⟨by omega, Or.inr ⟨by omega, by omega, by omega, by omega, fun _ => by omega⟩, fun _ => h3 (by omega), fun _ => h4 (by omega), fun _ => h5 (by omega), fun _ => ?_⟩
      rw [Nat.add_sub_cancel, w]
      exact ⟨fun _ => rfl, fun _ => rfl⟩
    · rw [if_neg w]
      refine ⟨by omega, Or.inr ⟨by omega, by omega, by omega, by omega, fun _ => by omega⟩, fun _ => h3 (by omega), fun _ => h4 (by omega), fun _ => h5 (by omega), fun _ => ?_⟩
      rw [Nat.add_sub_cancel]
      exact ⟨fun q => by omega, fun q => absurd q w⟩
  · rw [if_neg c] at e; exact absurd e (by simp)
theorem pNext_dat {v : Nat → Nat} {i q m : Nat} {S R : Nat → Int32} {z : Nat × Nat × (Nat → Int32) × (Nat → Int32)} (h : pDat m S R) (e : pNext v i q m S R = some z) : pDat z.2.1 z.2.2.1 z.2.2.2 := by
  obtain ⟨d1, d2⟩ := h
  rw [pNext] at e
  have base : ∀ {c : Prop} [Decidable c] {a : Nat}, (if c then some (a, m, S, R) else none) = some z → pDat z.2.1 z.2.2.1 z.2.2.2 := by
    intro c _ a e
    by_cases c0 : c
    · rw [if_pos c0] at e
      obtain rfl := Option.some.inj e
      exact ⟨d1, d2⟩
    · rw [if_neg c0] at e; exact absurd e (by simp)
  by_cases q0 : q = 0
  · rw [if_pos q0] at e; exact base e
  rw [if_neg q0] at e
  by_cases q1 : q = 1
  · rw [if_pos q1] at e; exact base e
  rw [if_neg q1] at e
  by_cases q2 : q = 2
  · rw [if_pos q2] at e; exact base e
  rw [if_neg q2] at e
  by_cases q3 : q = 3
  · rw [if_pos q3] at e; exact base e
  rw [if_neg q3] at e
  by_cases q6 : q = 6
  · rw [if_pos q6] at e
    by_cases c : 49 ≤ v i ∧ v i ≤ 57
    · rw [if_pos c] at e
      obtain rfl := Option.some.inj e
      show pDat m (upd S (m - 1) (nI (v i - 48))) R
      refine ⟨fun k hk => ?_, d2⟩
      by_cases w : k = m - 1
      · subst w; exact ⟨v i - 48, by omega, ud_s _ _ _⟩
      · obtain ⟨s, hs, es⟩ := d1 k hk
        exact ⟨s, hs, by rw [ud_n _ _ w, es]⟩
    · rw [if_neg c] at e; exact absurd e (by simp)
  rw [if_neg q6] at e
  by_cases c : m < 12 ∧ (isS (v i) || isP (v i)) = true
  · rw [if_pos c] at e
    obtain rfl := Option.some.inj e
    show pDat (m + 1) (upd S m 0) (upd R m (nI (rkv (v i))))
    refine ⟨fun k hk => ?_, fun k hk => ?_⟩
    · by_cases w : k = m
      · subst w; exact ⟨0, by omega, ud_s _ _ _⟩
      · obtain ⟨s, hs, es⟩ := d1 k (by omega)
        exact ⟨s, hs, by rw [ud_n _ _ w, es]⟩
    · by_cases w : k = m
      · subst w
        rw [ud_s, rkv]
        by_cases g : v i = 114 ∨ v i = 98
        · rw [if_pos g]; exact Or.inr (Or.inl rfl)
        · rw [if_neg g]
          by_cases g2 : v i = 101
          · rw [if_pos g2]; exact Or.inr (Or.inr rfl)
          · rw [if_neg g2]; exact Or.inl rfl
      · rw [ud_n _ _ w]; exact d2 k (by omega)
  · rw [if_neg c] at e; exact absurd e (by simp)
-- ===== the class =====
theorem e_isSong {v : Nat} (h : v < 127) : X2_isSong (nI v) = some (isS v) := (by decide +kernel : ∀ v, v < 127 → X2_isSong (nI v) = some (isS v)) v h
theorem e_begins {v : Nat} (h : v < 127) : X2_beginsPlace (nI v) = some (isS v || isP v) := (by decide +kernel : ∀ v, v < 127 → X2_beginsPlace (nI v) = some (isS v || isP v)) v h
theorem e_rockBy {v : Nat} (h : v < 127) : X3_rockBy (nI v) = some (nI (rkv v)) := (by decide +kernel : ∀ v, v < 127 → X3_rockBy (nI v) = some (nI (rkv v))) v h
theorem e_within {v a b : Nat} (h : v < 127) (ha : a < 10) (hb : b < 10) : X6_within (nI v - 48) (nI a) (nI b) = some (decide (48 + a ≤ v ∧ v ≤ 48 + b)) := (by decide +kernel : ∀ v, v < 127 → ∀ a, a < 10 → ∀ b, b < 10 → X6_within (nI v - 48) (nI a) (nI b) = some (decide (48 + a ≤ v ∧ v ≤ 48 + b))) v h a ha b hb
section PG
variable {v : Nat → Nat} {np N : Nat} {la pf : Nat → Int32}
theorem rg {x a b : Nat} (hx : x < 127) {A B : Int32} (hA : A = nI a) (hB : B = nI b) (ha : a < 127) (hb : b < 127) : (if nI x < A then some false else if B < nI x then some false else some true : Option Bool) = some (decide (a ≤ x ∧ x ≤ b)) := by
  subst hA; subst hB
  by_cases c : x < a
  · rw [if_pos (by rw [i_lt (by omega) (by omega)]; exact c), decide_eq_false (by omega)]
  · rw [if_neg (by rw [i_lt (by omega) (by omega)]; exact c)]
    by_cases d : b < x
    · rw [if_pos (by rw [i_lt (by omega) (by omega)]; exact d), decide_eq_false (by omega)]
    · rw [if_neg (by rw [i_lt (by omega) (by omega)]; exact d), decide_eq_true (by omega)]
theorem is_ite {α : Type} {c : Prop} [Decidable c] {x : α} : (if c then some x else none).isSome = decide c := by
  by_cases h : c
  · rw [if_pos h, decide_eq_true h]; rfl
  · rw [if_neg h, decide_eq_false h]; rfl
theorem pN0 {m : Nat} {S R : Nat → Int32} : pNext v 0 0 m S R = if 48 ≤ v 0 ∧ v 0 ≤ 52 then some (1, m, S, R) else none := rfl
theorem pN1 {m : Nat} {S R : Nat → Int32} : pNext v 1 1 m S R = if 48 ≤ v 1 ∧ v 1 ≤ (if v 0 = 52 then 53 else 57) then some (2, m, S, R) else none := rfl
theorem pN2 {m : Nat} {S R : Nat → Int32} : pNext v 2 2 m S R = if 49 ≤ v 2 ∧ v 2 ≤ 57 then some (3, m, S, R) else none := rfl
theorem pN3 {m : Nat} {S R : Nat → Int32} : pNext v 3 3 m S R = if v 3 = 58 then some (4, m, S, R) else none := rfl
theorem pN6 {i m : Nat} {S R : Nat → Int32} : pNext v i 6 m S R = if 49 ≤ v i ∧ v i ≤ 57 then some (5, m, upd S (m - 1) (nI (v i - 48)), R) else none := rfl
theorem pN45 {i q m : Nat} {S R : Nat → Int32} (h : q = 4 ∨ q = 5) : pNext v i q m S R = if m < 12 ∧ (isS (v i) || isP (v i)) = true then some ((if isS (v i) = true then 6 else 5), m + 1, upd S m 0, upd R m (nI (rkv (v i)))) else none := by
  rcases h with rfl | rfl <;> rfl
theorem e_head {i : Nat} (hla : ∀ j, j < np → la j = nI (v j)) (hv : ∀ j, j < np → v j < 127) (hnp : np ≤ 30) (hi : i < 4) (hin : i < np) {S R : Nat → Int32} : X2_isInHead pf la (nI i) (nI (v i)) = some (pNext v i i 0 S R).isSome := by
  have hvi := hv i hin
  rcases (show i = 0 ∨ i = 1 ∨ i = 2 ∨ i = 3 by omega) with rfl | rfl | rfl | rfl
  · rw [X2_isInHead, if_pos nI_0, pN0, is_ite]
    exact rg hvi rfl rfl (by decide) (by decide)
  · have hv0 := hv 0 (by omega)
    rw [X2_isInHead, if_neg (show ¬ nI 1 = 0 by decide), if_pos (show nI 1 = 1 from rfl), pN1, is_ite, show (0 : Int32) = nI 0 from rfl, e_codeAt (by omega), Option.bind_some, hla 0 (by omega)]
    by_cases g : v 0 = 52
    · rw [if_pos (show nI (v 0) = 52 by rw [g]; rfl), if_pos g]
      exact rg hvi rfl rfl (by decide) (by decide)
    · rw [if_neg (show ¬ nI (v 0) = 52 by rw [show (52 : Int32) = nI 52 from rfl, i_eq (by omega) (by omega)]; exact g), if_neg g]
      exact rg hvi rfl rfl (by decide) (by decide)
  · rw [X2_isInHead, if_neg (show ¬ nI 2 = 0 by decide), if_neg (show ¬ nI 2 = 1 by decide), if_pos (show nI 2 = 2 from rfl), pN2, is_ite]
    exact rg hvi rfl rfl (by decide) (by decide)
  · rw [X2_isInHead, if_neg (show ¬ nI 3 = 0 by decide), if_neg (show ¬ nI 3 = 1 by decide), if_neg (show ¬ nI 3 = 2 by decide), pN3, is_ite]
    by_cases a : v 3 = 58
    · rw [if_pos (show nI (v 3) = 58 by rw [a]; rfl), decide_eq_true a]
    · rw [if_neg (show ¬ nI (v 3) = 58 by rw [show (58 : Int32) = nI 58 from rfl, i_eq (by omega) (by omega)]; exact a), decide_eq_false a]
theorem ite_z {α : Type} {c : Prop} [Decidable c] {x z : α} (e : (if c then some x else none) = some z) : c ∧ z = x := by
  by_cases h : c
  · rw [if_pos h] at e; exact ⟨h, (Option.some.inj e).symm⟩
  · rw [if_neg h] at e; exact absurd e (by simp)
theorem ite_n {α : Type} {c : Prop} [Decidable c] {x : α} (e : (if c then some x else none) = none) : ¬ c := by
  intro h
  rw [if_pos h] at e; exact absurd e (by simp)
theorem pNext_head {i : Nat} {S R : Nat → Int32} {z : Nat × Nat × (Nat → Int32) × (Nat → Int32)} (hi : i < 4) (e : pNext v i i 0 S R = some z) : z = (i + 1, 0, S, R) := by
  rcases (show i = 0 ∨ i = 1 ∨ i = 2 ∨ i = 3 by omega) with rfl | rfl | rfl | rfl
  · rw [pN0] at e; exact (ite_z e).2
  · rw [pN1] at e; exact (ite_z e).2
  · rw [pN2] at e; exact (ite_z e).2
  · rw [pN3] at e; exact (ite_z e).2
theorem c_fault (hpf : pf 1 = nI np) (hla : ∀ j, j < np → la j = nI (v j)) (hv : ∀ j, j < np → v j < 127) (hnp : np ≤ 30) :
    ∀ (e i k q m : Nat) (S R : Nat → Int32), i + e = np → e < k → pInv v i q m → X2_firstFault_6 N pf la k (nI m) (bz (decide (q = 6))) (nI i) = some (nI (pRun v e i q m S R).1) := by
  intro e
  induction e with
  | zero =>
    intro i k q m S R hi hk I
    obtain ⟨k, rfl⟩ : ∃ q, k = q + 1 := ⟨k - 1, by omega⟩
    obtain rfl : i = np := by omega
    rw [X2_firstFault_6, hpf, if_pos (by rw [i_le (by omega) (by omega)]; omega)]; rfl
  | succ e ih =>
    intro i k q m S R hi hk I
    obtain ⟨k, rfl⟩ : ∃ q, k = q + 1 := ⟨k - 1, by omega⟩
    have hvi := hv i (by omega)
    have hI := I
    obtain ⟨h1, h2, -⟩ := I
    rw [X2_firstFault_6, hpf, if_neg (by rw [i_le (by omega) (by omega)]; omega), e_codeAt (by omega), Option.bind_some, hla i (by omega), nI_1 i, pRun]
    rcases h2 with ⟨hi4, rfl, rfl⟩ | ⟨hi4, hq4, hq6, hq5, hm1⟩
    · rw [if_neg (by rw [show (4 : Int32) = nI 4 from rfl, i_le (by omega) (by omega)]; omega), e_head hla hv hnp hi4 (by omega) (S := S) (R := R), Option.bind_some]
      cases hz : pNext v q q 0 S R with
      | none => rw [if_pos (show bz (none : Option (Nat × Nat × (Nat → Int32) × (Nat → Int32))).isSome = 0 from rfl)]
      | some z =>
        have e1 := pNext_head hi4 hz
        have I2 := pNext_inv hI hz
        subst e1
        rw [if_neg (show ¬ bz (some (q + 1, 0, S, R)).isSome = 0 from (show ¬ bz true = 0 by decide))]
        have := ih (q + 1) k (q + 1) 0 S R (by omega) (by omega) I2
        rw [decide_eq_false (show ¬ q = 6 by omega)]
        rw [decide_eq_false (show ¬ q + 1 = 6 by omega)] at this
        exact this
    · rw [if_pos (by rw [show (4 : Int32) = nI 4 from rfl, i_le (by omega) (by omega)]; omega)]
      by_cases w : q = 6
      · subst w
        rw [if_neg (show ¬ bz (decide (6 = 6)) = 0 by decide)]
        cases hz : pNext v i 6 m S R with
        | none =>
          rw [pN6] at hz
          have c := ite_n hz
          by_cases a : v i < 49
          · rw [if_pos (by rw [show (49 : Int32) = nI 49 from rfl, i_lt (by omega) (by omega)]; exact a)]
          · rw [if_neg (by rw [show (49 : Int32) = nI 49 from rfl, i_lt (by omega) (by omega)]; exact a), if_neg (by rw [show (57 : Int32) = nI 57 from rfl, i_le (by omega) (by omega)]; omega)]
        | some z =>
          have I2 := pNext_inv hI hz
          have := ih (i + 1) k z.1 z.2.1 z.2.2.1 z.2.2.2 (by omega) (by omega) I2
          rw [pN6] at hz
          obtain ⟨c, rfl⟩ := ite_z hz
          rw [if_neg (by rw [show (49 : Int32) = nI 49 from rfl, i_lt (by omega) (by omega)]; omega), if_pos (by rw [show (57 : Int32) = nI 57 from rfl, i_le (by omega) (by omega)]; omega)]
          exact this
      · have w45 : q = 4 ∨ q = 5 := by omega
        rw [if_pos (show bz (decide (q = 6)) = 0 by rw [decide_eq_false w]; rfl), e_begins hvi, Option.bind_some]
        cases hz : pNext v i q m S R with
        | none =>
          rw [pN45 w45] at hz
          have c := ite_n hz
          by_cases a : 12 ≤ m
          · rw [if_pos (by rw [show (12 : Int32) = nI 12 from rfl, i_le (by omega) (by omega)]; exact a)]
          · have : (isS (v i) || isP (v i)) = false := by
              cases hb : (isS (v i) || isP (v i)) with
              | false => rfl
              | true => exact absurd ⟨by omega, hb⟩ c
            rw [if_neg (by rw [show (12 : Int32) = nI 12 from rfl, i_le (by omega) (by omega)]; exact a), this, if_pos (show bz false = 0 from rfl)]
        | some z =>
          have I2 := pNext_inv hI hz
          have := ih (i + 1) k z.1 z.2.1 z.2.2.1 z.2.2.2 (by omega) (by omega) I2
          rw [pN45 w45] at hz
          obtain ⟨c, rfl⟩ := ite_z hz
          rw [if_neg (by rw [show (12 : Int32) = nI 12 from rfl, i_le (by omega) (by omega)]; omega), c.2, if_neg (show ¬ bz true = 0 by decide), e_isSong hvi, Option.bind_some, nI_1 m]
          have e2 : decide ((if isS (v i) = true then 6 else 5) = 6) = isS (v i) := by cases isS (v i) <;> decide
          rw [show bz (isS (v i)) = bz (decide ((if isS (v i) = true then 6 else 5) = 6)) from congrArg bz e2.symm]
          exact this
/-- the head's numbers -/
def pNeed (v : Nat → Nat) : Nat := 10 * (v 0 - 48) + (v 1 - 48)
theorem c_read (hpf : pf 1 = nI np) (hla : ∀ j, j < np → la j = nI (v j)) (hv : ∀ j, j < np → v j < 127) (hnp : np ≤ 30) :
    ∀ (e i k q m : Nat) (S R S1 R1 V : Nat → Int32), i + e = np → e < k → 4 ≤ i → pInv v i q m → pDat m S R → (pRun v e i q m S R).1 = np → V 4 = nI m → (∀ j, j < m → S1 j = S j) → (∀ j, j < m → R1 j = R j) → ∃ V' S1' R1' : Nat → Int32, X3_read_43 N pf la k V S1 R1 (nI i) = some (V', S1', R1') ∧ V' 4 = nI (pRun v e i q m S R).2.2.1 ∧ (∀ x, x ≠ 4 → V' x = V x) ∧ (∀ j, j < (pRun v e i q m S R).2.2.1 → S1' j = (pRun v e i q m S R).2.2.2.1 j) ∧ (∀ j, j < (pRun v e i q m S R).2.2.1 → R1' j = (pRun v e i q m S R).2.2.2.2 j) ∧ (Zr 12 S1 → Zr 12 S1') ∧ (Zr 12 R1 → Zr 12 R1') := by
  intro e
  induction e with
  | zero =>
    intro i k q m S R S1 R1 V hi hk h4 I D hr hV hS hR
    obtain ⟨k, rfl⟩ : ∃ q, k = q + 1 := ⟨k - 1, by omega⟩
    obtain rfl : i = np := by omega
    exact ⟨V, S1, R1, by rw [X3_read_43, hpf, if_pos (by rw [i_le (by omega) (by omega)]; omega)], hV, fun _ _ => rfl, hS, hR, id, id⟩
  | succ e ih =>
    intro i k q m S R S1 R1 V hi hk h4 I D hr hV hS hR
    obtain ⟨k, rfl⟩ : ∃ q, k = q + 1 := ⟨k - 1, by omega⟩
    have hvi := hv i (by omega)
    have hI := I
    obtain ⟨h1, h2, -⟩ := I
    rw [X3_read_43, hpf, if_neg (by rw [i_le (by omega) (by omega)]; omega), e_codeAt (by omega), Option.bind_some, hla i (by omega), nI_1 i]
    rw [pRun] at hr ⊢
    cases hz : pNext v i q m S R with
    | none => rw [hz] at hr; have : i = np := hr; omega
    | some z =>
      rw [hz] at hr
      have I2 := pNext_inv hI hz
      have D2 := pNext_dat D hz
      have ih2 := ih (i + 1) k z.1 z.2.1 z.2.2.1 z.2.2.2
      by_cases w : q = 6
      · subst w
        rw [pN6] at hz
        obtain ⟨c, rfl⟩ := ite_z hz
        have hm1 : 1 ≤ m := by omega
        rw [if_neg (by rw [show (49 : Int32) = nI 49 from rfl, i_lt (by omega) (by omega)]; omega), if_neg (by rw [show (57 : Int32) = nI 57 from rfl, i_lt (by omega) (by omega)]; omega), hV, show nI m - 1 = nI (m - 1) from pk_sub (a := m) (b := 1) (by omega), e_setSong (by omega), Option.bind_some, show nI (v i) - 48 = nI (v i - 48) from pk_sub (a := v i) (b := 48) (by omega)]
        obtain ⟨V', S1', R1', g1, g2, g3, g4, g5, g6, g7⟩ := ih2 (upd S1 (m - 1) (nI (v i - 48))) R1 V (by omega) (by omega) (by omega) I2 D2 hr hV (fun j hj => by
          show upd S1 (m - 1) (nI (v i - 48)) j = upd S (m - 1) (nI (v i - 48)) j
          by_cases x : j = m - 1
          · subst x; rw [ud_s, ud_s]
          · rw [ud_n _ _ x, ud_n _ _ x]; exact hS j hj) hR
        exact ⟨V', S1', R1', g1, g2, g3, g4, g5, fun y => g6 (y.upd (by omega)), g7⟩
      · have w45 : q = 4 ∨ q = 5 := by omega
        rw [pN45 w45] at hz
        obtain ⟨c, rfl⟩ := ite_z hz
        have hvp : v i < 49 ∨ 57 < v i := by
          have := c.2
          rw [Bool.or_eq_true, isS_cases, isP_cases] at this
          omega
        have hadd : X3_addPlace V S1 R1 (nI (rkv (v i))) = some (upd V 4 (nI (m + 1)), upd S1 m 0, upd R1 m (nI (rkv (v i)))) := by
          rw [X3_addPlace, hV, if_neg (i_nlt0 (by omega)), if_neg (by rw [show (12 : Int32) = nI 12 from rfl, i_le (by omega) (by omega)]; omega), if_pos (xin_nI (by omega) (by omega)), if_pos (xin_nI (by omega) (by omega)), nI_1, nI_clamp (by omega)]
        obtain ⟨V', S1', R1', g1, g2, g3, g4, g5, g6, g7⟩ := ih2 (upd S1 m 0) (upd R1 m (nI (rkv (v i)))) (upd V 4 (nI (m + 1))) (by omega) (by omega) (by omega) I2 D2 hr (ud_s _ _ _) (fun j hj => by
          show upd S1 m 0 j = upd S m 0 j
          have hj : j < m + 1 := hj
          by_cases x : j = m
          · subst x; rw [ud_s, ud_s]
          · rw [ud_n _ _ x, ud_n _ _ x]; exact hS j (by omega)) (fun j hj => by
          show upd R1 m (nI (rkv (v i))) j = upd R m (nI (rkv (v i))) j
          have hj : j < m + 1 := hj
          by_cases x : j = m
          · subst x; rw [ud_s, ud_s]
          · rw [ud_n _ _ x, ud_n _ _ x]; exact hR j (by omega))
        refine ⟨V', S1', R1', ?_, g2, fun x hx => by rw [g3 x hx, ud_n _ _ hx], g4, g5, fun y => g6 (y.upd (by omega)), fun y => g7 (y.upd (by omega))⟩
        by_cases a : v i < 49
        · rw [if_pos (by rw [show (49 : Int32) = nI 49 from rfl, i_lt (by omega) (by omega)]; exact a), e_rockBy hvi, Option.bind_some, hadd, Option.bind_some]
          exact g1
        · rw [if_neg (by rw [show (49 : Int32) = nI 49 from rfl, i_lt (by omega) (by omega)]; exact a), if_pos (by rw [show (57 : Int32) = nI 57 from rfl, i_lt (by omega) (by omega)]; omega), e_rockBy hvi, Option.bind_some, hadd, Option.bind_some]
          exact g1
end PG
