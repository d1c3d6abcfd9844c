/-! LAYER 2: FAULT and PASSAGE, whole -/
section PG
variable {v : Nat → Nat} {np N : Nat}
abbrev pAll (v : Nat → Nat) (np : Nat) : Nat × Nat × Nat × (Nat → Int32) × (Nat → Int32) := pRun v np 0 0 0 (fun _ => 0) (fun _ => 0)
theorem pRun_inv : ∀ (e i q m : Nat) (S R : Nat → Int32), pInv v i q m → pDat m S R → pInv v (pRun v e i q m S R).1 (pRun v e i q m S R).2.1 (pRun v e i q m S R).2.2.1 ∧ pDat (pRun v e i q m S R).2.2.1 (pRun v e i q m S R).2.2.2.1 (pRun v e i q m S R).2.2.2.2 ∧ (pRun v e i q m S R).1 ≤ i + e := by
  intro e
  induction e with
  | zero => intro i q m S R I D; exact ⟨I, D, Nat.le_refl _⟩
  | succ e ih =>
    intro i q m S R I D
    rw [pRun]
    cases hz : pNext v i q m S R with
    | none => exact ⟨I, D, by show i ≤ i + (e + 1); omega⟩
    | some z =>
      obtain ⟨a, b, c⟩ := ih (i + 1) z.1 z.2.1 z.2.2.1 z.2.2.2 (pNext_inv I hz) (pNext_dat D hz)
      exact ⟨a, b, by show (pRun v e (i + 1) z.1 z.2.1 z.2.2.1 z.2.2.2).1 ≤ i + (e + 1); omega⟩
def pSame (X Y : Nat × Nat × Nat × (Nat → Int32) × (Nat → Int32)) : Prop := X.1 = Y.1 ∧ X.2.1 = Y.2.1 ∧ X.2.2.1 = Y.2.2.1 ∧ (∀ j, j < Y.2.2.1 → X.2.2.2.1 j = Y.2.2.2.1 j) ∧ (∀ j, j < Y.2.2.1 → X.2.2.2.2 j = Y.2.2.2.2 j)
theorem pRun_arr : ∀ (e i q m : Nat) (S R S1 R1 : Nat → Int32), (∀ j, j < m → S1 j = S j) → (∀ j, j < m → R1 j = R j) → pInv v i q m → pSame (pRun v e i q m S1 R1) (pRun v e i q m S R) := by
  intro e
  induction e with
  | zero => intro i q m S R S1 R1 hS hR _; exact ⟨rfl, rfl, rfl, hS, hR⟩
  | succ e ih =>
    intro i q m S R S1 R1 hS hR I
    have hI := I
    obtain ⟨h1, h2, -⟩ := I
    have key : ∀ {c : Prop} [Decidable c] (a b : Nat) (A B A1 B1 : Nat → Int32), pNext v i q m S R = (if c then some (a, b, A, B) else none) → pNext v i q m S1 R1 = (if c then some (a, b, A1, B1) else none) → (c → (∀ j, j < b → A1 j = A j) ∧ (∀ j, j < b → B1 j = B j)) → pSame (pRun v (e + 1) i q m S1 R1) (pRun v (e + 1) i q m S R) := by
      intro c _ a b A B A1 B1 e1 e2 h
      by_cases hc : c
      · have I2 := pNext_inv hI (e1.trans (if_pos hc))
        rw [pRun, pRun, e1, e2, if_pos hc, if_pos hc]
        exact ih (i + 1) a b A B A1 B1 (h hc).1 (h hc).2 I2
      · rw [pRun, pRun, e1, e2, if_neg hc, if_neg hc]
        exact ⟨rfl, rfl, rfl, hS, hR⟩
    rcases (show (q = 0 ∧ i = 0) ∨ (q = 1 ∧ i = 1) ∨ (q = 2 ∧ i = 2) ∨ (q = 3 ∧ i = 3) ∨ (q = 4 ∨ q = 5) ∨ q = 6 by omega) with ⟨rfl, rfl⟩ | ⟨rfl, rfl⟩ | ⟨rfl, rfl⟩ | ⟨rfl, rfl⟩ | h45 | rfl
    · exact key _ _ _ _ _ _ pN0 pN0 (fun _ => ⟨hS, hR⟩)
    · exact key _ _ _ _ _ _ pN1 pN1 (fun _ => ⟨hS, hR⟩)
    · exact key _ _ _ _ _ _ pN2 pN2 (fun _ => ⟨hS, hR⟩)
    · exact key _ _ _ _ _ _ pN3 pN3 (fun _ => ⟨hS, hR⟩)
    · refine key _ _ _ _ _ _ (pN45 h45) (pN45 h45) (fun _ => ⟨fun j hj => ?_, fun j hj => ?_⟩)
      · by_cases x : j = m
        · subst x; rw [ud_s, ud_s]
        · rw [ud_n _ _ x, ud_n _ _ x]; exact hS j (by omega)
      · by_cases x : j = m
        · subst x; rw [ud_s, ud_s]
        · rw [ud_n _ _ x, ud_n _ _ x]; exact hR j (by omega)
    · refine key _ _ _ _ _ _ pN6 pN6 (fun _ => ⟨fun j hj => ?_, hR⟩)
      by_cases x : j = m - 1
      · subst x; rw [ud_s, ud_s]
      · rw [ud_n _ _ x, ud_n _ _ x]; exact hS j hj
theorem pRun_head {e i : Nat} {S R : Nat → Int32} (hi : i < 4) (I : pInv v i i 0) (h : (pRun v (e + 1) i i 0 S R).1 = i + (e + 1)) : pRun v (e + 1) i i 0 S R = pRun v e (i + 1) (i + 1) 0 S R ∧ pInv v (i + 1) (i + 1) 0 := by
  rw [pRun] at h ⊢
  cases hz : pNext v i i 0 S R with
  | none => rw [hz] at h; have : i = i + (e + 1) := h; omega
  | some z =>
    have e1 := pNext_head hi hz
    have I2 := pNext_inv I hz
    subst e1
    exact ⟨rfl, I2⟩
theorem pRun_4 {S R : Nat → Int32} (h4 : 4 ≤ np) (h : (pRun v np 0 0 0 S R).1 = np) : pRun v np 0 0 0 S R = pRun v (np - 4) 4 4 0 S R ∧ pInv v 4 4 0 := by
  obtain ⟨d, rfl⟩ : ∃ d, np = d + 4 := ⟨np - 4, by omega⟩
  obtain ⟨a0, I1⟩ := pRun_head (e := d + 3) (i := 0) (S := S) (R := R) (by decide) (pInv0 v) (by rw [h]; omega)
  rw [a0] at h ⊢
  obtain ⟨a1, I2⟩ := pRun_head (e := d + 2) (i := 1) (S := S) (R := R) (by decide) I1 (by rw [h]; omega)
  rw [a1] at h ⊢
  obtain ⟨a2, I3⟩ := pRun_head (e := d + 1) (i := 2) (S := S) (R := R) (by decide) I2 (by rw [h]; omega)
  rw [a2] at h ⊢
  obtain ⟨a3, I4⟩ := pRun_head (e := d) (i := 3) (S := S) (R := R) (by decide) I3 (by rw [h]; omega)
  rw [a3]
  exact ⟨rfl, I4⟩
def pWhole (v : Nat → Nat) (np : Nat) : Bool := decide ((pAll v np).1 = np) && decide ((pAll v np).2.1 = 5)
theorem c_first {la pf : Nat → Int32} (hpf : pf 1 = nI np) (hla : ∀ j, j < np → la j = nI (v j)) (hv : ∀ j, j < np → v j < 127) (hnp : np ≤ 30) (hN : 40 < N) : X2_firstFault N pf la = some (nI (pAll v np).1) := by
  rw [X2_firstFault]
  exact c_fault (N := N) hpf hla hv hnp np 0 N 0 0 (fun _ => 0) (fun _ => 0) (by omega) (by omega) (pInv0 v)
theorem c_isP {la pf : Nat → Int32} (hpf : pf 1 = nI np) (hla : ∀ j, j < np → la j = nI (v j)) (hv : ∀ j, j < np → v j < 127) (hnp : np ≤ 30) (hN : 40 < N) : X2_isPassage N pf la = some (pWhole v np) := by
  obtain ⟨I, -, hle⟩ := pRun_inv (v := v) np 0 0 0 (fun _ => 0) (fun _ => 0) (pInv0 v) ⟨fun k hk => by omega, fun k hk => by omega⟩
  rw [Nat.zero_add] at hle
  change (pAll v np).1 ≤ np at hle
  change pInv v (pAll v np).1 (pAll v np).2.1 (pAll v np).2.2.1 at I
  rw [X2_isPassage, hpf, pWhole]
  generalize hA : (pAll v np).1 = A at hle I
  generalize hB : (pAll v np).2.1 = B at I
  obtain ⟨i1, i2, -, -, -, i6⟩ := I
  by_cases h4 : np ≤ 4
  · rw [if_pos (by rw [show (4 : Int32) = nI 4 from rfl, i_le (by omega) (by omega)]; exact h4)]
    have : (decide (A = np) && decide (B = 5)) = false := by
      cases h : (decide (A = np) && decide (B = 5)) with
      | false => rfl
      | true =>
        rw [Bool.and_eq_true, decide_eq_true_iff, decide_eq_true_iff] at h
        omega
    rw [this]
  · rw [if_neg (by rw [show (4 : Int32) = nI 4 from rfl, i_le (by omega) (by omega)]; exact h4), c_first hpf hla hv hnp hN, Option.bind_some, hA]
    by_cases hAn : A = np
    · rw [if_pos (by rw [hAn]), show nI np - 1 = nI (np - 1) from pk_sub (a := np) (b := 1) (by omega), e_codeAt (by omega), Option.bind_some, hla (np - 1) (by omega), e_isSong (hv (np - 1) (by omega)), Option.bind_some, decide_eq_true hAn, Bool.true_and]
      have i7 := i6 (by omega)
      rw [hAn] at i7
      cases hs : isS (v (np - 1)) with
      | true =>
        rw [hs] at i7
        rw [if_neg (show ¬ bz true = 0 by decide), decide_eq_false (by have := i7.mpr rfl; omega)]
      | false =>
        rw [hs] at i7
        rw [if_pos (show bz false = 0 from rfl), decide_eq_true]
        have : ¬ B = 6 := fun q => absurd (i7.mp q) (by decide)
        omega
    · rw [if_neg (by rw [i_eq (by omega) (by omega)]; exact hAn), decide_eq_false hAn, Bool.false_and]
/-- the class reads what is on the page -/
theorem c_readAll {la pf V S1 R1 : Nat → Int32} (hpf : pf 1 = nI np) (hla : ∀ j, j < np → la j = nI (v j)) (hv : ∀ j, j < np → v j < 127) (hnp : np ≤ 30) (hN : 40 < N) (hw : pWhole v np = true) :
    ∃ V' S1' R1' : Nat → Int32, X3_read N V S1 R1 pf la = some (V', S1', R1') ∧ V' 4 = nI (pAll v np).2.2.1 ∧ V' 2 = nI (pNeed v) ∧ V' 3 = nI (v 2 - 48) ∧ (∀ j, j < (pAll v np).2.2.1 → S1' j = (pAll v np).2.2.2.1 j) ∧ (∀ j, j < (pAll v np).2.2.1 → R1' j = (pAll v np).2.2.2.2 j) ∧ (Zr 12 S1 → Zr 12 S1') ∧ (Zr 12 R1 → Zr 12 R1') := by
  rw [pWhole, Bool.and_eq_true, decide_eq_true_iff, decide_eq_true_iff] at hw
  obtain ⟨I, -, -⟩ := pRun_inv (v := v) np 0 0 0 (fun _ => 0) (fun _ => 0) (pInv0 v) ⟨fun k hk => by omega, fun k hk => by omega⟩
  change pInv v (pAll v np).1 (pAll v np).2.1 (pAll v np).2.2.1 at I
  rw [hw.1, hw.2] at I
  obtain ⟨i1, i2, i3, i4, i5, -⟩ := I
  have h4 : 4 ≤ np := by omega
  have j3 := i3 (by omega)
  have j4 := i4 (by omega)
  have j5 := i5 (by omega)
  obtain ⟨e1, I4⟩ := pRun_4 (S := fun _ => 0) (R := fun _ => 0) h4 hw.1
  have hn1 : (10 : Int32) * (nI (v 0) - 48) + nI (v 1) - 48 = nI (pNeed v) := by
    rw [show nI (v 0) - 48 = nI (v 0 - 48) from pk_sub (a := v 0) (b := 48) (by omega), show (10 : Int32) = nI 10 from rfl, pk_mul, nI_add, show (48 : Int32) = nI 48 from rfl, pk_sub (by omega), pNeed]
    congr 1
    omega
  obtain ⟨V', S1', R1', g1, g2, g3, g4, g5, g6, g7⟩ := c_read (N := N) hpf hla hv hnp (np - 4) 4 N 4 0 (fun _ => 0) (fun _ => 0) S1 R1 (upd (upd (upd V 2 (nI (pNeed v))) 3 (nI (v 2 - 48))) 4 0) (by omega) (by omega) (by omega) I4 ⟨fun k hk => by omega, fun k hk => by omega⟩ (by rw [← e1]; exact hw.1) (ud_s _ _ _) (fun j hj => by omega) (fun j hj => by omega)
  rw [← e1] at g2 g4 g5
  refine ⟨V', S1', R1', ?_, g2, by rw [g3 2 (by decide), ud_n _ _ (by decide), ud_n _ _ (by decide), ud_s], by rw [g3 3 (by decide), ud_n _ _ (by decide), ud_s], g4, g5, g6, g7⟩
  rw [X3_read, show (0 : Int32) = nI 0 from rfl, e_codeAt (by omega), Option.bind_some, show (1 : Int32) = nI 1 from rfl, e_codeAt (by omega), Option.bind_some, show (2 : Int32) = nI 2 from rfl, e_codeAt (by omega), Option.bind_some, hla 0 (by omega), hla 1 (by omega), hla 2 (by omega), hn1, show nI (v 2) - 48 = nI (v 2 - 48) from pk_sub (a := v 2) (b := 48) (by omega)]
  exact g1
-- ===== the reference =====
theorem r_readL {pg : Nat → Int32} {L : Nat → Int64} (hla : ∀ j, j < np → pg j = nI (v j)) (hv : ∀ j, j < np → v j < 127) (hnp : np ≤ 30) (hN : 40 < N) :
    ∀ (e i k q m : Nat) (M S R : Nat → Int32), i + e = np → e + 1 < k → pInv v i q m → M 20 = nI np → M 26 = nI m → pHd v i M → ∃ M' S' R' : Nat → Int32, X6_readPassage_11 N L pg k M S R (nI q) (nI i) 1 = some (M', S', R') ∧ M' 22 = nI (pRun v e i q m S R).1 ∧ M' 23 = bz (decide ((pRun v e i q m S R).1 = np) && decide ((pRun v e i q m S R).2.1 = 5)) ∧ (∀ x, (x < 22 ∨ 26 < x) → M' x = M x) ∧ ((pRun v e i q m S R).1 = np → S' = (pRun v e i q m S R).2.2.2.1 ∧ R' = (pRun v e i q m S R).2.2.2.2 ∧ M' 26 = nI (pRun v e i q m S R).2.2.1 ∧ pHd v np M') := by
  have fin : ∀ (M S R : Nat → Int32) (i q : Nat), i ≤ np → q ≤ 6 → M 20 = nI np → ∃ M' : Nat → Int32, (if nI i = (upd M 22 (nI i)) 20 then (if nI q = 5 then some (upd (upd M 22 (nI i)) 23 1, S, R) else some (upd (upd M 22 (nI i)) 23 0, S, R)) else some (upd (upd M 22 (nI i)) 23 0, S, R) : Option _) = some (M', S, R) ∧ M' 22 = nI i ∧ M' 23 = bz (decide (i = np) && decide (q = 5)) ∧ (∀ x, x ≠ 22 → x ≠ 23 → M' x = M x) := by
    intro M S R i q hi hq h20
    have hk : ∀ y : Int32, (upd (upd M 22 (nI i)) 23 y) 22 = nI i ∧ ∀ x, x ≠ 22 → x ≠ 23 → (upd (upd M 22 (nI i)) 23 y) x = M x := fun y => ⟨by rw [ud_n _ _ (by decide), ud_s], fun x a b => by rw [ud_n _ _ b, ud_n _ _ a]⟩
    by_cases c1 : i = np
    · by_cases c2 : q = 5
      · exact ⟨_, by rw [if_pos (by rw [ud_n _ _ (by decide), h20, c1]), if_pos (by rw [c2]; rfl)], (hk 1).1, by rw [ud_s, decide_eq_true c1, decide_eq_true c2]; rfl, (hk 1).2⟩
      · exact ⟨_, by rw [if_pos (by rw [ud_n _ _ (by decide), h20, c1]), if_neg (by rw [show (5 : Int32) = nI 5 from rfl, i_eq (by omega) (by omega)]; exact c2)], (hk 0).1, by rw [ud_s, decide_eq_false c2, Bool.and_false]; rfl, (hk 0).2⟩
    · exact ⟨_, by rw [if_neg (by rw [ud_n _ _ (by decide), h20, i_eq (by omega) (by omega)]; exact c1)], (hk 0).1, by rw [ud_s, decide_eq_false c1, Bool.false_and]; rfl, (hk 0).2⟩
  intro e
  induction e with
  | zero =>
    intro i k q m M S R hi hk I h20 h26 H
    obtain ⟨k, rfl⟩ : ∃ q, k = q + 1 := ⟨k - 1, by omega⟩
    obtain rfl : i = np := by omega
    have hq : q ≤ 6 := by obtain ⟨-, h2, -⟩ := I; omega
    obtain ⟨M', f1, f2, f3, f4⟩ := fin M S R i q (by omega) hq h20
    refine ⟨M', S, R, ?_, f2, f3, fun x hx => f4 x (by omega) (by omega), fun _ => ⟨rfl, rfl, by rw [f4 26 (by decide) (by decide)]; exact h26, ⟨fun y => by rw [f4 24 (by decide) (by decide)]; exact H.1 y, fun y => by rw [f4 25 (by decide) (by decide)]; exact H.2 y⟩⟩⟩
    rw [X6_readPassage_11, if_pos (by rw [h20, i_le (by omega) (by omega)]; omega)]
    exact f1
  | succ e ih =>
    intro i k q m M S R hi hk I h20 h26 H
    obtain ⟨k, rfl⟩ : ∃ q, k = q + 1 := ⟨k - 1, by omega⟩
    have hq : q ≤ 6 := by obtain ⟨-, h2, -⟩ := I; omega
    obtain ⟨n1, n2⟩ := r_next (S := S) (R := R) (L := L) h26 I (hv i (by omega)) H
    rw [X6_readPassage_11, if_neg (by rw [h20, i_le (by omega) (by omega)]; omega), if_neg (by decide), if_pos (xin_nI (by omega) (by omega)), nI_clamp (by omega), hla i (by omega), pRun]
    cases hz : pNext v i q m S R with
    | none =>
      obtain ⟨M1, S1, R1, g1, g2⟩ := n1 hz
      obtain ⟨k, rfl⟩ : ∃ q, k = q + 1 := ⟨k - 1, by omega⟩
      have h20' : M1 20 = nI np := by rw [g2 20 (by omega)]; exact h20
      obtain ⟨M', f1, f2, f3, f4⟩ := fin M1 S1 R1 i q (by omega) hq h20'
      refine ⟨M', S1, R1, ?_, f2, f3, fun x hx => by rw [f4 x (by omega) (by omega), g2 x (by omega)], fun y => by have : i = np := y; omega⟩
      rw [g1, Option.bind_some, if_pos rfl]
      show X6_readPassage_11 N L pg (k + 1) M1 S1 R1 (nI q) (nI i + 0) 0 = _
      rw [Int32.add_zero, X6_readPassage_11, if_neg (by rw [h20', i_le (by omega) (by omega)]; omega), if_pos rfl]
      exact f1
    | some z =>
      obtain ⟨M1, g1, g2, g3, g4, g5⟩ := n2 z hz
      obtain ⟨M', S', R', f1, f2, f3, f4, f5⟩ := ih (i + 1) k z.1 z.2.1 M1 z.2.2.1 z.2.2.2 (by omega) (by omega) (pNext_inv I hz) (by rw [g3 20 (by omega)]; exact h20) g2 g4
      refine ⟨M', S', R', ?_, f2, f3, fun x hx => by rw [f4 x hx, g3 x (by omega)], f5⟩
      have hne : ¬ nI z.1 = -1 := (by decide +kernel : ∀ q, q < 7 → ¬ nI q = -1) z.1 (by omega)
      rw [g1, Option.bind_some, if_neg hne, nI_1]
      exact f1
end PG
