/-! LAYER 2: the page, the reference -/
section PG
variable {v : Nat → Nat} {np N : Nat}
theorem r_place {m c : Nat} {M S R : Nat → Int32} {L : Nat → Int64} (hm : M 26 = nI m) (h12 : m < 12) (hc : c < 127) : X6_placeState M L S R (nI c) = some (if (isS c || isP c) = true then (nI (if isS c = true then 6 else 5), upd M 26 (nI (m + 1)), upd S m 0, upd R m (nI (rkv c))) else (-1, M, S, R)) := by
  rw [X6_placeState, hm, nI_1, nI_clamp (by omega)]
  simp only [if_pos (xin_nI (show m < 12 by omega) (by omega))]
  by_cases c1 : c = 115
  · subst c1; rfl
  by_cases c2 : c = 98
  · subst c2; rfl
  by_cases c3 : c = 46
  · subst c3; rfl
  by_cases c4 : c = 114
  · subst c4; rfl
  by_cases c5 : c = 101
  · subst c5; rfl
  have hn : (isS c || isP c) = false := by
    cases h : (isS c || isP c) with
    | false => rfl
    | true =>
      rw [Bool.or_eq_true, isS_cases, isP_cases] at h
      omega
  rw [hn, if_neg (show ¬ nI c = 115 by rw [show (115 : Int32) = nI 115 from rfl, i_eq (by omega) (by omega)]; exact c1), if_neg (show ¬ nI c = 98 by rw [show (98 : Int32) = nI 98 from rfl, i_eq (by omega) (by omega)]; exact c2), if_neg (show ¬ nI c = 46 by rw [show (46 : Int32) = nI 46 from rfl, i_eq (by omega) (by omega)]; exact c3), if_neg (show ¬ nI c = 114 by rw [show (114 : Int32) = nI 114 from rfl, i_eq (by omega) (by omega)]; exact c4), if_neg (show ¬ nI c = 101 by rw [show (101 : Int32) = nI 101 from rfl, i_eq (by omega) (by omega)]; exact c5)]
  rfl
def pHd (v : Nat → Nat) (i : Nat) (M : Nat → Int32) : Prop := (1 ≤ i → M 24 = nI (10 * (v 0 - 48) + (if 2 ≤ i then v 1 - 48 else 0))) ∧ (3 ≤ i → M 25 = nI (v 2 - 48))
def pKeep (M M' : Nat → Int32) : Prop := ∀ x, (x < 24 ∨ 26 < x) → M' x = M x
theorem pKeep.refl (M : Nat → Int32) : pKeep M M := fun _ _ => rfl
theorem r_next {i q m : Nat} {M S R : Nat → Int32} {L : Nat → Int64} (hm : M 26 = nI m) (I : pInv v i q m) (hv : v i < 127) (H : pHd v i M) :
    (pNext v i q m S R = none → ∃ M' S' R' : Nat → Int32, X6_nextState M L S R (nI q) (nI (v i)) = some (-1, M', S', R') ∧ pKeep M M') ∧
    (∀ z, pNext v i q m S R = some z → ∃ M' : Nat → Int32, X6_nextState M L S R (nI q) (nI (v i)) = some (nI z.1, M', z.2.2.1, z.2.2.2) ∧ M' 26 = nI z.2.1 ∧ pKeep M M' ∧ pHd v (i + 1) M' ∧ z.1 ≤ 6) := by
  obtain ⟨h1, h2, h3, h4, h5, h6⟩ := I
  have key : ∀ {c : Prop} [Decidable c] (z : Nat × Nat × (Nat → Int32) × (Nat → Int32)), pNext v i q m S R = (if c then some z else none) → (c → ∃ M' : Nat → Int32, X6_nextState M L S R (nI q) (nI (v i)) = some (nI z.1, M', z.2.2.1, z.2.2.2) ∧ M' 26 = nI z.2.1 ∧ pKeep M M' ∧ pHd v (i + 1) M' ∧ z.1 ≤ 6) → (¬ c → ∃ M' S' R' : Nat → Int32, X6_nextState M L S R (nI q) (nI (v i)) = some (-1, M', S', R') ∧ pKeep M M') → (pNext v i q m S R = none → ∃ M' S' R' : Nat → Int32, X6_nextState M L S R (nI q) (nI (v i)) = some (-1, M', S', R') ∧ pKeep M M') ∧ (∀ z, pNext v i q m S R = some z → ∃ M' : Nat → Int32, X6_nextState M L S R (nI q) (nI (v i)) = some (nI z.1, M', z.2.2.1, z.2.2.2) ∧ M' 26 = nI z.2.1 ∧ pKeep M M' ∧ pHd v (i + 1) M' ∧ z.1 ≤ 6) := by
    intro c _ z e y n
    refine ⟨fun q => n (ite_n (e.symm.trans q)), fun z2 q => ?_⟩
    obtain ⟨a, rfl⟩ := ite_z (e.symm.trans q)
    exact y a
  have hk24 : ∀ x : Int32, pKeep M (upd M 24 x) := fun x y hy => ud_n _ _ (by omega)
  have hk25 : ∀ x : Int32, pKeep M (upd M 25 x) := fun x y hy => ud_n _ _ (by omega)
  rcases (show (q = 0 ∧ i = 0) ∨ (q = 1 ∧ i = 1) ∨ (q = 2 ∧ i = 2) ∨ (q = 3 ∧ i = 3) ∨ q = 4 ∨ q = 5 ∨ q = 6 by omega) with ⟨rfl, rfl⟩ | ⟨rfl, rfl⟩ | ⟨rfl, rfl⟩ | ⟨rfl, rfl⟩ | rfl | rfl | rfl
  · have hw : X6_within (nI (v 0) - 48) 0 4 = some (decide (48 + 0 ≤ v 0 ∧ v 0 ≤ 48 + 4)) := e_within hv (by decide) (by decide)
    refine key _ pN0 (fun c => ⟨upd M 24 (10 * (nI (v 0) - 48)), ?_, by rw [ud_n _ _ (by decide)]; exact hm, hk24 _, ⟨fun _ => ?_, fun h => by omega⟩, (show 1 ≤ 6 by decide)⟩) (fun c => ⟨upd M 24 (10 * (nI (v 0) - 48)), S, R, ?_, hk24 _⟩)
    · rw [X6_nextState, if_pos nI_0, hw, decide_eq_true (by omega), Option.bind_some, if_neg (show ¬ bz true = 0 by decide)]; rfl
    · rw [ud_s, show nI (v 0) - 48 = nI (v 0 - 48) from pk_sub (a := v 0) (b := 48) c.1, show (10 : Int32) = nI 10 from rfl, pk_mul, if_neg (by decide)]; rfl
    · rw [X6_nextState, if_pos nI_0, hw, decide_eq_false (by omega), Option.bind_some, if_pos (show bz false = 0 from rfl)]
  · have hw : X6_within (nI (v 1) - 48) 0 9 = some (decide (48 + 0 ≤ v 1 ∧ v 1 ≤ 48 + 9)) := e_within hv (by decide) (by decide)
    have h30 := h3 (by decide)
    have hM : M 24 = nI (10 * (v 0 - 48)) := by have := H.1 (by decide); rw [if_neg (by decide)] at this; exact this
    have hiff : (48 ≤ v 1 ∧ v 1 ≤ (if v 0 = 52 then 53 else 57)) ↔ 48 ≤ v 1 ∧ v 1 ≤ 57 ∧ 10 * (v 0 - 48) + (v 1 - 48) ≤ 45 := by
      by_cases g : v 0 = 52
      · rw [if_pos g]; omega
      · rw [if_neg g]; omega
    refine key _ pN1 (fun c => ⟨upd M 24 (M 24 + (nI (v 1) - 48)), ?_, by rw [ud_n _ _ (by decide)]; exact hm, hk24 _, ⟨fun _ => ?_, fun h => by omega⟩, (show 2 ≤ 6 by decide)⟩) (fun c => ⟨upd M 24 (M 24 + (nI (v 1) - 48)), S, R, ?_, hk24 _⟩)
    · have c := hiff.mp c
      rw [X6_nextState, if_neg (show ¬ nI 1 = 0 by decide), if_pos (show nI 1 = 1 from rfl), hw, decide_eq_true (by omega), Option.bind_some, if_neg (show ¬ bz true = 0 by decide), if_neg]; · rfl
      rw [hM, show nI (v 1) - 48 = nI (v 1 - 48) from pk_sub (a := v 1) (b := 48) c.1, nI_add, show (45 : Int32) = nI 45 from rfl, i_lt (by omega) (by omega)]; omega
    · have c := hiff.mp c
      rw [ud_s, hM, show nI (v 1) - 48 = nI (v 1 - 48) from pk_sub (a := v 1) (b := 48) c.1, nI_add, if_pos (by decide)]
    · rw [X6_nextState, if_neg (show ¬ nI 1 = 0 by decide), if_pos (show nI 1 = 1 from rfl), hw]
      by_cases a : 48 + 0 ≤ v 1 ∧ v 1 ≤ 48 + 9
      · rw [decide_eq_true a, Option.bind_some, if_neg (show ¬ bz true = 0 by decide), if_pos]
        rw [hM, show nI (v 1) - 48 = nI (v 1 - 48) from pk_sub (a := v 1) (b := 48) a.1, nI_add, show (45 : Int32) = nI 45 from rfl, i_lt (by omega) (by omega)]
        rw [hiff] at c
        omega
      · rw [decide_eq_false a, Option.bind_some, if_pos (show bz false = 0 from rfl)]
  · have hw : X6_within (nI (v 2) - 48) 1 9 = some (decide (48 + 1 ≤ v 2 ∧ v 2 ≤ 48 + 9)) := e_within hv (by decide) (by decide)
    refine key _ pN2 (fun c => ⟨upd M 25 (nI (v 2) - 48), ?_, by rw [ud_n _ _ (by decide)]; exact hm, hk25 _, ⟨fun _ => ?_, fun _ => ?_⟩, (show 3 ≤ 6 by decide)⟩) (fun c => ⟨upd M 25 (nI (v 2) - 48), S, R, ?_, hk25 _⟩)
    · rw [X6_nextState, if_neg (show ¬ nI 2 = 0 by decide), if_neg (show ¬ nI 2 = 1 by decide), if_pos (show nI 2 = 2 from rfl), hw, decide_eq_true (by omega), Option.bind_some, if_neg (show ¬ bz true = 0 by decide)]; rfl
    · have := H.1 (by decide)
      rw [if_pos (by decide)] at this
      rw [ud_n _ _ (by decide), if_pos (by decide), this]
    · rw [ud_s]; exact pk_sub (a := v 2) (b := 48) (by omega)
    · rw [X6_nextState, if_neg (show ¬ nI 2 = 0 by decide), if_neg (show ¬ nI 2 = 1 by decide), if_pos (show nI 2 = 2 from rfl), hw, decide_eq_false (by omega), Option.bind_some, if_pos (show bz false = 0 from rfl)]
  · refine key _ pN3 (fun c => ⟨M, ?_, hm, pKeep.refl M, ⟨fun _ => ?_, fun _ => H.2 (by decide)⟩, (show 4 ≤ 6 by decide)⟩) (fun c => ⟨M, S, R, ?_, pKeep.refl M⟩)
    · rw [X6_nextState, if_neg (show ¬ nI 3 = 0 by decide), if_neg (show ¬ nI 3 = 1 by decide), if_neg (show ¬ nI 3 = 2 by decide), if_pos (show nI 3 = 3 from rfl), if_pos (by rw [c]; rfl)]; rfl
    · have := H.1 (by decide)
      rw [if_pos (by decide)] at this
      rw [if_pos (by decide), this]
    · rw [X6_nextState, if_neg (show ¬ nI 3 = 0 by decide), if_neg (show ¬ nI 3 = 1 by decide), if_neg (show ¬ nI 3 = 2 by decide), if_pos (show nI 3 = 3 from rfl), if_neg (by rw [show (58 : Int32) = nI 58 from rfl, i_eq (by omega) (by omega)]; exact c)]
  · have hH : pHd v (i + 1) M := ⟨fun _ => by have := H.1 (by omega); rw [if_pos (by omega)] at this; rw [if_pos (by omega), this], fun _ => H.2 (by omega)⟩
    refine key _ (pN45 (Or.inl rfl)) (fun c => ⟨upd M 26 (nI (m + 1)), ?_, ud_s _ _ _, fun y hy => ud_n _ _ (by omega), ⟨fun y => by rw [ud_n _ _ (by decide)]; exact hH.1 y, fun y => by rw [ud_n _ _ (by decide)]; exact hH.2 y⟩, by cases isS (v i) <;> simp⟩) (fun c => ⟨M, S, R, ?_, pKeep.refl M⟩)
    · rw [X6_nextState, if_neg (show ¬ nI 4 = 0 by decide), if_neg (show ¬ nI 4 = 1 by decide), if_neg (show ¬ nI 4 = 2 by decide), if_neg (show ¬ nI 4 = 3 by decide), if_pos (show nI 4 = 4 from rfl), if_neg (by rw [hm, show (12 : Int32) = nI 12 from rfl, i_le (by omega) (by omega)]; omega), r_place hm c.1 hv, if_pos c.2]; rfl
    · rw [X6_nextState, if_neg (show ¬ nI 4 = 0 by decide), if_neg (show ¬ nI 4 = 1 by decide), if_neg (show ¬ nI 4 = 2 by decide), if_neg (show ¬ nI 4 = 3 by decide), if_pos (show nI 4 = 4 from rfl)]
      by_cases a : 12 ≤ m
      · rw [if_pos (by rw [hm, show (12 : Int32) = nI 12 from rfl, i_le (by omega) (by omega)]; omega)]
      · rw [if_neg (by rw [hm, show (12 : Int32) = nI 12 from rfl, i_le (by omega) (by omega)]; omega), r_place hm (by omega) hv, if_neg (fun x => c ⟨by omega, x⟩)]; rfl
  · have hH : pHd v (i + 1) M := ⟨fun _ => by have := H.1 (by omega); rw [if_pos (by omega)] at this; rw [if_pos (by omega), this], fun _ => H.2 (by omega)⟩
    refine key _ (pN45 (Or.inr rfl)) (fun c => ⟨upd M 26 (nI (m + 1)), ?_, ud_s _ _ _, fun y hy => ud_n _ _ (by omega), ⟨fun y => by rw [ud_n _ _ (by decide)]; exact hH.1 y, fun y => by rw [ud_n _ _ (by decide)]; exact hH.2 y⟩, by cases isS (v i) <;> simp⟩) (fun c => ⟨M, S, R, ?_, pKeep.refl M⟩)
    · rw [X6_nextState, if_neg (show ¬ nI 5 = 0 by decide), if_neg (show ¬ nI 5 = 1 by decide), if_neg (show ¬ nI 5 = 2 by decide), if_neg (show ¬ nI 5 = 3 by decide), if_neg (show ¬ nI 5 = 4 by decide), if_pos (show nI 5 = 5 from rfl), if_neg (by rw [hm, show (12 : Int32) = nI 12 from rfl, i_le (by omega) (by omega)]; omega), r_place hm c.1 hv, if_pos c.2]; rfl
    · rw [X6_nextState, if_neg (show ¬ nI 5 = 0 by decide), if_neg (show ¬ nI 5 = 1 by decide), if_neg (show ¬ nI 5 = 2 by decide), if_neg (show ¬ nI 5 = 3 by decide), if_neg (show ¬ nI 5 = 4 by decide), if_pos (show nI 5 = 5 from rfl)]
      by_cases a : 12 ≤ m
      · rw [if_pos (by rw [hm, show (12 : Int32) = nI 12 from rfl, i_le (by omega) (by omega)]; omega)]
      · rw [if_neg (by rw [hm, show (12 : Int32) = nI 12 from rfl, i_le (by omega) (by omega)]; omega), r_place hm (by omega) hv, if_neg (fun x => c ⟨by omega, x⟩)]; rfl
  · have hH : pHd v (i + 1) M := ⟨fun _ => by have := H.1 (by omega); rw [if_pos (by omega)] at this; rw [if_pos (by omega), this], fun _ => H.2 (by omega)⟩
    have hw : X6_within (nI (v i) - 48) 1 9 = some (decide (48 + 1 ≤ v i ∧ v i ≤ 48 + 9)) := e_within hv (by decide) (by decide)
    have hm1 : 1 ≤ m := by omega
    have e0 : ∀ X : Option (Int32 × (Nat → Int32) × (Nat → Int32) × (Nat → Int32)), X6_nextState M L S R (nI 6) (nI (v i)) = X ↔ (if xin ((M 26) - (1 : Int32)) 12 then ((X6_within (nI (v i) - (48 : Int32)) (1 : Int32) (9 : Int32)).bind fun u26 => (if (bz u26) = 0 then (some ((-1 : Int32), M, (upd S ((M 26) - (1 : Int32)).toNatClampNeg (nI (v i) - (48 : Int32))), R)) else (some ((5 : Int32), M, (upd S ((M 26) - (1 : Int32)).toNatClampNeg (nI (v i) - (48 : Int32))), R)))) else none) = X := by
      intro X
      rw [X6_nextState, if_neg (show ¬ nI 6 = 0 by decide), if_neg (show ¬ nI 6 = 1 by decide), if_neg (show ¬ nI 6 = 2 by decide), if_neg (show ¬ nI 6 = 3 by decide), if_neg (show ¬ nI 6 = 4 by decide), if_neg (show ¬ nI 6 = 5 by decide), if_pos (show nI 6 = 6 from rfl)]
    refine key _ pN6 (fun c => ⟨M, ?_, hm, pKeep.refl M, hH, (show 5 ≤ 6 by decide)⟩) (fun c => ⟨M, upd S (nI (m - 1)).toNatClampNeg (nI (v i) - 48), R, ?_, pKeep.refl M⟩)
    · rw [e0, hm, show nI m - 1 = nI (m - 1) from pk_sub (a := m) (b := 1) hm1, if_pos (xin_nI (by omega) (by omega)), hw, decide_eq_true (by omega), Option.bind_some, if_neg (show ¬ bz true = 0 by decide), nI_clamp (by omega), show nI (v i) - 48 = nI (v i - 48) from pk_sub (a := v i) (b := 48) (by omega)]; rfl
    · rw [e0, hm, show nI m - 1 = nI (m - 1) from pk_sub (a := m) (b := 1) hm1, if_pos (xin_nI (by omega) (by omega)), hw, decide_eq_false (by omega), Option.bind_some, if_pos (show bz false = 0 from rfl)]
end PG
