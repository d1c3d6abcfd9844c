/-! LAYER 2: WAXING -/
def wS (s : Nat) : Nat → Bool := fun j => bt (nI s) j
abbrev sWx (n pc : Nat) (need noon : Int32) (sg rk ck co cw kn : Nat → Int32) (a : Nat → Bool) (pl st hw s : Nat) : (Nat → Bool) × Nat × Nat × Nat := sGo n pc need noon sg rk ck co cw kn (wS s) a pl st hw
def cW (s : Nat) : Nat := cnt (wS s) 5
def vW (n : Nat) (a : Nat → Bool) (s : Nat) : Bool := !sAny (fun j => wS s j && !a j) n
def inW (n p : Nat) (a : Nat → Bool) (s : Nat) : Prop := s < 2 ^ n ∧ vW n a s = true ∧ cW s ≤ p
def keyW (K : Nat → Nat) (s : Nat) : Nat := K s * 10000 + cW s * 100 + s
def minW (n p : Nat) (a : Nat → Bool) (K : Nat → Nat) (b : Nat) : Prop := inW n p a b ∧ ∀ s, inW n p a s → keyW K b ≤ keyW K s
theorem cW_le (s : Nat) : cW s ≤ 5 := cnt_le _ 5
theorem pow5 {n : Nat} (hn : n ≤ 5) : 2 ^ n ≤ 32 ∧ 1 ≤ 2 ^ n := ⟨Nat.pow_le_pow_right (by decide) hn, Nat.one_le_two_pow⟩
theorem minW_eq {n p : Nat} {a : Nat → Bool} {K : Nat → Nat} {b b' : Nat} (hn : n ≤ 5) (h : minW n p a K b) (h' : minW n p a K b') : b = b' := by
  have h1 := h.2 b' h'.1
  have h2 := h'.2 b h.1
  have := (pow5 hn).1
  have l1 := h.1.1
  have l2 := h'.1.1
  have c1 := cW_le b
  have c2 := cW_le b'
  unfold keyW at h1 h2
  omega
theorem keyW_lt {K K' : Nat → Nat} {s b : Nat} (h : K s < K b ↔ K' s < K' b) (h' : K b < K s ↔ K' b < K' s) (hs : s < 32) (hb : b < 32) : keyW K s < keyW K b ↔ keyW K' s < keyW K' b := by
  have c1 := cW_le b
  have c2 := cW_le s
  unfold keyW
  omega
theorem minW_congr {n p : Nat} {a : Nat → Bool} {K K' : Nat → Nat} {b : Nat} (hn : n ≤ 5) (h : ∀ x y, K x < K y ↔ K' x < K' y) (hm : minW n p a K b) : minW n p a K' b := by
  refine ⟨hm.1, fun s hs => ?_⟩
  have h1 := hm.2 s hs
  have l1 := hm.1.1
  have l2 := hs.1
  have := (pow5 hn).1
  have h2 := keyW_lt (K := K) (K' := K') (s := s) (b := b) (h s b) (h b s) (by omega) (by omega)
  omega
theorem wS_high {n s j : Nat} (hs : s < 2 ^ n) (hj : n ≤ j) (h32 : j < 32) : wS s j = false := by
  show bt (nI s) j = false
  rw [b_nI s j h32]
  exact Nat.testBit_lt_two_pow (Nat.lt_of_lt_of_le hs (Nat.pow_le_pow_right (by decide) hj))
theorem wS_count {s : Nat} (hs : s < 32) : J6_bitCount_0f7a4 (nI s) = some (nI (cW s)) := by
  refine e_bitCount (p := wS s) (Nat.le_refl 5) (fun j hj => ?_)
  show wS s j = _
  rcases Nat.lt_or_ge j 5 with h | h
  · rw [decide_eq_true h]; rfl
  · rw [decide_eq_false (by omega), wS_high (n := 5) (by omega) h hj]; rfl
theorem wS_size {s N : Nat} (hs : s < 32) (hN : 40 < N) : X6_size N (nI s) = some (nI (cW s)) := by
  refine e_size (p := wS s) (Nat.le_refl 5) (by omega) (fun j hj => ?_)
  show wS s j = _
  rcases Nat.lt_or_ge j 5 with h | h
  · rw [decide_eq_true h]; rfl
  · rw [decide_eq_false (by omega), wS_high (n := 5) (by omega) h hj]; rfl
section X
variable {n pc pl st hw N p : Nat} {need noon : Int32} {sg rk ck co cw kn : Nat → Int32} {w a : Nat → Bool}
theorem c_valid {s : Nat} {sf : Nat → Int32} (hn : n ≤ 5) (S : cS n w a pl st hw sf) (hs : s < 2 ^ n) : (nI s &&& (sf 2 ^^^ (-1 : Int32))) = 0 ↔ vW n a s = true := by
  have h := bt_zero_iff (x := nI s &&& (sf 2 ^^^ (-1 : Int32))) (p := fun j => wS s j && !a j) hn (fun j hj => by
    rw [b_and, b_not _ hj, S.1 j hj]
    by_cases h1 : j < n
    · rw [decide_eq_true h1]; rfl
    · rw [decide_eq_false h1]
      have := wS_high hs (by omega) hj
      show (wS s j && _) = _
      rw [this]; rfl)
  rw [h, vW]
  cases sAny (fun j => wS s j && !a j) n <;> simp
theorem r_valid {s : Nat} {M : Nat → Int32} (hn : n ≤ 5) (S : rS n w a pl st hw M) (hs : s < 2 ^ n) : (nI s &&& M 13) = 0 ↔ vW n a s = true := by
  have h := bt_zero_iff (x := nI s &&& M 13) (p := fun j => wS s j && !a j) hn (fun j hj => by
    rw [b_and, S.1 j hj]
    show (wS s j && _) = _
    cases decide (j < n) <;> simp)
  rw [h, vW]
  cases sAny (fun j => wS s j && !a j) n <;> simp
theorem c_rankW {s : Nat} {xf qf qs qr cf sf tf tk : Nat → Int32} (G : gB n pc sg rk ck cw kn) (C : cX n pc need noon sg rk qf qs qr cf) (S : cS n w a pl st hw sf) (hpl : pl < pc) (hhw : hw ≤ 3) (hN : 40 < N) (z1 : Zr 5 kn) (z2 : Zr 5 tk) :
    ∃ tf' : Nat → Int32, X5_rankWithWax N xf qf qs qr cf ck co cw sf kn tf tk (nI s) = some (nI (sRank 6 n (sWx n pc need noon sg rk ck co cw kn a pl st hw s)), tf', kn) := by
  obtain ⟨t1, h1, S2⟩ := cGo (N := N) (need := need) (co := co) G C ((c_trial (tf := tf) S).wax (v := wS s) (x := nI s) (fun j _ _ => rfl)) hpl hhw hN
  have h3 := (sRun_ok (n := n) (need := need) (noon := noon) (sg := sg) (rk := rk) (ck := ck) (co := co) (cw := cw) (kn := kn) (w := wS s) 30 a pl st hw hpl hhw).2.1
  exact ⟨t1, by rw [X5_rankWithWax, e_copy z1 z2, Option.bind_some, h1, Option.bind_some, e_rank G.1 C.1 S2 h3, Option.bind_some]⟩
theorem sRank_mod {R : (Nat → Bool) × Nat × Nat × Nat} (hn : n ≤ 5) : sRank 6 n R % 6 = n - cnt R.1 n ∧ sRank 1000 n R % 1000 = n - cnt R.1 n := by
  unfold sRank
  split <;> omega
theorem c_waxL {P2 : Int32} {xf qf qs qr cf sf : Nat → Int32} (G : gB n pc sg rk ck cw kn) (C : cX n pc need noon sg rk qf qs qr cf) (S : cS n w a pl st hw sf) (hpl : pl < pc) (hhw : hw ≤ 3) (hN : 40 < N) (z1 : Zr 5 kn) (hp : p ≤ 5) :
    ∀ (e s k : Nat) (tf tk : Nat → Int32) (b : Nat), s + e = 2 ^ n → e < k → Zr 5 tk → inW n p a b → b < s → (∀ s', s' < s → inW n p a s' → keyW (fun s => sRank 6 n (sWx n pc need noon sg rk ck co cw kn a pl st hw s)) b ≤ keyW (fun s => sRank 6 n (sWx n pc need noon sg rk ck co cw kn a pl st hw s)) s') →
      ∃ (tf' tk' : Nat → Int32) (b' : Nat), X5_waxing_43 N xf qf qs qr cf ck co cw sf kn k tf tk (nI p) P2 (nI b) (nI (sRank 6 n (sWx n pc need noon sg rk ck co cw kn a pl st hw b))) (nI s) = some ((if P2 = 1 then nI b' else nI (n - cnt (sWx n pc need noon sg rk ck co cw kn a pl st hw b').1 n)), tf', tk') ∧ Zr 5 tk' ∧ minW n p a (fun s => sRank 6 n (sWx n pc need noon sg rk ck co cw kn a pl st hw s)) b' := by
  have hn := G.1
  have h2n := pow5 hn
  intro e
  induction e with
  | zero =>
    intro s k tf tk b hs hk z2 hb hbs hmin
    obtain ⟨k, rfl⟩ : ∃ q, k = q + 1 := ⟨k - 1, by omega⟩
    refine ⟨tf, tk, b, ?_, z2, hb, fun s' hs' => hmin s' (by have := hs'.1; omega) hs'⟩
    have hr := sRank_le (c := 6) (n := n) (R := sWx n pc need noon sg rk ck co cw kn a pl st hw b)
    rw [X5_waxing_43, X0_everyone, C.1, i_all hn, Option.bind_some, if_pos (by rw [i_lt (by omega) (by omega)]; omega)]
    by_cases h1 : P2 = 1
    · rw [if_pos h1, if_pos h1]
    · rw [if_neg h1, if_neg h1]
      show some (nI _ - nI _ / nI 6 * nI 6, _) = _
      rw [pk_rem (by omega) (by omega) (by omega), (sRank_mod hn).1]
  | succ e ih =>
    intro s k tf tk b hs hk z2 hb hbs hmin
    obtain ⟨k, rfl⟩ : ∃ q, k = q + 1 := ⟨k - 1, by omega⟩
    have hs2 : s < 2 ^ n := by omega
    have hc5 := cW_le s
    have hcb := cW_le b
    rw [X5_waxing_43, X0_everyone, C.1, i_all hn, Option.bind_some, if_neg (by rw [i_lt (by omega) (by omega)]; omega), nI_1]
    have keep : ¬ inW n p a s → ∀ s', s' < s + 1 → inW n p a s' → keyW (fun s => sRank 6 n (sWx n pc need noon sg rk ck co cw kn a pl st hw s)) b ≤ keyW (fun s => sRank 6 n (sWx n pc need noon sg rk ck co cw kn a pl st hw s)) s' := by
      intro hns s' hs' hin
      rcases Nat.lt_or_ge s' s with h | h
      · exact hmin s' h hin
      · obtain rfl : s' = s := by omega
        exact absurd hin hns
    by_cases hv : vW n a s = true
    · rw [if_pos ((c_valid hn S hs2).mpr hv), wS_count (by omega), Option.bind_some]
      by_cases hcp : p < cW s
      · rw [if_pos (by rw [i_lt (by omega) (by omega)]; exact hcp)]
        exact ih (s + 1) k tf tk b (by omega) (by omega) z2 hb (by omega) (keep (fun h => by have := h.2.2; omega))
      · rw [if_neg (by rw [i_lt (by omega) (by omega)]; exact hcp)]
        have hin : inW n p a s := ⟨hs2, hv, by omega⟩
        obtain ⟨t1, h1⟩ := c_rankW (s := s) (N := N) (xf := xf) (tf := tf) (co := co) G C S hpl hhw hN z1 z2
        rw [h1, Option.bind_some]
        have q1 := sRank_le (c := 6) (n := n) (R := sWx n pc need noon sg rk ck co cw kn a pl st hw s)
        have q2 := sRank_le (c := 6) (n := n) (R := sWx n pc need noon sg rk ck co cw kn a pl st hw b)
        have take : keyW (fun s => sRank 6 n (sWx n pc need noon sg rk ck co cw kn a pl st hw s)) s < keyW (fun s => sRank 6 n (sWx n pc need noon sg rk ck co cw kn a pl st hw s)) b → ∀ s', s' < s + 1 → inW n p a s' → keyW (fun s => sRank 6 n (sWx n pc need noon sg rk ck co cw kn a pl st hw s)) s ≤ keyW (fun s => sRank 6 n (sWx n pc need noon sg rk ck co cw kn a pl st hw s)) s' := by
          intro hlt s' hs' hin'
          rcases Nat.lt_or_ge s' s with h | h
          · exact Nat.le_of_lt (Nat.lt_of_lt_of_le hlt (hmin s' h hin'))
          · obtain rfl : s' = s := by omega
            exact Nat.le_refl _
        have stay : ¬ keyW (fun s => sRank 6 n (sWx n pc need noon sg rk ck co cw kn a pl st hw s)) s < keyW (fun s => sRank 6 n (sWx n pc need noon sg rk ck co cw kn a pl st hw s)) b → ∀ s', s' < s + 1 → inW n p a s' → keyW (fun s => sRank 6 n (sWx n pc need noon sg rk ck co cw kn a pl st hw s)) b ≤ keyW (fun s => sRank 6 n (sWx n pc need noon sg rk ck co cw kn a pl st hw s)) s' := by
          intro hlt s' hs' hin'
          rcases Nat.lt_or_ge s' s with h | h
          · exact hmin s' h hin'
          · obtain rfl : s' = s := by omega
            exact Nat.not_lt.mp hlt
        have hkey : keyW (fun s => sRank 6 n (sWx n pc need noon sg rk ck co cw kn a pl st hw s)) s < keyW (fun s => sRank 6 n (sWx n pc need noon sg rk ck co cw kn a pl st hw s)) b ↔ (sRank 6 n (sWx n pc need noon sg rk ck co cw kn a pl st hw s) < sRank 6 n (sWx n pc need noon sg rk ck co cw kn a pl st hw b) ∨ (sRank 6 n (sWx n pc need noon sg rk ck co cw kn a pl st hw s) = sRank 6 n (sWx n pc need noon sg rk ck co cw kn a pl st hw b) ∧ cW s < cW b)) := by
          unfold keyW
          dsimp only
          omega
        by_cases hlt : sRank 6 n (sWx n pc need noon sg rk ck co cw kn a pl st hw s) < sRank 6 n (sWx n pc need noon sg rk ck co cw kn a pl st hw b)
        · rw [if_pos (by show nI _ < nI _; rw [i_lt (by omega) (by omega)]; exact hlt)]
          exact ih (s + 1) k t1 kn s (by omega) (by omega) z1 hin (by omega) (take (hkey.mpr (Or.inl hlt)))
        · rw [if_neg (by show ¬ nI _ < nI _; rw [i_lt (by omega) (by omega)]; exact hlt)]
          by_cases heq : sRank 6 n (sWx n pc need noon sg rk ck co cw kn a pl st hw s) = sRank 6 n (sWx n pc need noon sg rk ck co cw kn a pl st hw b)
          · rw [if_pos (by show nI _ = nI _; rw [heq]), wS_count (s := b) (by omega), Option.bind_some, Option.bind_some]
            by_cases hcc : cW b ≤ cW s
            · rw [if_pos (by rw [i_le (by omega) (by omega)]; exact hcc)]
              exact ih (s + 1) k t1 kn b (by omega) (by omega) z1 hb (by omega) (stay (fun q => by rcases hkey.mp q with h | h <;> omega))
            · rw [if_neg (by rw [i_le (by omega) (by omega)]; exact hcc)]
              exact ih (s + 1) k t1 kn s (by omega) (by omega) z1 hin (by omega) (take (hkey.mpr (Or.inr ⟨heq, by omega⟩)))
          · rw [if_neg (by show ¬ nI _ = nI _; rw [i_eq (by omega) (by omega)]; exact heq)]
            exact ih (s + 1) k t1 kn b (by omega) (by omega) z1 hb (by omega) (stay (fun q => by rcases hkey.mp q with h | h <;> omega))
    · rw [if_neg (fun q => hv ((c_valid hn S hs2).mp q))]
      exact ih (s + 1) k tf tk b (by omega) (by omega) z2 hb (by omega) (keep (fun h => hv h.2.1))
/-- where the reference's search stands: everything with fewer pieces, or as many and less bits, is behind it -/
def atW (n p : Nat) (a : Nat → Bool) (K : Nat → Nat) (many set : Nat) : Option Nat → Prop
  | none => many = 0 ∧ set = 0
  | some x => inW n p a x ∧ (cW x < many ∨ (cW x = many ∧ x < set)) ∧ ∀ s, inW n p a s → (cW s < many ∨ (cW s = many ∧ s < set)) → keyW K x ≤ keyW K s
theorem lRk_none {K : Nat → Nat} {v : Nat} (h : v < 2000) : ¬ lRk 2000 K none ≤ nI v := by
  show ¬ nI 2000 ≤ nI v
  rw [i_le (by omega) (by omega)]; omega
theorem lRk_some {K : Nat → Nat} {x v : Nat} (hx : K x < 2 ^ 31) (hv : v < 2 ^ 31) : (lRk 2000 K (some x) ≤ nI v) = (K x ≤ v) := i_le hx hv
theorem w0 : cW 0 = 0 := by decide +kernel
theorem v0 (n : Nat) (a : Nat → Bool) : vW n a 0 = true := by
  rw [vW, sAny_f.mpr]
  · rfl
  · intro j _
    show (bt (nI 0) j && _) = false
    rw [show nI 0 = 0 from rfl, b_0]; rfl
theorem r_waxI {many : Nat} {P2 : Int32} {M so ro : Nat → Int32} {L : Nat → Int64} {KK : (Nat → Int32) → (Nat → Int32) → (Nat → Int32) → (Nat → Int32) → (Nat → Int32) → Int32 → Int32 → Int32 → Int32 → Int32 → Option (Int32 × (Nat → Int32) × (Nat → Int32) × (Nat → Int32) × (Nat → Int32) × (Nat → Int32))} (G : gB n pc sg rk ck cw kn) (C : rX n pc need noon sg rk M so ro) (S : rS n w a pl st hw M) (hpl : pl < pc) (hhw : hw ≤ 3) (hN : 40 < N) (z1 : Zr 5 kn) (z3 : Zr 12 so) (hmp : many ≤ p) (hp : p ≤ 5) :
    ∀ (e s k : Nat) (M1 : Nat → Int32) (b : Option Nat), s + e = 2 ^ n → e < k → svd M M1 → atW n p a (fun s => sRank 1000 n (sWx n pc need noon sg rk ck co cw kn a pl st hw s)) many s b →
      ∃ (M' : Nat → Int32) (b' : Option Nat), X6_waxingNow_23 N L ro ck co cw KK k M1 so kn kn so (nI p) P2 (lVal b) (lRk 2000 (fun s => sRank 1000 n (sWx n pc need noon sg rk ck co cw kn a pl st hw s)) b) (nI many) (nI s) = KK M' so kn kn so (nI p) P2 (lVal b') (lRk 2000 (fun s => sRank 1000 n (sWx n pc need noon sg rk ck co cw kn a pl st hw s)) b') (nI (many + 1)) ∧ svd M M' ∧ atW n p a (fun s => sRank 1000 n (sWx n pc need noon sg rk ck co cw kn a pl st hw s)) (many + 1) 0 b' := by
  have hn := G.1
  have h2n := pow5 hn
  intro e
  induction e with
  | zero =>
    intro s k M1 b hs hk s1 hb
    obtain ⟨k, rfl⟩ : ∃ q, k = q + 1 := ⟨k - 1, by omega⟩
    refine ⟨M1, b, ?_, s1, ?_⟩
    · rw [X6_waxingNow_23, e_everybody hn (s1.rX C).1, Option.bind_some, if_pos (by rw [i_lt (by omega) (by omega)]; omega), nI_1]
    · cases b with
      | none => have := hb.2; omega
      | some x =>
        obtain ⟨h1, h2, h3⟩ := hb
        exact ⟨h1, by omega, fun s' hs' hc => h3 s' hs' (by have := hs'.1; omega)⟩
  | succ e ih =>
    intro s k M1 b hs hk s1 hb
    obtain ⟨k, rfl⟩ : ∃ q, k = q + 1 := ⟨k - 1, by omega⟩
    have hs2 : s < 2 ^ n := by omega
    have hc5 := cW_le s
    have S1 := s1.rS S
    have C1 := s1.rX C
    rw [X6_waxingNow_23, e_everybody hn C1.1, Option.bind_some, if_neg (by rw [i_lt (by omega) (by omega)]; omega)]
    -- a set that is passed over
    have pass : ¬ (inW n p a s ∧ cW s = many) → atW n p a (fun s => sRank 1000 n (sWx n pc need noon sg rk ck co cw kn a pl st hw s)) many (s + 1) b := by
      intro hno
      cases b with
      | none =>
        obtain ⟨h1, h2⟩ := hb
        refine absurd ⟨⟨hs2, ?_, ?_⟩, ?_⟩ hno
        · rw [h2]; exact v0 n a
        · rw [h2, w0]; omega
        · rw [h2, w0, h1]
      | some x =>
        obtain ⟨h1, h2, h3⟩ := hb
        refine ⟨h1, by omega, fun s' hs' hc => h3 s' hs' ?_⟩
        rcases hc with hc | ⟨hc, hc2⟩
        · exact Or.inl hc
        · refine Or.inr ⟨hc, ?_⟩
          rcases Nat.lt_or_ge s' s with h | h
          · exact h
          · obtain rfl : s' = s := by omega
            exact absurd ⟨hs', hc⟩ hno
    by_cases hv : vW n a s = true
    · rw [if_pos ((r_valid hn S1 hs2).mpr hv), wS_size (by omega) hN, Option.bind_some]
      by_cases hcm : cW s = many
      · rw [if_pos (by rw [hcm])]
        have hin : inW n p a s := ⟨hs2, hv, by omega⟩
        have S2 : rS n (wS s) a pl st hw (upd M1 12 ((M1 29 &&& M1 13) ||| nI s)) := by
          refine S1.wax (fun j hj haj => ?_)
          rw [b_or, b_and, S1.1 j (by omega), decide_eq_true hj, haj]
          show ((_ && (true && !true)) || wS s j) = _
          simp
        have C2 : rX n pc need noon sg rk (upd M1 12 ((M1 29 &&& M1 13) ||| nI s)) so ro := C1.at (fun i hi => ud_n _ _ (by omega))
        obtain ⟨M2, h2, S3, K2⟩ := rGo (N := N) (L := L) (need := need) (co := co) G C2 S2 hpl hhw hN
        obtain ⟨M3, h3, s3⟩ := svd.back (N := N) (L := L) s1 (M3 := M2) (so3 := so) (kn3 := kn) (fun q hq => by rw [K2 q (by omega) (by omega) (by omega) (by omega) (by omega), ud_n _ _ (by omega)]) z1 z1 z3 z3 hN
        have hle3 := (sRun_ok (n := n) (need := need) (noon := noon) (sg := sg) (rk := rk) (ck := ck) (co := co) (cw := cw) (kn := kn) (w := wS s) 30 a pl st hw hpl hhw).2.1
        have hbad : X6_badness N M2 L = some (nI (sRank 1000 n (sWx n pc need noon sg rk ck co cw kn a pl st hw s))) := e_bad (N := N) (L := L) hn hN S3 hle3
        rw [h2, Option.bind_some, hbad]
        simp only [Option.bind_some, h3, nI_1]
        have q1 := sRank_le (c := 1000) (n := n) (R := sWx n pc need noon sg rk ck co cw kn a pl st hw s)
        cases b with
        | none =>
          have hat : atW n p a (fun s => sRank 1000 n (sWx n pc need noon sg rk ck co cw kn a pl st hw s)) many (s + 1) (some s) := by
            obtain ⟨h1, h2⟩ := hb
            refine ⟨hin, Or.inr ⟨hcm, by omega⟩, fun s' hs' hc => ?_⟩
            obtain rfl : s' = s := by omega
            exact Nat.le_refl _
          obtain ⟨M', b', h4, s4, a4⟩ := ih (s + 1) k M3 (some s) (by omega) (by omega) s3 hat
          refine ⟨M', b', ?_, s4, a4⟩
          rw [← h4, if_neg (lRk_none (by omega))]
          rw [if_neg (lRk_none (by omega))]
          rfl
        | some x =>
          obtain ⟨g1, g2, g3⟩ := hb
          have hx := g1.1
          have hcx := cW_le x
          have q2 := sRank_le (c := 1000) (n := n) (R := sWx n pc need noon sg rk ck co cw kn a pl st hw x)
          by_cases hlt : sRank 1000 n (sWx n pc need noon sg rk ck co cw kn a pl st hw s) < sRank 1000 n (sWx n pc need noon sg rk ck co cw kn a pl st hw x)
          · have hk' : keyW (fun s => sRank 1000 n (sWx n pc need noon sg rk ck co cw kn a pl st hw s)) s < keyW (fun s => sRank 1000 n (sWx n pc need noon sg rk ck co cw kn a pl st hw s)) x := by
              unfold keyW; dsimp only; omega
            have hat : atW n p a (fun s => sRank 1000 n (sWx n pc need noon sg rk ck co cw kn a pl st hw s)) many (s + 1) (some s) := by
              refine ⟨hin, Or.inr ⟨hcm, by omega⟩, fun s' hs' hc => ?_⟩
              rcases Nat.lt_trichotomy s' s with h | h | h
              · exact Nat.le_of_lt (Nat.lt_of_lt_of_le hk' (g3 s' hs' (by omega)))
              · subst h; exact Nat.le_refl _
              · exact Nat.le_of_lt (Nat.lt_of_lt_of_le hk' (g3 s' hs' (by omega)))
            obtain ⟨M', b', h4, s4, a4⟩ := ih (s + 1) k M3 (some s) (by omega) (by omega) s3 hat
            refine ⟨M', b', ?_, s4, a4⟩
            rw [← h4, if_neg (by rw [lRk_some (by omega) (by omega)]; omega)]
            rw [if_neg (by rw [lRk_some (by omega) (by omega)]; omega)]
            rfl
          · have hk' : keyW (fun s => sRank 1000 n (sWx n pc need noon sg rk ck co cw kn a pl st hw s)) x ≤ keyW (fun s => sRank 1000 n (sWx n pc need noon sg rk ck co cw kn a pl st hw s)) s := by
              unfold keyW; dsimp only; omega
            have hat : atW n p a (fun s => sRank 1000 n (sWx n pc need noon sg rk ck co cw kn a pl st hw s)) many (s + 1) (some x) := by
              refine ⟨g1, by omega, fun s' hs' hc => ?_⟩
              rcases hc with hc | ⟨hc, hc2⟩
              · exact g3 s' hs' (Or.inl hc)
              · rcases Nat.lt_or_ge s' s with h | h
                · exact g3 s' hs' (Or.inr ⟨hc, h⟩)
                · obtain rfl : s' = s := by omega
                  exact hk'
            obtain ⟨M', b', h4, s4, a4⟩ := ih (s + 1) k M3 (some x) (by omega) (by omega) s3 hat
            refine ⟨M', b', ?_, s4, a4⟩
            rw [← h4, if_pos (by rw [lRk_some (by omega) (by omega)]; omega)]
            rw [if_pos (by rw [lRk_some (by omega) (by omega)]; omega)]
      · rw [if_neg (by rw [i_eq (by omega) (by omega)]; exact hcm), nI_1]
        exact ih (s + 1) k M1 b (by omega) (by omega) s1 (pass (fun h => hcm h.2))
    · rw [if_neg (fun q => hv ((r_valid hn S1 hs2).mp q)), nI_1]
      exact ih (s + 1) k M1 b (by omega) (by omega) s1 (pass (fun h => hv h.1.2.1))
theorem r_waxO {P2 : Int32} {M so ro : Nat → Int32} {L : Nat → Int64} (G : gB n pc sg rk ck cw kn) (C : rX n pc need noon sg rk M so ro) (S : rS n w a pl st hw M) (hpl : pl < pc) (hhw : hw ≤ 3) (hN : 40 < N) (z1 : Zr 5 kn) (z3 : Zr 12 so) (hp : p ≤ 5) :
    ∀ (e many k : Nat) (M1 : Nat → Int32) (b : Option Nat), many + e = p + 1 → e < k → svd M M1 → atW n p a (fun s => sRank 1000 n (sWx n pc need noon sg rk ck co cw kn a pl st hw s)) many 0 b →
      ∃ (M' : Nat → Int32) (b' : Nat), X6_waxingNow_14 N L ro ck co cw k M1 so kn kn so (nI p) P2 (lVal b) (lRk 2000 (fun s => sRank 1000 n (sWx n pc need noon sg rk ck co cw kn a pl st hw s)) b) (nI many) = some ((if P2 = 0 then nI (n - cnt (sWx n pc need noon sg rk ck co cw kn a pl st hw b').1 n) else nI b'), M', so, kn, kn, so) ∧ svd M M' ∧ minW n p a (fun s => sRank 1000 n (sWx n pc need noon sg rk ck co cw kn a pl st hw s)) b' := by
  have hn := G.1
  have h2n := pow5 hn
  intro e
  induction e with
  | zero =>
    intro many k M1 b hm hk s1 hb
    obtain ⟨k, rfl⟩ : ∃ q, k = q + 1 := ⟨k - 1, by omega⟩
    cases b with
    | none => have := hb.1; omega
    | some x =>
      obtain ⟨g1, g2, g3⟩ := hb
      have q1 := sRank_le (c := 1000) (n := n) (R := sWx n pc need noon sg rk ck co cw kn a pl st hw x)
      refine ⟨M1, x, ?_, s1, g1, fun s hs => g3 s hs (Or.inl (by have := hs.2.2; omega))⟩
      rw [X6_waxingNow_14, if_pos (by rw [i_lt (by omega) (by omega)]; omega)]
      by_cases h0 : P2 = 0
      · rw [if_pos h0, if_pos h0]
        show some (nI (sRank 1000 n (sWx n pc need noon sg rk ck co cw kn a pl st hw x)) - nI (sRank 1000 n (sWx n pc need noon sg rk ck co cw kn a pl st hw x)) / nI 1000 * nI 1000, _) = _
        rw [pk_rem (by omega) (by omega) (by omega), (sRank_mod hn).2]
      · rw [if_neg h0, if_neg h0]; rfl
  | succ e ih =>
    intro many k M1 b hm hk s1 hb
    obtain ⟨k, rfl⟩ : ∃ q, k = q + 1 := ⟨k - 1, by omega⟩
    obtain ⟨M2, b2, h2, s2, a2⟩ := r_waxI (N := N) (L := L) (P2 := P2) (KK := X6_waxingNow_14 N L ro ck co cw k) (many := many) G C S hpl hhw hN z1 z3 (by omega) hp (2 ^ n) 0 N M1 b (by omega) (by omega) s1 hb
    obtain ⟨M', b', h4, s4, m4⟩ := ih (many + 1) k M2 b2 (by omega) (by omega) s2 a2
    refine ⟨M', b', ?_, s4, m4⟩
    rw [X6_waxingNow_14, if_neg (by rw [i_lt (by omega) (by omega)]; omega), ← h4]
    exact h2
end X
