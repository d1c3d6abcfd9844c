/-! LAYER 2: SOLD and LISTENER -/
section K
variable {n pc : Nat} {need noon : Int32} {sg rk ck co cw kn kn2 : Nat → Int32} {w : Nat → Bool}
theorem sHold_kn {j : Nat} (h : kn j = kn2 j) : sHold ck cw kn j = sHold ck cw kn2 j := by simp only [sHold, h]
theorem sSees_kn {b : Nat → Bool} (h : ∀ j, b j = true → kn j = kn2 j) : sSees ck kn b = sSees ck kn2 b := by
  funext j
  cases hj : b j with
  | false => simp only [sSees, hj, Bool.false_and]
  | true => simp only [sSees, h j hj]
theorem sOars_kn {b : Nat → Bool} (h : ∀ j, b j = true → kn j = kn2 j) (m : Nat) : sOars co kn b m = sOars co kn2 b m := by
  induction m with
  | zero => rfl
  | succ m ih =>
    simp only [sOars, ih]
    cases hj : b m with
    | false => simp only [Bool.false_and]
    | true => rw [h m hj]
theorem sStrike_kn {b : Nat → Bool} {r : Int32} {st : Nat} (h : ∀ j, b j = true → kn j = kn2 j) : sStrike n noon r ck kn w b st = sStrike n noon r ck kn2 w b st := by
  unfold sStrike
  rw [sSees_kn h]
theorem sLeft_kn {a : Nat → Bool} {pl st : Nat} (h : ∀ j, a j = true → kn j = kn2 j) : (fun j => a j && !sSwim noon sg ck cw kn w a pl st j) = (fun j => a j && !sSwim noon sg ck cw kn2 w a pl st j) := by
  funext j
  cases ha : a j with
  | false => simp only [Bool.false_and]
  | true => simp only [sSwim, sHold_kn (h j ha)]
theorem sRow_kn {a : Nat → Bool} {pl st : Nat} (h : ∀ j, a j = true → kn j = kn2 j) : sRow n pc need noon sg rk ck co cw kn w a pl st = sRow n pc need noon sg rk ck co cw kn2 w a pl st := by
  have hs : ∀ j, (fun j => a j && !sSwim noon sg ck cw kn2 w a pl st j) j = true → kn j = kn2 j := by
    intro j hj
    simp only [Bool.and_eq_true] at hj
    exact h j hj.1
  simp only [sRow]
  rw [sLeft_kn h, sStrike_kn hs, sOars_kn hs]
theorem sRow_sub {a : Nat → Bool} {pl st : Nat} : ∀ j, (sRow n pc need noon sg rk ck co cw kn w a pl st).1 j = true → a j = true := by
  intro j
  unfold sRow
  dsimp only
  cases (!sAny (fun j => a j && !sSwim noon sg ck cw kn w a pl st j) n) with
  | true => intro h; simp only [cond_true, Bool.and_eq_true] at h; exact h.1
  | false =>
    rw [cond_false]
    cases sStrike n noon (rk pl) ck kn w (fun j => a j && !sSwim noon sg ck cw kn w a pl st j) st with
    | true => intro h; cases h
    | false =>
      rw [cond_false]
      split
      · intro h; simp only [Bool.and_eq_true] at h; exact h.1
      · split
        · intro h; simp only [Bool.and_eq_true] at h; exact h.1
        · intro h; simp only [Bool.and_eq_true] at h; exact h.1
theorem sRun_kn (k : Nat) : ∀ (a : Nat → Bool) (pl st hw : Nat), (∀ j, a j = true → kn j = kn2 j) → sRun n pc need noon sg rk ck co cw kn w k a pl st hw = sRun n pc need noon sg rk ck co cw kn2 w k a pl st hw := by
  induction k with
  | zero => intro a pl st hw _; rfl
  | succ k ih =>
    intro a pl st hw h
    simp only [sRun]
    split
    · rw [← sRow_kn h]
      exact ih _ _ _ _ (fun j hj => h j (sRow_sub j hj))
    · rfl
end K
theorem cnt_sub {p q : Nat → Bool} {n : Nat} (h : ∀ j, p j = true → q j = true) : cnt p n ≤ cnt q n ∧ (cnt p n = cnt q n ↔ ∀ j, j < n → p j = q j) := by
  induction n with
  | zero => exact ⟨Nat.le_refl _, fun _ j hj => absurd hj (by omega), fun _ => rfl⟩
  | succ n ih =>
    obtain ⟨h1, h2⟩ := ih
    simp only [cnt]
    cases hp : p n with
    | true =>
      rw [h n hp]
      refine ⟨by omega, fun e j hj => ?_, fun e => ?_⟩
      · rcases Nat.lt_or_ge j n with g | g
        · exact h2.mp (by omega) j g
        · obtain rfl : j = n := by omega
          rw [hp, h j hp]
      · have := h2.mpr (fun j hj => e j (by omega))
        omega
    | false =>
      cases hq : q n with
      | false =>
        refine ⟨by simpa using h1, fun e j hj => ?_, fun e => ?_⟩
        · rcases Nat.lt_or_ge j n with g | g
          · exact h2.mp (by simpa using e) j g
          · obtain rfl : j = n := by omega
            rw [hp, hq]
        · have := h2.mpr (fun j hj => e j (by omega))
          simpa using this
      | true =>
        refine ⟨by simp only [Bool.toNat_true, Bool.toNat_false]; omega, fun e => ?_, fun e => ?_⟩
        · simp only [Bool.toNat_true, Bool.toNat_false] at e; omega
        · have := e n (by omega); rw [hp, hq] at this; cases this
def sWk (sg : Nat → Int32) (d k : Nat) : Int32 := if (0 : Int32) < sg k - nI d then sg k - nI d else 0
def rWk (sg : Nat → Int32) (d k : Nat) : Int32 := if sg k ≤ nI d then 0 else sg k - nI d
theorem wk_nat : ∀ s, s < 10 → ∀ d, d < 10 → (if (0 : Int32) < nI s - nI d then nI s - nI d else 0) = nI (s - d) ∧ (if nI s ≤ nI d then 0 else nI s - nI d) = nI (s - d) := by decide +kernel
theorem rWk_eq {sg : Nat → Int32} {d k s : Nat} (hs : s ≤ 9) (hd : d ≤ 9) (h : sg k = nI s) : rWk sg d k = sWk sg d k := by
  rw [rWk, sWk, h, (wk_nat s (by omega) d (by omega)).1, (wk_nat s (by omega) d (by omega)).2]
theorem sWk_small {sg : Nat → Int32} {d k s : Nat} (hs : s ≤ 9) (hd : d ≤ 9) (h : sg k = nI s) : ∃ v, v ≤ 9 ∧ sWk sg d k = nI v := ⟨s - d, by omega, by rw [sWk, h, (wk_nat s (by omega) d (by omega)).1]⟩
section S
variable {n pc pl st hw N : Nat} {need noon : Int32} {sg rk ck co cw kn : Nat → Int32} {w a : Nat → Bool}
theorem e_pcopy {uf us ur qf qs qr : Nat → Int32} (z1 : Zr 12 us) (z2 : Zr 12 ur) (z3 : Zr 12 qs) (z4 : Zr 12 qr) : X3_copy uf us ur qf qs qr = some (upd (upd (upd uf 2 (qf 2)) 3 (qf 3)) 4 (qf 4), qs, qr) := by
  rw [X3_copy, va_cpyZ (n := 12) (by decide) (by decide) (by decide) z3 z1, va_cpyZ (n := 12) (by decide) (by decide) (by decide) z4 z2]
theorem cX.copy {uf qf qs qr cf us : Nat → Int32} {sg2 : Nat → Int32} (C : cX n pc need noon sg rk qf qs qr cf) (h : ∀ k, k < pc → us k = sg2 k) : cX n pc need noon sg2 rk (upd (upd (upd uf 2 (qf 2)) 3 (qf 3)) 4 (qf 4)) us qr cf := by
  obtain ⟨c1, c2, c3, c4, c5, c6⟩ := C
  exact ⟨c1, by rw [ud_n _ _ (by decide), ud_n _ _ (by decide), ud_s, c2], by rw [ud_n _ _ (by decide), ud_s, c3], by rw [ud_s, c4], h, c6⟩
theorem Zr_cpN {n m : Nat} {f g : Nat → Int32} (hg : Zr n g) (hm : m ≤ n) : Zr n (cpN f g m) := fun j hj => by rw [cpN, if_neg (by omega)]; exact hg j hj
end S
