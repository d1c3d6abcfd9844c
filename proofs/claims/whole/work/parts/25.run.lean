/-! LAYER 2: strokes one behind another; the reference's save and back -/
def sRun (n pc : Nat) (need noon : Int32) (sg rk ck co cw kn : Nat → Int32) (w : Nat → Bool) : Nat → (Nat → Bool) → Nat → Nat → Nat → (Nat → Bool) × Nat × Nat × Nat
  | 0, a, pl, st, hw => (a, pl, st, hw)
  | k + 1, a, pl, st, hw => if hw = 0 then sRun n pc need noon sg rk ck co cw kn w k (sRow n pc need noon sg rk ck co cw kn w a pl st).1 (sRow n pc need noon sg rk ck co cw kn w a pl st).2.1 (st + 1) (sRow n pc need noon sg rk ck co cw kn w a pl st).2.2 else (a, pl, st, hw)
theorem sRow_ok {n pc pl st : Nat} {need noon : Int32} {sg rk ck co cw kn : Nat → Int32} {w a : Nat → Bool} (hpl : pl < pc) : (sRow n pc need noon sg rk ck co cw kn w a pl st).2.1 < pc ∧ (sRow n pc need noon sg rk ck co cw kn w a pl st).2.2 ≤ 3 ∧ ∀ j, (sRow n pc need noon sg rk ck co cw kn w a pl st).1 j = true → a j = true := by
  have hs : ∀ j, (a j && !sSwim noon sg ck cw kn w a pl st j) = true → a j = true := by
    intro j h
    simp only [Bool.and_eq_true] at h
    exact h.1
  unfold sRow
  dsimp only
  cases (!sAny (fun j => a j && !sSwim noon sg ck cw kn w a pl st j) n) with
  | true => exact ⟨hpl, Nat.le_refl 3, hs⟩
  | false =>
    rw [cond_false]
    cases sStrike n noon (rk pl) ck kn w (fun j => a j && !sSwim noon sg ck cw kn w a pl st j) st with
    | true => exact ⟨hpl, (by decide : (2 : Nat) ≤ 3), fun j h => by cases h⟩
    | false =>
      rw [cond_false]
      split
      · exact ⟨hpl, (by decide : (0 : Nat) ≤ 3), hs⟩
      · split
        · rename_i h; exact ⟨h, (by decide : (0 : Nat) ≤ 3), hs⟩
        · exact ⟨hpl, (by decide : (1 : Nat) ≤ 3), hs⟩
theorem sRun_ok {n pc : Nat} {need noon : Int32} {sg rk ck co cw kn : Nat → Int32} {w : Nat → Bool} (k : Nat) : ∀ (a : Nat → Bool) (pl st hw : Nat), pl < pc → hw ≤ 3 → (sRun n pc need noon sg rk ck co cw kn w k a pl st hw).2.1 < pc ∧ (sRun n pc need noon sg rk ck co cw kn w k a pl st hw).2.2.2 ≤ 3 ∧ st ≤ (sRun n pc need noon sg rk ck co cw kn w k a pl st hw).2.2.1 ∧ (sRun n pc need noon sg rk ck co cw kn w k a pl st hw).2.2.1 ≤ st + k ∧ ∀ j, (sRun n pc need noon sg rk ck co cw kn w k a pl st hw).1 j = true → a j = true := by
  induction k with
  | zero => intro a pl st hw h1 h2; exact ⟨h1, h2, Nat.le_refl _, Nat.le_refl _, fun _ h => h⟩
  | succ k ih =>
    intro a pl st hw h1 h2
    simp only [sRun]
    split
    · obtain ⟨r1, r2, r3⟩ := sRow_ok (n := n) (need := need) (noon := noon) (sg := sg) (rk := rk) (ck := ck) (co := co) (cw := cw) (kn := kn) (w := w) (a := a) (st := st) h1
      obtain ⟨i1, i2, i3, i4, i5⟩ := ih _ _ (st + 1) _ r1 r2
      exact ⟨i1, i2, by omega, by omega, fun j h => r3 j (i5 j h)⟩
    · exact ⟨h1, h2, Nat.le_refl _, by dsimp only; omega, fun _ h => h⟩
theorem cRun {n pc N : Nat} {need noon : Int32} {sg rk qf qs qr cf ck co cw kn : Nat → Int32} {w : Nat → Bool} (G : gX n pc sg rk ck cw kn) (C : cX n pc need noon sg rk qf qs qr cf) (hN : 5 < N) :
    ∀ (e d k : Nat) (sf : Nat → Int32) (a : Nat → Bool) (pl st hw : Nat), d + e = 30 → e < k → cS n w a pl st hw sf → pl < pc → hw ≤ 3 →
      ∃ sf' : Nat → Int32, X4_rowOn_2 N kn qf qs qr cf ck co cw k sf (nI d) = some (nI (d + ((sRun n pc need noon sg rk ck co cw kn w e a pl st hw).2.2.1 - st)), sf') ∧ cS n w (sRun n pc need noon sg rk ck co cw kn w e a pl st hw).1 (sRun n pc need noon sg rk ck co cw kn w e a pl st hw).2.1 (sRun n pc need noon sg rk ck co cw kn w e a pl st hw).2.2.1 (sRun n pc need noon sg rk ck co cw kn w e a pl st hw).2.2.2 sf' := by
  intro e
  induction e with
  | zero =>
    intro d k sf a pl st hw hd hk S hpl hhw
    obtain ⟨k, rfl⟩ : ∃ j, k = j + 1 := ⟨k - 1, by omega⟩
    obtain rfl : d = 30 := by omega
    refine ⟨sf, ?_, S⟩
    rw [X4_rowOn_2, if_pos (by decide)]
    simp only [sRun, Nat.sub_self, Nat.add_zero]
  | succ e ih =>
    intro d k sf a pl st hw hd hk S hpl hhw
    obtain ⟨k, rfl⟩ : ∃ j, k = j + 1 := ⟨k - 1, by omega⟩
    have hg : ¬ (30 : Int32) ≤ nI d := by rw [show (30 : Int32) = nI 30 from rfl, i_le (by omega) (by omega)]; omega
    rw [X4_rowOn_2, if_neg hg, S.2.2.2.2]
    simp only [sRun]
    by_cases h0 : hw = 0
    · subst h0
      obtain ⟨sf1, h1, S1⟩ := cRow (N := N) (need := need) (co := co) G C S hpl hN
      obtain ⟨r1, r2, r3⟩ := sRow_ok (n := n) (need := need) (noon := noon) (sg := sg) (rk := rk) (ck := ck) (co := co) (cw := cw) (kn := kn) (w := w) (a := a) (st := st) hpl
      obtain ⟨sf2, h2, S2⟩ := ih (d + 1) k sf1 _ _ (st + 1) _ (by omega) (by omega) S1 r1 r2
      obtain ⟨-, -, i3, -, -⟩ := sRun_ok (n := n) (need := need) (noon := noon) (sg := sg) (rk := rk) (ck := ck) (co := co) (cw := cw) (kn := kn) (w := w) e (sRow n pc need noon sg rk ck co cw kn w a pl st).1 _ (st + 1) _ r1 r2
      refine ⟨sf2, ?_, ?_⟩
      · rw [if_pos nI_0, h1, Option.bind_some, nI_1, h2, if_pos rfl]
        congr 3
        omega
      · rw [if_pos rfl]; exact S2
    · refine ⟨sf, ?_, ?_⟩
      · rw [if_neg h0, if_neg (by rw [show (0 : Int32) = nI 0 from rfl, i_eq (by omega) (by omega)]; exact h0)]
        simp only [Nat.sub_self, Nat.add_zero]
      · rw [if_neg h0]; exact S
theorem rKeep.trans {M M1 M2 : Nat → Int32} (h1 : rKeep M M1) (h2 : rKeep M1 M2) : rKeep M M2 := fun i a b c d e => (h2 i a b c d e).trans (h1 i a b c d e)
theorem rX.keep {n pc : Nat} {need noon : Int32} {sg rk M M' so ro : Nat → Int32} (h : rKeep M M') (C : rX n pc need noon sg rk M so ro) : rX n pc need noon sg rk M' so ro := by
  obtain ⟨a, b, c, d, e, f⟩ := C
  refine ⟨?_, ?_, ?_, ?_, e, f⟩
  · rw [h 7 (by decide) (by decide) (by decide) (by decide) (by decide), a]
  · rw [h 2 (by decide) (by decide) (by decide) (by decide) (by decide), b]
  · rw [h 3 (by decide) (by decide) (by decide) (by decide) (by decide), c]
  · rw [h 4 (by decide) (by decide) (by decide) (by decide) (by decide), d]
theorem rRun {n pc N : Nat} {need noon : Int32} {sg rk so ro ck co cw kn : Nat → Int32} {L : Nat → Int64} {w : Nat → Bool} (G : gX n pc sg rk ck cw kn) (hN : 5 < N) :
    ∀ (e d k : Nat) (M : Nat → Int32) (a : Nat → Bool) (pl st hw : Nat), d + e = 30 → e < k → rX n pc need noon sg rk M so ro → rS n w a pl st hw M → pl < pc → hw ≤ 3 →
      ∃ M' : Nat → Int32, X6_goOn_2 N L so ro ck co cw kn k M (nI d) = some M' ∧ rS n w (sRun n pc need noon sg rk ck co cw kn w e a pl st hw).1 (sRun n pc need noon sg rk ck co cw kn w e a pl st hw).2.1 (sRun n pc need noon sg rk ck co cw kn w e a pl st hw).2.2.1 (sRun n pc need noon sg rk ck co cw kn w e a pl st hw).2.2.2 M' ∧ rKeep M M' := by
  intro e
  induction e with
  | zero =>
    intro d k M a pl st hw hd hk C S hpl hhw
    obtain ⟨k, rfl⟩ : ∃ j, k = j + 1 := ⟨k - 1, by omega⟩
    obtain rfl : d = 30 := by omega
    refine ⟨M, ?_, S, fun _ _ _ _ _ _ => rfl⟩
    rw [X6_goOn_2, if_pos (by decide)]
  | succ e ih =>
    intro d k M a pl st hw hd hk C S hpl hhw
    obtain ⟨k, rfl⟩ : ∃ j, k = j + 1 := ⟨k - 1, by omega⟩
    have hg : ¬ (30 : Int32) ≤ nI d := by rw [show (30 : Int32) = nI 30 from rfl, i_le (by omega) (by omega)]; omega
    rw [X6_goOn_2, if_neg hg, S.2.2.2.2]
    simp only [sRun]
    by_cases h0 : hw = 0
    · subst h0
      obtain ⟨M1, h1, -, S1, K1⟩ := rRow (N := N) (L := L) (need := need) (co := co) G C S hpl hN
      obtain ⟨r1, r2, r3⟩ := sRow_ok (n := n) (need := need) (noon := noon) (sg := sg) (rk := rk) (ck := ck) (co := co) (cw := cw) (kn := kn) (w := w) (a := a) (st := st) hpl
      obtain ⟨M2, h2, S2, K2⟩ := ih (d + 1) k M1 _ _ (st + 1) _ (by omega) (by omega) (C.keep K1) S1 r1 r2
      refine ⟨M2, ?_, ?_, K1.trans K2⟩
      · rw [if_pos nI_0, h1, Option.bind_some, nI_1, h2]
      · rw [if_pos rfl]; exact S2
    · refine ⟨M, ?_, ?_, fun _ _ _ _ _ _ => rfl⟩
      · rw [if_neg (by rw [show (0 : Int32) = nI 0 from rfl, i_eq (by omega) (by omega)]; exact h0)]
      · rw [if_neg h0]; exact S
-- ===== rows copied place by place =====
def Zr (n : Nat) (f : Nat → Int32) : Prop := ∀ j, n ≤ j → f j = 0
theorem Zr.upd {n i : Nat} {f : Nat → Int32} {v : Int32} (h : Zr n f) (hi : i < n) : Zr n (upd f i v) := fun j hj => by rw [ud_n _ _ (by omega)]; exact h j hj
def cpN (f g : Nat → Int32) (i : Nat) : Nat → Int32 := fun j => if j < i then f j else g j
theorem cpN_0 (f g : Nat → Int32) : cpN f g 0 = g := by funext j; simp [cpN]
theorem cpN_s (f g : Nat → Int32) (i : Nat) : upd (cpN f g i) i (f i) = cpN f g (i + 1) := by
  funext j
  by_cases h : j = i
  · subst h; rw [ud_s, cpN, if_pos (by omega)]
  · rw [ud_n _ _ h, cpN, cpN]
    by_cases h2 : j < i
    · rw [if_pos h2, if_pos (by omega)]
    · rw [if_neg h2, if_neg (by omega)]
theorem cpN_n {f g : Nat → Int32} {n : Nat} (hf : Zr n f) (hg : Zr n g) : cpN f g n = f := by
  funext j
  by_cases h : j < n
  · rw [cpN, if_pos h]
  · rw [cpN, if_neg h, hf j (by omega), hg j (by omega)]
theorem va_cpyZ {f g : Nat → Int32} {n : Nat} {z0 z1 z2 : Nat} (h0 : z0 = 0) (h1 : z1 = 0) (h2 : z2 = n) (hf : Zr n f) (hg : Zr n g) : va_cpy f g z0 z1 z2 = f := by
  subst h0; subst h1; subst h2
  funext j
  by_cases h : j < z2
  · simp [va_cpy, h]
  · simp only [va_cpy]
    rw [if_neg (by omega), hf j (by omega), hg j (by omega)]
theorem e_copy {tf tk sf sk : Nat → Int32} (hs : Zr 5 sk) (ht : Zr 5 tk) : X4_copy tf tk sf sk = some (upd (upd (upd (upd (upd tf 1 (sf 1)) 2 (sf 2)) 3 (sf 3)) 4 (sf 4)) 5 (sf 5), sk) := by
  rw [X4_copy, va_cpyZ (n := 5) (by decide) (by decide) (by decide) hs ht]
theorem e_copy_at {tf sf : Nat → Int32} : ∀ i, 1 ≤ i → i ≤ 5 → upd (upd (upd (upd (upd tf 1 (sf 1)) 2 (sf 2)) 3 (sf 3)) 4 (sf 4)) 5 (sf 5) i = sf i := by
  intro i h1 h2
  rcases (show i = 1 ∨ i = 2 ∨ i = 3 ∨ i = 4 ∨ i = 5 by omega) with rfl | rfl | rfl | rfl | rfl <;> simp [upd]
def svM (M : Nat → Int32) : Nat → Int32 := upd (upd (upd (upd (upd M 29 (M 12)) 30 ((upd M 29 (M 12)) 13)) 31 ((upd (upd M 29 (M 12)) 30 ((upd M 29 (M 12)) 13)) 14)) 32 ((upd (upd (upd M 29 (M 12)) 30 ((upd M 29 (M 12)) 13)) 31 ((upd (upd M 29 (M 12)) 30 ((upd M 29 (M 12)) 13)) 14)) 15)) 33 ((upd (upd (upd (upd M 29 (M 12)) 30 ((upd M 29 (M 12)) 13)) 31 ((upd (upd M 29 (M 12)) 30 ((upd M 29 (M 12)) 13)) 14)) 32 ((upd (upd (upd M 29 (M 12)) 30 ((upd M 29 (M 12)) 13)) 31 ((upd (upd M 29 (M 12)) 30 ((upd M 29 (M 12)) 13)) 14)) 15)) 16)
def bkM (M : Nat → Int32) : Nat → Int32 := upd (upd (upd (upd (upd M 12 (M 29)) 13 ((upd M 12 (M 29)) 30)) 14 ((upd (upd M 12 (M 29)) 13 ((upd M 12 (M 29)) 30)) 31)) 15 ((upd (upd (upd M 12 (M 29)) 13 ((upd M 12 (M 29)) 30)) 14 ((upd (upd M 12 (M 29)) 13 ((upd M 12 (M 29)) 30)) 31)) 32)) 16 ((upd (upd (upd (upd M 12 (M 29)) 13 ((upd M 12 (M 29)) 30)) 14 ((upd (upd M 12 (M 29)) 13 ((upd M 12 (M 29)) 30)) 31)) 15 ((upd (upd (upd M 12 (M 29)) 13 ((upd M 12 (M 29)) 30)) 14 ((upd (upd M 12 (M 29)) 13 ((upd M 12 (M 29)) 30)) 31)) 32)) 33)
section SV
variable {M so kn sk ss : Nat → Int32} {L : Nat → Int64} {N : Nat}
theorem e_save (hkn : Zr 5 kn) (hsk : Zr 5 sk) (hso : Zr 12 so) (hss : Zr 12 ss) (hN : 12 < N) : ∃ M1 : Nat → Int32, X6_save N M L so kn sk ss = some (M1, kn, so) ∧ M1 29 = M 12 ∧ M1 30 = M 13 ∧ M1 31 = M 14 ∧ M1 32 = M 15 ∧ M1 33 = M 16 ∧ ∀ i, (i < 29 ∨ 33 < i) → M1 i = M i := by
  rw [X6_save]
  refine ⟨svM M, ?_, ?_, ?_, ?_, ?_, ?_, fun i hi => ?_⟩
  · show X6_save_42 N L so kn N (svM M) sk ss 0 = _
    generalize svM M = V
    have h2 : X6_save_67 N L so kn N V kn ss 0 = some (V, kn, so) := by
      have h := lr (fun k (z : (Nat → Int32) × Int32) => X6_save_67 N L so kn k V kn z.1 z.2) (fun i => (cpN so ss i, nI i)) 12 (some (V, kn, so)) (fun k i hi => by
          show X6_save_67 N L so kn (k + 1) V kn (cpN so ss i) (nI i) = X6_save_67 N L so kn k V kn (cpN so ss (i + 1)) (nI (i + 1))
          rw [X6_save_67, if_neg (by rw [show (12 : Int32) = nI 12 from rfl, i_le (by omega) (by omega)]; omega), if_pos (xin_nI hi (by omega)), if_pos (xin_nI hi (by omega)), nI_clamp (by omega), cpN_s, nI_1])
        (fun k => by
          show X6_save_67 N L so kn (k + 1) V kn (cpN so ss 12) (nI 12) = _
          rw [X6_save_67, if_pos (by decide), cpN_n hso hss]) N hN
      rw [cpN_0] at h
      exact h
    have h := lr (fun k (z : (Nat → Int32) × Int32) => X6_save_42 N L so kn k V z.1 ss z.2) (fun i => (cpN kn sk i, nI i)) 5 (some (V, kn, so)) (fun k i hi => by
        show X6_save_42 N L so kn (k + 1) V (cpN kn sk i) ss (nI i) = X6_save_42 N L so kn k V (cpN kn sk (i + 1)) ss (nI (i + 1))
        rw [X6_save_42, if_neg (by rw [show (5 : Int32) = nI 5 from rfl, i_le (by omega) (by omega)]; omega), if_pos (xin_nI hi (by omega)), if_pos (xin_nI hi (by omega)), nI_clamp (by omega), cpN_s, nI_1])
      (fun k => by
        show X6_save_42 N L so kn (k + 1) V (cpN kn sk 5) ss (nI 5) = _
        rw [X6_save_42, if_pos (by decide), cpN_n hkn hsk]
        exact h2) N (by omega)
    rw [cpN_0] at h
    exact h
  · simp [svM, upd]
  · simp [svM, upd]
  · simp [svM, upd]
  · simp [svM, upd]
  · simp [svM, upd]
  · rw [svM, ud_n _ _ (by omega), ud_n _ _ (by omega), ud_n _ _ (by omega), ud_n _ _ (by omega), ud_n _ _ (by omega)]
theorem e_back (hkn : Zr 5 kn) (hsk : Zr 5 sk) (hso : Zr 12 so) (hss : Zr 12 ss) (hN : 12 < N) : ∃ M1 : Nat → Int32, X6_back N M L so kn sk ss = some (M1, ss, sk) ∧ M1 12 = M 29 ∧ M1 13 = M 30 ∧ M1 14 = M 31 ∧ M1 15 = M 32 ∧ M1 16 = M 33 ∧ ∀ i, (i < 12 ∨ 16 < i) → M1 i = M i := by
  rw [X6_back]
  refine ⟨bkM M, ?_, ?_, ?_, ?_, ?_, ?_, fun i hi => ?_⟩
  · show X6_back_42 N L sk ss N (bkM M) so kn 0 = _
    generalize bkM M = V
    have h2 : X6_back_67 N L sk ss N V so sk 0 = some (V, ss, sk) := by
      have h := lr (fun k (z : (Nat → Int32) × Int32) => X6_back_67 N L sk ss k V z.1 sk z.2) (fun i => (cpN ss so i, nI i)) 12 (some (V, ss, sk)) (fun k i hi => by
          show X6_back_67 N L sk ss (k + 1) V (cpN ss so i) sk (nI i) = X6_back_67 N L sk ss k V (cpN ss so (i + 1)) sk (nI (i + 1))
          rw [X6_back_67, if_neg (by rw [show (12 : Int32) = nI 12 from rfl, i_le (by omega) (by omega)]; omega), if_pos (xin_nI hi (by omega)), if_pos (xin_nI hi (by omega)), nI_clamp (by omega), cpN_s, nI_1])
        (fun k => by
          show X6_back_67 N L sk ss (k + 1) V (cpN ss so 12) sk (nI 12) = _
          rw [X6_back_67, if_pos (by decide), cpN_n hss hso]) N hN
      rw [cpN_0] at h
      exact h
    have h := lr (fun k (z : (Nat → Int32) × Int32) => X6_back_42 N L sk ss k V so z.1 z.2) (fun i => (cpN sk kn i, nI i)) 5 (some (V, ss, sk)) (fun k i hi => by
        show X6_back_42 N L sk ss (k + 1) V so (cpN sk kn i) (nI i) = X6_back_42 N L sk ss k V so (cpN sk kn (i + 1)) (nI (i + 1))
        rw [X6_back_42, if_neg (by rw [show (5 : Int32) = nI 5 from rfl, i_le (by omega) (by omega)]; omega), if_pos (xin_nI hi (by omega)), if_pos (xin_nI hi (by omega)), nI_clamp (by omega), cpN_s, nI_1])
      (fun k => by
        show X6_back_42 N L sk ss (k + 1) V so (cpN sk kn 5) (nI 5) = _
        rw [X6_back_42, if_pos (by decide), cpN_n hsk hkn]
        exact h2) N (by omega)
    rw [cpN_0] at h
    exact h
  · simp [bkM, upd]
  · simp [bkM, upd]
  · simp [bkM, upd]
  · simp [bkM, upd]
  · simp [bkM, upd]
  · rw [bkM, ud_n _ _ (by omega), ud_n _ _ (by omega), ud_n _ _ (by omega), ud_n _ _ (by omega), ud_n _ _ (by omega)]
end SV
/-- how many are lost, of n with a aboard -/
theorem e_lostOf {n pl st hw : Nat} {w a : Nat → Bool} {sf cf : Nat → Int32} (hn : n ≤ 5) (hcf : cf 3 = nI n) (S : cS n w a pl st hw sf) : X4_lostOf sf cf = some (nI (n - cnt a n)) := by
  rw [X4_lostOf, e_bitCount hn S.1, Option.bind_some, hcf, pk_sub (cnt_le a n)]
theorem e_lostR {n N pl st hw : Nat} {w a : Nat → Bool} {M : Nat → Int32} (hn : n ≤ 5) (hN : 5 < N) (S : rS n w a pl st hw M) : X6_size N (M 13) = some (nI (n - cnt a n)) := by
  rw [e_size (p := fun j => !a j) hn hN S.1, cnt_not]
