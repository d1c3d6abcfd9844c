/-! LAYER 2, the ground: loops, bits (the rows bt .. b_sshr began as the kit's pasting rows on bits), small numbers. -/
/-- a loop that goes from st 0 to st m, and ends there with r -/
theorem lr {σ ρ : Type} (F : Nat → σ → Option ρ) (st : Nat → σ) (m : Nat) (r : Option ρ) (hs : ∀ k i, i < m → F (k + 1) (st i) = F k (st (i + 1))) (hx : ∀ k, F (k + 1) (st m) = r) (N : Nat) (hN : m < N) : F N (st 0) = r := by
  have h : ∀ d i N, i + d = m → d < N → F N (st i) = r := by
    intro d
    induction d with
    | zero =>
      intro i N hi hN
      obtain ⟨k, rfl⟩ : ∃ k, N = k + 1 := ⟨N - 1, by omega⟩
      obtain rfl : i = m := by omega
      exact hx k
    | succ d ih =>
      intro i N hi hN
      obtain ⟨k, rfl⟩ : ∃ k, N = k + 1 := ⟨N - 1, by omega⟩
      rw [hs k i (by omega)]
      exact ih (i + 1) k (by omega) (by omega)
  exact h m 0 N (by omega) hN
def bt (x : Int32) (i : Nat) : Bool := x.toBitVec.getLsbD i
theorem b_ext {x y : Int32} (h : ∀ i, i < 32 → bt x i = bt y i) : x = y := Int32.toBitVec_inj.mp (BitVec.eq_of_getLsbD_eq (fun i hi => h i hi))
theorem b_or (x y : Int32) (i : Nat) : bt (x ||| y) i = (bt x i || bt y i) := by unfold bt; rw [Int32.toBitVec_or, BitVec.getLsbD_or]
theorem b_and (x y : Int32) (i : Nat) : bt (x &&& y) i = (bt x i && bt y i) := by unfold bt; rw [Int32.toBitVec_and, BitVec.getLsbD_and]
theorem b_xor (x y : Int32) (i : Nat) : bt (x ^^^ y) i = (bt x i ^^ bt y i) := by unfold bt; rw [Int32.toBitVec_xor, BitVec.getLsbD_xor]
theorem b_big {x : Int32} {i : Nat} (h : 32 ≤ i) : bt x i = false := BitVec.getLsbD_of_ge _ _ h
theorem b_m1 : ∀ i, i < 32 → bt (-1) i = true := by decide +kernel
theorem b_0 (i : Nat) : bt 0 i = false := BitVec.getLsbD_zero
theorem s_l : ∀ n, n < 32 → ((nI n &&& 31).toBitVec.smod 32).toNat = n := by decide +kernel
theorem b_shl (n : Nat) (hn : n < 32) (x : Int32) {i : Nat} (hi : i < 32) : bt (x <<< (nI n &&& 31)) i = (decide (n ≤ i) && bt x (i - n)) := by
  unfold bt
  rw [Int32.toBitVec_shiftLeft]
  show (x.toBitVec <<< ((nI n &&& 31).toBitVec.smod 32).toNat).getLsbD i = _
  rw [s_l n hn, BitVec.getLsbD_shiftLeft]
  rcases Nat.lt_or_ge i n with h | h
  · simp [h, Nat.not_le.mpr h]
  · simp [hi, h, Nat.not_lt.mpr h]
theorem b_sshr (n : Nat) (hn : n < 32) (x : Int32) {i : Nat} (hi : i < 32) : bt (x >>> (nI n &&& 31)) i = if n + i < 32 then bt x (n + i) else bt x 31 := by
  unfold bt
  rw [Int32.toBitVec_shiftRight]
  show (x.toBitVec.sshiftRight ((nI n &&& 31).toBitVec.smod 32).toNat).getLsbD i = _
  rw [s_l n hn, BitVec.getLsbD_sshiftRight, BitVec.msb_eq_getLsbD_last]
  simp [hi]
theorem xin_nI {i n : Nat} (h : i < n) (hn : n < 2 ^ 31) : xin (nI i) n = true := by
  have h1 := nI_toInt (n := i) (by omega)
  simp only [xin, h1, Bool.and_eq_true, decide_eq_true_eq]
  omega
theorem i_nlt0 {i : Nat} (h : i < 2 ^ 31) : ¬ nI i < 0 := nI_pos h
theorem i_le {a b : Nat} (ha : a < 2 ^ 31) (hb : b < 2 ^ 31) : (nI a ≤ nI b) = (a ≤ b) := propext (nI_leI ha hb)
theorem i_lt {a b : Nat} (ha : a < 2 ^ 31) (hb : b < 2 ^ 31) : (nI a < nI b) = (a < b) := propext (nI_ltI ha hb)
theorem i_eq {a b : Nat} (ha : a < 2 ^ 31) (hb : b < 2 ^ 31) : (nI a = nI b) = (a = b) := propext (nI_eq ha hb)
theorem b_nI (k j : Nat) (hj : j < 32) : bt (nI k) j = k.testBit j := by
  show (BitVec.ofNat 32 k).getLsbD j = _
  rw [BitVec.getLsbD_ofNat]
  simp [hj]
/-- 1 << m -/
theorem b_one {m j : Nat} (hm : m < 32) (hj : j < 32) : bt ((1 : Int32) <<< (nI m &&& 31)) j = decide (j = m) := by
  rw [b_shl m hm _ hj]
  show (decide (m ≤ j) && bt (nI 1) (j - m)) = _
  rw [b_nI 1 _ (by omega)]
  rcases Nat.lt_trichotomy j m with h | h | h
  · rw [decide_eq_false (by omega), decide_eq_false (by omega)]; rfl
  · subst h; simp
  · rw [decide_eq_false (by omega : ¬ j = m)]
    have : Nat.testBit 1 (j - m) = false := by
      obtain ⟨d, hd⟩ : ∃ d, j - m = d + 1 := ⟨j - m - 1, by omega⟩
      rw [hd, Nat.testBit_succ]; simp
    rw [this]; simp
/-- x & (1 << m) == 0 -/
theorem b_test {x : Int32} {m : Nat} (hm : m < 32) : (x &&& ((1 : Int32) <<< (nI m &&& 31))) = 0 ↔ bt x m = false := by
  constructor
  · intro h
    have h1 := congrArg (fun z => bt z m) h
    simp only [b_and, b_one hm hm, b_0] at h1
    simpa using h1
  · intro h
    refine b_ext (fun j hj => ?_)
    rw [b_and, b_one hm hj, b_0]
    by_cases e : j = m
    · subst e; rw [h]; rfl
    · rw [decide_eq_false e]; simp
/-- x >> m & 1 -/
theorem b_bit {x : Int32} {m : Nat} (hm : m < 32) : ((x >>> (nI m &&& 31)) &&& (1 : Int32)) = bz (bt x m) := by
  refine b_ext (fun j hj => ?_)
  rw [b_and, b_sshr m hm x hj]
  have h1 : bt (1 : Int32) j = decide (j = 0) := by
    show bt (nI 1) j = _
    rw [b_nI 1 j hj]
    cases j with
    | zero => rfl
    | succ j => rw [Nat.testBit_succ]; simp
  rw [h1]
  have h2 : bt (bz (bt x m)) j = (bt x m && decide (j = 0)) := by
    cases bt x m with
    | false => rw [show bz false = 0 from rfl, b_0]; rfl
    | true => rw [show bz true = (1 : Int32) from rfl, h1]; rfl
  rw [h2]
  by_cases e : j = 0
  · subst e; simp [hm]
  · rw [decide_eq_false e]; simp
theorem bz_eq0 (b : Bool) : (bz b = 0) = (b = false) := by cases b <;> decide
theorem bz_eq1 (b : Bool) : (bz b = 1) = (b = true) := by cases b <;> decide
theorem b_not (x : Int32) {j : Nat} (hj : j < 32) : bt (x ^^^ (-1 : Int32)) j = !bt x j := by
  rw [b_xor, b_m1 j hj]; simp
/-- everybody -/
theorem b_all {n j : Nat} (hn : n ≤ 5) (hj : j < 32) : bt (((1 : Int32) <<< (nI n &&& 31)) - (1 : Int32)) j = decide (j < n) :=
  (by decide +kernel : ∀ n, n < 6 → ∀ j, j < 32 → bt (((1 : Int32) <<< (nI n &&& 31)) - (1 : Int32)) j = decide (j < n)) n (by omega) j hj
theorem i_all {n : Nat} (hn : n ≤ 5) : (((1 : Int32) <<< (nI n &&& 31)) - (1 : Int32)) = nI (2 ^ n - 1) :=
  (by decide +kernel : ∀ n, n < 6 → (((1 : Int32) <<< (nI n &&& 31)) - (1 : Int32)) = nI (2 ^ n - 1)) n (by omega)
/-- a set of the first five is a number below 32 -/
theorem b_small {x : Int32} (h : ∀ j, 5 ≤ j → j < 32 → bt x j = false) : ∃ v, v < 32 ∧ x = nI v := by
  refine ⟨x.toBitVec.toNat, ?_, ?_⟩
  · have : x.toBitVec.toNat < 2 ^ 5 := by
      refine Nat.lt_pow_two_of_testBit _ (fun i hi => ?_)
      rcases Nat.lt_or_ge i 32 with h2 | h2
      · exact h i hi h2
      · exact BitVec.getLsbD_of_ge _ _ h2
    omega
  · apply Int32.toBitVec_inj.mp
    show x.toBitVec = BitVec.ofNat 32 x.toBitVec.toNat
    rw [BitVec.ofNat_toNat]; simp
/-- how many of the first n -/
def cnt (p : Nat → Bool) : Nat → Nat
  | 0 => 0
  | n + 1 => cnt p n + (p n).toNat
theorem cnt_le (p : Nat → Bool) (n : Nat) : cnt p n ≤ n := by
  induction n with
  | zero => exact Nat.le_refl 0
  | succ n ih =>
    simp only [cnt]
    have : (p n).toNat ≤ 1 := by cases p n <;> decide
    omega
theorem cnt_congr {p q : Nat → Bool} {n : Nat} (h : ∀ j, j < n → p j = q j) : cnt p n = cnt q n := by
  induction n with
  | zero => rfl
  | succ n ih => simp only [cnt, h n (by omega), ih (fun j hj => h j (by omega))]
theorem cnt_not (p : Nat → Bool) (n : Nat) : cnt (fun j => !p j) n = n - cnt p n := by
  induction n with
  | zero => rfl
  | succ n ih =>
    have := cnt_le p n
    simp only [cnt, ih]
    cases p n <;> simp <;> omega
theorem cnt_cut (p : Nat → Bool) (n d : Nat) : cnt (fun j => decide (j < n) && p j) (n + d) = cnt p n := by
  induction d with
  | zero => exact cnt_congr (fun j hj => by rw [decide_eq_true (show j < n by omega)]; rfl)
  | succ d ih =>
    show cnt _ (n + d) + (decide (n + d < n) && p (n + d)).toNat = _
    rw [ih, decide_eq_false (show ¬ n + d < n by omega)]; rfl
theorem e_bitCount {x : Int32} {n : Nat} {p : Nat → Bool} (hn : n ≤ 5) (h : ∀ j, j < 32 → bt x j = (decide (j < n) && p j)) : J6_bitCount_0f7a4 x = some (nI (cnt p n)) := by
  obtain ⟨v, hv, rfl⟩ := b_small (x := x) (fun j h5 hj => by rw [h j hj, decide_eq_false (by omega)]; rfl)
  have h1 := (by decide +kernel : ∀ v, v < 32 → J6_bitCount_0f7a4 (nI v) = some (nI (cnt (fun j => bt (nI v) j) 5))) v hv
  rw [h1]
  obtain ⟨d, hd⟩ : ∃ d, 5 = n + d := ⟨5 - n, by omega⟩
  rw [hd, cnt_congr (q := fun j => decide (j < n) && p j) (fun j hj => h j (by omega)), cnt_cut]
theorem e_size {x : Int32} {n N : Nat} {p : Nat → Bool} (hn : n ≤ 5) (hN : 5 < N) (h : ∀ j, j < 32 → bt x j = (decide (j < n) && p j)) : X6_size N x = some (nI (cnt p n)) := by
  rw [X6_size]
  have hl := lr (fun k (z : Int32 × Int32) => X6_size_4 N k x z.1 z.2) (fun i => (nI (cnt (fun j => bt x j) i), nI i)) 5 (some (nI (cnt p n)))
    (fun k i hi => by
      show X6_size_4 N (k + 1) x _ (nI i) = X6_size_4 N k x _ (nI (i + 1))
      rw [X6_size_4, if_neg (by show ¬ nI 5 ≤ nI i; rw [i_le (by omega) (by omega)]; omega), b_bit (by omega), nI_1]
      congr 1
      simp only [cnt]
      cases bt x i
      · exact nI_add _ 0
      · exact nI_add _ 1)
    (fun k => by
      show X6_size_4 N (k + 1) x _ (nI 5) = _
      rw [X6_size_4, if_pos (by decide)]
      obtain ⟨d, hd⟩ : ∃ d, 5 = n + d := ⟨5 - n, by omega⟩
      rw [cnt_congr (q := fun j => decide (j < n) && p j) (fun j hj => h j (by omega)), hd, cnt_cut]) N hN
  exact hl
