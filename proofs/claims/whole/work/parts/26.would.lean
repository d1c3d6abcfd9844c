/-! LAYER 2: what would be: trials, OUTCOME, HOLD -/
def gB (n pc : Nat) (sg rk ck cw kn : Nat → Int32) : Prop :=
  n ≤ 5 ∧ pc ≤ 12 ∧ (∀ k, k < pc → ∃ s, s ≤ 9 ∧ sg k = nI s) ∧ (∀ k, k < pc → rk k = 0 ∨ rk k = 1 ∨ rk k = 2) ∧ (∀ j, j < n → ∃ v, v ≤ 9 ∧ cw j = nI v) ∧ (∀ j, j < n → ∃ v, v ≤ 9 ∧ kn j = nI v)
theorem gB.x {n pc : Nat} {sg rk ck cw kn : Nat → Int32} (G : gB n pc sg rk ck cw kn) : gX n pc sg rk ck cw kn := by
  obtain ⟨a, b, c, d, e, f⟩ := G
  refine ⟨a, b, c, d, fun j hj => ?_⟩
  obtain ⟨v, hv, ev⟩ := e j hj
  obtain ⟨u, hu, eu⟩ := f j hj
  by_cases h : ck j = 4
  · refine ⟨v + 3 * u, by omega, ?_⟩
    rw [sHold, if_pos h, ev, eu]
    show nI v + nI 3 * nI u = _
    rw [pk_mul, nI_add]
  · refine ⟨v + 2 * u, by omega, ?_⟩
    rw [sHold, if_neg h, ev, eu]
    show nI v + nI 2 * nI u = _
    rw [pk_mul, nI_add]
theorem gB.kn {n pc : Nat} {sg rk ck cw kn kn2 : Nat → Int32} (G : gB n pc sg rk ck cw kn) (h : ∀ j, j < n → ∃ v, v ≤ 9 ∧ kn2 j = nI v) : gB n pc sg rk ck cw kn2 := ⟨G.1, G.2.1, G.2.2.1, G.2.2.2.1, G.2.2.2.2.1, h⟩
theorem gB.sg {n pc : Nat} {sg sg2 rk ck cw kn : Nat → Int32} (G : gB n pc sg rk ck cw kn) (h : ∀ k, k < pc → ∃ s, s ≤ 9 ∧ sg2 k = nI s) : gB n pc sg2 rk ck cw kn := ⟨G.1, G.2.1, h, G.2.2.2.1, G.2.2.2.2.1, G.2.2.2.2.2⟩
abbrev sGo (n pc : Nat) (need noon : Int32) (sg rk ck co cw kn : Nat → Int32) (w a : Nat → Bool) (pl st hw : Nat) : (Nat → Bool) × Nat × Nat × Nat := sRun n pc need noon sg rk ck co cw kn w 30 a pl st hw
def sRank (c n : Nat) (R : (Nat → Bool) × Nat × Nat × Nat) : Nat := (n - cnt R.1 n) + (if R.2.2.2 = 1 then 0 else c)
section T
variable {n pc pl st hw N : Nat} {need noon : Int32} {sg rk ck co cw kn : Nat → Int32} {w a : Nat → Bool}
theorem cGo {qf qs qr cf sf : Nat → Int32} (G : gB n pc sg rk ck cw kn) (C : cX n pc need noon sg rk qf qs qr cf) (S : cS n w a pl st hw sf) (hpl : pl < pc) (hhw : hw ≤ 3) (hN : 40 < N) :
    ∃ sf' : Nat → Int32, X4_rowOn N sf kn qf qs qr cf ck co cw = some (nI ((sGo n pc need noon sg rk ck co cw kn w a pl st hw).2.2.1 - st), sf') ∧ cS n w (sGo n pc need noon sg rk ck co cw kn w a pl st hw).1 (sGo n pc need noon sg rk ck co cw kn w a pl st hw).2.1 (sGo n pc need noon sg rk ck co cw kn w a pl st hw).2.2.1 (sGo n pc need noon sg rk ck co cw kn w a pl st hw).2.2.2 sf' := by
  obtain ⟨sf', h1, h2⟩ := cRun (N := N) (need := need) (co := co) G.x C (by omega) 30 0 N sf a pl st hw rfl (by omega) S hpl hhw
  refine ⟨sf', ?_, h2⟩
  rw [X4_rowOn]
  refine Eq.trans h1 ?_
  rw [Nat.zero_add]
theorem rGo {M so ro : Nat → Int32} {L : Nat → Int64} (G : gB n pc sg rk ck cw kn) (C : rX n pc need noon sg rk M so ro) (S : rS n w a pl st hw M) (hpl : pl < pc) (hhw : hw ≤ 3) (hN : 40 < N) :
    ∃ M' : Nat → Int32, X6_goOn N M L so ro ck co cw kn = some M' ∧ rS n w (sGo n pc need noon sg rk ck co cw kn w a pl st hw).1 (sGo n pc need noon sg rk ck co cw kn w a pl st hw).2.1 (sGo n pc need noon sg rk ck co cw kn w a pl st hw).2.2.1 (sGo n pc need noon sg rk ck co cw kn w a pl st hw).2.2.2 M' ∧ rKeep M M' := by
  obtain ⟨M', h1, h2, h3⟩ := rRun (N := N) (L := L) (need := need) (co := co) G.x (by omega) 30 0 N M a pl st hw rfl (by omega) C S hpl hhw
  exact ⟨M', by rw [X6_goOn]; exact h1, h2, h3⟩
theorem e_rank {sf cf : Nat → Int32} {xf : Nat → Int32} {R : (Nat → Bool) × Nat × Nat × Nat} (hn : n ≤ 5) (hcf : cf 3 = nI n) (S : cS n w R.1 R.2.1 R.2.2.1 R.2.2.2 sf) (h3 : R.2.2.2 ≤ 3) : X5_rankOfTrial xf cf sf = some (nI (sRank 6 n R)) := by
  rw [X5_rankOfTrial, e_lostOf hn hcf S, Option.bind_some, S.2.2.2.2, sRank]
  by_cases h : R.2.2.2 = 1
  · rw [h, if_pos (show nI 1 = 1 from rfl), if_pos rfl, Nat.add_zero]
  · rw [if_neg (by rw [show (1 : Int32) = nI 1 from rfl, i_eq (by omega) (by omega)]; exact h), if_neg h]
    exact congrArg some (nI_add _ 6)
theorem e_bad {M : Nat → Int32} {L : Nat → Int64} {R : (Nat → Bool) × Nat × Nat × Nat} (hn : n ≤ 5) (hN : 40 < N) (S : rS n w R.1 R.2.1 R.2.2.1 R.2.2.2 M) (h3 : R.2.2.2 ≤ 3) : X6_badness N M L = some (nI (sRank 1000 n R)) := by
  rw [X6_badness, e_lostR hn (by omega) S, Option.bind_some, S.2.2.2.2, sRank]
  by_cases h : R.2.2.2 = 1
  · rw [h, if_pos (show nI 1 = 1 from rfl), if_pos rfl, Nat.add_zero]; exact congrArg some (Int32.add_zero _)
  · rw [if_neg (by rw [show (1 : Int32) = nI 1 from rfl, i_eq (by omega) (by omega)]; exact h), if_neg h]
    exact congrArg some (nI_add _ 1000)
theorem e_canGoOn {xf qf qs qr cf sf : Nat → Int32} (hn : n ≤ 5) (hpc : pc ≤ 12) (C : cX n pc need noon sg rk qf qs qr cf) (S : cS n w a pl st hw sf) (h3 : hw ≤ 3) : X5_canGoOn xf qf cf sf = some (decide (0 < pc) && (decide (0 < n) && decide (hw = 0))) := by
  have z : ∀ k, k < 100 → (nI k ≤ 0) = (k = 0) := fun k hk => by rw [show (0 : Int32) = nI 0 from rfl, i_le (by omega) (by omega)]; exact propext (by omega)
  have z2 : (nI hw = 0) = (hw = 0) := by rw [show (0 : Int32) = nI 0 from rfl, i_eq (by omega) (by omega)]
  rw [X5_canGoOn, X5_hasPassage, C.2.2.2.1, C.1, S.2.2.2.2]
  by_cases h1 : pc = 0
  · rw [if_pos ((z pc (by omega)).mpr h1), decide_eq_false (by omega)]; rfl
  · rw [if_neg (fun q => h1 ((z pc (by omega)).mp q)), decide_eq_true (by omega)]
    rw [Option.bind_some, if_neg (show ¬ bz true = 0 by decide)]
    by_cases h2 : n = 0
    · rw [if_pos ((z n (by omega)).mpr h2), decide_eq_false (by omega)]; rfl
    · rw [if_neg (fun q => h2 ((z n (by omega)).mp q)), decide_eq_true (by omega)]
      by_cases h4 : hw = 0
      · rw [if_pos (z2.mpr h4), decide_eq_true h4]; rfl
      · rw [if_neg (fun q => h4 (z2.mp q)), decide_eq_false h4]; rfl
theorem e_isOn {M so ro : Nat → Int32} {L : Nat → Int64} (hn : n ≤ 5) (hpc : pc ≤ 12) (C : rX n pc need noon sg rk M so ro) (h0 : M 0 = nI (if pc = 0 then 0 else 1)) (S : rS n w a pl st hw M) (h3 : hw ≤ 3) : X6_isOn M L = some (decide (0 < pc) && (decide (0 < n) && decide (hw = 0))) := by
  have z : ∀ k, k < 100 → (nI k ≤ 0) = (k = 0) := fun k hk => by rw [show (0 : Int32) = nI 0 from rfl, i_le (by omega) (by omega)]; exact propext (by omega)
  have z2 : (nI hw = 0) = (hw = 0) := by rw [show (0 : Int32) = nI 0 from rfl, i_eq (by omega) (by omega)]
  rw [X6_isOn, h0, C.1, S.2.2.2.2]
  by_cases h1 : pc = 0
  · rw [if_pos h1, if_pos nI_0, decide_eq_false (by omega)]; rfl
  · rw [if_neg h1, if_neg (by decide), decide_eq_true (by omega)]
    by_cases h2 : n = 0
    · rw [if_pos ((z n (by omega)).mpr h2), decide_eq_false (by omega)]; rfl
    · rw [if_neg (fun q => h2 ((z n (by omega)).mp q)), decide_eq_true (by omega)]
      by_cases h4 : hw = 0
      · rw [if_pos (z2.mpr h4), decide_eq_true h4]; rfl
      · rw [if_neg (fun q => h4 (z2.mp q)), decide_eq_false h4]; rfl
end T
/-- the reference has saved M0, and is otherwise as M0 -/
def svd (M0 M : Nat → Int32) : Prop := (∀ i, i ≠ 17 → (i < 29 ∨ 33 < i) → M i = M0 i) ∧ M 29 = M0 12 ∧ M 30 = M0 13 ∧ M 31 = M0 14 ∧ M 32 = M0 15 ∧ M 33 = M0 16
theorem svd.save {M so kn vk vs : Nat → Int32} {L : Nat → Int64} {N : Nat} (hkn : Zr 5 kn) (hvk : Zr 5 vk) (hso : Zr 12 so) (hvs : Zr 12 vs) (hN : 40 < N) : ∃ M1 : Nat → Int32, X6_save N M L so kn vk vs = some (M1, kn, so) ∧ svd M M1 := by
  obtain ⟨M1, h, h1, h2, h3, h4, h5, h6⟩ := e_save (M := M) (L := L) hkn hvk hso hvs (show 12 < N by omega)
  exact ⟨M1, h, fun i _ hi => h6 i hi, h1, h2, h3, h4, h5⟩
theorem svd.back {M0 M1 M3 so3 kn3 so kn : Nat → Int32} {L : Nat → Int64} {N : Nat} (h : svd M0 M1) (hk : ∀ i, (i < 12 ∨ 17 < i) → M3 i = M1 i) (hkn : Zr 5 kn) (hk3 : Zr 5 kn3) (hso : Zr 12 so) (hs3 : Zr 12 so3) (hN : 40 < N) : ∃ M4 : Nat → Int32, X6_back N M3 L so3 kn3 kn so = some (M4, so, kn) ∧ svd M0 M4 := by
  obtain ⟨M4, e, h1, h2, h3, h4, h5, h6⟩ := e_back (M := M3) (L := L) hk3 hkn hs3 hso (show 12 < N by omega)
  obtain ⟨g0, g1, g2, g3, g4, g5⟩ := h
  refine ⟨M4, e, fun i hi hi2 => ?_, ?_, ?_, ?_, ?_, ?_⟩
  · rcases (show i = 12 ∨ i = 13 ∨ i = 14 ∨ i = 15 ∨ i = 16 ∨ (i < 12 ∨ 17 < i) by omega) with rfl | rfl | rfl | rfl | rfl | h9
    · rw [h1, hk 29 (by omega), g1]
    · rw [h2, hk 30 (by omega), g2]
    · rw [h3, hk 31 (by omega), g3]
    · rw [h4, hk 32 (by omega), g4]
    · rw [h5, hk 33 (by omega), g5]
    · rw [h6 i (by omega), hk i h9, g0 i hi hi2]
  · rw [h6 29 (by omega), hk 29 (by omega), g1]
  · rw [h6 30 (by omega), hk 30 (by omega), g2]
  · rw [h6 31 (by omega), hk 31 (by omega), g3]
  · rw [h6 32 (by omega), hk 32 (by omega), g4]
  · rw [h6 33 (by omega), hk 33 (by omega), g5]
theorem svd.rX {n pc : Nat} {need noon : Int32} {sg rk so ro M0 M : Nat → Int32} (h : svd M0 M) (C : rX n pc need noon sg rk M0 so ro) : rX n pc need noon sg rk M so ro := by
  obtain ⟨a, b, c, d, e, f⟩ := C
  exact ⟨by rw [h.1 7 (by decide) (by omega), a], by rw [h.1 2 (by decide) (by omega), b], by rw [h.1 3 (by decide) (by omega), c], by rw [h.1 4 (by decide) (by omega), d], e, f⟩
theorem svd.rS {n pl st hw : Nat} {w a : Nat → Bool} {M0 M : Nat → Int32} (h : svd M0 M) (S : rS n w a pl st hw M0) : rS n w a pl st hw M := by
  obtain ⟨s1, s2, s3, s4, s5⟩ := S
  exact ⟨fun j hj => by rw [h.1 13 (by decide) (by omega)]; exact s1 j hj, fun j hj ha => by rw [h.1 12 (by decide) (by omega)]; exact s2 j hj ha, by rw [h.1 14 (by decide) (by omega), s3], by rw [h.1 15 (by decide) (by omega), s4], by rw [h.1 16 (by decide) (by omega), s5]⟩
theorem rX.at {n pc : Nat} {need noon : Int32} {sg rk so ro M M' : Nat → Int32} (C : rX n pc need noon sg rk M so ro) (h : ∀ i, i < 12 → M' i = M i) : rX n pc need noon sg rk M' so ro := by
  obtain ⟨a, b, c, d, e, f⟩ := C
  exact ⟨by rw [h 7 (by omega), a], by rw [h 2 (by omega), b], by rw [h 3 (by omega), c], by rw [h 4 (by omega), d], e, f⟩
section O
variable {n pc pl st hw N : Nat} {need noon : Int32} {sg rk ck co cw kn : Nat → Int32} {w a : Nat → Bool}
def vOutcome (P : Int32) (n st : Nat) (R : (Nat → Bool) × Nat × Nat × Nat) : Int32 := if P = 0 then nI (n - cnt R.1 n) else if P = 1 then nI (R.2.2.1 - st) else nI R.2.2.2
theorem r_outcome {M so ro vk vs : Nat → Int32} {L : Nat → Int64} {P : Int32} (G : gB n pc sg rk ck cw kn) (C : rX n pc need noon sg rk M so ro) (S : rS n w a pl st hw M) (hpl : pl < pc) (hhw : hw ≤ 3) (hN : 40 < N) (z1 : Zr 5 kn) (z2 : Zr 5 vk) (z3 : Zr 12 so) (z4 : Zr 12 vs) :
    ∃ M' : Nat → Int32, X6_outcomeNow N M L so ro ck co cw kn vk vs P = some (vOutcome P n st (sGo n pc need noon sg rk ck co cw kn w a pl st hw), M', so, kn, kn, so) ∧ svd M M' := by
  obtain ⟨M1, h1, s1⟩ := svd.save (M := M) (L := L) z1 z2 z3 z4 hN
  obtain ⟨M2, h2, S2, K2⟩ := rGo (N := N) (L := L) (need := need) (co := co) G (s1.rX C) (s1.rS S) hpl hhw hN
  obtain ⟨M3, h3, s3⟩ := svd.back (N := N) (L := L) s1 (M3 := M2) (fun i hi => K2 i (by omega) (by omega) (by omega) (by omega) (by omega)) z1 z1 z3 z3 hN
  have hst : st ≤ (sGo n pc need noon sg rk ck co cw kn w a pl st hw).2.2.1 := (sRun_ok 30 a pl st hw hpl hhw).2.2.1
  refine ⟨M3, ?_, s3⟩
  rw [X6_outcomeNow, h1, Option.bind_some, h2, Option.bind_some, h3, vOutcome]
  by_cases p0 : P = 0
  · rw [if_pos p0, if_pos p0, e_lostR G.1 (by omega) S2]; rfl
  · rw [if_neg p0, if_neg p0]
    by_cases p1 : P = 1
    · rw [if_pos p1, if_pos p1, Option.bind_some, S2.2.2.2.1, K2 32 (by decide) (by decide) (by decide) (by decide) (by decide), s1.2.2.2.2.1, S.2.2.2.1, pk_sub hst]
    · rw [if_neg p1, if_neg p1, Option.bind_some, S2.2.2.2.2]
theorem c_trial {tf sf : Nat → Int32} (S : cS n w a pl st hw sf) : cS n w a pl st hw (upd (upd (upd (upd (upd tf 1 (sf 1)) 2 (sf 2)) 3 (sf 3)) 4 (sf 4)) 5 (sf 5)) := by
  have e := e_copy_at (tf := tf) (sf := sf)
  obtain ⟨s1, s2, s3, s4, s5⟩ := S
  exact ⟨fun j hj => by rw [e 2 (by omega) (by omega)]; exact s1 j hj, fun j hj ha => by rw [e 1 (by omega) (by omega)]; exact s2 j hj ha, by rw [e 3 (by omega) (by omega), s3], by rw [e 4 (by omega) (by omega), s4], by rw [e 5 (by omega) (by omega), s5]⟩
theorem cS.wax {sf : Nat → Int32} {v : Nat → Bool} {x : Int32} (S : cS n w a pl st hw sf) (h : ∀ j, j < n → a j = true → bt x j = v j) : cS n v a pl st hw (upd sf 1 x) := by
  obtain ⟨s1, s2, s3, s4, s5⟩ := S
  exact ⟨fun j hj => by rw [ud_n _ _ (by decide)]; exact s1 j hj, fun j hj ha => by rw [ud_s]; exact h j hj ha, by rw [ud_n _ _ (by decide), s3], by rw [ud_n _ _ (by decide), s4], by rw [ud_n _ _ (by decide), s5]⟩
theorem rS.wax {M : Nat → Int32} {v : Nat → Bool} {x : Int32} (S : rS n w a pl st hw M) (h : ∀ j, j < n → a j = true → bt x j = v j) : rS n v a pl st hw (upd M 12 x) := by
  obtain ⟨s1, s2, s3, s4, s5⟩ := S
  exact ⟨fun j hj => by rw [ud_n _ _ (by decide)]; exact s1 j hj, fun j hj ha => by rw [ud_s]; exact h j hj ha, by rw [ud_n _ _ (by decide), s3], by rw [ud_n _ _ (by decide), s4], by rw [ud_n _ _ (by decide), s5]⟩
theorem c_outcome {xf qf qs qr cf sf tf tk : Nat → Int32} {P : Int32} (G : gB n pc sg rk ck cw kn) (C : cX n pc need noon sg rk qf qs qr cf) (S : cS n w a pl st hw sf) (hpl : pl < pc) (hhw : hw ≤ 3) (hN : 40 < N) (z1 : Zr 5 kn) (z2 : Zr 5 tk) (hP : P = 0 ∨ P = 1 ∨ P = 2) (hon : (decide (0 < pc) && (decide (0 < n) && decide (hw = 0))) = true) :
    ∃ tf' : Nat → Int32, X5_outcome N xf qf qs qr cf ck co cw sf kn tf tk P = some (vOutcome P n st (sGo n pc need noon sg rk ck co cw kn w a pl st hw), tf', kn) := by
  obtain ⟨t1, h1, S1⟩ := cGo (N := N) (need := need) (co := co) G C (c_trial (tf := tf) S) hpl hhw hN
  refine ⟨t1, ?_⟩
  have hlt : P < 3 := by rcases hP with rfl | rfl | rfl <;> decide
  have hge : ¬ P < 0 := by rcases hP with rfl | rfl | rfl <;> decide
  rw [X5_outcome, if_neg hge, if_pos hlt, e_canGoOn G.1 G.2.1 C S hhw, hon]
  rw [Option.bind_some, if_neg (show ¬ bz true = 0 by decide), e_copy z1 z2, Option.bind_some, h1, Option.bind_some, vOutcome]
  rcases hP with rfl | rfl | rfl
  · rw [if_pos rfl, if_pos rfl, e_lostOf G.1 C.1 S1]; rfl
  · rw [if_neg (by decide), if_pos rfl, if_neg (by decide), if_pos rfl]
  · rw [if_neg (by decide), if_neg (by decide), if_neg (by decide), if_neg (by decide), ← S1.2.2.2.2]
-- ===== HOLD =====
def sFirst (p : Nat → Bool) : Nat → Nat → Int32
  | 0, _ => -1
  | e + 1, d => bif p d then nI d else sFirst p e (d + 1)
theorem hold_kn {i d : Nat} {sg rk ck cw kn : Nat → Int32} (G : gB n pc sg rk ck cw kn) (hd : d ≤ 9) : gB n pc sg rk ck cw (upd kn i (nI d)) := by
  refine G.kn (fun j hj => ?_)
  by_cases h : j = i
  · subst h; exact ⟨d, hd, ud_s _ _ _⟩
  · rw [ud_n _ _ h]; exact G.2.2.2.2.2 j hj
theorem c_hold {i : Nat} {xf qf qs qr cf sf : Nat → Int32} (G : gB n pc sg rk ck cw kn) (C : cX n pc need noon sg rk qf qs qr cf) (S : cS n w a pl st hw sf) (hpl : pl < pc) (hhw : hw ≤ 3) (hN : 40 < N) (z1 : Zr 5 kn) (hi : i < n) :
    ∀ (e d k : Nat) (tf tk : Nat → Int32), d + e = 10 → e < k → Zr 5 tk → ∃ tf' tk' : Nat → Int32, X5_hold_34 N xf qf qs qr cf ck co cw sf kn k tf tk (nI i) (nI d) = some (sFirst (fun q => (sGo n pc need noon sg rk ck co cw (upd kn i (nI q)) w a pl st hw).1 i) e d, tf', tk') ∧ Zr 5 tk' := by
  have hn := G.1
  intro e
  induction e with
  | zero =>
    intro d k tf tk hd hk z2
    obtain ⟨k, rfl⟩ : ∃ q, k = q + 1 := ⟨k - 1, by omega⟩
    obtain rfl : d = 10 := by omega
    exact ⟨tf, tk, by rw [X5_hold_34, if_pos (by decide)]; rfl, z2⟩
  | succ e ih =>
    intro d k tf tk hd hk z2
    obtain ⟨k, rfl⟩ : ∃ q, k = q + 1 := ⟨k - 1, by omega⟩
    obtain ⟨t1, h1, S1⟩ := cGo (N := N) (need := need) (co := co) (hold_kn (i := i) (d := d) G (by omega)) C (c_trial (tf := tf) S) hpl hhw hN
    rw [X5_hold_34, if_neg (by rw [show (9 : Int32) = nI 9 from rfl, i_lt (by omega) (by omega)]; omega), e_copy z1 z2, Option.bind_some, e_setKnots (by omega), Option.bind_some, h1, Option.bind_some, e_isAboard (by omega), Option.bind_some, S1.1 i (by omega), decide_eq_true hi, Bool.true_and, nI_1]
    simp only [sFirst]
    cases hq : (sGo n pc need noon sg rk ck co cw (upd kn i (nI d)) w a pl st hw).1 i with
    | true => exact ⟨t1, upd kn i (nI d), by rw [if_neg (by decide)]; rfl, z1.upd (by omega)⟩
    | false =>
      obtain ⟨tf', tk', h3, z3⟩ := ih (d + 1) k t1 (upd kn i (nI d)) (by omega) (by omega) (z1.upd (by omega))
      exact ⟨tf', tk', by rw [if_pos (show bz false = 0 from rfl), cond_false]; exact h3, z3⟩
theorem r_hold {i : Nat} {M so ro : Nat → Int32} {L : Nat → Int64} (G : gB n pc sg rk ck cw kn) (C : rX n pc need noon sg rk M so ro) (S : rS n w a pl st hw M) (hpl : pl < pc) (hhw : hw ≤ 3) (hN : 40 < N) (z1 : Zr 5 kn) (z3 : Zr 12 so) (hi : i < n) :
    ∀ (e d k : Nat) (M1 : Nat → Int32), d + e = 10 → e < k → svd M M1 → ∃ M' : Nat → Int32, X6_holdNow_6 N L ro ck co cw k M1 so kn kn so (nI i) (nI d) = some (sFirst (fun q => (sGo n pc need noon sg rk ck co cw (upd kn i (nI q)) w a pl st hw).1 i) e d, M', so, kn, kn, so) ∧ svd M M' := by
  have hn := G.1
  intro e
  induction e with
  | zero =>
    intro d k M1 hd hk s1
    obtain ⟨k, rfl⟩ : ∃ q, k = q + 1 := ⟨k - 1, by omega⟩
    obtain rfl : d = 10 := by omega
    exact ⟨M1, by rw [X6_holdNow_6, if_pos (by decide)]; rfl, s1⟩
  | succ e ih =>
    intro d k M1 hd hk s1
    obtain ⟨k, rfl⟩ : ∃ q, k = q + 1 := ⟨k - 1, by omega⟩
    obtain ⟨M2, h2, S2, K2⟩ := rGo (N := N) (L := L) (need := need) (co := co) (hold_kn (i := i) (d := d) G (by omega)) (s1.rX C) (s1.rS S) hpl hhw hN
    obtain ⟨M3, h3, s3⟩ := svd.back (N := N) (L := L) s1 (M3 := M2) (fun q hq => K2 q (by omega) (by omega) (by omega) (by omega) (by omega)) z1 (z1.upd (v := nI d) (show i < 5 by omega)) z3 z3 hN
    rw [X6_holdNow_6, if_neg (by rw [show (9 : Int32) = nI 9 from rfl, i_lt (by omega) (by omega)]; omega), if_pos (xin_nI (show i < 5 by omega) (by omega)), nI_clamp (by omega), h2, Option.bind_some, e_has (by omega), Option.bind_some, S2.1 i (by omega), decide_eq_true hi, Bool.true_and, h3, Option.bind_some, Option.bind_some, nI_1]
    simp only [sFirst]
    cases hq : (sGo n pc need noon sg rk ck co cw (upd kn i (nI d)) w a pl st hw).1 i with
    | true => exact ⟨M3, rfl, s3⟩
    | false =>
      obtain ⟨M', h4, s4⟩ := ih (d + 1) k M3 (by omega) (by omega) s3
      exact ⟨M', by rw [if_neg (by decide), h4]; rfl, s4⟩
end O
