/-! LAYER 2: the law's step, and the law -/
theorem law_end {len t : Nat} (hl : len ≤ 256) (ht : t ≤ 65) : (Int32.ofNat len - (4 : Int32) < nI (4 * t)) ↔ len < 4 * t + 4 := by
  have h1 : (Int32.ofNat len - (4 : Int32)).toInt = (len : Int) - (4 : Nat) := pk_sub_toInt (a := len) (b := 4) (by omega) (by omega)
  rw [Int32.lt_iff_toInt_lt, h1, nI_toInt (by omega)]
  omega
set_option maxHeartbeats 4000000 in
set_option maxRecDepth 100000 in
theorem law_go {N len : Nat} {xs : Nat → Int32} (hl : len ≤ 256) (hN : 40 < N) : ∀ (e t k : Nat), t + e = 65 → e < k → ∀ {n pc pl st hw np lg t0 : Nat} {need noon : Int32} {w a : Nat → Bool} {v : Nat → Nat} {xf pf la qf qs qr cf ck co cw sf kn lf ls ef ek gf gs tf tk uf us ur M so ro ns nr vk vs H rek rgs : Nat → Int32} {L : Nat → Int64}, Q t n pc pl st hw np lg t0 need noon w a v xf pf la qf qs qr cf ck co cw sf kn lf ls ef ek gf gs M so ro rek rgs → Fr tk us ur vk vs → L_law_18 N len xs k xf pf la qf qs qr cf ck co cw sf kn lf ls ef ek gf gs tf tk uf us ur M L so ro ck co cw kn ls la ns nr vk vs H rek rgs (nI (4 * t)) = some true := by
  intro e
  induction e with
  | zero =>
    intro t k ht hk n pc pl st hw np lg t0 need noon w a v xf pf la qf qs qr cf ck co cw sf kn lf ls ef ek gf gs tf tk uf us ur M so ro ns nr vk vs H rek rgs L q f
    obtain ⟨k, rfl⟩ : ∃ q, k = q + 1 := ⟨k - 1, by omega⟩
    rw [L_law_18, if_pos ((law_end hl (by omega)).mpr (by omega))]
  | succ e ih =>
    intro t k ht hk n pc pl st hw np lg t0 need noon w a v xf pf la qf qs qr cf ck co cw sf kn lf ls ef ek gf gs tf tk uf us ur M so ro ns nr vk vs H rek rgs L q f
    obtain ⟨k, rfl⟩ : ∃ q, k = q + 1 := ⟨k - 1, by omega⟩
    by_cases hend : len < 4 * t + 4
    · rw [L_law_18, if_pos ((law_end hl (by omega)).mpr hend)]
    have hne : ¬ (Int32.ofNat len - (4 : Int32) < nI (4 * t)) := fun h => hend ((law_end hl (by omega)).mp h)
    have x0 : xin (nI (4 * t)) len = true := xin_nI (by omega) (by omega)
    have x1 : xin (nI (4 * t) + (1 : Int32)) len = true := by rw [show nI (4 * t) + (1 : Int32) = nI (4 * t + 1) from nI_add _ 1]; exact xin_nI (by omega) (by omega)
    have x2 : xin (nI (4 * t) + (2 : Int32)) len = true := by rw [show nI (4 * t) + (2 : Int32) = nI (4 * t + 2) from nI_add _ 2]; exact xin_nI (by omega) (by omega)
    have x3 : xin (nI (4 * t) + (3 : Int32)) len = true := by rw [show nI (4 * t) + (3 : Int32) = nI (4 * t + 3) from nI_add _ 3]; exact xin_nI (by omega) (by omega)
    have h4 : nI (4 * t) + 4 = nI (4 * (t + 1)) := nI_add _ 4
    rw [L_law_18, if_neg hne, if_pos x0]
    generalize xs (nI (4 * t)).toNatClampNeg &&& (31 : Int32) = op
    generalize xs (nI (4 * t) + (1 : Int32)).toNatClampNeg = P1
    generalize xs (nI (4 * t) + (2 : Int32)).toNatClampNeg = P2
    generalize xs (nI (4 * t) + (3 : Int32)).toNatClampNeg = P3
    by_cases o0 : op = 0
    · rw [if_pos o0]
      simp only [if_pos x1]
      obtain ⟨x, pf', la', M', np', v', e1, e2, q2⟩ := q_letter (L := L) (P := P1) q
      rw [e1, Option.bind_some, e2, Option.bind_some, if_pos rfl, h4]
      exact ih (t + 1) k (by omega) (by omega) (q2.up (Nat.le_succ t)) f
    rw [if_neg o0]
    by_cases o1 : op = 1
    · rw [if_pos o1]
      obtain ⟨x, pf', M', e1, e2, q2⟩ := q_blank (L := L) q
      rw [e1, Option.bind_some, e2, Option.bind_some, if_pos rfl, h4]
      exact ih (t + 1) k (by omega) (by omega) (q2.up (Nat.le_succ t)) f
    rw [if_neg o1]
    by_cases o2 : op = 2
    · rw [if_pos o2]
      obtain ⟨x, M', ns', nr', e1, e2, q2⟩ := q_fault (L := L) (ns := ns) (nr := nr) q hN
      rw [e1, Option.bind_some, e2, Option.bind_some, if_pos rfl, h4]
      exact ih (t + 1) k (by omega) (by omega) (q2.up (Nat.le_succ t)) f
    rw [if_neg o2]
    by_cases o3 : op = 3
    · rw [if_pos o3]
      obtain ⟨x, xf', pf', qf', qs', qr', cf', sf', lf', M', so', ro', ns', nr', n', pc', pl', st', hw', np', lg', t0', need', noon', a', e1, e2, q2⟩ := q_passage (L := L) (ns := ns) (nr := nr) q hN (by omega)
      rw [e1, Option.bind_some, e2, Option.bind_some, if_pos rfl, h4]
      exact ih (t + 1) k (by omega) (by omega) q2 f
    rw [if_neg o3]
    by_cases o4 : op = 4
    · rw [if_pos o4]
      simp only [if_pos x1, if_pos x2]
      obtain ⟨x, e1, e2⟩ := q_place (L := L) (P1 := P1) (P2 := P2) q
      rw [e1, Option.bind_some, e2, Option.bind_some, if_pos rfl, h4]
      exact ih (t + 1) k (by omega) (by omega) (q.up (Nat.le_succ t)) f
    rw [if_neg o4]
    by_cases o5 : op = 5
    · rw [if_pos o5]
      simp only [if_pos x1, if_pos x2, if_pos x3]
      obtain ⟨x, cf', ck', co', cw', sf', kn', M', n', w', a', e1, e2, q2⟩ := q_man (L := L) (P1 := P1) (P2 := P2) (P3 := P3) q (by omega)
      rw [e1, Option.bind_some, e2, Option.bind_some, if_pos rfl, h4]
      exact ih (t + 1) k (by omega) (by omega) (q2.up (Nat.le_succ t)) f
    rw [if_neg o5]
    by_cases o6 : op = 6
    · rw [if_pos o6]
      simp only [if_pos x1, if_pos x2]
      obtain ⟨x, e1, e2⟩ := q_about (L := L) (P1 := P1) (P2 := P2) q
      rw [e1, Option.bind_some, e2, Option.bind_some, if_pos rfl, h4]
      exact ih (t + 1) k (by omega) (by omega) (q.up (Nat.le_succ t)) f
    rw [if_neg o6]
    by_cases o7 : op = 7
    · rw [if_pos o7]
      simp only [if_pos x1, if_pos x2]
      obtain ⟨x, e1, e2⟩ := q_as (L := L) (P1 := P1) (P2 := P2) q
      rw [e1, Option.bind_some, e2, Option.bind_some, if_pos rfl, h4]
      exact ih (t + 1) k (by omega) (by omega) (q.up (Nat.le_succ t)) f
    rw [if_neg o7]
    by_cases o8 : op = 8
    · rw [if_pos o8]
      simp only [if_pos x1, if_pos x2]
      by_cases hp : P2 = 0
      · obtain ⟨x, sf', M', w', e1, e2, q2⟩ := q_wax (L := L) (P1 := P1) (P2 := 0) q
        simp only [if_pos hp]
        rw [e1, Option.bind_some, e2, Option.bind_some, if_pos rfl, h4]
        exact ih (t + 1) k (by omega) (by omega) (q2.up (Nat.le_succ t)) f
      · obtain ⟨x, sf', M', w', e1, e2, q2⟩ := q_wax (L := L) (P1 := P1) (P2 := 1) q
        simp only [if_neg hp]
        rw [e1, Option.bind_some, e2, Option.bind_some, if_pos rfl, h4]
        exact ih (t + 1) k (by omega) (by omega) (q2.up (Nat.le_succ t)) f
    rw [if_neg o8]
    by_cases o9 : op = 9
    · rw [if_pos o9]
      simp only [if_pos x1, if_pos x2]
      obtain ⟨x, kn', e1, e2, q2⟩ := q_bind (L := L) (P1 := P1) (P2 := P2) q
      rw [e1, Option.bind_some, e2, Option.bind_some, if_pos rfl, h4]
      exact ih (t + 1) k (by omega) (by omega) (q2.up (Nat.le_succ t)) f
    rw [if_neg o9]
    by_cases o10 : op = 10
    · rw [if_pos o10]
      obtain ⟨x, sf', M', pl', st', hw', a', e1, e2, q2⟩ := q_stroke (L := L) q hN
      rw [e1, Option.bind_some, e2, Option.bind_some, if_pos rfl, h4]
      exact ih (t + 1) k (by omega) (by omega) q2 f
    rw [if_neg o10]
    by_cases o11 : op = 11
    · rw [if_pos o11]
      simp only [if_pos x1]
      obtain ⟨x, tf', tk', M', vk', vs', e1, e2, f2, q2⟩ := q_outcome (L := L) (tf := tf) (P := P1) q f hN
      rw [e1, Option.bind_some, e2, Option.bind_some, if_pos rfl, h4]
      exact ih (t + 1) k (by omega) (by omega) (q2.up (Nat.le_succ t)) f2
    rw [if_neg o11]
    by_cases o12 : op = 12
    · rw [if_pos o12]
      simp only [if_pos x1, if_pos x2]
      obtain ⟨x, tf', tk', M', vk', vs', e1, e2, f2, q2⟩ := q_waxing (L := L) (tf := tf) (P1 := P1) (P2 := P2) q f hN
      rw [e1, Option.bind_some, e2, Option.bind_some, if_pos rfl, h4]
      exact ih (t + 1) k (by omega) (by omega) (q2.up (Nat.le_succ t)) f2
    rw [if_neg o12]
    by_cases o13 : op = 13
    · rw [if_pos o13]
      simp only [if_pos x1]
      obtain ⟨x, tf', tk', M', vk', vs', e1, e2, f2, q2⟩ := q_hold (L := L) (tf := tf) (P1 := P1) q f hN
      rw [e1, Option.bind_some, e2, Option.bind_some, if_pos rfl, h4]
      exact ih (t + 1) k (by omega) (by omega) (q2.up (Nat.le_succ t)) f2
    rw [if_neg o13]
    by_cases o14 : op = 14
    · rw [if_pos o14]
      obtain ⟨x, tf', tk', M', vk', vs', e1, e2, f2, q2⟩ := q_listener (L := L) (tf := tf) q f hN
      rw [e1, Option.bind_some, e2, Option.bind_some, if_pos rfl, h4]
      exact ih (t + 1) k (by omega) (by omega) (q2.up (Nat.le_succ t)) f2
    rw [if_neg o14]
    by_cases o15 : op = 15
    · rw [if_pos o15]
      obtain ⟨x, tf', tk', uf', us', ur', M', vk', vs', e1, e2, f2, q2⟩ := q_sold (L := L) (tf := tf) (uf := uf) q f hN
      rw [e1, Option.bind_some, e2, Option.bind_some, if_pos rfl, h4]
      exact ih (t + 1) k (by omega) (by omega) (q2.up (Nat.le_succ t)) f2
    rw [if_neg o15]
    by_cases o16 : op = 16
    · rw [if_pos o16]
      simp only [if_pos x1]
      obtain ⟨x, lf', ls', M', lg', e1, e2, q2⟩ := q_log (L := L) (P := P1) q
      rw [e1, Option.bind_some, e2, Option.bind_some, if_pos rfl, h4]
      exact ih (t + 1) k (by omega) (by omega) (q2.up (Nat.le_succ t)) f
    rw [if_neg o16]
    by_cases o17 : op = 17
    · rw [if_pos o17]
      obtain ⟨x, lf', M', e1, e2, q2⟩ := q_forget (L := L) q
      rw [e1, Option.bind_some, e2, Option.bind_some, if_pos rfl, h4]
      exact ih (t + 1) k (by omega) (by omega) (q2.up (Nat.le_succ t)) f
    rw [if_neg o17]
    by_cases o18 : op = 18
    · rw [if_pos o18]
      obtain ⟨x, tf', tk', M', vk', vs', H', e1, e2, f2, q2⟩ := q_fits (L := L) (tf := tf) (H := H) q f hN
      rw [e1, Option.bind_some, e2, Option.bind_some, if_pos rfl, h4]
      exact ih (t + 1) k (by omega) (by omega) (q2.up (Nat.le_succ t)) f2
    rw [if_neg o18]
    by_cases o19 : op = 19
    · rw [if_pos o19]
      simp only [if_pos x1]
      obtain ⟨x, tf', tk', M', vk', vs', H', e1, e2, f2, q2⟩ := q_sure (L := L) (tf := tf) (H := H) (P1 := P1) q f hN
      rw [e1, Option.bind_some, e2, Option.bind_some, if_pos rfl, h4]
      exact ih (t + 1) k (by omega) (by omega) (q2.up (Nat.le_succ t)) f2
    rw [if_neg o19]
    by_cases o20 : op = 20
    · rw [if_pos o20]
      simp only [if_pos x1, if_pos x2, if_pos x3]
      obtain ⟨x, tf', tk', uf', us', ur', M', vk', vs', L', e1, e2, f2, q2⟩ := q_voyages (L := L) (tf := tf) (uf := uf) (P1 := P1) (P2 := P2) (P3 := P3) q f hN
      rw [e1, Option.bind_some, e2, Option.bind_some, if_pos rfl, h4]
      exact ih (t + 1) k (by omega) (by omega) (q2.up (Nat.le_succ t)) f2
    rw [if_neg o20]
    by_cases o21 : op = 21
    · rw [if_pos o21]
      obtain ⟨x, xf', ef', ek', gf', gs', M', rek', rgs', e1, e2, q2⟩ := q_image (L := L) q hN
      rw [e1, Option.bind_some, e2, Option.bind_some, if_pos rfl, h4]
      exact ih (t + 1) k (by omega) (by omega) (q2.up (Nat.le_succ t)) f
    rw [if_neg o21]
    by_cases o22 : op = 22
    · rw [if_pos o22]
      obtain ⟨x, cf', sf', kn', lf', ls', M', n', pl', st', hw', lg', w', a', e1, e2, q2⟩ := q_restore (L := L) q hN
      rw [e1, Option.bind_some, e2, Option.bind_some, if_pos rfl, h4]
      exact ih (t + 1) k (by omega) (by omega) (q2.up (Nat.le_succ t)) f
    rw [if_neg o22]
    by_cases o23 : op = 23
    · rw [if_pos o23]
      simp only [if_pos x1]
      obtain ⟨x, e1, e2, -⟩ := q_count (L := L) (P := P1) q hN
      rw [e1, Option.bind_some, e2, Option.bind_some, if_pos rfl, h4]
      exact ih (t + 1) k (by omega) (by omega) (q.up (Nat.le_succ t)) f
    rw [if_neg o23]
    by_cases o24 : op = 24
    · rw [if_pos o24]
      obtain ⟨x, tf', tk', uf', us', ur', M', vk', vs', H', L', e1, e2, f2, q2⟩ := q_digest (L := L) (tf := tf) (uf := uf) (H := H) q f hN
      rw [e1, Option.bind_some, e2, Option.bind_some, if_pos ((lg_cmp_eq _ _).mpr rfl), h4]
      exact ih (t + 1) k (by omega) (by omega) (q2.up (Nat.le_succ t)) f2
    rw [if_neg o24]
    rw [h4]
    exact ih (t + 1) k (by omega) (by omega) (q.up (Nat.le_succ t)) f
theorem q_0 : Q 0 0 0 0 0 0 0 0 0 0 0 (fun _ => false) (fun _ => false) (fun _ => 0) (fun _ => 0) (fun _ => 0) (fun _ => 0) (fun _ => 0) (fun _ => 0) (fun _ => 0) (fun _ => 0) (fun _ => 0) (fun _ => 0) (fun _ => 0) (fun _ => 0) (fun _ => 0) (fun _ => 0) (fun _ => 0) (fun _ => 0) (fun _ => 0) (fun _ => 0) (fun _ => 0) (fun _ => 0) (fun _ => 0) (fun _ => 0) (fun _ => 0) (fun _ => 0) :=
  ⟨⟨⟨rfl, rfl, rfl, rfl, fun _ _ => rfl, fun _ _ => rfl⟩, ⟨rfl, rfl, rfl, rfl, fun _ _ => rfl, fun _ _ => rfl⟩, ⟨by decide, by decide, fun k hk => by omega, fun k hk => by omega, fun k hk => by omega, fun k hk => by omega⟩, rfl⟩,
   ⟨⟨fun j hj => by rw [b_0, Bool.and_false], fun j hj => by omega, rfl, rfl, rfl⟩, ⟨fun j hj => by rw [b_0, decide_eq_false (by omega)]; rfl, fun j hj => by omega, rfl, rfl, rfl⟩, fun j hj => by omega, fun j hj => by omega, fun _ _ => rfl, by decide, fun h => h, fun _ => rfl, fun _ j hj => by omega, Nat.le_refl 0⟩,
   ⟨rfl, rfl, by decide, fun j hj => by omega, fun j hj => by omega⟩, ⟨rfl, rfl, by decide⟩, ⟨rfl, rfl, Nat.le_refl 0⟩, ⟨fun _ _ => rfl, fun _ _ => rfl, fun _ _ => rfl, fun _ _ => rfl, fun _ _ => rfl, fun _ _ => rfl, fun _ _ => rfl, fun _ _ => rfl, fun _ _ => rfl⟩, Or.inl rfl, Or.inl ⟨rfl, Or.inl rfl⟩⟩
theorem law_pure (L : Nat) (xs : Nat → Int32) (hL : L ≤ 256) : ∃ N : Nat, L_law_18 N L xs N (fun _ => 0) (fun _ => 0) (fun _ => 0) (fun _ => 0) (fun _ => 0) (fun _ => 0) (fun _ => 0) (fun _ => 0) (fun _ => 0) (fun _ => 0) (fun _ => 0) (fun _ => 0) (fun _ => 0) (fun _ => 0) (fun _ => 0) (fun _ => 0) (fun _ => 0) (fun _ => 0) (fun _ => 0) (fun _ => 0) (fun _ => 0) (fun _ => 0) (fun _ => 0) (fun _ => 0) (fun _ => 0) (fun _ => 0) (fun _ => 0) (fun _ => 0) (fun _ => 0) (fun _ => 0) (fun _ => 0) (fun _ => 0) (fun _ => 0) (fun _ => 0) (fun _ => 0) (fun _ => 0) (fun _ => 0) (fun _ => 0) (fun _ => 0) (fun _ => 0) 0 = some true :=
  ⟨1000, law_go (N := 1000) hL (by decide) 65 0 1000 rfl (by decide) q_0 ⟨fun _ _ => rfl, fun _ _ => rfl, fun _ _ => rfl, fun _ _ => rfl, fun _ _ => rfl⟩⟩
