/-! LAYER 2: DIGEST, whole -/
section Q
variable {t n pc pl st hw np lg t0 N : Nat} {need noon : Int32} {w a : Nat → Bool} {v : Nat → Nat} {xf pf la qf qs qr cf ck co cw sf kn lf ls ef ek gf gs so ro ns nr rek rgs : Nat → Int32} {L : Nat → Int64}
theorem d_tail {acc : Int64} {tf tk uf us ur M vk vs H : Nat → Int32} (q : Q t n pc pl st hw np lg t0 need noon w a v xf pf la qf qs qr cf ck co cw sf kn lf ls ef ek gf gs M so ro rek rgs) (f : Fr tk us ur vk vs) (hN : 40 < N) :
    ∃ (acc' : Int64) (tf' tk' M' vk' vs' H' : Nat → Int32),
      ((X5_hasPassage xf qf).bind fun u3 => (if (bz u3) = 0 then (X5_digest_193 N xf pf la qf qs qr cf ck co cw sf kn lf ls N tf tk uf us ur acc (0 : Int32)) else (if (cf 3) ≤ 0 then (X5_digest_193 N xf pf la qf qs qr cf ck co cw sf kn lf ls N tf tk uf us ur acc (0 : Int32)) else ((X5_fits N xf qf qs qr cf ck co cw sf kn lf ls tf tk).bind fun u15 => ((X5_mix acc u15.1.toInt64).bind fun u17 => (X5_digest_193 N xf pf la qf qs qr cf ck co cw sf kn lf ls N u15.2.1 u15.2.2 uf us ur u17 (0 : Int32))))))) = some (acc', tf', tk', uf, us, ur) ∧
      (if (M 0) = 0 then (X6_digest_122 N ro ck co cw ls la N M (vp_updL L 49 acc) so kn vk vs H (0 : Int32)) else (if (M 7) ≤ 0 then (X6_digest_122 N ro ck co cw ls la N M (vp_updL L 49 acc) so kn vk vs H (0 : Int32)) else ((X6_layFits N M (vp_updL L 49 acc) so ro ck co cw kn ls vk vs H).bind fun u12 => ((X6_mix u12.2.1 (vp_updL L 49 acc) u12.1.toInt64).bind fun u14 => (X6_digest_122 N ro ck co cw ls la N u12.2.1 u14 u12.2.2.1 u12.2.2.2.1 u12.2.2.2.2.1 u12.2.2.2.2.2.1 u12.2.2.2.2.2.2 (0 : Int32)))))) = some (acc', M', vp_updL L 49 acc', so, kn, vk', vs', H') ∧
      Fr tk' us ur vk' vs' ∧ Q t n pc pl st hw np lg t0 need noon w a v xf pf la qf qs qr cf ck co cw sf kn lf ls ef ek gf gs M' so ro rek rgs := by
  have hn := q.G.1
  rcases q.hasP with ⟨hp, p1, p2⟩ | ⟨hp, p1, p2⟩
  · exact ⟨dV (cov xf pf qf cf sf lf) (dV la acc np) 11, tf, tk, M, vk, vs, H, by rw [p1, Option.bind_some, if_pos (show bz false = 0 from rfl)]; exact dc_end q hN, by rw [if_pos p2]; exact dr_end q hN, f, q⟩
  by_cases h0 : n = 0
  · exact ⟨dV (cov xf pf qf cf sf lf) (dV la acc np) 11, tf, tk, M, vk, vs, H, by rw [p1, Option.bind_some, if_neg (show ¬ bz true = 0 by decide), q.C.1, if_pos (by rw [i_lez (by omega)]; exact h0)]; exact dc_end q hN, by rw [if_neg p2, q.R.1, if_pos (by rw [i_lez (by omega)]; exact h0)]; exact dr_end q hN, f, q⟩
  · obtain ⟨x, tf', tk', M', H', g4, g5, s, z⟩ := d_fits (N := N) (L := vp_updL L 49 acc) (tf := tf) (H := H) q f hN ⟨hp, by omega⟩
    have q2 := q.svd s
    refine ⟨dV (cov xf pf qf cf sf lf) (dV la (mx acc x) np) 11, tf', tk', M', kn, so, H', ?_, ?_, f.next z f.zus f.zur q.zk q.zso, q2⟩
    · rw [p1, Option.bind_some, if_neg (show ¬ bz true = 0 by decide), q.C.1, if_neg (by rw [i_lez (by omega)]; exact h0), g4, Option.bind_some, c_mix, Option.bind_some]
      exact dc_end q2 hN
    · rw [if_neg p2, q.R.1, if_neg (by rw [i_lez (by omega)]; exact h0), g5, Option.bind_some, r_mix, Option.bind_some]
      exact dr_end q2 hN
theorem d_out3 {uf us ur : Nat → Int32} (hN : 40 < N) (hon : 0 < pc ∧ 0 < n ∧ hw = 0) : ∀ (e i k kr : Nat) (acc : Int64) (tf tk M vk vs : Nat → Int32), i + e = 3 → e < k → e < kr → Q t n pc pl st hw np lg t0 need noon w a v xf pf la qf qs qr cf ck co cw sf kn lf ls ef ek gf gs M so ro rek rgs → Fr tk us ur vk vs →
    ∃ (k' kr' : Nat) (acc' : Int64) (tf' tk' M' vk' vs' : Nat → Int32), X5_digest_102 N xf pf la qf qs qr cf ck co cw sf kn lf ls k tf tk uf us ur acc (nI i) = X5_digest_102 N xf pf la qf qs qr cf ck co cw sf kn lf ls (k' + 1) tf' tk' uf us ur acc' (nI 3) ∧ X6_mixOutcome_2 N ro ck co cw kr M (vp_updL L 49 acc) so kn vk vs (nI i) = X6_mixOutcome_2 N ro ck co cw (kr' + 1) M' (vp_updL L 49 acc') so kn vk' vs' (nI 3) ∧ Fr tk' us ur vk' vs' ∧ Q t n pc pl st hw np lg t0 need noon w a v xf pf la qf qs qr cf ck co cw sf kn lf ls ef ek gf gs M' so ro rek rgs := by
  intro e
  induction e with
  | zero =>
    intro i k kr acc tf tk M vk vs hi hk hkr q f
    obtain ⟨k, rfl⟩ : ∃ q, k = q + 1 := ⟨k - 1, by omega⟩
    obtain ⟨kr, rfl⟩ : ∃ q, kr = q + 1 := ⟨kr - 1, by omega⟩
    obtain rfl : i = 3 := by omega
    exact ⟨k, kr, acc, tf, tk, M, vk, vs, rfl, rfl, f, q⟩
  | succ e ih =>
    intro i k kr acc tf tk M vk vs hi hk hkr q f
    obtain ⟨k, rfl⟩ : ∃ q, k = q + 1 := ⟨k - 1, by omega⟩
    obtain ⟨kr, rfl⟩ : ∃ q, kr = q + 1 := ⟨kr - 1, by omega⟩
    have hP : nI i = 0 ∨ nI i = 1 ∨ nI i = 2 := by rcases (show i = 0 ∨ i = 1 ∨ i = 2 by omega) with rfl | rfl | rfl <;> decide
    obtain ⟨x, tf1, M1, g4, g5, s⟩ := d_outcome (N := N) (L := vp_updL L 49 acc) (tf := tf) q f hN hP hon
    obtain ⟨k', kr', acc', tf', tk', M', vk', vs', e1, e2, f2, q2⟩ := ih (i + 1) k kr (mx acc x) tf1 kn M1 kn so (by omega) (by omega) (by omega) (q.svd s) (f.next q.zk f.zus f.zur q.zk q.zso)
    refine ⟨k', kr', acc', tf', tk', M', vk', vs', ?_, ?_, f2, q2⟩
    · rw [← e1, X5_digest_102, if_neg (by rw [show (3 : Int32) = nI 3 from rfl, i_le (by omega) (by omega)]; omega), g4, Option.bind_some, c_mix, Option.bind_some, nI_1]
    · rw [← e2, X6_mixOutcome_2, if_neg (by rw [show (3 : Int32) = nI 3 from rfl, i_le (by omega) (by omega)]; omega), g5, Option.bind_some, r_mix, Option.bind_some, nI_1]
theorem d_on {acc : Int64} {tf tk uf us ur M vk vs H : Nat → Int32} (q : Q t n pc pl st hw np lg t0 need noon w a v xf pf la qf qs qr cf ck co cw sf kn lf ls ef ek gf gs M so ro rek rgs) (f : Fr tk us ur vk vs) (hN : 40 < N) (hon : 0 < pc ∧ 0 < n ∧ hw = 0) :
    ∃ (acc' : Int64) (tf' tk' uf' us' ur' M' vk' vs' H' : Nat → Int32),
      X5_digest_102 N xf pf la qf qs qr cf ck co cw sf kn lf ls N tf tk uf us ur acc 0 = some (acc', tf', tk', uf', us', ur') ∧
      ((X6_mixOutcome N M (vp_updL L 49 acc) so ro ck co cw kn vk vs).bind fun u18 => (if (u18.1 0) = 0 then (X6_digest_122 N ro ck co cw ls la N u18.1 u18.2.1 u18.2.2.1 u18.2.2.2.1 u18.2.2.2.2.1 u18.2.2.2.2.2 H (0 : Int32)) else (if (u18.1 7) ≤ 0 then (X6_digest_122 N ro ck co cw ls la N u18.1 u18.2.1 u18.2.2.1 u18.2.2.2.1 u18.2.2.2.2.1 u18.2.2.2.2.2 H (0 : Int32)) else ((X6_layFits N u18.1 u18.2.1 u18.2.2.1 ro ck co cw u18.2.2.2.1 ls u18.2.2.2.2.1 u18.2.2.2.2.2 H).bind fun u20 => ((X6_mix u20.2.1 u18.2.1 u20.1.toInt64).bind fun u22 => (X6_digest_122 N ro ck co cw ls la N u20.2.1 u22 u20.2.2.1 u20.2.2.2.1 u20.2.2.2.2.1 u20.2.2.2.2.2.1 u20.2.2.2.2.2.2 (0 : Int32))))))) = some (acc', M', vp_updL L 49 acc', so, kn, vk', vs', H') ∧
      Fr tk' us' ur' vk' vs' ∧ Q t n pc pl st hw np lg t0 need noon w a v xf pf la qf qs qr cf ck co cw sf kn lf ls ef ek gf gs M' so ro rek rgs := by
  obtain ⟨k', kr', a1, tf1, tk1, M1, vk1, vs1, e1, e2, f1, q1⟩ := d_out3 (L := L) (uf := uf) hN hon 3 0 N N acc tf tk M vk vs (by omega) (by omega) (by omega) q f
  obtain ⟨x2, tf2, tk2, M2, c2, r2, s2, z2⟩ := d_waxing (N := N) (p := 2) (P2 := 0) (L := vp_updL L 49 a1) (tf := tf1) q1 f1 hN (by decide) (Or.inl rfl) hon
  have q2 := q1.svd s2
  have f2 := f1.next z2 f1.zus f1.zur q1.zk q1.zso
  obtain ⟨x3, tf3, tk3, M3, c3, r3, s3, z3⟩ := d_waxing (N := N) (p := 2) (P2 := 1) (L := vp_updL L 49 (mx a1 x2)) (tf := tf2) q2 f2 hN (by decide) (Or.inr rfl) hon
  have q3 := q2.svd s3
  have f3 := f2.next z3 f2.zus f2.zur q2.zk q2.zso
  obtain ⟨x4, tf4, tk4, M4, c4, r4, s4, z4⟩ := d_listener (N := N) (L := vp_updL L 49 (mx (mx a1 x2) x3)) (tf := tf3) q3 f3 hN hon
  have q4 := q3.svd s4
  have f4 := f3.next z4 f3.zus f3.zur q3.zk q3.zso
  obtain ⟨x5, tf5, tk5, uf5, us5, ur5, M5, c5, r5, s5, z5, z6, z7⟩ := d_sold (N := N) (L := vp_updL L 49 (mx (mx (mx a1 x2) x3) x4)) (tf := tf4) (uf := uf) q4 f4 hN hon
  have q5 := q4.svd s5
  have f5 := f4.next z5 z6 z7 q4.zk q4.zso
  obtain ⟨acc', tf', tk', M', vk', vs', H', g1, g2, f6, q6⟩ := d_tail (N := N) (L := L) (acc := mx (mx (mx (mx a1 x2) x3) x4) x5) (tf := tf5) (uf := uf5) (H := H) q5 f5 hN
  refine ⟨acc', tf', tk', uf5, us5, ur5, M', vk', vs', H', ?_, ?_, f6, q6⟩
  · rw [show (0 : Int32) = nI 0 from rfl, e1, X5_digest_102, if_pos (by decide), show (2 : Int32) = nI 2 from rfl, c2, Option.bind_some, c_mix, Option.bind_some, c3, Option.bind_some, c_mix, Option.bind_some, c4, Option.bind_some, c_mix, Option.bind_some, c5, Option.bind_some, c_mix, Option.bind_some]
    exact g1
  · have hm : X6_mixOutcome N M (vp_updL L 49 acc) so ro ck co cw kn vk vs = some (M5, vp_updL L 49 (mx (mx (mx (mx a1 x2) x3) x4) x5), so, kn, kn, so) := by
      rw [X6_mixOutcome, show (0 : Int32) = nI 0 from rfl, e2, X6_mixOutcome_2, if_pos (by decide), show (2 : Int32) = nI 2 from rfl, r2, Option.bind_some, r_mix, Option.bind_some, r3, Option.bind_some, r_mix, Option.bind_some, r4, Option.bind_some, r_mix, Option.bind_some, r5, Option.bind_some, r_mix, Option.bind_some]
    rw [hm, Option.bind_some]
    exact g2
theorem q_digest {tf tk uf us ur M vk vs H : Nat → Int32} (q : Q t n pc pl st hw np lg t0 need noon w a v xf pf la qf qs qr cf ck co cw sf kn lf ls ef ek gf gs M so ro rek rgs) (f : Fr tk us ur vk vs) (hN : 40 < N) :
    ∃ (acc' : Int64) (tf' tk' uf' us' ur' M' vk' vs' H' : Nat → Int32) (L' : Nat → Int64),
      X5_digest N xf pf la qf qs qr cf ck co cw sf kn lf ls tf tk uf us ur = some (acc', tf', tk', uf', us', ur') ∧
      X6_digest N M L so ro ck co cw kn ls la vk vs H = some (acc', M', L', so, kn, vk', vs', H') ∧
      Fr tk' us' ur' vk' vs' ∧ Q t n pc pl st hw np lg t0 need noon w a v xf pf la qf qs qr cf ck co cw sf kn lf ls ef ek gf gs M' so ro rek rgs := by
  have hn := q.G.1
  obtain ⟨k1, c1⟩ := dc_men (tf := tf) (tk := tk) (uf := uf) (us := us) (ur := ur) (acc := dP so ro 757 pc) q hN n 0 N (by omega) (by omega)
  obtain ⟨k2, r1⟩ := dr_men (L := L) (vk := vk) (vs := vs) (H := H) (acc := dP so ro 757 pc) q hN n 0 N (by omega) (by omega)
  obtain ⟨b, o1, o2, o3, -⟩ := q.on (L := vp_updL L 49 (dM (abv xf qf cf ck co cw sf kn) (dP so ro 757 pc) n))
  have hc : X5_digest N xf pf la qf qs qr cf ck co cw sf kn lf ls tf tk uf us ur = X5_digest_47 N xf pf la qf qs qr cf ck co cw sf kn lf ls (k1 + 1) tf tk uf us ur (dM (abv xf qf cf ck co cw sf kn) (dP so ro 757 pc) n) (nI n) := by
    rw [X5_digest, dc_places q hN]; exact c1
  have hr : X6_digest N M L so ro ck co cw kn ls la vk vs H = X6_digest_47 N ro ck co cw ls la (k2 + 1) M (vp_updL L 49 (dM (abv xf qf cf ck co cw sf kn) (dP so ro 757 pc) n)) so kn vk vs H (nI n) := by
    rw [X6_digest, dr_places q hN]; exact r1
  rw [hc, hr, X5_digest_47, X6_digest_47, q.C.1, q.R.1]
  generalize dM (abv xf qf cf ck co cw sf kn) (dP so ro 757 pc) n = acc at o2 ⊢
  cases b with
  | false =>
    obtain ⟨acc', tf', tk', M', vk', vs', H', g1, g2, f6, q6⟩ := d_tail (N := N) (L := L) (acc := acc) (tf := tf) (uf := uf) (H := H) q f hN
    rw [q.C.1] at g1
    rw [q.R.1] at g2
    refine ⟨acc', tf', tk', uf, us, ur, M', vk', vs', H', vp_updL L 49 acc', ?_, ?_, f6, q6⟩
    · rw [if_pos (by rw [i_le (by omega) (by omega)]; omega), o1, Option.bind_some, if_pos (show bz false = 0 from rfl)]
      exact g1
    · rw [if_pos (by rw [i_le (by omega) (by omega)]; omega), o2, Option.bind_some, if_pos (show bz false = 0 from rfl)]
      exact g2
  | true =>
    obtain ⟨acc', tf', tk', uf', us', ur', M', vk', vs', H', g1, g2, f6, q6⟩ := d_on (N := N) (L := L) (acc := acc) (tf := tf) (uf := uf) (H := H) q f hN (o3 rfl)
    refine ⟨acc', tf', tk', uf', us', ur', M', vk', vs', H', vp_updL L 49 acc', ?_, ?_, f6, q6⟩
    · rw [if_pos (by rw [i_le (by omega) (by omega)]; omega), o1, Option.bind_some, if_neg (show ¬ bz true = 0 by decide)]
      exact g1
    · rw [if_pos (by rw [i_le (by omega) (by omega)]; omega), o2, Option.bind_some, if_neg (show ¬ bz true = 0 by decide)]
      exact g2
end Q
