/-! LAYER 2: DIGEST -/
def mx (acc : Int64) (x : Int32) : Int64 := (31 : Int64) * acc + x.toInt64
theorem c_mix (acc : Int64) (x : Int32) : X5_mix acc x.toInt64 = some (mx acc x) := rfl
theorem updL_updL (L : Nat → Int64) (k : Nat) (x y : Int64) : vp_updL (vp_updL L k x) k y = vp_updL L k y := by
  funext j
  by_cases h : j = k
  · subst h; rw [pk_uLs, pk_uLs]
  · rw [pk_uLn h, pk_uLn h, pk_uLn h]
theorem r_mix (M : Nat → Int32) (L : Nat → Int64) (acc : Int64) (x : Int32) : X6_mix M (vp_updL L 49 acc) x.toInt64 = some (vp_updL L 49 (mx acc x)) := by
  rw [X6_mix, pk_uLs, updL_updL]; rfl
def dP (so ro : Nat → Int32) (acc : Int64) : Nat → Int64
  | 0 => acc
  | i + 1 => mx (mx (dP so ro acc i) (so i)) (ro i)
/-- values mixed in one behind another -/
def dV (f : Nat → Int32) (acc : Int64) : Nat → Int64
  | 0 => acc
  | j + 1 => mx (dV f acc j) (f j)
def dM (f : Nat → Nat → Int32) (acc : Int64) : Nat → Int64
  | 0 => acc
  | i + 1 => dV (f i) (dM f acc i) 8
section Q
variable {t n pc pl st hw np lg t0 N : Nat} {need noon : Int32} {w a : Nat → Bool} {v : Nat → Nat} {xf pf la qf qs qr cf ck co cw sf kn lf ls ef ek gf gs tf tk uf us ur M so ro ns nr vk vs H rek rgs : Nat → Int32} {L : Nat → Int64}
def abv (xf qf cf ck co cw sf kn : Nat → Int32) (i k : Nat) : Int32 := (X5_about xf qf cf ck co cw sf kn (nI i) (nI k)).getD 0
def cov (xf pf qf cf sf lf : Nat → Int32) (k : Nat) : Int32 := (X5_count xf pf qf cf sf lf (nI k)).getD 0
theorem m_about {i k : Nat} (q : Q t n pc pl st hw np lg t0 need noon w a v xf pf la qf qs qr cf ck co cw sf kn lf ls ef ek gf gs M so ro rek rgs) (hi : i < n) (hk : k < 8) : X5_about xf qf cf ck co cw sf kn (nI i) (nI k) = some (abv xf qf cf ck co cw sf kn i k) ∧ X6_manNow M L ck co cw kn (nI i) (nI k) = some (abv xf qf cf ck co cw sf kn i k) := by
  have hn := q.G.1
  obtain ⟨x, h1, h2⟩ := q_about (L := L) (P1 := nI i) (P2 := nI k) q
  have e : abv xf qf cf ck co cw sf kn i k = x := by rw [abv, h1]; rfl
  rw [e]
  refine ⟨h1, ?_⟩
  rw [X6_about] at h2
  rcases known (xf := xf) (L := L) (nI i) hn q.C.1 q.R.1 with ⟨e1, e2⟩ | ⟨i', hi', e0, e1, e2⟩
  · exfalso
    rw [X5_isKnown, if_neg (i_nlt0 (by omega)), q.C.1, if_neg (by rw [i_le (by omega) (by omega)]; omega)] at e1
    exact absurd e1 (by decide)
  · have e3 : X6_within (nI k) 0 7 = some true := by
      rw [X6_within, if_neg (i_nlt0 (by omega)), if_neg (by rw [show (7 : Int32) = nI 7 from rfl, i_lt (by omega) (by omega)]; omega)]
    rw [e2, Option.bind_some, if_neg (show ¬ bz true = 0 by decide), e3, Option.bind_some, if_neg (show ¬ bz true = 0 by decide)] at h2
    cases hm : X6_manNow M L ck co cw kn (nI i) (nI k) with
    | none => rw [hm] at h2; exact absurd h2 (by simp)
    | some y => rw [hm] at h2; exact h2
theorem m_count {k : Nat} (q : Q t n pc pl st hw np lg t0 need noon w a v xf pf la qf qs qr cf ck co cw sf kn lf ls ef ek gf gs M so ro rek rgs) (hN : 40 < N) : X5_count xf pf qf cf sf lf (nI k) = some (cov xf pf qf cf sf lf k) ∧ X6_howMany N M L (nI k) = some (cov xf pf qf cf sf lf k) := by
  obtain ⟨x, h1, -, h2⟩ := q_count (L := L) (P := nI k) q hN
  have e : cov xf pf qf cf sf lf k = x := by rw [cov, h1]; rfl
  rw [e]
  exact ⟨h1, h2⟩
-- ===== the places =====
theorem dc_places {acc : Int64} (q : Q t n pc pl st hw np lg t0 need noon w a v xf pf la qf qs qr cf ck co cw sf kn lf ls ef ek gf gs M so ro rek rgs) (hN : 40 < N) : X5_digest_6 N xf pf la qf qs qr cf ck co cw sf kn lf ls N tf tk uf us ur acc 0 = X5_digest_47 N xf pf la qf qs qr cf ck co cw sf kn lf ls N tf tk uf us ur (dP so ro acc pc) 0 := by
  have hpc := q.G.2.1
  have h := lr (fun k (z : Int64 × Int32) => X5_digest_6 N xf pf la qf qs qr cf ck co cw sf kn lf ls k tf tk uf us ur z.1 z.2) (fun i => (dP so ro acc i, nI i)) pc _ (fun k i hi => by
      show X5_digest_6 N xf pf la qf qs qr cf ck co cw sf kn lf ls (k + 1) tf tk uf us ur (dP so ro acc i) (nI i) = X5_digest_6 N xf pf la qf qs qr cf ck co cw sf kn lf ls k tf tk uf us ur (dP so ro acc (i + 1)) (nI (i + 1))
      have e1 : X5_place xf qf qs qr (nI i) 0 = some (so i) := by
        rw [X5_place, if_neg (i_nlt0 (by omega)), q.C.2.2.2.1, if_pos (by rw [i_lt (by omega) (by omega)]; exact hi), if_neg (by decide), if_pos (by decide), if_pos rfl, e_songAt (by omega), Option.bind_some, q.C.2.2.2.2.1 i hi]
      have e2 : X5_place xf qf qs qr (nI i) 1 = some (ro i) := by
        rw [X5_place, if_neg (i_nlt0 (by omega)), q.C.2.2.2.1, if_pos (by rw [i_lt (by omega) (by omega)]; exact hi), if_neg (by decide), if_pos (by decide), if_neg (by decide), e_rockAt (by omega), Option.bind_some, q.C.2.2.2.2.2 i hi]
      rw [X5_digest_6, q.C.2.2.2.1, if_neg (by rw [i_le (by omega) (by omega)]; omega), e1, Option.bind_some, c_mix, Option.bind_some, e2, Option.bind_some, c_mix, Option.bind_some, nI_1]
      rfl)
    (fun k => by
      show X5_digest_6 N xf pf la qf qs qr cf ck co cw sf kn lf ls (k + 1) tf tk uf us ur (dP so ro acc pc) (nI pc) = _
      rw [X5_digest_6, q.C.2.2.2.1, if_pos (by rw [i_le (by omega) (by omega)]; omega)]) N (by omega)
  exact h
theorem dr_places {acc : Int64} (q : Q t n pc pl st hw np lg t0 need noon w a v xf pf la qf qs qr cf ck co cw sf kn lf ls ef ek gf gs M so ro rek rgs) (hN : 40 < N) : X6_digest_9 N ro ck co cw ls la N M (vp_updL L 49 acc) so kn vk vs H 0 = X6_digest_47 N ro ck co cw ls la N M (vp_updL L 49 (dP so ro acc pc)) so kn vk vs H 0 := by
  have hpc := q.G.2.1
  have h := lr (fun k (z : Int64 × Int32) => X6_digest_9 N ro ck co cw ls la k M (vp_updL L 49 z.1) so kn vk vs H z.2) (fun i => (dP so ro acc i, nI i)) pc _ (fun k i hi => by
      show X6_digest_9 N ro ck co cw ls la (k + 1) M (vp_updL L 49 (dP so ro acc i)) so kn vk vs H (nI i) = X6_digest_9 N ro ck co cw ls la k M (vp_updL L 49 (dP so ro acc (i + 1))) so kn vk vs H (nI (i + 1))
      rw [X6_digest_9, q.R.2.2.2.1, if_neg (by rw [i_le (by omega) (by omega)]; omega), if_pos (xin_nI (by omega) (by omega)), nI_clamp (by omega), r_mix, Option.bind_some, if_pos (xin_nI (by omega) (by omega)), r_mix, Option.bind_some, nI_1]
      rfl)
    (fun k => by
      show X6_digest_9 N ro ck co cw ls la (k + 1) M (vp_updL L 49 (dP so ro acc pc)) so kn vk vs H (nI pc) = _
      rw [X6_digest_9, q.R.2.2.2.1, if_pos (by rw [i_le (by omega) (by omega)]; omega)]) N (by omega)
  exact h
-- ===== the men =====
theorem dc_man {i : Nat} {acc : Int64} {K47 : (Nat → Int32) → (Nat → Int32) → (Nat → Int32) → (Nat → Int32) → (Nat → Int32) → Int64 → Int32 → Option (Int64 × (Nat → Int32) × (Nat → Int32) × (Nat → Int32) × (Nat → Int32) × (Nat → Int32))} (q : Q t n pc pl st hw np lg t0 need noon w a v xf pf la qf qs qr cf ck co cw sf kn lf ls ef ek gf gs M so ro rek rgs) (hN : 40 < N) (hi : i < n) : X5_digest_61 N xf pf la qf qs qr cf ck co cw sf kn lf ls K47 N tf tk uf us ur acc (nI i) 0 = K47 tf tk uf us ur (dV (abv xf qf cf ck co cw sf kn i) acc 8) (nI (i + 1)) := by
  have hn := q.G.1
  have h := lr (fun k (z : Int64 × Int32) => X5_digest_61 N xf pf la qf qs qr cf ck co cw sf kn lf ls K47 k tf tk uf us ur z.1 (nI i) z.2) (fun j => (dV (abv xf qf cf ck co cw sf kn i) acc j, nI j)) 8 (K47 tf tk uf us ur (dV (abv xf qf cf ck co cw sf kn i) acc 8) (nI (i + 1))) (fun k j hj => by
      show X5_digest_61 N xf pf la qf qs qr cf ck co cw sf kn lf ls K47 (k + 1) tf tk uf us ur (dV (abv xf qf cf ck co cw sf kn i) acc j) (nI i) (nI j) = X5_digest_61 N xf pf la qf qs qr cf ck co cw sf kn lf ls K47 k tf tk uf us ur (dV (abv xf qf cf ck co cw sf kn i) acc (j + 1)) (nI i) (nI (j + 1))
      rw [X5_digest_61, if_neg (by rw [show (8 : Int32) = nI 8 from rfl, i_le (by omega) (by omega)]; omega), (m_about (L := fun _ => 0) q hi hj).1, Option.bind_some, c_mix, Option.bind_some, nI_1]
      rfl)
    (fun k => by
      show X5_digest_61 N xf pf la qf qs qr cf ck co cw sf kn lf ls K47 (k + 1) tf tk uf us ur (dV (abv xf qf cf ck co cw sf kn i) acc 8) (nI i) (nI 8) = _
      rw [X5_digest_61, if_pos (by decide), nI_1]) N (by omega)
  exact h
theorem dr_man {i : Nat} {acc : Int64} {K47 : (Nat → Int32) → (Nat → Int64) → (Nat → Int32) → (Nat → Int32) → (Nat → Int32) → (Nat → Int32) → (Nat → Int32) → Int32 → Option (Int64 × (Nat → Int32) × (Nat → Int64) × (Nat → Int32) × (Nat → Int32) × (Nat → Int32) × (Nat → Int32) × (Nat → Int32))} (q : Q t n pc pl st hw np lg t0 need noon w a v xf pf la qf qs qr cf ck co cw sf kn lf ls ef ek gf gs M so ro rek rgs) (hN : 40 < N) (hi : i < n) : X6_digest_57 N ro ck co cw ls la K47 N M (vp_updL L 49 acc) so kn vk vs H (nI i) 0 = K47 M (vp_updL L 49 (dV (abv xf qf cf ck co cw sf kn i) acc 8)) so kn vk vs H (nI (i + 1)) := by
  have hn := q.G.1
  have h := lr (fun k (z : Int64 × Int32) => X6_digest_57 N ro ck co cw ls la K47 k M (vp_updL L 49 z.1) so kn vk vs H (nI i) z.2) (fun j => (dV (abv xf qf cf ck co cw sf kn i) acc j, nI j)) 8 (K47 M (vp_updL L 49 (dV (abv xf qf cf ck co cw sf kn i) acc 8)) so kn vk vs H (nI (i + 1))) (fun k j hj => by
      show X6_digest_57 N ro ck co cw ls la K47 (k + 1) M (vp_updL L 49 (dV (abv xf qf cf ck co cw sf kn i) acc j)) so kn vk vs H (nI i) (nI j) = X6_digest_57 N ro ck co cw ls la K47 k M (vp_updL L 49 (dV (abv xf qf cf ck co cw sf kn i) acc (j + 1))) so kn vk vs H (nI i) (nI (j + 1))
      rw [X6_digest_57, if_neg (by rw [show (8 : Int32) = nI 8 from rfl, i_le (by omega) (by omega)]; omega), (m_about q hi hj).2, Option.bind_some, r_mix, Option.bind_some, nI_1]
      rfl)
    (fun k => by
      show X6_digest_57 N ro ck co cw ls la K47 (k + 1) M (vp_updL L 49 (dV (abv xf qf cf ck co cw sf kn i) acc 8)) so kn vk vs H (nI i) (nI 8) = _
      rw [X6_digest_57, if_pos (by decide), nI_1]) N (by omega)
  exact h
theorem dc_men {acc : Int64} (q : Q t n pc pl st hw np lg t0 need noon w a v xf pf la qf qs qr cf ck co cw sf kn lf ls ef ek gf gs M so ro rek rgs) (hN : 40 < N) : ∀ (e i k : Nat), i + e = n → e < k → ∃ k', X5_digest_47 N xf pf la qf qs qr cf ck co cw sf kn lf ls k tf tk uf us ur (dM (abv xf qf cf ck co cw sf kn) acc i) (nI i) = X5_digest_47 N xf pf la qf qs qr cf ck co cw sf kn lf ls (k' + 1) tf tk uf us ur (dM (abv xf qf cf ck co cw sf kn) acc n) (nI n) := by
  have hn := q.G.1
  intro e
  induction e with
  | zero =>
    intro i k hi hk
    obtain ⟨k, rfl⟩ : ∃ q, k = q + 1 := ⟨k - 1, by omega⟩
    obtain rfl : i = n := by omega
    exact ⟨k, rfl⟩
  | succ e ih =>
    intro i k hi hk
    obtain ⟨k, rfl⟩ : ∃ q, k = q + 1 := ⟨k - 1, by omega⟩
    obtain ⟨k', h⟩ := ih (i + 1) k (by omega) (by omega)
    refine ⟨k', ?_⟩
    rw [← h, X5_digest_47, q.C.1, if_neg (by rw [i_le (by omega) (by omega)]; omega), dc_man q hN (by omega)]
    rfl
theorem dr_men {acc : Int64} (q : Q t n pc pl st hw np lg t0 need noon w a v xf pf la qf qs qr cf ck co cw sf kn lf ls ef ek gf gs M so ro rek rgs) (hN : 40 < N) : ∀ (e i k : Nat), i + e = n → e < k → ∃ k', X6_digest_47 N ro ck co cw ls la k M (vp_updL L 49 (dM (abv xf qf cf ck co cw sf kn) acc i)) so kn vk vs H (nI i) = X6_digest_47 N ro ck co cw ls la (k' + 1) M (vp_updL L 49 (dM (abv xf qf cf ck co cw sf kn) acc n)) so kn vk vs H (nI n) := by
  have hn := q.G.1
  intro e
  induction e with
  | zero =>
    intro i k hi hk
    obtain ⟨k, rfl⟩ : ∃ q, k = q + 1 := ⟨k - 1, by omega⟩
    obtain rfl : i = n := by omega
    exact ⟨k, rfl⟩
  | succ e ih =>
    intro i k hi hk
    obtain ⟨k, rfl⟩ : ∃ q, k = q + 1 := ⟨k - 1, by omega⟩
    obtain ⟨k', h⟩ := ih (i + 1) k (by omega) (by omega)
    refine ⟨k', ?_⟩
    rw [← h, X6_digest_47, q.R.1, if_neg (by rw [i_le (by omega) (by omega)]; omega), dr_man q hN (by omega)]
    rfl
-- ===== the end: page and counts =====
theorem dc_end {acc : Int64} (q : Q t n pc pl st hw np lg t0 need noon w a v xf pf la qf qs qr cf ck co cw sf kn lf ls ef ek gf gs M so ro rek rgs) (hN : 40 < N) : X5_digest_193 N xf pf la qf qs qr cf ck co cw sf kn lf ls N tf tk uf us ur acc 0 = some (dV (cov xf pf qf cf sf lf) (dV la acc np) 11, tf, tk, uf, us, ur) := by
  have hnp := q.np30
  have hc : X5_digest_226 N xf pf la qf qs qr cf ck co cw sf kn lf ls N tf tk uf us ur (dV la acc np) 0 = some (dV (cov xf pf qf cf sf lf) (dV la acc np) 11, tf, tk, uf, us, ur) := by
    have h := lr (fun k (z : Int64 × Int32) => X5_digest_226 N xf pf la qf qs qr cf ck co cw sf kn lf ls k tf tk uf us ur z.1 z.2) (fun j => (dV (cov xf pf qf cf sf lf) (dV la acc np) j, nI j)) 11 (some (dV (cov xf pf qf cf sf lf) (dV la acc np) 11, tf, tk, uf, us, ur)) (fun k j hj => by
        show X5_digest_226 N xf pf la qf qs qr cf ck co cw sf kn lf ls (k + 1) tf tk uf us ur (dV (cov xf pf qf cf sf lf) (dV la acc np) j) (nI j) = X5_digest_226 N xf pf la qf qs qr cf ck co cw sf kn lf ls k tf tk uf us ur (dV (cov xf pf qf cf sf lf) (dV la acc np) (j + 1)) (nI (j + 1))
        rw [X5_digest_226, if_neg (by rw [show (11 : Int32) = nI 11 from rfl, i_le (by omega) (by omega)]; omega), (m_count (L := fun _ => 0) q hN).1, Option.bind_some, c_mix, Option.bind_some, nI_1]
        rfl)
      (fun k => by
        show X5_digest_226 N xf pf la qf qs qr cf ck co cw sf kn lf ls (k + 1) tf tk uf us ur (dV (cov xf pf qf cf sf lf) (dV la acc np) 11) (nI 11) = _
        rw [X5_digest_226, if_pos (by decide)]) N (by omega)
    exact h
  have h := lr (fun k (z : Int64 × Int32) => X5_digest_193 N xf pf la qf qs qr cf ck co cw sf kn lf ls k tf tk uf us ur z.1 z.2) (fun j => (dV la acc j, nI j)) np (some (dV (cov xf pf qf cf sf lf) (dV la acc np) 11, tf, tk, uf, us, ur)) (fun k j hj => by
      show X5_digest_193 N xf pf la qf qs qr cf ck co cw sf kn lf ls (k + 1) tf tk uf us ur (dV la acc j) (nI j) = X5_digest_193 N xf pf la qf qs qr cf ck co cw sf kn lf ls k tf tk uf us ur (dV la acc (j + 1)) (nI (j + 1))
      rw [X5_digest_193, q.pz, if_neg (by rw [i_le (by omega) (by omega)]; omega), e_codeAt (by omega), Option.bind_some, c_mix, Option.bind_some, nI_1]
      rfl)
    (fun k => by
      show X5_digest_193 N xf pf la qf qs qr cf ck co cw sf kn lf ls (k + 1) tf tk uf us ur (dV la acc np) (nI np) = _
      rw [X5_digest_193, q.pz, if_pos (by rw [i_le (by omega) (by omega)]; omega)]
      exact hc) N (by omega)
  exact h
theorem dr_end {acc : Int64} (q : Q t n pc pl st hw np lg t0 need noon w a v xf pf la qf qs qr cf ck co cw sf kn lf ls ef ek gf gs M so ro rek rgs) (hN : 40 < N) : X6_digest_122 N ro ck co cw ls la N M (vp_updL L 49 acc) so kn vk vs H 0 = some (dV (cov xf pf qf cf sf lf) (dV la acc np) 11, M, vp_updL L 49 (dV (cov xf pf qf cf sf lf) (dV la acc np) 11), so, kn, vk, vs, H) := by
  have hnp := q.np30
  have hc : X6_digest_149 N ro ck co cw ls la N M (vp_updL L 49 (dV la acc np)) so kn vk vs H 0 = some (dV (cov xf pf qf cf sf lf) (dV la acc np) 11, M, vp_updL L 49 (dV (cov xf pf qf cf sf lf) (dV la acc np) 11), so, kn, vk, vs, H) := by
    have h := lr (fun k (z : Int64 × Int32) => X6_digest_149 N ro ck co cw ls la k M (vp_updL L 49 z.1) so kn vk vs H z.2) (fun j => (dV (cov xf pf qf cf sf lf) (dV la acc np) j, nI j)) 11 (some (dV (cov xf pf qf cf sf lf) (dV la acc np) 11, M, vp_updL L 49 (dV (cov xf pf qf cf sf lf) (dV la acc np) 11), so, kn, vk, vs, H)) (fun k j hj => by
        show X6_digest_149 N ro ck co cw ls la (k + 1) M (vp_updL L 49 (dV (cov xf pf qf cf sf lf) (dV la acc np) j)) so kn vk vs H (nI j) = X6_digest_149 N ro ck co cw ls la k M (vp_updL L 49 (dV (cov xf pf qf cf sf lf) (dV la acc np) (j + 1))) so kn vk vs H (nI (j + 1))
        rw [X6_digest_149, if_neg (by rw [show (11 : Int32) = nI 11 from rfl, i_le (by omega) (by omega)]; omega), (m_count q hN).2, Option.bind_some, r_mix, Option.bind_some, nI_1]
        rfl)
      (fun k => by
        show X6_digest_149 N ro ck co cw ls la (k + 1) M (vp_updL L 49 (dV (cov xf pf qf cf sf lf) (dV la acc np) 11)) so kn vk vs H (nI 11) = _
        rw [X6_digest_149, if_pos (by decide), pk_uLs]) N (by omega)
    exact h
  have h := lr (fun k (z : Int64 × Int32) => X6_digest_122 N ro ck co cw ls la k M (vp_updL L 49 z.1) so kn vk vs H z.2) (fun j => (dV la acc j, nI j)) np (some (dV (cov xf pf qf cf sf lf) (dV la acc np) 11, M, vp_updL L 49 (dV (cov xf pf qf cf sf lf) (dV la acc np) 11), so, kn, vk, vs, H)) (fun k j hj => by
      show X6_digest_122 N ro ck co cw ls la (k + 1) M (vp_updL L 49 (dV la acc j)) so kn vk vs H (nI j) = X6_digest_122 N ro ck co cw ls la k M (vp_updL L 49 (dV la acc (j + 1))) so kn vk vs H (nI (j + 1))
      rw [X6_digest_122, q.pm, if_neg (by rw [i_le (by omega) (by omega)]; omega), if_pos (xin_nI (by omega) (by omega)), nI_clamp (by omega), r_mix, Option.bind_some, nI_1]
      rfl)
    (fun k => by
      show X6_digest_122 N ro ck co cw ls la (k + 1) M (vp_updL L 49 (dV la acc np)) so kn vk vs H (nI np) = _
      rw [X6_digest_122, q.pm, if_pos (by rw [i_le (by omega) (by omega)]; omega)]
      exact hc) N (by omega)
  exact h
end Q
