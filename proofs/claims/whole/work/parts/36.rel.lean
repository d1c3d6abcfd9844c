/-! LAYER 2: the relation between the class's state and the reference's -/
def Kp (t n pc : Nat) (xf ef ek gf gs M rek rgs : Nat → Int32) (km kpl kst khw klg : Nat) (kw ka : Nat → Bool) : Prop :=
  (xf 7 = nI km) ∧
  (M 40 = nI km) ∧
  (km ≤ n) ∧
  (cS km kw ka kpl kst khw ef) ∧
  (∀ j, j < km → bt (ef 1) j = kw j) ∧
  (∀ j, j < km → bt (M 41) j = kw j) ∧
  (∀ j, j < 32 → bt (M 42) j = (decide (j < km) && !ka j)) ∧
  (M 43 = nI kpl) ∧
  (M 44 = nI kst) ∧
  (M 45 = nI khw) ∧
  (khw ≤ 3) ∧
  (kpl < pc) ∧
  (kst = 0 → ∀ j, j < km → ka j = true) ∧
  (kst ≤ t) ∧
  (∀ j, km ≤ j → ka j = false) ∧
  (∀ j, j < km → ∃ v, v ≤ 9 ∧ ek j = nI v) ∧
  (ek = rek) ∧
  (gs = rgs) ∧
  (gf 1 = nI klg) ∧
  (M 46 = nI klg) ∧
  (klg ≤ 8)
theorem Kp.k7 {t n pc : Nat} {xf ef ek gf gs M rek rgs : Nat → Int32} {km kpl kst khw klg : Nat} {kw ka : Nat → Bool} (K : Kp t n pc xf ef ek gf gs M rek rgs km kpl kst khw klg kw ka) : xf 7 = nI km := K.1
theorem Kp.m40 {t n pc : Nat} {xf ef ek gf gs M rek rgs : Nat → Int32} {km kpl kst khw klg : Nat} {kw ka : Nat → Bool} (K : Kp t n pc xf ef ek gf gs M rek rgs km kpl kst khw klg kw ka) : M 40 = nI km := K.2.1
theorem Kp.kmn {t n pc : Nat} {xf ef ek gf gs M rek rgs : Nat → Int32} {km kpl kst khw klg : Nat} {kw ka : Nat → Bool} (K : Kp t n pc xf ef ek gf gs M rek rgs km kpl kst khw klg kw ka) : km ≤ n := K.2.2.1
theorem Kp.kS {t n pc : Nat} {xf ef ek gf gs M rek rgs : Nat → Int32} {km kpl kst khw klg : Nat} {kw ka : Nat → Bool} (K : Kp t n pc xf ef ek gf gs M rek rgs km kpl kst khw klg kw ka) : cS km kw ka kpl kst khw ef := K.2.2.2.1
theorem Kp.kwc {t n pc : Nat} {xf ef ek gf gs M rek rgs : Nat → Int32} {km kpl kst khw klg : Nat} {kw ka : Nat → Bool} (K : Kp t n pc xf ef ek gf gs M rek rgs km kpl kst khw klg kw ka) : ∀ j, j < km → bt (ef 1) j = kw j := K.2.2.2.2.1
theorem Kp.kwr {t n pc : Nat} {xf ef ek gf gs M rek rgs : Nat → Int32} {km kpl kst khw klg : Nat} {kw ka : Nat → Bool} (K : Kp t n pc xf ef ek gf gs M rek rgs km kpl kst khw klg kw ka) : ∀ j, j < km → bt (M 41) j = kw j := K.2.2.2.2.2.1
theorem Kp.k42 {t n pc : Nat} {xf ef ek gf gs M rek rgs : Nat → Int32} {km kpl kst khw klg : Nat} {kw ka : Nat → Bool} (K : Kp t n pc xf ef ek gf gs M rek rgs km kpl kst khw klg kw ka) : ∀ j, j < 32 → bt (M 42) j = (decide (j < km) && !ka j) := K.2.2.2.2.2.2.1
theorem Kp.k43 {t n pc : Nat} {xf ef ek gf gs M rek rgs : Nat → Int32} {km kpl kst khw klg : Nat} {kw ka : Nat → Bool} (K : Kp t n pc xf ef ek gf gs M rek rgs km kpl kst khw klg kw ka) : M 43 = nI kpl := K.2.2.2.2.2.2.2.1
theorem Kp.k44 {t n pc : Nat} {xf ef ek gf gs M rek rgs : Nat → Int32} {km kpl kst khw klg : Nat} {kw ka : Nat → Bool} (K : Kp t n pc xf ef ek gf gs M rek rgs km kpl kst khw klg kw ka) : M 44 = nI kst := K.2.2.2.2.2.2.2.2.1
theorem Kp.k45 {t n pc : Nat} {xf ef ek gf gs M rek rgs : Nat → Int32} {km kpl kst khw klg : Nat} {kw ka : Nat → Bool} (K : Kp t n pc xf ef ek gf gs M rek rgs km kpl kst khw klg kw ka) : M 45 = nI khw := K.2.2.2.2.2.2.2.2.2.1
theorem Kp.khw3 {t n pc : Nat} {xf ef ek gf gs M rek rgs : Nat → Int32} {km kpl kst khw klg : Nat} {kw ka : Nat → Bool} (K : Kp t n pc xf ef ek gf gs M rek rgs km kpl kst khw klg kw ka) : khw ≤ 3 := K.2.2.2.2.2.2.2.2.2.2.1
theorem Kp.kpl1 {t n pc : Nat} {xf ef ek gf gs M rek rgs : Nat → Int32} {km kpl kst khw klg : Nat} {kw ka : Nat → Bool} (K : Kp t n pc xf ef ek gf gs M rek rgs km kpl kst khw klg kw ka) : kpl < pc := K.2.2.2.2.2.2.2.2.2.2.2.1
theorem Kp.kst0 {t n pc : Nat} {xf ef ek gf gs M rek rgs : Nat → Int32} {km kpl kst khw klg : Nat} {kw ka : Nat → Bool} (K : Kp t n pc xf ef ek gf gs M rek rgs km kpl kst khw klg kw ka) : kst = 0 → ∀ j, j < km → ka j = true := K.2.2.2.2.2.2.2.2.2.2.2.2.1
theorem Kp.kstt {t n pc : Nat} {xf ef ek gf gs M rek rgs : Nat → Int32} {km kpl kst khw klg : Nat} {kw ka : Nat → Bool} (K : Kp t n pc xf ef ek gf gs M rek rgs km kpl kst khw klg kw ka) : kst ≤ t := K.2.2.2.2.2.2.2.2.2.2.2.2.2.1
theorem Kp.kab {t n pc : Nat} {xf ef ek gf gs M rek rgs : Nat → Int32} {km kpl kst khw klg : Nat} {kw ka : Nat → Bool} (K : Kp t n pc xf ef ek gf gs M rek rgs km kpl kst khw klg kw ka) : ∀ j, km ≤ j → ka j = false := K.2.2.2.2.2.2.2.2.2.2.2.2.2.2.1
theorem Kp.kkn {t n pc : Nat} {xf ef ek gf gs M rek rgs : Nat → Int32} {km kpl kst khw klg : Nat} {kw ka : Nat → Bool} (K : Kp t n pc xf ef ek gf gs M rek rgs km kpl kst khw klg kw ka) : ∀ j, j < km → ∃ v, v ≤ 9 ∧ ek j = nI v := K.2.2.2.2.2.2.2.2.2.2.2.2.2.2.2.1
theorem Kp.kek {t n pc : Nat} {xf ef ek gf gs M rek rgs : Nat → Int32} {km kpl kst khw klg : Nat} {kw ka : Nat → Bool} (K : Kp t n pc xf ef ek gf gs M rek rgs km kpl kst khw klg kw ka) : ek = rek := K.2.2.2.2.2.2.2.2.2.2.2.2.2.2.2.2.1
theorem Kp.kgs {t n pc : Nat} {xf ef ek gf gs M rek rgs : Nat → Int32} {km kpl kst khw klg : Nat} {kw ka : Nat → Bool} (K : Kp t n pc xf ef ek gf gs M rek rgs km kpl kst khw klg kw ka) : gs = rgs := K.2.2.2.2.2.2.2.2.2.2.2.2.2.2.2.2.2.1
theorem Kp.kg1 {t n pc : Nat} {xf ef ek gf gs M rek rgs : Nat → Int32} {km kpl kst khw klg : Nat} {kw ka : Nat → Bool} (K : Kp t n pc xf ef ek gf gs M rek rgs km kpl kst khw klg kw ka) : gf 1 = nI klg := K.2.2.2.2.2.2.2.2.2.2.2.2.2.2.2.2.2.2.1
theorem Kp.k46 {t n pc : Nat} {xf ef ek gf gs M rek rgs : Nat → Int32} {km kpl kst khw klg : Nat} {kw ka : Nat → Bool} (K : Kp t n pc xf ef ek gf gs M rek rgs km kpl kst khw klg kw ka) : M 46 = nI klg := K.2.2.2.2.2.2.2.2.2.2.2.2.2.2.2.2.2.2.2.1
theorem Kp.klg8 {t n pc : Nat} {xf ef ek gf gs M rek rgs : Nat → Int32} {km kpl kst khw klg : Nat} {kw ka : Nat → Bool} (K : Kp t n pc xf ef ek gf gs M rek rgs km kpl kst khw klg kw ka) : klg ≤ 8 := K.2.2.2.2.2.2.2.2.2.2.2.2.2.2.2.2.2.2.2.2
def gSea (n pc : Nat) (need noon : Int32) (so ro qf qs qr cf ck cw kn M : Nat → Int32) : Prop :=
  (cX n pc need noon so ro qf qs qr cf) ∧
  (rX n pc need noon so ro M so ro) ∧
  (gB n pc so ro ck cw kn) ∧
  (M 0 = nI (if pc = 0 then 0 else 1))
def gShip (t n pc pl st hw : Nat) (w a : Nat → Bool) (sf M : Nat → Int32) : Prop :=
  (cS n w a pl st hw sf) ∧
  (rS n w a pl st hw M) ∧
  (∀ j, j < n → bt (sf 1) j = w j) ∧
  (∀ j, j < n → bt (M 12) j = w j) ∧
  (∀ j, n ≤ j → a j = false) ∧
  (hw ≤ 3) ∧
  (0 < pc → pl < pc) ∧
  (pc = 0 → n = 0) ∧
  (st = 0 → ∀ j, j < n → a j = true) ∧
  (st ≤ t)
def gPage (np : Nat) (v : Nat → Nat) (pf la M : Nat → Int32) : Prop :=
  (pf 1 = nI np) ∧
  (M 20 = nI np) ∧
  (np ≤ 30) ∧
  (∀ j, j < np → la j = nI (v j)) ∧
  (∀ j, j < np → v j < 127)
def gLog (lg : Nat) (lf M : Nat → Int32) : Prop :=
  (lf 1 = nI lg) ∧
  (M 18 = nI lg) ∧
  (lg ≤ 8)
def gTime (t t0 : Nat) (xf M : Nat → Int32) : Prop :=
  (xf 11 = nI t0) ∧
  (M 1 = nI t0) ∧
  (t0 ≤ t)
def gZr (kn ek rek qs qr so ls gs rgs : Nat → Int32) : Prop :=
  (Zr 5 kn) ∧
  (Zr 5 ek) ∧
  (Zr 5 rek) ∧
  (Zr 12 qs) ∧
  (Zr 12 qr) ∧
  (Zr 12 so) ∧
  (Zr 8 ls) ∧
  (Zr 8 gs) ∧
  (Zr 8 rgs)
def gKept (t n pc t0 : Nat) (xf ef ek gf gs M rek rgs : Nat → Int32) : Prop :=
  (M 38 = 0 ∨ (M 38 = 1 ∧ ∃ j, j ≤ t0 ∧ M 39 = nI j)) ∧
  ((xf 8 = 0 ∧ (M 38 = 0 ∨ ¬ M 39 = M 1)) ∨ (xf 8 = 1 ∧ M 38 = 1 ∧ M 39 = M 1 ∧ ∃ (km kpl kst khw klg : Nat) (kw ka : Nat → Bool), Kp t n pc xf ef ek gf gs M rek rgs km kpl kst khw klg kw ka))
def Fr (tk us ur vk vs : Nat → Int32) : Prop :=
  (Zr 5 tk) ∧
  (Zr 12 us) ∧
  (Zr 12 ur) ∧
  (Zr 5 vk) ∧
  (Zr 12 vs)
theorem Fr.zt {tk us ur vk vs : Nat → Int32} (K : Fr tk us ur vk vs) : Zr 5 tk := K.1
theorem Fr.zus {tk us ur vk vs : Nat → Int32} (K : Fr tk us ur vk vs) : Zr 12 us := K.2.1
theorem Fr.zur {tk us ur vk vs : Nat → Int32} (K : Fr tk us ur vk vs) : Zr 12 ur := K.2.2.1
theorem Fr.zvk {tk us ur vk vs : Nat → Int32} (K : Fr tk us ur vk vs) : Zr 5 vk := K.2.2.2.1
theorem Fr.zvs {tk us ur vk vs : Nat → Int32} (K : Fr tk us ur vk vs) : Zr 12 vs := K.2.2.2.2
def Q (t n pc pl st hw np lg t0 : Nat) (need noon : Int32) (w a : Nat → Bool) (v : Nat → Nat) (xf pf la qf qs qr cf ck co cw sf kn lf ls ef ek gf gs M so ro rek rgs : Nat → Int32) : Prop :=
  gSea n pc need noon so ro qf qs qr cf ck cw kn M ∧
  gShip t n pc pl st hw w a sf M ∧
  gPage np v pf la M ∧
  gLog lg lf M ∧
  gTime t t0 xf M ∧
  gZr kn ek rek qs qr so ls gs rgs ∧
  gKept t n pc t0 xf ef ek gf gs M rek rgs
theorem Q.sea {t n pc pl st hw np lg t0 : Nat} {need noon : Int32} {w a : Nat → Bool} {v : Nat → Nat} {xf pf la qf qs qr cf ck co cw sf kn lf ls ef ek gf gs M so ro rek rgs : Nat → Int32} (q : Q t n pc pl st hw np lg t0 need noon w a v xf pf la qf qs qr cf ck co cw sf kn lf ls ef ek gf gs M so ro rek rgs) : gSea n pc need noon so ro qf qs qr cf ck cw kn M := q.1
theorem Q.C {t n pc pl st hw np lg t0 : Nat} {need noon : Int32} {w a : Nat → Bool} {v : Nat → Nat} {xf pf la qf qs qr cf ck co cw sf kn lf ls ef ek gf gs M so ro rek rgs : Nat → Int32} (q : Q t n pc pl st hw np lg t0 need noon w a v xf pf la qf qs qr cf ck co cw sf kn lf ls ef ek gf gs M so ro rek rgs) : cX n pc need noon so ro qf qs qr cf := q.1.1
theorem Q.R {t n pc pl st hw np lg t0 : Nat} {need noon : Int32} {w a : Nat → Bool} {v : Nat → Nat} {xf pf la qf qs qr cf ck co cw sf kn lf ls ef ek gf gs M so ro rek rgs : Nat → Int32} (q : Q t n pc pl st hw np lg t0 need noon w a v xf pf la qf qs qr cf ck co cw sf kn lf ls ef ek gf gs M so ro rek rgs) : rX n pc need noon so ro M so ro := q.1.2.1
theorem Q.G {t n pc pl st hw np lg t0 : Nat} {need noon : Int32} {w a : Nat → Bool} {v : Nat → Nat} {xf pf la qf qs qr cf ck co cw sf kn lf ls ef ek gf gs M so ro rek rgs : Nat → Int32} (q : Q t n pc pl st hw np lg t0 need noon w a v xf pf la qf qs qr cf ck co cw sf kn lf ls ef ek gf gs M so ro rek rgs) : gB n pc so ro ck cw kn := q.1.2.2.1
theorem Q.M0 {t n pc pl st hw np lg t0 : Nat} {need noon : Int32} {w a : Nat → Bool} {v : Nat → Nat} {xf pf la qf qs qr cf ck co cw sf kn lf ls ef ek gf gs M so ro rek rgs : Nat → Int32} (q : Q t n pc pl st hw np lg t0 need noon w a v xf pf la qf qs qr cf ck co cw sf kn lf ls ef ek gf gs M so ro rek rgs) : M 0 = nI (if pc = 0 then 0 else 1) := q.1.2.2.2
theorem Q.ship {t n pc pl st hw np lg t0 : Nat} {need noon : Int32} {w a : Nat → Bool} {v : Nat → Nat} {xf pf la qf qs qr cf ck co cw sf kn lf ls ef ek gf gs M so ro rek rgs : Nat → Int32} (q : Q t n pc pl st hw np lg t0 need noon w a v xf pf la qf qs qr cf ck co cw sf kn lf ls ef ek gf gs M so ro rek rgs) : gShip t n pc pl st hw w a sf M := q.2.1
theorem Q.S {t n pc pl st hw np lg t0 : Nat} {need noon : Int32} {w a : Nat → Bool} {v : Nat → Nat} {xf pf la qf qs qr cf ck co cw sf kn lf ls ef ek gf gs M so ro rek rgs : Nat → Int32} (q : Q t n pc pl st hw np lg t0 need noon w a v xf pf la qf qs qr cf ck co cw sf kn lf ls ef ek gf gs M so ro rek rgs) : cS n w a pl st hw sf := q.2.1.1
theorem Q.T {t n pc pl st hw np lg t0 : Nat} {need noon : Int32} {w a : Nat → Bool} {v : Nat → Nat} {xf pf la qf qs qr cf ck co cw sf kn lf ls ef ek gf gs M so ro rek rgs : Nat → Int32} (q : Q t n pc pl st hw np lg t0 need noon w a v xf pf la qf qs qr cf ck co cw sf kn lf ls ef ek gf gs M so ro rek rgs) : rS n w a pl st hw M := q.2.1.2.1
theorem Q.wc {t n pc pl st hw np lg t0 : Nat} {need noon : Int32} {w a : Nat → Bool} {v : Nat → Nat} {xf pf la qf qs qr cf ck co cw sf kn lf ls ef ek gf gs M so ro rek rgs : Nat → Int32} (q : Q t n pc pl st hw np lg t0 need noon w a v xf pf la qf qs qr cf ck co cw sf kn lf ls ef ek gf gs M so ro rek rgs) : ∀ j, j < n → bt (sf 1) j = w j := q.2.1.2.2.1
theorem Q.wr {t n pc pl st hw np lg t0 : Nat} {need noon : Int32} {w a : Nat → Bool} {v : Nat → Nat} {xf pf la qf qs qr cf ck co cw sf kn lf ls ef ek gf gs M so ro rek rgs : Nat → Int32} (q : Q t n pc pl st hw np lg t0 need noon w a v xf pf la qf qs qr cf ck co cw sf kn lf ls ef ek gf gs M so ro rek rgs) : ∀ j, j < n → bt (M 12) j = w j := q.2.1.2.2.2.1
theorem Q.ab {t n pc pl st hw np lg t0 : Nat} {need noon : Int32} {w a : Nat → Bool} {v : Nat → Nat} {xf pf la qf qs qr cf ck co cw sf kn lf ls ef ek gf gs M so ro rek rgs : Nat → Int32} (q : Q t n pc pl st hw np lg t0 need noon w a v xf pf la qf qs qr cf ck co cw sf kn lf ls ef ek gf gs M so ro rek rgs) : ∀ j, n ≤ j → a j = false := q.2.1.2.2.2.2.1
theorem Q.hw3 {t n pc pl st hw np lg t0 : Nat} {need noon : Int32} {w a : Nat → Bool} {v : Nat → Nat} {xf pf la qf qs qr cf ck co cw sf kn lf ls ef ek gf gs M so ro rek rgs : Nat → Int32} (q : Q t n pc pl st hw np lg t0 need noon w a v xf pf la qf qs qr cf ck co cw sf kn lf ls ef ek gf gs M so ro rek rgs) : hw ≤ 3 := q.2.1.2.2.2.2.2.1
theorem Q.plp {t n pc pl st hw np lg t0 : Nat} {need noon : Int32} {w a : Nat → Bool} {v : Nat → Nat} {xf pf la qf qs qr cf ck co cw sf kn lf ls ef ek gf gs M so ro rek rgs : Nat → Int32} (q : Q t n pc pl st hw np lg t0 need noon w a v xf pf la qf qs qr cf ck co cw sf kn lf ls ef ek gf gs M so ro rek rgs) : 0 < pc → pl < pc := q.2.1.2.2.2.2.2.2.1
theorem Q.np0 {t n pc pl st hw np lg t0 : Nat} {need noon : Int32} {w a : Nat → Bool} {v : Nat → Nat} {xf pf la qf qs qr cf ck co cw sf kn lf ls ef ek gf gs M so ro rek rgs : Nat → Int32} (q : Q t n pc pl st hw np lg t0 need noon w a v xf pf la qf qs qr cf ck co cw sf kn lf ls ef ek gf gs M so ro rek rgs) : pc = 0 → n = 0 := q.2.1.2.2.2.2.2.2.2.1
theorem Q.st0 {t n pc pl st hw np lg t0 : Nat} {need noon : Int32} {w a : Nat → Bool} {v : Nat → Nat} {xf pf la qf qs qr cf ck co cw sf kn lf ls ef ek gf gs M so ro rek rgs : Nat → Int32} (q : Q t n pc pl st hw np lg t0 need noon w a v xf pf la qf qs qr cf ck co cw sf kn lf ls ef ek gf gs M so ro rek rgs) : st = 0 → ∀ j, j < n → a j = true := q.2.1.2.2.2.2.2.2.2.2.1
theorem Q.stt {t n pc pl st hw np lg t0 : Nat} {need noon : Int32} {w a : Nat → Bool} {v : Nat → Nat} {xf pf la qf qs qr cf ck co cw sf kn lf ls ef ek gf gs M so ro rek rgs : Nat → Int32} (q : Q t n pc pl st hw np lg t0 need noon w a v xf pf la qf qs qr cf ck co cw sf kn lf ls ef ek gf gs M so ro rek rgs) : st ≤ t := q.2.1.2.2.2.2.2.2.2.2.2
theorem Q.page {t n pc pl st hw np lg t0 : Nat} {need noon : Int32} {w a : Nat → Bool} {v : Nat → Nat} {xf pf la qf qs qr cf ck co cw sf kn lf ls ef ek gf gs M so ro rek rgs : Nat → Int32} (q : Q t n pc pl st hw np lg t0 need noon w a v xf pf la qf qs qr cf ck co cw sf kn lf ls ef ek gf gs M so ro rek rgs) : gPage np v pf la M := q.2.2.1
theorem Q.pz {t n pc pl st hw np lg t0 : Nat} {need noon : Int32} {w a : Nat → Bool} {v : Nat → Nat} {xf pf la qf qs qr cf ck co cw sf kn lf ls ef ek gf gs M so ro rek rgs : Nat → Int32} (q : Q t n pc pl st hw np lg t0 need noon w a v xf pf la qf qs qr cf ck co cw sf kn lf ls ef ek gf gs M so ro rek rgs) : pf 1 = nI np := q.2.2.1.1
theorem Q.pm {t n pc pl st hw np lg t0 : Nat} {need noon : Int32} {w a : Nat → Bool} {v : Nat → Nat} {xf pf la qf qs qr cf ck co cw sf kn lf ls ef ek gf gs M so ro rek rgs : Nat → Int32} (q : Q t n pc pl st hw np lg t0 need noon w a v xf pf la qf qs qr cf ck co cw sf kn lf ls ef ek gf gs M so ro rek rgs) : M 20 = nI np := q.2.2.1.2.1
theorem Q.np30 {t n pc pl st hw np lg t0 : Nat} {need noon : Int32} {w a : Nat → Bool} {v : Nat → Nat} {xf pf la qf qs qr cf ck co cw sf kn lf ls ef ek gf gs M so ro rek rgs : Nat → Int32} (q : Q t n pc pl st hw np lg t0 need noon w a v xf pf la qf qs qr cf ck co cw sf kn lf ls ef ek gf gs M so ro rek rgs) : np ≤ 30 := q.2.2.1.2.2.1
theorem Q.pv {t n pc pl st hw np lg t0 : Nat} {need noon : Int32} {w a : Nat → Bool} {v : Nat → Nat} {xf pf la qf qs qr cf ck co cw sf kn lf ls ef ek gf gs M so ro rek rgs : Nat → Int32} (q : Q t n pc pl st hw np lg t0 need noon w a v xf pf la qf qs qr cf ck co cw sf kn lf ls ef ek gf gs M so ro rek rgs) : ∀ j, j < np → la j = nI (v j) := q.2.2.1.2.2.2.1
theorem Q.pv2 {t n pc pl st hw np lg t0 : Nat} {need noon : Int32} {w a : Nat → Bool} {v : Nat → Nat} {xf pf la qf qs qr cf ck co cw sf kn lf ls ef ek gf gs M so ro rek rgs : Nat → Int32} (q : Q t n pc pl st hw np lg t0 need noon w a v xf pf la qf qs qr cf ck co cw sf kn lf ls ef ek gf gs M so ro rek rgs) : ∀ j, j < np → v j < 127 := q.2.2.1.2.2.2.2
theorem Q.log {t n pc pl st hw np lg t0 : Nat} {need noon : Int32} {w a : Nat → Bool} {v : Nat → Nat} {xf pf la qf qs qr cf ck co cw sf kn lf ls ef ek gf gs M so ro rek rgs : Nat → Int32} (q : Q t n pc pl st hw np lg t0 need noon w a v xf pf la qf qs qr cf ck co cw sf kn lf ls ef ek gf gs M so ro rek rgs) : gLog lg lf M := q.2.2.2.1
theorem Q.lz {t n pc pl st hw np lg t0 : Nat} {need noon : Int32} {w a : Nat → Bool} {v : Nat → Nat} {xf pf la qf qs qr cf ck co cw sf kn lf ls ef ek gf gs M so ro rek rgs : Nat → Int32} (q : Q t n pc pl st hw np lg t0 need noon w a v xf pf la qf qs qr cf ck co cw sf kn lf ls ef ek gf gs M so ro rek rgs) : lf 1 = nI lg := q.2.2.2.1.1
theorem Q.lm {t n pc pl st hw np lg t0 : Nat} {need noon : Int32} {w a : Nat → Bool} {v : Nat → Nat} {xf pf la qf qs qr cf ck co cw sf kn lf ls ef ek gf gs M so ro rek rgs : Nat → Int32} (q : Q t n pc pl st hw np lg t0 need noon w a v xf pf la qf qs qr cf ck co cw sf kn lf ls ef ek gf gs M so ro rek rgs) : M 18 = nI lg := q.2.2.2.1.2.1
theorem Q.lg8 {t n pc pl st hw np lg t0 : Nat} {need noon : Int32} {w a : Nat → Bool} {v : Nat → Nat} {xf pf la qf qs qr cf ck co cw sf kn lf ls ef ek gf gs M so ro rek rgs : Nat → Int32} (q : Q t n pc pl st hw np lg t0 need noon w a v xf pf la qf qs qr cf ck co cw sf kn lf ls ef ek gf gs M so ro rek rgs) : lg ≤ 8 := q.2.2.2.1.2.2
theorem Q.time {t n pc pl st hw np lg t0 : Nat} {need noon : Int32} {w a : Nat → Bool} {v : Nat → Nat} {xf pf la qf qs qr cf ck co cw sf kn lf ls ef ek gf gs M so ro rek rgs : Nat → Int32} (q : Q t n pc pl st hw np lg t0 need noon w a v xf pf la qf qs qr cf ck co cw sf kn lf ls ef ek gf gs M so ro rek rgs) : gTime t t0 xf M := q.2.2.2.2.1
theorem Q.x11 {t n pc pl st hw np lg t0 : Nat} {need noon : Int32} {w a : Nat → Bool} {v : Nat → Nat} {xf pf la qf qs qr cf ck co cw sf kn lf ls ef ek gf gs M so ro rek rgs : Nat → Int32} (q : Q t n pc pl st hw np lg t0 need noon w a v xf pf la qf qs qr cf ck co cw sf kn lf ls ef ek gf gs M so ro rek rgs) : xf 11 = nI t0 := q.2.2.2.2.1.1
theorem Q.m1 {t n pc pl st hw np lg t0 : Nat} {need noon : Int32} {w a : Nat → Bool} {v : Nat → Nat} {xf pf la qf qs qr cf ck co cw sf kn lf ls ef ek gf gs M so ro rek rgs : Nat → Int32} (q : Q t n pc pl st hw np lg t0 need noon w a v xf pf la qf qs qr cf ck co cw sf kn lf ls ef ek gf gs M so ro rek rgs) : M 1 = nI t0 := q.2.2.2.2.1.2.1
theorem Q.t0t {t n pc pl st hw np lg t0 : Nat} {need noon : Int32} {w a : Nat → Bool} {v : Nat → Nat} {xf pf la qf qs qr cf ck co cw sf kn lf ls ef ek gf gs M so ro rek rgs : Nat → Int32} (q : Q t n pc pl st hw np lg t0 need noon w a v xf pf la qf qs qr cf ck co cw sf kn lf ls ef ek gf gs M so ro rek rgs) : t0 ≤ t := q.2.2.2.2.1.2.2
theorem Q.zr {t n pc pl st hw np lg t0 : Nat} {need noon : Int32} {w a : Nat → Bool} {v : Nat → Nat} {xf pf la qf qs qr cf ck co cw sf kn lf ls ef ek gf gs M so ro rek rgs : Nat → Int32} (q : Q t n pc pl st hw np lg t0 need noon w a v xf pf la qf qs qr cf ck co cw sf kn lf ls ef ek gf gs M so ro rek rgs) : gZr kn ek rek qs qr so ls gs rgs := q.2.2.2.2.2.1
theorem Q.zk {t n pc pl st hw np lg t0 : Nat} {need noon : Int32} {w a : Nat → Bool} {v : Nat → Nat} {xf pf la qf qs qr cf ck co cw sf kn lf ls ef ek gf gs M so ro rek rgs : Nat → Int32} (q : Q t n pc pl st hw np lg t0 need noon w a v xf pf la qf qs qr cf ck co cw sf kn lf ls ef ek gf gs M so ro rek rgs) : Zr 5 kn := q.2.2.2.2.2.1.1
theorem Q.zek {t n pc pl st hw np lg t0 : Nat} {need noon : Int32} {w a : Nat → Bool} {v : Nat → Nat} {xf pf la qf qs qr cf ck co cw sf kn lf ls ef ek gf gs M so ro rek rgs : Nat → Int32} (q : Q t n pc pl st hw np lg t0 need noon w a v xf pf la qf qs qr cf ck co cw sf kn lf ls ef ek gf gs M so ro rek rgs) : Zr 5 ek := q.2.2.2.2.2.1.2.1
theorem Q.zrek {t n pc pl st hw np lg t0 : Nat} {need noon : Int32} {w a : Nat → Bool} {v : Nat → Nat} {xf pf la qf qs qr cf ck co cw sf kn lf ls ef ek gf gs M so ro rek rgs : Nat → Int32} (q : Q t n pc pl st hw np lg t0 need noon w a v xf pf la qf qs qr cf ck co cw sf kn lf ls ef ek gf gs M so ro rek rgs) : Zr 5 rek := q.2.2.2.2.2.1.2.2.1
theorem Q.zqs {t n pc pl st hw np lg t0 : Nat} {need noon : Int32} {w a : Nat → Bool} {v : Nat → Nat} {xf pf la qf qs qr cf ck co cw sf kn lf ls ef ek gf gs M so ro rek rgs : Nat → Int32} (q : Q t n pc pl st hw np lg t0 need noon w a v xf pf la qf qs qr cf ck co cw sf kn lf ls ef ek gf gs M so ro rek rgs) : Zr 12 qs := q.2.2.2.2.2.1.2.2.2.1
theorem Q.zqr {t n pc pl st hw np lg t0 : Nat} {need noon : Int32} {w a : Nat → Bool} {v : Nat → Nat} {xf pf la qf qs qr cf ck co cw sf kn lf ls ef ek gf gs M so ro rek rgs : Nat → Int32} (q : Q t n pc pl st hw np lg t0 need noon w a v xf pf la qf qs qr cf ck co cw sf kn lf ls ef ek gf gs M so ro rek rgs) : Zr 12 qr := q.2.2.2.2.2.1.2.2.2.2.1
theorem Q.zso {t n pc pl st hw np lg t0 : Nat} {need noon : Int32} {w a : Nat → Bool} {v : Nat → Nat} {xf pf la qf qs qr cf ck co cw sf kn lf ls ef ek gf gs M so ro rek rgs : Nat → Int32} (q : Q t n pc pl st hw np lg t0 need noon w a v xf pf la qf qs qr cf ck co cw sf kn lf ls ef ek gf gs M so ro rek rgs) : Zr 12 so := q.2.2.2.2.2.1.2.2.2.2.2.1
theorem Q.zls {t n pc pl st hw np lg t0 : Nat} {need noon : Int32} {w a : Nat → Bool} {v : Nat → Nat} {xf pf la qf qs qr cf ck co cw sf kn lf ls ef ek gf gs M so ro rek rgs : Nat → Int32} (q : Q t n pc pl st hw np lg t0 need noon w a v xf pf la qf qs qr cf ck co cw sf kn lf ls ef ek gf gs M so ro rek rgs) : Zr 8 ls := q.2.2.2.2.2.1.2.2.2.2.2.2.1
theorem Q.zgs {t n pc pl st hw np lg t0 : Nat} {need noon : Int32} {w a : Nat → Bool} {v : Nat → Nat} {xf pf la qf qs qr cf ck co cw sf kn lf ls ef ek gf gs M so ro rek rgs : Nat → Int32} (q : Q t n pc pl st hw np lg t0 need noon w a v xf pf la qf qs qr cf ck co cw sf kn lf ls ef ek gf gs M so ro rek rgs) : Zr 8 gs := q.2.2.2.2.2.1.2.2.2.2.2.2.2.1
theorem Q.zrgs {t n pc pl st hw np lg t0 : Nat} {need noon : Int32} {w a : Nat → Bool} {v : Nat → Nat} {xf pf la qf qs qr cf ck co cw sf kn lf ls ef ek gf gs M so ro rek rgs : Nat → Int32} (q : Q t n pc pl st hw np lg t0 need noon w a v xf pf la qf qs qr cf ck co cw sf kn lf ls ef ek gf gs M so ro rek rgs) : Zr 8 rgs := q.2.2.2.2.2.1.2.2.2.2.2.2.2.2
theorem Q.kpt {t n pc pl st hw np lg t0 : Nat} {need noon : Int32} {w a : Nat → Bool} {v : Nat → Nat} {xf pf la qf qs qr cf ck co cw sf kn lf ls ef ek gf gs M so ro rek rgs : Nat → Int32} (q : Q t n pc pl st hw np lg t0 need noon w a v xf pf la qf qs qr cf ck co cw sf kn lf ls ef ek gf gs M so ro rek rgs) : gKept t n pc t0 xf ef ek gf gs M rek rgs := q.2.2.2.2.2.2
theorem Q.kj {t n pc pl st hw np lg t0 : Nat} {need noon : Int32} {w a : Nat → Bool} {v : Nat → Nat} {xf pf la qf qs qr cf ck co cw sf kn lf ls ef ek gf gs M so ro rek rgs : Nat → Int32} (q : Q t n pc pl st hw np lg t0 need noon w a v xf pf la qf qs qr cf ck co cw sf kn lf ls ef ek gf gs M so ro rek rgs) : M 38 = 0 ∨ (M 38 = 1 ∧ ∃ j, j ≤ t0 ∧ M 39 = nI j) := q.2.2.2.2.2.2.1
theorem Q.kept {t n pc pl st hw np lg t0 : Nat} {need noon : Int32} {w a : Nat → Bool} {v : Nat → Nat} {xf pf la qf qs qr cf ck co cw sf kn lf ls ef ek gf gs M so ro rek rgs : Nat → Int32} (q : Q t n pc pl st hw np lg t0 need noon w a v xf pf la qf qs qr cf ck co cw sf kn lf ls ef ek gf gs M so ro rek rgs) : (xf 8 = 0 ∧ (M 38 = 0 ∨ ¬ M 39 = M 1)) ∨ (xf 8 = 1 ∧ M 38 = 1 ∧ M 39 = M 1 ∧ ∃ (km kpl kst khw klg : Nat) (kw ka : Nat → Bool), Kp t n pc xf ef ek gf gs M rek rgs km kpl kst khw klg kw ka) := q.2.2.2.2.2.2.2
theorem gSea.M {n pc : Nat} {need noon : Int32} {so ro qf qs qr cf ck cw kn M M' : Nat → Int32} (g : gSea n pc need noon so ro qf qs qr cf ck cw kn M) (h : ∀ x, x < 12 → M' x = M x) : gSea n pc need noon so ro qf qs qr cf ck cw kn M' := ⟨g.1, g.2.1.at h, g.2.2.1, by rw [h 0 (by decide)]; exact g.2.2.2⟩
theorem gShip.M {t n pc pl st hw : Nat} {w a : Nat → Bool} {sf M M' : Nat → Int32} (g : gShip t n pc pl st hw w a sf M) (h : ∀ x, 12 ≤ x → x ≤ 16 → M' x = M x) : gShip t n pc pl st hw w a sf M' := by
  obtain ⟨g1, ⟨s1, s2, s3, s4, s5⟩, g3, g4, g5⟩ := g
  exact ⟨g1, ⟨fun j hj => by rw [h 13 (by omega) (by omega)]; exact s1 j hj, fun j hj ha => by rw [h 12 (by omega) (by omega)]; exact s2 j hj ha, by rw [h 14 (by omega) (by omega), s3], by rw [h 15 (by omega) (by omega), s4], by rw [h 16 (by omega) (by omega), s5]⟩, g3, by rw [h 12 (by omega) (by omega)]; exact g4, g5⟩
theorem gPage.M {np : Nat} {v : Nat → Nat} {pf la M M' : Nat → Int32} (g : gPage np v pf la M) (h : M' 20 = M 20) : gPage np v pf la M' := ⟨g.1, h.trans g.2.1, g.2.2⟩
theorem gLog.M {lg : Nat} {lf M M' : Nat → Int32} (g : gLog lg lf M) (h : M' 18 = M 18) : gLog lg lf M' := ⟨g.1, h.trans g.2.1, g.2.2⟩
theorem gTime.M {t t0 : Nat} {xf M M' : Nat → Int32} (g : gTime t t0 xf M) (h : M' 1 = M 1) : gTime t t0 xf M' := ⟨g.1, h.trans g.2.1, g.2.2⟩
theorem Kp.M {xf ef ek gf gs M M' rek rgs : Nat → Int32} {t n pc km kpl kst khw klg : Nat} {kw ka : Nat → Bool} (K : Kp t n pc xf ef ek gf gs M rek rgs km kpl kst khw klg kw ka) (h : ∀ x, 38 ≤ x → M' x = M x) : Kp t n pc xf ef ek gf gs M' rek rgs km kpl kst khw klg kw ka := by
  unfold Kp at K ⊢
  rw [h 40 (by decide), h 41 (by decide), h 42 (by decide), h 43 (by decide), h 44 (by decide), h 45 (by decide), h 46 (by decide)]
  exact K
theorem Kp.up {xf ef ek gf gs M rek rgs : Nat → Int32} {t t' n n' pc km kpl kst khw klg : Nat} {kw ka : Nat → Bool} (K : Kp t n pc xf ef ek gf gs M rek rgs km kpl kst khw klg kw ka) (h : t ≤ t') (h2 : km ≤ n') : Kp t' n' pc xf ef ek gf gs M rek rgs km kpl kst khw klg kw ka :=
  ⟨K.k7, K.m40, h2, K.kS, K.kwc, K.kwr, K.k42, K.k43, K.k44, K.k45, K.khw3, K.kpl1, K.kst0, Nat.le_trans K.kstt h, K.kab, K.kkn, K.kek, K.kgs, K.kg1, K.k46, K.klg8⟩
theorem gKept.M {t n pc t0 : Nat} {xf ef ek gf gs M M' rek rgs : Nat → Int32} (g : gKept t n pc t0 xf ef ek gf gs M rek rgs) (h : ∀ x, (x = 1 ∨ 38 ≤ x) → M' x = M x) : gKept t n pc t0 xf ef ek gf gs M' rek rgs := by
  obtain ⟨g1, g2⟩ := g
  refine ⟨by rw [h 38 (by omega), h 39 (by omega)]; exact g1, ?_⟩
  rw [h 38 (by omega), h 39 (by omega), h 1 (by omega)]
  rcases g2 with h1 | ⟨h1, h2, h3, km, kpl, kst, khw, klg, kw, ka, K⟩
  · exact Or.inl h1
  · exact Or.inr ⟨h1, h2, h3, km, kpl, kst, khw, klg, kw, ka, K.M (fun x hx => h x (by omega))⟩
section Q
variable {t n pc pl st hw np lg t0 N : Nat} {need noon : Int32} {w a : Nat → Bool} {v : Nat → Nat} {xf pf la qf qs qr cf ck co cw sf kn lf ls ef ek gf gs tf tk uf us ur M so ro ns nr vk vs H rek rgs : Nat → Int32} {L : Nat → Int64}
/-- a change of the reference's cells that don't count -/
theorem Q.cells {M' : Nat → Int32} (q : Q t n pc pl st hw np lg t0 need noon w a v xf pf la qf qs qr cf ck co cw sf kn lf ls ef ek gf gs M so ro rek rgs) (h : ∀ x, (x ≤ 16 ∨ x = 18 ∨ x = 20 ∨ 38 ≤ x) → M' x = M x) : Q t n pc pl st hw np lg t0 need noon w a v xf pf la qf qs qr cf ck co cw sf kn lf ls ef ek gf gs M' so ro rek rgs :=
  ⟨q.sea.M (fun x hx => h x (by omega)), q.ship.M (fun x hx hy => h x (by omega)), q.page.M (h 20 (by omega)), q.log.M (h 18 (by omega)), q.time.M (h 1 (by omega)), q.zr, q.kpt.M (fun x hx => h x (by omega))⟩
theorem Q.svd {M' : Nat → Int32} (q : Q t n pc pl st hw np lg t0 need noon w a v xf pf la qf qs qr cf ck co cw sf kn lf ls ef ek gf gs M so ro rek rgs) (h : svd M M') : Q t n pc pl st hw np lg t0 need noon w a v xf pf la qf qs qr cf ck co cw sf kn lf ls ef ek gf gs M' so ro rek rgs :=
  q.cells (fun x hx => h.1 x (by omega) (by omega))
theorem Q.up {t' : Nat} (q : Q t n pc pl st hw np lg t0 need noon w a v xf pf la qf qs qr cf ck co cw sf kn lf ls ef ek gf gs M so ro rek rgs) (h : t ≤ t') : Q t' n pc pl st hw np lg t0 need noon w a v xf pf la qf qs qr cf ck co cw sf kn lf ls ef ek gf gs M so ro rek rgs := by
  refine ⟨q.sea, ⟨q.S, q.T, q.wc, q.wr, q.ab, q.hw3, q.plp, q.np0, q.st0, Nat.le_trans q.stt h⟩, q.page, q.log, ⟨q.x11, q.m1, Nat.le_trans q.t0t h⟩, q.zr, q.kj, ?_⟩
  rcases q.kept with h1 | ⟨h1, h2, h3, km, kpl, kst, khw, klg, kw, ka, K⟩
  · exact Or.inl h1
  · exact Or.inr ⟨h1, h2, h3, km, kpl, kst, khw, klg, kw, ka, K.up h K.kmn⟩
-- ===== LETTER, BLANK, FAULT =====
theorem i_byte {c : Nat} (h : c < 127) : vp_nar .byte (nI c).toInt8.toInt32 = nI c := by
  rw [pk_vb]
  exact (by decide +kernel : ∀ c, c < 127 → (nI c).toInt8.toInt32 = nI c) c h
theorem q_letter {P : Int32} (q : Q t n pc pl st hw np lg t0 need noon w a v xf pf la qf qs qr cf ck co cw sf kn lf ls ef ek gf gs M so ro rek rgs) :
    ∃ (x : Int32) (pf' la' M' : Nat → Int32) (np' : Nat) (v' : Nat → Nat), X5_letter xf pf la P = some (x, pf', la') ∧ X6_letter M L la P = some (x, M', la') ∧ Q t n pc pl st hw np' lg t0 need noon w a v' xf pf' la' qf qs qr cf ck co cw sf kn lf ls ef ek gf gs M' so ro rek rgs := by
  rw [X5_letter, X6_letter, X6_within]
  by_cases h1 : P < 32
  · exact ⟨-102, pf, la, M, np, v, by rw [if_pos h1], by rw [if_pos h1]; rfl, q⟩
  rw [if_neg h1, if_neg h1]
  by_cases h2 : P ≤ 126
  · have h3 : ¬ P < 0 := fun h => h1 (Int32.lt_iff_toInt_lt.mpr (by have := Int32.lt_iff_toInt_lt.mp h; exact Int.lt_trans this (by decide)))
    obtain ⟨c, hc, rfl⟩ := nI_of2 (n := 126) (by decide) h3 h2
    rw [if_pos h2, if_neg (show ¬ (126 : Int32) < nI c by rw [show (126 : Int32) = nI 126 from rfl, i_lt (by omega) (by omega)]; omega), Option.bind_some, if_neg (show ¬ bz true = 0 by decide)]
    have hnp := q.np30
    by_cases h4 : np < 30
    · refine ⟨nI (np + 1), upd pf 1 (nI (np + 1)), upd la np (nI c), upd M 20 (nI (np + 1)), np + 1, fun j => if j = np then c else v j, ?_, ?_, ?_⟩
      · rw [q.pz, if_pos (by rw [show (30 : Int32) = nI 30 from rfl, i_lt (by omega) (by omega)]; omega), X2_add, q.pz, if_neg (i_nlt0 (by omega)), if_neg (by rw [show (30 : Int32) = nI 30 from rfl, i_le (by omega) (by omega)]; omega), if_pos (xin_nI h4 (by omega)), nI_1, nI_clamp (by omega), Option.bind_some]
        dsimp only
        rw [ud_s]
      · rw [q.pm, if_neg (by rw [show (30 : Int32) = nI 30 from rfl, i_eq (by omega) (by omega)]; omega), if_pos (xin_nI h4 (by omega)), nI_1, nI_clamp (by omega), i_byte (by omega)]
      · refine ⟨q.sea.M (fun x hx => ud_n _ _ (by omega)), q.ship.M (fun x hx hy => ud_n _ _ (by omega)), ⟨ud_s _ _ _, ud_s _ _ _, h4, ?_, ?_⟩, q.log.M (ud_n _ _ (by decide)), q.time.M (ud_n _ _ (by decide)), q.zr, q.kpt.M (fun x hx => ud_n _ _ (by omega))⟩
        · intro j hj
          by_cases e : j = np
          · subst e; rw [ud_s]; dsimp only; rw [if_pos rfl]
          · rw [ud_n _ _ e]; dsimp only; rw [if_neg e]; exact q.pv j (by omega)
        · intro j hj
          by_cases e : j = np
          · subst e; simp only [if_true]; omega
          · simp only [if_neg e]; exact q.pv2 j (by omega)
    · obtain rfl : np = 30 := by omega
      exact ⟨-104, pf, la, M, 30, v, by rw [q.pz, if_neg (by decide)], by rw [q.pm, if_pos (by decide)], q⟩
  · have h3 : (126 : Int32) < P := Int32.not_le.mp h2
    exact ⟨-102, pf, la, M, np, v, by rw [if_neg h2], by rw [if_pos h3]; rfl, q⟩
theorem q_blank (q : Q t n pc pl st hw np lg t0 need noon w a v xf pf la qf qs qr cf ck co cw sf kn lf ls ef ek gf gs M so ro rek rgs) :
    ∃ (x : Int32) (pf' M' : Nat → Int32), X5_blank xf pf = some (x, pf') ∧ X6_blank M L = some (x, M') ∧ Q t n pc pl st hw 0 lg t0 need noon w a v xf pf' la qf qs qr cf ck co cw sf kn lf ls ef ek gf gs M' so ro rek rgs :=
  ⟨nI np, upd pf 1 0, upd M 20 0, by rw [X5_blank, q.pz], by rw [X6_blank, q.pm], q.sea.M (fun x hx => ud_n _ _ (by omega)), q.ship.M (fun x hx hy => ud_n _ _ (by omega)), ⟨ud_s _ _ _, ud_s _ _ _, by decide, fun j hj => by omega, fun j hj => by omega⟩, q.log.M (ud_n _ _ (by decide)), q.time.M (ud_n _ _ (by decide)), q.zr, q.kpt.M (fun x hx => ud_n _ _ (by omega))⟩
theorem r_readAll {pg : Nat → Int32} (hla : ∀ j, j < np → pg j = nI (v j)) (hv : ∀ j, j < np → v j < 127) (hnp : np ≤ 30) (hN : 40 < N) (h20 : M 20 = nI np) :
    ∃ M' S' R' : Nat → Int32, X6_readPassage N M L pg ns nr = some (M', S', R') ∧ M' 22 = nI (pAll v np).1 ∧ M' 23 = bz (pWhole v np) ∧ (∀ x, (x < 22 ∨ 26 < x) → M' x = M x) ∧ (pWhole v np = true → (∀ j, j < (pAll v np).2.2.1 → S' j = (pAll v np).2.2.2.1 j) ∧ (∀ j, j < (pAll v np).2.2.1 → R' j = (pAll v np).2.2.2.2 j) ∧ M' 26 = nI (pAll v np).2.2.1 ∧ M' 24 = nI (pNeed v) ∧ M' 25 = nI (v 2 - 48)) := by
  obtain ⟨M', S', R', h1, h2, h3, h4, h5⟩ := r_readL (N := N) (L := L) hla hv hnp hN np 0 N 0 0 (upd M 26 0) ns nr (by omega) (by omega) (pInv0 v) (by rw [ud_n _ _ (by decide)]; exact h20) (ud_s _ _ _) ⟨fun h => by omega, fun h => by omega⟩
  obtain ⟨e1, e2, e3, e4, e5⟩ := pRun_arr (v := v) np 0 0 0 (fun _ => 0) (fun _ => 0) ns nr (fun j hj => by omega) (fun j hj => by omega) (pInv0 v)
  rw [e1] at h2 h5
  rw [e1, e2] at h3
  rw [e3] at h5
  refine ⟨M', S', R', h1, h2, h3, fun x hx => by rw [h4 x (by omega), ud_n _ _ (by omega)], fun hw => ?_⟩
  rw [pWhole, Bool.and_eq_true, decide_eq_true_iff, decide_eq_true_iff] at hw
  obtain ⟨f1, f2, f3, f4⟩ := h5 hw.1
  obtain ⟨I, -, -⟩ := pRun_inv (v := v) np 0 0 0 (fun _ => 0) (fun _ => 0) (pInv0 v) ⟨fun k hk => by omega, fun k hk => by omega⟩
  change pInv v (pAll v np).1 (pAll v np).2.1 (pAll v np).2.2.1 at I
  rw [hw.1, hw.2] at I
  obtain ⟨-, i2, -⟩ := I
  refine ⟨by rw [f1]; exact e4, by rw [f2]; exact e5, f3, ?_, f4.2 (by omega)⟩
  have := f4.1 (by omega)
  rw [if_pos (by omega)] at this
  rw [this, pNeed]
theorem q_fault (q : Q t n pc pl st hw np lg t0 need noon w a v xf pf la qf qs qr cf ck co cw sf kn lf ls ef ek gf gs M so ro rek rgs) (hN : 40 < N) :
    ∃ (x : Int32) (M' ns' nr' : Nat → Int32), X5_fault N xf pf la = some x ∧ X6_fault N M L la ns nr = some (x, M', ns', nr') ∧ Q t n pc pl st hw np lg t0 need noon w a v xf pf la qf qs qr cf ck co cw sf kn lf ls ef ek gf gs M' so ro rek rgs := by
  obtain ⟨M', S', R', h1, h2, h3, h4, h5⟩ := r_readAll (N := N) (L := L) (ns := ns) (nr := nr) q.pv q.pv2 q.np30 hN q.pm
  exact ⟨nI (pAll v np).1, M', S', R', by rw [X5_fault, c_first q.pz q.pv q.pv2 q.np30 hN]; rfl, by rw [X6_fault, h1, Option.bind_some]; dsimp only; rw [h2], q.cells (fun x hx => h4 x (by omega))⟩
theorem r_pass40 {S R M1 : Nat → Int32} {pg : Nat → Int32} (hN : 40 < N) : X6_passage_40 N L pg N M1 so ro S R 0 = ((X6_begin (upd (upd (upd (upd (upd M1 0 (1 : Int32)) 1 (((upd M1 0 (1 : Int32)) 1) + (1 : Int32))) 7 (0 : Int32)) 18 (0 : Int32)) 12 (0 : Int32)) L).bind fun u3 => (some (((upd u3 20 (0 : Int32)) 4), (upd u3 20 (0 : Int32)), cpN S so 12, cpN R ro 12, S, R))) := by
  have h := lr (fun k (z : (Nat → Int32) × (Nat → Int32) × Int32) => X6_passage_40 N L pg k M1 z.1 z.2.1 S R z.2.2) (fun i => (cpN S so i, cpN R ro i, nI i)) 12 _ (fun k i hi => by
      show X6_passage_40 N L pg (k + 1) M1 (cpN S so i) (cpN R ro i) S R (nI i) = X6_passage_40 N L pg k M1 (cpN S so (i + 1)) (cpN R ro (i + 1)) S R (nI (i + 1))
      rw [X6_passage_40, if_neg (by rw [show (12 : Int32) = nI 12 from rfl, i_le (by omega) (by omega)]; omega), if_pos (xin_nI hi (by omega)), if_pos (xin_nI hi (by omega)), if_pos (xin_nI hi (by omega)), if_pos (xin_nI hi (by omega)), nI_clamp (by omega), nI_1, cpN_s, cpN_s])
    (fun k => by
      show X6_passage_40 N L pg (k + 1) M1 (cpN S so 12) (cpN R ro 12) S R (nI 12) = _
      rw [X6_passage_40, if_pos (by decide)]) N (by omega)
  dsimp only at h
  rw [cpN_0, cpN_0] at h
  exact h
def pB (M : Nat → Int32) : Nat → Int32 := upd (upd (upd M 2 (M 24)) 3 ((upd M 2 (M 24)) 25)) 4 ((upd (upd M 2 (M 24)) 3 ((upd M 2 (M 24)) 25)) 26)
def pE (X : Nat → Int32) : Nat → Int32 := upd (upd (upd (upd (upd X 0 (1 : Int32)) 1 (((upd X 0 (1 : Int32)) 1) + (1 : Int32))) 7 (0 : Int32)) 18 (0 : Int32)) 12 (0 : Int32)
def pG (X : Nat → Int32) : Nat → Int32 := upd (upd (upd (upd X 13 (0 : Int32)) 14 (0 : Int32)) 15 (0 : Int32)) 16 (0 : Int32)
def pZ (M : Nat → Int32) : Nat → Int32 := upd (pG (pE (pB M))) 20 0
theorem pZ_at (M : Nat → Int32) : pZ M 0 = 1 ∧ pZ M 1 = M 1 + 1 ∧ pZ M 2 = M 24 ∧ pZ M 3 = M 25 ∧ pZ M 4 = M 26 ∧ pZ M 7 = 0 ∧ pZ M 12 = 0 ∧ pZ M 13 = 0 ∧ pZ M 14 = 0 ∧ pZ M 15 = 0 ∧ pZ M 16 = 0 ∧ pZ M 18 = 0 ∧ pZ M 20 = 0 := by
  refine ⟨?_, ?_, ?_, ?_, ?_, ?_, ?_, ?_, ?_, ?_, ?_, ?_, ?_⟩ <;> simp [pZ, pG, pE, pB, upd]
theorem pZ_hi (M : Nat → Int32) (x : Nat) (h : 38 ≤ x) : pZ M x = M x := by
  simp only [pZ, pG, pE, pB]
  rw [ud_n _ _ (by omega), ud_n _ _ (by omega), ud_n _ _ (by omega), ud_n _ _ (by omega), ud_n _ _ (by omega), ud_n _ _ (by omega), ud_n _ _ (by omega), ud_n _ _ (by omega), ud_n _ _ (by omega), ud_n _ _ (by omega), ud_n _ _ (by omega), ud_n _ _ (by omega), ud_n _ _ (by omega)]
theorem q_passage (q : Q t n pc pl st hw np lg t0 need noon w a v xf pf la qf qs qr cf ck co cw sf kn lf ls ef ek gf gs M so ro rek rgs) (hN : 40 < N) (ht : t < 1000) :
    ∃ (x : Int32) (xf' pf' qf' qs' qr' cf' sf' lf' M' so' ro' ns' nr' : Nat → Int32) (n' pc' pl' st' hw' np' lg' t0' : Nat) (need' noon' : Int32) (a' : Nat → Bool), X5_passage N xf pf la qf qs qr cf sf lf = some (x, xf', pf', qf', qs', qr', cf', sf', lf') ∧ X6_passage N M L so ro la ns nr = some (x, M', so', ro', ns', nr') ∧ Q (t + 1) n' pc' pl' st' hw' np' lg' t0' need' noon' w a' v xf' pf' la qf' qs' qr' cf' ck co cw sf' kn lf' ls ef ek gf gs M' so' ro' rek rgs := by
  obtain ⟨M1, S', R', h1, h2, h3, h4, h5⟩ := r_readAll (N := N) (L := L) (ns := ns) (nr := nr) q.pv q.pv2 q.np30 hN q.pm
  have hcp := c_isP (N := N) q.pz q.pv q.pv2 q.np30 hN
  cases hwh : pWhole v np with
  | false =>
    rw [hwh] at h3 hcp
    exact ⟨-103, xf, pf, qf, qs, qr, cf, sf, lf, M1, so, ro, S', R', n, pc, pl, st, hw, np, lg, t0, need, noon, a, by rw [X5_passage, hcp, Option.bind_some, if_pos (show bz false = 0 from rfl)], by rw [X6_passage, h1, Option.bind_some, if_pos (show M1 23 = 0 from h3)], (q.cells (fun x hx => h4 x (by omega))).up (Nat.le_succ t)⟩
  | true =>
    rw [hwh] at h3 hcp
    obtain ⟨f1, f2, f3, f4, f5⟩ := h5 hwh
    obtain ⟨V', S1, R1, g1, g2, g3, g4, g5, g6, g7, g8⟩ := c_readAll (N := N) (V := qf) (S1 := qs) (R1 := qr) q.pz q.pv q.pv2 q.np30 hN hwh
    obtain ⟨I, D, -⟩ := pRun_inv (v := v) np 0 0 0 (fun _ => 0) (fun _ => 0) (pInv0 v) ⟨fun k hk => by omega, fun k hk => by omega⟩
    have hw2 := hwh
    rw [pWhole, Bool.and_eq_true, decide_eq_true_iff, decide_eq_true_iff] at hw2
    change pInv v (pAll v np).1 (pAll v np).2.1 (pAll v np).2.2.1 at I
    change pDat (pAll v np).2.2.1 (pAll v np).2.2.2.1 (pAll v np).2.2.2.2 at D
    rw [hw2.1, hw2.2] at I
    obtain ⟨i1, i2, -⟩ := I
    have hpc1 : 1 ≤ (pAll v np).2.2.1 := by omega
    obtain ⟨z0, z1, z2, z3, z4, z7, z12, z13, z14, z15, z16, z18, z20⟩ := pZ_at M1
    have zhi := pZ_hi M1
    have t0t := q.t0t
    have hm1 : M1 1 = nI t0 := by rw [h4 1 (by omega)]; exact q.m1
    generalize (pAll v np).2.2.1 = pc' at *
    refine ⟨nI pc', upd (upd xf 8 0) 11 (nI (t0 + 1)), upd pf 1 0, V', S1, R1, upd cf 3 0, upd (upd (upd (upd sf 2 0) 3 0) 4 0) 5 0, upd lf 1 0, pZ M1, cpN S' so 12, cpN R' ro 12, S', R', 0, pc', 0, 0, 0, 0, 0, t0 + 1, nI (pNeed v), nI (v 2 - 48), fun _ => false, ?_, ?_, ?_⟩
    · rw [X5_passage, hcp, Option.bind_some, if_neg (show ¬ bz true = 0 by decide), g1, Option.bind_some, X4_startWith, Option.bind_some]
      dsimp only
      rw [g2, ud_n _ _ (show (11 : Nat) ≠ 8 by decide), q.x11, nI_1]
    · rw [X6_passage, h1, Option.bind_some, if_neg (show ¬ M1 23 = 0 by rw [h3]; decide)]
      refine Eq.trans (r_pass40 (M1 := pB M1) hN) ?_
      show some (pZ M1 4, pZ M1, cpN S' so 12, cpN R' ro 12, S', R') = _
      rw [z4, f3]
    · have hso : ∀ k, k < pc' → cpN S' so 12 k = (pAll v np).2.2.2.1 k := fun k hk => by rw [cpN, if_pos (by omega)]; exact f1 k hk
      have hro : ∀ k, k < pc' → cpN R' ro 12 k = (pAll v np).2.2.2.2 k := fun k hk => by rw [cpN, if_pos (by omega)]; exact f2 k hk
      refine ⟨⟨⟨ud_s _ _ _, g3, g4, g2, fun k hk => by rw [hso k hk]; exact g5 k hk, fun k hk => by rw [hro k hk]; exact g6 k hk⟩, ⟨z7, z2.trans f4, z3.trans f5, z4.trans f3, fun _ _ => rfl, fun _ _ => rfl⟩, ⟨by decide, i1, fun k hk => by rw [hso k hk]; exact D.1 k hk, fun k hk => by rw [hro k hk]; exact D.2 k hk, fun j hj => by omega, fun j hj => by omega⟩, by rw [if_neg (by omega)]; exact z0⟩, ⟨⟨fun j hj => ?_, fun j hj => by omega, ?_, ?_, ?_⟩, ⟨fun j hj => ?_, fun j hj => by omega, z14, z15, z16⟩, fun j hj => by omega, fun j hj => by omega, fun _ _ => rfl, by decide, fun h => h, fun _ => rfl, fun _ j hj => by omega, by omega⟩, ⟨ud_s _ _ _, z20, by decide, fun j hj => by omega, fun j hj => by omega⟩, ⟨ud_s _ _ _, z18, by decide⟩, ⟨ud_s _ _ _, by rw [z1, hm1, nI_1], by omega⟩, ⟨q.zk, q.zek, q.zrek, g7 q.zqs, g8 q.zqr, Zr_cpN q.zso (by decide), q.zls, q.zgs, q.zrgs⟩, ?_, Or.inl ⟨?_, ?_⟩⟩
      · rw [ud_n _ _ (by decide), ud_n _ _ (by decide), ud_n _ _ (by decide), ud_s, b_0, Bool.and_false]
      · rw [ud_n _ _ (by decide), ud_n _ _ (by decide), ud_s]; rfl
      · rw [ud_n _ _ (by decide), ud_s]; rfl
      · rw [ud_s]; rfl
      · rw [z13, b_0, decide_eq_false (by omega)]; rfl
      · rw [zhi 38 (by omega), zhi 39 (by omega), h4 38 (by omega), h4 39 (by omega)]
        rcases q.kj with k1 | ⟨k1, j, k2, k3⟩
        · exact Or.inl k1
        · exact Or.inr ⟨k1, j, by omega, k3⟩
      · rw [ud_n _ _ (by decide), ud_s]
      · rw [zhi 38 (by omega), zhi 39 (by omega), h4 38 (by omega), h4 39 (by omega), z1, hm1, nI_1]
        rcases q.kj with k1 | ⟨k1, j, k2, k3⟩
        · exact Or.inl k1
        · exact Or.inr (by rw [k3, i_eq (by omega) (by omega)]; omega)
end Q
