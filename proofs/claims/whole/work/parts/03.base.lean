/-! Rows of this claim's own: contracts of methods that make nothing, as 'from these cells to those cells with this answer'; the walk's rows with the frame's facts in one word (xE). -/
def bz : Bool → Int32
  | true => 1
  | false => 0
def xin (i : Int32) (n : Nat) : Bool := decide (0 ≤ i.toInt) && decide (i.toInt < n)
theorem xin_vp {i : Int32} {n : Nat} (h : xin i n = true) : vp_in i n := by
  simp only [xin, Bool.and_eq_true, decide_eq_true_eq] at h
  exact vp_in_iff.mpr h
theorem og_p {α : Type} {c : Prop} [Decidable c] {x y : Option α} {r : α} (h : c) (hM : (if c then x else y) = some r) : x = some r := by rwa [if_pos h] at hM
theorem og_n {α : Type} {c : Prop} [Decidable c] {x y : Option α} {r : α} (h : ¬ c) (hM : (if c then x else y) = some r) : y = some r := by rwa [if_neg h] at hM
theorem og_g {α : Type} {c : Prop} [Decidable c] {x : Option α} {r : α} (hM : (if c then x else none) = some r) : c ∧ x = some r := by
  by_cases h : c
  · exact ⟨h, by rwa [if_pos h] at hM⟩
  · rw [if_neg h] at hM
    cases hM
theorem og_b {α β : Type} {o : Option α} {f : α → Option β} {r : β} (hM : o.bind f = some r) : ∃ u, o = some u ∧ f u = some r := Option.bind_eq_some_iff.mp hM
/-- the words that each method's contract stands on: its own code, and the tables' -/
def wsA (y : MethodName) (bc : ByteArray) (nL : Nat) (ret : Option FieldType) : List Cond := .code y bc nL ret :: lw_good
theorem xGood {y : MethodName} {bc : ByteArray} {nL : Nat} {ret : Option FieldType} (h : Cond.code y bc nL ret ∈ lw_good) : GoodIn lw_good (wsA y bc nL ret) := fun w hw => by
  have h1 : w ∈ lw_good := by
    rcases List.mem_cons.mp hw with rfl | h2
    · exact h
    · exact h2
  exact ⟨h1, good_of_word (List.mem_filter.mp h1).2⟩
abbrev xT (cI cB : ClassId) : List (ClassId × FieldType) := [(cI, .int), (cB, .byte)]
def xQ (D : va_G) (tys : List (ClassId × FieldType)) (w' : va_W) (v : Option Value) (A : Nat → Prop) : Array Value → State → Outcome → State → Prop := fun _ st oc t => (oc = .returned v ∧ va_P D vwCl w' t.heap ∧ va_K D vwCl tys t ∧ va_D A w') ∧ va_F A st t
/-- a method's contract: from the cells w, called with 'as', it returns v and leaves the cells w' -/
def xC (l : Launch) (D : va_G) (tys : List (ClassId × FieldType)) (y : MethodName) (bc : ByteArray) (nL : Nat) (ret : Option FieldType) (rm : Room) (as : List Value) (w : va_W) (v : Option Value) (w' : va_W) : Prop :=
  ∀ sz : Nat, Met l y (wsA y bc nL ret) rm (va_Pc as (fun U => U.heap.size = sz ∧ va_P D vwCl w U.heap ∧ va_K D vwCl tys U ∧ va_D (fun _ => True) w)) (xQ D tys w' v (va_A w sz)) 0 0 (va_A w sz)
/-- what holds in a frame -/
def xE (p : Program) (s : State) (m : MethodId) (args : Array Value) (meth : Method) (c : Code) (A : Nat → Prop) (D : va_G) (tys : List (ClassId × FieldType)) (own : String) (bc : ByteArray) (nL : Nat) (ret : Option FieldType) : Prop :=
  p.tables.exec = Jvm.exec ∧ c.code = bc ∧ meth.sig.returnType = ret ∧ (∀ w ∈ lw_good, w.before args s = true) ∧ s.vm.findClass own = some m.cls ∧ c.maxLocals = nL ∧ meth.locks = false ∧ (∀ q : Nat, s.heap.size ≤ q → A q) ∧ va_K D vwCl tys s
theorem xC.of {l : Launch} {D : va_G} {tys : List (ClassId × FieldType)} {y : MethodName} {bc : ByteArray} {nL : Nat} {ret : Option FieldType} {rm : Room} {as : List Value} {w : va_W} {v : Option Value} {w' : va_W} (hy : plainName y.cls = true) (hn : (lg_sl as).length ≤ nL)
    (body : ∀ (p : Program) (e : Env) (s : State) (m : MethodId) (below : List Frame) (meth : Method) (c : Code) (A : Nat → Prop) (ls : Array Slot), xE p s m as.toArray meth c A D tys y.cls bc nL ret → va_P D vwCl w s.heap → va_D A w → va_S A s.heap s.heap [] → lv_has ls nL (lv_args 0 as) →
      W p l e rm s m as.toArray below meth c s.heap [] 0 0 (MQ below (xQ D tys w' v A) as.toArray s 0 0 A) (F0 m 0 ls [])) : xC l D tys y bc nL ret rm as w v w' := by
  intro sz
  refine Met.ofW (cc := bc) (maxL := nL) (ret := ret) hy rfl ?_
  intro p e s m args below meth c s₁ B hml hv
  obtain ⟨rfl, hsz, hP, hK, hD0⟩ := hv
  subst hsz
  have hts := atoms_spec (ws := wsA y bc nL ret) B.pre
  have hl := lv_entry as hn
  rw [lg_entry_eq]
  exact body p e s m below meth c (va_A w s.heap.size) _ ⟨B.exec, B.bytes, B.returns, fun w hw => hts w (List.mem_cons_of_mem _ hw), findClass_of_methodNamed B.named, hml, B.notSynchronized, fun q h => Or.inr h, hK⟩ hP hD0.self va_S.rf hl
section XB
variable {p : Program} {l : Launch} {e : Env} {R : Room} {s : State} {m : MethodId} {args : Array Value} {below : List Frame} {meth : Method} {c : Code} {H : Heap} {locs : List Loc} {cells slots : Nat} {Q : State → Prop}
variable {D : va_G} {tys : List (ClassId × FieldType)} {A : Nat → Prop} {own : String} {bc : ByteArray} {nL : Nat} {ret : Option FieldType} {pc : Nat} {ls : Array Slot} {rest : List Value} {ws w' wn : va_W} {a : Nat}
theorem x_iret {v : Int32} (E : xE p s m args meth c A D tys own bc nL (some .int)) (hP : va_P D vwCl w' H) (hD : va_D A w') (hS : va_S A s.heap H locs) (hdg : decode bc pc = .ok (.ireturn, 1)) :
    W p l e R s m args below meth c H locs 0 0 (MQ below (xQ D tys w' (some (.int v)) A) args s 0 0 A) (F0 m pc ls [.int v]) := by
  obtain ⟨hx, hb, hr, hts, hown, hml, hlocks, hA, hK⟩ := E
  exact W.iret hx hb hr (fun t ht hW => ⟨⟨rfl, by rw [ht]; exact hP, va_K.moved hW.alike hK, hD⟩, hS.F ht⟩) hS.2.2 hdg hlocks
theorem x_zret {b : Bool} (E : xE p s m args meth c A D tys own bc nL (some .boolean)) (hP : va_P D vwCl w' H) (hD : va_D A w') (hS : va_S A s.heap H locs) (hdg : decode bc pc = .ok (.ireturn, 1)) :
    W p l e R s m args below meth c H locs 0 0 (MQ below (xQ D tys w' (some (.int (bz b))) A) args s 0 0 A) (F0 m pc ls [.int (bz b)]) := by
  obtain ⟨hx, hb, hr, hts, hown, hml, hlocks, hA, hK⟩ := E
  exact W.zret hx hb hr (by cases b <;> rfl) (fun t ht hW => ⟨⟨rfl, by rw [ht]; exact hP, va_K.moved hW.alike hK, hD⟩, hS.F ht⟩) hS.2.2 hdg hlocks
theorem x_lret {v : Int64} (E : xE p s m args meth c A D tys own bc nL (some .long)) (hP : va_P D vwCl w' H) (hD : va_D A w') (hS : va_S A s.heap H locs) (hdg : decode bc pc = .ok (.lreturn, 1)) :
    W p l e R s m args below meth c H locs 0 0 (MQ below (xQ D tys w' (some (.long v)) A) args s 0 0 A) (F0 m pc ls [.long v]) := by
  obtain ⟨hx, hb, hr, hts, hown, hml, hlocks, hA, hK⟩ := E
  exact W.lret hx hb hr (fun t ht hW => ⟨⟨rfl, by rw [ht]; exact hP, va_K.moved hW.alike hK, hD⟩, hS.F ht⟩) hS.2.2 hdg hlocks
theorem x_vret (E : xE p s m args meth c A D tys own bc nL none) (hP : va_P D vwCl w' H) (hD : va_D A w') (hS : va_S A s.heap H locs) (hdg : decode bc pc = .ok (.return_, 1)) :
    W p l e R s m args below meth c H locs 0 0 (MQ below (xQ D tys w' none A) args s 0 0 A) (F0 m pc ls []) := by
  obtain ⟨hx, hb, hr, hts, hown, hml, hlocks, hA, hK⟩ := E
  exact W.vret hx hb hr (fun t ht hW => ⟨⟨rfl, by rw [ht]; exact hP, va_K.moved hW.alike hK, hD⟩, hS.F ht⟩) hS.2.2 hdg hlocks
theorem x_get {C : String} {T : u_T} {N ci index : Nat} (E : xE p s m args meth c A D tys own bc nL ret) (hin : ∀ w ∈ u_ws C T N, w ∈ lw_good) (hc : vwCl[ci]? = some (C, T, N)) (k : Nat) (hk : k < N) {fs : List Value} {v : Value} (hv : fs[k]? = some v)
    (hP : va_P D vwCl ws H) (q0 : Nat) (he : ws[q0]? = some (a, .inr (ci, fs))) (hlink : Cond.fieldLink own index (T k).1 (T k).2.1 (T k).2.2.1 ∈ lw_good) (hdg : decode bc pc = .ok (.getfield index, 3))
    (kk : W p l e R s m args below meth c H locs cells slots Q (F0 m (pc + 3) ls (v :: rest))) : W p l e R s m args below meth c H locs cells slots Q (F0 m pc ls (.ref a :: rest)) := by
  obtain ⟨hx, hb, hr, hts, hown, hml, hlocks, hA, hK⟩ := E
  exact va_get hx hb hts hin hown hK hP q0 he hc k hk (hts _ hlink) (fun _ h => h) hv hdg kk
theorem x_put {C : String} {T : u_T} {N ci index : Nat} (E : xE p s m args meth c A D tys own bc nL ret) (hin : ∀ w ∈ u_ws C T N, w ∈ lw_good) (ty0 : Nat → FieldType) (hty : ∀ k, k < N → parseFieldDescriptor (T k).2.2.1 = some (ty0 k)) (hnm : ∀ a, a < N → ∀ b, b < N → a ≠ b → (T a).2.1 ≠ (T b).2.1)
    (hc : vwCl[ci]? = some (C, T, N)) (k : Nat) (hk : k < N) (hfin : (T k).2.2.2 = false) {fs fs' : List Value} {v : Value} (hn : narrow (ty0 k) v = v) (hfit : fits (ty0 k) v = true) (hl : k < fs.length) (hfs : fs.set k v = fs')
    (hP : va_P D vwCl ws H) (hD : va_D A ws) (hS : va_S A s.heap H locs) (q0 : Nat) (he : ws[q0]? = some (a, .inr (ci, fs))) (hlink : Cond.fieldLink own index (T k).1 (T k).2.1 (T k).2.2.1 ∈ lw_good) (hdg : decode bc pc = .ok (.putfield index, 3))
    (hw : ws.set q0 (a, .inr (ci, fs')) = wn)
    (kk : ∀ (H1 : Heap) (locs1 : List Loc), va_P D vwCl wn H1 → va_D A wn → va_S A s.heap H1 locs1 → W p l e R s m args below meth c H1 locs1 cells slots Q (F0 m (pc + 3) ls rest)) : W p l e R s m args below meth c H locs cells slots Q (F0 m pc ls (v :: .ref a :: rest)) := by
  obtain ⟨hx, hb, hr, hts, hown, hml, hlocks, hA, hK⟩ := E
  subst hfs
  subst hw
  exact va_put hx hb hts hin ty0 hty hnm hown hK hP hD hS q0 he hc k hk (hts _ hlink) (fun _ h => h) hfin (hty k hk) hn hfit hl hdg kk
theorem x_iald {cI cB : ClassId} {n : Nat} {f : Nat → Int32} {i : Int32} (E : xE p s m args meth c A D (xT cI cB) own bc nL ret) (hin : xin i n = true) (hP : va_P D vwCl ws H) (q0 : Nat) (he : ws[q0]? = some (a, .inl (cI, n, .inl f))) (hdg : decode bc pc = .ok (.iaload, 1))
    (kk : W p l e R s m args below meth c H locs cells slots Q (F0 m (pc + 1) ls (.int (f i.toNatClampNeg) :: rest))) : W p l e R s m args below meth c H locs cells slots Q (F0 m pc ls (.int i :: .ref a :: rest)) := by
  obtain ⟨hx, hb, hr, hts, hown, hml, hlocks, hA, hK⟩ := E
  exact va_iald hx hb hK hP q0 0 he rfl (xin_vp hin) hdg kk
theorem x_bald {cI cB : ClassId} {n : Nat} {f : Nat → Int32} {i : Int32} (E : xE p s m args meth c A D (xT cI cB) own bc nL ret) (hin : xin i n = true) (hP : va_P D vwCl ws H) (q0 : Nat) (he : ws[q0]? = some (a, .inl (cB, n, .inl f))) (hdg : decode bc pc = .ok (.baload, 1))
    (kk : W p l e R s m args below meth c H locs cells slots Q (F0 m (pc + 1) ls (.int (f i.toNatClampNeg) :: rest))) : W p l e R s m args below meth c H locs cells slots Q (F0 m pc ls (.int i :: .ref a :: rest)) := by
  obtain ⟨hx, hb, hr, hts, hown, hml, hlocks, hA, hK⟩ := E
  exact va_bald hx hb hK hP q0 1 he rfl (xin_vp hin) hdg kk
theorem x_iast {cI cB : ClassId} {n : Nat} {f : Nat → Int32} {i x : Int32} (E : xE p s m args meth c A D (xT cI cB) own bc nL ret) (hin : xin i n = true) (hP : va_P D vwCl ws H) (hD : va_D A ws) (hS : va_S A s.heap H locs) (q0 : Nat) (he : ws[q0]? = some (a, .inl (cI, n, .inl f))) (hdg : decode bc pc = .ok (.iastore, 1))
    (hw : ws.set q0 (a, .inl (cI, n, .inl (upd f i.toNatClampNeg x))) = wn)
    (kk : ∀ (H1 : Heap) (locs1 : List Loc), va_P D vwCl wn H1 → va_D A wn → va_S A s.heap H1 locs1 → W p l e R s m args below meth c H1 locs1 cells slots Q (F0 m (pc + 1) ls rest)) : W p l e R s m args below meth c H locs cells slots Q (F0 m pc ls (.int x :: .int i :: .ref a :: rest)) := by
  obtain ⟨hx, hb, hr, hts, hown, hml, hlocks, hA, hK⟩ := E
  subst hw
  exact va_iast hx hb hK hP hD hS q0 0 he rfl (xin_vp hin) hdg kk
theorem x_bast {cI cB : ClassId} {n : Nat} {f : Nat → Int32} {i x : Int32} (E : xE p s m args meth c A D (xT cI cB) own bc nL ret) (hin : xin i n = true) (hP : va_P D vwCl ws H) (hD : va_D A ws) (hS : va_S A s.heap H locs) (q0 : Nat) (he : ws[q0]? = some (a, .inl (cB, n, .inl f))) (hdg : decode bc pc = .ok (.bastore, 1))
    (hw : ws.set q0 (a, .inl (cB, n, .inl (upd f i.toNatClampNeg (vp_nar .byte x)))) = wn)
    (kk : ∀ (H1 : Heap) (locs1 : List Loc), va_P D vwCl wn H1 → va_D A wn → va_S A s.heap H1 locs1 → W p l e R s m args below meth c H1 locs1 cells slots Q (F0 m (pc + 1) ls rest)) : W p l e R s m args below meth c H locs cells slots Q (F0 m pc ls (.int x :: .int i :: .ref a :: rest)) := by
  obtain ⟨hx, hb, hr, hts, hown, hml, hlocks, hA, hK⟩ := E
  subst hw
  exact va_bast hx hb hK hP hD hS q0 1 he rfl (xin_vp hin) hdg kk
theorem x_alen {cI cB : ClassId} {n : Nat} {f : Nat → Int32} {v : Int32} (E : xE p s m args meth c A D (xT cI cB) own bc nL ret) (hP : va_P D vwCl ws H) (q0 : Nat) (he : ws[q0]? = some (a, .inl (cI, n, .inl f))) (hv : Int32.ofNat n = v) (hdg : decode bc pc = .ok (.arraylength, 1))
    (kk : W p l e R s m args below meth c H locs cells slots Q (F0 m (pc + 1) ls (.int v :: rest))) : W p l e R s m args below meth c H locs cells slots Q (F0 m pc ls (.ref a :: rest)) := by
  obtain ⟨hx, hb, hr, hts, hown, hml, hlocks, hA, hK⟩ := E
  exact va_alen hx hb hK hP q0 0 he rfl hv hdg kk
theorem x_copy {cI cB : ClassId} {n0 n1 index a0 : Nat} {f g : Nat → Int32} {sp dp n : Int32} (E : xE p s m args meth c A D (xT cI cB) own bc nL ret) (hlen : ls.size = nL) (hlink : Cond.methodLink own index arraycopyName ∈ lw_good) (hnat : Cond.native arraycopyName ∈ lw_good) (hstat : Cond.static arraycopyName ∈ lw_good) (hini : Cond.initialized "java/lang/System" ∈ lw_good)
    (hP : va_P D vwCl ws H) (hD : va_D A ws) (hS : va_S A s.heap H locs) (q0 q1 : Nat) (he0 : ws[q0]? = some (a0, .inl (cI, n0, .inl f))) (he1 : ws[q1]? = some (a, .inl (cI, n1, .inl g)))
    (h1 : ¬ sp < 0) (h2 : ¬ dp < 0) (h3 : ¬ n < 0) (h4 : sp.toNatClampNeg + n.toNatClampNeg ≤ n0) (h5 : dp.toNatClampNeg + n.toNatClampNeg ≤ n1) (hframes : 1 ≤ R.frames) (hlocals : (rest.map fun v => v.category).sum + (nativeFrameWords "java/lang/System" "arraycopy" 5 + 11) ≤ R.locals) (hdg : decode bc pc = .ok (.invokestatic index, 3))
    (hw : ws.set q1 (a, .inl (cI, n1, .inl (va_cpy f g sp.toNatClampNeg dp.toNatClampNeg n.toNatClampNeg))) = wn)
    (kk : ∀ (H1 : Heap) (locs1 : List Loc), va_P D vwCl wn H1 → va_D A wn → va_S A s.heap H1 locs1 → W p l e R s m args below meth c H1 locs1 cells slots Q (F0 m (pc + 3) ls rest)) : W p l e R s m args below meth c H locs cells slots Q (F0 m pc ls (.int n :: .int dp :: .ref a :: .int sp :: .ref a0 :: rest)) := by
  obtain ⟨hx, hb, hr, hts, hown, hml, hlocks, hA, hK⟩ := E
  subst hw
  exact va_copyi hx hb (hml.trans hlen.symm) hown (hts _ hlink) (hts _ hnat) (hts _ hstat) (hts _ hini) hK hP hD hS q0 q1 0 0 he0 he1 rfl rfl rfl h1 h2 h3 h4 h5 (fun _ _ => rfl) hframes hlocals hdg kk
/-- what a call needs of a callee of an object, once and for all -/
def xV (y : MethodName) (bc : ByteArray) (nL : Nat) (ret : Option FieldType) (n : Nat) : Prop := Cond.code y bc nL ret ∈ lw_good ∧ Cond.instanceMethod y ∈ lw_good ∧ Cond.selects y.cls y y ∈ lw_good ∧ Cond.initialized y.cls ∈ lw_good ∧ (y.cls ≠ "java/lang/invoke/MethodHandle" ∧ y.cls ≠ "java/lang/invoke/VarHandle" ∧ (parseMethodDescriptor y.desc).map (fun d => d.parameters.length) = some n)
def xSt (y : MethodName) (bc : ByteArray) (nL : Nat) (ret : Option FieldType) (n : Nat) : Prop := Cond.code y bc nL ret ∈ lw_good ∧ Cond.static y ∈ lw_good ∧ Cond.initialized y.cls ∈ lw_good ∧ (y.cls ≠ "java/lang/invoke/MethodHandle" ∧ y.cls ≠ "java/lang/invoke/VarHandle" ∧ (parseMethodDescriptor y.desc).map (fun d => d.parameters.length) = some n)
def xchk (n : Nat) (is isR : List Nat) : Bool := ((List.range n).all fun k => decide (k ∈ is) || decide (k ∈ isR)) && va_nd is
/-- the cells behind a call: the callee's as it left them, the others as they were -/
theorem x_join {wc wc' : va_W} {H1 : Heap} (hP : va_P D vwCl ws H) (hD : va_D A ws) (is isR : List Nat) (wr : va_W) (aw : List Nat) (N : Nat) (h1 : is.map (fun i => ws[i]?) = wc.map some) (h2 : is.map (fun i => wn[i]?) = wc'.map some) (h3 : isR.map (fun i => ws[i]?) = wr.map some) (h3' : isR.map (fun i => wn[i]?) = wr.map some) (h40 : ws.map (fun q => q.1) = aw) (h4' : wn.map (fun q => q.1) = aw) (hN : aw.length = N) (h5 : xchk N is isR = true)
    (hk : ∀ q : Nat, q < H.size → ¬ va_A wc H.size q → H1[q]? = H[q]?) (hP1 : va_P D vwCl wc' H1) : va_P D vwCl wn H1 ∧ va_D A wn := by
  have h4 : wn.map (fun q => q.1) = ws.map (fun q => q.1) := h4'.trans h40.symm
  have h3 : isR.map (fun i => wn[i]?) = isR.map (fun i => ws[i]?) := h3'.trans h3.symm
  have hlw : ws.length = N := by rw [← hN, ← h40, List.length_map]
  simp only [xchk, Bool.and_eq_true] at h5
  have hfst : ∀ (k : Nat) (q : Nat × va_E), wn[k]? = some q → ∃ q', ws[k]? = some q' ∧ q'.1 = q.1 := by
    intro k q hq
    have h := congrArg (fun l => l[k]?) h4
    simp only [List.getElem?_map, hq, Option.map_some] at h
    cases hw : ws[k]? with
    | none => rw [hw] at h; cases h
    | some q' => rw [hw] at h; exact ⟨q', rfl, (Option.some.inj h).symm⟩
  have hat : ∀ {js : List Nat} {w : va_W} {z : va_W}, js.map (fun i => z[i]?) = w.map some → ∀ (j k : Nat), js[j]? = some k → ∃ q, w[j]? = some q ∧ z[k]? = some q := by
    intro js w z h j k hj
    have h' := congrArg (fun l => l[j]?) h
    simp only [List.getElem?_map, hj, Option.map_some] at h'
    cases hw : w[j]? with
    | none => rw [hw] at h'; cases h'
    | some q => rw [hw] at h'; exact ⟨q, rfl, Option.some.inj h'⟩
  constructor
  · intro k q hq
    obtain ⟨q', hq', hqq⟩ := hfst k q hq
    have hkl : k < ws.length := (List.getElem?_eq_some_iff.mp hq').1
    have hcov := List.all_eq_true.mp h5.1 k (List.mem_range.mpr (hlw ▸ hkl))
    simp only [Bool.or_eq_true, decide_eq_true_eq] at hcov
    by_cases hin : k ∈ is
    · obtain ⟨j, hj⟩ := List.getElem?_of_mem hin
      obtain ⟨q2, hq2, hz⟩ := hat h2 j k hj
      rw [hq] at hz
      cases hz
      exact hP1 j q hq2
    · have hinR : k ∈ isR := hcov.resolve_left hin
      obtain ⟨j, hj⟩ := List.getElem?_of_mem hinR
      have hsame : wn[k]? = ws[k]? := by
        have h' := congrArg (fun l => l[j]?) h3
        simp only [List.getElem?_map, hj, Option.map_some] at h'
        exact Option.some.inj h'
      rw [hq] at hsame
      have hold := hP k q hsame.symm
      refine hold.kept (hk q.1 hold.lt ?_)
      rintro (⟨j2, e2, hj2⟩ | hge)
      · have hjl : j2 < is.length := by
          have hl1 : j2 < wc.length := (List.getElem?_eq_some_iff.mp hj2).1
          have hl2 := congrArg List.length h1
          simp only [List.length_map] at hl2
          omega
        obtain ⟨q3, hq3, hz3⟩ := hat h1 j2 _ (List.getElem?_eq_getElem hjl)
        rw [hj2] at hq3
        cases hq3
        have := hD.1 k _ q _ hsame.symm hz3 rfl
        exact hin (this ▸ List.getElem_mem hjl)
      · exact absurd hold.lt (Nat.not_lt.mpr hge)
  · constructor
    · intro i j x y hx hy hxy
      obtain ⟨x', hx', ex⟩ := hfst i x hx
      obtain ⟨y', hy', ey⟩ := hfst j y hy
      exact hD.1 i j x' y' hx' hy' (by rw [ex, ey, hxy])
    · intro k q hq
      obtain ⟨q', hq', hqq⟩ := hfst k q hq
      exact hqq ▸ hD.2 k q' hq'
theorem x_run {wc wc' : va_W} {v : Option Value} {st0 : List Value} {a1 : Array Value} (hr : va_Run p l e R s m args below meth c H locs cells slots 0 0 (F0 m pc ls st0) rest (xQ D tys wc' v (va_A wc H.size) a1) (va_A wc H.size)) (hA : ∀ q : Nat, s.heap.size ≤ q → A q)
    (hP : va_P D vwCl ws H) (hD : va_D A ws) (hS : va_S A s.heap H locs) (is isR : List Nat) (wr : va_W) (aw : List Nat) (N : Nat) (h1 : is.map (fun i => ws[i]?) = wc.map some) (h2 : is.map (fun i => wn[i]?) = wc'.map some) (h3 : isR.map (fun i => ws[i]?) = wr.map some) (h3' : isR.map (fun i => wn[i]?) = wr.map some) (h40 : ws.map (fun q => q.1) = aw) (h4' : wn.map (fun q => q.1) = aw) (hN : aw.length = N) (h5 : xchk N is isR = true)
    (kk : ∀ (H1 : Heap) (locs1 : List Loc), va_P D vwCl wn H1 → va_D A wn → va_S A s.heap H1 locs1 → W p l e R s m args below meth c H1 locs1 cells slots Q (F0 m (pc + 3) ls (v.toList ++ rest))) : W p l e R s m args below meth c H locs cells slots Q (F0 m pc ls st0) := by
  intro T hT X
  obtain ⟨v', st₀, t, T', L, h0, X', hL, e1, e2, ⟨⟨hv, hp, -, -⟩, hz, hk⟩, st⟩ := hr T hT X
  cases hv
  rw [h0] at hz hk
  have hF := va_free hD hS hA is h1
  have hk' : ∀ q : Nat, q < H.size → ¬ va_A wc H.size q → T'.heap[q]? = H[q]? := fun q h1 h2 => by rw [e1]; exact hk q h1 h2
  obtain ⟨hPn, hDn⟩ := x_join hP hD is isR wr aw N h1 h2 h3 h3' h40 h4' hN h5 hk' (by rw [e1]; exact hp)
  obtain ⟨t2, a2, b2⟩ := kk T'.heap (locs ++ L) hPn hDn ⟨Nat.le_trans hS.1 (by rw [e1]; exact hz), fun q h1 h2 => by rw [hk' q (Nat.lt_of_lt_of_le h1 hS.1) (fun z => h2 (hF q z))]; exact hS.2.1 q h1 h2, fun q hq => by
      rcases List.mem_append.mp hq with h | h
      · exact hS.2.2 q h
      · exact hF _ (hL q h)⟩ T' rfl X'
  exact ⟨t2, st t2 a2, b2⟩
theorem x_V {y : MethodName} {bc' : ByteArray} {nL' n q0 ci index : Nat} {ret' : Option FieldType} {rm : Room} {b : Addr} {As st0 : List Value} {wc wc' : va_W} {v : Option Value} {fs : List Value} {cq : vw_C} {lv : List (Nat × Value)} (E : xE p s m args meth c A D tys own bc nL ret) (hC : xC l D tys y bc' nL' ret' rm (.ref b :: As) wc v wc') (ok : xV y bc' nL' ret' n) (hlink : Cond.methodLink own index y ∈ lw_good)
    (hz : rm.cells = 0 ∧ rm.slots = 0) (hR : rm.frames + 1 ≤ R.frames ∧ 8 + (nL' + 11) + rm.locals ≤ R.locals) (hn : As.length = n) (hst : st0 = As.reverse ++ .ref b :: rest) (hcat : (rest.map fun v => v.category).sum ≤ 8) (hl : lv_has ls nL lv) (hdg : decode bc pc = .ok (.invokevirtual index, 3)) (hf : cells ≤ R.cells ∧ slots ≤ R.slots)
    (hP : va_P D vwCl ws H) (hD : va_D A ws) (hS : va_S A s.heap H locs) (is isR : List Nat) (wr : va_W) (aw : List Nat) (N : Nat) (h1 : is.map (fun i => ws[i]?) = wc.map some) (h2 : is.map (fun i => wn[i]?) = wc'.map some) (h3 : isR.map (fun i => ws[i]?) = wr.map some) (h3' : isR.map (fun i => wn[i]?) = wr.map some) (h40 : ws.map (fun q => q.1) = aw) (h4' : wn.map (fun q => q.1) = aw) (hN : aw.length = N) (h5 : xchk N is isR = true)
    (hq : wc[q0]? = some (b, .inr (ci, fs))) (hci : vwCl[ci]? = some cq) (hcq : cq.1 = y.cls)
    (kk : ∀ (H1 : Heap) (locs1 : List Loc), va_P D vwCl wn H1 → va_D A wn → va_S A s.heap H1 locs1 → W p l e R s m args below meth c H1 locs1 cells slots Q (F0 m (pc + 3) ls (v.toList ++ rest))) : W p l e R s m args below meth c H locs cells slots Q (F0 m pc ls st0) := by
  obtain ⟨hx, hb, hr, hts, hown, hml, hlocks, hA, hK⟩ := E
  obtain ⟨o1, o2, o3, o4, o5⟩ := ok
  have hPc : va_P D vwCl wc H := by
    intro k q hk
    have h' := congrArg (fun l => l[k]?) h1
    simp only [List.getElem?_map, hk, Option.map_some] at h'
    cases hi : is[k]? with
    | none => rw [hi] at h'; cases h'
    | some i => rw [hi] at h'; exact hP i q (Option.some.inj h')
  have hDc : va_D (fun _ => True) wc := (hD.sub is (by simp only [xchk, Bool.and_eq_true] at h5; exact h5.2) h1).weaken (fun _ _ _ _ => trivial)
  have hrun := va_runV (e := e) (below := below) (meth := meth) (locs := locs) (S := ⟨hx, hb, hml, hown, hts⟩) (hC H.size) (cw := ⟨callB_of n hts (xGood o1) rfl hz.1 hz.2 (hts _ o4) (hts _ hlink) o5 hR, hts _ o2, hts _ o3⟩)
    ⟨fun a U g mk q => by obtain ⟨q0, q1, qP, qK, qD⟩ := q; exact ⟨q0, q1, qP, va_K.moved (u := U) (U := U.calling g mk a) (Vm.Alike.refl U.vm) qK, qD⟩, by have h := va_recv hK hPc hci hq; rw [hcq] at h; exact h, fun U hU hW => ⟨rfl, by rw [hU], by rw [hU]; exact hPc, va_K.moved hW.alike hK, hDc⟩⟩
    (g := F0 m pc ls st0) rfl hn hl.1 hst (lv_room hcat) hdg hf
  exact x_run hrun hA hP hD hS is isR wr aw N h1 h2 h3 h3' h40 h4' hN h5 kk
theorem x_S {y : MethodName} {bc' : ByteArray} {nL' n index : Nat} {ret' : Option FieldType} {rm : Room} {As st0 : List Value} {wc wc' : va_W} {v : Option Value} {lv : List (Nat × Value)} (E : xE p s m args meth c A D tys own bc nL ret) (hC : xC l D tys y bc' nL' ret' rm As wc v wc') (ok : xSt y bc' nL' ret' n) (hlink : Cond.methodLink own index y ∈ lw_good)
    (hz : rm.cells = 0 ∧ rm.slots = 0) (hR : rm.frames + 1 ≤ R.frames ∧ 8 + (nL' + 11) + rm.locals ≤ R.locals) (hn : As.length = n) (hst : st0 = As.reverse ++ rest) (hcat : (rest.map fun v => v.category).sum ≤ 8) (hl : lv_has ls nL lv) (hdg : decode bc pc = .ok (.invokestatic index, 3)) (hf : cells ≤ R.cells ∧ slots ≤ R.slots)
    (hP : va_P D vwCl ws H) (hD : va_D A ws) (hS : va_S A s.heap H locs) (is isR : List Nat) (wr : va_W) (aw : List Nat) (N : Nat) (h1 : is.map (fun i => ws[i]?) = wc.map some) (h2 : is.map (fun i => wn[i]?) = wc'.map some) (h3 : isR.map (fun i => ws[i]?) = wr.map some) (h3' : isR.map (fun i => wn[i]?) = wr.map some) (h40 : ws.map (fun q => q.1) = aw) (h4' : wn.map (fun q => q.1) = aw) (hN : aw.length = N) (h5 : xchk N is isR = true)
    (kk : ∀ (H1 : Heap) (locs1 : List Loc), va_P D vwCl wn H1 → va_D A wn → va_S A s.heap H1 locs1 → W p l e R s m args below meth c H1 locs1 cells slots Q (F0 m (pc + 3) ls (v.toList ++ rest))) : W p l e R s m args below meth c H locs cells slots Q (F0 m pc ls st0) := by
  obtain ⟨hx, hb, hr, hts, hown, hml, hlocks, hA, hK⟩ := E
  obtain ⟨o1, o2, o4, o5⟩ := ok
  have hPc : va_P D vwCl wc H := by
    intro k q hk
    have h' := congrArg (fun l => l[k]?) h1
    simp only [List.getElem?_map, hk, Option.map_some] at h'
    cases hi : is[k]? with
    | none => rw [hi] at h'; cases h'
    | some i => rw [hi] at h'; exact hP i q (Option.some.inj h')
  have hDc : va_D (fun _ => True) wc := (hD.sub is (by simp only [xchk, Bool.and_eq_true] at h5; exact h5.2) h1).weaken (fun _ _ _ _ => trivial)
  have hrun := va_runS (e := e) (below := below) (meth := meth) (locs := locs) (S := ⟨hx, hb, hml, hown, hts⟩) (hC H.size) (cw := ⟨callB_of n hts (xGood o1) rfl hz.1 hz.2 (hts _ o4) (hts _ hlink) o5 hR, hts _ o2⟩)
    ⟨fun a U g mk q => by obtain ⟨q0, q1, qP, qK, qD⟩ := q; exact ⟨q0, q1, qP, va_K.moved (u := U) (U := U.calling g mk a) (Vm.Alike.refl U.vm) qK, qD⟩, fun U hU hW => ⟨rfl, by rw [hU], by rw [hU]; exact hPc, va_K.moved hW.alike hK, hDc⟩⟩
    (g := F0 m pc ls st0) rfl hn hl.1 hst (lv_room hcat) hdg hf
  exact x_run hrun hA hP hD hS is isR wr aw N h1 h2 h3 h3' h40 h4' hN h5 kk
end XB
section XB2
variable {p : Program} {l : Launch} {e : Env} {R : Room} {s : State} {m : MethodId} {args : Array Value} {below : List Frame} {meth : Method} {c : Code} {H : Heap} {locs : List Loc} {cells slots : Nat} {Q : State → Prop}
variable {D : va_G} {tys : List (ClassId × FieldType)} {A : Nat → Prop} {own : String} {bc : ByteArray} {nL : Nat} {ret : Option FieldType} {pc : Nat} {ls : Array Slot} {rest : List Value} {ws w' wn : va_W} {a : Nat}
theorem x_Vi {y : MethodName} {bc' : ByteArray} {nL' n q0 ci index : Nat} {ret' : Option FieldType} {rm : Room} {b : Addr} {As st0 : List Value} {wc wc' : va_W} {v : Value} {fs : List Value} {cq : vw_C} {lv : List (Nat × Value)} (E : xE p s m args meth c A D tys own bc nL ret) (hC : xC l D tys y bc' nL' ret' rm (.ref b :: As) wc (some v) wc') (ok : xV y bc' nL' ret' n) (hlink : Cond.methodLink own index y ∈ lw_good)
    (hz : rm.cells = 0 ∧ rm.slots = 0) (hR : rm.frames + 1 ≤ R.frames ∧ 8 + (nL' + 11) + rm.locals ≤ R.locals) (hn : As.length = n) (hst : st0 = As.reverse ++ .ref b :: rest) (hcat : (rest.map fun v => v.category).sum ≤ 8) (hl : lv_has ls nL lv) (hdg : decode bc pc = .ok (.invokevirtual index, 3)) (hf : cells ≤ R.cells ∧ slots ≤ R.slots)
    (hP : va_P D vwCl ws H) (hD : va_D A ws) (hS : va_S A s.heap H locs) (is isR : List Nat) (wr : va_W) (aw : List Nat) (N : Nat) (h1 : is.map (fun i => ws[i]?) = wc.map some) (h2 : is.map (fun i => wn[i]?) = wc'.map some) (h3 : isR.map (fun i => ws[i]?) = wr.map some) (h3' : isR.map (fun i => wn[i]?) = wr.map some) (h40 : ws.map (fun q => q.1) = aw) (h4' : wn.map (fun q => q.1) = aw) (hN : aw.length = N) (h5 : xchk N is isR = true)
    (hq : wc[q0]? = some (b, .inr (ci, fs))) (hci : vwCl[ci]? = some cq) (hcq : cq.1 = y.cls)
    (kk : ∀ (H1 : Heap) (locs1 : List Loc), va_P D vwCl wn H1 → va_D A wn → va_S A s.heap H1 locs1 → W p l e R s m args below meth c H1 locs1 cells slots Q (F0 m (pc + 3) ls (v :: rest))) : W p l e R s m args below meth c H locs cells slots Q (F0 m pc ls st0) :=
  x_V E hC ok hlink hz hR hn hst hcat hl hdg hf hP hD hS is isR wr aw N h1 h2 h3 h3' h40 h4' hN h5 hq hci hcq kk
theorem x_Vv {y : MethodName} {bc' : ByteArray} {nL' n q0 ci index : Nat} {ret' : Option FieldType} {rm : Room} {b : Addr} {As st0 : List Value} {wc wc' : va_W}  {fs : List Value} {cq : vw_C} {lv : List (Nat × Value)} (E : xE p s m args meth c A D tys own bc nL ret) (hC : xC l D tys y bc' nL' ret' rm (.ref b :: As) wc none wc') (ok : xV y bc' nL' ret' n) (hlink : Cond.methodLink own index y ∈ lw_good)
    (hz : rm.cells = 0 ∧ rm.slots = 0) (hR : rm.frames + 1 ≤ R.frames ∧ 8 + (nL' + 11) + rm.locals ≤ R.locals) (hn : As.length = n) (hst : st0 = As.reverse ++ .ref b :: rest) (hcat : (rest.map fun v => v.category).sum ≤ 8) (hl : lv_has ls nL lv) (hdg : decode bc pc = .ok (.invokevirtual index, 3)) (hf : cells ≤ R.cells ∧ slots ≤ R.slots)
    (hP : va_P D vwCl ws H) (hD : va_D A ws) (hS : va_S A s.heap H locs) (is isR : List Nat) (wr : va_W) (aw : List Nat) (N : Nat) (h1 : is.map (fun i => ws[i]?) = wc.map some) (h2 : is.map (fun i => wn[i]?) = wc'.map some) (h3 : isR.map (fun i => ws[i]?) = wr.map some) (h3' : isR.map (fun i => wn[i]?) = wr.map some) (h40 : ws.map (fun q => q.1) = aw) (h4' : wn.map (fun q => q.1) = aw) (hN : aw.length = N) (h5 : xchk N is isR = true)
    (hq : wc[q0]? = some (b, .inr (ci, fs))) (hci : vwCl[ci]? = some cq) (hcq : cq.1 = y.cls)
    (kk : ∀ (H1 : Heap) (locs1 : List Loc), va_P D vwCl wn H1 → va_D A wn → va_S A s.heap H1 locs1 → W p l e R s m args below meth c H1 locs1 cells slots Q (F0 m (pc + 3) ls rest)) : W p l e R s m args below meth c H locs cells slots Q (F0 m pc ls st0) :=
  x_V E hC ok hlink hz hR hn hst hcat hl hdg hf hP hD hS is isR wr aw N h1 h2 h3 h3' h40 h4' hN h5 hq hci hcq kk
theorem x_Si {y : MethodName} {bc' : ByteArray} {nL' n index : Nat} {ret' : Option FieldType} {rm : Room} {As st0 : List Value} {wc wc' : va_W} {v : Value} {lv : List (Nat × Value)} (E : xE p s m args meth c A D tys own bc nL ret) (hC : xC l D tys y bc' nL' ret' rm As wc (some v) wc') (ok : xSt y bc' nL' ret' n) (hlink : Cond.methodLink own index y ∈ lw_good)
    (hz : rm.cells = 0 ∧ rm.slots = 0) (hR : rm.frames + 1 ≤ R.frames ∧ 8 + (nL' + 11) + rm.locals ≤ R.locals) (hn : As.length = n) (hst : st0 = As.reverse ++ rest) (hcat : (rest.map fun v => v.category).sum ≤ 8) (hl : lv_has ls nL lv) (hdg : decode bc pc = .ok (.invokestatic index, 3)) (hf : cells ≤ R.cells ∧ slots ≤ R.slots)
    (hP : va_P D vwCl ws H) (hD : va_D A ws) (hS : va_S A s.heap H locs) (is isR : List Nat) (wr : va_W) (aw : List Nat) (N : Nat) (h1 : is.map (fun i => ws[i]?) = wc.map some) (h2 : is.map (fun i => wn[i]?) = wc'.map some) (h3 : isR.map (fun i => ws[i]?) = wr.map some) (h3' : isR.map (fun i => wn[i]?) = wr.map some) (h40 : ws.map (fun q => q.1) = aw) (h4' : wn.map (fun q => q.1) = aw) (hN : aw.length = N) (h5 : xchk N is isR = true)
    (kk : ∀ (H1 : Heap) (locs1 : List Loc), va_P D vwCl wn H1 → va_D A wn → va_S A s.heap H1 locs1 → W p l e R s m args below meth c H1 locs1 cells slots Q (F0 m (pc + 3) ls (v :: rest))) : W p l e R s m args below meth c H locs cells slots Q (F0 m pc ls st0) :=
  x_S E hC ok hlink hz hR hn hst hcat hl hdg hf hP hD hS is isR wr aw N h1 h2 h3 h3' h40 h4' hN h5 kk
theorem x_Sv {y : MethodName} {bc' : ByteArray} {nL' n index : Nat} {ret' : Option FieldType} {rm : Room} {As st0 : List Value} {wc wc' : va_W}  {lv : List (Nat × Value)} (E : xE p s m args meth c A D tys own bc nL ret) (hC : xC l D tys y bc' nL' ret' rm As wc none wc') (ok : xSt y bc' nL' ret' n) (hlink : Cond.methodLink own index y ∈ lw_good)
    (hz : rm.cells = 0 ∧ rm.slots = 0) (hR : rm.frames + 1 ≤ R.frames ∧ 8 + (nL' + 11) + rm.locals ≤ R.locals) (hn : As.length = n) (hst : st0 = As.reverse ++ rest) (hcat : (rest.map fun v => v.category).sum ≤ 8) (hl : lv_has ls nL lv) (hdg : decode bc pc = .ok (.invokestatic index, 3)) (hf : cells ≤ R.cells ∧ slots ≤ R.slots)
    (hP : va_P D vwCl ws H) (hD : va_D A ws) (hS : va_S A s.heap H locs) (is isR : List Nat) (wr : va_W) (aw : List Nat) (N : Nat) (h1 : is.map (fun i => ws[i]?) = wc.map some) (h2 : is.map (fun i => wn[i]?) = wc'.map some) (h3 : isR.map (fun i => ws[i]?) = wr.map some) (h3' : isR.map (fun i => wn[i]?) = wr.map some) (h40 : ws.map (fun q => q.1) = aw) (h4' : wn.map (fun q => q.1) = aw) (hN : aw.length = N) (h5 : xchk N is isR = true)
    (kk : ∀ (H1 : Heap) (locs1 : List Loc), va_P D vwCl wn H1 → va_D A wn → va_S A s.heap H1 locs1 → W p l e R s m args below meth c H1 locs1 cells slots Q (F0 m (pc + 3) ls rest)) : W p l e R s m args below meth c H locs cells slots Q (F0 m pc ls st0) :=
  x_S E hC ok hlink hz hR hn hst hcat hl hdg hf hP hD hS is isR wr aw N h1 h2 h3 h3' h40 h4' hN h5 kk
end XB2
