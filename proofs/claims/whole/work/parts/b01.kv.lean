/-! own rows: one shape for every method's contract; its start, its end, a call -/
abbrev tys2 (cI cZ : ClassId) : List (ClassId × FieldType) := [(cI, .int), (cZ, .boolean)]
def kvfac (j : Nat) : Int32 := match j with
  | 0 => 1
  | 1 => 1
  | 2 => 2
  | 3 => 6
  | 4 => 24
  | _ => 120
def kvF (j : Nat) : Value := .int (kvfac j)
/-- the links between nest mates -/
def nwF (a : String) (i : Nat) (b n d : String) (U : State) : Prop := va_Nw (.fieldLinkNest a i b n d "BreathBags") U
def nwM (i : Nat) (y : MethodName) (U : State) : Prop := va_Nw (.methodLinkNest "BreathBags" i y "BreathBags") U
def nwU (U : State) : Prop :=
  nwF "BreathBags" 96 "BreathBags$Text" "length" "I" U ∧ nwF "BreathBags$Sums" 30 "BreathBags$Camp" "bags" "I" U ∧ nwF "BreathBags" 70 "BreathBags$Camp" "bags" "I" U ∧ nwF "BreathBags$Text" 41 "BreathBags$Camp" "bags" "I" U ∧ nwF "BreathBags$Sums" 34 "BreathBags$Camp" "men" "I" U ∧ nwF "BreathBags" 74 "BreathBags$Camp" "men" "I" U ∧ nwF "BreathBags$Text" 51 "BreathBags$Camp" "men" "I" U ∧ nwF "BreathBags" 92 "BreathBags$Past" "count" "I" U ∧ nwF "BreathBags" 95 "BreathBags$Felt" "count" "I" U ∧
  nwM 9 ⟨"BreathBags$Text", "<init>", "()V"⟩ U ∧ nwM 18 ⟨"BreathBags$Camp", "<init>", "()V"⟩ U ∧ nwM 28 ⟨"BreathBags$Past", "<init>", "()V"⟩ U ∧ nwM 35 ⟨"BreathBags$Slots", "<init>", "()V"⟩ U ∧ nwM 42 ⟨"BreathBags$Felt", "<init>", "()V"⟩ U
theorem nwU.warm {s U : State} (hW : s.WarmedH U.vm) (h : nwU s) : nwU U := by
  obtain ⟨h1, h2, h3, h4, h5, h6, h7, h8, h9, g1, g2, g3, g4, g5⟩ := h
  exact ⟨va_Nw.warmF hW h1, va_Nw.warmF hW h2, va_Nw.warmF hW h3, va_Nw.warmF hW h4, va_Nw.warmF hW h5, va_Nw.warmF hW h6, va_Nw.warmF hW h7, va_Nw.warmF hW h8, va_Nw.warmF hW h9, va_Nw.warmM hW g1, va_Nw.warmM hW g2, va_Nw.warmM hW g3, va_Nw.warmM hW g4, va_Nw.warmM hW g5⟩
theorem nwU.same {u U : State} (hv : u.vm = U.vm) (h : nwU u) : nwU U := by
  obtain ⟨h1, h2, h3, h4, h5, h6, h7, h8, h9, g1, g2, g3, g4, g5⟩ := h
  exact ⟨va_Nw.same rfl hv h1, va_Nw.same rfl hv h2, va_Nw.same rfl hv h3, va_Nw.same rfl hv h4, va_Nw.same rfl hv h5, va_Nw.same rfl hv h6, va_Nw.same rfl hv h7, va_Nw.same rfl hv h8, va_Nw.same rfl hv h9, va_Nw.same rfl hv g1, va_Nw.same rfl hv g2, va_Nw.same rfl hv g3, va_Nw.same rfl hv g4, va_Nw.same rfl hv g5⟩
def kvX (A : Nat → Prop) (U : State) (H : Heap) : Prop := nwU U ∧ ∃ t : Nat, va_Z "BreathBags$Sums" "FACTORIALS" "[I" (.ref t) A U H ∧ va_T .int t 6 kvF A U H
theorem kvX.to {A Ac : Nat → Prop} {s U : State} {H : Heap} {locs : List Loc} (hX : kvX A s s.heap) (hS : va_S A s.heap H locs) (hF : ∀ q, Ac q → A q) (hU : U.heap = H) (hW : s.WarmedH U.vm) : kvX Ac U U.heap := by
  obtain ⟨h1, t, h2, h3⟩ := hX
  refine ⟨h1.warm hW, t, ?_, ?_⟩
  · rw [hU]
    exact ((h2.kept (fun a h n => hS.2.1 a h n)).moved hW.alike).narrow hF
  · rw [hU]
    exact ((h3.kept (fun a h n => hS.2.1 a h n)).moved hW.alike).narrow hF
def kvPre (D : va_G) (cI cZ : ClassId) (sz : Nat) (w : va_W) (U : State) : Prop := U.heap.size = sz ∧ va_P D vwCl w U.heap ∧ va_K D vwCl (tys2 cI cZ) U ∧ va_D (fun _ => True) w ∧ kvX (va_A w sz) U U.heap
theorem kvPre.blind {D : va_G} {cI cZ : ClassId} {sz : Nat} {w : va_W} {av : List Value} : FrameBlind (va_Pc av (kvPre D cI cZ sz w)) := by
  intro a U g mk q
  obtain ⟨q0, q1, qP, qK, qD, qN, t, qZ, qT⟩ := q
  exact ⟨q0, q1, qP, va_K.moved (u := U) (U := U.calling g mk a) (Vm.Alike.refl U.vm) qK, qD, nwU.same (u := U) (U := U.calling g mk a) rfl qN, t, va_Z.moved (u := U) (U := U.calling g mk a) (Vm.Alike.refl U.vm) qZ, va_T.moved (u := U) (U := U.calling g mk a) (Vm.Alike.refl U.vm) qT⟩
def kvB {S : Type} (D : va_G) (A : Nat → Prop) (w1 : S → va_W) (u : S) (t : State) : Prop := va_P D vwCl (w1 u) t.heap ∧ va_D A (w1 u)
def vb (r : Int32) : Prop := r = 0 ∨ r = 1
theorem vb.nar {r : Int32} (h : vb r) : narrow .boolean (.int r) = .int r := by
  rcases h with rfl | rfl <;> decide
theorem vb0 : vb 0 := Or.inl rfl
theorem vb1 : vb 1 := Or.inr rfl
theorem vp_k {i : Int32} {n : Nat} (h : (!(decide (i < 0) || decide (n ≤ i.toNatClampNeg))) = true) : vp_in i n := by
  simp only [Bool.not_eq_true', Bool.or_eq_false_iff, decide_eq_false_iff_not] at h
  exact fun q => q.elim h.1 h.2
theorem kv_fm {α β : Type} {f : α → Option β} : ∀ {is : List α} {w : List β}, is.map f = w.map some → is.filterMap f = w
  | [], [], _ => rfl
  | [], _ :: _, h => by cases h
  | _ :: _, [], h => by cases h
  | i :: is, x :: w, h => by
    rw [List.map_cons, List.map_cons, List.cons.injEq] at h
    rw [List.filterMap_cons_some h.1, kv_fm h.2]
section KV
variable {l : Launch} {y : MethodName} {ws ws' : List Cond} {rm : Room} {cc : ByteArray} {maxL : Nat} {D : va_G} {cI cZ : ClassId} {w : va_W} {sz : Nat} {av : List Value} {S : Type} {w1 : S → va_W} {own : String}
set_option maxHeartbeats 1000000 in
theorem kv_metI {post : Int32 → S → Prop} (hy : plainName y.cls = true) (hw : ws = Cond.code y cc maxL (some .int) :: ws') (ho : y.cls = own) (hlen : (lg_sl av).length ≤ maxL)
    (body : ∀ (p : Program) (e : Env) (s : State) (m : MethodId) (below : List Frame) (meth : Method) (c : Code) (A : Nat → Prop) (Q : State → Prop), p.tables.exec = Jvm.exec → c.code = cc → c.maxLocals = maxL → s.vm.findClass own = some m.cls → (∀ wd ∈ ws, wd.before av.toArray s = true) → va_K D vwCl (tys2 cI cZ) s → kvX A s s.heap → (∀ q, s.heap.size ≤ q → A q) → va_P D vwCl w s.heap → va_D A w → s.heap.size = sz →
      (∀ (r : Int32) (u : S) (H : Heap) (locs : List Loc) (pc : Nat) (ls : Array Slot), post r u → va_P D vwCl (w1 u) H → va_D A (w1 u) → va_S A s.heap H locs → decode cc pc = .ok (.ireturn, 1) → W p l e rm s m av.toArray below meth c H locs 0 0 Q (F0 m pc ls [.int r])) →
      ∀ ls : Array Slot, lv_has ls maxL (lv_args 0 av) → W p l e rm s m av.toArray below meth c s.heap [] 0 0 Q (F0 m 0 ls [])) :
    Met l y ws rm (va_Pc av (kvPre D cI cZ sz w)) (va_Qi post (kvB D (va_A w sz) w1) (va_A w sz)) 0 0 (va_A w sz) := by
  refine Met.ofW (cc := cc) (maxL := maxL) (ret := some .int) hy hw ?_
  intro p e s m args below meth c s₁ B hml hv
  obtain ⟨rfl, hsz, hP, hK, hD0, hX⟩ := hv
  subst hsz
  have hlocks := B.notSynchronized
  rw [lg_entry_eq]
  refine body p e s m below meth c (va_A w s.heap.size) _ B.exec B.bytes hml (by rw [← ho]; exact findClass_of_methodNamed B.named) (atoms_spec (ws := ws) B.pre) hK hX (fun q h => Or.inr h) hP hD0.self rfl ?_ _ (lv_entry av hlen)
  intro r u H locs pc ls hp hP1 hD1 hS hd
  exact W.iret (v := r) B.exec B.bytes B.returns (fun t ht hW => ⟨⟨r, u, rfl, hp, by rw [ht]; exact hP1, hD1⟩, hS.F ht⟩) hS.2.2 hd
set_option maxHeartbeats 1000000 in
theorem kv_metZ {post : Int32 → S → Prop} (hy : plainName y.cls = true) (hw : ws = Cond.code y cc maxL (some .boolean) :: ws') (ho : y.cls = own) (hlen : (lg_sl av).length ≤ maxL)
    (body : ∀ (p : Program) (e : Env) (s : State) (m : MethodId) (below : List Frame) (meth : Method) (c : Code) (A : Nat → Prop) (Q : State → Prop), p.tables.exec = Jvm.exec → c.code = cc → c.maxLocals = maxL → s.vm.findClass own = some m.cls → (∀ wd ∈ ws, wd.before av.toArray s = true) → va_K D vwCl (tys2 cI cZ) s → kvX A s s.heap → (∀ q, s.heap.size ≤ q → A q) → va_P D vwCl w s.heap → va_D A w → s.heap.size = sz →
      (∀ (r : Int32) (u : S) (H : Heap) (locs : List Loc) (pc : Nat) (ls : Array Slot), vb r → post r u → va_P D vwCl (w1 u) H → va_D A (w1 u) → va_S A s.heap H locs → decode cc pc = .ok (.ireturn, 1) → W p l e rm s m av.toArray below meth c H locs 0 0 Q (F0 m pc ls [.int r])) →
      ∀ ls : Array Slot, lv_has ls maxL (lv_args 0 av) → W p l e rm s m av.toArray below meth c s.heap [] 0 0 Q (F0 m 0 ls [])) :
    Met l y ws rm (va_Pc av (kvPre D cI cZ sz w)) (va_Qi (fun r u => vb r ∧ post r u) (kvB D (va_A w sz) w1) (va_A w sz)) 0 0 (va_A w sz) := by
  refine Met.ofW (cc := cc) (maxL := maxL) (ret := some .boolean) hy hw ?_
  intro p e s m args below meth c s₁ B hml hv
  obtain ⟨rfl, hsz, hP, hK, hD0, hX⟩ := hv
  subst hsz
  have hlocks := B.notSynchronized
  rw [lg_entry_eq]
  refine body p e s m below meth c (va_A w s.heap.size) _ B.exec B.bytes hml (by rw [← ho]; exact findClass_of_methodNamed B.named) (atoms_spec (ws := ws) B.pre) hK hX (fun q h => Or.inr h) hP hD0.self rfl ?_ _ (lv_entry av hlen)
  intro r u H locs pc ls hv hp hP1 hD1 hS hd
  exact W.zret (v := r) B.exec B.bytes B.returns hv.nar (fun t ht hW => ⟨⟨r, u, rfl, ⟨hv, hp⟩, by rw [ht]; exact hP1, hD1⟩, hS.F ht⟩) hS.2.2 hd
set_option maxHeartbeats 1000000 in
theorem kv_metL {post : Int64 → S → Prop} (hy : plainName y.cls = true) (hw : ws = Cond.code y cc maxL (some .long) :: ws') (ho : y.cls = own) (hlen : (lg_sl av).length ≤ maxL)
    (body : ∀ (p : Program) (e : Env) (s : State) (m : MethodId) (below : List Frame) (meth : Method) (c : Code) (A : Nat → Prop) (Q : State → Prop), p.tables.exec = Jvm.exec → c.code = cc → c.maxLocals = maxL → s.vm.findClass own = some m.cls → (∀ wd ∈ ws, wd.before av.toArray s = true) → va_K D vwCl (tys2 cI cZ) s → kvX A s s.heap → (∀ q, s.heap.size ≤ q → A q) → va_P D vwCl w s.heap → va_D A w → s.heap.size = sz →
      (∀ (r : Int64) (u : S) (H : Heap) (locs : List Loc) (pc : Nat) (ls : Array Slot), post r u → va_P D vwCl (w1 u) H → va_D A (w1 u) → va_S A s.heap H locs → decode cc pc = .ok (.lreturn, 1) → W p l e rm s m av.toArray below meth c H locs 0 0 Q (F0 m pc ls [.long r])) →
      ∀ ls : Array Slot, lv_has ls maxL (lv_args 0 av) → W p l e rm s m av.toArray below meth c s.heap [] 0 0 Q (F0 m 0 ls [])) :
    Met l y ws rm (va_Pc av (kvPre D cI cZ sz w)) (va_Ql post (kvB D (va_A w sz) w1) (va_A w sz)) 0 0 (va_A w sz) := by
  refine Met.ofW (cc := cc) (maxL := maxL) (ret := some .long) hy hw ?_
  intro p e s m args below meth c s₁ B hml hv
  obtain ⟨rfl, hsz, hP, hK, hD0, hX⟩ := hv
  subst hsz
  have hlocks := B.notSynchronized
  rw [lg_entry_eq]
  refine body p e s m below meth c (va_A w s.heap.size) _ B.exec B.bytes hml (by rw [← ho]; exact findClass_of_methodNamed B.named) (atoms_spec (ws := ws) B.pre) hK hX (fun q h => Or.inr h) hP hD0.self rfl ?_ _ (lv_entry av hlen)
  intro r u H locs pc ls hp hP1 hD1 hS hd
  exact W.lret (v := r) B.exec B.bytes B.returns (fun t ht hW => ⟨⟨r, u, rfl, hp, by rw [ht]; exact hP1, hD1⟩, hS.F ht⟩) hS.2.2 hd
set_option maxHeartbeats 1000000 in
theorem kv_metV {post : S → Prop} (hy : plainName y.cls = true) (hw : ws = Cond.code y cc maxL none :: ws') (ho : y.cls = own) (hlen : (lg_sl av).length ≤ maxL)
    (body : ∀ (p : Program) (e : Env) (s : State) (m : MethodId) (below : List Frame) (meth : Method) (c : Code) (A : Nat → Prop) (Q : State → Prop), p.tables.exec = Jvm.exec → c.code = cc → c.maxLocals = maxL → s.vm.findClass own = some m.cls → (∀ wd ∈ ws, wd.before av.toArray s = true) → va_K D vwCl (tys2 cI cZ) s → kvX A s s.heap → (∀ q, s.heap.size ≤ q → A q) → va_P D vwCl w s.heap → va_D A w → s.heap.size = sz →
      (∀ (u : S) (H : Heap) (locs : List Loc) (pc : Nat) (ls : Array Slot), post u → va_P D vwCl (w1 u) H → va_D A (w1 u) → va_S A s.heap H locs → decode cc pc = .ok (.return_, 1) → W p l e rm s m av.toArray below meth c H locs 0 0 Q (F0 m pc ls [])) →
      ∀ ls : Array Slot, lv_has ls maxL (lv_args 0 av) → W p l e rm s m av.toArray below meth c s.heap [] 0 0 Q (F0 m 0 ls [])) :
    Met l y ws rm (va_Pc av (kvPre D cI cZ sz w)) (va_Qv post (kvB D (va_A w sz) w1) (va_A w sz)) 0 0 (va_A w sz) := by
  refine Met.ofW (cc := cc) (maxL := maxL) (ret := none) hy hw ?_
  intro p e s m args below meth c s₁ B hml hv
  obtain ⟨rfl, hsz, hP, hK, hD0, hX⟩ := hv
  subst hsz
  have hlocks := B.notSynchronized
  rw [lg_entry_eq]
  refine body p e s m below meth c (va_A w s.heap.size) _ B.exec B.bytes hml (by rw [← ho]; exact findClass_of_methodNamed B.named) (atoms_spec (ws := ws) B.pre) hK hX (fun q h => Or.inr h) hP hD0.self rfl ?_ _ (lv_entry av hlen)
  intro u H locs pc ls hp hP1 hD1 hS hd
  exact W.vret B.exec B.bytes B.returns (fun t ht hW => ⟨⟨u, rfl, hp, by rw [ht]; exact hP1, hD1⟩, hS.F ht⟩) hS.2.2 hd
end KV
section KC
variable {p : Program} {l : Launch} {e : Env} {R : Room} {s : State} {m : MethodId} {args : Array Value} {below : List Frame} {meth : Method} {c : Code} {H : Heap} {locs : List Loc} {cells slots : Nat} {Q : State → Prop}
variable {y : MethodName} {bytes cc : ByteArray} {maxL nL n index pc : Nat} {ret : Option FieldType} {wsd : List Cond} {rm : Room} {Ts : List Cond} {own C : String} {b : Addr} {As rest st0 : List Value} {ls : Array Slot}
variable {D : va_G} {cI cZ : ClassId} {A : Nat → Prop} {w wc wr : va_W} {S : Type} {w1 wn : S → va_W}
/-- behind a call: the whole world again, in its order -/
theorem kv_after {u : S} {t : State} {H1 : Heap} (hP : va_P D vwCl w H) (hD : va_D A w) (isC isR is : List Nat) (hC : isC.map (fun i => w[i]?) = wc.map some) (hR : isR.map (fun i => w[i]?) = wr.map some) (hn : va_nd isR = true) (hdis : ∀ i ∈ isR, i ∉ isC) (hI : ∀ u : S, is.map (fun i => (wr ++ w1 u)[i]?) = (wn u).map some) (hI2 : va_nd is = true)
    (hk : ∀ q : Nat, q < H.size → ¬ va_A wc H.size q → H1[q]? = H[q]?) (hF : ∀ q, va_A wc H.size q → A q) (ht : t.heap = H1) (hB : kvB D (va_A wc H.size) w1 u t) : va_P D vwCl (wn u) H1 ∧ va_D A (wn u) := by
  obtain ⟨hP1, hD1⟩ := hB
  rw [ht] at hP1
  obtain ⟨j1, j2⟩ := va_join (wr := wr) (w1 := w1 u) hP hD isC isR hC hR hn hdis hk hF hP1 hD1
  exact ⟨j1.sub is (kv_fm (hI u)), j2.sub is hI2 (hI u)⟩
theorem kv_pre (hK : va_K D vwCl (tys2 cI cZ) s) (hX : kvX A s s.heap) (hP : va_P D vwCl w H) (hD : va_D A w) (hS : va_S A s.heap H locs) (isC : List Nat) (hC : isC.map (fun i => w[i]?) = wc.map some) (hn : va_nd isC = true) (hF : ∀ q, va_A wc H.size q → A q) (av : List Value) : ∀ U : State, U.heap = H → s.WarmedH U.vm → va_Pc av (kvPre D cI cZ H.size wc) av.toArray U := by
  intro U hU hW
  refine ⟨rfl, by rw [hU], ?_, va_K.moved hW.alike hK, (hD.sub isC hn hC).weaken (fun _ _ _ _ => trivial), hX.to hS hF hU hW⟩
  rw [hU]
  exact hP.sub isC (kv_fm hC)
set_option maxHeartbeats 1000000 in
theorem kv_callVi {post : Int32 → S → Prop} (S0 : CallFix p m c cc nL s args Ts own) (hK : va_K D vwCl (tys2 cI cZ) s) (hX : kvX A s s.heap) (hA : ∀ q, s.heap.size ≤ q → A q) (hP : va_P D vwCl w H) (hD : va_D A w) (hS : va_S A s.heap H locs)
    (hM : Met l y wsd rm (va_Pc (.ref b :: As) (kvPre D cI cZ H.size wc)) (va_Qi post (kvB D (va_A wc H.size) w1) (va_A wc H.size)) 0 0 (va_A wc H.size)) (cw : CallW R s args own C index y bytes maxL ret wsd rm 0 0 n)
    (ci q0 : Nat) {q : vw_C} {fs : List Value} (hc : vwCl[ci]? = some q) (hqC : q.1 = C) (he : w[q0]? = some (b, .inr (ci, fs)))
    (isC isR is : List Nat) (hC : isC.map (fun i => w[i]?) = wc.map some) (hnC : va_nd isC = true) (hR : isR.map (fun i => w[i]?) = wr.map some) (hn : va_nd isR = true) (hdis : ∀ i ∈ isR, i ∉ isC) (hI : ∀ u : S, is.map (fun i => (wr ++ w1 u)[i]?) = (wn u).map some) (hI2 : va_nd is = true)
    (hnn : As.length = n) (hsize : ls.size = nL) (hstack : st0 = As.reverse ++ .ref b :: rest) (hroom : (rest.map fun v => v.category).sum ≤ 8) (hf : cells ≤ R.cells ∧ slots ≤ R.slots) (hdg : decode cc pc = .ok (.invokevirtual index, 3))
    (kk : ∀ (r : Int32) (u : S) (H1 : Heap) (locs1 : List Loc), post r u → va_P D vwCl (wn u) H1 → va_D A (wn u) → va_S A s.heap H1 locs1 → W p l e R s m args below meth c H1 locs1 cells slots Q (F0 m (pc + 3) ls (.int r :: rest))) : W p l e R s m args below meth c H locs cells slots Q (F0 m pc ls st0) := by
  have hF := va_free (wc := wc) hD hS hA isC hC
  refine va_calli (va_runV (As := As) (rest := rest) S0 hM cw ⟨kvPre.blind, by rw [← hqC]; exact va_recv hK hP hc he, kv_pre hK hX hP hD hS isC hC hnC hF _⟩ rfl hnn hsize hstack (lv_room hroom) hdg hf) hS (fun q _ h => hF q h) hF (fun r u t H1 locs1 ht hvm hw hB hz1 hk1 hS1 => ?_)
  obtain ⟨k1, k2⟩ := kv_after (wn := wn) hP hD isC isR is hC hR hn hdis hI hI2 hk1 hF ht hB
  exact kk r u H1 locs1 hw k1 k2 hS1
set_option maxHeartbeats 1000000 in
theorem kv_callVl {post : Int64 → S → Prop} (S0 : CallFix p m c cc nL s args Ts own) (hK : va_K D vwCl (tys2 cI cZ) s) (hX : kvX A s s.heap) (hA : ∀ q, s.heap.size ≤ q → A q) (hP : va_P D vwCl w H) (hD : va_D A w) (hS : va_S A s.heap H locs)
    (hM : Met l y wsd rm (va_Pc (.ref b :: As) (kvPre D cI cZ H.size wc)) (va_Ql post (kvB D (va_A wc H.size) w1) (va_A wc H.size)) 0 0 (va_A wc H.size)) (cw : CallW R s args own C index y bytes maxL ret wsd rm 0 0 n)
    (ci q0 : Nat) {q : vw_C} {fs : List Value} (hc : vwCl[ci]? = some q) (hqC : q.1 = C) (he : w[q0]? = some (b, .inr (ci, fs)))
    (isC isR is : List Nat) (hC : isC.map (fun i => w[i]?) = wc.map some) (hnC : va_nd isC = true) (hR : isR.map (fun i => w[i]?) = wr.map some) (hn : va_nd isR = true) (hdis : ∀ i ∈ isR, i ∉ isC) (hI : ∀ u : S, is.map (fun i => (wr ++ w1 u)[i]?) = (wn u).map some) (hI2 : va_nd is = true)
    (hnn : As.length = n) (hsize : ls.size = nL) (hstack : st0 = As.reverse ++ .ref b :: rest) (hroom : (rest.map fun v => v.category).sum ≤ 8) (hf : cells ≤ R.cells ∧ slots ≤ R.slots) (hdg : decode cc pc = .ok (.invokevirtual index, 3))
    (kk : ∀ (r : Int64) (u : S) (H1 : Heap) (locs1 : List Loc), post r u → va_P D vwCl (wn u) H1 → va_D A (wn u) → va_S A s.heap H1 locs1 → W p l e R s m args below meth c H1 locs1 cells slots Q (F0 m (pc + 3) ls (.long r :: rest))) : W p l e R s m args below meth c H locs cells slots Q (F0 m pc ls st0) := by
  have hF := va_free (wc := wc) hD hS hA isC hC
  refine va_calll (va_runV (As := As) (rest := rest) S0 hM cw ⟨kvPre.blind, by rw [← hqC]; exact va_recv hK hP hc he, kv_pre hK hX hP hD hS isC hC hnC hF _⟩ rfl hnn hsize hstack (lv_room hroom) hdg hf) hS (fun q _ h => hF q h) hF (fun r u t H1 locs1 ht hvm hw hB hz1 hk1 hS1 => ?_)
  obtain ⟨k1, k2⟩ := kv_after (wn := wn) hP hD isC isR is hC hR hn hdis hI hI2 hk1 hF ht hB
  exact kk r u H1 locs1 hw k1 k2 hS1
set_option maxHeartbeats 1000000 in
theorem kv_callVv {post : S → Prop} (S0 : CallFix p m c cc nL s args Ts own) (hK : va_K D vwCl (tys2 cI cZ) s) (hX : kvX A s s.heap) (hA : ∀ q, s.heap.size ≤ q → A q) (hP : va_P D vwCl w H) (hD : va_D A w) (hS : va_S A s.heap H locs)
    (hM : Met l y wsd rm (va_Pc (.ref b :: As) (kvPre D cI cZ H.size wc)) (va_Qv post (kvB D (va_A wc H.size) w1) (va_A wc H.size)) 0 0 (va_A wc H.size)) (cw : CallW R s args own C index y bytes maxL ret wsd rm 0 0 n)
    (ci q0 : Nat) {q : vw_C} {fs : List Value} (hc : vwCl[ci]? = some q) (hqC : q.1 = C) (he : w[q0]? = some (b, .inr (ci, fs)))
    (isC isR is : List Nat) (hC : isC.map (fun i => w[i]?) = wc.map some) (hnC : va_nd isC = true) (hR : isR.map (fun i => w[i]?) = wr.map some) (hn : va_nd isR = true) (hdis : ∀ i ∈ isR, i ∉ isC) (hI : ∀ u : S, is.map (fun i => (wr ++ w1 u)[i]?) = (wn u).map some) (hI2 : va_nd is = true)
    (hnn : As.length = n) (hsize : ls.size = nL) (hstack : st0 = As.reverse ++ .ref b :: rest) (hroom : (rest.map fun v => v.category).sum ≤ 8) (hf : cells ≤ R.cells ∧ slots ≤ R.slots) (hdg : decode cc pc = .ok (.invokevirtual index, 3))
    (kk : ∀ (u : S) (H1 : Heap) (locs1 : List Loc), post u → va_P D vwCl (wn u) H1 → va_D A (wn u) → va_S A s.heap H1 locs1 → W p l e R s m args below meth c H1 locs1 cells slots Q (F0 m (pc + 3) ls rest)) : W p l e R s m args below meth c H locs cells slots Q (F0 m pc ls st0) := by
  have hF := va_free (wc := wc) hD hS hA isC hC
  refine va_callv (va_runV (As := As) (rest := rest) S0 hM cw ⟨kvPre.blind, by rw [← hqC]; exact va_recv hK hP hc he, kv_pre hK hX hP hD hS isC hC hnC hF _⟩ rfl hnn hsize hstack (lv_room hroom) hdg hf) hS (fun q _ h => hF q h) hF (fun u t H1 locs1 ht hvm hw hB hz1 hk1 hS1 => ?_)
  obtain ⟨k1, k2⟩ := kv_after (wn := wn) hP hD isC isR is hC hR hn hdis hI hI2 hk1 hF ht hB
  exact kk u H1 locs1 hw k1 k2 hS1
set_option maxHeartbeats 1000000 in
theorem kv_callSi {post : Int32 → S → Prop} (S0 : CallFix p m c cc nL s args Ts own) (hK : va_K D vwCl (tys2 cI cZ) s) (hX : kvX A s s.heap) (hA : ∀ q, s.heap.size ≤ q → A q) (hP : va_P D vwCl w H) (hD : va_D A w) (hS : va_S A s.heap H locs)
    (hM : Met l y wsd rm (va_Pc As (kvPre D cI cZ H.size wc)) (va_Qi post (kvB D (va_A wc H.size) w1) (va_A wc H.size)) 0 0 (va_A wc H.size)) (cw : CallB R s args own index y bytes maxL ret wsd rm 0 0 n ∧ (Cond.static y).before args s = true)
    (isC isR is : List Nat) (hC : isC.map (fun i => w[i]?) = wc.map some) (hnC : va_nd isC = true) (hR : isR.map (fun i => w[i]?) = wr.map some) (hn : va_nd isR = true) (hdis : ∀ i ∈ isR, i ∉ isC) (hI : ∀ u : S, is.map (fun i => (wr ++ w1 u)[i]?) = (wn u).map some) (hI2 : va_nd is = true)
    (hnn : As.length = n) (hsize : ls.size = nL) (hstack : st0 = As.reverse ++ rest) (hroom : (rest.map fun v => v.category).sum ≤ 8) (hf : cells ≤ R.cells ∧ slots ≤ R.slots) (hdg : decode cc pc = .ok (.invokestatic index, 3))
    (kk : ∀ (r : Int32) (u : S) (H1 : Heap) (locs1 : List Loc), post r u → va_P D vwCl (wn u) H1 → va_D A (wn u) → va_S A s.heap H1 locs1 → W p l e R s m args below meth c H1 locs1 cells slots Q (F0 m (pc + 3) ls (.int r :: rest))) : W p l e R s m args below meth c H locs cells slots Q (F0 m pc ls st0) := by
  have hF := va_free (wc := wc) hD hS hA isC hC
  refine va_calli (va_runS (As := As) (rest := rest) S0 hM cw ⟨kvPre.blind, kv_pre hK hX hP hD hS isC hC hnC hF _⟩ rfl hnn hsize hstack (lv_room hroom) hdg hf) hS (fun q _ h => hF q h) hF (fun r u t H1 locs1 ht hvm hw hB hz1 hk1 hS1 => ?_)
  obtain ⟨k1, k2⟩ := kv_after (wn := wn) hP hD isC isR is hC hR hn hdis hI hI2 hk1 hF ht hB
  exact kk r u H1 locs1 hw k1 k2 hS1
set_option maxHeartbeats 1000000 in
theorem kv_callSl {post : Int64 → S → Prop} (S0 : CallFix p m c cc nL s args Ts own) (hK : va_K D vwCl (tys2 cI cZ) s) (hX : kvX A s s.heap) (hA : ∀ q, s.heap.size ≤ q → A q) (hP : va_P D vwCl w H) (hD : va_D A w) (hS : va_S A s.heap H locs)
    (hM : Met l y wsd rm (va_Pc As (kvPre D cI cZ H.size wc)) (va_Ql post (kvB D (va_A wc H.size) w1) (va_A wc H.size)) 0 0 (va_A wc H.size)) (cw : CallB R s args own index y bytes maxL ret wsd rm 0 0 n ∧ (Cond.static y).before args s = true)
    (isC isR is : List Nat) (hC : isC.map (fun i => w[i]?) = wc.map some) (hnC : va_nd isC = true) (hR : isR.map (fun i => w[i]?) = wr.map some) (hn : va_nd isR = true) (hdis : ∀ i ∈ isR, i ∉ isC) (hI : ∀ u : S, is.map (fun i => (wr ++ w1 u)[i]?) = (wn u).map some) (hI2 : va_nd is = true)
    (hnn : As.length = n) (hsize : ls.size = nL) (hstack : st0 = As.reverse ++ rest) (hroom : (rest.map fun v => v.category).sum ≤ 8) (hf : cells ≤ R.cells ∧ slots ≤ R.slots) (hdg : decode cc pc = .ok (.invokestatic index, 3))
    (kk : ∀ (r : Int64) (u : S) (H1 : Heap) (locs1 : List Loc), post r u → va_P D vwCl (wn u) H1 → va_D A (wn u) → va_S A s.heap H1 locs1 → W p l e R s m args below meth c H1 locs1 cells slots Q (F0 m (pc + 3) ls (.long r :: rest))) : W p l e R s m args below meth c H locs cells slots Q (F0 m pc ls st0) := by
  have hF := va_free (wc := wc) hD hS hA isC hC
  refine va_calll (va_runS (As := As) (rest := rest) S0 hM cw ⟨kvPre.blind, kv_pre hK hX hP hD hS isC hC hnC hF _⟩ rfl hnn hsize hstack (lv_room hroom) hdg hf) hS (fun q _ h => hF q h) hF (fun r u t H1 locs1 ht hvm hw hB hz1 hk1 hS1 => ?_)
  obtain ⟨k1, k2⟩ := kv_after (wn := wn) hP hD isC isR is hC hR hn hdis hI hI2 hk1 hF ht hB
  exact kk r u H1 locs1 hw k1 k2 hS1
set_option maxHeartbeats 1000000 in
theorem kv_callSv {post : S → Prop} (S0 : CallFix p m c cc nL s args Ts own) (hK : va_K D vwCl (tys2 cI cZ) s) (hX : kvX A s s.heap) (hA : ∀ q, s.heap.size ≤ q → A q) (hP : va_P D vwCl w H) (hD : va_D A w) (hS : va_S A s.heap H locs)
    (hM : Met l y wsd rm (va_Pc As (kvPre D cI cZ H.size wc)) (va_Qv post (kvB D (va_A wc H.size) w1) (va_A wc H.size)) 0 0 (va_A wc H.size)) (cw : CallB R s args own index y bytes maxL ret wsd rm 0 0 n ∧ (Cond.static y).before args s = true)
    (isC isR is : List Nat) (hC : isC.map (fun i => w[i]?) = wc.map some) (hnC : va_nd isC = true) (hR : isR.map (fun i => w[i]?) = wr.map some) (hn : va_nd isR = true) (hdis : ∀ i ∈ isR, i ∉ isC) (hI : ∀ u : S, is.map (fun i => (wr ++ w1 u)[i]?) = (wn u).map some) (hI2 : va_nd is = true)
    (hnn : As.length = n) (hsize : ls.size = nL) (hstack : st0 = As.reverse ++ rest) (hroom : (rest.map fun v => v.category).sum ≤ 8) (hf : cells ≤ R.cells ∧ slots ≤ R.slots) (hdg : decode cc pc = .ok (.invokestatic index, 3))
    (kk : ∀ (u : S) (H1 : Heap) (locs1 : List Loc), post u → va_P D vwCl (wn u) H1 → va_D A (wn u) → va_S A s.heap H1 locs1 → W p l e R s m args below meth c H1 locs1 cells slots Q (F0 m (pc + 3) ls rest)) : W p l e R s m args below meth c H locs cells slots Q (F0 m pc ls st0) := by
  have hF := va_free (wc := wc) hD hS hA isC hC
  refine va_callv (va_runS (As := As) (rest := rest) S0 hM cw ⟨kvPre.blind, kv_pre hK hX hP hD hS isC hC hnC hF _⟩ rfl hnn hsize hstack (lv_room hroom) hdg hf) hS (fun q _ h => hF q h) hF (fun u t H1 locs1 ht hvm hw hB hz1 hk1 hS1 => ?_)
  obtain ⟨k1, k2⟩ := kv_after (wn := wn) hP hD isC isR is hC hR hn hdis hI hI2 hk1 hF ht hB
  exact kk u H1 locs1 hw k1 k2 hS1
end KC
