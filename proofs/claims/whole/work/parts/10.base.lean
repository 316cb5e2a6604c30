/-! my own base: the state of a side as rows by number, the words of a walk (what a method needs, in order), contracts over one fixed world -/
abbrev CS : Type := Nat → Nat → Int32
def cset (s : CS) (i : Nat) (f : Nat → Int32) : CS := fun j => bif Nat.beq j i then f else s j
def rdA (f : Nat → Int32) (n : Nat) (i : Int32) (K : Int32 → Prop) : Prop := vp_in i n ∧ ∀ x : Int32, x = f i.toNatClampNeg → K x
def wrA (s : CS) (j n : Nat) (i x : Int32) (K : CS → Prop) : Prop := vp_in i n ∧ ∀ s1 : CS, s1 = cset s j (upd (s j) i.toNatClampNeg x) → K s1
def wrZ (s : CS) (j n : Nat) (i x : Int32) (K : CS → Prop) : Prop := vp_in i n ∧ ∀ s1 : CS, s1 = cset s j (upd (s j) i.toNatClampNeg (vp_nar .boolean x)) → K s1
def stF (s : CS) (j : Nat) (x : Int32) (K : CS → Prop) : Prop := ∀ s1 : CS, s1 = cset s j (fun _ => x) → K s1
def brN (c A B : Prop) : Prop := (c → A) ∧ (¬ c → B)
def nmI (v : Int32) (K : Int32 → Prop) : Prop := ∀ x : Int32, x = v → K x
def nmL (v : Int64) (K : Int64 → Prop) : Prop := ∀ x : Int64, x = v → K x
def isB (x : Int32) : Prop := x = 0 ∨ x = 1
theorem isB_nar {x : Int32} (h : isB x) : narrow .boolean (.int x) = .int x := by rcases h with h | h <;> subst h <;> rfl
theorem isB_fit {x : Int32} (h : isB x) : fits .boolean (.int x) = true := by rcases h with h | h <;> subst h <;> rfl
theorem isB_0 : isB 0 := Or.inl rfl
theorem isB_1 : isB 1 := Or.inr rfl
theorem rdA.hin {f : Nat → Int32} {n : Nat} {i : Int32} {K : Int32 → Prop} (h : rdA f n i K) : vp_in i n := h.1
theorem rdA.go {f : Nat → Int32} {n : Nat} {i : Int32} {K : Int32 → Prop} (h : rdA f n i K) (x : Int32) (hx : x = f i.toNatClampNeg) : K x := h.2 x hx
theorem wrA.hin {s : CS} {j n : Nat} {i x : Int32} {K : CS → Prop} (h : wrA s j n i x K) : vp_in i n := h.1
theorem wrA.go {s : CS} {j n : Nat} {i x : Int32} {K : CS → Prop} (h : wrA s j n i x K) (s1 : CS) (hs : s1 = cset s j (upd (s j) i.toNatClampNeg x)) : K s1 := h.2 s1 hs
theorem wrZ.hin {s : CS} {j n : Nat} {i x : Int32} {K : CS → Prop} (h : wrZ s j n i x K) : vp_in i n := h.1
theorem wrZ.go {s : CS} {j n : Nat} {i x : Int32} {K : CS → Prop} (h : wrZ s j n i x K) (s1 : CS) (hs : s1 = cset s j (upd (s j) i.toNatClampNeg (vp_nar .boolean x))) : K s1 := h.2 s1 hs
theorem stF.go {s : CS} {j : Nat} {x : Int32} {K : CS → Prop} (h : stF s j x K) (s1 : CS) (hs : s1 = cset s j (fun _ => x)) : K s1 := h s1 hs
theorem brN.t {c A B : Prop} (h : brN c A B) (hc : c) : A := h.1 hc
theorem brN.f {c A B : Prop} (h : brN c A B) (hc : ¬ c) : B := h.2 hc
theorem nmI.go {v : Int32} {K : Int32 → Prop} (h : nmI v K) (x : Int32) (hx : x = v) : K x := h x hx
theorem nmL.go {v : Int64} {K : Int64 → Prop} (h : nmL v K) (x : Int64) (hx : x = v) : K x := h x hx
/-- a contract: in any heap that holds the world of u0 the method returns an int r and a world of some u, post r u -/
def CtI (l : Launch) (y : MethodName) (ws : List Cond) (rm : Room) (G : va_G) (ty : List (ClassId × FieldType)) (wf : CS → va_W) (av : List Value) (u0 : CS) (post : Int32 → CS → Prop) : Prop :=
  ∀ sz : Nat, Met l y ws rm (va_Pc av (fun U => U.heap.size = sz ∧ va_P G vwCl (wf u0) U.heap ∧ va_K G vwCl ty U ∧ va_D (fun _ => True) (wf u0))) (va_Qi post (fun u t => va_P G vwCl (wf u) t.heap ∧ va_D (va_A (wf u0) sz) (wf u)) (va_A (wf u0) sz)) 0 0 (va_A (wf u0) sz)
def CtL (l : Launch) (y : MethodName) (ws : List Cond) (rm : Room) (G : va_G) (ty : List (ClassId × FieldType)) (wf : CS → va_W) (av : List Value) (u0 : CS) (post : Int64 → CS → Prop) : Prop :=
  ∀ sz : Nat, Met l y ws rm (va_Pc av (fun U => U.heap.size = sz ∧ va_P G vwCl (wf u0) U.heap ∧ va_K G vwCl ty U ∧ va_D (fun _ => True) (wf u0))) (va_Ql post (fun u t => va_P G vwCl (wf u) t.heap ∧ va_D (va_A (wf u0) sz) (wf u)) (va_A (wf u0) sz)) 0 0 (va_A (wf u0) sz)
def CtV (l : Launch) (y : MethodName) (ws : List Cond) (rm : Room) (G : va_G) (ty : List (ClassId × FieldType)) (wf : CS → va_W) (av : List Value) (u0 : CS) (post : CS → Prop) : Prop :=
  ∀ sz : Nat, Met l y ws rm (va_Pc av (fun U => U.heap.size = sz ∧ va_P G vwCl (wf u0) U.heap ∧ va_K G vwCl ty U ∧ va_D (fun _ => True) (wf u0))) (va_Qv post (fun u t => va_P G vwCl (wf u) t.heap ∧ va_D (va_A (wf u0) sz) (wf u)) (va_A (wf u0) sz)) 0 0 (va_A (wf u0) sz)
theorem CtI.of {l : Launch} {y : MethodName} {ws ws' : List Cond} {rm : Room} {G : va_G} {ty : List (ClassId × FieldType)} {wf : CS → va_W} {av : List Value} {u0 : CS} {post : Int32 → CS → Prop} {cc : ByteArray} {maxL : Nat} {rt : FieldType}
    (hy : plainName y.cls = true) (hw : ws = Cond.code y cc maxL (some rt) :: ws') (hn : (lg_sl av).length ≤ maxL)
    (body : ∀ (p : Program) (e : Env) (s : State) (m : MethodId) (below : List Frame) (meth : Method) (c : Code) (A : Nat → Prop) (Q : State → Prop), p.tables.exec = Jvm.exec → c.code = cc → c.maxLocals = maxL → (∀ w ∈ ws, w.before av.toArray s = true) → s.vm.findClass y.cls = some m.cls → va_K G vwCl ty s → (∀ q, s.heap.size ≤ q → A q) →
      (∀ (r : Int32) (u : CS) (pc : Nat) (H : Heap) (locs : List Loc) (ls : Array Slot), decode cc pc = .ok (.ireturn, 1) → narrow rt (.int r) = .int r → post r u → va_P G vwCl (wf u) H → va_D A (wf u) → va_S A s.heap H locs → W p l e rm s m av.toArray below meth c H locs 0 0 Q (F0 m pc ls [.int r])) →
      ∀ (ls : Array Slot), lv_has ls maxL (lv_args 0 av) → va_P G vwCl (wf u0) s.heap → va_D A (wf u0) → va_S A s.heap s.heap [] → W p l e rm s m av.toArray below meth c s.heap [] 0 0 Q (F0 m 0 ls [])) :
    CtI l y ws rm G ty wf av u0 post := by
  intro sz
  refine Met.ofW (cc := cc) (maxL := maxL) (ret := some rt) hy hw ?_
  intro p e s m args below meth c s₁ B hml hv
  obtain ⟨rfl, hsz, hP, hK, hD0⟩ := hv
  have hts := atoms_spec (ws := ws) B.pre
  have hown : s.vm.findClass y.cls = some m.cls := findClass_of_methodNamed B.named
  have hr := B.returns
  have hlocks := B.notSynchronized
  subst hsz
  have hD := hD0.self (sz := s.heap.size)
  have hl := lv_entry av hn
  rw [lg_entry_eq]
  refine body p e s m below meth c (va_A (wf u0) s.heap.size) _ B.exec B.bytes hml hts hown hK (fun q h => Or.inr h) ?_ _ hl hP hD va_S.rf
  intro r u pc H locs ls hd hnr hp hP1 hD1 hS1
  exact W.zret (v := r) B.exec B.bytes hr hnr (fun t ht hW => ⟨⟨r, u, rfl, hp, by rw [ht]; exact hP1, hD1⟩, hS1.F ht⟩) hS1.2.2 hd
theorem CtL.of {l : Launch} {y : MethodName} {ws ws' : List Cond} {rm : Room} {G : va_G} {ty : List (ClassId × FieldType)} {wf : CS → va_W} {av : List Value} {u0 : CS} {post : Int64 → CS → Prop} {cc : ByteArray} {maxL : Nat}
    (hy : plainName y.cls = true) (hw : ws = Cond.code y cc maxL (some .long) :: ws') (hn : (lg_sl av).length ≤ maxL)
    (body : ∀ (p : Program) (e : Env) (s : State) (m : MethodId) (below : List Frame) (meth : Method) (c : Code) (A : Nat → Prop) (Q : State → Prop), p.tables.exec = Jvm.exec → c.code = cc → c.maxLocals = maxL → (∀ w ∈ ws, w.before av.toArray s = true) → s.vm.findClass y.cls = some m.cls → va_K G vwCl ty s → (∀ q, s.heap.size ≤ q → A q) →
      (∀ (r : Int64) (u : CS) (pc : Nat) (H : Heap) (locs : List Loc) (ls : Array Slot), decode cc pc = .ok (.lreturn, 1) → post r u → va_P G vwCl (wf u) H → va_D A (wf u) → va_S A s.heap H locs → W p l e rm s m av.toArray below meth c H locs 0 0 Q (F0 m pc ls [.long r])) →
      ∀ (ls : Array Slot), lv_has ls maxL (lv_args 0 av) → va_P G vwCl (wf u0) s.heap → va_D A (wf u0) → va_S A s.heap s.heap [] → W p l e rm s m av.toArray below meth c s.heap [] 0 0 Q (F0 m 0 ls [])) :
    CtL l y ws rm G ty wf av u0 post := by
  intro sz
  refine Met.ofW (cc := cc) (maxL := maxL) (ret := some .long) hy hw ?_
  intro p e s m args below meth c s₁ B hml hv
  obtain ⟨rfl, hsz, hP, hK, hD0⟩ := hv
  have hts := atoms_spec (ws := ws) B.pre
  have hown : s.vm.findClass y.cls = some m.cls := findClass_of_methodNamed B.named
  have hr := B.returns
  have hlocks := B.notSynchronized
  subst hsz
  have hD := hD0.self (sz := s.heap.size)
  have hl := lv_entry av hn
  rw [lg_entry_eq]
  refine body p e s m below meth c (va_A (wf u0) s.heap.size) _ B.exec B.bytes hml hts hown hK (fun q h => Or.inr h) ?_ _ hl hP hD va_S.rf
  intro r u pc H locs ls hd hp hP1 hD1 hS1
  exact W.lret (v := r) B.exec B.bytes hr (fun t ht hW => ⟨⟨r, u, rfl, hp, by rw [ht]; exact hP1, hD1⟩, hS1.F ht⟩) hS1.2.2 hd
theorem CtV.of {l : Launch} {y : MethodName} {ws ws' : List Cond} {rm : Room} {G : va_G} {ty : List (ClassId × FieldType)} {wf : CS → va_W} {av : List Value} {u0 : CS} {post : CS → Prop} {cc : ByteArray} {maxL : Nat}
    (hy : plainName y.cls = true) (hw : ws = Cond.code y cc maxL none :: ws') (hn : (lg_sl av).length ≤ maxL)
    (body : ∀ (p : Program) (e : Env) (s : State) (m : MethodId) (below : List Frame) (meth : Method) (c : Code) (A : Nat → Prop) (Q : State → Prop), p.tables.exec = Jvm.exec → c.code = cc → c.maxLocals = maxL → (∀ w ∈ ws, w.before av.toArray s = true) → s.vm.findClass y.cls = some m.cls → va_K G vwCl ty s → (∀ q, s.heap.size ≤ q → A q) →
      (∀ (u : CS) (pc : Nat) (H : Heap) (locs : List Loc) (ls : Array Slot), decode cc pc = .ok (.return_, 1) → post u → va_P G vwCl (wf u) H → va_D A (wf u) → va_S A s.heap H locs → W p l e rm s m av.toArray below meth c H locs 0 0 Q (F0 m pc ls [])) →
      ∀ (ls : Array Slot), lv_has ls maxL (lv_args 0 av) → va_P G vwCl (wf u0) s.heap → va_D A (wf u0) → va_S A s.heap s.heap [] → W p l e rm s m av.toArray below meth c s.heap [] 0 0 Q (F0 m 0 ls [])) :
    CtV l y ws rm G ty wf av u0 post := by
  intro sz
  refine Met.ofW (cc := cc) (maxL := maxL) (ret := none) hy hw ?_
  intro p e s m args below meth c s₁ B hml hv
  obtain ⟨rfl, hsz, hP, hK, hD0⟩ := hv
  have hts := atoms_spec (ws := ws) B.pre
  have hown : s.vm.findClass y.cls = some m.cls := findClass_of_methodNamed B.named
  have hr := B.returns
  have hlocks := B.notSynchronized
  subst hsz
  have hD := hD0.self (sz := s.heap.size)
  have hl := lv_entry av hn
  rw [lg_entry_eq]
  refine body p e s m below meth c (va_A (wf u0) s.heap.size) _ B.exec B.bytes hml hts hown hK (fun q h => Or.inr h) ?_ _ hl hP hD va_S.rf
  intro u pc H locs ls hd hp hP1 hD1 hS1
  exact W.vret B.exec B.bytes hr (fun t ht hW => ⟨⟨u, rfl, hp, by rw [ht]; exact hP1, hD1⟩, hS1.F ht⟩) hS1.2.2 hd
section CallSame
variable {p : Program} {l : Launch} {e : Env} {R : Room} {s : State} {m : MethodId} {args : Array Value} {below : List Frame} {meth : Method} {c : Code} {H : Heap} {locs : List Loc} {cells slots : Nat} {Q : State → Prop}
variable {y : MethodName} {bytes cc : ByteArray} {maxL nL n index pc : Nat} {ret : Option FieldType} {ws Ts : List Cond} {rm : Room} {own C : String} {b : Addr} {As rest st : List Value} {ls : Array Slot} {A : Nat → Prop} {G : va_G} {ty : List (ClassId × FieldType)} {wf : CS → va_W} {u0 : CS}
theorem free_of {w : va_W} {H0 : Heap} (hD : va_D A w) (hS : va_S A H0 H locs) (hA : ∀ q, H0.size ≤ q → A q) : ∀ q, va_A w H.size q → A q := by
  intro q hq
  rcases hq with ⟨k, e, h⟩ | h
  · exact hD.2 k (q, e) h
  · exact hA q (Nat.le_trans hS.1 h)
theorem blind_of {av : List Value} {u0 : CS} {sz : Nat} : FrameBlind (va_Pc av (fun U => U.heap.size = sz ∧ va_P G vwCl (wf u0) U.heap ∧ va_K G vwCl ty U ∧ va_D (fun _ => True) (wf u0))) := by
  intro a U g mk q
  obtain ⟨q0, q1, qP, qK, qD⟩ := q
  exact ⟨q0, q1, qP, va_K.moved (u := U) (U := U.calling g mk a) (Vm.Alike.refl U.vm) qK, qD⟩
theorem CtI.call {post : Int32 → CS → Prop} (hM : CtI l y ws rm G ty wf (.ref b :: As) u0 post) (S : CallFix p m c cc nL s args Ts own) (cw : CallW R s args own C index y bytes maxL ret ws rm 0 0 n) (hrecv : ∃ cell : Cell, H[b]? = some cell ∧ cell.vm.isStatics = false ∧ s.vm.findClass C = some cell.cls)
    (hK : va_K G vwCl ty s) (hP : va_P G vwCl (wf u0) H) (hD : va_D A (wf u0)) (hS : va_S A s.heap H locs) (hA : ∀ q, s.heap.size ≤ q → A q) (hn : As.length = n) (hsize : ls.size = nL) (hst : st = As.reverse ++ .ref b :: rest) (hW : (rest.map fun v => v.category).sum ≤ 8) (hdg : decode cc pc = .ok (.invokevirtual index, 3)) (hf : cells ≤ R.cells ∧ slots ≤ R.slots)
    (kk : ∀ (r : Int32) (u : CS) (H1 : Heap) (locs1 : List Loc), post r u → va_P G vwCl (wf u) H1 → va_D A (wf u) → va_S A s.heap H1 locs1 → W p l e R s m args below meth c H1 locs1 cells slots Q (F0 m (pc + 3) ls (.int r :: rest))) : W p l e R s m args below meth c H locs cells slots Q (F0 m pc ls st) := by
  subst hst
  have hFc := free_of hD hS hA
  refine va_calli (va_runV (As := As) (rest := rest) S (hM H.size) cw ⟨blind_of, hrecv, fun U hU hW => ⟨rfl, by rw [hU], by rw [hU]; exact hP, va_K.moved hW.alike hK, hD.weaken (fun _ _ _ _ => trivial)⟩⟩ rfl hn hsize rfl (lv_room hW) hdg hf) hS (fun q _ h => hFc q h) hFc (fun r u t H1 locs1 ht hvm hw hB hz1 hk1 hS1 => ?_)
  obtain ⟨hP1, hD1⟩ := hB
  rw [ht] at hP1
  exact kk r u H1 locs1 hw hP1 (hD1.weaken (fun k q _ h => hFc q.1 h)) hS1
theorem CtL.call {post : Int64 → CS → Prop} (hM : CtL l y ws rm G ty wf (.ref b :: As) u0 post) (S : CallFix p m c cc nL s args Ts own) (cw : CallW R s args own C index y bytes maxL ret ws rm 0 0 n) (hrecv : ∃ cell : Cell, H[b]? = some cell ∧ cell.vm.isStatics = false ∧ s.vm.findClass C = some cell.cls)
    (hK : va_K G vwCl ty s) (hP : va_P G vwCl (wf u0) H) (hD : va_D A (wf u0)) (hS : va_S A s.heap H locs) (hA : ∀ q, s.heap.size ≤ q → A q) (hn : As.length = n) (hsize : ls.size = nL) (hst : st = As.reverse ++ .ref b :: rest) (hW : (rest.map fun v => v.category).sum ≤ 8) (hdg : decode cc pc = .ok (.invokevirtual index, 3)) (hf : cells ≤ R.cells ∧ slots ≤ R.slots)
    (kk : ∀ (r : Int64) (u : CS) (H1 : Heap) (locs1 : List Loc), post r u → va_P G vwCl (wf u) H1 → va_D A (wf u) → va_S A s.heap H1 locs1 → W p l e R s m args below meth c H1 locs1 cells slots Q (F0 m (pc + 3) ls (.long r :: rest))) : W p l e R s m args below meth c H locs cells slots Q (F0 m pc ls st) := by
  subst hst
  have hFc := free_of hD hS hA
  refine va_calll (va_runV (As := As) (rest := rest) S (hM H.size) cw ⟨blind_of, hrecv, fun U hU hW => ⟨rfl, by rw [hU], by rw [hU]; exact hP, va_K.moved hW.alike hK, hD.weaken (fun _ _ _ _ => trivial)⟩⟩ rfl hn hsize rfl (lv_room hW) hdg hf) hS (fun q _ h => hFc q h) hFc (fun r u t H1 locs1 ht hvm hw hB hz1 hk1 hS1 => ?_)
  obtain ⟨hP1, hD1⟩ := hB
  rw [ht] at hP1
  exact kk r u H1 locs1 hw hP1 (hD1.weaken (fun k q _ h => hFc q.1 h)) hS1
theorem CtV.call {post : CS → Prop} (hM : CtV l y ws rm G ty wf (.ref b :: As) u0 post) (S : CallFix p m c cc nL s args Ts own) (cw : CallW R s args own C index y bytes maxL ret ws rm 0 0 n) (hrecv : ∃ cell : Cell, H[b]? = some cell ∧ cell.vm.isStatics = false ∧ s.vm.findClass C = some cell.cls)
    (hK : va_K G vwCl ty s) (hP : va_P G vwCl (wf u0) H) (hD : va_D A (wf u0)) (hS : va_S A s.heap H locs) (hA : ∀ q, s.heap.size ≤ q → A q) (hn : As.length = n) (hsize : ls.size = nL) (hst : st = As.reverse ++ .ref b :: rest) (hW : (rest.map fun v => v.category).sum ≤ 8) (hdg : decode cc pc = .ok (.invokevirtual index, 3)) (hf : cells ≤ R.cells ∧ slots ≤ R.slots)
    (kk : ∀ (u : CS) (H1 : Heap) (locs1 : List Loc), post u → va_P G vwCl (wf u) H1 → va_D A (wf u) → va_S A s.heap H1 locs1 → W p l e R s m args below meth c H1 locs1 cells slots Q (F0 m (pc + 3) ls rest)) : W p l e R s m args below meth c H locs cells slots Q (F0 m pc ls st) := by
  subst hst
  have hFc := free_of hD hS hA
  refine va_callv (va_runV (As := As) (rest := rest) S (hM H.size) cw ⟨blind_of, hrecv, fun U hU hW => ⟨rfl, by rw [hU], by rw [hU]; exact hP, va_K.moved hW.alike hK, hD.weaken (fun _ _ _ _ => trivial)⟩⟩ rfl hn hsize rfl (lv_room hW) hdg hf) hS (fun q _ h => hFc q h) hFc (fun u t H1 locs1 ht hvm hw hB hz1 hk1 hS1 => ?_)
  obtain ⟨hP1, hD1⟩ := hB
  rw [ht] at hP1
  exact kk u H1 locs1 hw hP1 (hD1.weaken (fun k q _ h => hFc q.1 h)) hS1
end CallSame
/-- the class's world: 0 key 1 value 2 weight 3 left 4 right 5 count 6 used 7 taken 8 reached 9 pending 10 noted 11 length 12 live 13 roots 14 seed 15 sweeps -/
def cw (ad : Nat → Nat) (C V : Nat) (cI cZ : ClassId) (s : CS) : va_W := [
  (ad 0, .inr (2, [.ref (ad 1), .ref (ad 2), .ref (ad 3), .ref (ad 4), .int (s 14 0), .int (s 15 0)])),
  (ad 1, .inr (0, [.int (nI C), .ref (ad 5), .ref (ad 6), .ref (ad 7), .ref (ad 8), .ref (ad 9), .ref (ad 10), .int (s 6 0), .ref (ad 11), .ref (ad 12), .ref (ad 13)])),
  (ad 2, .inr (1, [.ref (ad 1), .ref (ad 14), .int (s 11 0)])),
  (ad 3, .inl (cZ, V, .inl (s 12))),
  (ad 4, .inl (cI, V, .inl (s 13))),
  (ad 5, .inl (cI, C + 1, .inl (s 0))),
  (ad 6, .inl (cI, C + 1, .inl (s 1))),
  (ad 7, .inl (cI, C + 1, .inl (s 2))),
  (ad 8, .inl (cI, C + 1, .inl (s 3))),
  (ad 9, .inl (cI, C + 1, .inl (s 4))),
  (ad 10, .inl (cI, C + 1, .inl (s 5))),
  (ad 11, .inl (cZ, C + 1, .inl (s 7))),
  (ad 12, .inl (cZ, C + 1, .inl (s 8))),
  (ad 13, .inl (cI, C + 1, .inl (s 9))),
  (ad 14, .inl (cI, C, .inl (s 10)))]
/-- the reference's world: the rows are its fields by their numbers -/
def mw (am : Nat → Nat) (cI cZ : ClassId) (s : CS) : va_W := [
  (am 0, .inr (3, [.int (s 0 0), .int (s 1 0), .int (s 2 0), .int (s 3 0), .int (s 4 0), .int (s 5 0), .ref (am 1), .ref (am 2), .ref (am 3), .ref (am 4), .ref (am 5), .ref (am 6), .ref (am 7), .ref (am 8), .int (s 14 0), .ref (am 9), .ref (am 10), .int (s 17 0), .int (s 18 0), .int (s 19 0), .int (s 20 0), .int (s 21 0), .int (s 22 0), .ref (am 11)])),
  (am 1, .inl (cI, 160, .inl (s 6))),
  (am 2, .inl (cI, 160, .inl (s 7))),
  (am 3, .inl (cI, 160, .inl (s 8))),
  (am 4, .inl (cI, 160, .inl (s 9))),
  (am 5, .inl (cI, 160, .inl (s 10))),
  (am 6, .inl (cZ, 160, .inl (s 11))),
  (am 7, .inl (cZ, 160, .inl (s 12))),
  (am 8, .inl (cI, 160, .inl (s 13))),
  (am 9, .inl (cZ, 8, .inl (s 15))),
  (am 10, .inl (cI, 8, .inl (s 16))),
  (am 11, .inl (cI, 64, .inl (s 23)))]
abbrev ty2 (cI cZ : ClassId) : List (ClassId × FieldType) := [(cI, .int), (cZ, .boolean)]
