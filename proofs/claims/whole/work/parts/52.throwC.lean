/-! methods of the class that may throw: contracts with a second end -/
section ThrowC
abbrev sNSE : String := "java/util/NoSuchElementException"
abbrev sIOB : String := "java/lang/IndexOutOfBoundsException"
abbrev sUp : List String := ["java/lang/RuntimeException", "java/lang/Exception"]
/-- words of a throw that a callee's list doesn't bear -/
def bxW : List Cond := [.declares (Bundle.init0 "java/lang/RuntimeException"), .declares (Bundle.init0 "java/lang/Exception"), .declares (Bundle.init0 Bundle.tN), .castable sNSE sNSE, .castable sIOB sIOB]
theorem bxW_N : ∀ w ∈ (vx_at0 RX2 105 sNSE sUp).filter (fun w => !goodWord w), w ∈ bxW := by decide +kernel
theorem bxW_I : ∀ w ∈ (vx_at0 RX2 114 sIOB sUp).filter (fun w => !goodWord w), w ∈ bxW := by decide +kernel
theorem otN : ∀ w ∈ Cond.classLink RX2 103 sNSE :: Cond.initialized sNSE :: vx_at0 RX2 105 sNSE sUp, vx_ot w = true := by decide +kernel
theorem otI : ∀ w ∈ Cond.classLink RX2 112 sIOB :: Cond.initialized sIOB :: vx_at0 RX2 114 sIOB sUp, vx_ot w = true := by decide +kernel
def XW (U : State) : Prop := va_Nw (.declares (Bundle.init0 "java/lang/RuntimeException")) U ∧ va_Nw (.declares (Bundle.init0 "java/lang/Exception")) U ∧ va_Nw (.declares (Bundle.init0 Bundle.tN)) U ∧ va_Nw (.castable sNSE sNSE) U ∧ va_Nw (.castable sIOB sIOB) U ∧ va_Nc sIOB sNSE U
theorem nw_decl {x : MethodName} {u U : State} (hvm : u.vm.Alike U.vm) (h : va_Nw (.declares x) u) : va_Nw (.declares x) U := va_tabs rfl (rfl : (u.setVm U.vm).vm = U.vm) (by rw [Cond.declares_setVm hvm]; exact h)
theorem nw_cast {C T : String} {u U : State} (hvm : u.vm.Alike U.vm) (h : va_Nw (.castable C T) u) : va_Nw (.castable C T) U := va_tabs rfl (rfl : (u.setVm U.vm).vm = U.vm) (by rw [Cond.castable_setVm hvm]; exact h)
theorem XW.moved {u U : State} (hvm : u.vm.Alike U.vm) (h : XW u) : XW U := ⟨nw_decl hvm h.1, nw_decl hvm h.2.1, nw_decl hvm h.2.2.1, nw_cast hvm h.2.2.2.1, nw_cast hvm h.2.2.2.2.1, h.2.2.2.2.2.moved hvm⟩
theorem XW.use {U : State} {args : Array Value} (h : XW U) : ∀ w ∈ bxW, w.before args U = true := 
  vx_c (va_Nw.use rfl h.1) (vx_c (va_Nw.use rfl h.2.1) (vx_c (va_Nw.use rfl h.2.2.1) (vx_c (va_Nw.use rfl h.2.2.2.1) (vx_c (va_Nw.use rfl h.2.2.2.2.1) vx_n))))
def XI (A : Nat → Prop) (U : State) (H : Heap) : Prop := XW U ∧ vx_Zq Bundle.tN "UNASSIGNED_STACK" Bundle.steD A U H ∧ vx_Zq Bundle.tN "SUPPRESSED_SENTINEL" Bundle.listD A U H
theorem XI.moved {A : Nat → Prop} {u U : State} {H : Heap} (hvm : u.vm.Alike U.vm) (h : XI A u H) : XI A U H := ⟨h.1.moved hvm, h.2.1.moved hvm, h.2.2.moved hvm⟩
theorem XI.kept {A : Nat → Prop} {U : State} {H H1 : Heap} (h : XI A U H) (hq : ∀ a : Nat, a < H.size → ¬ A a → H1[a]? = H[a]?) : XI A U H1 := ⟨h.1, h.2.1.kept hq, h.2.2.kept hq⟩
theorem XI.narrow {A B : Nat → Prop} {U : State} {H : Heap} (h : XI A U H) (hAB : ∀ q, B q → A q) : XI B U H := ⟨h.1, h.2.1.narrow hAB, h.2.2.narrow hAB⟩
/-- in any heap that holds the world of u0 the method returns an int r and a world of some u, post r u; or throws a thing of a class E, px E u -/
def CtX (l : Launch) (y : MethodName) (ws : List Cond) (rm : Room) (G : va_G) (ty : List (ClassId × FieldType)) (wf : CS → va_W) (av : List Value) (u0 : CS) (post : Int32 → CS → Prop) (px : String → CS → Prop) : Prop :=
  ∀ sz : Nat, vx_Met l y ws rm (va_Pc av (fun U => U.heap.size = sz ∧ va_P G vwCl (wf u0) U.heap ∧ va_K G vwCl ty U ∧ va_D (fun _ => True) (wf u0) ∧ XI (va_A (wf u0) sz) U U.heap)) (va_Qi post (fun u t => va_P G vwCl (wf u) t.heap ∧ va_D (va_A (wf u0) sz) (wf u)) (va_A (wf u0) sz))
    (vx_X (S := String × CS) (fun u => px u.1 u.2) (fun E u t => E = u.1 ∧ va_P G vwCl (wf u.2) t.heap ∧ va_D (va_A (wf u0) sz) (wf u.2)) (va_A (wf u0) sz)) 1 6 (va_A (wf u0) sz)
theorem CtX.of {l : Launch} {y : MethodName} {ws ws' : List Cond} {rm : Room} {G : va_G} {ty : List (ClassId × FieldType)} {wf : CS → va_W} {av : List Value} {u0 : CS} {post : Int32 → CS → Prop} {px : String → CS → Prop} {cc : ByteArray} {maxL : Nat}
    (hlt : l.stackTraces = false) (hcls : y.cls = RX2) (hfr : 5 < rm.frames) (hlo : 81 ≤ rm.locals) (hce : rm.cells = 1) (hse : rm.slots = 6)
    (hy : plainName y.cls = true) (hw : ws = Cond.code y cc maxL (some .int) :: ws') (hn : (lg_sl av).length ≤ maxL)
    (body : ∀ (p : Program) (e : Env) (s : State) (m : MethodId) (below : List Frame) (meth : Method) (c : Code) (A : Nat → Prop) (Q : State → Prop), p.tables.exec = Jvm.exec → c.code = cc → c.maxLocals = maxL → (∀ w ∈ ws, w.before av.toArray s = true) → s.vm.findClass y.cls = some m.cls → va_K G vwCl ty s → (∀ q, s.heap.size ≤ q → A q) →
      (∀ (r : Int32) (u : CS) (pc : Nat) (H : Heap) (locs : List Loc) (ls : Array Slot), decode cc pc = .ok (.ireturn, 1) → narrow .int (.int r) = .int r → post r u → va_P G vwCl (wf u) H → va_D A (wf u) → va_S A s.heap H locs → W p l e rm s m av.toArray below meth c H locs 0 0 Q (F0 m pc ls [.int r])) →
      (∀ (E : String) (ik ic : Nat) (u : CS) (pc : Nat) (H : Heap) (locs : List Loc) (ls : Array Slot), Bundle.fit E = true → Cond.classLink RX2 ik E ∈ ws → Cond.initialized E ∈ ws → (∀ w ∈ (vx_at0 RX2 ic E sUp).filter goodWord, w ∈ ws) → (∀ w ∈ (vx_at0 RX2 ic E sUp).filter (fun w => !goodWord w), w ∈ bxW) → (∀ w ∈ Cond.classLink RX2 ik E :: Cond.initialized E :: vx_at0 RX2 ic E sUp, vx_ot w = true) →
        decode cc pc = .ok (.new ik, 3) → decode cc (pc + 3) = .ok (.dup, 1) → decode cc (pc + 4) = .ok (.invokespecial ic, 3) → decode cc (pc + 7) = .ok (.athrow, 1) → ls.size = maxL → px E u → va_P G vwCl (wf u) H → va_D A (wf u) → va_S A s.heap H locs → W p l e rm s m av.toArray below meth c H locs 0 0 Q (F0 m pc ls [])) →
      ∀ (ls : Array Slot), lv_has ls maxL (lv_args 0 av) → va_P G vwCl (wf u0) s.heap → va_D A (wf u0) → va_S A s.heap s.heap [] → W p l e rm s m av.toArray below meth c s.heap [] 0 0 Q (F0 m 0 ls [])) :
    CtX l y ws rm G ty wf av u0 post px := by
  intro sz
  refine vx_ofW (cc := cc) (maxL := maxL) (ret := some .int) hy hw ?_
  intro p e s m args below meth c s₁ B hml htab hv
  obtain ⟨rfl, hsz, hP, hK, hD0, hXI⟩ := hv
  have hts := atoms_spec (ws := ws) B.pre
  have hown : s.vm.findClass y.cls = some m.cls := findClass_of_methodNamed B.named
  have hr := B.returns
  have hlocks := B.notSynchronized
  subst hsz
  have hD := hD0.self (sz := s.heap.size)
  have hl := lv_entry av hn
  rw [lg_entry_eq]
  refine body p e s m below meth c (va_A (wf u0) s.heap.size) _ B.exec B.bytes hml hts hown hK (fun q h => Or.inr h) ?_ ?_ _ hl hP hD va_S.rf
  · intro r u pc H locs ls hd hnr hp hP1 hD1 hS1
    refine W.widen (k := 1) (n := 6) (Nat.zero_le _) (Nat.zero_le _) ?_
    exact vx_ret (W.zret (v := r) B.exec B.bytes hr hnr (fun t ht hW => ⟨⟨r, u, rfl, hp, by rw [ht]; exact hP1, hD1⟩, hS1.F ht⟩) hS1.2.2 hd)
  · intro E ik ic u pc H locs ls hE hk hini hg hB hot d0 d3 d4 d7 hls hp hP1 hD1 hS1
    refine vx_throw0 (A := va_A (wf u0) s.heap.size) (names := sUp) (own := RX2) (cls := E) (ik := ik) (ic := ic) B.exec B.bytes hlt (by rw [← hcls]; exact hown) hE (by decide +kernel) (hts _ hk) (hts _ hini) (vx_hat (fun w hw => hts w (hg w hw)) hB hXI.1.use) hot hXI.2.1 hXI.2.2 hS1 (hls.trans hml.symm) d0 d3 d4 d7 (fun x hx => (htab x hx).elim) hfr ?_ ?_ ?_ hlocks ?_ hS1.2.2 (Nat.le_refl _) (Nat.le_refl _)
    · exact hlo
    · show 0 + 1 ≤ rm.cells
      rw [hce]; exact Nat.le_refl _
    · show 0 + 6 ≤ rm.slots
      rw [hse]; exact Nat.le_refl _
    · intro t hvm hz hk9
      refine ⟨(E, u), hp, ⟨rfl, hP1.kept (fun k q hkq => hk9 _ (vx_lt hP1 hkq)), hD1⟩, Nat.le_trans hS1.1 hz, fun q h1 h2 => ?_⟩
      rw [hk9 q (Nat.lt_of_lt_of_le h1 hS1.1)]
      exact hS1.2.1 q h1 h2
end ThrowC
def wp_X2_get (C V : Nat) (p0 : Int32) (p1 : Int32) (u : CS) (post : Int32 → CS → Prop) (px : String → CS → Prop) : Prop := wp_X2_nodeWith C V p0 p1 u (fun r2 u1 => brN (r2 = 0) (px sNSE u1) (rdA (u1 1) (C + 1) r2 (fun z4 => post z4 u1)))
def wp_X2_floor (C V : Nat) (p0 : Int32) (p1 : Int32) (u : CS) (post : Int32 → CS → Prop) (px : String → CS → Prop) : Prop := wp_X2_isLive C V p0 u (fun r2 u1 => brN (r2 = 0) (px sNSE u1) (rdA (u1 13) V p0 (fun z5 => wp_X0_floorNode C V z5 p1 u1 (fun r7 u6 => brN (r7 = 0) (px sNSE u6) (rdA (u6 0) (C + 1) r7 (fun z9 => post z9 u6))))))
def wp_X2_keyAt (C V : Nat) (p0 : Int32) (p1 : Int32) (u : CS) (post : Int32 → CS → Prop) (px : String → CS → Prop) : Prop := wp_X2_isLive C V p0 u (fun r2 u1 => brN (r2 = 0) (px sNSE u1) (rdA (u1 13) V p0 (fun z4 => wp_X0_nodeAt C V z4 p1 u1 (fun r6 u5 => brN (r6 = 0) (px sIOB u5) (rdA (u5 0) (C + 1) r6 (fun z8 => post z8 u5))))))
def wp_X2_depth (C V : Nat) (p0 : Int32) (p1 : Int32) (u : CS) (post : Int32 → CS → Prop) (px : String → CS → Prop) : Prop := wp_X2_nodeWith C V p0 p1 u (fun r2 u1 => brN (r2 = 0) (px sNSE u1) (nmI (u1 11 0) (fun z4 => post z4 u1)))
set_option maxHeartbeats 4000000 in
set_option maxRecDepth 100000 in
theorem c_X2_get (l : Launch) (G : va_G) (ad : Nat → Nat) (C V : Nat) (cI cZ : ClassId) (p0 : Int32) (p1 : Int32) (u : CS) (post : Int32 → CS → Prop) (px : String → CS → Prop) (hlt : l.stackTraces = false) (hw : wp_X2_get C V p0 p1 u post px) : CtX l yX2_get wsX2_get ({ frames := 6, cells := 1, slots := 6, locals := 81 }) G (ty2 cI cZ) (cw ad C V cI cZ) [.ref (ad 0), .int p0, .int p1] u post px := by
  refine CtX.of hlt rfl (by decide) (by decide) rfl rfl (cc := cX2_get) (maxL := 4) (by decide) rfl (Nat.le_of_ble_eq_true rfl) ?_
  intro p e s m below meth c A Q hx hb hml hts hown hK hA hret hthr ls hl hP hD hS
  have hiX0 : ∀ w ∈ u_ws RX0 TX0 11, w ∈ wsX2_get := by decide +kernel
  have hiX2 : ∀ w ∈ u_ws RX2 TX2 6, w ∈ wsX2_get := by decide +kernel
  have hown : s.vm.findClass RX2 = some m.cls := hown
  have hl : lv_has ls 4 [(0, .ref (ad 0)), (1, .int p0), (2, .int p1)] := hl
  unfold wp_X2_get at hw
  refine lv_aload_n hx hb dX2_get_0 rfl (lv_at hl 0 rfl) ?_
  refine lv_iload_n hx hb dX2_get_1 rfl (lv_at hl 1 rfl) ?_
  refine lv_iload_n hx hb dX2_get_2 rfl (lv_at hl 2 rfl) ?_
  refine CtI.call (As := [.int p0, .int p1]) (rest := []) (c_X2_nodeWith l G ad C V cI cZ p0 p1 u _ hw) ⟨hx, hb, hml, hown, hts⟩ (cwV 2 hts gX2_get_X2_nodeWith rfl rfl rfl (by decide +kernel) ⟨Nat.le_of_ble_eq_true rfl, Nat.le_of_ble_eq_true rfl⟩) (va_recv hK hP (ci := 2) (q0 := 0) rfl rfl) hK hP hD hS hA rfl hl.1 rfl (Nat.le_of_ble_eq_true rfl) dX2_get_3 ⟨Nat.zero_le _, Nat.zero_le _⟩ (fun r2 u1 H locs hw hP hD hS => ?_)
  refine lv_istore_n (lv' := [(3, .int r2), (0, .ref (ad 0)), (1, .int p0), (2, .int p1)]) hx hb dX2_get_6 rfl hl (by decide) rfl (fun ls hl => ?_)
  refine lv_iload_n hx hb dX2_get_7 rfl (lv_at hl 0 rfl) ?_
  refine lv_if_ne (tgt := 19) hx hb dX2_get_8 (by decide) (fun c3 => ?_) (fun c3 => ?_)
  · have hw := brN.f hw c3
    refine lv_aload_n hx hb dX2_get_19 rfl (lv_at hl 1 rfl) ?_
    refine va_get (D := G) (ci := 2) (v := .ref (ad 1)) (C := RX2) (T := TX2) (N := 6) hx hb hts hiX2 hown hK hP 0 rfl rfl 0 (by decide) (hts (.fieldLink RX2 14 "TreapVersions" "store" "LTreapVersions$Store;") (by decide +kernel)) (fun _ h9 => h9) rfl dX2_get_20 ?_
    refine va_get (D := G) (ci := 0) (v := .ref (ad 6)) (C := RX0) (T := TX0) (N := 11) hx hb hts hiX0 hown hK hP 1 rfl rfl 2 (by decide) (hts (.fieldLink RX2 106 "TreapVersions$Store" "value" "[I") (by decide +kernel)) (fun _ h9 => h9) rfl dX2_get_23 ?_
    refine lv_iload_n hx hb dX2_get_26 rfl (lv_at hl 0 rfl) ?_
    refine va_iald hx hb hK hP 6 0 rfl rfl (rdA.hin hw) dX2_get_27 ?_
    refine lv_topi (fun z4 ez4 => ?_)
    have hw := rdA.go hw z4 ez4
    exact hret z4 u1 28 _ _ _ dX2_get_28 rfl hw hP hD hS
  · have hw := brN.t hw c3
    exact hthr sNSE 103 105 u1 11 _ _ _ (by decide +kernel) (by decide +kernel) (by decide +kernel) (by decide +kernel) bxW_N otN dX2_get_11 dX2_get_14 dX2_get_15 dX2_get_18 hl.1 hw hP hD hS
set_option maxHeartbeats 4000000 in
set_option maxRecDepth 100000 in
theorem c_X2_floor (l : Launch) (G : va_G) (ad : Nat → Nat) (C V : Nat) (cI cZ : ClassId) (p0 : Int32) (p1 : Int32) (u : CS) (post : Int32 → CS → Prop) (px : String → CS → Prop) (hlt : l.stackTraces = false) (hw : wp_X2_floor C V p0 p1 u post px) : CtX l yX2_floor wsX2_floor ({ frames := 6, cells := 1, slots := 6, locals := 81 }) G (ty2 cI cZ) (cw ad C V cI cZ) [.ref (ad 0), .int p0, .int p1] u post px := by
  refine CtX.of hlt rfl (by decide) (by decide) rfl rfl (cc := cX2_floor) (maxL := 4) (by decide) rfl (Nat.le_of_ble_eq_true rfl) ?_
  intro p e s m below meth c A Q hx hb hml hts hown hK hA hret hthr ls hl hP hD hS
  have hiX0 : ∀ w ∈ u_ws RX0 TX0 11, w ∈ wsX2_floor := by decide +kernel
  have hiX2 : ∀ w ∈ u_ws RX2 TX2 6, w ∈ wsX2_floor := by decide +kernel
  have hown : s.vm.findClass RX2 = some m.cls := hown
  have hl : lv_has ls 4 [(0, .ref (ad 0)), (1, .int p0), (2, .int p1)] := hl
  unfold wp_X2_floor at hw
  refine lv_aload_n hx hb dX2_floor_0 rfl (lv_at hl 0 rfl) ?_
  refine lv_iload_n hx hb dX2_floor_1 rfl (lv_at hl 1 rfl) ?_
  refine CtI.call (As := [.int p0]) (rest := []) (c_X2_isLive l G ad C V cI cZ p0 u _ hw) ⟨hx, hb, hml, hown, hts⟩ (cwV 1 hts gX2_floor_X2_isLive rfl rfl rfl (by decide +kernel) ⟨Nat.le_of_ble_eq_true rfl, Nat.le_of_ble_eq_true rfl⟩) (va_recv hK hP (ci := 2) (q0 := 0) rfl rfl) hK hP hD hS hA rfl hl.1 rfl (Nat.le_of_ble_eq_true rfl) dX2_floor_2 ⟨Nat.zero_le _, Nat.zero_le _⟩ (fun r2 u1 H locs hw hP hD hS => ?_)
  obtain ⟨hz, hw⟩ := hw
  refine lv_if_eq (tgt := 25) hx hb dX2_floor_5 (by decide) (fun c3 => ?_) (fun c3 => ?_)
  · have hw := brN.t hw c3
    refine lv_iconst (v := 0) hx hb dX2_floor_25 (by decide) ?_
    refine lv_istore_n (lv' := [(3, .int 0), (0, .ref (ad 0)), (1, .int p0), (2, .int p1)]) hx hb dX2_floor_26 rfl hl (by decide) rfl (fun ls hl => ?_)
    refine lv_iload_n hx hb dX2_floor_27 rfl (lv_at hl 0 rfl) ?_
    refine lv_if_ne (tgt := 39) hx hb dX2_floor_28 (by decide) (fun c4 => ?_) (fun c4 => ?_)
    · exact absurd (by decide) c4
    · exact hthr sNSE 103 105 u1 31 _ _ _ (by decide +kernel) (by decide +kernel) (by decide +kernel) (by decide +kernel) bxW_N otN dX2_floor_31 dX2_floor_34 dX2_floor_35 dX2_floor_38 hl.1 hw hP hD hS
  · have hw := brN.f hw c3
    refine lv_aload_n hx hb dX2_floor_8 rfl (lv_at hl 0 rfl) ?_
    refine va_get (D := G) (ci := 2) (v := .ref (ad 1)) (C := RX2) (T := TX2) (N := 6) hx hb hts hiX2 hown hK hP 0 rfl rfl 0 (by decide) (hts (.fieldLink RX2 14 "TreapVersions" "store" "LTreapVersions$Store;") (by decide +kernel)) (fun _ h9 => h9) rfl dX2_floor_9 ?_
    refine lv_aload_n hx hb dX2_floor_12 rfl (lv_at hl 0 rfl) ?_
    refine va_get (D := G) (ci := 2) (v := .ref (ad 4)) (C := RX2) (T := TX2) (N := 6) hx hb hts hiX2 hown hK hP 0 rfl rfl 3 (by decide) (hts (.fieldLink RX2 31 "TreapVersions" "roots" "[I") (by decide +kernel)) (fun _ h9 => h9) rfl dX2_floor_13 ?_
    refine lv_iload_n hx hb dX2_floor_16 rfl (lv_at hl 1 rfl) ?_
    refine va_iald hx hb hK hP 4 0 rfl rfl (rdA.hin hw) dX2_floor_17 ?_
    refine lv_topi (fun z5 ez5 => ?_)
    have hw := rdA.go hw z5 ez5
    refine lv_iload_n hx hb dX2_floor_18 rfl (lv_at hl 2 rfl) ?_
    refine CtI.call (As := [.int z5, .int p1]) (rest := []) (c_X0_floorNode l G ad C V cI cZ z5 p1 u1 _ hw) ⟨hx, hb, hml, hown, hts⟩ (cwV 2 hts gX2_floor_X0_floorNode rfl rfl rfl (by decide +kernel) ⟨Nat.le_of_ble_eq_true rfl, Nat.le_of_ble_eq_true rfl⟩) (va_recv hK hP (ci := 0) (q0 := 1) rfl rfl) hK hP hD hS hA rfl hl.1 rfl (Nat.le_of_ble_eq_true rfl) dX2_floor_19 ⟨Nat.zero_le _, Nat.zero_le _⟩ (fun r7 u6 H locs hw hP hD hS => ?_)
    refine lv_goto (tgt := 26) hx hb dX2_floor_22 (by decide) ?_
    refine lv_istore_n (lv' := [(3, .int r7), (0, .ref (ad 0)), (1, .int p0), (2, .int p1)]) hx hb dX2_floor_26 rfl hl (by decide) rfl (fun ls hl => ?_)
    refine lv_iload_n hx hb dX2_floor_27 rfl (lv_at hl 0 rfl) ?_
    refine lv_if_ne (tgt := 39) hx hb dX2_floor_28 (by decide) (fun c8 => ?_) (fun c8 => ?_)
    · have hw := brN.f hw c8
      refine lv_aload_n hx hb dX2_floor_39 rfl (lv_at hl 1 rfl) ?_
      refine va_get (D := G) (ci := 2) (v := .ref (ad 1)) (C := RX2) (T := TX2) (N := 6) hx hb hts hiX2 hown hK hP 0 rfl rfl 0 (by decide) (hts (.fieldLink RX2 14 "TreapVersions" "store" "LTreapVersions$Store;") (by decide +kernel)) (fun _ h9 => h9) rfl dX2_floor_40 ?_
      refine va_get (D := G) (ci := 0) (v := .ref (ad 5)) (C := RX0) (T := TX0) (N := 11) hx hb hts hiX0 hown hK hP 1 rfl rfl 1 (by decide) (hts (.fieldLink RX2 94 "TreapVersions$Store" "key" "[I") (by decide +kernel)) (fun _ h9 => h9) rfl dX2_floor_43 ?_
      refine lv_iload_n hx hb dX2_floor_46 rfl (lv_at hl 0 rfl) ?_
      refine va_iald hx hb hK hP 5 0 rfl rfl (rdA.hin hw) dX2_floor_47 ?_
      refine lv_topi (fun z9 ez9 => ?_)
      have hw := rdA.go hw z9 ez9
      exact hret z9 u6 48 _ _ _ dX2_floor_48 rfl hw hP hD hS
    · have hw := brN.t hw c8
      exact hthr sNSE 103 105 u6 31 _ _ _ (by decide +kernel) (by decide +kernel) (by decide +kernel) (by decide +kernel) bxW_N otN dX2_floor_31 dX2_floor_34 dX2_floor_35 dX2_floor_38 hl.1 hw hP hD hS
set_option maxHeartbeats 4000000 in
set_option maxRecDepth 100000 in
theorem c_X2_keyAt (l : Launch) (G : va_G) (ad : Nat → Nat) (C V : Nat) (cI cZ : ClassId) (p0 : Int32) (p1 : Int32) (u : CS) (post : Int32 → CS → Prop) (px : String → CS → Prop) (hlt : l.stackTraces = false) (hw : wp_X2_keyAt C V p0 p1 u post px) : CtX l yX2_keyAt wsX2_keyAt ({ frames := 6, cells := 1, slots := 6, locals := 81 }) G (ty2 cI cZ) (cw ad C V cI cZ) [.ref (ad 0), .int p0, .int p1] u post px := by
  refine CtX.of hlt rfl (by decide) (by decide) rfl rfl (cc := cX2_keyAt) (maxL := 4) (by decide) rfl (Nat.le_of_ble_eq_true rfl) ?_
  intro p e s m below meth c A Q hx hb hml hts hown hK hA hret hthr ls hl hP hD hS
  have hiX0 : ∀ w ∈ u_ws RX0 TX0 11, w ∈ wsX2_keyAt := by decide +kernel
  have hiX2 : ∀ w ∈ u_ws RX2 TX2 6, w ∈ wsX2_keyAt := by decide +kernel
  have hown : s.vm.findClass RX2 = some m.cls := hown
  have hl : lv_has ls 4 [(0, .ref (ad 0)), (1, .int p0), (2, .int p1)] := hl
  unfold wp_X2_keyAt at hw
  refine lv_aload_n hx hb dX2_keyAt_0 rfl (lv_at hl 0 rfl) ?_
  refine lv_iload_n hx hb dX2_keyAt_1 rfl (lv_at hl 1 rfl) ?_
  refine CtI.call (As := [.int p0]) (rest := []) (c_X2_isLive l G ad C V cI cZ p0 u _ hw) ⟨hx, hb, hml, hown, hts⟩ (cwV 1 hts gX2_keyAt_X2_isLive rfl rfl rfl (by decide +kernel) ⟨Nat.le_of_ble_eq_true rfl, Nat.le_of_ble_eq_true rfl⟩) (va_recv hK hP (ci := 2) (q0 := 0) rfl rfl) hK hP hD hS hA rfl hl.1 rfl (Nat.le_of_ble_eq_true rfl) dX2_keyAt_2 ⟨Nat.zero_le _, Nat.zero_le _⟩ (fun r2 u1 H locs hw hP hD hS => ?_)
  obtain ⟨hz, hw⟩ := hw
  refine lv_if_ne (tgt := 16) hx hb dX2_keyAt_5 (by decide) (fun c3 => ?_) (fun c3 => ?_)
  · have hw := brN.f hw c3
    refine lv_aload_n hx hb dX2_keyAt_16 rfl (lv_at hl 0 rfl) ?_
    refine va_get (D := G) (ci := 2) (v := .ref (ad 1)) (C := RX2) (T := TX2) (N := 6) hx hb hts hiX2 hown hK hP 0 rfl rfl 0 (by decide) (hts (.fieldLink RX2 14 "TreapVersions" "store" "LTreapVersions$Store;") (by decide +kernel)) (fun _ h9 => h9) rfl dX2_keyAt_17 ?_
    refine lv_aload_n hx hb dX2_keyAt_20 rfl (lv_at hl 0 rfl) ?_
    refine va_get (D := G) (ci := 2) (v := .ref (ad 4)) (C := RX2) (T := TX2) (N := 6) hx hb hts hiX2 hown hK hP 0 rfl rfl 3 (by decide) (hts (.fieldLink RX2 31 "TreapVersions" "roots" "[I") (by decide +kernel)) (fun _ h9 => h9) rfl dX2_keyAt_21 ?_
    refine lv_iload_n hx hb dX2_keyAt_24 rfl (lv_at hl 1 rfl) ?_
    refine va_iald hx hb hK hP 4 0 rfl rfl (rdA.hin hw) dX2_keyAt_25 ?_
    refine lv_topi (fun z4 ez4 => ?_)
    have hw := rdA.go hw z4 ez4
    refine lv_iload_n hx hb dX2_keyAt_26 rfl (lv_at hl 2 rfl) ?_
    refine CtI.call (As := [.int z4, .int p1]) (rest := []) (c_X0_nodeAt l G ad C V cI cZ z4 p1 u1 _ hw) ⟨hx, hb, hml, hown, hts⟩ (cwV 2 hts gX2_keyAt_X0_nodeAt rfl rfl rfl (by decide +kernel) ⟨Nat.le_of_ble_eq_true rfl, Nat.le_of_ble_eq_true rfl⟩) (va_recv hK hP (ci := 0) (q0 := 1) rfl rfl) hK hP hD hS hA rfl hl.1 rfl (Nat.le_of_ble_eq_true rfl) dX2_keyAt_27 ⟨Nat.zero_le _, Nat.zero_le _⟩ (fun r6 u5 H locs hw hP hD hS => ?_)
    refine lv_istore_n (lv' := [(3, .int r6), (0, .ref (ad 0)), (1, .int p0), (2, .int p1)]) hx hb dX2_keyAt_30 rfl hl (by decide) rfl (fun ls hl => ?_)
    refine lv_iload_n hx hb dX2_keyAt_31 rfl (lv_at hl 0 rfl) ?_
    refine lv_if_ne (tgt := 43) hx hb dX2_keyAt_32 (by decide) (fun c7 => ?_) (fun c7 => ?_)
    · have hw := brN.f hw c7
      refine lv_aload_n hx hb dX2_keyAt_43 rfl (lv_at hl 1 rfl) ?_
      refine va_get (D := G) (ci := 2) (v := .ref (ad 1)) (C := RX2) (T := TX2) (N := 6) hx hb hts hiX2 hown hK hP 0 rfl rfl 0 (by decide) (hts (.fieldLink RX2 14 "TreapVersions" "store" "LTreapVersions$Store;") (by decide +kernel)) (fun _ h9 => h9) rfl dX2_keyAt_44 ?_
      refine va_get (D := G) (ci := 0) (v := .ref (ad 5)) (C := RX0) (T := TX0) (N := 11) hx hb hts hiX0 hown hK hP 1 rfl rfl 1 (by decide) (hts (.fieldLink RX2 94 "TreapVersions$Store" "key" "[I") (by decide +kernel)) (fun _ h9 => h9) rfl dX2_keyAt_47 ?_
      refine lv_iload_n hx hb dX2_keyAt_50 rfl (lv_at hl 0 rfl) ?_
      refine va_iald hx hb hK hP 5 0 rfl rfl (rdA.hin hw) dX2_keyAt_51 ?_
      refine lv_topi (fun z8 ez8 => ?_)
      have hw := rdA.go hw z8 ez8
      exact hret z8 u5 52 _ _ _ dX2_keyAt_52 rfl hw hP hD hS
    · have hw := brN.t hw c7
      exact hthr sIOB 112 114 u5 35 _ _ _ (by decide +kernel) (by decide +kernel) (by decide +kernel) (by decide +kernel) bxW_I otI dX2_keyAt_35 dX2_keyAt_38 dX2_keyAt_39 dX2_keyAt_42 hl.1 hw hP hD hS
  · have hw := brN.t hw c3
    exact hthr sNSE 103 105 u1 8 _ _ _ (by decide +kernel) (by decide +kernel) (by decide +kernel) (by decide +kernel) bxW_N otN dX2_keyAt_8 dX2_keyAt_11 dX2_keyAt_12 dX2_keyAt_15 hl.1 hw hP hD hS
set_option maxHeartbeats 4000000 in
set_option maxRecDepth 100000 in
theorem c_X2_depth (l : Launch) (G : va_G) (ad : Nat → Nat) (C V : Nat) (cI cZ : ClassId) (p0 : Int32) (p1 : Int32) (u : CS) (post : Int32 → CS → Prop) (px : String → CS → Prop) (hlt : l.stackTraces = false) (hw : wp_X2_depth C V p0 p1 u post px) : CtX l yX2_depth wsX2_depth ({ frames := 6, cells := 1, slots := 6, locals := 81 }) G (ty2 cI cZ) (cw ad C V cI cZ) [.ref (ad 0), .int p0, .int p1] u post px := by
  refine CtX.of hlt rfl (by decide) (by decide) rfl rfl (cc := cX2_depth) (maxL := 3) (by decide) rfl (Nat.le_of_ble_eq_true rfl) ?_
  intro p e s m below meth c A Q hx hb hml hts hown hK hA hret hthr ls hl hP hD hS
  have hiX1 : ∀ w ∈ u_ws RX1 TX1 3, w ∈ wsX2_depth := by decide +kernel
  have hiX2 : ∀ w ∈ u_ws RX2 TX2 6, w ∈ wsX2_depth := by decide +kernel
  have hown : s.vm.findClass RX2 = some m.cls := hown
  have hl : lv_has ls 3 [(0, .ref (ad 0)), (1, .int p0), (2, .int p1)] := hl
  unfold wp_X2_depth at hw
  refine lv_aload_n hx hb dX2_depth_0 rfl (lv_at hl 0 rfl) ?_
  refine lv_iload_n hx hb dX2_depth_1 rfl (lv_at hl 1 rfl) ?_
  refine lv_iload_n hx hb dX2_depth_2 rfl (lv_at hl 2 rfl) ?_
  refine CtI.call (As := [.int p0, .int p1]) (rest := []) (c_X2_nodeWith l G ad C V cI cZ p0 p1 u _ hw) ⟨hx, hb, hml, hown, hts⟩ (cwV 2 hts gX2_depth_X2_nodeWith rfl rfl rfl (by decide +kernel) ⟨Nat.le_of_ble_eq_true rfl, Nat.le_of_ble_eq_true rfl⟩) (va_recv hK hP (ci := 2) (q0 := 0) rfl rfl) hK hP hD hS hA rfl hl.1 rfl (Nat.le_of_ble_eq_true rfl) dX2_depth_3 ⟨Nat.zero_le _, Nat.zero_le _⟩ (fun r2 u1 H locs hw hP hD hS => ?_)
  refine lv_if_ne (tgt := 17) hx hb dX2_depth_6 (by decide) (fun c3 => ?_) (fun c3 => ?_)
  · have hw := brN.f hw c3
    refine lv_aload_n hx hb dX2_depth_17 rfl (lv_at hl 0 rfl) ?_
    refine va_get (D := G) (ci := 2) (v := .ref (ad 2)) (C := RX2) (T := TX2) (N := 6) hx hb hts hiX2 hown hK hP 0 rfl rfl 1 (by decide) (hts (.fieldLink RX2 23 "TreapVersions" "way" "LTreapVersions$Way;") (by decide +kernel)) (fun _ h9 => h9) rfl dX2_depth_18 ?_
    refine va_get (D := G) (ci := 1) (v := .int (u1 11 0)) (C := RX1) (T := TX1) (N := 3) hx hb hts hiX1 hown hK hP 2 rfl rfl 2 (by decide) (hts (.fieldLink RX2 47 "TreapVersions$Way" "length" "I") (by decide +kernel)) (fun _ h9 => h9) rfl dX2_depth_21 ?_
    refine lv_topi (fun z4 ez4 => ?_)
    have hw := nmI.go hw z4 ez4
    exact hret z4 u1 24 _ _ _ dX2_depth_24 rfl hw hP hD hS
  · have hw := brN.t hw c3
    exact hthr sNSE 103 105 u1 9 _ _ _ (by decide +kernel) (by decide +kernel) (by decide +kernel) (by decide +kernel) bxW_N otN dX2_depth_9 dX2_depth_12 dX2_depth_13 dX2_depth_16 hl.1 hw hP hD hS
