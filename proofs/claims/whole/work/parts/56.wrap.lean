/-! the law's own static methods: cell, and the four that catch -/
section WrapL
abbrev ty3 (cI cZ cL : ClassId) : List (ClassId × FieldType) := [(cI, .int), (cZ, .boolean), (cL, .long)]
def oc (ao : Nat) (cL : ClassId) (f : Nat → Int64) : Nat × va_E := (ao, .inl (cL, 1, .inr (.inl f)))
def co (ad : Nat → Nat) (C V : Nat) (cI cZ : ClassId) (ao : Nat) (cL : ClassId) (u : CS) (f : Nat → Int64) : va_W := cw ad C V cI cZ u ++ [oc ao cL f]
/-- a static method of the law with the class's object and the row 'out': it returns -/
def CtO (l : Launch) (y : MethodName) (ws : List Cond) (rm : Room) (G : va_G) (ad : Nat → Nat) (C V : Nat) (cI cZ : ClassId) (ao : Nat) (cL : ClassId) (p0 p1 : Int32) (u0 : CS) (f0 : Nat → Int64) (post : Int32 → CS → (Nat → Int64) → Prop) : Prop :=
  ∀ sz : Nat, vx_Met l y ws rm (va_Pc [.ref (ad 0), .int p0, .int p1, .ref ao] (fun U => U.heap.size = sz ∧ va_P G vwCl (co ad C V cI cZ ao cL u0 f0) U.heap ∧ va_K G vwCl (ty3 cI cZ cL) U ∧ va_D (fun _ => True) (co ad C V cI cZ ao cL u0 f0) ∧ XI (va_A (co ad C V cI cZ ao cL u0 f0) sz) U U.heap))
    (va_Qi (S := CS × (Nat → Int64)) (fun r u => post r u.1 u.2) (fun u t => va_P G vwCl (co ad C V cI cZ ao cL u.1 u.2) t.heap) (va_A (co ad C V cI cZ ao cL u0 f0) sz)) (vx_X (S := Unit) (fun _ => False) (fun _ _ _ => True) (fun _ => False)) 1 6 (va_A (co ad C V cI cZ ao cL u0 f0) sz)
set_option maxHeartbeats 4000000 in
set_option maxRecDepth 100000 in
theorem c_L_get (l : Launch) (G : va_G) (ad : Nat → Nat) (C V : Nat) (cI cZ : ClassId) (ao : Nat) (cL : ClassId) (p0 p1 : Int32) (u : CS) (f0 : Nat → Int64) (post : Int32 → CS → (Nat → Int64) → Prop) (hlt : l.stackTraces = false)
    (hw : wp_X2_get C V p0 p1 u (fun r u' => post 0 u' (vp_updL f0 0 r.toInt64)) (fun E u' => E = sNSE ∧ post 1 u' f0)) : CtO l yL_get wsL_get ({ frames := 7, cells := 1, slots := 6, locals := 104 }) G ad C V cI cZ ao cL p0 p1 u f0 post := by
  intro sz
  refine vx_ofWH (cc := cL_get) (maxL := 5) (ret := some .int) (hh := [(0, 10, 13, 13)]) (by decide) rfl ?_
  intro p e s m args below meth c s₁ B hml hv
  obtain ⟨rfl, hsz, hP, hK, hD0, hX⟩ := hv
  have hts := atoms_spec (ws := wsL_get) B.pre
  have hown : s.vm.findClass RL = some m.cls := findClass_of_methodNamed B.named
  have hx := B.exec
  have hb := B.bytes
  have hr := B.returns
  have hlocks := B.notSynchronized
  have htab : c.exceptionTable.toList = tableOf [(0, 10, 13, 13)] := vx_table (x := yL_get) B (hts (.codeWith yL_get cL_get 5 (some .int) [(0, 10, 13, 13)]) List.mem_cons_self)
  subst hsz
  have hD := hD0.self (sz := s.heap.size)
  obtain ⟨A, eA⟩ : ∃ A, A = va_A (co ad C V cI cZ ao cL u f0) s.heap.size := ⟨_, rfl⟩
  have hA : ∀ q, s.heap.size ≤ q → A q := fun q h => by rw [eA]; exact Or.inr h
  rw [← eA] at hD hX
  have hS : va_S A s.heap s.heap [] := va_S.rf
  have hl := lv_entry ([.ref (ad 0), .int p0, .int p1, .ref ao]) (n := 5) (Nat.le_of_ble_eq_true rfl)
  rw [lg_entry_eq]
  generalize (lg_sl ([.ref (ad 0), .int p0, .int p1, .ref ao]) ++ List.replicate (5 - (lg_sl ([.ref (ad 0), .int p0, .int p1, .ref ao])).length) Slot.unset).toArray = ls at hl ⊢
  have hl : lv_has ls 5 [(0, .ref (ad 0)), (1, .int p0), (2, .int p1), (3, .ref ao)] := hl
  refine lv_aload_n hx hb dL_get_0 rfl (lv_at hl 3 rfl) ?_
  refine lv_iconst (v := 0) hx hb dL_get_1 (by decide) ?_
  refine lv_aload_n hx hb dL_get_2 rfl (lv_at hl 0 rfl) ?_
  refine lv_iload_n hx hb dL_get_3 rfl (lv_at hl 1 rfl) ?_
  refine lv_iload_n hx hb dL_get_4 rfl (lv_at hl 2 rfl) ?_
  have hPc : va_P G vwCl (cw ad C V cI cZ u) s.heap := va_P_left hP
  have hPo : va_P G vwCl [oc ao cL f0] s.heap := va_P_right hP
  refine CtX.callF (As := [.int p0, .int p1]) (rest := [.int 0, .ref ao]) (c_X2_get l G ad C V cI cZ p0 p1 u _ _ hlt hw) ⟨hx, hb, hml, hown, hts⟩ (cwV 2 hts gL_get_X2_get rfl rfl rfl (by decide +kernel) ⟨Nat.le_of_ble_eq_true rfl, Nat.le_of_ble_eq_true rfl⟩) (va_recv hK hPc (ci := 2) (q0 := 0) rfl rfl) (hK.sub [0, 1] rfl) hPc hPo hD hX hS hA rfl hl.1 rfl (Nat.le_of_ble_eq_true rfl) dL_get_5 ⟨Nat.le_of_ble_eq_true rfl, Nat.le_of_ble_eq_true rfl⟩ (fun E ce q9 u1 H locs hw hP1 hP2 hS h7 h8 h9 => ?_) (fun r u1 H locs hw hP1 hP2 hS => ?_)
  · obtain ⟨rfl, hw⟩ := hw
    refine vx_catch (own := RL) (name := sNSE) (E := sNSE) hown [] { startPc := 0, endPc := 10, handlerPc := 13, catchType := 13 } [] htab (fun z hz => by cases hz) (by decide) (by decide) (hts (.classLink RL 13 sNSE) (by decide +kernel)) (va_Nw.use rfl hX.1.2.2.2.1) h7 h8 h9 ?_
    refine lv_astore (lv' := [(4, .ref q9), (0, .ref (ad 0)), (1, .int p0), (2, .int p1), (3, .ref ao)]) hx hb dL_get_13 hl (by decide) rfl (fun ls hl => ?_)
    refine lv_iconst (v := 1) hx hb dL_get_15 (by decide) ?_
    exact vx_ret (W.iret (v := 1) hx hb hr (fun t ht hW => ⟨⟨1, (u1, f0), rfl, hw, by show va_P G vwCl (co ad C V cI cZ ao cL u1 f0) t.heap; rw [ht]; exact hP1.app hP2⟩, by rw [← eA]; exact hS.F ht⟩) (by rw [← eA]; exact hS.2.2) dL_get_16)
  · have hP : va_P G vwCl (co ad C V cI cZ ao cL u1 f0) H := hP1.app hP2
    have hD : va_D A (co ad C V cI cZ ao cL u1 f0) := va_D_adr hD rfl
    refine lv_i2l hx hb dL_get_8 rfl ?_
    refine va_last hx hb hK hP hD hS 15 2 (a := ao) (cA := cL) (n := 1) (f := f0) rfl rfl (i := 0) (by unfold vp_in; decide) dL_get_9 (fun H locs hP hD hS => ?_)
    have hP : va_P G vwCl (co ad C V cI cZ ao cL u1 (vp_updL f0 0 r.toInt64)) H := hP
    refine lv_goto (tgt := 17) hx hb dL_get_10 (by decide) ?_
    refine lv_iconst (v := 0) hx hb dL_get_17 (by decide) ?_
    exact vx_ret (W.iret (v := 0) hx hb hr (fun t ht hW => ⟨⟨0, (u1, vp_updL f0 0 r.toInt64), rfl, hw, by show va_P G vwCl (co ad C V cI cZ ao cL u1 (vp_updL f0 0 r.toInt64)) t.heap; rw [ht]; exact hP⟩, by rw [← eA]; exact hS.F ht⟩) (by rw [← eA]; exact hS.2.2) dL_get_18)
set_option maxHeartbeats 4000000 in
set_option maxRecDepth 100000 in
theorem c_L_floor (l : Launch) (G : va_G) (ad : Nat → Nat) (C V : Nat) (cI cZ : ClassId) (ao : Nat) (cL : ClassId) (p0 p1 : Int32) (u : CS) (f0 : Nat → Int64) (post : Int32 → CS → (Nat → Int64) → Prop) (hlt : l.stackTraces = false)
    (hw : wp_X2_floor C V p0 p1 u (fun r u' => post 0 u' (vp_updL f0 0 r.toInt64)) (fun E u' => E = sNSE ∧ post 1 u' f0)) : CtO l yL_floor wsL_floor ({ frames := 7, cells := 1, slots := 6, locals := 104 }) G ad C V cI cZ ao cL p0 p1 u f0 post := by
  intro sz
  refine vx_ofWH (cc := cL_floor) (maxL := 5) (ret := some .int) (hh := [(0, 10, 13, 13)]) (by decide) rfl ?_
  intro p e s m args below meth c s₁ B hml hv
  obtain ⟨rfl, hsz, hP, hK, hD0, hX⟩ := hv
  have hts := atoms_spec (ws := wsL_floor) B.pre
  have hown : s.vm.findClass RL = some m.cls := findClass_of_methodNamed B.named
  have hx := B.exec
  have hb := B.bytes
  have hr := B.returns
  have hlocks := B.notSynchronized
  have htab : c.exceptionTable.toList = tableOf [(0, 10, 13, 13)] := vx_table (x := yL_floor) B (hts (.codeWith yL_floor cL_floor 5 (some .int) [(0, 10, 13, 13)]) List.mem_cons_self)
  subst hsz
  have hD := hD0.self (sz := s.heap.size)
  obtain ⟨A, eA⟩ : ∃ A, A = va_A (co ad C V cI cZ ao cL u f0) s.heap.size := ⟨_, rfl⟩
  have hA : ∀ q, s.heap.size ≤ q → A q := fun q h => by rw [eA]; exact Or.inr h
  rw [← eA] at hD hX
  have hS : va_S A s.heap s.heap [] := va_S.rf
  have hl := lv_entry ([.ref (ad 0), .int p0, .int p1, .ref ao]) (n := 5) (Nat.le_of_ble_eq_true rfl)
  rw [lg_entry_eq]
  generalize (lg_sl ([.ref (ad 0), .int p0, .int p1, .ref ao]) ++ List.replicate (5 - (lg_sl ([.ref (ad 0), .int p0, .int p1, .ref ao])).length) Slot.unset).toArray = ls at hl ⊢
  have hl : lv_has ls 5 [(0, .ref (ad 0)), (1, .int p0), (2, .int p1), (3, .ref ao)] := hl
  refine lv_aload_n hx hb dL_floor_0 rfl (lv_at hl 3 rfl) ?_
  refine lv_iconst (v := 0) hx hb dL_floor_1 (by decide) ?_
  refine lv_aload_n hx hb dL_floor_2 rfl (lv_at hl 0 rfl) ?_
  refine lv_iload_n hx hb dL_floor_3 rfl (lv_at hl 1 rfl) ?_
  refine lv_iload_n hx hb dL_floor_4 rfl (lv_at hl 2 rfl) ?_
  have hPc : va_P G vwCl (cw ad C V cI cZ u) s.heap := va_P_left hP
  have hPo : va_P G vwCl [oc ao cL f0] s.heap := va_P_right hP
  refine CtX.callF (As := [.int p0, .int p1]) (rest := [.int 0, .ref ao]) (c_X2_floor l G ad C V cI cZ p0 p1 u _ _ hlt hw) ⟨hx, hb, hml, hown, hts⟩ (cwV 2 hts gL_floor_X2_floor rfl rfl rfl (by decide +kernel) ⟨Nat.le_of_ble_eq_true rfl, Nat.le_of_ble_eq_true rfl⟩) (va_recv hK hPc (ci := 2) (q0 := 0) rfl rfl) (hK.sub [0, 1] rfl) hPc hPo hD hX hS hA rfl hl.1 rfl (Nat.le_of_ble_eq_true rfl) dL_floor_5 ⟨Nat.le_of_ble_eq_true rfl, Nat.le_of_ble_eq_true rfl⟩ (fun E ce q9 u1 H locs hw hP1 hP2 hS h7 h8 h9 => ?_) (fun r u1 H locs hw hP1 hP2 hS => ?_)
  · obtain ⟨rfl, hw⟩ := hw
    refine vx_catch (own := RL) (name := sNSE) (E := sNSE) hown [] { startPc := 0, endPc := 10, handlerPc := 13, catchType := 13 } [] htab (fun z hz => by cases hz) (by decide) (by decide) (hts (.classLink RL 13 sNSE) (by decide +kernel)) (va_Nw.use rfl hX.1.2.2.2.1) h7 h8 h9 ?_
    refine lv_astore (lv' := [(4, .ref q9), (0, .ref (ad 0)), (1, .int p0), (2, .int p1), (3, .ref ao)]) hx hb dL_floor_13 hl (by decide) rfl (fun ls hl => ?_)
    refine lv_iconst (v := 1) hx hb dL_floor_15 (by decide) ?_
    exact vx_ret (W.iret (v := 1) hx hb hr (fun t ht hW => ⟨⟨1, (u1, f0), rfl, hw, by show va_P G vwCl (co ad C V cI cZ ao cL u1 f0) t.heap; rw [ht]; exact hP1.app hP2⟩, by rw [← eA]; exact hS.F ht⟩) (by rw [← eA]; exact hS.2.2) dL_floor_16)
  · have hP : va_P G vwCl (co ad C V cI cZ ao cL u1 f0) H := hP1.app hP2
    have hD : va_D A (co ad C V cI cZ ao cL u1 f0) := va_D_adr hD rfl
    refine lv_i2l hx hb dL_floor_8 rfl ?_
    refine va_last hx hb hK hP hD hS 15 2 (a := ao) (cA := cL) (n := 1) (f := f0) rfl rfl (i := 0) (by unfold vp_in; decide) dL_floor_9 (fun H locs hP hD hS => ?_)
    have hP : va_P G vwCl (co ad C V cI cZ ao cL u1 (vp_updL f0 0 r.toInt64)) H := hP
    refine lv_goto (tgt := 17) hx hb dL_floor_10 (by decide) ?_
    refine lv_iconst (v := 0) hx hb dL_floor_17 (by decide) ?_
    exact vx_ret (W.iret (v := 0) hx hb hr (fun t ht hW => ⟨⟨0, (u1, vp_updL f0 0 r.toInt64), rfl, hw, by show va_P G vwCl (co ad C V cI cZ ao cL u1 (vp_updL f0 0 r.toInt64)) t.heap; rw [ht]; exact hP⟩, by rw [← eA]; exact hS.F ht⟩) (by rw [← eA]; exact hS.2.2) dL_floor_18)
set_option maxHeartbeats 4000000 in
set_option maxRecDepth 100000 in
theorem c_L_depth (l : Launch) (G : va_G) (ad : Nat → Nat) (C V : Nat) (cI cZ : ClassId) (ao : Nat) (cL : ClassId) (p0 p1 : Int32) (u : CS) (f0 : Nat → Int64) (post : Int32 → CS → (Nat → Int64) → Prop) (hlt : l.stackTraces = false)
    (hw : wp_X2_depth C V p0 p1 u (fun r u' => post 0 u' (vp_updL f0 0 r.toInt64)) (fun E u' => E = sNSE ∧ post 1 u' f0)) : CtO l yL_depth wsL_depth ({ frames := 7, cells := 1, slots := 6, locals := 104 }) G ad C V cI cZ ao cL p0 p1 u f0 post := by
  intro sz
  refine vx_ofWH (cc := cL_depth) (maxL := 5) (ret := some .int) (hh := [(0, 10, 13, 13)]) (by decide) rfl ?_
  intro p e s m args below meth c s₁ B hml hv
  obtain ⟨rfl, hsz, hP, hK, hD0, hX⟩ := hv
  have hts := atoms_spec (ws := wsL_depth) B.pre
  have hown : s.vm.findClass RL = some m.cls := findClass_of_methodNamed B.named
  have hx := B.exec
  have hb := B.bytes
  have hr := B.returns
  have hlocks := B.notSynchronized
  have htab : c.exceptionTable.toList = tableOf [(0, 10, 13, 13)] := vx_table (x := yL_depth) B (hts (.codeWith yL_depth cL_depth 5 (some .int) [(0, 10, 13, 13)]) List.mem_cons_self)
  subst hsz
  have hD := hD0.self (sz := s.heap.size)
  obtain ⟨A, eA⟩ : ∃ A, A = va_A (co ad C V cI cZ ao cL u f0) s.heap.size := ⟨_, rfl⟩
  have hA : ∀ q, s.heap.size ≤ q → A q := fun q h => by rw [eA]; exact Or.inr h
  rw [← eA] at hD hX
  have hS : va_S A s.heap s.heap [] := va_S.rf
  have hl := lv_entry ([.ref (ad 0), .int p0, .int p1, .ref ao]) (n := 5) (Nat.le_of_ble_eq_true rfl)
  rw [lg_entry_eq]
  generalize (lg_sl ([.ref (ad 0), .int p0, .int p1, .ref ao]) ++ List.replicate (5 - (lg_sl ([.ref (ad 0), .int p0, .int p1, .ref ao])).length) Slot.unset).toArray = ls at hl ⊢
  have hl : lv_has ls 5 [(0, .ref (ad 0)), (1, .int p0), (2, .int p1), (3, .ref ao)] := hl
  refine lv_aload_n hx hb dL_depth_0 rfl (lv_at hl 3 rfl) ?_
  refine lv_iconst (v := 0) hx hb dL_depth_1 (by decide) ?_
  refine lv_aload_n hx hb dL_depth_2 rfl (lv_at hl 0 rfl) ?_
  refine lv_iload_n hx hb dL_depth_3 rfl (lv_at hl 1 rfl) ?_
  refine lv_iload_n hx hb dL_depth_4 rfl (lv_at hl 2 rfl) ?_
  have hPc : va_P G vwCl (cw ad C V cI cZ u) s.heap := va_P_left hP
  have hPo : va_P G vwCl [oc ao cL f0] s.heap := va_P_right hP
  refine CtX.callF (As := [.int p0, .int p1]) (rest := [.int 0, .ref ao]) (c_X2_depth l G ad C V cI cZ p0 p1 u _ _ hlt hw) ⟨hx, hb, hml, hown, hts⟩ (cwV 2 hts gL_depth_X2_depth rfl rfl rfl (by decide +kernel) ⟨Nat.le_of_ble_eq_true rfl, Nat.le_of_ble_eq_true rfl⟩) (va_recv hK hPc (ci := 2) (q0 := 0) rfl rfl) (hK.sub [0, 1] rfl) hPc hPo hD hX hS hA rfl hl.1 rfl (Nat.le_of_ble_eq_true rfl) dL_depth_5 ⟨Nat.le_of_ble_eq_true rfl, Nat.le_of_ble_eq_true rfl⟩ (fun E ce q9 u1 H locs hw hP1 hP2 hS h7 h8 h9 => ?_) (fun r u1 H locs hw hP1 hP2 hS => ?_)
  · obtain ⟨rfl, hw⟩ := hw
    refine vx_catch (own := RL) (name := sNSE) (E := sNSE) hown [] { startPc := 0, endPc := 10, handlerPc := 13, catchType := 13 } [] htab (fun z hz => by cases hz) (by decide) (by decide) (hts (.classLink RL 13 sNSE) (by decide +kernel)) (va_Nw.use rfl hX.1.2.2.2.1) h7 h8 h9 ?_
    refine lv_astore (lv' := [(4, .ref q9), (0, .ref (ad 0)), (1, .int p0), (2, .int p1), (3, .ref ao)]) hx hb dL_depth_13 hl (by decide) rfl (fun ls hl => ?_)
    refine lv_iconst (v := 1) hx hb dL_depth_15 (by decide) ?_
    exact vx_ret (W.iret (v := 1) hx hb hr (fun t ht hW => ⟨⟨1, (u1, f0), rfl, hw, by show va_P G vwCl (co ad C V cI cZ ao cL u1 f0) t.heap; rw [ht]; exact hP1.app hP2⟩, by rw [← eA]; exact hS.F ht⟩) (by rw [← eA]; exact hS.2.2) dL_depth_16)
  · have hP : va_P G vwCl (co ad C V cI cZ ao cL u1 f0) H := hP1.app hP2
    have hD : va_D A (co ad C V cI cZ ao cL u1 f0) := va_D_adr hD rfl
    refine lv_i2l hx hb dL_depth_8 rfl ?_
    refine va_last hx hb hK hP hD hS 15 2 (a := ao) (cA := cL) (n := 1) (f := f0) rfl rfl (i := 0) (by unfold vp_in; decide) dL_depth_9 (fun H locs hP hD hS => ?_)
    have hP : va_P G vwCl (co ad C V cI cZ ao cL u1 (vp_updL f0 0 r.toInt64)) H := hP
    refine lv_goto (tgt := 17) hx hb dL_depth_10 (by decide) ?_
    refine lv_iconst (v := 0) hx hb dL_depth_17 (by decide) ?_
    exact vx_ret (W.iret (v := 0) hx hb hr (fun t ht hW => ⟨⟨0, (u1, vp_updL f0 0 r.toInt64), rfl, hw, by show va_P G vwCl (co ad C V cI cZ ao cL u1 (vp_updL f0 0 r.toInt64)) t.heap; rw [ht]; exact hP⟩, by rw [← eA]; exact hS.F ht⟩) (by rw [← eA]; exact hS.2.2) dL_depth_18)
set_option maxHeartbeats 4000000 in
set_option maxRecDepth 100000 in
theorem c_L_keyAt (l : Launch) (G : va_G) (ad : Nat → Nat) (C V : Nat) (cI cZ : ClassId) (ao : Nat) (cL : ClassId) (p0 p1 : Int32) (u : CS) (f0 : Nat → Int64) (post : Int32 → CS → (Nat → Int64) → Prop) (hlt : l.stackTraces = false)
    (hw : wp_X2_keyAt C V p0 p1 u (fun r u' => post 0 u' (vp_updL f0 0 r.toInt64)) (fun E u' => (E = sNSE ∧ post 1 u' f0) ∨ (E = sIOB ∧ post 2 u' f0))) : CtO l yL_keyAt wsL_keyAt ({ frames := 7, cells := 1, slots := 6, locals := 104 }) G ad C V cI cZ ao cL p0 p1 u f0 post := by
  intro sz
  refine vx_ofWH (cc := cL_keyAt) (maxL := 5) (ret := some .int) (hh := [(0, 10, 13, 13), (0, 10, 17, 21)]) (by decide) rfl ?_
  intro p e s m args below meth c s₁ B hml hv
  obtain ⟨rfl, hsz, hP, hK, hD0, hX⟩ := hv
  have hts := atoms_spec (ws := wsL_keyAt) B.pre
  have hown : s.vm.findClass RL = some m.cls := findClass_of_methodNamed B.named
  have hx := B.exec
  have hb := B.bytes
  have hr := B.returns
  have hlocks := B.notSynchronized
  have htab : c.exceptionTable.toList = tableOf [(0, 10, 13, 13), (0, 10, 17, 21)] := vx_table (x := yL_keyAt) B (hts (.codeWith yL_keyAt cL_keyAt 5 (some .int) [(0, 10, 13, 13), (0, 10, 17, 21)]) List.mem_cons_self)
  subst hsz
  have hD := hD0.self (sz := s.heap.size)
  obtain ⟨A, eA⟩ : ∃ A, A = va_A (co ad C V cI cZ ao cL u f0) s.heap.size := ⟨_, rfl⟩
  have hA : ∀ q, s.heap.size ≤ q → A q := fun q h => by rw [eA]; exact Or.inr h
  rw [← eA] at hD hX
  have hS : va_S A s.heap s.heap [] := va_S.rf
  have hl := lv_entry ([.ref (ad 0), .int p0, .int p1, .ref ao]) (n := 5) (Nat.le_of_ble_eq_true rfl)
  rw [lg_entry_eq]
  generalize (lg_sl ([.ref (ad 0), .int p0, .int p1, .ref ao]) ++ List.replicate (5 - (lg_sl ([.ref (ad 0), .int p0, .int p1, .ref ao])).length) Slot.unset).toArray = ls at hl ⊢
  have hl : lv_has ls 5 [(0, .ref (ad 0)), (1, .int p0), (2, .int p1), (3, .ref ao)] := hl
  refine lv_aload_n hx hb dL_keyAt_0 rfl (lv_at hl 3 rfl) ?_
  refine lv_iconst (v := 0) hx hb dL_keyAt_1 (by decide) ?_
  refine lv_aload_n hx hb dL_keyAt_2 rfl (lv_at hl 0 rfl) ?_
  refine lv_iload_n hx hb dL_keyAt_3 rfl (lv_at hl 1 rfl) ?_
  refine lv_iload_n hx hb dL_keyAt_4 rfl (lv_at hl 2 rfl) ?_
  have hPc : va_P G vwCl (cw ad C V cI cZ u) s.heap := va_P_left hP
  have hPo : va_P G vwCl [oc ao cL f0] s.heap := va_P_right hP
  refine CtX.callF (As := [.int p0, .int p1]) (rest := [.int 0, .ref ao]) (c_X2_keyAt l G ad C V cI cZ p0 p1 u _ _ hlt hw) ⟨hx, hb, hml, hown, hts⟩ (cwV 2 hts gL_keyAt_X2_keyAt rfl rfl rfl (by decide +kernel) ⟨Nat.le_of_ble_eq_true rfl, Nat.le_of_ble_eq_true rfl⟩) (va_recv hK hPc (ci := 2) (q0 := 0) rfl rfl) (hK.sub [0, 1] rfl) hPc hPo hD hX hS hA rfl hl.1 rfl (Nat.le_of_ble_eq_true rfl) dL_keyAt_5 ⟨Nat.le_of_ble_eq_true rfl, Nat.le_of_ble_eq_true rfl⟩ (fun E ce q9 u1 H locs hw hP1 hP2 hS h7 h8 h9 => ?_) (fun r u1 H locs hw hP1 hP2 hS => ?_)
  · rcases hw with ⟨rfl, hw⟩ | ⟨rfl, hw⟩
    · refine vx_catch (own := RL) (name := sNSE) (E := sNSE) hown [] { startPc := 0, endPc := 10, handlerPc := 13, catchType := 13 } [{ startPc := 0, endPc := 10, handlerPc := 17, catchType := 21 }] htab (fun z hz => by cases hz) (by decide) (by decide) (hts (.classLink RL 13 sNSE) (by decide +kernel)) (va_Nw.use rfl hX.1.2.2.2.1) h7 h8 h9 ?_
      refine lv_astore (lv' := [(4, .ref q9), (0, .ref (ad 0)), (1, .int p0), (2, .int p1), (3, .ref ao)]) hx hb dL_keyAt_13 hl (by decide) rfl (fun ls hl => ?_)
      refine lv_iconst (v := 1) hx hb dL_keyAt_15 (by decide) ?_
      exact vx_ret (W.iret (v := 1) hx hb hr (fun t ht hW => ⟨⟨1, (u1, f0), rfl, hw, by show va_P G vwCl (co ad C V cI cZ ao cL u1 f0) t.heap; rw [ht]; exact hP1.app hP2⟩, by rw [← eA]; exact hS.F ht⟩) (by rw [← eA]; exact hS.2.2) dL_keyAt_16)
    · refine vx_catch (own := RL) (name := sIOB) (E := sIOB) hown [{ startPc := 0, endPc := 10, handlerPc := 13, catchType := 13 }] { startPc := 0, endPc := 10, handlerPc := 17, catchType := 21 } [] htab (fun z hz => Or.inr (by cases (List.mem_singleton.mp hz); exact ⟨by decide, sNSE, hts (.classLink RL 13 sNSE) (by decide +kernel), hX.1.2.2.2.2.2⟩)) (by decide) (by decide) (hts (.classLink RL 21 sIOB) (by decide +kernel)) (va_Nw.use rfl hX.1.2.2.2.2.1) h7 h8 h9 ?_
      refine lv_astore (lv' := [(4, .ref q9), (0, .ref (ad 0)), (1, .int p0), (2, .int p1), (3, .ref ao)]) hx hb dL_keyAt_17 hl (by decide) rfl (fun ls hl => ?_)
      refine lv_iconst (v := 2) hx hb dL_keyAt_19 (by decide) ?_
      exact vx_ret (W.iret (v := 2) hx hb hr (fun t ht hW => ⟨⟨2, (u1, f0), rfl, hw, by show va_P G vwCl (co ad C V cI cZ ao cL u1 f0) t.heap; rw [ht]; exact hP1.app hP2⟩, by rw [← eA]; exact hS.F ht⟩) (by rw [← eA]; exact hS.2.2) dL_keyAt_20)
  · have hP : va_P G vwCl (co ad C V cI cZ ao cL u1 f0) H := hP1.app hP2
    have hD : va_D A (co ad C V cI cZ ao cL u1 f0) := va_D_adr hD rfl
    refine lv_i2l hx hb dL_keyAt_8 rfl ?_
    refine va_last hx hb hK hP hD hS 15 2 (a := ao) (cA := cL) (n := 1) (f := f0) rfl rfl (i := 0) (by unfold vp_in; decide) dL_keyAt_9 (fun H locs hP hD hS => ?_)
    have hP : va_P G vwCl (co ad C V cI cZ ao cL u1 (vp_updL f0 0 r.toInt64)) H := hP
    refine lv_goto (tgt := 21) hx hb dL_keyAt_10 (by decide) ?_
    refine lv_iconst (v := 0) hx hb dL_keyAt_21 (by decide) ?_
    exact vx_ret (W.iret (v := 0) hx hb hr (fun t ht hW => ⟨⟨0, (u1, vp_updL f0 0 r.toInt64), rfl, hw, by show va_P G vwCl (co ad C V cI cZ ao cL u1 (vp_updL f0 0 r.toInt64)) t.heap; rw [ht]; exact hP⟩, by rw [← eA]; exact hS.F ht⟩) (by rw [← eA]; exact hS.2.2) dL_keyAt_22)
end WrapL
section CellL
def cellV (L : Nat) (xs : Nat → Int32) (k : Int32) : Int32 := if k < nI L then xs k.toNatClampNeg else 0
set_option maxHeartbeats 4000000 in
theorem c_L_cell (l : Launch) (b L : Nat) (xs : Nat → Int32) (k : Int32) (hk : ¬ k < 0) (hL : L < 2 ^ 31) : Met l yL_cell wsL_cell ({ frames := 0, cells := 0, slots := 0, locals := 0 }) (va_Pc [.ref b, .int k] (fun U => va_X b L xs U U.heap ∧ b < U.heap.size)) (va_Qi (S := Unit) (fun r _ => r = cellV L xs k) (fun _ _ => True) (fun _ => False)) 0 0 (fun _ => False) := by
  refine Met.ofW (cc := cL_cell) (maxL := 2) (ret := some .int) (by decide) rfl ?_
  intro p e s m args below meth c s₁ B hml hv
  obtain ⟨rfl, hX, hb0⟩ := hv
  have hx := B.exec
  have hb := B.bytes
  have hr := B.returns
  have hlocks := B.notSynchronized
  have hS : va_S (fun _ => False) s.heap s.heap [] := va_S.rf
  have hl := lv_entry ([.ref b, .int k]) (n := 2) (Nat.le_of_ble_eq_true rfl)
  rw [lg_entry_eq]
  generalize (lg_sl ([.ref b, .int k]) ++ List.replicate (2 - (lg_sl ([.ref b, .int k])).length) Slot.unset).toArray = ls at hl ⊢
  have hl : lv_has ls 2 [(0, .ref b), (1, .int k)] := hl
  refine lv_iload_n hx hb dL_cell_0 rfl (lv_at hl 1 rfl) ?_
  refine lv_aload_n hx hb dL_cell_1 rfl (lv_at hl 0 rfl) ?_
  refine va_slen hx hb hX hb0 (fun h => h) hS dL_cell_2 ?_
  refine lv_icmp_ge (tgt := 12) hx hb dL_cell_3 (by decide) (fun c1 => ?_) (fun c1 => ?_)
  · have e0 : cellV L xs k = 0 := if_neg (fun h => absurd (show nI L ≤ k from c1) (Int32.not_le.mpr h))
    refine lv_iconst (v := 0) hx hb dL_cell_12 (by decide) ?_
    exact W.iret (v := 0) hx hb hr (fun t ht hW => ⟨⟨0, (), rfl, e0.symm, trivial⟩, hS.F ht⟩) hS.2.2 dL_cell_13
  · have c2 : k < nI L := Int32.not_le.mp c1
    have e0 : cellV L xs k = xs k.toNatClampNeg := if_pos c2
    refine lv_aload_n hx hb dL_cell_6 rfl (lv_at hl 0 rfl) ?_
    refine lv_iload_n hx hb dL_cell_7 rfl (lv_at hl 1 rfl) ?_
    refine va_sld hx hb hX hb0 (fun h => h) hS ?_ dL_cell_8 ?_
    · obtain ⟨j, hj, rfl⟩ := nI_of hk
      have h3 := (nI_ltI hj hL).mp c2
      intro h
      rcases h with h | h
      · exact hk h
      · rw [nI_clamp hj] at h; omega
    refine lv_goto (tgt := 13) hx hb dL_cell_9 (by decide) ?_
    exact W.iret hx hb hr (fun t ht hW => ⟨⟨_, (), rfl, e0.symm, trivial⟩, hS.F ht⟩) hS.2.2 dL_cell_13
end CellL
