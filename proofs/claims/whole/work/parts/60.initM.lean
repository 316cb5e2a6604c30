/-! the reference's constructor -/
section InitR
def ms0 (C V : Nat) (sd : Int32) (f : Nat → Int32) : CS := fun i => match i with
  | 1 => fun _ => nI C
  | 2 => fun _ => nI V
  | 3 => fun _ => sd
  | 15 => upd (fun _ => 0) (Int32.toNatClampNeg 0) (vp_nar .boolean 1)
  | 16 => f
  | _ => fun _ => 0
abbrev md0 (h0 : Nat) : va_W := [(h0, .inr (3, [.int 0, .int 0, .int 0, .int 0, .int 0, .int 0, .null, .null, .null, .null, .null, .null, .null, .null, .int 0, .null, .null, .int 0, .int 0, .int 0, .int 0, .int 0, .int 0, .null]))]
set_option maxHeartbeats 4000000 in
set_option maxRecDepth 100000 in
theorem c_X3_init (l : Launch) (G : va_G) (cI cZ : ClassId) (h0 sz : Nat) (c0 v0 sd : Int32) : Met l yX3_init wsX3_init ({ frames := 1, cells := 11, slots := 1360, locals := 14 }) (va_Pc [.ref h0, .int c0, .int v0, .int sd] (fun U => U.heap.size = sz ∧ va_P G vwCl (md0 h0) U.heap ∧ va_K G vwCl (ty2 cI cZ) U ∧ va_D (fun _ => True) (md0 h0))) (va_Qv (S := (Nat → Nat) × (Nat → Int32)) (fun u => u.1 0 = h0 ∧ ∀ j, j < 8 → u.2 j = -1) (fun u t => va_P G vwCl (mw u.1 cI cZ (ms0 (clC c0) (clV v0) sd u.2)) t.heap ∧ va_D (va_A (md0 h0) sz) (mw u.1 cI cZ (ms0 (clC c0) (clV v0) sd u.2))) (va_A (md0 h0) sz)) 11 1360 (va_A (md0 h0) sz) := by
  refine Met.ofW (cc := cX3_init) (maxL := 5) (ret := none) (by decide) rfl ?_
  intro p e s m args below meth c s₁ B hml hv
  obtain ⟨rfl, hsz, hP, hK, hD0⟩ := hv
  have hx := B.exec
  have hb := B.bytes
  have hr := B.returns
  have hts := atoms_spec (ws := wsX3_init) B.pre
  have hown : s.vm.findClass RX3 = some m.cls := findClass_of_methodNamed B.named
  have hlocks := B.notSynchronized
  have hin : meth.name = "<init>" := (name_of_methodNamed B.named B.method).1
  subst hsz
  have hD := hD0.self (sz := s.heap.size)
  generalize hAe : va_A (md0 h0) s.heap.size = A at hD ⊢
  have hA : ∀ q : Nat, s.heap.size ≤ q → A q := fun q h => by rw [← hAe]; exact Or.inr h
  have hS : va_S A s.heap s.heap [] := va_S.rf
  have hP : va_P G vwCl (md0 h0) s.heap := hP
  have hl := lv_entry ([.ref h0, .int c0, .int v0, .int sd]) (n := 5) (Nat.le_of_ble_eq_true rfl)
  rw [lg_entry_eq]
  generalize (lg_sl ([.ref h0, .int c0, .int v0, .int sd]) ++ List.replicate (5 - (lg_sl ([.ref h0, .int c0, .int v0, .int sd])).length) Slot.unset).toArray = ls at hl ⊢
  have hl : lv_has ls 5 [(0, .ref h0), (1, .int c0), (2, .int v0), (3, .int sd)] := hl
  have hi : ∀ w ∈ u_ws RX3 TX3 24, w ∈ wsX3_init := by decide +kernel
  have eC1 := @clC_out c0
  have eC2 := @clC_in c0
  have eV1 := @clV_out v0
  have eV2 := @clV_in v0
  generalize clC c0 = C at eC1 eC2 ⊢
  generalize clV v0 = V at eV1 eV2 ⊢
  have hend : ∀ (u : (Nat → Nat) × (Nat → Int32)) (H : Heap) (locs : List Loc) (ls : Array Slot), u.1 0 = h0 → (∀ j, j < 8 → u.2 j = -1) → va_P G vwCl (mw u.1 cI cZ (ms0 C V sd u.2)) H → va_D A (mw u.1 cI cZ (ms0 C V sd u.2)) → va_S A s.heap H locs → W p l e (headSpec wsX3_init ({ frames := 1, cells := 11, slots := 1360, locals := 14 })).room s m #[Value.ref h0, Value.int c0, Value.int v0, Value.int sd] below meth c H locs 11 1360 (MQ below (va_Qv (S := (Nat → Nat) × (Nat → Int32)) (fun u => u.1 0 = h0 ∧ ∀ j, j < 8 → u.2 j = -1) (fun u t => va_P G vwCl (mw u.1 cI cZ (ms0 C V sd u.2)) t.heap ∧ va_D A (mw u.1 cI cZ (ms0 C V sd u.2))) A) #[Value.ref h0, Value.int c0, Value.int v0, Value.int sd] s 11 1360 A) (F0 m 177 ls []) := by
    intro u H locs ls h1 h2 hP hD hS
    exact W.vret hx hb hr (fun t ht hW => ⟨⟨u, rfl, ⟨h1, h2⟩, by rw [ht]; exact hP, hD⟩, hS.F ht⟩) hS.2.2 dX3_init_177
  generalize (MQ below (va_Qv (S := (Nat → Nat) × (Nat → Int32)) (fun u => u.1 0 = h0 ∧ ∀ j, j < 8 → u.2 j = -1) (fun u t => va_P G vwCl (mw u.1 cI cZ (ms0 C V sd u.2)) t.heap ∧ va_D A (mw u.1 cI cZ (ms0 C V sd u.2))) A) #[Value.ref h0, Value.int c0, Value.int v0, Value.int sd] s 11 1360 A) = Q at hend ⊢
  refine lv_aload_n hx hb dX3_init_0 rfl (lv_at hl 0 rfl) ?_
  refine W.objInit hx hb hown (hts (.methodLink RX3 1 objectInit) (by decide +kernel)) (hts (.instanceMethod objectInit) (by decide +kernel)) (hts (.code objectInit ⟨#[0xb1]⟩ 1 none) (by decide +kernel)) rfl (by rw [hml]; exact hl.1) rfl dX3_init_1 (Nat.le_of_ble_eq_true rfl) (Nat.le_of_ble_eq_true rfl) ?_
  refine W.eq (g2 := F0 m 4 ls []) rfl ?_
  refine lv_aload_n hx hb dX3_init_4 rfl (lv_at hl 0 rfl) ?_
  refine lv_sipush (v := 160) hx hb dX3_init_5 (by decide) ?_
  refine va_newI (atype := .int) (ty := .int) (N' := 160) (a0 := (160, .inl (fun _ => 0))) hx hb (hts (.arrayClass .int) (by decide +kernel)) rfl hK hP hD hS hA 0 rfl (fun _ h => h) (fun _ => rfl) rfl (by decide) (by decide) (Nat.le_of_ble_eq_true rfl) (Nat.le_of_ble_eq_true rfl) dX3_init_8 (fun q1 H hP hD hS => ?_)
  refine W.widen (k := 1) (n := 160) (Nat.le_refl _) (Nat.le_refl _) ?_
  have hP : va_P G vwCl [(h0, .inr (3, [.int 0, .int 0, .int 0, .int 0, .int 0, .int 0, .null, .null, .null, .null, .null, .null, .null, .null, .int 0, .null, .null, .int 0, .int 0, .int 0, .int 0, .int 0, .int 0, .null])), (q1, zI cI 160)] H := hP
  have hD : va_D A [(h0, .inr (3, [.int 0, .int 0, .int 0, .int 0, .int 0, .int 0, .null, .null, .null, .null, .null, .null, .null, .null, .int 0, .null, .null, .int 0, .int 0, .int 0, .int 0, .int 0, .int 0, .null])), (q1, zI cI 160)] := hD
  refine va_putF (D := G) (ci := 3) (v := .ref q1) (ty := .array .int) (C := RX3) (T := TX3) (N := 24) hx hb hts hi tyX3 tyX3_ok nmX3 hown hK hP hD hS 0 rfl rfl 6 (by decide) (hts (.fieldLink RX3 7 "TreapVersionsModel" "key" "[I") (by decide +kernel)) (fun _ h9 => h9) rfl hin rfl (by decide +kernel) rfl rfl (Nat.le_of_ble_eq_true rfl) dX3_init_10 (fun H locs hP hD hS => ?_)
  have hP : va_P G vwCl [(h0, .inr (3, [.int 0, .int 0, .int 0, .int 0, .int 0, .int 0, .ref q1, .null, .null, .null, .null, .null, .null, .null, .int 0, .null, .null, .int 0, .int 0, .int 0, .int 0, .int 0, .int 0, .null])), (q1, zI cI 160)] H := hP
  have hD : va_D A [(h0, .inr (3, [.int 0, .int 0, .int 0, .int 0, .int 0, .int 0, .ref q1, .null, .null, .null, .null, .null, .null, .null, .int 0, .null, .null, .int 0, .int 0, .int 0, .int 0, .int 0, .int 0, .null])), (q1, zI cI 160)] := hD
  refine lv_aload_n hx hb dX3_init_13 rfl (lv_at hl 0 rfl) ?_
  refine lv_sipush (v := 160) hx hb dX3_init_14 (by decide) ?_
  refine va_newI (atype := .int) (ty := .int) (N' := 160) (a0 := (160, .inl (fun _ => 0))) hx hb (hts (.arrayClass .int) (by decide +kernel)) rfl hK hP hD hS hA 0 rfl (fun _ h => h) (fun _ => rfl) rfl (by decide) (by decide) (Nat.le_of_ble_eq_true rfl) (Nat.le_of_ble_eq_true rfl) dX3_init_17 (fun q2 H hP hD hS => ?_)
  refine W.widen (k := 2) (n := 320) (Nat.le_refl _) (Nat.le_refl _) ?_
  have hP : va_P G vwCl [(h0, .inr (3, [.int 0, .int 0, .int 0, .int 0, .int 0, .int 0, .ref q1, .null, .null, .null, .null, .null, .null, .null, .int 0, .null, .null, .int 0, .int 0, .int 0, .int 0, .int 0, .int 0, .null])), (q1, zI cI 160), (q2, zI cI 160)] H := hP
  have hD : va_D A [(h0, .inr (3, [.int 0, .int 0, .int 0, .int 0, .int 0, .int 0, .ref q1, .null, .null, .null, .null, .null, .null, .null, .int 0, .null, .null, .int 0, .int 0, .int 0, .int 0, .int 0, .int 0, .null])), (q1, zI cI 160), (q2, zI cI 160)] := hD
  refine va_putF (D := G) (ci := 3) (v := .ref q2) (ty := .array .int) (C := RX3) (T := TX3) (N := 24) hx hb hts hi tyX3 tyX3_ok nmX3 hown hK hP hD hS 0 rfl rfl 7 (by decide) (hts (.fieldLink RX3 13 "TreapVersionsModel" "value" "[I") (by decide +kernel)) (fun _ h9 => h9) rfl hin rfl (by decide +kernel) rfl rfl (Nat.le_of_ble_eq_true rfl) dX3_init_19 (fun H locs hP hD hS => ?_)
  have hP : va_P G vwCl [(h0, .inr (3, [.int 0, .int 0, .int 0, .int 0, .int 0, .int 0, .ref q1, .ref q2, .null, .null, .null, .null, .null, .null, .int 0, .null, .null, .int 0, .int 0, .int 0, .int 0, .int 0, .int 0, .null])), (q1, zI cI 160), (q2, zI cI 160)] H := hP
  have hD : va_D A [(h0, .inr (3, [.int 0, .int 0, .int 0, .int 0, .int 0, .int 0, .ref q1, .ref q2, .null, .null, .null, .null, .null, .null, .int 0, .null, .null, .int 0, .int 0, .int 0, .int 0, .int 0, .int 0, .null])), (q1, zI cI 160), (q2, zI cI 160)] := hD
  refine lv_aload_n hx hb dX3_init_22 rfl (lv_at hl 0 rfl) ?_
  refine lv_sipush (v := 160) hx hb dX3_init_23 (by decide) ?_
  refine va_newI (atype := .int) (ty := .int) (N' := 160) (a0 := (160, .inl (fun _ => 0))) hx hb (hts (.arrayClass .int) (by decide +kernel)) rfl hK hP hD hS hA 0 rfl (fun _ h => h) (fun _ => rfl) rfl (by decide) (by decide) (Nat.le_of_ble_eq_true rfl) (Nat.le_of_ble_eq_true rfl) dX3_init_26 (fun q3 H hP hD hS => ?_)
  refine W.widen (k := 3) (n := 480) (Nat.le_refl _) (Nat.le_refl _) ?_
  have hP : va_P G vwCl [(h0, .inr (3, [.int 0, .int 0, .int 0, .int 0, .int 0, .int 0, .ref q1, .ref q2, .null, .null, .null, .null, .null, .null, .int 0, .null, .null, .int 0, .int 0, .int 0, .int 0, .int 0, .int 0, .null])), (q1, zI cI 160), (q2, zI cI 160), (q3, zI cI 160)] H := hP
  have hD : va_D A [(h0, .inr (3, [.int 0, .int 0, .int 0, .int 0, .int 0, .int 0, .ref q1, .ref q2, .null, .null, .null, .null, .null, .null, .int 0, .null, .null, .int 0, .int 0, .int 0, .int 0, .int 0, .int 0, .null])), (q1, zI cI 160), (q2, zI cI 160), (q3, zI cI 160)] := hD
  refine va_putF (D := G) (ci := 3) (v := .ref q3) (ty := .array .int) (C := RX3) (T := TX3) (N := 24) hx hb hts hi tyX3 tyX3_ok nmX3 hown hK hP hD hS 0 rfl rfl 8 (by decide) (hts (.fieldLink RX3 16 "TreapVersionsModel" "weight" "[I") (by decide +kernel)) (fun _ h9 => h9) rfl hin rfl (by decide +kernel) rfl rfl (Nat.le_of_ble_eq_true rfl) dX3_init_28 (fun H locs hP hD hS => ?_)
  have hP : va_P G vwCl [(h0, .inr (3, [.int 0, .int 0, .int 0, .int 0, .int 0, .int 0, .ref q1, .ref q2, .ref q3, .null, .null, .null, .null, .null, .int 0, .null, .null, .int 0, .int 0, .int 0, .int 0, .int 0, .int 0, .null])), (q1, zI cI 160), (q2, zI cI 160), (q3, zI cI 160)] H := hP
  have hD : va_D A [(h0, .inr (3, [.int 0, .int 0, .int 0, .int 0, .int 0, .int 0, .ref q1, .ref q2, .ref q3, .null, .null, .null, .null, .null, .int 0, .null, .null, .int 0, .int 0, .int 0, .int 0, .int 0, .int 0, .null])), (q1, zI cI 160), (q2, zI cI 160), (q3, zI cI 160)] := hD
  refine lv_aload_n hx hb dX3_init_31 rfl (lv_at hl 0 rfl) ?_
  refine lv_sipush (v := 160) hx hb dX3_init_32 (by decide) ?_
  refine va_newI (atype := .int) (ty := .int) (N' := 160) (a0 := (160, .inl (fun _ => 0))) hx hb (hts (.arrayClass .int) (by decide +kernel)) rfl hK hP hD hS hA 0 rfl (fun _ h => h) (fun _ => rfl) rfl (by decide) (by decide) (Nat.le_of_ble_eq_true rfl) (Nat.le_of_ble_eq_true rfl) dX3_init_35 (fun q4 H hP hD hS => ?_)
  refine W.widen (k := 4) (n := 640) (Nat.le_refl _) (Nat.le_refl _) ?_
  have hP : va_P G vwCl [(h0, .inr (3, [.int 0, .int 0, .int 0, .int 0, .int 0, .int 0, .ref q1, .ref q2, .ref q3, .null, .null, .null, .null, .null, .int 0, .null, .null, .int 0, .int 0, .int 0, .int 0, .int 0, .int 0, .null])), (q1, zI cI 160), (q2, zI cI 160), (q3, zI cI 160), (q4, zI cI 160)] H := hP
  have hD : va_D A [(h0, .inr (3, [.int 0, .int 0, .int 0, .int 0, .int 0, .int 0, .ref q1, .ref q2, .ref q3, .null, .null, .null, .null, .null, .int 0, .null, .null, .int 0, .int 0, .int 0, .int 0, .int 0, .int 0, .null])), (q1, zI cI 160), (q2, zI cI 160), (q3, zI cI 160), (q4, zI cI 160)] := hD
  refine va_putF (D := G) (ci := 3) (v := .ref q4) (ty := .array .int) (C := RX3) (T := TX3) (N := 24) hx hb hts hi tyX3 tyX3_ok nmX3 hown hK hP hD hS 0 rfl rfl 9 (by decide) (hts (.fieldLink RX3 19 "TreapVersionsModel" "left" "[I") (by decide +kernel)) (fun _ h9 => h9) rfl hin rfl (by decide +kernel) rfl rfl (Nat.le_of_ble_eq_true rfl) dX3_init_37 (fun H locs hP hD hS => ?_)
  have hP : va_P G vwCl [(h0, .inr (3, [.int 0, .int 0, .int 0, .int 0, .int 0, .int 0, .ref q1, .ref q2, .ref q3, .ref q4, .null, .null, .null, .null, .int 0, .null, .null, .int 0, .int 0, .int 0, .int 0, .int 0, .int 0, .null])), (q1, zI cI 160), (q2, zI cI 160), (q3, zI cI 160), (q4, zI cI 160)] H := hP
  have hD : va_D A [(h0, .inr (3, [.int 0, .int 0, .int 0, .int 0, .int 0, .int 0, .ref q1, .ref q2, .ref q3, .ref q4, .null, .null, .null, .null, .int 0, .null, .null, .int 0, .int 0, .int 0, .int 0, .int 0, .int 0, .null])), (q1, zI cI 160), (q2, zI cI 160), (q3, zI cI 160), (q4, zI cI 160)] := hD
  refine lv_aload_n hx hb dX3_init_40 rfl (lv_at hl 0 rfl) ?_
  refine lv_sipush (v := 160) hx hb dX3_init_41 (by decide) ?_
  refine va_newI (atype := .int) (ty := .int) (N' := 160) (a0 := (160, .inl (fun _ => 0))) hx hb (hts (.arrayClass .int) (by decide +kernel)) rfl hK hP hD hS hA 0 rfl (fun _ h => h) (fun _ => rfl) rfl (by decide) (by decide) (Nat.le_of_ble_eq_true rfl) (Nat.le_of_ble_eq_true rfl) dX3_init_44 (fun q5 H hP hD hS => ?_)
  refine W.widen (k := 5) (n := 800) (Nat.le_refl _) (Nat.le_refl _) ?_
  have hP : va_P G vwCl [(h0, .inr (3, [.int 0, .int 0, .int 0, .int 0, .int 0, .int 0, .ref q1, .ref q2, .ref q3, .ref q4, .null, .null, .null, .null, .int 0, .null, .null, .int 0, .int 0, .int 0, .int 0, .int 0, .int 0, .null])), (q1, zI cI 160), (q2, zI cI 160), (q3, zI cI 160), (q4, zI cI 160), (q5, zI cI 160)] H := hP
  have hD : va_D A [(h0, .inr (3, [.int 0, .int 0, .int 0, .int 0, .int 0, .int 0, .ref q1, .ref q2, .ref q3, .ref q4, .null, .null, .null, .null, .int 0, .null, .null, .int 0, .int 0, .int 0, .int 0, .int 0, .int 0, .null])), (q1, zI cI 160), (q2, zI cI 160), (q3, zI cI 160), (q4, zI cI 160), (q5, zI cI 160)] := hD
  refine va_putF (D := G) (ci := 3) (v := .ref q5) (ty := .array .int) (C := RX3) (T := TX3) (N := 24) hx hb hts hi tyX3 tyX3_ok nmX3 hown hK hP hD hS 0 rfl rfl 10 (by decide) (hts (.fieldLink RX3 22 "TreapVersionsModel" "right" "[I") (by decide +kernel)) (fun _ h9 => h9) rfl hin rfl (by decide +kernel) rfl rfl (Nat.le_of_ble_eq_true rfl) dX3_init_46 (fun H locs hP hD hS => ?_)
  have hP : va_P G vwCl [(h0, .inr (3, [.int 0, .int 0, .int 0, .int 0, .int 0, .int 0, .ref q1, .ref q2, .ref q3, .ref q4, .ref q5, .null, .null, .null, .int 0, .null, .null, .int 0, .int 0, .int 0, .int 0, .int 0, .int 0, .null])), (q1, zI cI 160), (q2, zI cI 160), (q3, zI cI 160), (q4, zI cI 160), (q5, zI cI 160)] H := hP
  have hD : va_D A [(h0, .inr (3, [.int 0, .int 0, .int 0, .int 0, .int 0, .int 0, .ref q1, .ref q2, .ref q3, .ref q4, .ref q5, .null, .null, .null, .int 0, .null, .null, .int 0, .int 0, .int 0, .int 0, .int 0, .int 0, .null])), (q1, zI cI 160), (q2, zI cI 160), (q3, zI cI 160), (q4, zI cI 160), (q5, zI cI 160)] := hD
  refine lv_aload_n hx hb dX3_init_49 rfl (lv_at hl 0 rfl) ?_
  refine lv_sipush (v := 160) hx hb dX3_init_50 (by decide) ?_
  refine va_newI (atype := .boolean) (ty := .boolean) (N' := 160) (a0 := (160, .inl (fun _ => 0))) hx hb (hts (.arrayClass .boolean) (by decide +kernel)) rfl hK hP hD hS hA 1 rfl (fun _ h => h) (fun _ => rfl) rfl (by decide) (by decide) (Nat.le_of_ble_eq_true rfl) (Nat.le_of_ble_eq_true rfl) dX3_init_53 (fun q6 H hP hD hS => ?_)
  refine W.widen (k := 6) (n := 960) (Nat.le_refl _) (Nat.le_refl _) ?_
  have hP : va_P G vwCl [(h0, .inr (3, [.int 0, .int 0, .int 0, .int 0, .int 0, .int 0, .ref q1, .ref q2, .ref q3, .ref q4, .ref q5, .null, .null, .null, .int 0, .null, .null, .int 0, .int 0, .int 0, .int 0, .int 0, .int 0, .null])), (q1, zI cI 160), (q2, zI cI 160), (q3, zI cI 160), (q4, zI cI 160), (q5, zI cI 160), (q6, zI cZ 160)] H := hP
  have hD : va_D A [(h0, .inr (3, [.int 0, .int 0, .int 0, .int 0, .int 0, .int 0, .ref q1, .ref q2, .ref q3, .ref q4, .ref q5, .null, .null, .null, .int 0, .null, .null, .int 0, .int 0, .int 0, .int 0, .int 0, .int 0, .null])), (q1, zI cI 160), (q2, zI cI 160), (q3, zI cI 160), (q4, zI cI 160), (q5, zI cI 160), (q6, zI cZ 160)] := hD
  refine va_putF (D := G) (ci := 3) (v := .ref q6) (ty := .array .boolean) (C := RX3) (T := TX3) (N := 24) hx hb hts hi tyX3 tyX3_ok nmX3 hown hK hP hD hS 0 rfl rfl 11 (by decide) (hts (.fieldLink RX3 25 "TreapVersionsModel" "live" "[Z") (by decide +kernel)) (fun _ h9 => h9) rfl hin rfl (by decide +kernel) rfl rfl (Nat.le_of_ble_eq_true rfl) dX3_init_55 (fun H locs hP hD hS => ?_)
  have hP : va_P G vwCl [(h0, .inr (3, [.int 0, .int 0, .int 0, .int 0, .int 0, .int 0, .ref q1, .ref q2, .ref q3, .ref q4, .ref q5, .ref q6, .null, .null, .int 0, .null, .null, .int 0, .int 0, .int 0, .int 0, .int 0, .int 0, .null])), (q1, zI cI 160), (q2, zI cI 160), (q3, zI cI 160), (q4, zI cI 160), (q5, zI cI 160), (q6, zI cZ 160)] H := hP
  have hD : va_D A [(h0, .inr (3, [.int 0, .int 0, .int 0, .int 0, .int 0, .int 0, .ref q1, .ref q2, .ref q3, .ref q4, .ref q5, .ref q6, .null, .null, .int 0, .null, .null, .int 0, .int 0, .int 0, .int 0, .int 0, .int 0, .null])), (q1, zI cI 160), (q2, zI cI 160), (q3, zI cI 160), (q4, zI cI 160), (q5, zI cI 160), (q6, zI cZ 160)] := hD
  refine lv_aload_n hx hb dX3_init_58 rfl (lv_at hl 0 rfl) ?_
  refine lv_sipush (v := 160) hx hb dX3_init_59 (by decide) ?_
  refine va_newI (atype := .boolean) (ty := .boolean) (N' := 160) (a0 := (160, .inl (fun _ => 0))) hx hb (hts (.arrayClass .boolean) (by decide +kernel)) rfl hK hP hD hS hA 1 rfl (fun _ h => h) (fun _ => rfl) rfl (by decide) (by decide) (Nat.le_of_ble_eq_true rfl) (Nat.le_of_ble_eq_true rfl) dX3_init_62 (fun q7 H hP hD hS => ?_)
  refine W.widen (k := 7) (n := 1120) (Nat.le_refl _) (Nat.le_refl _) ?_
  have hP : va_P G vwCl [(h0, .inr (3, [.int 0, .int 0, .int 0, .int 0, .int 0, .int 0, .ref q1, .ref q2, .ref q3, .ref q4, .ref q5, .ref q6, .null, .null, .int 0, .null, .null, .int 0, .int 0, .int 0, .int 0, .int 0, .int 0, .null])), (q1, zI cI 160), (q2, zI cI 160), (q3, zI cI 160), (q4, zI cI 160), (q5, zI cI 160), (q6, zI cZ 160), (q7, zI cZ 160)] H := hP
  have hD : va_D A [(h0, .inr (3, [.int 0, .int 0, .int 0, .int 0, .int 0, .int 0, .ref q1, .ref q2, .ref q3, .ref q4, .ref q5, .ref q6, .null, .null, .int 0, .null, .null, .int 0, .int 0, .int 0, .int 0, .int 0, .int 0, .null])), (q1, zI cI 160), (q2, zI cI 160), (q3, zI cI 160), (q4, zI cI 160), (q5, zI cI 160), (q6, zI cZ 160), (q7, zI cZ 160)] := hD
  refine va_putF (D := G) (ci := 3) (v := .ref q7) (ty := .array .boolean) (C := RX3) (T := TX3) (N := 24) hx hb hts hi tyX3 tyX3_ok nmX3 hown hK hP hD hS 0 rfl rfl 12 (by decide) (hts (.fieldLink RX3 29 "TreapVersionsModel" "other" "[Z") (by decide +kernel)) (fun _ h9 => h9) rfl hin rfl (by decide +kernel) rfl rfl (Nat.le_of_ble_eq_true rfl) dX3_init_64 (fun H locs hP hD hS => ?_)
  have hP : va_P G vwCl [(h0, .inr (3, [.int 0, .int 0, .int 0, .int 0, .int 0, .int 0, .ref q1, .ref q2, .ref q3, .ref q4, .ref q5, .ref q6, .ref q7, .null, .int 0, .null, .null, .int 0, .int 0, .int 0, .int 0, .int 0, .int 0, .null])), (q1, zI cI 160), (q2, zI cI 160), (q3, zI cI 160), (q4, zI cI 160), (q5, zI cI 160), (q6, zI cZ 160), (q7, zI cZ 160)] H := hP
  have hD : va_D A [(h0, .inr (3, [.int 0, .int 0, .int 0, .int 0, .int 0, .int 0, .ref q1, .ref q2, .ref q3, .ref q4, .ref q5, .ref q6, .ref q7, .null, .int 0, .null, .null, .int 0, .int 0, .int 0, .int 0, .int 0, .int 0, .null])), (q1, zI cI 160), (q2, zI cI 160), (q3, zI cI 160), (q4, zI cI 160), (q5, zI cI 160), (q6, zI cZ 160), (q7, zI cZ 160)] := hD
  refine lv_aload_n hx hb dX3_init_67 rfl (lv_at hl 0 rfl) ?_
  refine lv_sipush (v := 160) hx hb dX3_init_68 (by decide) ?_
  refine va_newI (atype := .int) (ty := .int) (N' := 160) (a0 := (160, .inl (fun _ => 0))) hx hb (hts (.arrayClass .int) (by decide +kernel)) rfl hK hP hD hS hA 0 rfl (fun _ h => h) (fun _ => rfl) rfl (by decide) (by decide) (Nat.le_of_ble_eq_true rfl) (Nat.le_of_ble_eq_true rfl) dX3_init_71 (fun q8 H hP hD hS => ?_)
  refine W.widen (k := 8) (n := 1280) (Nat.le_refl _) (Nat.le_refl _) ?_
  have hP : va_P G vwCl [(h0, .inr (3, [.int 0, .int 0, .int 0, .int 0, .int 0, .int 0, .ref q1, .ref q2, .ref q3, .ref q4, .ref q5, .ref q6, .ref q7, .null, .int 0, .null, .null, .int 0, .int 0, .int 0, .int 0, .int 0, .int 0, .null])), (q1, zI cI 160), (q2, zI cI 160), (q3, zI cI 160), (q4, zI cI 160), (q5, zI cI 160), (q6, zI cZ 160), (q7, zI cZ 160), (q8, zI cI 160)] H := hP
  have hD : va_D A [(h0, .inr (3, [.int 0, .int 0, .int 0, .int 0, .int 0, .int 0, .ref q1, .ref q2, .ref q3, .ref q4, .ref q5, .ref q6, .ref q7, .null, .int 0, .null, .null, .int 0, .int 0, .int 0, .int 0, .int 0, .int 0, .null])), (q1, zI cI 160), (q2, zI cI 160), (q3, zI cI 160), (q4, zI cI 160), (q5, zI cI 160), (q6, zI cZ 160), (q7, zI cZ 160), (q8, zI cI 160)] := hD
  refine va_putF (D := G) (ci := 3) (v := .ref q8) (ty := .array .int) (C := RX3) (T := TX3) (N := 24) hx hb hts hi tyX3 tyX3_ok nmX3 hown hK hP hD hS 0 rfl rfl 13 (by decide) (hts (.fieldLink RX3 32 "TreapVersionsModel" "stack" "[I") (by decide +kernel)) (fun _ h9 => h9) rfl hin rfl (by decide +kernel) rfl rfl (Nat.le_of_ble_eq_true rfl) dX3_init_73 (fun H locs hP hD hS => ?_)
  have hP : va_P G vwCl [(h0, .inr (3, [.int 0, .int 0, .int 0, .int 0, .int 0, .int 0, .ref q1, .ref q2, .ref q3, .ref q4, .ref q5, .ref q6, .ref q7, .ref q8, .int 0, .null, .null, .int 0, .int 0, .int 0, .int 0, .int 0, .int 0, .null])), (q1, zI cI 160), (q2, zI cI 160), (q3, zI cI 160), (q4, zI cI 160), (q5, zI cI 160), (q6, zI cZ 160), (q7, zI cZ 160), (q8, zI cI 160)] H := hP
  have hD : va_D A [(h0, .inr (3, [.int 0, .int 0, .int 0, .int 0, .int 0, .int 0, .ref q1, .ref q2, .ref q3, .ref q4, .ref q5, .ref q6, .ref q7, .ref q8, .int 0, .null, .null, .int 0, .int 0, .int 0, .int 0, .int 0, .int 0, .null])), (q1, zI cI 160), (q2, zI cI 160), (q3, zI cI 160), (q4, zI cI 160), (q5, zI cI 160), (q6, zI cZ 160), (q7, zI cZ 160), (q8, zI cI 160)] := hD
  refine lv_aload_n hx hb dX3_init_76 rfl (lv_at hl 0 rfl) ?_
  refine lv_bipush (v := 8) hx hb dX3_init_77 (by decide) ?_
  refine va_newI (atype := .boolean) (ty := .boolean) (N' := 8) (a0 := (8, .inl (fun _ => 0))) hx hb (hts (.arrayClass .boolean) (by decide +kernel)) rfl hK hP hD hS hA 1 rfl (fun _ h => h) (fun _ => rfl) rfl (by decide) (by decide) (Nat.le_of_ble_eq_true rfl) (Nat.le_of_ble_eq_true rfl) dX3_init_79 (fun q9 H hP hD hS => ?_)
  refine W.widen (k := 9) (n := 1288) (Nat.le_refl _) (Nat.le_refl _) ?_
  have hP : va_P G vwCl [(h0, .inr (3, [.int 0, .int 0, .int 0, .int 0, .int 0, .int 0, .ref q1, .ref q2, .ref q3, .ref q4, .ref q5, .ref q6, .ref q7, .ref q8, .int 0, .null, .null, .int 0, .int 0, .int 0, .int 0, .int 0, .int 0, .null])), (q1, zI cI 160), (q2, zI cI 160), (q3, zI cI 160), (q4, zI cI 160), (q5, zI cI 160), (q6, zI cZ 160), (q7, zI cZ 160), (q8, zI cI 160), (q9, zI cZ 8)] H := hP
  have hD : va_D A [(h0, .inr (3, [.int 0, .int 0, .int 0, .int 0, .int 0, .int 0, .ref q1, .ref q2, .ref q3, .ref q4, .ref q5, .ref q6, .ref q7, .ref q8, .int 0, .null, .null, .int 0, .int 0, .int 0, .int 0, .int 0, .int 0, .null])), (q1, zI cI 160), (q2, zI cI 160), (q3, zI cI 160), (q4, zI cI 160), (q5, zI cI 160), (q6, zI cZ 160), (q7, zI cZ 160), (q8, zI cI 160), (q9, zI cZ 8)] := hD
  refine va_putF (D := G) (ci := 3) (v := .ref q9) (ty := .array .boolean) (C := RX3) (T := TX3) (N := 24) hx hb hts hi tyX3 tyX3_ok nmX3 hown hK hP hD hS 0 rfl rfl 15 (by decide) (hts (.fieldLink RX3 35 "TreapVersionsModel" "isLive" "[Z") (by decide +kernel)) (fun _ h9 => h9) rfl hin rfl (by decide +kernel) rfl rfl (Nat.le_of_ble_eq_true rfl) dX3_init_81 (fun H locs hP hD hS => ?_)
  have hP : va_P G vwCl [(h0, .inr (3, [.int 0, .int 0, .int 0, .int 0, .int 0, .int 0, .ref q1, .ref q2, .ref q3, .ref q4, .ref q5, .ref q6, .ref q7, .ref q8, .int 0, .ref q9, .null, .int 0, .int 0, .int 0, .int 0, .int 0, .int 0, .null])), (q1, zI cI 160), (q2, zI cI 160), (q3, zI cI 160), (q4, zI cI 160), (q5, zI cI 160), (q6, zI cZ 160), (q7, zI cZ 160), (q8, zI cI 160), (q9, zI cZ 8)] H := hP
  have hD : va_D A [(h0, .inr (3, [.int 0, .int 0, .int 0, .int 0, .int 0, .int 0, .ref q1, .ref q2, .ref q3, .ref q4, .ref q5, .ref q6, .ref q7, .ref q8, .int 0, .ref q9, .null, .int 0, .int 0, .int 0, .int 0, .int 0, .int 0, .null])), (q1, zI cI 160), (q2, zI cI 160), (q3, zI cI 160), (q4, zI cI 160), (q5, zI cI 160), (q6, zI cZ 160), (q7, zI cZ 160), (q8, zI cI 160), (q9, zI cZ 8)] := hD
  refine lv_aload_n hx hb dX3_init_84 rfl (lv_at hl 0 rfl) ?_
  refine lv_bipush (v := 8) hx hb dX3_init_85 (by decide) ?_
  refine va_newI (atype := .int) (ty := .int) (N' := 8) (a0 := (8, .inl (fun _ => 0))) hx hb (hts (.arrayClass .int) (by decide +kernel)) rfl hK hP hD hS hA 0 rfl (fun _ h => h) (fun _ => rfl) rfl (by decide) (by decide) (Nat.le_of_ble_eq_true rfl) (Nat.le_of_ble_eq_true rfl) dX3_init_87 (fun q10 H hP hD hS => ?_)
  refine W.widen (k := 10) (n := 1296) (Nat.le_refl _) (Nat.le_refl _) ?_
  have hP : va_P G vwCl [(h0, .inr (3, [.int 0, .int 0, .int 0, .int 0, .int 0, .int 0, .ref q1, .ref q2, .ref q3, .ref q4, .ref q5, .ref q6, .ref q7, .ref q8, .int 0, .ref q9, .null, .int 0, .int 0, .int 0, .int 0, .int 0, .int 0, .null])), (q1, zI cI 160), (q2, zI cI 160), (q3, zI cI 160), (q4, zI cI 160), (q5, zI cI 160), (q6, zI cZ 160), (q7, zI cZ 160), (q8, zI cI 160), (q9, zI cZ 8), (q10, zI cI 8)] H := hP
  have hD : va_D A [(h0, .inr (3, [.int 0, .int 0, .int 0, .int 0, .int 0, .int 0, .ref q1, .ref q2, .ref q3, .ref q4, .ref q5, .ref q6, .ref q7, .ref q8, .int 0, .ref q9, .null, .int 0, .int 0, .int 0, .int 0, .int 0, .int 0, .null])), (q1, zI cI 160), (q2, zI cI 160), (q3, zI cI 160), (q4, zI cI 160), (q5, zI cI 160), (q6, zI cZ 160), (q7, zI cZ 160), (q8, zI cI 160), (q9, zI cZ 8), (q10, zI cI 8)] := hD
  refine va_putF (D := G) (ci := 3) (v := .ref q10) (ty := .array .int) (C := RX3) (T := TX3) (N := 24) hx hb hts hi tyX3 tyX3_ok nmX3 hown hK hP hD hS 0 rfl rfl 16 (by decide) (hts (.fieldLink RX3 38 "TreapVersionsModel" "root" "[I") (by decide +kernel)) (fun _ h9 => h9) rfl hin rfl (by decide +kernel) rfl rfl (Nat.le_of_ble_eq_true rfl) dX3_init_89 (fun H locs hP hD hS => ?_)
  have hP : va_P G vwCl [(h0, .inr (3, [.int 0, .int 0, .int 0, .int 0, .int 0, .int 0, .ref q1, .ref q2, .ref q3, .ref q4, .ref q5, .ref q6, .ref q7, .ref q8, .int 0, .ref q9, .ref q10, .int 0, .int 0, .int 0, .int 0, .int 0, .int 0, .null])), (q1, zI cI 160), (q2, zI cI 160), (q3, zI cI 160), (q4, zI cI 160), (q5, zI cI 160), (q6, zI cZ 160), (q7, zI cZ 160), (q8, zI cI 160), (q9, zI cZ 8), (q10, zI cI 8)] H := hP
  have hD : va_D A [(h0, .inr (3, [.int 0, .int 0, .int 0, .int 0, .int 0, .int 0, .ref q1, .ref q2, .ref q3, .ref q4, .ref q5, .ref q6, .ref q7, .ref q8, .int 0, .ref q9, .ref q10, .int 0, .int 0, .int 0, .int 0, .int 0, .int 0, .null])), (q1, zI cI 160), (q2, zI cI 160), (q3, zI cI 160), (q4, zI cI 160), (q5, zI cI 160), (q6, zI cZ 160), (q7, zI cZ 160), (q8, zI cI 160), (q9, zI cZ 8), (q10, zI cI 8)] := hD
  refine lv_aload_n hx hb dX3_init_92 rfl (lv_at hl 0 rfl) ?_
  refine lv_bipush (v := 64) hx hb dX3_init_93 (by decide) ?_
  refine va_newI (atype := .int) (ty := .int) (N' := 64) (a0 := (64, .inl (fun _ => 0))) hx hb (hts (.arrayClass .int) (by decide +kernel)) rfl hK hP hD hS hA 0 rfl (fun _ h => h) (fun _ => rfl) rfl (by decide) (by decide) (Nat.le_of_ble_eq_true rfl) (Nat.le_of_ble_eq_true rfl) dX3_init_95 (fun q11 H hP hD hS => ?_)
  refine W.widen (k := 11) (n := 1360) (Nat.le_refl _) (Nat.le_refl _) ?_
  have hP : va_P G vwCl [(h0, .inr (3, [.int 0, .int 0, .int 0, .int 0, .int 0, .int 0, .ref q1, .ref q2, .ref q3, .ref q4, .ref q5, .ref q6, .ref q7, .ref q8, .int 0, .ref q9, .ref q10, .int 0, .int 0, .int 0, .int 0, .int 0, .int 0, .null])), (q1, zI cI 160), (q2, zI cI 160), (q3, zI cI 160), (q4, zI cI 160), (q5, zI cI 160), (q6, zI cZ 160), (q7, zI cZ 160), (q8, zI cI 160), (q9, zI cZ 8), (q10, zI cI 8), (q11, zI cI 64)] H := hP
  have hD : va_D A [(h0, .inr (3, [.int 0, .int 0, .int 0, .int 0, .int 0, .int 0, .ref q1, .ref q2, .ref q3, .ref q4, .ref q5, .ref q6, .ref q7, .ref q8, .int 0, .ref q9, .ref q10, .int 0, .int 0, .int 0, .int 0, .int 0, .int 0, .null])), (q1, zI cI 160), (q2, zI cI 160), (q3, zI cI 160), (q4, zI cI 160), (q5, zI cI 160), (q6, zI cZ 160), (q7, zI cZ 160), (q8, zI cI 160), (q9, zI cZ 8), (q10, zI cI 8), (q11, zI cI 64)] := hD
  refine va_putF (D := G) (ci := 3) (v := .ref q11) (ty := .array .int) (C := RX3) (T := TX3) (N := 24) hx hb hts hi tyX3 tyX3_ok nmX3 hown hK hP hD hS 0 rfl rfl 23 (by decide) (hts (.fieldLink RX3 41 "TreapVersionsModel" "way" "[I") (by decide +kernel)) (fun _ h9 => h9) rfl hin rfl (by decide +kernel) rfl rfl (Nat.le_of_ble_eq_true rfl) dX3_init_97 (fun H locs hP hD hS => ?_)
  have hP : va_P G vwCl [(h0, .inr (3, [.int 0, .int 0, .int 0, .int 0, .int 0, .int 0, .ref q1, .ref q2, .ref q3, .ref q4, .ref q5, .ref q6, .ref q7, .ref q8, .int 0, .ref q9, .ref q10, .int 0, .int 0, .int 0, .int 0, .int 0, .int 0, .ref q11])), (q1, zI cI 160), (q2, zI cI 160), (q3, zI cI 160), (q4, zI cI 160), (q5, zI cI 160), (q6, zI cZ 160), (q7, zI cZ 160), (q8, zI cI 160), (q9, zI cZ 8), (q10, zI cI 8), (q11, zI cI 64)] H := hP
  have hD : va_D A [(h0, .inr (3, [.int 0, .int 0, .int 0, .int 0, .int 0, .int 0, .ref q1, .ref q2, .ref q3, .ref q4, .ref q5, .ref q6, .ref q7, .ref q8, .int 0, .ref q9, .ref q10, .int 0, .int 0, .int 0, .int 0, .int 0, .int 0, .ref q11])), (q1, zI cI 160), (q2, zI cI 160), (q3, zI cI 160), (q4, zI cI 160), (q5, zI cI 160), (q6, zI cZ 160), (q7, zI cZ 160), (q8, zI cI 160), (q9, zI cZ 8), (q10, zI cI 8), (q11, zI cI 64)] := hD
  suffices k118 : ∀ r : Int32, nI C = r → W p l e (headSpec wsX3_init ({ frames := 1, cells := 11, slots := 1360, locals := 14 })).room s m #[Value.ref h0, Value.int c0, Value.int v0, Value.int sd] below meth c H locs 11 1360 Q (F0 m 118 ls [.int r, .ref h0]) by
    refine lv_aload_n hx hb dX3_init_100 rfl (lv_at hl 0 rfl) ?_
    refine lv_iload_n hx hb dX3_init_101 rfl (lv_at hl 1 rfl) ?_
    refine lv_iconst (v := 1) hx hb dX3_init_102 (by decide) ?_
    refine lv_icmp_lt (tgt := 112) hx hb dX3_init_103 (by decide) (fun c1 => ?_) (fun c1 => ?_)
    · refine lv_bipush (v := 20) hx hb dX3_init_112 (by decide) ?_
      refine lv_goto (tgt := 118) hx hb dX3_init_114 (by decide) ?_
      exact k118 20 (eC1 (Or.inl c1))
    · refine lv_iload_n hx hb dX3_init_106 rfl (lv_at hl 1 rfl) ?_
      refine lv_bipush (v := 40) hx hb dX3_init_107 (by decide) ?_
      refine lv_icmp_le (tgt := 117) hx hb dX3_init_109 (by decide) (fun c2 => ?_) (fun c2 => ?_)
      · refine lv_iload_n hx hb dX3_init_117 rfl (lv_at hl 1 rfl) ?_
        exact k118 c0 (eC2 c1 (Int32.not_lt.mpr c2))
      · refine lv_bipush (v := 20) hx hb dX3_init_112 (by decide) ?_
        refine lv_goto (tgt := 118) hx hb dX3_init_114 (by decide) ?_
        exact k118 20 (eC1 (Or.inr (Int32.not_le.mp c2)))
  intro r er
  subst er
  refine va_put (D := G) (ci := 3) (v := .int (nI C)) (ty := .int) (C := RX3) (T := TX3) (N := 24) hx hb hts hi tyX3 tyX3_ok nmX3 hown hK hP hD hS 0 rfl rfl 1 (by decide) (hts (.fieldLink RX3 44 "TreapVersionsModel" "room" "I") (by decide +kernel)) (fun _ h9 => h9) rfl (by decide +kernel) rfl rfl (Nat.le_of_ble_eq_true rfl) dX3_init_118 (fun H locs hP hD hS => ?_)
  have hP : va_P G vwCl [(h0, .inr (3, [.int 0, .int (nI C), .int 0, .int 0, .int 0, .int 0, .ref q1, .ref q2, .ref q3, .ref q4, .ref q5, .ref q6, .ref q7, .ref q8, .int 0, .ref q9, .ref q10, .int 0, .int 0, .int 0, .int 0, .int 0, .int 0, .ref q11])), (q1, zI cI 160), (q2, zI cI 160), (q3, zI cI 160), (q4, zI cI 160), (q5, zI cI 160), (q6, zI cZ 160), (q7, zI cZ 160), (q8, zI cI 160), (q9, zI cZ 8), (q10, zI cI 8), (q11, zI cI 64)] H := hP
  have hD : va_D A [(h0, .inr (3, [.int 0, .int (nI C), .int 0, .int 0, .int 0, .int 0, .ref q1, .ref q2, .ref q3, .ref q4, .ref q5, .ref q6, .ref q7, .ref q8, .int 0, .ref q9, .ref q10, .int 0, .int 0, .int 0, .int 0, .int 0, .int 0, .ref q11])), (q1, zI cI 160), (q2, zI cI 160), (q3, zI cI 160), (q4, zI cI 160), (q5, zI cI 160), (q6, zI cZ 160), (q7, zI cZ 160), (q8, zI cI 160), (q9, zI cZ 8), (q10, zI cI 8), (q11, zI cI 64)] := hD
  suffices k138 : ∀ r : Int32, nI V = r → W p l e (headSpec wsX3_init ({ frames := 1, cells := 11, slots := 1360, locals := 14 })).room s m #[Value.ref h0, Value.int c0, Value.int v0, Value.int sd] below meth c H locs 11 1360 Q (F0 m 138 ls [.int r, .ref h0]) by
    refine lv_aload_n hx hb dX3_init_121 rfl (lv_at hl 0 rfl) ?_
    refine lv_iload_n hx hb dX3_init_122 rfl (lv_at hl 2 rfl) ?_
    refine lv_iconst (v := 1) hx hb dX3_init_123 (by decide) ?_
    refine lv_icmp_lt (tgt := 133) hx hb dX3_init_124 (by decide) (fun c1 => ?_) (fun c1 => ?_)
    · refine lv_iconst (v := 4) hx hb dX3_init_133 (by decide) ?_
      refine lv_goto (tgt := 138) hx hb dX3_init_134 (by decide) ?_
      exact k138 4 (eV1 (Or.inl c1))
    · refine lv_iload_n hx hb dX3_init_127 rfl (lv_at hl 2 rfl) ?_
      refine lv_bipush (v := 8) hx hb dX3_init_128 (by decide) ?_
      refine lv_icmp_le (tgt := 137) hx hb dX3_init_130 (by decide) (fun c2 => ?_) (fun c2 => ?_)
      · refine lv_iload_n hx hb dX3_init_137 rfl (lv_at hl 2 rfl) ?_
        exact k138 v0 (eV2 c1 (Int32.not_lt.mpr c2))
      · refine lv_iconst (v := 4) hx hb dX3_init_133 (by decide) ?_
        refine lv_goto (tgt := 138) hx hb dX3_init_134 (by decide) ?_
        exact k138 4 (eV1 (Or.inr (Int32.not_le.mp c2)))
  intro r er
  subst er
  refine va_put (D := G) (ci := 3) (v := .int (nI V)) (ty := .int) (C := RX3) (T := TX3) (N := 24) hx hb hts hi tyX3 tyX3_ok nmX3 hown hK hP hD hS 0 rfl rfl 2 (by decide) (hts (.fieldLink RX3 48 "TreapVersionsModel" "versions" "I") (by decide +kernel)) (fun _ h9 => h9) rfl (by decide +kernel) rfl rfl (Nat.le_of_ble_eq_true rfl) dX3_init_138 (fun H locs hP hD hS => ?_)
  have hP : va_P G vwCl [(h0, .inr (3, [.int 0, .int (nI C), .int (nI V), .int 0, .int 0, .int 0, .ref q1, .ref q2, .ref q3, .ref q4, .ref q5, .ref q6, .ref q7, .ref q8, .int 0, .ref q9, .ref q10, .int 0, .int 0, .int 0, .int 0, .int 0, .int 0, .ref q11])), (q1, zI cI 160), (q2, zI cI 160), (q3, zI cI 160), (q4, zI cI 160), (q5, zI cI 160), (q6, zI cZ 160), (q7, zI cZ 160), (q8, zI cI 160), (q9, zI cZ 8), (q10, zI cI 8), (q11, zI cI 64)] H := hP
  have hD : va_D A [(h0, .inr (3, [.int 0, .int (nI C), .int (nI V), .int 0, .int 0, .int 0, .ref q1, .ref q2, .ref q3, .ref q4, .ref q5, .ref q6, .ref q7, .ref q8, .int 0, .ref q9, .ref q10, .int 0, .int 0, .int 0, .int 0, .int 0, .int 0, .ref q11])), (q1, zI cI 160), (q2, zI cI 160), (q3, zI cI 160), (q4, zI cI 160), (q5, zI cI 160), (q6, zI cZ 160), (q7, zI cZ 160), (q8, zI cI 160), (q9, zI cZ 8), (q10, zI cI 8), (q11, zI cI 64)] := hD
  refine lv_aload_n hx hb dX3_init_141 rfl (lv_at hl 0 rfl) ?_
  refine lv_iload_n hx hb dX3_init_142 rfl (lv_at hl 3 rfl) ?_
  refine va_put (D := G) (ci := 3) (v := .int sd) (ty := .int) (C := RX3) (T := TX3) (N := 24) hx hb hts hi tyX3 tyX3_ok nmX3 hown hK hP hD hS 0 rfl rfl 3 (by decide) (hts (.fieldLink RX3 51 "TreapVersionsModel" "seed" "I") (by decide +kernel)) (fun _ h9 => h9) rfl (by decide +kernel) rfl rfl (Nat.le_of_ble_eq_true rfl) dX3_init_143 (fun H locs hP hD hS => ?_)
  have hP : va_P G vwCl [(h0, .inr (3, [.int 0, .int (nI C), .int (nI V), .int sd, .int 0, .int 0, .ref q1, .ref q2, .ref q3, .ref q4, .ref q5, .ref q6, .ref q7, .ref q8, .int 0, .ref q9, .ref q10, .int 0, .int 0, .int 0, .int 0, .int 0, .int 0, .ref q11])), (q1, zI cI 160), (q2, zI cI 160), (q3, zI cI 160), (q4, zI cI 160), (q5, zI cI 160), (q6, zI cZ 160), (q7, zI cZ 160), (q8, zI cI 160), (q9, zI cZ 8), (q10, zI cI 8), (q11, zI cI 64)] H := hP
  have hD : va_D A [(h0, .inr (3, [.int 0, .int (nI C), .int (nI V), .int sd, .int 0, .int 0, .ref q1, .ref q2, .ref q3, .ref q4, .ref q5, .ref q6, .ref q7, .ref q8, .int 0, .ref q9, .ref q10, .int 0, .int 0, .int 0, .int 0, .int 0, .int 0, .ref q11])), (q1, zI cI 160), (q2, zI cI 160), (q3, zI cI 160), (q4, zI cI 160), (q5, zI cI 160), (q6, zI cZ 160), (q7, zI cZ 160), (q8, zI cI 160), (q9, zI cZ 8), (q10, zI cI 8), (q11, zI cI 64)] := hD
  refine lv_aload_n hx hb dX3_init_146 rfl (lv_at hl 0 rfl) ?_
  refine va_get (D := G) (ci := 3) (v := .ref q9) (C := RX3) (T := TX3) (N := 24) hx hb hts hi hown hK hP 0 rfl rfl 15 (by decide) (hts (.fieldLink RX3 35 "TreapVersionsModel" "isLive" "[Z") (by decide +kernel)) (fun _ h9 => h9) rfl dX3_init_147 ?_
  refine lv_iconst (v := 0) hx hb dX3_init_150 (by decide) ?_
  refine lv_iconst (v := 1) hx hb dX3_init_151 (by decide) ?_
  refine va_zast hx hb hK hP hD hS 9 1 rfl rfl (i := 0) (x := 1) (show vp_in (nI 0) 8 from vp_in_nI (by omega) (by omega)) dX3_init_152 (fun H locs hP hD hS => ?_)
  obtain ⟨am, eam⟩ : ∃ am : Nat → Nat, am = (fun i => match i with | 0 => h0 | 1 => q1 | 2 => q2 | 3 => q3 | 4 => q4 | 5 => q5 | 6 => q6 | 7 => q7 | 8 => q8 | 9 => q9 | 10 => q10 | _ => q11) := ⟨_, rfl⟩
  have hP : va_P G vwCl (mw am cI cZ (ms0 C V sd (fun _ => 0))) H := by rw [eam]; exact hP
  have hD : va_D A (mw am cI cZ (ms0 C V sd (fun _ => 0))) := by rw [eam]; exact hD
  have ea0 : am 0 = h0 := by rw [eam]; rfl
  have hloop : ∀ (n j : Nat) (f : Nat → Int32), j + n = 8 → (∀ i, i < j → f i = -1) → ∀ (H : Heap) (locs : List Loc), va_P G vwCl (mw am cI cZ (ms0 C V sd f)) H → va_D A (mw am cI cZ (ms0 C V sd f)) → va_S A s.heap H locs → ∀ ls : Array Slot, lv_has ls 5 [(4, .int (nI j)), (0, .ref (am 0))] → W p l e (headSpec wsX3_init ({ frames := 1, cells := 11, slots := 1360, locals := 14 })).room s m #[Value.ref h0, Value.int c0, Value.int v0, Value.int sd] below meth c H locs 11 1360 Q (F0 m 156 ls []) := by
    clear hl hP hD hS
    intro n
    induction n with
    | zero =>
      intro j f hj hf H locs hP hD hS ls hl
      refine lv_iload hx hb dX3_init_156 (lv_at hl 0 rfl) ?_
      refine lv_bipush (v := 8) hx hb dX3_init_158 (by decide) ?_
      refine lv_icmp_ge (tgt := 177) hx hb dX3_init_160 (by decide) (fun c1 => ?_) (fun c1 => ?_)
      · exact hend (am, f) H locs ls ea0 (fun i hi9 => hf i (by omega)) hP hD hS
      · exact absurd (show nI 8 ≤ nI j from nI_le (by omega) (by omega)) c1
    | succ n ih =>
      intro j f hj hf H locs hP hD hS ls hl
      refine lv_iload hx hb dX3_init_156 (lv_at hl 0 rfl) ?_
      refine lv_bipush (v := 8) hx hb dX3_init_158 (by decide) ?_
      refine lv_icmp_ge (tgt := 177) hx hb dX3_init_160 (by decide) (fun c1 => ?_) (fun c1 => ?_)
      · exact absurd c1 (show ¬ nI 8 ≤ nI j from nI_ge (by omega) (by omega))
      · refine lv_aload_n hx hb dX3_init_163 rfl (lv_at hl 1 rfl) ?_
        refine va_get (D := G) (ci := 3) (v := .ref (am 10)) (C := RX3) (T := TX3) (N := 24) hx hb hts hi hown hK hP 0 rfl rfl 16 (by decide) (hts (.fieldLink RX3 38 "TreapVersionsModel" "root" "[I") (by decide +kernel)) (fun _ h9 => h9) rfl dX3_init_164 ?_
        refine lv_iload hx hb dX3_init_167 (lv_at hl 0 rfl) ?_
        refine lv_iconst (v := -1) hx hb dX3_init_169 (by decide) ?_
        refine va_iast hx hb hK hP hD hS 10 0 rfl rfl (vp_in_nI (by omega) (by omega)) dX3_init_170 (fun H locs hP hD hS => ?_)
        rw [nI_clamp (show j < 2 ^ 31 by omega)] at hP hD
        have hP : va_P G vwCl (mw am cI cZ (ms0 C V sd (upd f j (-1)))) H := hP
        have hD : va_D A (mw am cI cZ (ms0 C V sd (upd f j (-1)))) := hD
        refine lv_iinc (v := nI (j + 1)) (lv' := [(4, .int (nI (j + 1))), (0, .ref (am 0))]) hx hb dX3_init_171 hl (k := 0) rfl (nI_1 j) (by decide) rfl (fun ls hl => ?_)
        refine lv_goto (tgt := 156) hx hb dX3_init_174 (by decide) ?_
        refine ih (j + 1) (upd f j (-1)) (by omega) (fun i hi9 => ?_) H locs hP hD hS ls hl
        unfold upd
        by_cases e9 : i = j
        · rw [if_pos e9]
        · rw [if_neg e9]; exact hf i (by omega)
  refine lv_iconst (v := 0) hx hb dX3_init_153 (by decide) ?_
  refine lv_istore (lv' := [(4, .int 0), (0, .ref h0), (1, .int c0), (2, .int v0), (3, .int sd)]) hx hb dX3_init_154 hl (by decide) rfl (fun ls hl => ?_)
  refine hloop 8 0 (fun _ => 0) rfl (fun i h => absurd h (by omega)) H locs hP hD hS ls ?_
  rw [ea0]
  exact lv_sub hl [0, 1] rfl
end InitR
