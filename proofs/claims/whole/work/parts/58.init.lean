/-! constructors -/
section InitL
/-- a new row of a kind whose class is known -/
theorem va_newI {p : Program} {l : Launch} {e : Env} {R : Room} {s : State} {m : MethodId} {args : Array Value} {below : List Frame} {meth : Method} {c : Code} {H : Heap} {locs : List Loc} {cells slots : Nat} {Q : State → Prop} {cc : ByteArray} {pc : Nat} {ls : Array Slot} {rest : List Value} {D : va_G} {cl : List vw_C} {A : Nat → Prop} {tys : List (ClassId × FieldType)} {ws : va_W} {H0 : Heap}
    (hexec : p.tables.exec = Jvm.exec) (hb : c.code = cc) {atype : ArrayType} (harr : (Cond.arrayClass (newarray.typeOf atype)).before args s = true) {ty : FieldType} (hty : newarray.typeOf atype = ty) (hK : va_K D cl tys s) (hP : va_P D cl ws H) (hD : va_D A ws) (hS : va_S A H0 H locs) (hA : ∀ q, H0.size ≤ q → A q) (t0 : Nat) {cA : ClassId} (ht : tys[t0]? = some (cA, ty)) (hRA : ∀ c, va_RA s c ty → s.vm.findClass ("[" ++ ty.toString) = some c)
    {n : Int32} {N' : Nat} {a0 : vp_A} (ha : ∀ cA : ClassId, vp_cell cA a0 = arrV cA N' (fun _ => defaultValue ty)) (hn : n = nI N') (hN : N' ≤ 160) (hbytes : componentBytes ty ≤ 8) (hcells : cells + 1 ≤ R.cells) (hslots : slots + N' ≤ R.slots) (hdg : decode cc pc = .ok (.newarray atype, 2))
    (kk : ∀ (q : Nat) (H1 : Heap), va_P D cl (ws ++ [(q, .inl (cA, a0))]) H1 → va_D A (ws ++ [(q, .inl (cA, a0))]) → va_S A H0 H1 locs →
      W p l e R s m args below meth c H1 locs (cells + 1) (slots + N') Q (F0 m (pc + 2) ls (.ref q :: rest))) : W p l e R s m args below meth c H locs cells slots Q (F0 m pc ls (.int n :: rest)) := by
  subst hn
  refine va_newa hexec hb harr hty hK hP hD hS hA ha (nI_pos (by omega)) (nI_clamp (by omega)) (Nat.le_trans (Nat.mul_le_mul hN hbytes) (by decide)) hcells hslots hdg (fun q cB H1 hK1 hP1 hD1 hS1 => ?_)
  have h1 := hRA _ (hK1.2 tys.length (cB, ty) (by rw [List.getElem?_append_right (Nat.le_refl _), Nat.sub_self]; rfl)).2
  have h2 := hRA _ (hK.2 t0 _ ht).2
  have h3 : cB = cA := Option.some.inj (h1.symm.trans h2)
  subst h3
  exact kk q H1 hP1 hD1 hS1
abbrev zI (cI : ClassId) (n : Nat) : va_E := .inl (cI, n, .inl (fun _ => 0))

def stW (q : Nat → Nat) (C : Nat) (cI cZ : ClassId) : va_W := [(q 0, .inr (0, [.int (nI C), .ref (q 1), .ref (q 2), .ref (q 3), .ref (q 4), .ref (q 5), .ref (q 6), .int 0, .ref (q 7), .ref (q 8), .ref (q 9)])), (q 1, zI cI (C + 1)), (q 2, zI cI (C + 1)), (q 3, zI cI (C + 1)), (q 4, zI cI (C + 1)), (q 5, zI cI (C + 1)), (q 6, zI cI (C + 1)), (q 7, zI cZ (C + 1)), (q 8, zI cZ (C + 1)), (q 9, zI cI (C + 1))]
abbrev st0 (h0 : Nat) : va_W := [(h0, .inr (0, [.int 0, .null, .null, .null, .null, .null, .null, .int 0, .null, .null, .null]))]
set_option maxHeartbeats 4000000 in
set_option maxRecDepth 100000 in
theorem c_X0_init (l : Launch) (G : va_G) (cI cZ : ClassId) (h0 sz C : Nat) (hC : C ≤ 40) : Met l yX0_init wsX0_init ({ frames := 1, cells := 9, slots := 369, locals := 14 }) (va_Pc [.ref h0, .int (nI C)] (fun U => U.heap.size = sz ∧ va_P G vwCl (st0 h0) U.heap ∧ va_K G vwCl (ty2 cI cZ) U ∧ va_D (fun _ => True) (st0 h0))) (va_Qv (S := Nat → Nat) (fun q => q 0 = h0) (fun q t => va_P G vwCl (stW q C cI cZ) t.heap ∧ va_D (va_A (st0 h0) sz) (stW q C cI cZ)) (va_A (st0 h0) sz)) 9 369 (va_A (st0 h0) sz) := by
  refine Met.ofW (cc := cX0_init) (maxL := 2) (ret := none) (by decide) rfl ?_
  intro p e s m args below meth c s₁ B hml hv
  obtain ⟨rfl, hsz, hP, hK, hD0⟩ := hv
  have hx := B.exec
  have hb := B.bytes
  have hr := B.returns
  have hts := atoms_spec (ws := wsX0_init) B.pre
  have hown : s.vm.findClass RX0 = some m.cls := findClass_of_methodNamed B.named
  have hlocks := B.notSynchronized
  have hin : meth.name = "<init>" := (name_of_methodNamed B.named B.method).1
  subst hsz
  have hD := hD0.self (sz := s.heap.size)
  generalize hAe : va_A (st0 h0) s.heap.size = A at hD ⊢
  have hA : ∀ q : Nat, s.heap.size ≤ q → A q := fun q h => by rw [← hAe]; exact Or.inr h
  have hS : va_S A s.heap s.heap [] := va_S.rf
  have hP : va_P G vwCl (st0 h0) s.heap := hP
  have hl := lv_entry ([.ref h0, .int (nI C)]) (n := 2) (Nat.le_of_ble_eq_true rfl)
  rw [lg_entry_eq]
  generalize (lg_sl ([.ref h0, .int (nI C)]) ++ List.replicate (2 - (lg_sl ([.ref h0, .int (nI C)])).length) Slot.unset).toArray = ls at hl ⊢
  have hl : lv_has ls 2 [(0, .ref h0), (1, .int (nI C))] := hl
  have hi : ∀ w ∈ u_ws RX0 TX0 11, w ∈ wsX0_init := by decide +kernel
  refine lv_aload_n hx hb dX0_init_0 rfl (lv_at hl 0 rfl) ?_
  refine W.objInit hx hb hown (hts (.methodLink RX0 3 objectInit) (by decide +kernel)) (hts (.instanceMethod objectInit) (by decide +kernel)) (hts (.code objectInit ⟨#[0xb1]⟩ 1 none) (by decide +kernel)) rfl (by rw [hml]; exact hl.1) rfl dX0_init_1 (Nat.le_of_ble_eq_true rfl) (Nat.le_of_ble_eq_true rfl) ?_
  refine W.eq (g2 := F0 m 4 ls []) rfl ?_
  refine lv_aload_n hx hb dX0_init_4 rfl (lv_at hl 0 rfl) ?_
  refine lv_iload_n hx hb dX0_init_5 rfl (lv_at hl 1 rfl) ?_
  refine va_putF (D := G) (ci := 0) (v := .int (nI C)) (ty := .int) (C := RX0) (T := TX0) (N := 11) hx hb hts hi tyX0 tyX0_ok nmX0 hown hK hP hD hS 0 rfl rfl 0 (by decide) (hts (.fieldLink RX0 9 "TreapVersions$Store" "room" "I") (by decide +kernel)) (fun _ h9 => h9) rfl hin rfl (by decide +kernel) rfl rfl (Nat.le_of_ble_eq_true rfl) dX0_init_6 (fun H locs hP hD hS => ?_)
  have hP : va_P G vwCl [(h0, .inr (0, [.int (nI C), .null, .null, .null, .null, .null, .null, .int 0, .null, .null, .null]))] H := hP
  have hD : va_D A [(h0, .inr (0, [.int (nI C), .null, .null, .null, .null, .null, .null, .int 0, .null, .null, .null]))] := hD
  refine lv_aload_n hx hb dX0_init_9 rfl (lv_at hl 0 rfl) ?_
  refine lv_iload_n hx hb dX0_init_10 rfl (lv_at hl 1 rfl) ?_
  refine lv_iconst (v := 1) hx hb dX0_init_11 (by decide) ?_
  refine lv_iadd hx hb dX0_init_12 ?_
  refine va_newI (atype := .int) (ty := .int) (N' := C + 1) (a0 := (C + 1, .inl (fun _ => 0))) hx hb (hts (.arrayClass .int) (by decide +kernel)) rfl hK hP hD hS hA 0 rfl (fun _ h => h) (fun _ => rfl) (nI_1 C) (by omega) (by decide) (Nat.le_of_ble_eq_true rfl) (show 0 + (C + 1) ≤ 369 by omega) dX0_init_13 (fun q1 H hP hD hS => ?_)
  have hP : va_P G vwCl [(h0, .inr (0, [.int (nI C), .null, .null, .null, .null, .null, .null, .int 0, .null, .null, .null])), (q1, zI cI (C + 1))] H := hP
  have hD : va_D A [(h0, .inr (0, [.int (nI C), .null, .null, .null, .null, .null, .null, .int 0, .null, .null, .null])), (q1, zI cI (C + 1))] := hD
  refine W.widen (k := 1) (n := 41) (Nat.le_refl _) (show 0 + (C + 1) ≤ 41 by omega) ?_
  refine va_putF (D := G) (ci := 0) (v := .ref q1) (ty := .array .int) (C := RX0) (T := TX0) (N := 11) hx hb hts hi tyX0 tyX0_ok nmX0 hown hK hP hD hS 0 rfl rfl 1 (by decide) (hts (.fieldLink RX0 15 "TreapVersions$Store" "key" "[I") (by decide +kernel)) (fun _ h9 => h9) rfl hin rfl (by decide +kernel) rfl rfl (Nat.le_of_ble_eq_true rfl) dX0_init_15 (fun H locs hP hD hS => ?_)
  have hP : va_P G vwCl [(h0, .inr (0, [.int (nI C), .ref q1, .null, .null, .null, .null, .null, .int 0, .null, .null, .null])), (q1, zI cI (C + 1))] H := hP
  have hD : va_D A [(h0, .inr (0, [.int (nI C), .ref q1, .null, .null, .null, .null, .null, .int 0, .null, .null, .null])), (q1, zI cI (C + 1))] := hD
  refine lv_aload_n hx hb dX0_init_18 rfl (lv_at hl 0 rfl) ?_
  refine lv_iload_n hx hb dX0_init_19 rfl (lv_at hl 1 rfl) ?_
  refine lv_iconst (v := 1) hx hb dX0_init_20 (by decide) ?_
  refine lv_iadd hx hb dX0_init_21 ?_
  refine va_newI (atype := .int) (ty := .int) (N' := C + 1) (a0 := (C + 1, .inl (fun _ => 0))) hx hb (hts (.arrayClass .int) (by decide +kernel)) rfl hK hP hD hS hA 0 rfl (fun _ h => h) (fun _ => rfl) (nI_1 C) (by omega) (by decide) (Nat.le_of_ble_eq_true rfl) (show 41 + (C + 1) ≤ 369 by omega) dX0_init_22 (fun q2 H hP hD hS => ?_)
  have hP : va_P G vwCl [(h0, .inr (0, [.int (nI C), .ref q1, .null, .null, .null, .null, .null, .int 0, .null, .null, .null])), (q1, zI cI (C + 1)), (q2, zI cI (C + 1))] H := hP
  have hD : va_D A [(h0, .inr (0, [.int (nI C), .ref q1, .null, .null, .null, .null, .null, .int 0, .null, .null, .null])), (q1, zI cI (C + 1)), (q2, zI cI (C + 1))] := hD
  refine W.widen (k := 2) (n := 82) (Nat.le_refl _) (show 41 + (C + 1) ≤ 82 by omega) ?_
  refine va_putF (D := G) (ci := 0) (v := .ref q2) (ty := .array .int) (C := RX0) (T := TX0) (N := 11) hx hb hts hi tyX0 tyX0_ok nmX0 hown hK hP hD hS 0 rfl rfl 2 (by decide) (hts (.fieldLink RX0 19 "TreapVersions$Store" "value" "[I") (by decide +kernel)) (fun _ h9 => h9) rfl hin rfl (by decide +kernel) rfl rfl (Nat.le_of_ble_eq_true rfl) dX0_init_24 (fun H locs hP hD hS => ?_)
  have hP : va_P G vwCl [(h0, .inr (0, [.int (nI C), .ref q1, .ref q2, .null, .null, .null, .null, .int 0, .null, .null, .null])), (q1, zI cI (C + 1)), (q2, zI cI (C + 1))] H := hP
  have hD : va_D A [(h0, .inr (0, [.int (nI C), .ref q1, .ref q2, .null, .null, .null, .null, .int 0, .null, .null, .null])), (q1, zI cI (C + 1)), (q2, zI cI (C + 1))] := hD
  refine lv_aload_n hx hb dX0_init_27 rfl (lv_at hl 0 rfl) ?_
  refine lv_iload_n hx hb dX0_init_28 rfl (lv_at hl 1 rfl) ?_
  refine lv_iconst (v := 1) hx hb dX0_init_29 (by decide) ?_
  refine lv_iadd hx hb dX0_init_30 ?_
  refine va_newI (atype := .int) (ty := .int) (N' := C + 1) (a0 := (C + 1, .inl (fun _ => 0))) hx hb (hts (.arrayClass .int) (by decide +kernel)) rfl hK hP hD hS hA 0 rfl (fun _ h => h) (fun _ => rfl) (nI_1 C) (by omega) (by decide) (Nat.le_of_ble_eq_true rfl) (show 82 + (C + 1) ≤ 369 by omega) dX0_init_31 (fun q3 H hP hD hS => ?_)
  have hP : va_P G vwCl [(h0, .inr (0, [.int (nI C), .ref q1, .ref q2, .null, .null, .null, .null, .int 0, .null, .null, .null])), (q1, zI cI (C + 1)), (q2, zI cI (C + 1)), (q3, zI cI (C + 1))] H := hP
  have hD : va_D A [(h0, .inr (0, [.int (nI C), .ref q1, .ref q2, .null, .null, .null, .null, .int 0, .null, .null, .null])), (q1, zI cI (C + 1)), (q2, zI cI (C + 1)), (q3, zI cI (C + 1))] := hD
  refine W.widen (k := 3) (n := 123) (Nat.le_refl _) (show 82 + (C + 1) ≤ 123 by omega) ?_
  refine va_putF (D := G) (ci := 0) (v := .ref q3) (ty := .array .int) (C := RX0) (T := TX0) (N := 11) hx hb hts hi tyX0 tyX0_ok nmX0 hown hK hP hD hS 0 rfl rfl 3 (by decide) (hts (.fieldLink RX0 22 "TreapVersions$Store" "weight" "[I") (by decide +kernel)) (fun _ h9 => h9) rfl hin rfl (by decide +kernel) rfl rfl (Nat.le_of_ble_eq_true rfl) dX0_init_33 (fun H locs hP hD hS => ?_)
  have hP : va_P G vwCl [(h0, .inr (0, [.int (nI C), .ref q1, .ref q2, .ref q3, .null, .null, .null, .int 0, .null, .null, .null])), (q1, zI cI (C + 1)), (q2, zI cI (C + 1)), (q3, zI cI (C + 1))] H := hP
  have hD : va_D A [(h0, .inr (0, [.int (nI C), .ref q1, .ref q2, .ref q3, .null, .null, .null, .int 0, .null, .null, .null])), (q1, zI cI (C + 1)), (q2, zI cI (C + 1)), (q3, zI cI (C + 1))] := hD
  refine lv_aload_n hx hb dX0_init_36 rfl (lv_at hl 0 rfl) ?_
  refine lv_iload_n hx hb dX0_init_37 rfl (lv_at hl 1 rfl) ?_
  refine lv_iconst (v := 1) hx hb dX0_init_38 (by decide) ?_
  refine lv_iadd hx hb dX0_init_39 ?_
  refine va_newI (atype := .int) (ty := .int) (N' := C + 1) (a0 := (C + 1, .inl (fun _ => 0))) hx hb (hts (.arrayClass .int) (by decide +kernel)) rfl hK hP hD hS hA 0 rfl (fun _ h => h) (fun _ => rfl) (nI_1 C) (by omega) (by decide) (Nat.le_of_ble_eq_true rfl) (show 123 + (C + 1) ≤ 369 by omega) dX0_init_40 (fun q4 H hP hD hS => ?_)
  have hP : va_P G vwCl [(h0, .inr (0, [.int (nI C), .ref q1, .ref q2, .ref q3, .null, .null, .null, .int 0, .null, .null, .null])), (q1, zI cI (C + 1)), (q2, zI cI (C + 1)), (q3, zI cI (C + 1)), (q4, zI cI (C + 1))] H := hP
  have hD : va_D A [(h0, .inr (0, [.int (nI C), .ref q1, .ref q2, .ref q3, .null, .null, .null, .int 0, .null, .null, .null])), (q1, zI cI (C + 1)), (q2, zI cI (C + 1)), (q3, zI cI (C + 1)), (q4, zI cI (C + 1))] := hD
  refine W.widen (k := 4) (n := 164) (Nat.le_refl _) (show 123 + (C + 1) ≤ 164 by omega) ?_
  refine va_putF (D := G) (ci := 0) (v := .ref q4) (ty := .array .int) (C := RX0) (T := TX0) (N := 11) hx hb hts hi tyX0 tyX0_ok nmX0 hown hK hP hD hS 0 rfl rfl 4 (by decide) (hts (.fieldLink RX0 25 "TreapVersions$Store" "left" "[I") (by decide +kernel)) (fun _ h9 => h9) rfl hin rfl (by decide +kernel) rfl rfl (Nat.le_of_ble_eq_true rfl) dX0_init_42 (fun H locs hP hD hS => ?_)
  have hP : va_P G vwCl [(h0, .inr (0, [.int (nI C), .ref q1, .ref q2, .ref q3, .ref q4, .null, .null, .int 0, .null, .null, .null])), (q1, zI cI (C + 1)), (q2, zI cI (C + 1)), (q3, zI cI (C + 1)), (q4, zI cI (C + 1))] H := hP
  have hD : va_D A [(h0, .inr (0, [.int (nI C), .ref q1, .ref q2, .ref q3, .ref q4, .null, .null, .int 0, .null, .null, .null])), (q1, zI cI (C + 1)), (q2, zI cI (C + 1)), (q3, zI cI (C + 1)), (q4, zI cI (C + 1))] := hD
  refine lv_aload_n hx hb dX0_init_45 rfl (lv_at hl 0 rfl) ?_
  refine lv_iload_n hx hb dX0_init_46 rfl (lv_at hl 1 rfl) ?_
  refine lv_iconst (v := 1) hx hb dX0_init_47 (by decide) ?_
  refine lv_iadd hx hb dX0_init_48 ?_
  refine va_newI (atype := .int) (ty := .int) (N' := C + 1) (a0 := (C + 1, .inl (fun _ => 0))) hx hb (hts (.arrayClass .int) (by decide +kernel)) rfl hK hP hD hS hA 0 rfl (fun _ h => h) (fun _ => rfl) (nI_1 C) (by omega) (by decide) (Nat.le_of_ble_eq_true rfl) (show 164 + (C + 1) ≤ 369 by omega) dX0_init_49 (fun q5 H hP hD hS => ?_)
  have hP : va_P G vwCl [(h0, .inr (0, [.int (nI C), .ref q1, .ref q2, .ref q3, .ref q4, .null, .null, .int 0, .null, .null, .null])), (q1, zI cI (C + 1)), (q2, zI cI (C + 1)), (q3, zI cI (C + 1)), (q4, zI cI (C + 1)), (q5, zI cI (C + 1))] H := hP
  have hD : va_D A [(h0, .inr (0, [.int (nI C), .ref q1, .ref q2, .ref q3, .ref q4, .null, .null, .int 0, .null, .null, .null])), (q1, zI cI (C + 1)), (q2, zI cI (C + 1)), (q3, zI cI (C + 1)), (q4, zI cI (C + 1)), (q5, zI cI (C + 1))] := hD
  refine W.widen (k := 5) (n := 205) (Nat.le_refl _) (show 164 + (C + 1) ≤ 205 by omega) ?_
  refine va_putF (D := G) (ci := 0) (v := .ref q5) (ty := .array .int) (C := RX0) (T := TX0) (N := 11) hx hb hts hi tyX0 tyX0_ok nmX0 hown hK hP hD hS 0 rfl rfl 5 (by decide) (hts (.fieldLink RX0 28 "TreapVersions$Store" "right" "[I") (by decide +kernel)) (fun _ h9 => h9) rfl hin rfl (by decide +kernel) rfl rfl (Nat.le_of_ble_eq_true rfl) dX0_init_51 (fun H locs hP hD hS => ?_)
  have hP : va_P G vwCl [(h0, .inr (0, [.int (nI C), .ref q1, .ref q2, .ref q3, .ref q4, .ref q5, .null, .int 0, .null, .null, .null])), (q1, zI cI (C + 1)), (q2, zI cI (C + 1)), (q3, zI cI (C + 1)), (q4, zI cI (C + 1)), (q5, zI cI (C + 1))] H := hP
  have hD : va_D A [(h0, .inr (0, [.int (nI C), .ref q1, .ref q2, .ref q3, .ref q4, .ref q5, .null, .int 0, .null, .null, .null])), (q1, zI cI (C + 1)), (q2, zI cI (C + 1)), (q3, zI cI (C + 1)), (q4, zI cI (C + 1)), (q5, zI cI (C + 1))] := hD
  refine lv_aload_n hx hb dX0_init_54 rfl (lv_at hl 0 rfl) ?_
  refine lv_iload_n hx hb dX0_init_55 rfl (lv_at hl 1 rfl) ?_
  refine lv_iconst (v := 1) hx hb dX0_init_56 (by decide) ?_
  refine lv_iadd hx hb dX0_init_57 ?_
  refine va_newI (atype := .int) (ty := .int) (N' := C + 1) (a0 := (C + 1, .inl (fun _ => 0))) hx hb (hts (.arrayClass .int) (by decide +kernel)) rfl hK hP hD hS hA 0 rfl (fun _ h => h) (fun _ => rfl) (nI_1 C) (by omega) (by decide) (Nat.le_of_ble_eq_true rfl) (show 205 + (C + 1) ≤ 369 by omega) dX0_init_58 (fun q6 H hP hD hS => ?_)
  have hP : va_P G vwCl [(h0, .inr (0, [.int (nI C), .ref q1, .ref q2, .ref q3, .ref q4, .ref q5, .null, .int 0, .null, .null, .null])), (q1, zI cI (C + 1)), (q2, zI cI (C + 1)), (q3, zI cI (C + 1)), (q4, zI cI (C + 1)), (q5, zI cI (C + 1)), (q6, zI cI (C + 1))] H := hP
  have hD : va_D A [(h0, .inr (0, [.int (nI C), .ref q1, .ref q2, .ref q3, .ref q4, .ref q5, .null, .int 0, .null, .null, .null])), (q1, zI cI (C + 1)), (q2, zI cI (C + 1)), (q3, zI cI (C + 1)), (q4, zI cI (C + 1)), (q5, zI cI (C + 1)), (q6, zI cI (C + 1))] := hD
  refine W.widen (k := 6) (n := 246) (Nat.le_refl _) (show 205 + (C + 1) ≤ 246 by omega) ?_
  refine va_putF (D := G) (ci := 0) (v := .ref q6) (ty := .array .int) (C := RX0) (T := TX0) (N := 11) hx hb hts hi tyX0 tyX0_ok nmX0 hown hK hP hD hS 0 rfl rfl 6 (by decide) (hts (.fieldLink RX0 31 "TreapVersions$Store" "count" "[I") (by decide +kernel)) (fun _ h9 => h9) rfl hin rfl (by decide +kernel) rfl rfl (Nat.le_of_ble_eq_true rfl) dX0_init_60 (fun H locs hP hD hS => ?_)
  have hP : va_P G vwCl [(h0, .inr (0, [.int (nI C), .ref q1, .ref q2, .ref q3, .ref q4, .ref q5, .ref q6, .int 0, .null, .null, .null])), (q1, zI cI (C + 1)), (q2, zI cI (C + 1)), (q3, zI cI (C + 1)), (q4, zI cI (C + 1)), (q5, zI cI (C + 1)), (q6, zI cI (C + 1))] H := hP
  have hD : va_D A [(h0, .inr (0, [.int (nI C), .ref q1, .ref q2, .ref q3, .ref q4, .ref q5, .ref q6, .int 0, .null, .null, .null])), (q1, zI cI (C + 1)), (q2, zI cI (C + 1)), (q3, zI cI (C + 1)), (q4, zI cI (C + 1)), (q5, zI cI (C + 1)), (q6, zI cI (C + 1))] := hD
  refine lv_aload_n hx hb dX0_init_63 rfl (lv_at hl 0 rfl) ?_
  refine lv_iload_n hx hb dX0_init_64 rfl (lv_at hl 1 rfl) ?_
  refine lv_iconst (v := 1) hx hb dX0_init_65 (by decide) ?_
  refine lv_iadd hx hb dX0_init_66 ?_
  refine va_newI (atype := .boolean) (ty := .boolean) (N' := C + 1) (a0 := (C + 1, .inl (fun _ => 0))) hx hb (hts (.arrayClass .boolean) (by decide +kernel)) rfl hK hP hD hS hA 1 rfl (fun _ h => h) (fun _ => rfl) (nI_1 C) (by omega) (by decide) (Nat.le_of_ble_eq_true rfl) (show 246 + (C + 1) ≤ 369 by omega) dX0_init_67 (fun q7 H hP hD hS => ?_)
  have hP : va_P G vwCl [(h0, .inr (0, [.int (nI C), .ref q1, .ref q2, .ref q3, .ref q4, .ref q5, .ref q6, .int 0, .null, .null, .null])), (q1, zI cI (C + 1)), (q2, zI cI (C + 1)), (q3, zI cI (C + 1)), (q4, zI cI (C + 1)), (q5, zI cI (C + 1)), (q6, zI cI (C + 1)), (q7, zI cZ (C + 1))] H := hP
  have hD : va_D A [(h0, .inr (0, [.int (nI C), .ref q1, .ref q2, .ref q3, .ref q4, .ref q5, .ref q6, .int 0, .null, .null, .null])), (q1, zI cI (C + 1)), (q2, zI cI (C + 1)), (q3, zI cI (C + 1)), (q4, zI cI (C + 1)), (q5, zI cI (C + 1)), (q6, zI cI (C + 1)), (q7, zI cZ (C + 1))] := hD
  refine W.widen (k := 7) (n := 287) (Nat.le_refl _) (show 246 + (C + 1) ≤ 287 by omega) ?_
  refine va_putF (D := G) (ci := 0) (v := .ref q7) (ty := .array .boolean) (C := RX0) (T := TX0) (N := 11) hx hb hts hi tyX0 tyX0_ok nmX0 hown hK hP hD hS 0 rfl rfl 8 (by decide) (hts (.fieldLink RX0 34 "TreapVersions$Store" "taken" "[Z") (by decide +kernel)) (fun _ h9 => h9) rfl hin rfl (by decide +kernel) rfl rfl (Nat.le_of_ble_eq_true rfl) dX0_init_69 (fun H locs hP hD hS => ?_)
  have hP : va_P G vwCl [(h0, .inr (0, [.int (nI C), .ref q1, .ref q2, .ref q3, .ref q4, .ref q5, .ref q6, .int 0, .ref q7, .null, .null])), (q1, zI cI (C + 1)), (q2, zI cI (C + 1)), (q3, zI cI (C + 1)), (q4, zI cI (C + 1)), (q5, zI cI (C + 1)), (q6, zI cI (C + 1)), (q7, zI cZ (C + 1))] H := hP
  have hD : va_D A [(h0, .inr (0, [.int (nI C), .ref q1, .ref q2, .ref q3, .ref q4, .ref q5, .ref q6, .int 0, .ref q7, .null, .null])), (q1, zI cI (C + 1)), (q2, zI cI (C + 1)), (q3, zI cI (C + 1)), (q4, zI cI (C + 1)), (q5, zI cI (C + 1)), (q6, zI cI (C + 1)), (q7, zI cZ (C + 1))] := hD
  refine lv_aload_n hx hb dX0_init_72 rfl (lv_at hl 0 rfl) ?_
  refine lv_iload_n hx hb dX0_init_73 rfl (lv_at hl 1 rfl) ?_
  refine lv_iconst (v := 1) hx hb dX0_init_74 (by decide) ?_
  refine lv_iadd hx hb dX0_init_75 ?_
  refine va_newI (atype := .boolean) (ty := .boolean) (N' := C + 1) (a0 := (C + 1, .inl (fun _ => 0))) hx hb (hts (.arrayClass .boolean) (by decide +kernel)) rfl hK hP hD hS hA 1 rfl (fun _ h => h) (fun _ => rfl) (nI_1 C) (by omega) (by decide) (Nat.le_of_ble_eq_true rfl) (show 287 + (C + 1) ≤ 369 by omega) dX0_init_76 (fun q8 H hP hD hS => ?_)
  have hP : va_P G vwCl [(h0, .inr (0, [.int (nI C), .ref q1, .ref q2, .ref q3, .ref q4, .ref q5, .ref q6, .int 0, .ref q7, .null, .null])), (q1, zI cI (C + 1)), (q2, zI cI (C + 1)), (q3, zI cI (C + 1)), (q4, zI cI (C + 1)), (q5, zI cI (C + 1)), (q6, zI cI (C + 1)), (q7, zI cZ (C + 1)), (q8, zI cZ (C + 1))] H := hP
  have hD : va_D A [(h0, .inr (0, [.int (nI C), .ref q1, .ref q2, .ref q3, .ref q4, .ref q5, .ref q6, .int 0, .ref q7, .null, .null])), (q1, zI cI (C + 1)), (q2, zI cI (C + 1)), (q3, zI cI (C + 1)), (q4, zI cI (C + 1)), (q5, zI cI (C + 1)), (q6, zI cI (C + 1)), (q7, zI cZ (C + 1)), (q8, zI cZ (C + 1))] := hD
  refine W.widen (k := 8) (n := 328) (Nat.le_refl _) (show 287 + (C + 1) ≤ 328 by omega) ?_
  refine va_putF (D := G) (ci := 0) (v := .ref q8) (ty := .array .boolean) (C := RX0) (T := TX0) (N := 11) hx hb hts hi tyX0 tyX0_ok nmX0 hown hK hP hD hS 0 rfl rfl 9 (by decide) (hts (.fieldLink RX0 38 "TreapVersions$Store" "reached" "[Z") (by decide +kernel)) (fun _ h9 => h9) rfl hin rfl (by decide +kernel) rfl rfl (Nat.le_of_ble_eq_true rfl) dX0_init_78 (fun H locs hP hD hS => ?_)
  have hP : va_P G vwCl [(h0, .inr (0, [.int (nI C), .ref q1, .ref q2, .ref q3, .ref q4, .ref q5, .ref q6, .int 0, .ref q7, .ref q8, .null])), (q1, zI cI (C + 1)), (q2, zI cI (C + 1)), (q3, zI cI (C + 1)), (q4, zI cI (C + 1)), (q5, zI cI (C + 1)), (q6, zI cI (C + 1)), (q7, zI cZ (C + 1)), (q8, zI cZ (C + 1))] H := hP
  have hD : va_D A [(h0, .inr (0, [.int (nI C), .ref q1, .ref q2, .ref q3, .ref q4, .ref q5, .ref q6, .int 0, .ref q7, .ref q8, .null])), (q1, zI cI (C + 1)), (q2, zI cI (C + 1)), (q3, zI cI (C + 1)), (q4, zI cI (C + 1)), (q5, zI cI (C + 1)), (q6, zI cI (C + 1)), (q7, zI cZ (C + 1)), (q8, zI cZ (C + 1))] := hD
  refine lv_aload_n hx hb dX0_init_81 rfl (lv_at hl 0 rfl) ?_
  refine lv_iload_n hx hb dX0_init_82 rfl (lv_at hl 1 rfl) ?_
  refine lv_iconst (v := 1) hx hb dX0_init_83 (by decide) ?_
  refine lv_iadd hx hb dX0_init_84 ?_
  refine va_newI (atype := .int) (ty := .int) (N' := C + 1) (a0 := (C + 1, .inl (fun _ => 0))) hx hb (hts (.arrayClass .int) (by decide +kernel)) rfl hK hP hD hS hA 0 rfl (fun _ h => h) (fun _ => rfl) (nI_1 C) (by omega) (by decide) (Nat.le_of_ble_eq_true rfl) (show 328 + (C + 1) ≤ 369 by omega) dX0_init_85 (fun q9 H hP hD hS => ?_)
  have hP : va_P G vwCl [(h0, .inr (0, [.int (nI C), .ref q1, .ref q2, .ref q3, .ref q4, .ref q5, .ref q6, .int 0, .ref q7, .ref q8, .null])), (q1, zI cI (C + 1)), (q2, zI cI (C + 1)), (q3, zI cI (C + 1)), (q4, zI cI (C + 1)), (q5, zI cI (C + 1)), (q6, zI cI (C + 1)), (q7, zI cZ (C + 1)), (q8, zI cZ (C + 1)), (q9, zI cI (C + 1))] H := hP
  have hD : va_D A [(h0, .inr (0, [.int (nI C), .ref q1, .ref q2, .ref q3, .ref q4, .ref q5, .ref q6, .int 0, .ref q7, .ref q8, .null])), (q1, zI cI (C + 1)), (q2, zI cI (C + 1)), (q3, zI cI (C + 1)), (q4, zI cI (C + 1)), (q5, zI cI (C + 1)), (q6, zI cI (C + 1)), (q7, zI cZ (C + 1)), (q8, zI cZ (C + 1)), (q9, zI cI (C + 1))] := hD
  refine W.widen (k := 9) (n := 369) (Nat.le_refl _) (show 328 + (C + 1) ≤ 369 by omega) ?_
  refine va_putF (D := G) (ci := 0) (v := .ref q9) (ty := .array .int) (C := RX0) (T := TX0) (N := 11) hx hb hts hi tyX0 tyX0_ok nmX0 hown hK hP hD hS 0 rfl rfl 10 (by decide) (hts (.fieldLink RX0 41 "TreapVersions$Store" "pending" "[I") (by decide +kernel)) (fun _ h9 => h9) rfl hin rfl (by decide +kernel) rfl rfl (Nat.le_of_ble_eq_true rfl) dX0_init_87 (fun H locs hP hD hS => ?_)
  have hP : va_P G vwCl [(h0, .inr (0, [.int (nI C), .ref q1, .ref q2, .ref q3, .ref q4, .ref q5, .ref q6, .int 0, .ref q7, .ref q8, .ref q9])), (q1, zI cI (C + 1)), (q2, zI cI (C + 1)), (q3, zI cI (C + 1)), (q4, zI cI (C + 1)), (q5, zI cI (C + 1)), (q6, zI cI (C + 1)), (q7, zI cZ (C + 1)), (q8, zI cZ (C + 1)), (q9, zI cI (C + 1))] H := hP
  have hD : va_D A [(h0, .inr (0, [.int (nI C), .ref q1, .ref q2, .ref q3, .ref q4, .ref q5, .ref q6, .int 0, .ref q7, .ref q8, .ref q9])), (q1, zI cI (C + 1)), (q2, zI cI (C + 1)), (q3, zI cI (C + 1)), (q4, zI cI (C + 1)), (q5, zI cI (C + 1)), (q6, zI cI (C + 1)), (q7, zI cZ (C + 1)), (q8, zI cZ (C + 1)), (q9, zI cI (C + 1))] := hD
  exact W.vret hx hb hr (fun t ht hW => ⟨⟨(fun i => match i with | 0 => h0 | 1 => q1 | 2 => q2 | 3 => q3 | 4 => q4 | 5 => q5 | 6 => q6 | 7 => q7 | 8 => q8 | _ => q9), rfl, rfl, by rw [ht]; exact hP, hD⟩, hS.F ht⟩) hS.2.2 dX0_init_90
abbrev stF0 (C : Nat) (v1 v2 v3 v4 v5 v6 v7 v8 v9 v10 : Value) : List Value := [.int (nI C), v1, v2, v3, v4, v5, v6, v7, v8, v9, v10]
abbrev wy0 (hw hs : Nat) (fs : List Value) : va_W := [(hw, .inr (1, [.null, .null, .int 0])), (hs, .inr (0, fs))]
def wyW (hw hs qn : Nat) (fs : List Value) (C : Nat) (cI : ClassId) : va_W := [(hw, .inr (1, [.ref hs, .ref qn, .int 0])), (hs, .inr (0, fs)), (qn, zI cI C)]
set_option maxHeartbeats 4000000 in
set_option maxRecDepth 100000 in
theorem c_X1_init (l : Launch) (G : va_G) (cI cZ : ClassId) (hw hs sz C : Nat) (hC : C ≤ 40) (v1 v2 v3 v4 v5 v6 v7 v8 v9 v10 : Value) : Met l yX1_init wsX1_init ({ frames := 1, cells := 1, slots := 40, locals := 14 }) (va_Pc [.ref hw, .ref hs] (fun U => U.heap.size = sz ∧ va_P G vwCl (wy0 hw hs (stF0 C v1 v2 v3 v4 v5 v6 v7 v8 v9 v10)) U.heap ∧ va_K G vwCl (ty2 cI cZ) U ∧ va_D (fun _ => True) (wy0 hw hs (stF0 C v1 v2 v3 v4 v5 v6 v7 v8 v9 v10)))) (va_Qv (S := Nat) (fun _ => True) (fun qn t => va_P G vwCl (wyW hw hs qn (stF0 C v1 v2 v3 v4 v5 v6 v7 v8 v9 v10) C cI) t.heap ∧ va_D (va_A (wy0 hw hs (stF0 C v1 v2 v3 v4 v5 v6 v7 v8 v9 v10)) sz) (wyW hw hs qn (stF0 C v1 v2 v3 v4 v5 v6 v7 v8 v9 v10) C cI)) (va_A (wy0 hw hs (stF0 C v1 v2 v3 v4 v5 v6 v7 v8 v9 v10)) sz)) 1 40 (va_A (wy0 hw hs (stF0 C v1 v2 v3 v4 v5 v6 v7 v8 v9 v10)) sz) := by
  refine Met.ofW (cc := cX1_init) (maxL := 2) (ret := none) (by decide) rfl ?_
  intro p e s m args below meth c s₁ B hml hv
  obtain ⟨rfl, hsz, hP, hK, hD0⟩ := hv
  have hx := B.exec
  have hb := B.bytes
  have hr := B.returns
  have hts := atoms_spec (ws := wsX1_init) B.pre
  have hown : s.vm.findClass RX1 = some m.cls := findClass_of_methodNamed B.named
  have hlocks := B.notSynchronized
  have hin : meth.name = "<init>" := (name_of_methodNamed B.named B.method).1
  subst hsz
  have hD := hD0.self (sz := s.heap.size)
  generalize hAe : va_A (wy0 hw hs (stF0 C v1 v2 v3 v4 v5 v6 v7 v8 v9 v10)) s.heap.size = A at hD ⊢
  have hA : ∀ q : Nat, s.heap.size ≤ q → A q := fun q h => by rw [← hAe]; exact Or.inr h
  have hS : va_S A s.heap s.heap [] := va_S.rf
  have hP : va_P G vwCl (wy0 hw hs (stF0 C v1 v2 v3 v4 v5 v6 v7 v8 v9 v10)) s.heap := hP
  have hl := lv_entry ([.ref hw, .ref hs]) (n := 2) (Nat.le_of_ble_eq_true rfl)
  rw [lg_entry_eq]
  generalize (lg_sl ([.ref hw, .ref hs]) ++ List.replicate (2 - (lg_sl ([.ref hw, .ref hs])).length) Slot.unset).toArray = ls at hl ⊢
  have hl : lv_has ls 2 [(0, .ref hw), (1, .ref hs)] := hl
  have hi : ∀ w ∈ u_ws RX1 TX1 3, w ∈ wsX1_init := by decide +kernel
  have hi0 : ∀ w ∈ u_ws RX0 TX0 11, w ∈ wsX1_init := by decide +kernel
  refine lv_aload_n hx hb dX1_init_0 rfl (lv_at hl 0 rfl) ?_
  refine W.objInit hx hb hown (hts (.methodLink RX1 3 objectInit) (by decide +kernel)) (hts (.instanceMethod objectInit) (by decide +kernel)) (hts (.code objectInit ⟨#[0xb1]⟩ 1 none) (by decide +kernel)) rfl (by rw [hml]; exact hl.1) rfl dX1_init_1 (Nat.le_of_ble_eq_true rfl) (Nat.le_of_ble_eq_true rfl) ?_
  refine W.eq (g2 := F0 m 4 ls []) rfl ?_
  refine lv_aload_n hx hb dX1_init_4 rfl (lv_at hl 0 rfl) ?_
  refine lv_aload_n hx hb dX1_init_5 rfl (lv_at hl 1 rfl) ?_
  refine va_putF (D := G) (ci := 1) (v := .ref hs) (ty := .object "TreapVersions$Store") (C := RX1) (T := TX1) (N := 3) hx hb hts hi tyX1 tyX1_ok nmX1 hown hK hP hD hS 0 rfl rfl 0 (by decide) (hts (.fieldLink RX1 9 "TreapVersions$Way" "store" "LTreapVersions$Store;") (by decide +kernel)) (fun _ h9 => h9) rfl hin rfl (by decide +kernel) rfl rfl (Nat.le_of_ble_eq_true rfl) dX1_init_6 (fun H locs hP hD hS => ?_)
  have hP : va_P G vwCl [(hw, .inr (1, [.ref hs, .null, .int 0])), (hs, .inr (0, stF0 C v1 v2 v3 v4 v5 v6 v7 v8 v9 v10))] H := hP
  have hD : va_D A [(hw, .inr (1, [.ref hs, .null, .int 0])), (hs, .inr (0, stF0 C v1 v2 v3 v4 v5 v6 v7 v8 v9 v10))] := hD
  refine lv_aload_n hx hb dX1_init_9 rfl (lv_at hl 0 rfl) ?_
  refine lv_aload_n hx hb dX1_init_10 rfl (lv_at hl 1 rfl) ?_
  refine va_get (D := G) (ci := 0) (v := .int (nI C)) (C := RX0) (T := TX0) (N := 11) hx hb hts hi0 hown hK hP 1 rfl rfl 0 (by decide) (hts (.fieldLink RX1 15 "TreapVersions$Store" "room" "I") (by decide +kernel)) (fun _ h9 => h9) rfl dX1_init_11 ?_
  refine va_newI (atype := .int) (ty := .int) (N' := C) (a0 := (C, .inl (fun _ => 0))) hx hb (hts (.arrayClass .int) (by decide +kernel)) rfl hK hP hD hS hA 0 rfl (fun _ h => h) (fun _ => rfl) rfl (by omega) (by decide) (Nat.le_of_ble_eq_true rfl) (show 0 + C ≤ 40 by omega) dX1_init_14 (fun qn H hP hD hS => ?_)
  refine W.widen (k := 1) (n := 40) (Nat.le_refl _) (show 0 + C ≤ 40 by omega) ?_
  have hP : va_P G vwCl [(hw, .inr (1, [.ref hs, .null, .int 0])), (hs, .inr (0, stF0 C v1 v2 v3 v4 v5 v6 v7 v8 v9 v10)), (qn, zI cI C)] H := hP
  have hD : va_D A [(hw, .inr (1, [.ref hs, .null, .int 0])), (hs, .inr (0, stF0 C v1 v2 v3 v4 v5 v6 v7 v8 v9 v10)), (qn, zI cI C)] := hD
  refine va_putF (D := G) (ci := 1) (v := .ref qn) (ty := .array .int) (C := RX1) (T := TX1) (N := 3) hx hb hts hi tyX1 tyX1_ok nmX1 hown hK hP hD hS 0 rfl rfl 1 (by decide) (hts (.fieldLink RX1 21 "TreapVersions$Way" "noted" "[I") (by decide +kernel)) (fun _ h9 => h9) rfl hin rfl (by decide +kernel) rfl rfl (Nat.le_of_ble_eq_true rfl) dX1_init_16 (fun H locs hP hD hS => ?_)
  exact W.vret hx hb hr (fun t ht hW => ⟨⟨qn, rfl, trivial, by rw [ht]; exact hP, hD⟩, hS.F ht⟩) hS.2.2 dX1_init_19
end InitL
