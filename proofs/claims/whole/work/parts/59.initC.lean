/-! constructors of the class and of the reference -/
section InitM
def clC (c : Int32) : Nat := if c < 1 ∨ 40 < c then 20 else c.toNatClampNeg
def clV (c : Int32) : Nat := if c < 1 ∨ 8 < c then 4 else c.toNatClampNeg
theorem clC_out {c : Int32} (h : c < 1 ∨ 40 < c) : nI (clC c) = 20 := by unfold clC; rw [if_pos h]; rfl
theorem clV_out {c : Int32} (h : c < 1 ∨ 8 < c) : nI (clV c) = 4 := by unfold clV; rw [if_pos h]; rfl
theorem cl_in {c : Int32} (h1 : ¬ c < 1) : ∃ j : Nat, 1 ≤ j ∧ j < 2 ^ 31 ∧ c = nI j ∧ c.toNatClampNeg = j := by
  have h0 : ¬ c < 0 := by
    intro h
    apply h1
    rw [Int32.lt_iff_toInt_lt] at h ⊢
    rw [show (0 : Int32).toInt = 0 by decide] at h
    rw [show (1 : Int32).toInt = 1 by decide]
    omega
  obtain ⟨j, hj, rfl⟩ := nI_of h0
  refine ⟨j, ?_, hj, rfl, nI_clamp hj⟩
  rcases Nat.eq_zero_or_pos j with e | e
  · subst e; exact absurd (by decide) h1
  · exact e
theorem clC_in {c : Int32} (h1 : ¬ c < 1) (h2 : ¬ 40 < c) : nI (clC c) = c := by
  obtain ⟨j, -, -, e, e2⟩ := cl_in h1
  unfold clC; rw [if_neg (fun h => h.elim h1 h2), e2]; exact e.symm
theorem clV_in {c : Int32} (h1 : ¬ c < 1) (h2 : ¬ 8 < c) : nI (clV c) = c := by
  obtain ⟨j, -, -, e, e2⟩ := cl_in h1
  unfold clV; rw [if_neg (fun h => h.elim h1 h2), e2]; exact e.symm
theorem clC_b (c : Int32) : 1 ≤ clC c ∧ clC c ≤ 40 := by
  unfold clC
  by_cases h : c < 1 ∨ 40 < c
  · rw [if_pos h]; omega
  · rw [if_neg h]
    obtain ⟨j, h1, h2, e, e2⟩ := cl_in (fun q => h (Or.inl q))
    rw [e2]
    refine ⟨h1, ?_⟩
    rcases Nat.lt_or_ge 40 j with q | q
    · exact absurd (by rw [e]; exact nI_lt q h2) (fun q => h (Or.inr q))
    · exact q
theorem clV_b (c : Int32) : 1 ≤ clV c ∧ clV c ≤ 8 := by
  unfold clV
  by_cases h : c < 1 ∨ 8 < c
  · rw [if_pos h]; omega
  · rw [if_neg h]
    obtain ⟨j, h1, h2, e, e2⟩ := cl_in (fun q => h (Or.inl q))
    rw [e2]
    refine ⟨h1, ?_⟩
    rcases Nat.lt_or_ge 8 j with q | q
    · exact absurd (by rw [e]; exact nI_lt q h2) (fun q => h (Or.inr q))
    · exact q
/-- a new object of the class -/
def cs0 (sd : Int32) : CS := fun i => match i with
  | 12 => upd (fun _ => 0) (Int32.toNatClampNeg 0) (vp_nar .boolean 1)
  | 14 => fun _ => sd
  | _ => fun _ => 0
abbrev tv0 (h0 : Nat) : va_W := [(h0, .inr (2, [.null, .null, .null, .null, .int 0, .int 0]))]
set_option maxHeartbeats 4000000 in
set_option maxRecDepth 100000 in
theorem c_X2_init (l : Launch) (G : va_G) (cI cZ : ClassId) (h0 sz : Nat) (c0 v0 sd : Int32) : Met l yX2_init wsX2_init ({ frames := 2, cells := 14, slots := 439, locals := 35 }) (va_Pc [.ref h0, .int c0, .int v0, .int sd] (fun U => U.heap.size = sz ∧ va_P G vwCl (tv0 h0) U.heap ∧ va_K G vwCl (ty2 cI cZ) U ∧ va_D (fun _ => True) (tv0 h0))) (va_Qv (S := Nat → Nat) (fun ad => ad 0 = h0) (fun ad t => va_P G vwCl (cw ad (clC c0) (clV v0) cI cZ (cs0 sd)) t.heap ∧ va_D (va_A (tv0 h0) sz) (cw ad (clC c0) (clV v0) cI cZ (cs0 sd))) (va_A (tv0 h0) sz)) 14 439 (va_A (tv0 h0) sz) := by
  refine Met.ofW (cc := cX2_init) (maxL := 7) (ret := none) (by decide) rfl ?_
  intro p e s m args below meth c s₁ B hml hv
  obtain ⟨rfl, hsz, hP, hK, hD0⟩ := hv
  have hx := B.exec
  have hb := B.bytes
  have hr := B.returns
  have hts := atoms_spec (ws := wsX2_init) B.pre
  have hown : s.vm.findClass RX2 = some m.cls := findClass_of_methodNamed B.named
  have hlocks := B.notSynchronized
  have hin : meth.name = "<init>" := (name_of_methodNamed B.named B.method).1
  subst hsz
  have hD := hD0.self (sz := s.heap.size)
  generalize hAe : va_A (tv0 h0) s.heap.size = A at hD ⊢
  have hA : ∀ q : Nat, s.heap.size ≤ q → A q := fun q h => by rw [← hAe]; exact Or.inr h
  have hS : va_S A s.heap s.heap [] := va_S.rf
  have hP : va_P G vwCl (tv0 h0) s.heap := hP
  have hl := lv_entry ([.ref h0, .int c0, .int v0, .int sd]) (n := 7) (Nat.le_of_ble_eq_true rfl)
  rw [lg_entry_eq]
  generalize (lg_sl ([.ref h0, .int c0, .int v0, .int sd]) ++ List.replicate (7 - (lg_sl ([.ref h0, .int c0, .int v0, .int sd])).length) Slot.unset).toArray = ls at hl ⊢
  have hl : lv_has ls 7 [(0, .ref h0), (1, .int c0), (2, .int v0), (3, .int sd)] := hl
  have hi : ∀ w ∈ u_ws RX2 TX2 6, w ∈ wsX2_init := by decide +kernel
  have hi1 : ∀ w ∈ u_ws RX1 TX1 3, w ∈ wsX2_init := by decide +kernel
  have hi0 : ∀ w ∈ u_ws RX0 TX0 11, w ∈ wsX2_init := by decide +kernel
  obtain ⟨hC1, hC⟩ := clC_b c0
  obtain ⟨hV1, hV⟩ := clV_b v0
  have eC1 := @clC_out c0
  have eC2 := @clC_in c0
  have eV1 := @clV_out v0
  have eV2 := @clV_in v0
  generalize clC c0 = C at hC1 hC eC1 eC2 ⊢
  generalize clV v0 = V at hV1 hV eV1 eV2 ⊢
  refine lv_aload_n hx hb dX2_init_0 rfl (lv_at hl 0 rfl) ?_
  refine W.objInit hx hb hown (hts (.methodLink RX2 1 objectInit) (by decide +kernel)) (hts (.instanceMethod objectInit) (by decide +kernel)) (hts (.code objectInit ⟨#[0xb1]⟩ 1 none) (by decide +kernel)) rfl (by rw [hml]; exact hl.1) rfl dX2_init_1 (Nat.le_of_ble_eq_true rfl) (Nat.le_of_ble_eq_true rfl) ?_
  refine W.eq (g2 := F0 m 4 ls []) rfl ?_
  suffices k39 : ∀ ls : Array Slot, lv_has ls 7 [(4, .int (nI C)), (0, .ref h0), (1, .int c0), (2, .int v0), (3, .int sd)] → ∀ r : Int32, nI V = r → W p l e (headSpec wsX2_init ({ frames := 2, cells := 14, slots := 439, locals := 35 })).room s m #[Value.ref h0, Value.int c0, Value.int v0, Value.int sd] below meth c s.heap [] 0 0 (MQ below (va_Qv (S := Nat → Nat) (fun ad => ad 0 = h0) (fun ad t => va_P G vwCl (cw ad C V cI cZ (cs0 sd)) t.heap ∧ va_D A (cw ad C V cI cZ (cs0 sd))) A) #[Value.ref h0, Value.int c0, Value.int v0, Value.int sd] s 14 439 A) (F0 m 39 ls [.int r]) by
    have k21 : ∀ r : Int32, nI C = r → W p l e (headSpec wsX2_init ({ frames := 2, cells := 14, slots := 439, locals := 35 })).room s m #[Value.ref h0, Value.int c0, Value.int v0, Value.int sd] below meth c s.heap [] 0 0 (MQ below (va_Qv (S := Nat → Nat) (fun ad => ad 0 = h0) (fun ad t => va_P G vwCl (cw ad C V cI cZ (cs0 sd)) t.heap ∧ va_D A (cw ad C V cI cZ (cs0 sd))) A) #[Value.ref h0, Value.int c0, Value.int v0, Value.int sd] s 14 439 A) (F0 m 21 ls [.int r]) := by
      intro r er
      subst er
      refine lv_istore (lv' := [(4, .int (nI C)), (0, .ref h0), (1, .int c0), (2, .int v0), (3, .int sd)]) hx hb dX2_init_21 hl (by decide) rfl (fun ls hl => ?_)
      refine lv_iload_n hx hb dX2_init_23 rfl (lv_at hl 3 rfl) ?_
      refine lv_iconst (v := 1) hx hb dX2_init_24 (by decide) ?_
      refine lv_icmp_lt (tgt := 38) hx hb dX2_init_25 (by decide) (fun c1 => ?_) (fun c1 => ?_)
      · refine lv_iconst (v := 4) hx hb dX2_init_38 (by decide) ?_
        exact k39 ls hl 4 (eV1 (Or.inl c1))
      · refine lv_iload_n hx hb dX2_init_28 rfl (lv_at hl 3 rfl) ?_
        refine lv_bipush (v := 8) hx hb dX2_init_29 (by decide) ?_
        refine lv_icmp_gt (tgt := 38) hx hb dX2_init_31 (by decide) (fun c2 => ?_) (fun c2 => ?_)
        · refine lv_iconst (v := 4) hx hb dX2_init_38 (by decide) ?_
          exact k39 ls hl 4 (eV1 (Or.inr c2))
        · refine lv_iload_n hx hb dX2_init_34 rfl (lv_at hl 3 rfl) ?_
          refine lv_goto (tgt := 39) hx hb dX2_init_35 (by decide) ?_
          exact k39 ls hl v0 (eV2 c1 c2)
    refine lv_iload_n hx hb dX2_init_4 rfl (lv_at hl 1 rfl) ?_
    refine lv_iconst (v := 1) hx hb dX2_init_5 (by decide) ?_
    refine lv_icmp_lt (tgt := 19) hx hb dX2_init_6 (by decide) (fun c1 => ?_) (fun c1 => ?_)
    · refine lv_bipush (v := 20) hx hb dX2_init_19 (by decide) ?_
      exact k21 20 (eC1 (Or.inl c1))
    · refine lv_iload_n hx hb dX2_init_9 rfl (lv_at hl 1 rfl) ?_
      refine lv_bipush (v := 40) hx hb dX2_init_10 (by decide) ?_
      refine lv_icmp_gt (tgt := 19) hx hb dX2_init_12 (by decide) (fun c2 => ?_) (fun c2 => ?_)
      · refine lv_bipush (v := 20) hx hb dX2_init_19 (by decide) ?_
        exact k21 20 (eC1 (Or.inr c2))
      · refine lv_iload_n hx hb dX2_init_15 rfl (lv_at hl 1 rfl) ?_
        refine lv_goto (tgt := 21) hx hb dX2_init_16 (by decide) ?_
        exact k21 c0 (eC2 c1 c2)
  clear hl
  intro ls hl r er
  subst er
  clear eC1 eC2 eV1 eV2
  refine lv_istore (lv' := [(5, .int (nI V)), (4, .int (nI C)), (0, .ref h0), (1, .int c0), (2, .int v0), (3, .int sd)]) hx hb dX2_init_39 hl (by decide) rfl (fun ls hl => ?_)
  refine va_new (ci := 0) (fs := [.int 0, .null, .null, .null, .null, .null, .null, .int 0, .null, .null, .null]) (C := RX0) (T := TX0) (N := 11) hx hb hts hi0 tyX0 tyX0_ok hown (hts (.classLink RX2 9 RX0) (by decide +kernel)) (hts (.instantiable RX0 11) (by decide +kernel)) (hts (.initialized RX0) (by decide +kernel)) hK hP hD hS hA rfl (fun j hj => by rcases (show j = 0 ∨ j = 1 ∨ j = 2 ∨ j = 3 ∨ j = 4 ∨ j = 5 ∨ j = 6 ∨ j = 7 ∨ j = 8 ∨ j = 9 ∨ j = 10 by omega) with rfl | rfl | rfl | rfl | rfl | rfl | rfl | rfl | rfl | rfl | rfl <;> rfl) (Nat.le_of_ble_eq_true rfl) (Nat.le_of_ble_eq_true rfl) dX2_init_41 (fun qs H hP hD hS => ?_)
  have hP : va_P G vwCl ((h0, .inr (2, [.null, .null, .null, .null, .int 0, .int 0])) :: st0 qs) H := hP
  have hD : va_D A ((h0, .inr (2, [.null, .null, .null, .null, .int 0, .int 0])) :: st0 qs) := hD
  refine W.widen (k := 1) (n := 11) (Nat.le_refl _) (Nat.le_refl _) ?_
  refine lv_dup hx hb dX2_init_44 rfl ?_
  refine lv_iload hx hb dX2_init_45 (lv_at hl 1 rfl) ?_
  have hPc := hP.sub (ws' := st0 qs) [1] rfl
  have hDc := hD.sub (ws' := st0 qs) [1] (by decide) rfl
  have hFc := va_free (wc := st0 qs) hD hS hA [1] rfl
  refine va_callv (va_runI (As := [.int (nI C)]) (rest := [.ref qs]) ⟨hx, hb, hml, hown, hts⟩ (c_X0_init l G cI cZ qs H.size C hC) (cwI 1 hts gX2_init_X0_init rfl rfl rfl (hts (.initialized RX0) (by decide +kernel)) (hts (.methodLink RX2 11 yX0_init) (by decide +kernel)) (hts (.instanceMethod yX0_init) (by decide +kernel)) rfl (by decide +kernel) ⟨Nat.le_of_ble_eq_true rfl, Nat.le_of_ble_eq_true rfl⟩) ⟨fun a U g mk q => by obtain ⟨q0, q1, qP, qK, qD⟩ := q; exact ⟨q0, q1, qP, va_K.moved (u := U) (U := U.calling g mk a) (Vm.Alike.refl U.vm) qK, qD⟩, fun U hU hW => ⟨rfl, by rw [hU], by rw [hU]; exact hPc, va_K.moved hW.alike hK, hDc.weaken (fun _ _ _ _ => trivial)⟩⟩ rfl rfl hl.1 rfl (lv_room (Nat.le_of_ble_eq_true rfl)) dX2_init_47 ⟨Nat.le_of_ble_eq_true rfl, Nat.le_of_ble_eq_true rfl⟩) hS (fun q _ h => hFc q h) hFc (fun q t H1 locs ht hvm hw hB hz1 hk1 hS => ?_)
  replace hw : q 0 = qs := hw
  subst hw
  obtain ⟨hP1, hD1⟩ := hB
  rw [ht] at hP1
  obtain ⟨hP, hD⟩ := va_join (wr := [(h0, .inr (2, [.null, .null, .null, .null, .int 0, .int 0]))]) (w1 := stW q C cI cZ) hP hD [1] [0] rfl rfl (by decide) (by decide) hk1 hFc hP1 hD1
  generalize H1 = H at hP hS ⊢
  refine lv_astore (lv' := [(6, .ref (q 0)), (5, .int (nI V)), (4, .int (nI C)), (0, .ref h0), (1, .int c0), (2, .int v0), (3, .int sd)]) hx hb dX2_init_50 hl (by decide) rfl (fun ls hl => ?_)
  refine lv_aload_n hx hb dX2_init_52 rfl (lv_at hl 3 rfl) ?_
  refine lv_aload hx hb dX2_init_53 (lv_at hl 0 rfl) ?_
  refine va_putF (D := G) (ci := 2) (v := .ref (q 0)) (ty := .object "TreapVersions$Store") (C := RX2) (T := TX2) (N := 6) hx hb hts hi tyX2 tyX2_ok nmX2 hown hK hP hD hS 0 rfl rfl 0 (by decide) (hts (.fieldLink RX2 14 "TreapVersions" "store" "LTreapVersions$Store;") (by decide +kernel)) (fun _ h9 => h9) rfl hin rfl (by decide +kernel) rfl rfl (Nat.le_of_ble_eq_true rfl) dX2_init_55 (fun H locs hP hD hS => ?_)
  have hP : va_P G vwCl [(h0, .inr (2, [.ref (q 0), .null, .null, .null, .int 0, .int 0])), (q 0, .inr (0, [.int (nI C), .ref (q 1), .ref (q 2), .ref (q 3), .ref (q 4), .ref (q 5), .ref (q 6), .int 0, .ref (q 7), .ref (q 8), .ref (q 9)])), (q 1, zI cI (C + 1)), (q 2, zI cI (C + 1)), (q 3, zI cI (C + 1)), (q 4, zI cI (C + 1)), (q 5, zI cI (C + 1)), (q 6, zI cI (C + 1)), (q 7, zI cZ (C + 1)), (q 8, zI cZ (C + 1)), (q 9, zI cI (C + 1))] H := hP
  have hD : va_D A [(h0, .inr (2, [.ref (q 0), .null, .null, .null, .int 0, .int 0])), (q 0, .inr (0, [.int (nI C), .ref (q 1), .ref (q 2), .ref (q 3), .ref (q 4), .ref (q 5), .ref (q 6), .int 0, .ref (q 7), .ref (q 8), .ref (q 9)])), (q 1, zI cI (C + 1)), (q 2, zI cI (C + 1)), (q 3, zI cI (C + 1)), (q 4, zI cI (C + 1)), (q 5, zI cI (C + 1)), (q 6, zI cI (C + 1)), (q 7, zI cZ (C + 1)), (q 8, zI cZ (C + 1)), (q 9, zI cI (C + 1))] := hD
  refine lv_aload_n hx hb dX2_init_58 rfl (lv_at hl 3 rfl) ?_
  refine va_new (ci := 1) (fs := [.null, .null, .int 0]) (C := RX1) (T := TX1) (N := 3) hx hb hts hi1 tyX1 tyX1_ok hown (hts (.classLink RX2 18 RX1) (by decide +kernel)) (hts (.instantiable RX1 3) (by decide +kernel)) (hts (.initialized RX1) (by decide +kernel)) hK hP hD hS hA rfl (fun j hj => by rcases (show j = 0 ∨ j = 1 ∨ j = 2 by omega) with rfl | rfl | rfl <;> rfl) (Nat.le_of_ble_eq_true rfl) (Nat.le_of_ble_eq_true rfl) dX2_init_59 (fun qw H hP hD hS => ?_)
  refine W.widen (k := 11) (n := 383) (Nat.le_refl _) (Nat.le_refl _) ?_
  have hP : va_P G vwCl [(h0, .inr (2, [.ref (q 0), .null, .null, .null, .int 0, .int 0])), (q 0, .inr (0, [.int (nI C), .ref (q 1), .ref (q 2), .ref (q 3), .ref (q 4), .ref (q 5), .ref (q 6), .int 0, .ref (q 7), .ref (q 8), .ref (q 9)])), (q 1, zI cI (C + 1)), (q 2, zI cI (C + 1)), (q 3, zI cI (C + 1)), (q 4, zI cI (C + 1)), (q 5, zI cI (C + 1)), (q 6, zI cI (C + 1)), (q 7, zI cZ (C + 1)), (q 8, zI cZ (C + 1)), (q 9, zI cI (C + 1)), (qw, .inr (1, [.null, .null, .int 0]))] H := hP
  have hD : va_D A [(h0, .inr (2, [.ref (q 0), .null, .null, .null, .int 0, .int 0])), (q 0, .inr (0, [.int (nI C), .ref (q 1), .ref (q 2), .ref (q 3), .ref (q 4), .ref (q 5), .ref (q 6), .int 0, .ref (q 7), .ref (q 8), .ref (q 9)])), (q 1, zI cI (C + 1)), (q 2, zI cI (C + 1)), (q 3, zI cI (C + 1)), (q 4, zI cI (C + 1)), (q 5, zI cI (C + 1)), (q 6, zI cI (C + 1)), (q 7, zI cZ (C + 1)), (q 8, zI cZ (C + 1)), (q 9, zI cI (C + 1)), (qw, .inr (1, [.null, .null, .int 0]))] := hD
  refine lv_dup hx hb dX2_init_62 rfl ?_
  refine lv_aload hx hb dX2_init_63 (lv_at hl 0 rfl) ?_
  have hPc := hP.sub (ws' := (wy0 qw (q 0) [.int (nI C), .ref (q 1), .ref (q 2), .ref (q 3), .ref (q 4), .ref (q 5), .ref (q 6), .int 0, .ref (q 7), .ref (q 8), .ref (q 9)])) [11, 1] rfl
  have hDc := hD.sub (ws' := (wy0 qw (q 0) [.int (nI C), .ref (q 1), .ref (q 2), .ref (q 3), .ref (q 4), .ref (q 5), .ref (q 6), .int 0, .ref (q 7), .ref (q 8), .ref (q 9)])) [11, 1] (by decide) rfl
  have hFc := va_free (wc := (wy0 qw (q 0) [.int (nI C), .ref (q 1), .ref (q 2), .ref (q 3), .ref (q 4), .ref (q 5), .ref (q 6), .int 0, .ref (q 7), .ref (q 8), .ref (q 9)])) hD hS hA [11, 1] rfl
  refine va_callv (va_runI (As := [.ref (q 0)]) (rest := [.ref qw, .ref h0]) ⟨hx, hb, hml, hown, hts⟩ (c_X1_init l G cI cZ qw (q 0) H.size C hC (.ref (q 1)) (.ref (q 2)) (.ref (q 3)) (.ref (q 4)) (.ref (q 5)) (.ref (q 6)) (.int 0) (.ref (q 7)) (.ref (q 8)) (.ref (q 9))) (cwI 1 hts gX2_init_X1_init rfl rfl rfl (hts (.initialized RX1) (by decide +kernel)) (hts (.methodLink RX2 20 yX1_init) (by decide +kernel)) (hts (.instanceMethod yX1_init) (by decide +kernel)) rfl (by decide +kernel) ⟨Nat.le_of_ble_eq_true rfl, Nat.le_of_ble_eq_true rfl⟩) ⟨fun a U g mk q => by obtain ⟨q0, q1, qP, qK, qD⟩ := q; exact ⟨q0, q1, qP, va_K.moved (u := U) (U := U.calling g mk a) (Vm.Alike.refl U.vm) qK, qD⟩, fun U hU hW => ⟨rfl, by rw [hU], by rw [hU]; exact hPc, va_K.moved hW.alike hK, hDc.weaken (fun _ _ _ _ => trivial)⟩⟩ rfl rfl hl.1 rfl (lv_room (Nat.le_of_ble_eq_true rfl)) dX2_init_65 ⟨Nat.le_of_ble_eq_true rfl, Nat.le_of_ble_eq_true rfl⟩) hS (fun q _ h => hFc q h) hFc (fun qn t H1 locs ht hvm hw hB hz1 hk1 hS => ?_)
  obtain ⟨hP1, hD1⟩ := hB
  rw [ht] at hP1
  obtain ⟨hP, hD⟩ := va_join (wr := [(h0, .inr (2, [.ref (q 0), .null, .null, .null, .int 0, .int 0])), (q 1, zI cI (C + 1)), (q 2, zI cI (C + 1)), (q 3, zI cI (C + 1)), (q 4, zI cI (C + 1)), (q 5, zI cI (C + 1)), (q 6, zI cI (C + 1)), (q 7, zI cZ (C + 1)), (q 8, zI cZ (C + 1)), (q 9, zI cI (C + 1))]) (w1 := (wyW qw (q 0) qn [.int (nI C), .ref (q 1), .ref (q 2), .ref (q 3), .ref (q 4), .ref (q 5), .ref (q 6), .int 0, .ref (q 7), .ref (q 8), .ref (q 9)] C cI)) hP hD [11, 1] [0, 2, 3, 4, 5, 6, 7, 8, 9, 10] rfl rfl (by decide) (by decide) hk1 hFc hP1 hD1
  generalize H1 = H at hP hS ⊢
  have hP : va_P G vwCl [(h0, .inr (2, [.ref (q 0), .null, .null, .null, .int 0, .int 0])), (q 1, zI cI (C + 1)), (q 2, zI cI (C + 1)), (q 3, zI cI (C + 1)), (q 4, zI cI (C + 1)), (q 5, zI cI (C + 1)), (q 6, zI cI (C + 1)), (q 7, zI cZ (C + 1)), (q 8, zI cZ (C + 1)), (q 9, zI cI (C + 1)), (qw, .inr (1, [.ref (q 0), .ref qn, .int 0])), (q 0, .inr (0, [.int (nI C), .ref (q 1), .ref (q 2), .ref (q 3), .ref (q 4), .ref (q 5), .ref (q 6), .int 0, .ref (q 7), .ref (q 8), .ref (q 9)])), (qn, zI cI C)] H := hP
  have hD : va_D A [(h0, .inr (2, [.ref (q 0), .null, .null, .null, .int 0, .int 0])), (q 1, zI cI (C + 1)), (q 2, zI cI (C + 1)), (q 3, zI cI (C + 1)), (q 4, zI cI (C + 1)), (q 5, zI cI (C + 1)), (q 6, zI cI (C + 1)), (q 7, zI cZ (C + 1)), (q 8, zI cZ (C + 1)), (q 9, zI cI (C + 1)), (qw, .inr (1, [.ref (q 0), .ref qn, .int 0])), (q 0, .inr (0, [.int (nI C), .ref (q 1), .ref (q 2), .ref (q 3), .ref (q 4), .ref (q 5), .ref (q 6), .int 0, .ref (q 7), .ref (q 8), .ref (q 9)])), (qn, zI cI C)] := hD
  refine va_putF (D := G) (ci := 2) (v := .ref qw) (ty := .object "TreapVersions$Way") (C := RX2) (T := TX2) (N := 6) hx hb hts hi tyX2 tyX2_ok nmX2 hown hK hP hD hS 0 rfl rfl 1 (by decide) (hts (.fieldLink RX2 23 "TreapVersions" "way" "LTreapVersions$Way;") (by decide +kernel)) (fun _ h9 => h9) rfl hin rfl (by decide +kernel) rfl rfl (Nat.le_of_ble_eq_true rfl) dX2_init_68 (fun H locs hP hD hS => ?_)
  have hP : va_P G vwCl [(h0, .inr (2, [.ref (q 0), .ref qw, .null, .null, .int 0, .int 0])), (q 1, zI cI (C + 1)), (q 2, zI cI (C + 1)), (q 3, zI cI (C + 1)), (q 4, zI cI (C + 1)), (q 5, zI cI (C + 1)), (q 6, zI cI (C + 1)), (q 7, zI cZ (C + 1)), (q 8, zI cZ (C + 1)), (q 9, zI cI (C + 1)), (qw, .inr (1, [.ref (q 0), .ref qn, .int 0])), (q 0, .inr (0, [.int (nI C), .ref (q 1), .ref (q 2), .ref (q 3), .ref (q 4), .ref (q 5), .ref (q 6), .int 0, .ref (q 7), .ref (q 8), .ref (q 9)])), (qn, zI cI C)] H := hP
  have hD : va_D A [(h0, .inr (2, [.ref (q 0), .ref qw, .null, .null, .int 0, .int 0])), (q 1, zI cI (C + 1)), (q 2, zI cI (C + 1)), (q 3, zI cI (C + 1)), (q 4, zI cI (C + 1)), (q 5, zI cI (C + 1)), (q 6, zI cI (C + 1)), (q 7, zI cZ (C + 1)), (q 8, zI cZ (C + 1)), (q 9, zI cI (C + 1)), (qw, .inr (1, [.ref (q 0), .ref qn, .int 0])), (q 0, .inr (0, [.int (nI C), .ref (q 1), .ref (q 2), .ref (q 3), .ref (q 4), .ref (q 5), .ref (q 6), .int 0, .ref (q 7), .ref (q 8), .ref (q 9)])), (qn, zI cI C)] := hD
  refine lv_aload_n hx hb dX2_init_71 rfl (lv_at hl 3 rfl) ?_
  refine lv_iload hx hb dX2_init_72 (lv_at hl 1 rfl) ?_
  refine va_newI (atype := .boolean) (ty := .boolean) (N' := V) (a0 := (V, .inl (fun _ => 0))) hx hb (hts (.arrayClass .boolean) (by decide +kernel)) rfl hK hP hD hS hA 1 rfl (fun _ h => h) (fun _ => rfl) rfl (by omega) (by decide) (Nat.le_of_ble_eq_true rfl) (show 383 + 40 + V ≤ 439 by omega) dX2_init_74 (fun ql H hP hD hS => ?_)
  refine W.widen (k := 13) (n := 431) (Nat.le_refl _) (show 383 + 40 + V ≤ 431 by omega) ?_
  have hP : va_P G vwCl [(h0, .inr (2, [.ref (q 0), .ref qw, .null, .null, .int 0, .int 0])), (q 1, zI cI (C + 1)), (q 2, zI cI (C + 1)), (q 3, zI cI (C + 1)), (q 4, zI cI (C + 1)), (q 5, zI cI (C + 1)), (q 6, zI cI (C + 1)), (q 7, zI cZ (C + 1)), (q 8, zI cZ (C + 1)), (q 9, zI cI (C + 1)), (qw, .inr (1, [.ref (q 0), .ref qn, .int 0])), (q 0, .inr (0, [.int (nI C), .ref (q 1), .ref (q 2), .ref (q 3), .ref (q 4), .ref (q 5), .ref (q 6), .int 0, .ref (q 7), .ref (q 8), .ref (q 9)])), (qn, zI cI C), (ql, zI cZ V)] H := hP
  have hD : va_D A [(h0, .inr (2, [.ref (q 0), .ref qw, .null, .null, .int 0, .int 0])), (q 1, zI cI (C + 1)), (q 2, zI cI (C + 1)), (q 3, zI cI (C + 1)), (q 4, zI cI (C + 1)), (q 5, zI cI (C + 1)), (q 6, zI cI (C + 1)), (q 7, zI cZ (C + 1)), (q 8, zI cZ (C + 1)), (q 9, zI cI (C + 1)), (qw, .inr (1, [.ref (q 0), .ref qn, .int 0])), (q 0, .inr (0, [.int (nI C), .ref (q 1), .ref (q 2), .ref (q 3), .ref (q 4), .ref (q 5), .ref (q 6), .int 0, .ref (q 7), .ref (q 8), .ref (q 9)])), (qn, zI cI C), (ql, zI cZ V)] := hD
  refine va_putF (D := G) (ci := 2) (v := .ref ql) (ty := .array .boolean) (C := RX2) (T := TX2) (N := 6) hx hb hts hi tyX2 tyX2_ok nmX2 hown hK hP hD hS 0 rfl rfl 2 (by decide) (hts (.fieldLink RX2 27 "TreapVersions" "live" "[Z") (by decide +kernel)) (fun _ h9 => h9) rfl hin rfl (by decide +kernel) rfl rfl (Nat.le_of_ble_eq_true rfl) dX2_init_76 (fun H locs hP hD hS => ?_)
  have hP : va_P G vwCl [(h0, .inr (2, [.ref (q 0), .ref qw, .ref ql, .null, .int 0, .int 0])), (q 1, zI cI (C + 1)), (q 2, zI cI (C + 1)), (q 3, zI cI (C + 1)), (q 4, zI cI (C + 1)), (q 5, zI cI (C + 1)), (q 6, zI cI (C + 1)), (q 7, zI cZ (C + 1)), (q 8, zI cZ (C + 1)), (q 9, zI cI (C + 1)), (qw, .inr (1, [.ref (q 0), .ref qn, .int 0])), (q 0, .inr (0, [.int (nI C), .ref (q 1), .ref (q 2), .ref (q 3), .ref (q 4), .ref (q 5), .ref (q 6), .int 0, .ref (q 7), .ref (q 8), .ref (q 9)])), (qn, zI cI C), (ql, zI cZ V)] H := hP
  have hD : va_D A [(h0, .inr (2, [.ref (q 0), .ref qw, .ref ql, .null, .int 0, .int 0])), (q 1, zI cI (C + 1)), (q 2, zI cI (C + 1)), (q 3, zI cI (C + 1)), (q 4, zI cI (C + 1)), (q 5, zI cI (C + 1)), (q 6, zI cI (C + 1)), (q 7, zI cZ (C + 1)), (q 8, zI cZ (C + 1)), (q 9, zI cI (C + 1)), (qw, .inr (1, [.ref (q 0), .ref qn, .int 0])), (q 0, .inr (0, [.int (nI C), .ref (q 1), .ref (q 2), .ref (q 3), .ref (q 4), .ref (q 5), .ref (q 6), .int 0, .ref (q 7), .ref (q 8), .ref (q 9)])), (qn, zI cI C), (ql, zI cZ V)] := hD
  refine lv_aload_n hx hb dX2_init_79 rfl (lv_at hl 3 rfl) ?_
  refine lv_iload hx hb dX2_init_80 (lv_at hl 1 rfl) ?_
  refine va_newI (atype := .int) (ty := .int) (N' := V) (a0 := (V, .inl (fun _ => 0))) hx hb (hts (.arrayClass .int) (by decide +kernel)) rfl hK hP hD hS hA 0 rfl (fun _ h => h) (fun _ => rfl) rfl (by omega) (by decide) (Nat.le_of_ble_eq_true rfl) (show 431 + V ≤ 439 by omega) dX2_init_82 (fun qr H hP hD hS => ?_)
  refine W.widen (k := 14) (n := 439) (Nat.le_refl _) (show 431 + V ≤ 439 by omega) ?_
  have hP : va_P G vwCl [(h0, .inr (2, [.ref (q 0), .ref qw, .ref ql, .null, .int 0, .int 0])), (q 1, zI cI (C + 1)), (q 2, zI cI (C + 1)), (q 3, zI cI (C + 1)), (q 4, zI cI (C + 1)), (q 5, zI cI (C + 1)), (q 6, zI cI (C + 1)), (q 7, zI cZ (C + 1)), (q 8, zI cZ (C + 1)), (q 9, zI cI (C + 1)), (qw, .inr (1, [.ref (q 0), .ref qn, .int 0])), (q 0, .inr (0, [.int (nI C), .ref (q 1), .ref (q 2), .ref (q 3), .ref (q 4), .ref (q 5), .ref (q 6), .int 0, .ref (q 7), .ref (q 8), .ref (q 9)])), (qn, zI cI C), (ql, zI cZ V), (qr, zI cI V)] H := hP
  have hD : va_D A [(h0, .inr (2, [.ref (q 0), .ref qw, .ref ql, .null, .int 0, .int 0])), (q 1, zI cI (C + 1)), (q 2, zI cI (C + 1)), (q 3, zI cI (C + 1)), (q 4, zI cI (C + 1)), (q 5, zI cI (C + 1)), (q 6, zI cI (C + 1)), (q 7, zI cZ (C + 1)), (q 8, zI cZ (C + 1)), (q 9, zI cI (C + 1)), (qw, .inr (1, [.ref (q 0), .ref qn, .int 0])), (q 0, .inr (0, [.int (nI C), .ref (q 1), .ref (q 2), .ref (q 3), .ref (q 4), .ref (q 5), .ref (q 6), .int 0, .ref (q 7), .ref (q 8), .ref (q 9)])), (qn, zI cI C), (ql, zI cZ V), (qr, zI cI V)] := hD
  refine va_putF (D := G) (ci := 2) (v := .ref qr) (ty := .array .int) (C := RX2) (T := TX2) (N := 6) hx hb hts hi tyX2 tyX2_ok nmX2 hown hK hP hD hS 0 rfl rfl 3 (by decide) (hts (.fieldLink RX2 31 "TreapVersions" "roots" "[I") (by decide +kernel)) (fun _ h9 => h9) rfl hin rfl (by decide +kernel) rfl rfl (Nat.le_of_ble_eq_true rfl) dX2_init_84 (fun H locs hP hD hS => ?_)
  have hP : va_P G vwCl [(h0, .inr (2, [.ref (q 0), .ref qw, .ref ql, .ref qr, .int 0, .int 0])), (q 1, zI cI (C + 1)), (q 2, zI cI (C + 1)), (q 3, zI cI (C + 1)), (q 4, zI cI (C + 1)), (q 5, zI cI (C + 1)), (q 6, zI cI (C + 1)), (q 7, zI cZ (C + 1)), (q 8, zI cZ (C + 1)), (q 9, zI cI (C + 1)), (qw, .inr (1, [.ref (q 0), .ref qn, .int 0])), (q 0, .inr (0, [.int (nI C), .ref (q 1), .ref (q 2), .ref (q 3), .ref (q 4), .ref (q 5), .ref (q 6), .int 0, .ref (q 7), .ref (q 8), .ref (q 9)])), (qn, zI cI C), (ql, zI cZ V), (qr, zI cI V)] H := hP
  have hD : va_D A [(h0, .inr (2, [.ref (q 0), .ref qw, .ref ql, .ref qr, .int 0, .int 0])), (q 1, zI cI (C + 1)), (q 2, zI cI (C + 1)), (q 3, zI cI (C + 1)), (q 4, zI cI (C + 1)), (q 5, zI cI (C + 1)), (q 6, zI cI (C + 1)), (q 7, zI cZ (C + 1)), (q 8, zI cZ (C + 1)), (q 9, zI cI (C + 1)), (qw, .inr (1, [.ref (q 0), .ref qn, .int 0])), (q 0, .inr (0, [.int (nI C), .ref (q 1), .ref (q 2), .ref (q 3), .ref (q 4), .ref (q 5), .ref (q 6), .int 0, .ref (q 7), .ref (q 8), .ref (q 9)])), (qn, zI cI C), (ql, zI cZ V), (qr, zI cI V)] := hD
  refine lv_aload_n hx hb dX2_init_87 rfl (lv_at hl 3 rfl) ?_
  refine va_get (D := G) (ci := 2) (v := .ref ql) (C := RX2) (T := TX2) (N := 6) hx hb hts hi hown hK hP 0 rfl rfl 2 (by decide) (hts (.fieldLink RX2 27 "TreapVersions" "live" "[Z") (by decide +kernel)) (fun _ h9 => h9) rfl dX2_init_88 ?_
  refine lv_iconst (v := 0) hx hb dX2_init_91 (by decide) ?_
  refine lv_iconst (v := 1) hx hb dX2_init_92 (by decide) ?_
  refine va_zast hx hb hK hP hD hS 13 1 rfl rfl (i := 0) (x := 1) (show vp_in (nI 0) V from vp_in_nI (by omega) (by omega)) dX2_init_93 (fun H locs hP hD hS => ?_)
  have hP : va_P G vwCl [(h0, .inr (2, [.ref (q 0), .ref qw, .ref ql, .ref qr, .int 0, .int 0])), (q 1, zI cI (C + 1)), (q 2, zI cI (C + 1)), (q 3, zI cI (C + 1)), (q 4, zI cI (C + 1)), (q 5, zI cI (C + 1)), (q 6, zI cI (C + 1)), (q 7, zI cZ (C + 1)), (q 8, zI cZ (C + 1)), (q 9, zI cI (C + 1)), (qw, .inr (1, [.ref (q 0), .ref qn, .int 0])), (q 0, .inr (0, [.int (nI C), .ref (q 1), .ref (q 2), .ref (q 3), .ref (q 4), .ref (q 5), .ref (q 6), .int 0, .ref (q 7), .ref (q 8), .ref (q 9)])), (qn, zI cI C), (ql, .inl (cZ, V, .inl (upd (fun _ => 0) (Int32.toNatClampNeg 0) (vp_nar .boolean 1)))), (qr, zI cI V)] H := hP
  have hD : va_D A [(h0, .inr (2, [.ref (q 0), .ref qw, .ref ql, .ref qr, .int 0, .int 0])), (q 1, zI cI (C + 1)), (q 2, zI cI (C + 1)), (q 3, zI cI (C + 1)), (q 4, zI cI (C + 1)), (q 5, zI cI (C + 1)), (q 6, zI cI (C + 1)), (q 7, zI cZ (C + 1)), (q 8, zI cZ (C + 1)), (q 9, zI cI (C + 1)), (qw, .inr (1, [.ref (q 0), .ref qn, .int 0])), (q 0, .inr (0, [.int (nI C), .ref (q 1), .ref (q 2), .ref (q 3), .ref (q 4), .ref (q 5), .ref (q 6), .int 0, .ref (q 7), .ref (q 8), .ref (q 9)])), (qn, zI cI C), (ql, .inl (cZ, V, .inl (upd (fun _ => 0) (Int32.toNatClampNeg 0) (vp_nar .boolean 1)))), (qr, zI cI V)] := hD
  refine lv_aload_n hx hb dX2_init_94 rfl (lv_at hl 3 rfl) ?_
  refine lv_iload_n hx hb dX2_init_95 rfl (lv_at hl 6 rfl) ?_
  refine va_put (D := G) (ci := 2) (v := .int sd) (ty := .int) (C := RX2) (T := TX2) (N := 6) hx hb hts hi tyX2 tyX2_ok nmX2 hown hK hP hD hS 0 rfl rfl 4 (by decide) (hts (.fieldLink RX2 35 "TreapVersions" "seed" "I") (by decide +kernel)) (fun _ h9 => h9) rfl (by decide +kernel) rfl rfl (Nat.le_of_ble_eq_true rfl) dX2_init_96 (fun H locs hP hD hS => ?_)
  have hP : va_P G vwCl [(h0, .inr (2, [.ref (q 0), .ref qw, .ref ql, .ref qr, .int sd, .int 0])), (q 1, zI cI (C + 1)), (q 2, zI cI (C + 1)), (q 3, zI cI (C + 1)), (q 4, zI cI (C + 1)), (q 5, zI cI (C + 1)), (q 6, zI cI (C + 1)), (q 7, zI cZ (C + 1)), (q 8, zI cZ (C + 1)), (q 9, zI cI (C + 1)), (qw, .inr (1, [.ref (q 0), .ref qn, .int 0])), (q 0, .inr (0, [.int (nI C), .ref (q 1), .ref (q 2), .ref (q 3), .ref (q 4), .ref (q 5), .ref (q 6), .int 0, .ref (q 7), .ref (q 8), .ref (q 9)])), (qn, zI cI C), (ql, .inl (cZ, V, .inl (upd (fun _ => 0) (Int32.toNatClampNeg 0) (vp_nar .boolean 1)))), (qr, zI cI V)] H := hP
  have hD : va_D A [(h0, .inr (2, [.ref (q 0), .ref qw, .ref ql, .ref qr, .int sd, .int 0])), (q 1, zI cI (C + 1)), (q 2, zI cI (C + 1)), (q 3, zI cI (C + 1)), (q 4, zI cI (C + 1)), (q 5, zI cI (C + 1)), (q 6, zI cI (C + 1)), (q 7, zI cZ (C + 1)), (q 8, zI cZ (C + 1)), (q 9, zI cI (C + 1)), (qw, .inr (1, [.ref (q 0), .ref qn, .int 0])), (q 0, .inr (0, [.int (nI C), .ref (q 1), .ref (q 2), .ref (q 3), .ref (q 4), .ref (q 5), .ref (q 6), .int 0, .ref (q 7), .ref (q 8), .ref (q 9)])), (qn, zI cI C), (ql, .inl (cZ, V, .inl (upd (fun _ => 0) (Int32.toNatClampNeg 0) (vp_nar .boolean 1)))), (qr, zI cI V)] := hD
  obtain ⟨ad, ead⟩ : ∃ ad : Nat → Nat, ad = (fun i => match i with | 0 => h0 | 1 => q 0 | 2 => qw | 3 => ql | 4 => qr | 5 => q 1 | 6 => q 2 | 7 => q 3 | 8 => q 4 | 9 => q 5 | 10 => q 6 | 11 => q 7 | 12 => q 8 | 13 => q 9 | _ => qn) := ⟨_, rfl⟩
  have hP9 : va_P G vwCl (cw ad C V cI cZ (cs0 sd)) H := by
    rw [ead]
    exact hP.sub [0, 11, 10, 13, 14, 1, 2, 3, 4, 5, 6, 7, 8, 9, 12] rfl
  have hD9 : va_D A (cw ad C V cI cZ (cs0 sd)) := by
    rw [ead]
    exact hD.sub [0, 11, 10, 13, 14, 1, 2, 3, 4, 5, 6, 7, 8, 9, 12] (by decide) rfl
  exact W.vret hx hb hr (fun t ht hW => ⟨⟨ad, rfl, by rw [ead]; rfl, by rw [ht]; exact hP9, hD9⟩, hS.F ht⟩) hS.2.2 dX2_init_99
end InitM
