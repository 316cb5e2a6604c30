set_option maxHeartbeats 4000000 in
set_option maxRecDepth 100000 in
theorem c_X0_hasRoom (l : Launch) (G : va_G) (ad : Nat → Nat) (C V : Nat) (cI cZ : ClassId) (p0 : Int32) (u : CS) (post : Int32 → CS → Prop) (hw : wp_X0_hasRoom C V p0 u post) : CtI l yX0_hasRoom wsX0_hasRoom ({ frames := 0, cells := 0, slots := 0, locals := 0 }) G (ty2 cI cZ) (cw ad C V cI cZ) [.ref (ad 1), .int p0] u (fun r u => isB r ∧ post r u) := by
  refine CtI.of (cc := cX0_hasRoom) (maxL := 2) (rt := .boolean) (by decide) rfl (Nat.le_of_ble_eq_true rfl) ?_
  intro p e s m below meth c A Q hx hb hml hts hown hK hA hret ls hl hP hD hS
  have hiX0 : ∀ w ∈ u_ws RX0 TX0 11, w ∈ wsX0_hasRoom := by decide +kernel
  have hown : s.vm.findClass RX0 = some m.cls := hown
  have hl : lv_has ls 2 [(0, .ref (ad 1)), (1, .int p0)] := hl
  unfold wp_X0_hasRoom at hw
  refine lv_aload_n hx hb dX0_hasRoom_0 rfl (lv_at hl 0 rfl) ?_
  refine va_get (D := G) (ci := 0) (v := .int (u 6 0)) (C := RX0) (T := TX0) (N := 11) hx hb hts hiX0 hown hK hP 1 rfl rfl 7 (by decide) (hts (.fieldLink RX0 44 "TreapVersions$Store" "usedPlaces" "I") (by decide +kernel)) (fun _ h9 => h9) rfl dX0_hasRoom_1 ?_
  refine lv_topi (fun z1 ez1 => ?_)
  have hw := nmI.go hw z1 ez1
  refine lv_iload_n hx hb dX0_hasRoom_4 rfl (lv_at hl 1 rfl) ?_
  refine lv_iadd hx hb dX0_hasRoom_5 ?_
  refine lv_topi (fun z2 ez2 => ?_)
  have hw := nmI.go hw z2 ez2
  refine lv_aload_n hx hb dX0_hasRoom_6 rfl (lv_at hl 0 rfl) ?_
  refine va_get (D := G) (ci := 0) (v := .int (nI C)) (C := RX0) (T := TX0) (N := 11) hx hb hts hiX0 hown hK hP 1 rfl rfl 0 (by decide) (hts (.fieldLink RX0 9 "TreapVersions$Store" "room" "I") (by decide +kernel)) (fun _ h9 => h9) rfl dX0_hasRoom_7 ?_
  refine lv_topi (fun z3 ez3 => ?_)
  have hw := nmI.go hw z3 ez3
  refine lv_icmp_gt (tgt := 17) hx hb dX0_hasRoom_10 (by decide) (fun c4 => ?_) (fun c4 => ?_)
  · have hw := brN.t hw c4
    refine lv_iconst (v := 0) hx hb dX0_hasRoom_17 (by decide) ?_
    exact hret 0 u 18 _ _ _ dX0_hasRoom_18 rfl ⟨isB_0, hw⟩ hP hD hS
  · have hw := brN.f hw c4
    refine lv_iconst (v := 1) hx hb dX0_hasRoom_13 (by decide) ?_
    refine lv_goto (tgt := 18) hx hb dX0_hasRoom_14 (by decide) ?_
    exact hret 1 u 18 _ _ _ dX0_hasRoom_18 rfl ⟨isB_1, hw⟩ hP hD hS
set_option maxHeartbeats 4000000 in
set_option maxRecDepth 100000 in
theorem c_X0_freePlace (l : Launch) (G : va_G) (ad : Nat → Nat) (C V : Nat) (cI cZ : ClassId) (u : CS) (post : Int32 → CS → Prop) (hw : wp_X0_freePlace C V u post) : CtI l yX0_freePlace wsX0_freePlace ({ frames := 0, cells := 0, slots := 0, locals := 0 }) G (ty2 cI cZ) (cw ad C V cI cZ) [.ref (ad 1)] u post := by
  refine CtI.of (cc := cX0_freePlace) (maxL := 2) (rt := .int) (by decide) rfl (Nat.le_of_ble_eq_true rfl) ?_
  intro p e s m below meth c A Q hx hb hml hts hown hK hA hret ls hl hP hD hS
  have hiX0 : ∀ w ∈ u_ws RX0 TX0 11, w ∈ wsX0_freePlace := by decide +kernel
  have hown : s.vm.findClass RX0 = some m.cls := hown
  have hl : lv_has ls 2 [(0, .ref (ad 1))] := hl
  have hlp2 : ∀ (n : Nat) (a1 : Int32) (u : CS), lp_X0_freePlace_2 C V post n a1 u → ∀ (H : Heap) (locs : List Loc), va_P G vwCl (cw ad C V cI cZ u) H → va_D A (cw ad C V cI cZ u) → va_S A s.heap H locs → ∀ ls : Array Slot, lv_has ls 2 [(0, .ref (ad 1)), (1, .int a1)] → W p l e ({ frames := 0, cells := 0, slots := 0, locals := 0 }) s m ([.ref (ad 1)] : List Value).toArray below meth c H locs 0 0 Q (F0 m 2 ls []) := by
    clear hw hl hP hD hS
    intro n
    induction n with
    | zero => intro a1 u hw; exact False.elim hw
    | succ n ih =>
      intro a1 u hw H locs hP hD hS ls hl
      unfold lp_X0_freePlace_2 at hw
      refine lv_iload_n hx hb dX0_freePlace_2 rfl (lv_at hl 1 rfl) ?_
      refine lv_aload_n hx hb dX0_freePlace_3 rfl (lv_at hl 0 rfl) ?_
      refine va_get (D := G) (ci := 0) (v := .int (nI C)) (C := RX0) (T := TX0) (N := 11) hx hb hts hiX0 hown hK hP 1 rfl rfl 0 (by decide) (hts (.fieldLink RX0 9 "TreapVersions$Store" "room" "I") (by decide +kernel)) (fun _ h9 => h9) rfl dX0_freePlace_4 ?_
      refine lv_topi (fun z1 ez1 => ?_)
      have hw := nmI.go hw z1 ez1
      refine lv_icmp_ge (tgt := 25) hx hb dX0_freePlace_7 (by decide) (fun c2 => ?_) (fun c2 => ?_)
      · have hw := brN.t hw c2
        refine lv_iload_n hx hb dX0_freePlace_25 rfl (lv_at hl 1 rfl) ?_
        exact hret a1 u 26 _ _ _ dX0_freePlace_26 rfl hw hP hD hS
      · have hw := brN.f hw c2
        refine lv_aload_n hx hb dX0_freePlace_10 rfl (lv_at hl 0 rfl) ?_
        refine va_get (D := G) (ci := 0) (v := .ref (ad 11)) (C := RX0) (T := TX0) (N := 11) hx hb hts hiX0 hown hK hP 1 rfl rfl 8 (by decide) (hts (.fieldLink RX0 34 "TreapVersions$Store" "taken" "[Z") (by decide +kernel)) (fun _ h9 => h9) rfl dX0_freePlace_11 ?_
        refine lv_iload_n hx hb dX0_freePlace_14 rfl (lv_at hl 1 rfl) ?_
        refine va_zald hx hb hK hP 11 1 rfl rfl (rdA.hin hw) dX0_freePlace_15 ?_
        refine lv_topi (fun z3 ez3 => ?_)
        have hw := rdA.go hw z3 ez3
        refine lv_if_eq (tgt := 25) hx hb dX0_freePlace_16 (by decide) (fun c4 => ?_) (fun c4 => ?_)
        · have hw := brN.t hw c4
          refine lv_iload_n hx hb dX0_freePlace_25 rfl (lv_at hl 1 rfl) ?_
          exact hret a1 u 26 _ _ _ dX0_freePlace_26 rfl hw hP hD hS
        · have hw := brN.f hw c4
          obtain ⟨z5, ez5⟩ : ∃ y : Int32, y = a1 + 1 := ⟨_, rfl⟩
          have hw := nmI.go hw z5 ez5
          refine lv_iinc (v := z5) (lv' := [(1, .int z5), (0, .ref (ad 1))]) hx hb dX0_freePlace_19 hl (k := 1) rfl (by rw [ez5]; rfl) (by decide) rfl (fun ls hl => ?_)
          refine lv_goto (tgt := 2) hx hb dX0_freePlace_22 (by decide) ?_
          exact ih z5 u hw _ _ hP hD hS _ (lv_sub hl [1, 0] rfl)
  unfold wp_X0_freePlace at hw
  refine lv_iconst (v := 1) hx hb dX0_freePlace_0 (by decide) ?_
  refine lv_istore_n (lv' := [(1, .int 1), (0, .ref (ad 1))]) hx hb dX0_freePlace_1 rfl hl (by decide) rfl (fun ls hl => ?_)
  obtain ⟨n9, hw⟩ := hw
  exact hlp2 n9 1 u hw _ _ hP hD hS _ (lv_sub hl [1, 0] rfl)
set_option maxHeartbeats 4000000 in
set_option maxRecDepth 100000 in
theorem c_X0_fresh (l : Launch) (G : va_G) (ad : Nat → Nat) (C V : Nat) (cI cZ : ClassId) (p0 : Int32) (p1 : Int32) (p2 : Int32) (p3 : Int32) (p4 : Int32) (u : CS) (post : Int32 → CS → Prop) (hw : wp_X0_fresh C V p0 p1 p2 p3 p4 u post) : CtI l yX0_fresh wsX0_fresh ({ frames := 1, cells := 0, slots := 0, locals := 21 }) G (ty2 cI cZ) (cw ad C V cI cZ) [.ref (ad 1), .int p0, .int p1, .int p2, .int p3, .int p4] u post := by
  refine CtI.of (cc := cX0_fresh) (maxL := 7) (rt := .int) (by decide) rfl (Nat.le_of_ble_eq_true rfl) ?_
  intro p e s m below meth c A Q hx hb hml hts hown hK hA hret ls hl hP hD hS
  have hiX0 : ∀ w ∈ u_ws RX0 TX0 11, w ∈ wsX0_fresh := by decide +kernel
  have hown : s.vm.findClass RX0 = some m.cls := hown
  have hl : lv_has ls 7 [(0, .ref (ad 1)), (1, .int p0), (2, .int p1), (3, .int p2), (4, .int p3), (5, .int p4)] := hl
  unfold wp_X0_fresh at hw
  refine lv_aload_n hx hb dX0_fresh_0 rfl (lv_at hl 0 rfl) ?_
  refine CtI.call (As := []) (rest := []) (c_X0_freePlace l G ad C V cI cZ u _ hw) ⟨hx, hb, hml, hown, hts⟩ (cwV 0 hts gX0_fresh_X0_freePlace rfl rfl rfl (by decide +kernel) ⟨Nat.le_of_ble_eq_true rfl, Nat.le_of_ble_eq_true rfl⟩) (va_recv hK hP (ci := 0) (q0 := 1) rfl rfl) hK hP hD hS hA rfl hl.1 rfl (Nat.le_of_ble_eq_true rfl) dX0_fresh_1 ⟨Nat.zero_le _, Nat.zero_le _⟩ (fun r2 u1 H locs hw hP hD hS => ?_)
  refine lv_istore (lv' := [(6, .int r2), (0, .ref (ad 1)), (1, .int p0), (2, .int p1), (3, .int p2), (4, .int p3), (5, .int p4)]) hx hb dX0_fresh_4 hl (by decide) rfl (fun ls hl => ?_)
  refine lv_aload_n hx hb dX0_fresh_6 rfl (lv_at hl 1 rfl) ?_
  refine va_get (D := G) (ci := 0) (v := .ref (ad 11)) (C := RX0) (T := TX0) (N := 11) hx hb hts hiX0 hown hK hP 1 rfl rfl 8 (by decide) (hts (.fieldLink RX0 34 "TreapVersions$Store" "taken" "[Z") (by decide +kernel)) (fun _ h9 => h9) rfl dX0_fresh_7 ?_
  refine lv_iload hx hb dX0_fresh_10 (lv_at hl 0 rfl) ?_
  refine lv_iconst (v := 1) hx hb dX0_fresh_12 (by decide) ?_
  refine va_zast hx hb hK hP hD hS 11 1 rfl rfl (wrZ.hin hw) dX0_fresh_13 (fun H locs hP hD hS => ?_)
  obtain ⟨u3, eu3⟩ : ∃ z : CS, z = cset u1 7 (upd (u1 7) r2.toNatClampNeg (vp_nar .boolean 1)) := ⟨_, rfl⟩
  have hP : va_P G vwCl (cw ad C V cI cZ (cset u1 7 (upd (u1 7) r2.toNatClampNeg (vp_nar .boolean 1)))) H := hP
  have hD : va_D A (cw ad C V cI cZ (cset u1 7 (upd (u1 7) r2.toNatClampNeg (vp_nar .boolean 1)))) := hD
  rw [← eu3] at hP hD
  have hw := wrZ.go hw u3 eu3
  refine lv_aload_n hx hb dX0_fresh_14 rfl (lv_at hl 1 rfl) ?_
  refine lv_dup hx hb dX0_fresh_15 rfl ?_
  refine va_get (D := G) (ci := 0) (v := .int (u3 6 0)) (C := RX0) (T := TX0) (N := 11) hx hb hts hiX0 hown hK hP 1 rfl rfl 7 (by decide) (hts (.fieldLink RX0 44 "TreapVersions$Store" "usedPlaces" "I") (by decide +kernel)) (fun _ h9 => h9) rfl dX0_fresh_16 ?_
  refine lv_topi (fun z4 ez4 => ?_)
  have hw := nmI.go hw z4 ez4
  refine lv_iconst (v := 1) hx hb dX0_fresh_19 (by decide) ?_
  refine lv_iadd hx hb dX0_fresh_20 ?_
  refine lv_topi (fun z5 ez5 => ?_)
  have hw := nmI.go hw z5 ez5
  refine va_put (D := G) (ci := 0) (v := .int z5) (ty := .int) (C := RX0) (T := TX0) (N := 11) hx hb hts hiX0 tyX0 tyX0_ok nmX0 hown hK hP hD hS 1 rfl rfl 7 (by decide) (hts (.fieldLink RX0 44 "TreapVersions$Store" "usedPlaces" "I") (by decide +kernel)) (fun _ h9 => h9) rfl (by decide +kernel) rfl rfl (Nat.le_of_ble_eq_true rfl) dX0_fresh_21 (fun H locs hP hD hS => ?_)
  obtain ⟨u6, eu6⟩ : ∃ z : CS, z = cset u3 6 (fun _ => z5) := ⟨_, rfl⟩
  have hP : va_P G vwCl (cw ad C V cI cZ (cset u3 6 (fun _ => z5))) H := hP
  have hD : va_D A (cw ad C V cI cZ (cset u3 6 (fun _ => z5))) := hD
  rw [← eu6] at hP hD
  have hw := stF.go hw u6 eu6
  refine lv_aload_n hx hb dX0_fresh_24 rfl (lv_at hl 1 rfl) ?_
  refine va_get (D := G) (ci := 0) (v := .ref (ad 5)) (C := RX0) (T := TX0) (N := 11) hx hb hts hiX0 hown hK hP 1 rfl rfl 1 (by decide) (hts (.fieldLink RX0 15 "TreapVersions$Store" "key" "[I") (by decide +kernel)) (fun _ h9 => h9) rfl dX0_fresh_25 ?_
  refine lv_iload hx hb dX0_fresh_28 (lv_at hl 0 rfl) ?_
  refine lv_iload_n hx hb dX0_fresh_30 rfl (lv_at hl 2 rfl) ?_
  refine va_iast hx hb hK hP hD hS 5 0 rfl rfl (wrA.hin hw) dX0_fresh_31 (fun H locs hP hD hS => ?_)
  obtain ⟨u7, eu7⟩ : ∃ z : CS, z = cset u6 0 (upd (u6 0) r2.toNatClampNeg p0) := ⟨_, rfl⟩
  have hP : va_P G vwCl (cw ad C V cI cZ (cset u6 0 (upd (u6 0) r2.toNatClampNeg p0))) H := hP
  have hD : va_D A (cw ad C V cI cZ (cset u6 0 (upd (u6 0) r2.toNatClampNeg p0))) := hD
  rw [← eu7] at hP hD
  have hw := wrA.go hw u7 eu7
  refine lv_aload_n hx hb dX0_fresh_32 rfl (lv_at hl 1 rfl) ?_
  refine va_get (D := G) (ci := 0) (v := .ref (ad 6)) (C := RX0) (T := TX0) (N := 11) hx hb hts hiX0 hown hK hP 1 rfl rfl 2 (by decide) (hts (.fieldLink RX0 19 "TreapVersions$Store" "value" "[I") (by decide +kernel)) (fun _ h9 => h9) rfl dX0_fresh_33 ?_
  refine lv_iload hx hb dX0_fresh_36 (lv_at hl 0 rfl) ?_
  refine lv_iload_n hx hb dX0_fresh_38 rfl (lv_at hl 3 rfl) ?_
  refine va_iast hx hb hK hP hD hS 6 0 rfl rfl (wrA.hin hw) dX0_fresh_39 (fun H locs hP hD hS => ?_)
  obtain ⟨u8, eu8⟩ : ∃ z : CS, z = cset u7 1 (upd (u7 1) r2.toNatClampNeg p1) := ⟨_, rfl⟩
  have hP : va_P G vwCl (cw ad C V cI cZ (cset u7 1 (upd (u7 1) r2.toNatClampNeg p1))) H := hP
  have hD : va_D A (cw ad C V cI cZ (cset u7 1 (upd (u7 1) r2.toNatClampNeg p1))) := hD
  rw [← eu8] at hP hD
  have hw := wrA.go hw u8 eu8
  refine lv_aload_n hx hb dX0_fresh_40 rfl (lv_at hl 1 rfl) ?_
  refine va_get (D := G) (ci := 0) (v := .ref (ad 7)) (C := RX0) (T := TX0) (N := 11) hx hb hts hiX0 hown hK hP 1 rfl rfl 3 (by decide) (hts (.fieldLink RX0 22 "TreapVersions$Store" "weight" "[I") (by decide +kernel)) (fun _ h9 => h9) rfl dX0_fresh_41 ?_
  refine lv_iload hx hb dX0_fresh_44 (lv_at hl 0 rfl) ?_
  refine lv_iload_n hx hb dX0_fresh_46 rfl (lv_at hl 4 rfl) ?_
  refine va_iast hx hb hK hP hD hS 7 0 rfl rfl (wrA.hin hw) dX0_fresh_47 (fun H locs hP hD hS => ?_)
  obtain ⟨u9, eu9⟩ : ∃ z : CS, z = cset u8 2 (upd (u8 2) r2.toNatClampNeg p2) := ⟨_, rfl⟩
  have hP : va_P G vwCl (cw ad C V cI cZ (cset u8 2 (upd (u8 2) r2.toNatClampNeg p2))) H := hP
  have hD : va_D A (cw ad C V cI cZ (cset u8 2 (upd (u8 2) r2.toNatClampNeg p2))) := hD
  rw [← eu9] at hP hD
  have hw := wrA.go hw u9 eu9
  refine lv_aload_n hx hb dX0_fresh_48 rfl (lv_at hl 1 rfl) ?_
  refine va_get (D := G) (ci := 0) (v := .ref (ad 8)) (C := RX0) (T := TX0) (N := 11) hx hb hts hiX0 hown hK hP 1 rfl rfl 4 (by decide) (hts (.fieldLink RX0 25 "TreapVersions$Store" "left" "[I") (by decide +kernel)) (fun _ h9 => h9) rfl dX0_fresh_49 ?_
  refine lv_iload hx hb dX0_fresh_52 (lv_at hl 0 rfl) ?_
  refine lv_iload hx hb dX0_fresh_54 (lv_at hl 5 rfl) ?_
  refine va_iast hx hb hK hP hD hS 8 0 rfl rfl (wrA.hin hw) dX0_fresh_56 (fun H locs hP hD hS => ?_)
  obtain ⟨u10, eu10⟩ : ∃ z : CS, z = cset u9 3 (upd (u9 3) r2.toNatClampNeg p3) := ⟨_, rfl⟩
  have hP : va_P G vwCl (cw ad C V cI cZ (cset u9 3 (upd (u9 3) r2.toNatClampNeg p3))) H := hP
  have hD : va_D A (cw ad C V cI cZ (cset u9 3 (upd (u9 3) r2.toNatClampNeg p3))) := hD
  rw [← eu10] at hP hD
  have hw := wrA.go hw u10 eu10
  refine lv_aload_n hx hb dX0_fresh_57 rfl (lv_at hl 1 rfl) ?_
  refine va_get (D := G) (ci := 0) (v := .ref (ad 9)) (C := RX0) (T := TX0) (N := 11) hx hb hts hiX0 hown hK hP 1 rfl rfl 5 (by decide) (hts (.fieldLink RX0 28 "TreapVersions$Store" "right" "[I") (by decide +kernel)) (fun _ h9 => h9) rfl dX0_fresh_58 ?_
  refine lv_iload hx hb dX0_fresh_61 (lv_at hl 0 rfl) ?_
  refine lv_iload hx hb dX0_fresh_63 (lv_at hl 6 rfl) ?_
  refine va_iast hx hb hK hP hD hS 9 0 rfl rfl (wrA.hin hw) dX0_fresh_65 (fun H locs hP hD hS => ?_)
  obtain ⟨u11, eu11⟩ : ∃ z : CS, z = cset u10 4 (upd (u10 4) r2.toNatClampNeg p4) := ⟨_, rfl⟩
  have hP : va_P G vwCl (cw ad C V cI cZ (cset u10 4 (upd (u10 4) r2.toNatClampNeg p4))) H := hP
  have hD : va_D A (cw ad C V cI cZ (cset u10 4 (upd (u10 4) r2.toNatClampNeg p4))) := hD
  rw [← eu11] at hP hD
  have hw := wrA.go hw u11 eu11
  refine lv_aload_n hx hb dX0_fresh_66 rfl (lv_at hl 1 rfl) ?_
  refine va_get (D := G) (ci := 0) (v := .ref (ad 10)) (C := RX0) (T := TX0) (N := 11) hx hb hts hiX0 hown hK hP 1 rfl rfl 6 (by decide) (hts (.fieldLink RX0 31 "TreapVersions$Store" "count" "[I") (by decide +kernel)) (fun _ h9 => h9) rfl dX0_fresh_67 ?_
  refine lv_iload hx hb dX0_fresh_70 (lv_at hl 0 rfl) ?_
  refine lv_iconst (v := 1) hx hb dX0_fresh_72 (by decide) ?_
  refine lv_aload_n hx hb dX0_fresh_73 rfl (lv_at hl 1 rfl) ?_
  refine va_get (D := G) (ci := 0) (v := .ref (ad 10)) (C := RX0) (T := TX0) (N := 11) hx hb hts hiX0 hown hK hP 1 rfl rfl 6 (by decide) (hts (.fieldLink RX0 31 "TreapVersions$Store" "count" "[I") (by decide +kernel)) (fun _ h9 => h9) rfl dX0_fresh_74 ?_
  refine lv_iload hx hb dX0_fresh_77 (lv_at hl 5 rfl) ?_
  refine va_iald hx hb hK hP 10 0 rfl rfl (rdA.hin hw) dX0_fresh_79 ?_
  refine lv_topi (fun z12 ez12 => ?_)
  have hw := rdA.go hw z12 ez12
  refine lv_iadd hx hb dX0_fresh_80 ?_
  refine lv_topi (fun z13 ez13 => ?_)
  have hw := nmI.go hw z13 ez13
  refine lv_aload_n hx hb dX0_fresh_81 rfl (lv_at hl 1 rfl) ?_
  refine va_get (D := G) (ci := 0) (v := .ref (ad 10)) (C := RX0) (T := TX0) (N := 11) hx hb hts hiX0 hown hK hP 1 rfl rfl 6 (by decide) (hts (.fieldLink RX0 31 "TreapVersions$Store" "count" "[I") (by decide +kernel)) (fun _ h9 => h9) rfl dX0_fresh_82 ?_
  refine lv_iload hx hb dX0_fresh_85 (lv_at hl 6 rfl) ?_
  refine va_iald hx hb hK hP 10 0 rfl rfl (rdA.hin hw) dX0_fresh_87 ?_
  refine lv_topi (fun z14 ez14 => ?_)
  have hw := rdA.go hw z14 ez14
  refine lv_iadd hx hb dX0_fresh_88 ?_
  refine lv_topi (fun z15 ez15 => ?_)
  have hw := nmI.go hw z15 ez15
  refine va_iast hx hb hK hP hD hS 10 0 rfl rfl (wrA.hin hw) dX0_fresh_89 (fun H locs hP hD hS => ?_)
  obtain ⟨u16, eu16⟩ : ∃ z : CS, z = cset u11 5 (upd (u11 5) r2.toNatClampNeg z15) := ⟨_, rfl⟩
  have hP : va_P G vwCl (cw ad C V cI cZ (cset u11 5 (upd (u11 5) r2.toNatClampNeg z15))) H := hP
  have hD : va_D A (cw ad C V cI cZ (cset u11 5 (upd (u11 5) r2.toNatClampNeg z15))) := hD
  rw [← eu16] at hP hD
  have hw := wrA.go hw u16 eu16
  refine lv_iload hx hb dX0_fresh_90 (lv_at hl 0 rfl) ?_
  exact hret r2 u16 92 _ _ _ dX0_fresh_92 rfl hw hP hD hS
