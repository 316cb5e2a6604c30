set_option maxHeartbeats 4000000 in
set_option maxRecDepth 100000 in
theorem c_X0_hasRoom (l : Launch) (G : va_G) (ad : Nat → Nat) (C V : Nat) (cI cZ : ClassId) (p0 : Int32) (u : CS) (post : Int32 → CS → Prop) (hw : wp_X0_hasRoom C V p0 u post) : CtI l yX0_hasRoom wsX0_hasRoom ({ frames := 0, cells := 0, slots := 0, locals := 0 }) G (ty2 cI cZ) (cw ad C V cI cZ) [.ref (ad 1), .int p0] u (fun r u => isB r ∧ post r u) := by
  refine CtI.of (cc := cX0_hasRoom) (maxL := 2) (rt := .boolean) (by decide) rfl (Nat.le_of_ble_eq_true rfl) ?_
  intro p e s m below meth c A Q hx hb hml hts hown hK hA hret ls hl hP hD hS
  have hiX0 : ∀ w ∈ u_ws RX0 TX0 11, w ∈ wsX0_hasRoom := by decide +kernel
  have hown : s.vm.findClass RX0 = some m.cls := hown
  have hl : lv_has ls 2 [(0, .ref (ad 1)), (1, .int p0)] := hl
  unfold wp_X0_hasRoom at hw
  refine lv_aload_n hx hb dX0_hasRoom_0 rfl (lv_at hl 0 rfl) ?_
  refine va_get (D := G) (ci := 0) (v := .int (u 6 0)) (C := RX0) (T := TX0) (N := 11) hx hb hts hiX0 hown hK hP 1 rfl rfl 7 (by decide) (hts (.fieldLink RX0 44 "TreapVersions$Store" "usedPlaces" "I") (by decide +kernel)) (fun _ h9 => h9) rfl dX0_hasRoom_1 ?_
  refine lv_topi (fun z1 ez1 => ?_)
  have hw := nmI.go hw z1 ez1
  refine lv_iload_n hx hb dX0_hasRoom_4 rfl (lv_at hl 1 rfl) ?_
  refine lv_iadd hx hb dX0_hasRoom_5 ?_
  refine lv_topi (fun z2 ez2 => ?_)
  have hw := nmI.go hw z2 ez2
  refine lv_aload_n hx hb dX0_hasRoom_6 rfl (lv_at hl 0 rfl) ?_
  refine va_get (D := G) (ci := 0) (v := .int (nI C)) (C := RX0) (T := TX0) (N := 11) hx hb hts hiX0 hown hK hP 1 rfl rfl 0 (by decide) (hts (.fieldLink RX0 9 "TreapVersions$Store" "room" "I") (by decide +kernel)) (fun _ h9 => h9) rfl dX0_hasRoom_7 ?_
  refine lv_topi (fun z3 ez3 => ?_)
  have hw := nmI.go hw z3 ez3
  refine lv_icmp_gt (tgt := 17) hx hb dX0_hasRoom_10 (by decide) (fun c4 => ?_) (fun c4 => ?_)
  · have hw := brN.t hw c4
    refine lv_iconst (v := 0) hx hb dX0_hasRoom_17 (by decide) ?_
    exact hret 0 u 18 _ _ _ dX0_hasRoom_18 rfl ⟨isB_0, hw⟩ hP hD hS
  · have hw := brN.f hw c4
    refine lv_iconst (v := 1) hx hb dX0_hasRoom_13 (by decide) ?_
    refine lv_goto (tgt := 18) hx hb dX0_hasRoom_14 (by decide) ?_
    exact hret 1 u 18 _ _ _ dX0_hasRoom_18 rfl ⟨isB_1, hw⟩ hP hD hS
set_option maxHeartbeats 4000000 in
set_option maxRecDepth 100000 in
theorem c_X0_freePlace (l : Launch) (G : va_G) (ad : Nat → Nat) (C V : Nat) (cI cZ : ClassId) (u : CS) (post : Int32 → CS → Prop) (hw : wp_X0_freePlace C V u post) : CtI l yX0_freePlace wsX0_freePlace ({ frames := 0, cells := 0, slots := 0, locals := 0 }) G (ty2 cI cZ) (cw ad C V cI cZ) [.ref (ad 1)] u post := by
  refine CtI.of (cc := cX0_freePlace) (maxL := 2) (rt := .int) (by decide) rfl (Nat.le_of_ble_eq_true rfl) ?_
  intro p e s m below meth c A Q hx hb hml hts hown hK hA hret ls hl hP hD hS
  have hiX0 : ∀ w ∈ u_ws RX0 TX0 11, w ∈ wsX0_freePlace := by decide +kernel
  have hown : s.vm.findClass RX0 = some m.cls := hown
  have hl : lv_has ls 2 [(0, .ref (ad 1))] := hl
  have hlp2 : ∀ (n : Nat) (a1 : Int32) (u : CS), lp_X0_freePlace_2 C V post n a1 u → ∀ (H : Heap) (locs : List Loc), va_P G vwCl (cw ad C V cI cZ u) H → va_D A (cw ad C V cI cZ u) → va_S A s.heap H locs → ∀ ls : Array Slot, lv_has ls 2 [(0, .ref (ad 1)), (1, .int a1)] → W p l e ({ frames := 0, cells := 0, slots := 0, locals := 0 }) s m ([.ref (ad 1)] : List Value).toArray below meth c H locs 0 0 Q (F0 m 2 ls []) := by
    clear hw hl hP hD hS
    intro n
    induction n with
    | zero => intro a1 u hw; exact False.elim hw
    | succ n ih =>
      intro a1 u hw H locs hP hD hS ls hl
      unfold lp_X0_freePlace_2 at hw
      refine lv_iload_n hx hb dX0_freePlace_2 rfl (lv_at hl 1 rfl) ?_
      refine lv_aload_n hx hb dX0_freePlace_3 rfl (lv_at hl 0 rfl) ?_
      refine va_get (D := G) (ci := 0) (v := .int (nI C)) (C := RX0) (T := TX0) (N := 11) hx hb hts hiX0 hown hK hP 1 rfl rfl 0 (by decide) (hts (.fieldLink RX0 9 "TreapVersions$Store" "room" "I") (by decide +kernel)) (fun _ h9 => h9) rfl dX0_freePlace_4 ?_
      refine lv_topi (fun z1 ez1 => ?_)
      have hw := nmI.go hw z1 ez1
      refine lv_icmp_ge (tgt := 25) hx hb dX0_freePlace_7 (by decide) (fun c2 => ?_) (fun c2 => ?_)
      · have hw := brN.t hw c2
        refine lv_iload_n hx hb dX0_freePlace_25 rfl (lv_at hl 1 rfl) ?_
        exact hret a1 u 26 _ _ _ dX0_freePlace_26 rfl hw hP hD hS
      · have hw := brN.f hw c2
        refine lv_aload_n hx hb dX0_freePlace_10 rfl (lv_at hl 0 rfl) ?_
        refine va_get (D := G) (ci := 0) (v := .ref (ad 11)) (C := RX0) (T := TX0) (N := 11) hx hb hts hiX0 hown hK hP 1 rfl rfl 8 (by decide) (hts (.fieldLink RX0 34 "TreapVersions$Store" "taken" "[Z") (by decide +kernel)) (fun _ h9 => h9) rfl dX0_freePlace_11 ?_
        refine lv_iload_n hx hb dX0_freePlace_14 rfl (lv_at hl 1 rfl) ?_
        refine va_zald hx hb hK hP 11 1 rfl rfl (rdA.hin hw) dX0_freePlace_15 ?_
        refine lv_topi (fun z3 ez3 => ?_)
        have hw := rdA.go hw z3 ez3
        refine lv_if_eq (tgt := 25) hx hb dX0_freePlace_16 (by decide) (fun c4 => ?_) (fun c4 => ?_)
        · have hw := brN.t hw c4
          refine lv_iload_n hx hb dX0_freePlace_25 rfl (lv_at hl 1 rfl) ?_
          exact hret a1 u 26 _ _ _ dX0_freePlace_26 rfl hw hP hD hS
        · have hw := brN.f hw c4
          obtain ⟨z5, ez5⟩ : ∃ y : Int32, y = a1 + 1 := ⟨_, rfl⟩
          have hw := nmI.go hw z5 ez5
          refine lv_iinc (v := z5) (lv' := [(1, .int z5), (0, .ref (ad 1))]) hx hb dX0_freePlace_19 hl (k := 1) rfl (by rw [ez5]; rfl) (by decide) rfl (fun ls hl => ?_)
          refine lv_goto (tgt := 2) hx hb dX0_freePlace_22 (by decide) ?_
          exact ih z5 u hw _ _ hP hD hS _ (lv_sub hl [1, 0] rfl)
  unfold wp_X0_freePlace at hw
  refine lv_iconst (v := 1) hx hb dX0_freePlace_0 (by decide) ?_
  refine lv_istore_n (lv' := [(1, .int 1), (0, .ref (ad 1))]) hx hb dX0_freePlace_1 rfl hl (by decide) rfl (fun ls hl => ?_)
  obtain ⟨n9, hw⟩ := hw
  exact hlp2 n9 1 u hw _ _ hP hD hS _ (lv_sub hl [1, 0] rfl)
set_option maxHeartbeats 4000000 in
set_option maxRecDepth 100000 in
theorem c_X0_fresh (l : Launch) (G : va_G) (ad : Nat → Nat) (C V : Nat) (cI cZ : ClassId) (p0 : Int32) (p1 : Int32) (p2 : Int32) (p3 : Int32) (p4 : Int32) (u : CS) (post : Int32 → CS → Prop) (hw : wp_X0_fresh C V p0 p1 p2 p3 p4 u post) : CtI l yX0_fresh wsX0_fresh ({ frames := 1, cells := 0, slots := 0, locals := 21 }) G (ty2 cI cZ) (cw ad C V cI cZ) [.ref (ad 1), .int p0, .int p1, .int p2, .int p3, .int p4] u post := by
  refine CtI.of (cc := cX0_fresh) (maxL := 7) (rt := .int) (by decide) rfl (Nat.le_of_ble_eq_true rfl) ?_
  intro p e s m below meth c A Q hx hb hml hts hown hK hA hret ls hl hP hD hS
  have hiX0 : ∀ w ∈ u_ws RX0 TX0 11, w ∈ wsX0_fresh := by decide +kernel
  have hown : s.vm.findClass RX0 = some m.cls := hown
  have hl : lv_has ls 7 [(0, .ref (ad 1)), (1, .int p0), (2, .int p1), (3, .int p2), (4, .int p3), (5, .int p4)] := hl
  unfold wp_X0_fresh at hw
  refine lv_aload_n hx hb dX0_fresh_0 rfl (lv_at hl 0 rfl) ?_
  refine CtI.call (As := []) (rest := []) (c_X0_freePlace l G ad C V cI cZ u _ hw) ⟨hx, hb, hml, hown, hts⟩ (cwV 0 hts gX0_fresh_X0_freePlace rfl rfl rfl (by decide +kernel) ⟨Nat.le_of_ble_eq_true rfl, Nat.le_of_ble_eq_true rfl⟩) (va_recv hK hP (ci := 0) (q0 := 1) rfl rfl) hK hP hD hS hA rfl hl.1 rfl (Nat.le_of_ble_eq_true rfl) dX0_fresh_1 ⟨Nat.zero_le _, Nat.zero_le _⟩ (fun r2 u1 H locs hw hP hD hS => ?_)
  refine lv_istore (lv' := [(6, .int r2), (0, .ref (ad 1)), (1, .int p0), (2, .int p1), (3, .int p2), (4, .int p3), (5, .int p4)]) hx hb dX0_fresh_4 hl (by decide) rfl (fun ls hl => ?_)
  refine lv_aload_n hx hb dX0_fresh_6 rfl (lv_at hl 1 rfl) ?_
  refine va_get (D := G) (ci := 0) (v := .ref (ad 11)) (C := RX0) (T := TX0) (N := 11) hx hb hts hiX0 hown hK hP 1 rfl rfl 8 (by decide) (hts (.fieldLink RX0 34 "TreapVersions$Store" "taken" "[Z") (by decide +kernel)) (fun _ h9 => h9) rfl dX0_fresh_7 ?_
  refine lv_iload hx hb dX0_fresh_10 (lv_at hl 0 rfl) ?_
  refine lv_iconst (v := 1) hx hb dX0_fresh_12 (by decide) ?_
  refine va_zast hx hb hK hP hD hS 11 1 rfl rfl (wrZ.hin hw) dX0_fresh_13 (fun H locs hP hD hS => ?_)
  obtain ⟨u3, eu3⟩ : ∃ z : CS, z = cset u1 7 (upd (u1 7) r2.toNatClampNeg (vp_nar .boolean 1)) := ⟨_, rfl⟩
  have hP : va_P G vwCl (cw ad C V cI cZ (cset u1 7 (upd (u1 7) r2.toNatClampNeg (vp_nar .boolean 1)))) H := hP
  have hD : va_D A (cw ad C V cI cZ (cset u1 7 (upd (u1 7) r2.toNatClampNeg (vp_nar .boolean 1)))) := hD
  rw [← eu3] at hP hD
  have hw := wrZ.go hw u3 eu3
  refine lv_aload_n hx hb dX0_fresh_14 rfl (lv_at hl 1 rfl) ?_
  refine lv_dup hx hb dX0_fresh_15 rfl ?_
  refine va_get (D := G) (ci := 0) (v := .int (u3 6 0)) (C := RX0) (T := TX0) (N := 11) hx hb hts hiX0 hown hK hP 1 rfl rfl 7 (by decide) (hts (.fieldLink RX0 44 "TreapVersions$Store" "usedPlaces" "I") (by decide +kernel)) (fun _ h9 => h9) rfl dX0_fresh_16 ?_
  refine lv_topi (fun z4 ez4 => ?_)
  have hw := nmI.go hw z4 ez4
  refine lv_iconst (v := 1) hx hb dX0_fresh_19 (by decide) ?_
  refine lv_iadd hx hb dX0_fresh_20 ?_
  refine lv_topi (fun z5 ez5 => ?_)
  have hw := nmI.go hw z5 ez5
  refine va_put (D := G) (ci := 0) (v := .int z5) (ty := .int) (C := RX0) (T := TX0) (N := 11) hx hb hts hiX0 tyX0 tyX0_ok nmX0 hown hK hP hD hS 1 rfl rfl 7 (by decide) (hts (.fieldLink RX0 44 "TreapVersions$Store" "usedPlaces" "I") (by decide +kernel)) (fun _ h9 => h9) rfl (by decide +kernel) rfl rfl (Nat.le_of_ble_eq_true rfl) dX0_fresh_21 (fun H locs hP hD hS => ?_)
  obtain ⟨u6, eu6⟩ : ∃ z : CS, z = cset u3 6 (fun _ => z5) := ⟨_, rfl⟩
  have hP : va_P G vwCl (cw ad C V cI cZ (cset u3 6 (fun _ => z5))) H := hP
  have hD : va_D A (cw ad C V cI cZ (cset u3 6 (fun _ => z5))) := hD
  rw [← eu6] at hP hD
  have hw := stF.go hw u6 eu6
  refine lv_aload_n hx hb dX0_fresh_24 rfl (lv_at hl 1 rfl) ?_
  refine va_get (D := G) (ci := 0) (v := .ref (ad 5)) (C := RX0) (T := TX0) (N := 11) hx hb hts hiX0 hown hK hP 1 rfl rfl 1 (by decide) (hts (.fieldLink RX0 15 "TreapVersions$Store" "key" "[I") (by decide +kernel)) (fun _ h9 => h9) rfl dX0_fresh_25 ?_
  refine lv_iload hx hb dX0_fresh_28 (lv_at hl 0 rfl) ?_
  refine lv_iload_n hx hb dX0_fresh_30 rfl (lv_at hl 2 rfl) ?_
  refine va_iast hx hb hK hP hD hS 5 0 rfl rfl (wrA.hin hw) dX0_fresh_31 (fun H locs hP hD hS => ?_)
  obtain ⟨u7, eu7⟩ : ∃ z : CS, z = cset u6 0 (upd (u6 0) r2.toNatClampNeg p0) := ⟨_, rfl⟩
  have hP : va_P G vwCl (cw ad C V cI cZ (cset u6 0 (upd (u6 0) r2.toNatClampNeg p0))) H := hP
  have hD : va_D A (cw ad C V cI cZ (cset u6 0 (upd (u6 0) r2.toNatClampNeg p0))) := hD
  rw [← eu7] at hP hD
  have hw := wrA.go hw u7 eu7
  refine lv_aload_n hx hb dX0_fresh_32 rfl (lv_at hl 1 rfl) ?_
  refine va_get (D := G) (ci := 0) (v := .ref (ad 6)) (C := RX0) (T := TX0) (N := 11) hx hb hts hiX0 hown hK hP 1 rfl rfl 2 (by decide) (hts (.fieldLink RX0 19 "TreapVersions$Store" "value" "[I") (by decide +kernel)) (fun _ h9 => h9) rfl dX0_fresh_33 ?_
  refine lv_iload hx hb dX0_fresh_36 (lv_at hl 0 rfl) ?_
  refine lv_iload_n hx hb dX0_fresh_38 rfl (lv_at hl 3 rfl) ?_
  refine va_iast hx hb hK hP hD hS 6 0 rfl rfl (wrA.hin hw) dX0_fresh_39 (fun H locs hP hD hS => ?_)
  obtain ⟨u8, eu8⟩ : ∃ z : CS, z = cset u7 1 (upd (u7 1) r2.toNatClampNeg p1) := ⟨_, rfl⟩
  have hP : va_P G vwCl (cw ad C V cI cZ (cset u7 1 (upd (u7 1) r2.toNatClampNeg p1))) H := hP
  have hD : va_D A (cw ad C V cI cZ (cset u7 1 (upd (u7 1) r2.toNatClampNeg p1))) := hD
  rw [← eu8] at hP hD
  have hw := wrA.go hw u8 eu8
  refine lv_aload_n hx hb dX0_fresh_40 rfl (lv_at hl 1 rfl) ?_
  refine va_get (D := G) (ci := 0) (v := .ref (ad 7)) (C := RX0) (T := TX0) (N := 11) hx hb hts hiX0 hown hK hP 1 rfl rfl 3 (by decide) (hts (.fieldLink RX0 22 "TreapVersions$Store" "weight" "[I") (by decide +kernel)) (fun _ h9 => h9) rfl dX0_fresh_41 ?_
  refine lv_iload hx hb dX0_fresh_44 (lv_at hl 0 rfl) ?_
  refine lv_iload_n hx hb dX0_fresh_46 rfl (lv_at hl 4 rfl) ?_
  refine va_iast hx hb hK hP hD hS 7 0 rfl rfl (wrA.hin hw) dX0_fresh_47 (fun H locs hP hD hS => ?_)
  obtain ⟨u9, eu9⟩ : ∃ z : CS, z = cset u8 2 (upd (u8 2) r2.toNatClampNeg p2) := ⟨_, rfl⟩
  have hP : va_P G vwCl (cw ad C V cI cZ (cset u8 2 (upd (u8 2) r2.toNatClampNeg p2))) H := hP
  have hD : va_D A (cw ad C V cI cZ (cset u8 2 (upd (u8 2) r2.toNatClampNeg p2))) := hD
  rw [← eu9] at hP hD
  have hw := wrA.go hw u9 eu9
  refine lv_aload_n hx hb dX0_fresh_48 rfl (lv_at hl 1 rfl) ?_
  refine va_get (D := G) (ci := 0) (v := .ref (ad 8)) (C := RX0) (T := TX0) (N := 11) hx hb hts hiX0 hown hK hP 1 rfl rfl 4 (by decide) (hts (.fieldLink RX0 25 "TreapVersions$Store" "left" "[I") (by decide +kernel)) (fun _ h9 => h9) rfl dX0_fresh_49 ?_
  refine lv_iload hx hb dX0_fresh_52 (lv_at hl 0 rfl) ?_
  refine lv_iload hx hb dX0_fresh_54 (lv_at hl 5 rfl) ?_
  refine va_iast hx hb hK hP hD hS 8 0 rfl rfl (wrA.hin hw) dX0_fresh_56 (fun H locs hP hD hS => ?_)
  obtain ⟨u10, eu10⟩ : ∃ z : CS, z = cset u9 3 (upd (u9 3) r2.toNatClampNeg p3) := ⟨_, rfl⟩
  have hP : va_P G vwCl (cw ad C V cI cZ (cset u9 3 (upd (u9 3) r2.toNatClampNeg p3))) H := hP
  have hD : va_D A (cw ad C V cI cZ (cset u9 3 (upd (u9 3) r2.toNatClampNeg p3))) := hD
  rw [← eu10] at hP hD
  have hw := wrA.go hw u10 eu10
  refine lv_aload_n hx hb dX0_fresh_57 rfl (lv_at hl 1 rfl) ?_
  refine va_get (D := G) (ci := 0) (v := .ref (ad 9)) (C := RX0) (T := TX0) (N := 11) hx hb hts hiX0 hown hK hP 1 rfl rfl 5 (by decide) (hts (.fieldLink RX0 28 "TreapVersions$Store" "right" "[I") (by decide +kernel)) (fun _ h9 => h9) rfl dX0_fresh_58 ?_
  refine lv_iload hx hb dX0_fresh_61 (lv_at hl 0 rfl) ?_
  refine lv_iload hx hb dX0_fresh_63 (lv_at hl 6 rfl) ?_
  refine va_iast hx hb hK hP hD hS 9 0 rfl rfl (wrA.hin hw) dX0_fresh_65 (fun H locs hP hD hS => ?_)
  obtain ⟨u11, eu11⟩ : ∃ z : CS, z = cset u10 4 (upd (u10 4) r2.toNatClampNeg p4) := ⟨_, rfl⟩
  have hP : va_P G vwCl (cw ad C V cI cZ (cset u10 4 (upd (u10 4) r2.toNatClampNeg p4))) H := hP
  have hD : va_D A (cw ad C V cI cZ (cset u10 4 (upd (u10 4) r2.toNatClampNeg p4))) := hD
  rw [← eu11] at hP hD
  have hw := wrA.go hw u11 eu11
  refine lv_aload_n hx hb dX0_fresh_66 rfl (lv_at hl 1 rfl) ?_
  refine va_get (D := G) (ci := 0) (v := .ref (ad 10)) (C := RX0) (T := TX0) (N := 11) hx hb hts hiX0 hown hK hP 1 rfl rfl 6 (by decide) (hts (.fieldLink RX0 31 "TreapVersions$Store" "count" "[I") (by decide +kernel)) (fun _ h9 => h9) rfl dX0_fresh_67 ?_
  refine lv_iload hx hb dX0_fresh_70 (lv_at hl 0 rfl) ?_
  refine lv_iconst (v := 1) hx hb dX0_fresh_72 (by decide) ?_
  refine lv_aload_n hx hb dX0_fresh_73 rfl (lv_at hl 1 rfl) ?_
  refine va_get (D := G) (ci := 0) (v := .ref (ad 10)) (C := RX0) (T := TX0) (N := 11) hx hb hts hiX0 hown hK hP 1 rfl rfl 6 (by decide) (hts (.fieldLink RX0 31 "TreapVersions$Store" "count" "[I") (by decide +kernel)) (fun _ h9 => h9) rfl dX0_fresh_74 ?_
  refine lv_iload hx hb dX0_fresh_77 (lv_at hl 5 rfl) ?_
  refine va_iald hx hb hK hP 10 0 rfl rfl (rdA.hin hw) dX0_fresh_79 ?_
  refine lv_topi (fun z12 ez12 => ?_)
  have hw := rdA.go hw z12 ez12
  refine lv_iadd hx hb dX0_fresh_80 ?_
  refine lv_topi (fun z13 ez13 => ?_)
  have hw := nmI.go hw z13 ez13
  refine lv_aload_n hx hb dX0_fresh_81 rfl (lv_at hl 1 rfl) ?_
  refine va_get (D := G) (ci := 0) (v := .ref (ad 10)) (C := RX0) (T := TX0) (N := 11) hx hb hts hiX0 hown hK hP 1 rfl rfl 6 (by decide) (hts (.fieldLink RX0 31 "TreapVersions$Store" "count" "[I") (by decide +kernel)) (fun _ h9 => h9) rfl dX0_fresh_82 ?_
  refine lv_iload hx hb dX0_fresh_85 (lv_at hl 6 rfl) ?_
  refine va_iald hx hb hK hP 10 0 rfl rfl (rdA.hin hw) dX0_fresh_87 ?_
  refine lv_topi (fun z14 ez14 => ?_)
  have hw := rdA.go hw z14 ez14
  refine lv_iadd hx hb dX0_fresh_88 ?_
  refine lv_topi (fun z15 ez15 => ?_)
  have hw := nmI.go hw z15 ez15
  refine va_iast hx hb hK hP hD hS 10 0 rfl rfl (wrA.hin hw) dX0_fresh_89 (fun H locs hP hD hS => ?_)
  obtain ⟨u16, eu16⟩ : ∃ z : CS, z = cset u11 5 (upd (u11 5) r2.toNatClampNeg z15) := ⟨_, rfl⟩
  have hP : va_P G vwCl (cw ad C V cI cZ (cset u11 5 (upd (u11 5) r2.toNatClampNeg z15))) H := hP
  have hD : va_D A (cw ad C V cI cZ (cset u11 5 (upd (u11 5) r2.toNatClampNeg z15))) := hD
  rw [← eu16] at hP hD
  have hw := wrA.go hw u16 eu16
  refine lv_iload hx hb dX0_fresh_90 (lv_at hl 0 rfl) ?_
  exact hret r2 u16 92 _ _ _ dX0_fresh_92 rfl hw hP hD hS
set_option maxHeartbeats 4000000 in
set_option maxRecDepth 100000 in
theorem c_X0_copy (l : Launch) (G : va_G) (ad : Nat → Nat) (C V : Nat) (cI cZ : ClassId) (p0 : Int32) (p1 : Int32) (p2 : Int32) (u : CS) (post : Int32 → CS → Prop) (hw : wp_X0_copy C V p0 p1 p2 u post) : CtI l yX0_copy wsX0_copy ({ frames := 2, cells := 0, slots := 0, locals := 47 }) G (ty2 cI cZ) (cw ad C V cI cZ) [.ref (ad 1), .int p0, .int p1, .int p2] u post := by
  refine CtI.of (cc := cX0_copy) (maxL := 4) (rt := .int) (by decide) rfl (Nat.le_of_ble_eq_true rfl) ?_
  intro p e s m below meth c A Q hx hb hml hts hown hK hA hret ls hl hP hD hS
  have hiX0 : ∀ w ∈ u_ws RX0 TX0 11, w ∈ wsX0_copy := by decide +kernel
  have hown : s.vm.findClass RX0 = some m.cls := hown
  have hl : lv_has ls 4 [(0, .ref (ad 1)), (1, .int p0), (2, .int p1), (3, .int p2)] := hl
  unfold wp_X0_copy at hw
  refine lv_aload_n hx hb dX0_copy_0 rfl (lv_at hl 0 rfl) ?_
  refine lv_aload_n hx hb dX0_copy_1 rfl (lv_at hl 0 rfl) ?_
  refine va_get (D := G) (ci := 0) (v := .ref (ad 5)) (C := RX0) (T := TX0) (N := 11) hx hb hts hiX0 hown hK hP 1 rfl rfl 1 (by decide) (hts (.fieldLink RX0 15 "TreapVersions$Store" "key" "[I") (by decide +kernel)) (fun _ h9 => h9) rfl dX0_copy_2 ?_
  refine lv_iload_n hx hb dX0_copy_5 rfl (lv_at hl 1 rfl) ?_
  refine va_iald hx hb hK hP 5 0 rfl rfl (rdA.hin hw) dX0_copy_6 ?_
  refine lv_topi (fun z1 ez1 => ?_)
  have hw := rdA.go hw z1 ez1
  refine lv_aload_n hx hb dX0_copy_7 rfl (lv_at hl 0 rfl) ?_
  refine va_get (D := G) (ci := 0) (v := .ref (ad 6)) (C := RX0) (T := TX0) (N := 11) hx hb hts hiX0 hown hK hP 1 rfl rfl 2 (by decide) (hts (.fieldLink RX0 19 "TreapVersions$Store" "value" "[I") (by decide +kernel)) (fun _ h9 => h9) rfl dX0_copy_8 ?_
  refine lv_iload_n hx hb dX0_copy_11 rfl (lv_at hl 1 rfl) ?_
  refine va_iald hx hb hK hP 6 0 rfl rfl (rdA.hin hw) dX0_copy_12 ?_
  refine lv_topi (fun z2 ez2 => ?_)
  have hw := rdA.go hw z2 ez2
  refine lv_aload_n hx hb dX0_copy_13 rfl (lv_at hl 0 rfl) ?_
  refine va_get (D := G) (ci := 0) (v := .ref (ad 7)) (C := RX0) (T := TX0) (N := 11) hx hb hts hiX0 hown hK hP 1 rfl rfl 3 (by decide) (hts (.fieldLink RX0 22 "TreapVersions$Store" "weight" "[I") (by decide +kernel)) (fun _ h9 => h9) rfl dX0_copy_14 ?_
  refine lv_iload_n hx hb dX0_copy_17 rfl (lv_at hl 1 rfl) ?_
  refine va_iald hx hb hK hP 7 0 rfl rfl (rdA.hin hw) dX0_copy_18 ?_
  refine lv_topi (fun z3 ez3 => ?_)
  have hw := rdA.go hw z3 ez3
  refine lv_iload_n hx hb dX0_copy_19 rfl (lv_at hl 2 rfl) ?_
  refine lv_iload_n hx hb dX0_copy_20 rfl (lv_at hl 3 rfl) ?_
  refine CtI.call (As := [.int z1, .int z2, .int z3, .int p1, .int p2]) (rest := []) (c_X0_fresh l G ad C V cI cZ z1 z2 z3 p1 p2 u _ hw) ⟨hx, hb, hml, hown, hts⟩ (cwV 5 hts gX0_copy_X0_fresh rfl rfl rfl (by decide +kernel) ⟨Nat.le_of_ble_eq_true rfl, Nat.le_of_ble_eq_true rfl⟩) (va_recv hK hP (ci := 0) (q0 := 1) rfl rfl) hK hP hD hS hA rfl hl.1 rfl (Nat.le_of_ble_eq_true rfl) dX0_copy_21 ⟨Nat.zero_le _, Nat.zero_le _⟩ (fun r5 u4 H locs hw hP hD hS => ?_)
  exact hret r5 u4 24 _ _ _ dX0_copy_24 rfl hw hP hD hS
set_option maxHeartbeats 4000000 in
set_option maxRecDepth 100000 in
theorem c_X0_goesAbove (l : Launch) (G : va_G) (ad : Nat → Nat) (C V : Nat) (cI cZ : ClassId) (p0 : Int32) (p1 : Int32) (p2 : Int32) (u : CS) (post : Int32 → CS → Prop) (hw : wp_X0_goesAbove C V p0 p1 p2 u post) : CtI l yX0_goesAbove wsX0_goesAbove ({ frames := 0, cells := 0, slots := 0, locals := 0 }) G (ty2 cI cZ) (cw ad C V cI cZ) [.ref (ad 1), .int p0, .int p1, .int p2] u (fun r u => isB r ∧ post r u) := by
  refine CtI.of (cc := cX0_goesAbove) (maxL := 4) (rt := .boolean) (by decide) rfl (Nat.le_of_ble_eq_true rfl) ?_
  intro p e s m below meth c A Q hx hb hml hts hown hK hA hret ls hl hP hD hS
  have hiX0 : ∀ w ∈ u_ws RX0 TX0 11, w ∈ wsX0_goesAbove := by decide +kernel
  have hown : s.vm.findClass RX0 = some m.cls := hown
  have hl : lv_has ls 4 [(0, .ref (ad 1)), (1, .int p0), (2, .int p1), (3, .int p2)] := hl
  unfold wp_X0_goesAbove at hw
  refine lv_aload_n hx hb dX0_goesAbove_0 rfl (lv_at hl 0 rfl) ?_
  refine va_get (D := G) (ci := 0) (v := .ref (ad 7)) (C := RX0) (T := TX0) (N := 11) hx hb hts hiX0 hown hK hP 1 rfl rfl 3 (by decide) (hts (.fieldLink RX0 22 "TreapVersions$Store" "weight" "[I") (by decide +kernel)) (fun _ h9 => h9) rfl dX0_goesAbove_1 ?_
  refine lv_iload_n hx hb dX0_goesAbove_4 rfl (lv_at hl 1 rfl) ?_
  refine va_iald hx hb hK hP 7 0 rfl rfl (rdA.hin hw) dX0_goesAbove_5 ?_
  refine lv_topi (fun z1 ez1 => ?_)
  have hw := rdA.go hw z1 ez1
  refine lv_iload_n hx hb dX0_goesAbove_6 rfl (lv_at hl 2 rfl) ?_
  refine lv_icmp_eq (tgt := 28) hx hb dX0_goesAbove_7 (by decide) (fun c2 => ?_) (fun c2 => ?_)
  · have hw := brN.t hw c2
    refine lv_aload_n hx hb dX0_goesAbove_28 rfl (lv_at hl 0 rfl) ?_
    refine va_get (D := G) (ci := 0) (v := .ref (ad 5)) (C := RX0) (T := TX0) (N := 11) hx hb hts hiX0 hown hK hP 1 rfl rfl 1 (by decide) (hts (.fieldLink RX0 15 "TreapVersions$Store" "key" "[I") (by decide +kernel)) (fun _ h9 => h9) rfl dX0_goesAbove_29 ?_
    refine lv_iload_n hx hb dX0_goesAbove_32 rfl (lv_at hl 1 rfl) ?_
    refine va_iald hx hb hK hP 5 0 rfl rfl (rdA.hin hw) dX0_goesAbove_33 ?_
    refine lv_topi (fun z3 ez3 => ?_)
    have hw := rdA.go hw z3 ez3
    refine lv_iload_n hx hb dX0_goesAbove_34 rfl (lv_at hl 3 rfl) ?_
    refine lv_icmp_ge (tgt := 42) hx hb dX0_goesAbove_35 (by decide) (fun c4 => ?_) (fun c4 => ?_)
    · have hw := brN.t hw c4
      refine lv_iconst (v := 0) hx hb dX0_goesAbove_42 (by decide) ?_
      exact hret 0 u 43 _ _ _ dX0_goesAbove_43 rfl ⟨isB_0, hw⟩ hP hD hS
    · have hw := brN.f hw c4
      refine lv_iconst (v := 1) hx hb dX0_goesAbove_38 (by decide) ?_
      refine lv_goto (tgt := 43) hx hb dX0_goesAbove_39 (by decide) ?_
      exact hret 1 u 43 _ _ _ dX0_goesAbove_43 rfl ⟨isB_1, hw⟩ hP hD hS
  · have hw := brN.f hw c2
    refine lv_aload_n hx hb dX0_goesAbove_10 rfl (lv_at hl 0 rfl) ?_
    refine va_get (D := G) (ci := 0) (v := .ref (ad 7)) (C := RX0) (T := TX0) (N := 11) hx hb hts hiX0 hown hK hP 1 rfl rfl 3 (by decide) (hts (.fieldLink RX0 22 "TreapVersions$Store" "weight" "[I") (by decide +kernel)) (fun _ h9 => h9) rfl dX0_goesAbove_11 ?_
    refine lv_iload_n hx hb dX0_goesAbove_14 rfl (lv_at hl 1 rfl) ?_
    refine va_iald hx hb hK hP 7 0 rfl rfl (rdA.hin hw) dX0_goesAbove_15 ?_
    refine lv_topi (fun z5 ez5 => ?_)
    have hw := rdA.go hw z5 ez5
    refine lv_iload_n hx hb dX0_goesAbove_16 rfl (lv_at hl 2 rfl) ?_
    refine lv_icmp_le (tgt := 24) hx hb dX0_goesAbove_17 (by decide) (fun c6 => ?_) (fun c6 => ?_)
    · have hw := brN.t hw c6
      refine lv_iconst (v := 0) hx hb dX0_goesAbove_24 (by decide) ?_
      refine lv_goto (tgt := 43) hx hb dX0_goesAbove_25 (by decide) ?_
      exact hret 0 u 43 _ _ _ dX0_goesAbove_43 rfl ⟨isB_0, hw⟩ hP hD hS
    · have hw := brN.f hw c6
      refine lv_iconst (v := 1) hx hb dX0_goesAbove_20 (by decide) ?_
      refine lv_goto (tgt := 43) hx hb dX0_goesAbove_21 (by decide) ?_
      exact hret 1 u 43 _ _ _ dX0_goesAbove_43 rfl ⟨isB_1, hw⟩ hP hD hS
set_option maxHeartbeats 4000000 in
set_option maxRecDepth 100000 in
theorem c_X0_forgetReached (l : Launch) (G : va_G) (ad : Nat → Nat) (C V : Nat) (cI cZ : ClassId) (u : CS) (post : CS → Prop) (hw : wp_X0_forgetReached C V u post) : CtV l yX0_forgetReached wsX0_forgetReached ({ frames := 0, cells := 0, slots := 0, locals := 0 }) G (ty2 cI cZ) (cw ad C V cI cZ) [.ref (ad 1)] u post := by
  refine CtV.of (cc := cX0_forgetReached) (maxL := 2) (by decide) rfl (Nat.le_of_ble_eq_true rfl) ?_
  intro p e s m below meth c A Q hx hb hml hts hown hK hA hret ls hl hP hD hS
  have hiX0 : ∀ w ∈ u_ws RX0 TX0 11, w ∈ wsX0_forgetReached := by decide +kernel
  have hown : s.vm.findClass RX0 = some m.cls := hown
  have hl : lv_has ls 2 [(0, .ref (ad 1))] := hl
  have hlp2 : ∀ (n : Nat) (a1 : Int32) (u : CS), lp_X0_forgetReached_2 C V post n a1 u → ∀ (H : Heap) (locs : List Loc), va_P G vwCl (cw ad C V cI cZ u) H → va_D A (cw ad C V cI cZ u) → va_S A s.heap H locs → ∀ ls : Array Slot, lv_has ls 2 [(0, .ref (ad 1)), (1, .int a1)] → W p l e ({ frames := 0, cells := 0, slots := 0, locals := 0 }) s m ([.ref (ad 1)] : List Value).toArray below meth c H locs 0 0 Q (F0 m 2 ls []) := by
    clear hw hl hP hD hS
    intro n
    induction n with
    | zero => intro a1 u hw; exact False.elim hw
    | succ n ih =>
      intro a1 u hw H locs hP hD hS ls hl
      unfold lp_X0_forgetReached_2 at hw
      refine lv_iload_n hx hb dX0_forgetReached_2 rfl (lv_at hl 1 rfl) ?_
      refine lv_aload_n hx hb dX0_forgetReached_3 rfl (lv_at hl 0 rfl) ?_
      refine va_get (D := G) (ci := 0) (v := .int (nI C)) (C := RX0) (T := TX0) (N := 11) hx hb hts hiX0 hown hK hP 1 rfl rfl 0 (by decide) (hts (.fieldLink RX0 9 "TreapVersions$Store" "room" "I") (by decide +kernel)) (fun _ h9 => h9) rfl dX0_forgetReached_4 ?_
      refine lv_topi (fun z1 ez1 => ?_)
      have hw := nmI.go hw z1 ez1
      refine lv_icmp_gt (tgt := 23) hx hb dX0_forgetReached_7 (by decide) (fun c2 => ?_) (fun c2 => ?_)
      · have hw := brN.t hw c2
        exact hret u 23 _ _ _ dX0_forgetReached_23 hw hP hD hS
      · have hw := brN.f hw c2
        refine lv_aload_n hx hb dX0_forgetReached_10 rfl (lv_at hl 0 rfl) ?_
        refine va_get (D := G) (ci := 0) (v := .ref (ad 12)) (C := RX0) (T := TX0) (N := 11) hx hb hts hiX0 hown hK hP 1 rfl rfl 9 (by decide) (hts (.fieldLink RX0 38 "TreapVersions$Store" "reached" "[Z") (by decide +kernel)) (fun _ h9 => h9) rfl dX0_forgetReached_11 ?_
        refine lv_iload_n hx hb dX0_forgetReached_14 rfl (lv_at hl 1 rfl) ?_
        refine lv_iconst (v := 0) hx hb dX0_forgetReached_15 (by decide) ?_
        refine va_zast hx hb hK hP hD hS 12 1 rfl rfl (wrZ.hin hw) dX0_forgetReached_16 (fun H locs hP hD hS => ?_)
        obtain ⟨u3, eu3⟩ : ∃ z : CS, z = cset u 8 (upd (u 8) a1.toNatClampNeg (vp_nar .boolean 0)) := ⟨_, rfl⟩
        have hP : va_P G vwCl (cw ad C V cI cZ (cset u 8 (upd (u 8) a1.toNatClampNeg (vp_nar .boolean 0)))) H := hP
        have hD : va_D A (cw ad C V cI cZ (cset u 8 (upd (u 8) a1.toNatClampNeg (vp_nar .boolean 0)))) := hD
        rw [← eu3] at hP hD
        have hw := wrZ.go hw u3 eu3
        obtain ⟨z4, ez4⟩ : ∃ y : Int32, y = a1 + 1 := ⟨_, rfl⟩
        have hw := nmI.go hw z4 ez4
        refine lv_iinc (v := z4) (lv' := [(1, .int z4), (0, .ref (ad 1))]) hx hb dX0_forgetReached_17 hl (k := 1) rfl (by rw [ez4]; rfl) (by decide) rfl (fun ls hl => ?_)
        refine lv_goto (tgt := 2) hx hb dX0_forgetReached_20 (by decide) ?_
        exact ih z4 u3 hw _ _ hP hD hS _ (lv_sub hl [1, 0] rfl)
  unfold wp_X0_forgetReached at hw
  refine lv_iconst (v := 1) hx hb dX0_forgetReached_0 (by decide) ?_
  refine lv_istore_n (lv' := [(1, .int 1), (0, .ref (ad 1))]) hx hb dX0_forgetReached_1 rfl hl (by decide) rfl (fun ls hl => ?_)
  obtain ⟨n9, hw⟩ := hw
  exact hlp2 n9 1 u hw _ _ hP hD hS _ (lv_sub hl [1, 0] rfl)
set_option maxHeartbeats 4000000 in
set_option maxRecDepth 100000 in
theorem c_X0_pend (l : Launch) (G : va_G) (ad : Nat → Nat) (C V : Nat) (cI cZ : ClassId) (p0 : Int32) (p1 : Int32) (u : CS) (post : Int32 → CS → Prop) (hw : wp_X0_pend C V p0 p1 u post) : CtI l yX0_pend wsX0_pend ({ frames := 0, cells := 0, slots := 0, locals := 0 }) G (ty2 cI cZ) (cw ad C V cI cZ) [.ref (ad 1), .int p0, .int p1] u post := by
  refine CtI.of (cc := cX0_pend) (maxL := 3) (rt := .int) (by decide) rfl (Nat.le_of_ble_eq_true rfl) ?_
  intro p e s m below meth c A Q hx hb hml hts hown hK hA hret ls hl hP hD hS
  have hiX0 : ∀ w ∈ u_ws RX0 TX0 11, w ∈ wsX0_pend := by decide +kernel
  have hown : s.vm.findClass RX0 = some m.cls := hown
  have hl : lv_has ls 3 [(0, .ref (ad 1)), (1, .int p0), (2, .int p1)] := hl
  unfold wp_X0_pend at hw
  refine lv_iload_n hx hb dX0_pend_0 rfl (lv_at hl 1 rfl) ?_
  refine lv_if_eq (tgt := 13) hx hb dX0_pend_1 (by decide) (fun c1 => ?_) (fun c1 => ?_)
  · have hw := brN.t hw c1
    refine lv_iconst (v := 0) hx hb dX0_pend_13 (by decide) ?_
    exact hret 0 u 14 _ _ _ dX0_pend_14 rfl hw hP hD hS
  · have hw := brN.f hw c1
    refine lv_aload_n hx hb dX0_pend_4 rfl (lv_at hl 0 rfl) ?_
    refine va_get (D := G) (ci := 0) (v := .ref (ad 12)) (C := RX0) (T := TX0) (N := 11) hx hb hts hiX0 hown hK hP 1 rfl rfl 9 (by decide) (hts (.fieldLink RX0 38 "TreapVersions$Store" "reached" "[Z") (by decide +kernel)) (fun _ h9 => h9) rfl dX0_pend_5 ?_
    refine lv_iload_n hx hb dX0_pend_8 rfl (lv_at hl 1 rfl) ?_
    refine va_zald hx hb hK hP 12 1 rfl rfl (rdA.hin hw) dX0_pend_9 ?_
    refine lv_topi (fun z2 ez2 => ?_)
    have hw := rdA.go hw z2 ez2
    refine lv_if_eq (tgt := 15) hx hb dX0_pend_10 (by decide) (fun c3 => ?_) (fun c3 => ?_)
    · have hw := brN.t hw c3
      refine lv_aload_n hx hb dX0_pend_15 rfl (lv_at hl 0 rfl) ?_
      refine va_get (D := G) (ci := 0) (v := .ref (ad 12)) (C := RX0) (T := TX0) (N := 11) hx hb hts hiX0 hown hK hP 1 rfl rfl 9 (by decide) (hts (.fieldLink RX0 38 "TreapVersions$Store" "reached" "[Z") (by decide +kernel)) (fun _ h9 => h9) rfl dX0_pend_16 ?_
      refine lv_iload_n hx hb dX0_pend_19 rfl (lv_at hl 1 rfl) ?_
      refine lv_iconst (v := 1) hx hb dX0_pend_20 (by decide) ?_
      refine va_zast hx hb hK hP hD hS 12 1 rfl rfl (wrZ.hin hw) dX0_pend_21 (fun H locs hP hD hS => ?_)
      obtain ⟨u4, eu4⟩ : ∃ z : CS, z = cset u 8 (upd (u 8) p0.toNatClampNeg (vp_nar .boolean 1)) := ⟨_, rfl⟩
      have hP : va_P G vwCl (cw ad C V cI cZ (cset u 8 (upd (u 8) p0.toNatClampNeg (vp_nar .boolean 1)))) H := hP
      have hD : va_D A (cw ad C V cI cZ (cset u 8 (upd (u 8) p0.toNatClampNeg (vp_nar .boolean 1)))) := hD
      rw [← eu4] at hP hD
      have hw := wrZ.go hw u4 eu4
      refine lv_aload_n hx hb dX0_pend_22 rfl (lv_at hl 0 rfl) ?_
      refine va_get (D := G) (ci := 0) (v := .ref (ad 13)) (C := RX0) (T := TX0) (N := 11) hx hb hts hiX0 hown hK hP 1 rfl rfl 10 (by decide) (hts (.fieldLink RX0 41 "TreapVersions$Store" "pending" "[I") (by decide +kernel)) (fun _ h9 => h9) rfl dX0_pend_23 ?_
      refine lv_iload_n hx hb dX0_pend_26 rfl (lv_at hl 2 rfl) ?_
      refine lv_iload_n hx hb dX0_pend_27 rfl (lv_at hl 1 rfl) ?_
      refine va_iast hx hb hK hP hD hS 13 0 rfl rfl (wrA.hin hw) dX0_pend_28 (fun H locs hP hD hS => ?_)
      obtain ⟨u5, eu5⟩ : ∃ z : CS, z = cset u4 9 (upd (u4 9) p1.toNatClampNeg p0) := ⟨_, rfl⟩
      have hP : va_P G vwCl (cw ad C V cI cZ (cset u4 9 (upd (u4 9) p1.toNatClampNeg p0))) H := hP
      have hD : va_D A (cw ad C V cI cZ (cset u4 9 (upd (u4 9) p1.toNatClampNeg p0))) := hD
      rw [← eu5] at hP hD
      have hw := wrA.go hw u5 eu5
      refine lv_iconst (v := 1) hx hb dX0_pend_29 (by decide) ?_
      exact hret 1 u5 30 _ _ _ dX0_pend_30 rfl hw hP hD hS
    · have hw := brN.f hw c3
      refine lv_iconst (v := 0) hx hb dX0_pend_13 (by decide) ?_
      exact hret 0 u 14 _ _ _ dX0_pend_14 rfl hw hP hD hS
set_option maxHeartbeats 4000000 in
set_option maxRecDepth 100000 in
theorem c_X0_reach (l : Launch) (G : va_G) (ad : Nat → Nat) (C V : Nat) (cI cZ : ClassId) (p0 : Int32) (u : CS) (post : Int32 → CS → Prop) (hw : wp_X0_reach C V p0 u post) : CtI l yX0_reach wsX0_reach ({ frames := 1, cells := 0, slots := 0, locals := 22 }) G (ty2 cI cZ) (cw ad C V cI cZ) [.ref (ad 1), .int p0] u post := by
  refine CtI.of (cc := cX0_reach) (maxL := 7) (rt := .int) (by decide) rfl (Nat.le_of_ble_eq_true rfl) ?_
  intro p e s m below meth c A Q hx hb hml hts hown hK hA hret ls hl hP hD hS
  have hiX0 : ∀ w ∈ u_ws RX0 TX0 11, w ∈ wsX0_reach := by decide +kernel
  have hown : s.vm.findClass RX0 = some m.cls := hown
  have hl : lv_has ls 7 [(0, .ref (ad 1)), (1, .int p0)] := hl
  have hlp12 : ∀ (n : Nat) (a2 : Int32) (a3 : Int32) (a4 : Int32) (u : CS), lp_X0_reach_12 C V post n a2 a3 a4 u → ∀ (H : Heap) (locs : List Loc), va_P G vwCl (cw ad C V cI cZ u) H → va_D A (cw ad C V cI cZ u) → va_S A s.heap H locs → ∀ ls : Array Slot, lv_has ls 7 [(0, .ref (ad 1)), (2, .int a2), (3, .int a3), (4, .int a4)] → W p l e ({ frames := 1, cells := 0, slots := 0, locals := 22 }) s m ([.ref (ad 1), .int p0] : List Value).toArray below meth c H locs 0 0 Q (F0 m 12 ls []) := by
    clear hw hl hP hD hS
    intro n
    induction n with
    | zero => intro a2 a3 a4 u hw; exact False.elim hw
    | succ n ih =>
      intro a2 a3 a4 u hw H locs hP hD hS ls hl
      unfold lp_X0_reach_12 at hw
      refine lv_iload hx hb dX0_reach_12 (lv_at hl 3 rfl) ?_
      refine lv_aload_n hx hb dX0_reach_14 rfl (lv_at hl 0 rfl) ?_
      refine va_get (D := G) (ci := 0) (v := .int (nI C)) (C := RX0) (T := TX0) (N := 11) hx hb hts hiX0 hown hK hP 1 rfl rfl 0 (by decide) (hts (.fieldLink RX0 9 "TreapVersions$Store" "room" "I") (by decide +kernel)) (fun _ h9 => h9) rfl dX0_reach_15 ?_
      refine lv_topi (fun z3 ez3 => ?_)
      have hw := nmI.go hw z3 ez3
      refine lv_icmp_ge (tgt := 86) hx hb dX0_reach_18 (by decide) (fun c4 => ?_) (fun c4 => ?_)
      · have hw := brN.t hw c4
        refine lv_iload_n hx hb dX0_reach_86 rfl (lv_at hl 1 rfl) ?_
        exact hret a2 u 87 _ _ _ dX0_reach_87 rfl hw hP hD hS
      · have hw := brN.f hw c4
        refine lv_iload_n hx hb dX0_reach_21 rfl (lv_at hl 2 rfl) ?_
        refine lv_if_le (tgt := 86) hx hb dX0_reach_22 (by decide) (fun c5 => ?_) (fun c5 => ?_)
        · have hw := brN.t hw c5
          refine lv_iload_n hx hb dX0_reach_86 rfl (lv_at hl 1 rfl) ?_
          exact hret a2 u 87 _ _ _ dX0_reach_87 rfl hw hP hD hS
        · have hw := brN.f hw c5
          obtain ⟨z6, ez6⟩ : ∃ y : Int32, y = a3 + (-1) := ⟨_, rfl⟩
          have hw := nmI.go hw z6 ez6
          refine lv_iinc (v := z6) (lv' := [(3, .int z6), (0, .ref (ad 1)), (2, .int a2), (4, .int a4)]) hx hb dX0_reach_25 hl (k := 2) rfl (by rw [ez6]; rfl) (by decide) rfl (fun ls hl => ?_)
          refine lv_aload_n hx hb dX0_reach_28 rfl (lv_at hl 1 rfl) ?_
          refine va_get (D := G) (ci := 0) (v := .ref (ad 13)) (C := RX0) (T := TX0) (N := 11) hx hb hts hiX0 hown hK hP 1 rfl rfl 10 (by decide) (hts (.fieldLink RX0 41 "TreapVersions$Store" "pending" "[I") (by decide +kernel)) (fun _ h9 => h9) rfl dX0_reach_29 ?_
          refine lv_iload_n hx hb dX0_reach_32 rfl (lv_at hl 0 rfl) ?_
          refine va_iald hx hb hK hP 13 0 rfl rfl (rdA.hin hw) dX0_reach_33 ?_
          refine lv_topi (fun z7 ez7 => ?_)
          have hw := rdA.go hw z7 ez7
          refine lv_istore (lv' := [(5, .int z7), (3, .int z6), (0, .ref (ad 1)), (2, .int a2), (4, .int a4)]) hx hb dX0_reach_34 hl (by decide) rfl (fun ls hl => ?_)
          refine lv_aload_n hx hb dX0_reach_36 rfl (lv_at hl 2 rfl) ?_
          refine lv_aload_n hx hb dX0_reach_37 rfl (lv_at hl 2 rfl) ?_
          refine va_get (D := G) (ci := 0) (v := .ref (ad 8)) (C := RX0) (T := TX0) (N := 11) hx hb hts hiX0 hown hK hP 1 rfl rfl 4 (by decide) (hts (.fieldLink RX0 25 "TreapVersions$Store" "left" "[I") (by decide +kernel)) (fun _ h9 => h9) rfl dX0_reach_38 ?_
          refine lv_iload hx hb dX0_reach_41 (lv_at hl 0 rfl) ?_
          refine va_iald hx hb hK hP 8 0 rfl rfl (rdA.hin hw) dX0_reach_43 ?_
          refine lv_topi (fun z8 ez8 => ?_)
          have hw := rdA.go hw z8 ez8
          refine lv_iload_n hx hb dX0_reach_44 rfl (lv_at hl 1 rfl) ?_
          refine CtI.call (As := [.int z8, .int z6]) (rest := []) (c_X0_pend l G ad C V cI cZ z8 z6 u _ hw) ⟨hx, hb, hml, hown, hts⟩ (cwV 2 hts gX0_reach_X0_pend rfl rfl rfl (by decide +kernel) ⟨Nat.le_of_ble_eq_true rfl, Nat.le_of_ble_eq_true rfl⟩) (va_recv hK hP (ci := 0) (q0 := 1) rfl rfl) hK hP hD hS hA rfl hl.1 rfl (Nat.le_of_ble_eq_true rfl) dX0_reach_45 ⟨Nat.zero_le _, Nat.zero_le _⟩ (fun r10 u9 H locs hw hP hD hS => ?_)
          refine lv_istore (lv' := [(6, .int r10), (5, .int z7), (3, .int z6), (0, .ref (ad 1)), (2, .int a2), (4, .int a4)]) hx hb dX0_reach_48 hl (by decide) rfl (fun ls hl => ?_)
          refine lv_iload hx hb dX0_reach_50 (lv_at hl 0 rfl) ?_
          refine lv_aload_n hx hb dX0_reach_52 rfl (lv_at hl 3 rfl) ?_
          refine lv_aload_n hx hb dX0_reach_53 rfl (lv_at hl 3 rfl) ?_
          refine va_get (D := G) (ci := 0) (v := .ref (ad 9)) (C := RX0) (T := TX0) (N := 11) hx hb hts hiX0 hown hK hP 1 rfl rfl 5 (by decide) (hts (.fieldLink RX0 28 "TreapVersions$Store" "right" "[I") (by decide +kernel)) (fun _ h9 => h9) rfl dX0_reach_54 ?_
          refine lv_iload hx hb dX0_reach_57 (lv_at hl 1 rfl) ?_
          refine va_iald hx hb hK hP 9 0 rfl rfl (rdA.hin hw) dX0_reach_59 ?_
          refine lv_topi (fun z11 ez11 => ?_)
          have hw := rdA.go hw z11 ez11
          refine lv_iload_n hx hb dX0_reach_60 rfl (lv_at hl 2 rfl) ?_
          refine lv_iload hx hb dX0_reach_61 (lv_at hl 0 rfl) ?_
          refine lv_iadd hx hb dX0_reach_63 ?_
          refine lv_topi (fun z12 ez12 => ?_)
          have hw := nmI.go hw z12 ez12
          refine CtI.call (As := [.int z11, .int z12]) (rest := [.int r10]) (c_X0_pend l G ad C V cI cZ z11 z12 u9 _ hw) ⟨hx, hb, hml, hown, hts⟩ (cwV 2 hts gX0_reach_X0_pend rfl rfl rfl (by decide +kernel) ⟨Nat.le_of_ble_eq_true rfl, Nat.le_of_ble_eq_true rfl⟩) (va_recv hK hP (ci := 0) (q0 := 1) rfl rfl) hK hP hD hS hA rfl hl.1 rfl (Nat.le_of_ble_eq_true rfl) dX0_reach_64 ⟨Nat.zero_le _, Nat.zero_le _⟩ (fun r14 u13 H locs hw hP hD hS => ?_)
          refine lv_iadd hx hb dX0_reach_67 ?_
          refine lv_topi (fun z15 ez15 => ?_)
          have hw := nmI.go hw z15 ez15
          refine lv_istore (lv' := [(6, .int z15), (5, .int z7), (3, .int z6), (0, .ref (ad 1)), (2, .int a2), (4, .int a4)]) hx hb dX0_reach_68 hl (by decide) rfl (fun ls hl => ?_)
          refine lv_iload_n hx hb dX0_reach_70 rfl (lv_at hl 2 rfl) ?_
          refine lv_iload hx hb dX0_reach_71 (lv_at hl 0 rfl) ?_
          refine lv_iadd hx hb dX0_reach_73 ?_
          refine lv_topi (fun z16 ez16 => ?_)
          have hw := nmI.go hw z16 ez16
          refine lv_istore_n (lv' := [(3, .int z16), (6, .int z15), (5, .int z7), (0, .ref (ad 1)), (2, .int a2), (4, .int a4)]) hx hb dX0_reach_74 rfl hl (by decide) rfl (fun ls hl => ?_)
          refine lv_iload_n hx hb dX0_reach_75 rfl (lv_at hl 4 rfl) ?_
          refine lv_iload hx hb dX0_reach_76 (lv_at hl 1 rfl) ?_
          refine lv_iadd hx hb dX0_reach_78 ?_
          refine lv_topi (fun z17 ez17 => ?_)
          have hw := nmI.go hw z17 ez17
          refine lv_istore_n (lv' := [(2, .int z17), (3, .int z16), (6, .int z15), (5, .int z7), (0, .ref (ad 1)), (4, .int a4)]) hx hb dX0_reach_79 rfl hl (by decide) rfl (fun ls hl => ?_)
          obtain ⟨z18, ez18⟩ : ∃ y : Int32, y = a4 + 1 := ⟨_, rfl⟩
          have hw := nmI.go hw z18 ez18
          refine lv_iinc (v := z18) (lv' := [(4, .int z18), (2, .int z17), (3, .int z16), (6, .int z15), (5, .int z7), (0, .ref (ad 1))]) hx hb dX0_reach_80 hl (k := 5) rfl (by rw [ez18]; rfl) (by decide) rfl (fun ls hl => ?_)
          refine lv_goto (tgt := 12) hx hb dX0_reach_83 (by decide) ?_
          exact ih z17 z16 z18 u13 hw _ _ hP hD hS _ (lv_sub hl [5, 1, 2, 0] rfl)
  unfold wp_X0_reach at hw
  refine lv_aload_n hx hb dX0_reach_0 rfl (lv_at hl 0 rfl) ?_
  refine lv_iload_n hx hb dX0_reach_1 rfl (lv_at hl 1 rfl) ?_
  refine lv_iconst (v := 0) hx hb dX0_reach_2 (by decide) ?_
  refine CtI.call (As := [.int p0, .int 0]) (rest := []) (c_X0_pend l G ad C V cI cZ p0 0 u _ hw) ⟨hx, hb, hml, hown, hts⟩ (cwV 2 hts gX0_reach_X0_pend rfl rfl rfl (by decide +kernel) ⟨Nat.le_of_ble_eq_true rfl, Nat.le_of_ble_eq_true rfl⟩) (va_recv hK hP (ci := 0) (q0 := 1) rfl rfl) hK hP hD hS hA rfl hl.1 rfl (Nat.le_of_ble_eq_true rfl) dX0_reach_3 ⟨Nat.zero_le _, Nat.zero_le _⟩ (fun r2 u1 H locs hw hP hD hS => ?_)
  refine lv_istore_n (lv' := [(2, .int r2), (0, .ref (ad 1)), (1, .int p0)]) hx hb dX0_reach_6 rfl hl (by decide) rfl (fun ls hl => ?_)
  refine lv_iload_n hx hb dX0_reach_7 rfl (lv_at hl 0 rfl) ?_
  refine lv_istore_n (lv' := [(3, .int r2), (2, .int r2), (0, .ref (ad 1)), (1, .int p0)]) hx hb dX0_reach_8 rfl hl (by decide) rfl (fun ls hl => ?_)
  refine lv_iconst (v := 0) hx hb dX0_reach_9 (by decide) ?_
  refine lv_istore (lv' := [(4, .int 0), (3, .int r2), (2, .int r2), (0, .ref (ad 1)), (1, .int p0)]) hx hb dX0_reach_10 hl (by decide) rfl (fun ls hl => ?_)
  obtain ⟨n9, hw⟩ := hw
  exact hlp12 n9 r2 r2 0 u1 hw _ _ hP hD hS _ (lv_sub hl [3, 2, 1, 0] rfl)
set_option maxHeartbeats 4000000 in
set_option maxRecDepth 100000 in
theorem c_X0_keepReached (l : Launch) (G : va_G) (ad : Nat → Nat) (C V : Nat) (cI cZ : ClassId) (u : CS) (post : CS → Prop) (hw : wp_X0_keepReached C V u post) : CtV l yX0_keepReached wsX0_keepReached ({ frames := 0, cells := 0, slots := 0, locals := 0 }) G (ty2 cI cZ) (cw ad C V cI cZ) [.ref (ad 1)] u post := by
  refine CtV.of (cc := cX0_keepReached) (maxL := 2) (by decide) rfl (Nat.le_of_ble_eq_true rfl) ?_
  intro p e s m below meth c A Q hx hb hml hts hown hK hA hret ls hl hP hD hS
  have hiX0 : ∀ w ∈ u_ws RX0 TX0 11, w ∈ wsX0_keepReached := by decide +kernel
  have hown : s.vm.findClass RX0 = some m.cls := hown
  have hl : lv_has ls 2 [(0, .ref (ad 1))] := hl
  have hlp7 : ∀ (n : Nat) (a1 : Int32) (u : CS), lp_X0_keepReached_7 C V post n a1 u → ∀ (H : Heap) (locs : List Loc), va_P G vwCl (cw ad C V cI cZ u) H → va_D A (cw ad C V cI cZ u) → va_S A s.heap H locs → ∀ ls : Array Slot, lv_has ls 2 [(0, .ref (ad 1)), (1, .int a1)] → W p l e ({ frames := 0, cells := 0, slots := 0, locals := 0 }) s m ([.ref (ad 1)] : List Value).toArray below meth c H locs 0 0 Q (F0 m 7 ls []) := by
    clear hw hl hP hD hS
    intro n
    induction n with
    | zero => intro a1 u hw; exact False.elim hw
    | succ n ih =>
      intro a1 u hw H locs hP hD hS ls hl
      unfold lp_X0_keepReached_7 at hw
      refine lv_iload_n hx hb dX0_keepReached_7 rfl (lv_at hl 1 rfl) ?_
      refine lv_aload_n hx hb dX0_keepReached_8 rfl (lv_at hl 0 rfl) ?_
      refine va_get (D := G) (ci := 0) (v := .int (nI C)) (C := RX0) (T := TX0) (N := 11) hx hb hts hiX0 hown hK hP 1 rfl rfl 0 (by decide) (hts (.fieldLink RX0 9 "TreapVersions$Store" "room" "I") (by decide +kernel)) (fun _ h9 => h9) rfl dX0_keepReached_9 ?_
      refine lv_topi (fun z2 ez2 => ?_)
      have hw := nmI.go hw z2 ez2
      refine lv_icmp_gt (tgt := 56) hx hb dX0_keepReached_12 (by decide) (fun c3 => ?_) (fun c3 => ?_)
      · have hw := brN.t hw c3
        exact hret u 56 _ _ _ dX0_keepReached_56 hw hP hD hS
      · have hw := brN.f hw c3
        refine lv_aload_n hx hb dX0_keepReached_15 rfl (lv_at hl 0 rfl) ?_
        refine va_get (D := G) (ci := 0) (v := .ref (ad 11)) (C := RX0) (T := TX0) (N := 11) hx hb hts hiX0 hown hK hP 1 rfl rfl 8 (by decide) (hts (.fieldLink RX0 34 "TreapVersions$Store" "taken" "[Z") (by decide +kernel)) (fun _ h9 => h9) rfl dX0_keepReached_16 ?_
        refine lv_iload_n hx hb dX0_keepReached_19 rfl (lv_at hl 1 rfl) ?_
        refine lv_aload_n hx hb dX0_keepReached_20 rfl (lv_at hl 0 rfl) ?_
        refine va_get (D := G) (ci := 0) (v := .ref (ad 12)) (C := RX0) (T := TX0) (N := 11) hx hb hts hiX0 hown hK hP 1 rfl rfl 9 (by decide) (hts (.fieldLink RX0 38 "TreapVersions$Store" "reached" "[Z") (by decide +kernel)) (fun _ h9 => h9) rfl dX0_keepReached_21 ?_
        refine lv_iload_n hx hb dX0_keepReached_24 rfl (lv_at hl 1 rfl) ?_
        refine va_zald hx hb hK hP 12 1 rfl rfl (rdA.hin hw) dX0_keepReached_25 ?_
        refine lv_topi (fun z4 ez4 => ?_)
        have hw := rdA.go hw z4 ez4
        refine va_zast hx hb hK hP hD hS 11 1 rfl rfl (wrZ.hin hw) dX0_keepReached_26 (fun H locs hP hD hS => ?_)
        obtain ⟨u5, eu5⟩ : ∃ z : CS, z = cset u 7 (upd (u 7) a1.toNatClampNeg (vp_nar .boolean z4)) := ⟨_, rfl⟩
        have hP : va_P G vwCl (cw ad C V cI cZ (cset u 7 (upd (u 7) a1.toNatClampNeg (vp_nar .boolean z4)))) H := hP
        have hD : va_D A (cw ad C V cI cZ (cset u 7 (upd (u 7) a1.toNatClampNeg (vp_nar .boolean z4)))) := hD
        rw [← eu5] at hP hD
        have hw := wrZ.go hw u5 eu5
        refine lv_aload_n hx hb dX0_keepReached_27 rfl (lv_at hl 0 rfl) ?_
        refine lv_dup hx hb dX0_keepReached_28 rfl ?_
        refine va_get (D := G) (ci := 0) (v := .int (u5 6 0)) (C := RX0) (T := TX0) (N := 11) hx hb hts hiX0 hown hK hP 1 rfl rfl 7 (by decide) (hts (.fieldLink RX0 44 "TreapVersions$Store" "usedPlaces" "I") (by decide +kernel)) (fun _ h9 => h9) rfl dX0_keepReached_29 ?_
        refine lv_topi (fun z6 ez6 => ?_)
        have hw := nmI.go hw z6 ez6
        refine lv_aload_n hx hb dX0_keepReached_32 rfl (lv_at hl 0 rfl) ?_
        refine va_get (D := G) (ci := 0) (v := .ref (ad 12)) (C := RX0) (T := TX0) (N := 11) hx hb hts hiX0 hown hK hP 1 rfl rfl 9 (by decide) (hts (.fieldLink RX0 38 "TreapVersions$Store" "reached" "[Z") (by decide +kernel)) (fun _ h9 => h9) rfl dX0_keepReached_33 ?_
        refine lv_iload_n hx hb dX0_keepReached_36 rfl (lv_at hl 1 rfl) ?_
        refine va_zald hx hb hK hP 12 1 rfl rfl (rdA.hin hw) dX0_keepReached_37 ?_
        refine lv_topi (fun z7 ez7 => ?_)
        have hw := rdA.go hw z7 ez7
        refine lv_if_eq (tgt := 45) hx hb dX0_keepReached_38 (by decide) (fun c8 => ?_) (fun c8 => ?_)
        · have hw := brN.t hw c8
          refine lv_iconst (v := 0) hx hb dX0_keepReached_45 (by decide) ?_
          refine lv_iadd hx hb dX0_keepReached_46 ?_
          refine lv_topi (fun z9 ez9 => ?_)
          have hw := nmI.go hw z9 ez9
          refine va_put (D := G) (ci := 0) (v := .int z9) (ty := .int) (C := RX0) (T := TX0) (N := 11) hx hb hts hiX0 tyX0 tyX0_ok nmX0 hown hK hP hD hS 1 rfl rfl 7 (by decide) (hts (.fieldLink RX0 44 "TreapVersions$Store" "usedPlaces" "I") (by decide +kernel)) (fun _ h9 => h9) rfl (by decide +kernel) rfl rfl (Nat.le_of_ble_eq_true rfl) dX0_keepReached_47 (fun H locs hP hD hS => ?_)
          obtain ⟨u10, eu10⟩ : ∃ z : CS, z = cset u5 6 (fun _ => z9) := ⟨_, rfl⟩
          have hP : va_P G vwCl (cw ad C V cI cZ (cset u5 6 (fun _ => z9))) H := hP
          have hD : va_D A (cw ad C V cI cZ (cset u5 6 (fun _ => z9))) := hD
          rw [← eu10] at hP hD
          have hw := stF.go hw u10 eu10
          obtain ⟨z11, ez11⟩ : ∃ y : Int32, y = a1 + 1 := ⟨_, rfl⟩
          have hw := nmI.go hw z11 ez11
          refine lv_iinc (v := z11) (lv' := [(1, .int z11), (0, .ref (ad 1))]) hx hb dX0_keepReached_50 hl (k := 1) rfl (by rw [ez11]; rfl) (by decide) rfl (fun ls hl => ?_)
          refine lv_goto (tgt := 7) hx hb dX0_keepReached_53 (by decide) ?_
          exact ih z11 u10 hw _ _ hP hD hS _ (lv_sub hl [1, 0] rfl)
        · have hw := brN.f hw c8
          refine lv_iconst (v := 1) hx hb dX0_keepReached_41 (by decide) ?_
          refine lv_goto (tgt := 46) hx hb dX0_keepReached_42 (by decide) ?_
          refine lv_iadd hx hb dX0_keepReached_46 ?_
          refine lv_topi (fun z12 ez12 => ?_)
          have hw := nmI.go hw z12 ez12
          refine va_put (D := G) (ci := 0) (v := .int z12) (ty := .int) (C := RX0) (T := TX0) (N := 11) hx hb hts hiX0 tyX0 tyX0_ok nmX0 hown hK hP hD hS 1 rfl rfl 7 (by decide) (hts (.fieldLink RX0 44 "TreapVersions$Store" "usedPlaces" "I") (by decide +kernel)) (fun _ h9 => h9) rfl (by decide +kernel) rfl rfl (Nat.le_of_ble_eq_true rfl) dX0_keepReached_47 (fun H locs hP hD hS => ?_)
          obtain ⟨u13, eu13⟩ : ∃ z : CS, z = cset u5 6 (fun _ => z12) := ⟨_, rfl⟩
          have hP : va_P G vwCl (cw ad C V cI cZ (cset u5 6 (fun _ => z12))) H := hP
          have hD : va_D A (cw ad C V cI cZ (cset u5 6 (fun _ => z12))) := hD
          rw [← eu13] at hP hD
          have hw := stF.go hw u13 eu13
          obtain ⟨z14, ez14⟩ : ∃ y : Int32, y = a1 + 1 := ⟨_, rfl⟩
          have hw := nmI.go hw z14 ez14
          refine lv_iinc (v := z14) (lv' := [(1, .int z14), (0, .ref (ad 1))]) hx hb dX0_keepReached_50 hl (k := 1) rfl (by rw [ez14]; rfl) (by decide) rfl (fun ls hl => ?_)
          refine lv_goto (tgt := 7) hx hb dX0_keepReached_53 (by decide) ?_
          exact ih z14 u13 hw _ _ hP hD hS _ (lv_sub hl [1, 0] rfl)
  unfold wp_X0_keepReached at hw
  refine lv_aload_n hx hb dX0_keepReached_0 rfl (lv_at hl 0 rfl) ?_
  refine lv_iconst (v := 0) hx hb dX0_keepReached_1 (by decide) ?_
  refine va_put (D := G) (ci := 0) (v := .int 0) (ty := .int) (C := RX0) (T := TX0) (N := 11) hx hb hts hiX0 tyX0 tyX0_ok nmX0 hown hK hP hD hS 1 rfl rfl 7 (by decide) (hts (.fieldLink RX0 44 "TreapVersions$Store" "usedPlaces" "I") (by decide +kernel)) (fun _ h9 => h9) rfl (by decide +kernel) rfl rfl (Nat.le_of_ble_eq_true rfl) dX0_keepReached_2 (fun H locs hP hD hS => ?_)
  obtain ⟨u1, eu1⟩ : ∃ z : CS, z = cset u 6 (fun _ => 0) := ⟨_, rfl⟩
  have hP : va_P G vwCl (cw ad C V cI cZ (cset u 6 (fun _ => 0))) H := hP
  have hD : va_D A (cw ad C V cI cZ (cset u 6 (fun _ => 0))) := hD
  rw [← eu1] at hP hD
  have hw := stF.go hw u1 eu1
  refine lv_iconst (v := 1) hx hb dX0_keepReached_5 (by decide) ?_
  refine lv_istore_n (lv' := [(1, .int 1), (0, .ref (ad 1))]) hx hb dX0_keepReached_6 rfl hl (by decide) rfl (fun ls hl => ?_)
  obtain ⟨n9, hw⟩ := hw
  exact hlp7 n9 1 u1 hw _ _ hP hD hS _ (lv_sub hl [1, 0] rfl)
set_option maxHeartbeats 4000000 in
set_option maxRecDepth 100000 in
theorem c_X0_sumReached (l : Launch) (G : va_G) (ad : Nat → Nat) (C V : Nat) (cI cZ : ClassId) (p0 : Int32) (p1 : Int32) (u : CS) (post : Int64 → CS → Prop) (hw : wp_X0_sumReached C V p0 p1 u post) : CtL l yX0_sumReached wsX0_sumReached ({ frames := 0, cells := 0, slots := 0, locals := 0 }) G (ty2 cI cZ) (cw ad C V cI cZ) [.ref (ad 1), .int p0, .int p1] u post := by
  refine CtL.of (cc := cX0_sumReached) (maxL := 6) (by decide) rfl (Nat.le_of_ble_eq_true rfl) ?_
  intro p e s m below meth c A Q hx hb hml hts hown hK hA hret ls hl hP hD hS
  have hiX0 : ∀ w ∈ u_ws RX0 TX0 11, w ∈ wsX0_sumReached := by decide +kernel
  have hown : s.vm.findClass RX0 = some m.cls := hown
  have hl : lv_has ls 6 [(0, .ref (ad 1)), (1, .int p0), (2, .int p1)] := hl
  have hlp5 : ∀ (n : Nat) (a1 : Int32) (a2 : Int32) (a3 : Int64) (a5 : Int32) (u : CS), lp_X0_sumReached_5 C V post n a1 a2 a3 a5 u → ∀ (H : Heap) (locs : List Loc), va_P G vwCl (cw ad C V cI cZ u) H → va_D A (cw ad C V cI cZ u) → va_S A s.heap H locs → ∀ ls : Array Slot, lv_has ls 6 [(0, .ref (ad 1)), (1, .int a1), (2, .int a2), (3, .long a3), (5, .int a5)] → W p l e ({ frames := 0, cells := 0, slots := 0, locals := 0 }) s m ([.ref (ad 1), .int p0, .int p1] : List Value).toArray below meth c H locs 0 0 Q (F0 m 5 ls []) := by
    clear hw hl hP hD hS
    intro n
    induction n with
    | zero => intro a1 a2 a3 a5 u hw; exact False.elim hw
    | succ n ih =>
      intro a1 a2 a3 a5 u hw H locs hP hD hS ls hl
      unfold lp_X0_sumReached_5 at hw
      refine lv_iload hx hb dX0_sumReached_5 (lv_at hl 4 rfl) ?_
      refine lv_aload_n hx hb dX0_sumReached_7 rfl (lv_at hl 0 rfl) ?_
      refine va_get (D := G) (ci := 0) (v := .int (nI C)) (C := RX0) (T := TX0) (N := 11) hx hb hts hiX0 hown hK hP 1 rfl rfl 0 (by decide) (hts (.fieldLink RX0 9 "TreapVersions$Store" "room" "I") (by decide +kernel)) (fun _ h9 => h9) rfl dX0_sumReached_8 ?_
      refine lv_topi (fun z1 ez1 => ?_)
      have hw := nmI.go hw z1 ez1
      refine lv_icmp_gt (tgt := 63) hx hb dX0_sumReached_11 (by decide) (fun c2 => ?_) (fun c2 => ?_)
      · have hw := brN.t hw c2
        refine lv_lload_n hx hb dX0_sumReached_63 rfl (lv_at hl 3 rfl) ?_
        exact hret a3 u 64 _ _ _ dX0_sumReached_64 hw hP hD hS
      · have hw := brN.f hw c2
        refine lv_aload_n hx hb dX0_sumReached_14 rfl (lv_at hl 0 rfl) ?_
        refine va_get (D := G) (ci := 0) (v := .ref (ad 12)) (C := RX0) (T := TX0) (N := 11) hx hb hts hiX0 hown hK hP 1 rfl rfl 9 (by decide) (hts (.fieldLink RX0 38 "TreapVersions$Store" "reached" "[Z") (by decide +kernel)) (fun _ h9 => h9) rfl dX0_sumReached_15 ?_
        refine lv_iload hx hb dX0_sumReached_18 (lv_at hl 4 rfl) ?_
        refine va_zald hx hb hK hP 12 1 rfl rfl (rdA.hin hw) dX0_sumReached_20 ?_
        refine lv_topi (fun z3 ez3 => ?_)
        have hw := rdA.go hw z3 ez3
        refine lv_if_eq (tgt := 57) hx hb dX0_sumReached_21 (by decide) (fun c4 => ?_) (fun c4 => ?_)
        · have hw := brN.t hw c4
          obtain ⟨z5, ez5⟩ : ∃ y : Int32, y = a5 + 1 := ⟨_, rfl⟩
          have hw := nmI.go hw z5 ez5
          refine lv_iinc (v := z5) (lv' := [(5, .int z5), (0, .ref (ad 1)), (1, .int a1), (2, .int a2), (3, .long a3)]) hx hb dX0_sumReached_57 hl (k := 4) rfl (by rw [ez5]; rfl) (by decide) rfl (fun ls hl => ?_)
          refine lv_goto (tgt := 5) hx hb dX0_sumReached_60 (by decide) ?_
          exact ih a1 a2 a3 z5 u hw _ _ hP hD hS _ (lv_sub hl [1, 2, 3, 4, 0] rfl)
        · have hw := brN.f hw c4
          refine lv_aload_n hx hb dX0_sumReached_24 rfl (lv_at hl 0 rfl) ?_
          refine va_get (D := G) (ci := 0) (v := .ref (ad 5)) (C := RX0) (T := TX0) (N := 11) hx hb hts hiX0 hown hK hP 1 rfl rfl 1 (by decide) (hts (.fieldLink RX0 15 "TreapVersions$Store" "key" "[I") (by decide +kernel)) (fun _ h9 => h9) rfl dX0_sumReached_25 ?_
          refine lv_iload hx hb dX0_sumReached_28 (lv_at hl 4 rfl) ?_
          refine va_iald hx hb hK hP 5 0 rfl rfl (rdA.hin hw) dX0_sumReached_30 ?_
          refine lv_topi (fun z6 ez6 => ?_)
          have hw := rdA.go hw z6 ez6
          refine lv_iload_n hx hb dX0_sumReached_31 rfl (lv_at hl 1 rfl) ?_
          refine lv_icmp_lt (tgt := 57) hx hb dX0_sumReached_32 (by decide) (fun c7 => ?_) (fun c7 => ?_)
          · have hw := brN.t hw c7
            obtain ⟨z8, ez8⟩ : ∃ y : Int32, y = a5 + 1 := ⟨_, rfl⟩
            have hw := nmI.go hw z8 ez8
            refine lv_iinc (v := z8) (lv' := [(5, .int z8), (0, .ref (ad 1)), (1, .int a1), (2, .int a2), (3, .long a3)]) hx hb dX0_sumReached_57 hl (k := 4) rfl (by rw [ez8]; rfl) (by decide) rfl (fun ls hl => ?_)
            refine lv_goto (tgt := 5) hx hb dX0_sumReached_60 (by decide) ?_
            exact ih a1 a2 a3 z8 u hw _ _ hP hD hS _ (lv_sub hl [1, 2, 3, 4, 0] rfl)
          · have hw := brN.f hw c7
            refine lv_aload_n hx hb dX0_sumReached_35 rfl (lv_at hl 0 rfl) ?_
            refine va_get (D := G) (ci := 0) (v := .ref (ad 5)) (C := RX0) (T := TX0) (N := 11) hx hb hts hiX0 hown hK hP 1 rfl rfl 1 (by decide) (hts (.fieldLink RX0 15 "TreapVersions$Store" "key" "[I") (by decide +kernel)) (fun _ h9 => h9) rfl dX0_sumReached_36 ?_
            refine lv_iload hx hb dX0_sumReached_39 (lv_at hl 4 rfl) ?_
            refine va_iald hx hb hK hP 5 0 rfl rfl (rdA.hin hw) dX0_sumReached_41 ?_
            refine lv_topi (fun z9 ez9 => ?_)
            have hw := rdA.go hw z9 ez9
            refine lv_iload_n hx hb dX0_sumReached_42 rfl (lv_at hl 2 rfl) ?_
            refine lv_icmp_gt (tgt := 57) hx hb dX0_sumReached_43 (by decide) (fun c10 => ?_) (fun c10 => ?_)
            · have hw := brN.t hw c10
              obtain ⟨z11, ez11⟩ : ∃ y : Int32, y = a5 + 1 := ⟨_, rfl⟩
              have hw := nmI.go hw z11 ez11
              refine lv_iinc (v := z11) (lv' := [(5, .int z11), (0, .ref (ad 1)), (1, .int a1), (2, .int a2), (3, .long a3)]) hx hb dX0_sumReached_57 hl (k := 4) rfl (by rw [ez11]; rfl) (by decide) rfl (fun ls hl => ?_)
              refine lv_goto (tgt := 5) hx hb dX0_sumReached_60 (by decide) ?_
              exact ih a1 a2 a3 z11 u hw _ _ hP hD hS _ (lv_sub hl [1, 2, 3, 4, 0] rfl)
            · have hw := brN.f hw c10
              refine lv_lload_n hx hb dX0_sumReached_46 rfl (lv_at hl 3 rfl) ?_
              refine lv_aload_n hx hb dX0_sumReached_47 rfl (lv_at hl 0 rfl) ?_
              refine va_get (D := G) (ci := 0) (v := .ref (ad 6)) (C := RX0) (T := TX0) (N := 11) hx hb hts hiX0 hown hK hP 1 rfl rfl 2 (by decide) (hts (.fieldLink RX0 19 "TreapVersions$Store" "value" "[I") (by decide +kernel)) (fun _ h9 => h9) rfl dX0_sumReached_48 ?_
              refine lv_iload hx hb dX0_sumReached_51 (lv_at hl 4 rfl) ?_
              refine va_iald hx hb hK hP 6 0 rfl rfl (rdA.hin hw) dX0_sumReached_53 ?_
              refine lv_topi (fun z12 ez12 => ?_)
              have hw := rdA.go hw z12 ez12
              refine lv_i2l hx hb dX0_sumReached_54 rfl ?_
              refine lv_topl (fun z13 ez13 => ?_)
              have hw := nmL.go hw z13 ez13
              refine lv_ladd hx hb dX0_sumReached_55 ?_
              refine lv_topl (fun z14 ez14 => ?_)
              have hw := nmL.go hw z14 ez14
              refine lv_lstore_n (lv' := [(3, .long z14), (0, .ref (ad 1)), (1, .int a1), (2, .int a2), (5, .int a5)]) hx hb dX0_sumReached_56 rfl hl (by decide) rfl (fun ls hl => ?_)
              obtain ⟨z15, ez15⟩ : ∃ y : Int32, y = a5 + 1 := ⟨_, rfl⟩
              have hw := nmI.go hw z15 ez15
              refine lv_iinc (v := z15) (lv' := [(5, .int z15), (3, .long z14), (0, .ref (ad 1)), (1, .int a1), (2, .int a2)]) hx hb dX0_sumReached_57 hl (k := 4) rfl (by rw [ez15]; rfl) (by decide) rfl (fun ls hl => ?_)
              refine lv_goto (tgt := 5) hx hb dX0_sumReached_60 (by decide) ?_
              exact ih a1 a2 z14 z15 u hw _ _ hP hD hS _ (lv_sub hl [2, 3, 4, 1, 0] rfl)
  unfold wp_X0_sumReached at hw
  refine lv_lconst (v := 0) hx hb dX0_sumReached_0 (by decide) ?_
  refine lv_lstore_n (lv' := [(3, .long 0), (0, .ref (ad 1)), (1, .int p0), (2, .int p1)]) hx hb dX0_sumReached_1 rfl hl (by decide) rfl (fun ls hl => ?_)
  refine lv_iconst (v := 1) hx hb dX0_sumReached_2 (by decide) ?_
  refine lv_istore (lv' := [(5, .int 1), (3, .long 0), (0, .ref (ad 1)), (1, .int p0), (2, .int p1)]) hx hb dX0_sumReached_3 hl (by decide) rfl (fun ls hl => ?_)
  obtain ⟨n9, hw⟩ := hw
  exact hlp5 n9 p0 p1 0 1 u hw _ _ hP hD hS _ (lv_sub hl [2, 3, 4, 1, 0] rfl)
set_option maxHeartbeats 4000000 in
set_option maxRecDepth 100000 in
theorem c_X0_nodeAt (l : Launch) (G : va_G) (ad : Nat → Nat) (C V : Nat) (cI cZ : ClassId) (p0 : Int32) (p1 : Int32) (u : CS) (post : Int32 → CS → Prop) (hw : wp_X0_nodeAt C V p0 p1 u post) : CtI l yX0_nodeAt wsX0_nodeAt ({ frames := 0, cells := 0, slots := 0, locals := 0 }) G (ty2 cI cZ) (cw ad C V cI cZ) [.ref (ad 1), .int p0, .int p1] u post := by
  refine CtI.of (cc := cX0_nodeAt) (maxL := 6) (rt := .int) (by decide) rfl (Nat.le_of_ble_eq_true rfl) ?_
  intro p e s m below meth c A Q hx hb hml hts hown hK hA hret ls hl hP hD hS
  have hiX0 : ∀ w ∈ u_ws RX0 TX0 11, w ∈ wsX0_nodeAt := by decide +kernel
  have hown : s.vm.findClass RX0 = some m.cls := hown
  have hl : lv_has ls 6 [(0, .ref (ad 1)), (1, .int p0), (2, .int p1)] := hl
  have hlp8 : ∀ (n : Nat) (a3 : Int32) (a4 : Int32) (a5 : Int32) (u : CS), lp_X0_nodeAt_8 C V post n a3 a4 a5 u → ∀ (H : Heap) (locs : List Loc), va_P G vwCl (cw ad C V cI cZ u) H → va_D A (cw ad C V cI cZ u) → va_S A s.heap H locs → ∀ ls : Array Slot, lv_has ls 6 [(0, .ref (ad 1)), (3, .int a3), (4, .int a4), (5, .int a5)] → W p l e ({ frames := 0, cells := 0, slots := 0, locals := 0 }) s m ([.ref (ad 1), .int p0, .int p1] : List Value).toArray below meth c H locs 0 0 Q (F0 m 8 ls []) := by
    clear hw hl hP hD hS
    intro n
    induction n with
    | zero => intro a3 a4 a5 u hw; exact False.elim hw
    | succ n ih =>
      intro a3 a4 a5 u hw H locs hP hD hS ls hl
      unfold lp_X0_nodeAt_8 at hw
      refine lv_iload hx hb dX0_nodeAt_8 (lv_at hl 3 rfl) ?_
      refine lv_aload_n hx hb dX0_nodeAt_10 rfl (lv_at hl 0 rfl) ?_
      refine va_get (D := G) (ci := 0) (v := .int (nI C)) (C := RX0) (T := TX0) (N := 11) hx hb hts hiX0 hown hK hP 1 rfl rfl 0 (by decide) (hts (.fieldLink RX0 9 "TreapVersions$Store" "room" "I") (by decide +kernel)) (fun _ h9 => h9) rfl dX0_nodeAt_11 ?_
      refine lv_topi (fun z1 ez1 => ?_)
      have hw := nmI.go hw z1 ez1
      refine lv_icmp_ge (tgt := 94) hx hb dX0_nodeAt_14 (by decide) (fun c2 => ?_) (fun c2 => ?_)
      · have hw := brN.t hw c2
        refine lv_iload_n hx hb dX0_nodeAt_94 rfl (lv_at hl 1 rfl) ?_
        exact hret a3 u 95 _ _ _ dX0_nodeAt_95 rfl hw hP hD hS
      · have hw := brN.f hw c2
        refine lv_iload_n hx hb dX0_nodeAt_17 rfl (lv_at hl 1 rfl) ?_
        refine lv_if_eq (tgt := 94) hx hb dX0_nodeAt_18 (by decide) (fun c3 => ?_) (fun c3 => ?_)
        · have hw := brN.t hw c3
          refine lv_iload_n hx hb dX0_nodeAt_94 rfl (lv_at hl 1 rfl) ?_
          exact hret a3 u 95 _ _ _ dX0_nodeAt_95 rfl hw hP hD hS
        · have hw := brN.f hw c3
          refine lv_iload hx hb dX0_nodeAt_21 (lv_at hl 2 rfl) ?_
          refine lv_aload_n hx hb dX0_nodeAt_23 rfl (lv_at hl 0 rfl) ?_
          refine va_get (D := G) (ci := 0) (v := .ref (ad 10)) (C := RX0) (T := TX0) (N := 11) hx hb hts hiX0 hown hK hP 1 rfl rfl 6 (by decide) (hts (.fieldLink RX0 31 "TreapVersions$Store" "count" "[I") (by decide +kernel)) (fun _ h9 => h9) rfl dX0_nodeAt_24 ?_
          refine lv_aload_n hx hb dX0_nodeAt_27 rfl (lv_at hl 0 rfl) ?_
          refine va_get (D := G) (ci := 0) (v := .ref (ad 8)) (C := RX0) (T := TX0) (N := 11) hx hb hts hiX0 hown hK hP 1 rfl rfl 4 (by decide) (hts (.fieldLink RX0 25 "TreapVersions$Store" "left" "[I") (by decide +kernel)) (fun _ h9 => h9) rfl dX0_nodeAt_28 ?_
          refine lv_iload_n hx hb dX0_nodeAt_31 rfl (lv_at hl 1 rfl) ?_
          refine va_iald hx hb hK hP 8 0 rfl rfl (rdA.hin hw) dX0_nodeAt_32 ?_
          refine lv_topi (fun z4 ez4 => ?_)
          have hw := rdA.go hw z4 ez4
          refine va_iald hx hb hK hP 10 0 rfl rfl (rdA.hin hw) dX0_nodeAt_33 ?_
          refine lv_topi (fun z5 ez5 => ?_)
          have hw := rdA.go hw z5 ez5
          refine lv_icmp_eq (tgt := 94) hx hb dX0_nodeAt_34 (by decide) (fun c6 => ?_) (fun c6 => ?_)
          · have hw := brN.t hw c6
            refine lv_iload_n hx hb dX0_nodeAt_94 rfl (lv_at hl 1 rfl) ?_
            exact hret a3 u 95 _ _ _ dX0_nodeAt_95 rfl hw hP hD hS
          · have hw := brN.f hw c6
            refine lv_iload hx hb dX0_nodeAt_37 (lv_at hl 2 rfl) ?_
            refine lv_aload_n hx hb dX0_nodeAt_39 rfl (lv_at hl 0 rfl) ?_
            refine va_get (D := G) (ci := 0) (v := .ref (ad 10)) (C := RX0) (T := TX0) (N := 11) hx hb hts hiX0 hown hK hP 1 rfl rfl 6 (by decide) (hts (.fieldLink RX0 31 "TreapVersions$Store" "count" "[I") (by decide +kernel)) (fun _ h9 => h9) rfl dX0_nodeAt_40 ?_
            refine lv_aload_n hx hb dX0_nodeAt_43 rfl (lv_at hl 0 rfl) ?_
            refine va_get (D := G) (ci := 0) (v := .ref (ad 8)) (C := RX0) (T := TX0) (N := 11) hx hb hts hiX0 hown hK hP 1 rfl rfl 4 (by decide) (hts (.fieldLink RX0 25 "TreapVersions$Store" "left" "[I") (by decide +kernel)) (fun _ h9 => h9) rfl dX0_nodeAt_44 ?_
            refine lv_iload_n hx hb dX0_nodeAt_47 rfl (lv_at hl 1 rfl) ?_
            refine va_iald hx hb hK hP 8 0 rfl rfl (rdA.hin hw) dX0_nodeAt_48 ?_
            refine lv_topi (fun z7 ez7 => ?_)
            have hw := rdA.go hw z7 ez7
            refine va_iald hx hb hK hP 10 0 rfl rfl (rdA.hin hw) dX0_nodeAt_49 ?_
            refine lv_topi (fun z8 ez8 => ?_)
            have hw := rdA.go hw z8 ez8
            refine lv_icmp_ge (tgt := 63) hx hb dX0_nodeAt_50 (by decide) (fun c9 => ?_) (fun c9 => ?_)
            · have hw := brN.t hw c9
              refine lv_iload hx hb dX0_nodeAt_63 (lv_at hl 2 rfl) ?_
              refine lv_aload_n hx hb dX0_nodeAt_65 rfl (lv_at hl 0 rfl) ?_
              refine va_get (D := G) (ci := 0) (v := .ref (ad 10)) (C := RX0) (T := TX0) (N := 11) hx hb hts hiX0 hown hK hP 1 rfl rfl 6 (by decide) (hts (.fieldLink RX0 31 "TreapVersions$Store" "count" "[I") (by decide +kernel)) (fun _ h9 => h9) rfl dX0_nodeAt_66 ?_
              refine lv_aload_n hx hb dX0_nodeAt_69 rfl (lv_at hl 0 rfl) ?_
              refine va_get (D := G) (ci := 0) (v := .ref (ad 8)) (C := RX0) (T := TX0) (N := 11) hx hb hts hiX0 hown hK hP 1 rfl rfl 4 (by decide) (hts (.fieldLink RX0 25 "TreapVersions$Store" "left" "[I") (by decide +kernel)) (fun _ h9 => h9) rfl dX0_nodeAt_70 ?_
              refine lv_iload_n hx hb dX0_nodeAt_73 rfl (lv_at hl 1 rfl) ?_
              refine va_iald hx hb hK hP 8 0 rfl rfl (rdA.hin hw) dX0_nodeAt_74 ?_
              refine lv_topi (fun z10 ez10 => ?_)
              have hw := rdA.go hw z10 ez10
              refine va_iald hx hb hK hP 10 0 rfl rfl (rdA.hin hw) dX0_nodeAt_75 ?_
              refine lv_topi (fun z11 ez11 => ?_)
              have hw := rdA.go hw z11 ez11
              refine lv_iconst (v := 1) hx hb dX0_nodeAt_76 (by decide) ?_
              refine lv_iadd hx hb dX0_nodeAt_77 ?_
              refine lv_topi (fun z12 ez12 => ?_)
              have hw := nmI.go hw z12 ez12
              refine lv_isub hx hb dX0_nodeAt_78 ?_
              refine lv_topi (fun z13 ez13 => ?_)
              have hw := nmI.go hw z13 ez13
              refine lv_istore (lv' := [(4, .int z13), (0, .ref (ad 1)), (3, .int a3), (5, .int a5)]) hx hb dX0_nodeAt_79 hl (by decide) rfl (fun ls hl => ?_)
              refine lv_aload_n hx hb dX0_nodeAt_81 rfl (lv_at hl 1 rfl) ?_
              refine va_get (D := G) (ci := 0) (v := .ref (ad 9)) (C := RX0) (T := TX0) (N := 11) hx hb hts hiX0 hown hK hP 1 rfl rfl 5 (by decide) (hts (.fieldLink RX0 28 "TreapVersions$Store" "right" "[I") (by decide +kernel)) (fun _ h9 => h9) rfl dX0_nodeAt_82 ?_
              refine lv_iload_n hx hb dX0_nodeAt_85 rfl (lv_at hl 2 rfl) ?_
              refine va_iald hx hb hK hP 9 0 rfl rfl (rdA.hin hw) dX0_nodeAt_86 ?_
              refine lv_topi (fun z14 ez14 => ?_)
              have hw := rdA.go hw z14 ez14
              refine lv_istore_n (lv' := [(3, .int z14), (4, .int z13), (0, .ref (ad 1)), (5, .int a5)]) hx hb dX0_nodeAt_87 rfl hl (by decide) rfl (fun ls hl => ?_)
              obtain ⟨z15, ez15⟩ : ∃ y : Int32, y = a5 + 1 := ⟨_, rfl⟩
              have hw := nmI.go hw z15 ez15
              refine lv_iinc (v := z15) (lv' := [(5, .int z15), (3, .int z14), (4, .int z13), (0, .ref (ad 1))]) hx hb dX0_nodeAt_88 hl (k := 3) rfl (by rw [ez15]; rfl) (by decide) rfl (fun ls hl => ?_)
              refine lv_goto (tgt := 8) hx hb dX0_nodeAt_91 (by decide) ?_
              exact ih z14 z13 z15 u hw _ _ hP hD hS _ (lv_sub hl [3, 1, 2, 0] rfl)
            · have hw := brN.f hw c9
              refine lv_aload_n hx hb dX0_nodeAt_53 rfl (lv_at hl 0 rfl) ?_
              refine va_get (D := G) (ci := 0) (v := .ref (ad 8)) (C := RX0) (T := TX0) (N := 11) hx hb hts hiX0 hown hK hP 1 rfl rfl 4 (by decide) (hts (.fieldLink RX0 25 "TreapVersions$Store" "left" "[I") (by decide +kernel)) (fun _ h9 => h9) rfl dX0_nodeAt_54 ?_
              refine lv_iload_n hx hb dX0_nodeAt_57 rfl (lv_at hl 1 rfl) ?_
              refine va_iald hx hb hK hP 8 0 rfl rfl (rdA.hin hw) dX0_nodeAt_58 ?_
              refine lv_topi (fun z16 ez16 => ?_)
              have hw := rdA.go hw z16 ez16
              refine lv_istore_n (lv' := [(3, .int z16), (0, .ref (ad 1)), (4, .int a4), (5, .int a5)]) hx hb dX0_nodeAt_59 rfl hl (by decide) rfl (fun ls hl => ?_)
              refine lv_goto (tgt := 88) hx hb dX0_nodeAt_60 (by decide) ?_
              obtain ⟨z17, ez17⟩ : ∃ y : Int32, y = a5 + 1 := ⟨_, rfl⟩
              have hw := nmI.go hw z17 ez17
              refine lv_iinc (v := z17) (lv' := [(5, .int z17), (3, .int z16), (0, .ref (ad 1)), (4, .int a4)]) hx hb dX0_nodeAt_88 hl (k := 3) rfl (by rw [ez17]; rfl) (by decide) rfl (fun ls hl => ?_)
              refine lv_goto (tgt := 8) hx hb dX0_nodeAt_91 (by decide) ?_
              exact ih z16 a4 z17 u hw _ _ hP hD hS _ (lv_sub hl [2, 1, 3, 0] rfl)
  unfold wp_X0_nodeAt at hw
  refine lv_iload_n hx hb dX0_nodeAt_0 rfl (lv_at hl 1 rfl) ?_
  refine lv_istore_n (lv' := [(3, .int p0), (0, .ref (ad 1)), (1, .int p0), (2, .int p1)]) hx hb dX0_nodeAt_1 rfl hl (by decide) rfl (fun ls hl => ?_)
  refine lv_iload_n hx hb dX0_nodeAt_2 rfl (lv_at hl 3 rfl) ?_
  refine lv_istore (lv' := [(4, .int p1), (3, .int p0), (0, .ref (ad 1)), (1, .int p0), (2, .int p1)]) hx hb dX0_nodeAt_3 hl (by decide) rfl (fun ls hl => ?_)
  refine lv_iconst (v := 0) hx hb dX0_nodeAt_5 (by decide) ?_
  refine lv_istore (lv' := [(5, .int 0), (4, .int p1), (3, .int p0), (0, .ref (ad 1)), (1, .int p0), (2, .int p1)]) hx hb dX0_nodeAt_6 hl (by decide) rfl (fun ls hl => ?_)
  obtain ⟨n9, hw⟩ := hw
  exact hlp8 n9 p0 p1 0 u hw _ _ hP hD hS _ (lv_sub hl [3, 2, 1, 0] rfl)
set_option maxHeartbeats 4000000 in
set_option maxRecDepth 100000 in
theorem c_X0_floorNode (l : Launch) (G : va_G) (ad : Nat → Nat) (C V : Nat) (cI cZ : ClassId) (p0 : Int32) (p1 : Int32) (u : CS) (post : Int32 → CS → Prop) (hw : wp_X0_floorNode C V p0 p1 u post) : CtI l yX0_floorNode wsX0_floorNode ({ frames := 0, cells := 0, slots := 0, locals := 0 }) G (ty2 cI cZ) (cw ad C V cI cZ) [.ref (ad 1), .int p0, .int p1] u post := by
  refine CtI.of (cc := cX0_floorNode) (maxL := 6) (rt := .int) (by decide) rfl (Nat.le_of_ble_eq_true rfl) ?_
  intro p e s m below meth c A Q hx hb hml hts hown hK hA hret ls hl hP hD hS
  have hiX0 : ∀ w ∈ u_ws RX0 TX0 11, w ∈ wsX0_floorNode := by decide +kernel
  have hown : s.vm.findClass RX0 = some m.cls := hown
  have hl : lv_has ls 6 [(0, .ref (ad 1)), (1, .int p0), (2, .int p1)] := hl
  have hlp8 : ∀ (n : Nat) (a2 : Int32) (a3 : Int32) (a4 : Int32) (a5 : Int32) (u : CS), lp_X0_floorNode_8 C V post n a2 a3 a4 a5 u → ∀ (H : Heap) (locs : List Loc), va_P G vwCl (cw ad C V cI cZ u) H → va_D A (cw ad C V cI cZ u) → va_S A s.heap H locs → ∀ ls : Array Slot, lv_has ls 6 [(0, .ref (ad 1)), (2, .int a2), (3, .int a3), (4, .int a4), (5, .int a5)] → W p l e ({ frames := 0, cells := 0, slots := 0, locals := 0 }) s m ([.ref (ad 1), .int p0, .int p1] : List Value).toArray below meth c H locs 0 0 Q (F0 m 8 ls []) := by
    clear hw hl hP hD hS
    intro n
    induction n with
    | zero => intro a2 a3 a4 a5 u hw; exact False.elim hw
    | succ n ih =>
      intro a2 a3 a4 a5 u hw H locs hP hD hS ls hl
      unfold lp_X0_floorNode_8 at hw
      refine lv_iload hx hb dX0_floorNode_8 (lv_at hl 4 rfl) ?_
      refine lv_aload_n hx hb dX0_floorNode_10 rfl (lv_at hl 0 rfl) ?_
      refine va_get (D := G) (ci := 0) (v := .int (nI C)) (C := RX0) (T := TX0) (N := 11) hx hb hts hiX0 hown hK hP 1 rfl rfl 0 (by decide) (hts (.fieldLink RX0 9 "TreapVersions$Store" "room" "I") (by decide +kernel)) (fun _ h9 => h9) rfl dX0_floorNode_11 ?_
      refine lv_topi (fun z1 ez1 => ?_)
      have hw := nmI.go hw z1 ez1
      refine lv_icmp_ge (tgt := 57) hx hb dX0_floorNode_14 (by decide) (fun c2 => ?_) (fun c2 => ?_)
      · have hw := brN.t hw c2
        refine lv_iload hx hb dX0_floorNode_57 (lv_at hl 3 rfl) ?_
        exact hret a4 u 59 _ _ _ dX0_floorNode_59 rfl hw hP hD hS
      · have hw := brN.f hw c2
        refine lv_iload_n hx hb dX0_floorNode_17 rfl (lv_at hl 2 rfl) ?_
        refine lv_if_eq (tgt := 57) hx hb dX0_floorNode_18 (by decide) (fun c3 => ?_) (fun c3 => ?_)
        · have hw := brN.t hw c3
          refine lv_iload hx hb dX0_floorNode_57 (lv_at hl 3 rfl) ?_
          exact hret a4 u 59 _ _ _ dX0_floorNode_59 rfl hw hP hD hS
        · have hw := brN.f hw c3
          refine lv_aload_n hx hb dX0_floorNode_21 rfl (lv_at hl 0 rfl) ?_
          refine va_get (D := G) (ci := 0) (v := .ref (ad 5)) (C := RX0) (T := TX0) (N := 11) hx hb hts hiX0 hown hK hP 1 rfl rfl 1 (by decide) (hts (.fieldLink RX0 15 "TreapVersions$Store" "key" "[I") (by decide +kernel)) (fun _ h9 => h9) rfl dX0_floorNode_22 ?_
          refine lv_iload_n hx hb dX0_floorNode_25 rfl (lv_at hl 2 rfl) ?_
          refine va_iald hx hb hK hP 5 0 rfl rfl (rdA.hin hw) dX0_floorNode_26 ?_
          refine lv_topi (fun z4 ez4 => ?_)
          have hw := rdA.go hw z4 ez4
          refine lv_iload_n hx hb dX0_floorNode_27 rfl (lv_at hl 1 rfl) ?_
          refine lv_icmp_gt (tgt := 44) hx hb dX0_floorNode_28 (by decide) (fun c5 => ?_) (fun c5 => ?_)
          · have hw := brN.t hw c5
            refine lv_aload_n hx hb dX0_floorNode_44 rfl (lv_at hl 0 rfl) ?_
            refine va_get (D := G) (ci := 0) (v := .ref (ad 8)) (C := RX0) (T := TX0) (N := 11) hx hb hts hiX0 hown hK hP 1 rfl rfl 4 (by decide) (hts (.fieldLink RX0 25 "TreapVersions$Store" "left" "[I") (by decide +kernel)) (fun _ h9 => h9) rfl dX0_floorNode_45 ?_
            refine lv_iload_n hx hb dX0_floorNode_48 rfl (lv_at hl 2 rfl) ?_
            refine va_iald hx hb hK hP 8 0 rfl rfl (rdA.hin hw) dX0_floorNode_49 ?_
            refine lv_topi (fun z6 ez6 => ?_)
            have hw := rdA.go hw z6 ez6
            refine lv_istore_n (lv' := [(3, .int z6), (0, .ref (ad 1)), (2, .int a2), (4, .int a4), (5, .int a5)]) hx hb dX0_floorNode_50 rfl hl (by decide) rfl (fun ls hl => ?_)
            obtain ⟨z7, ez7⟩ : ∃ y : Int32, y = a5 + 1 := ⟨_, rfl⟩
            have hw := nmI.go hw z7 ez7
            refine lv_iinc (v := z7) (lv' := [(5, .int z7), (3, .int z6), (0, .ref (ad 1)), (2, .int a2), (4, .int a4)]) hx hb dX0_floorNode_51 hl (k := 4) rfl (by rw [ez7]; rfl) (by decide) rfl (fun ls hl => ?_)
            refine lv_goto (tgt := 8) hx hb dX0_floorNode_54 (by decide) ?_
            exact ih a2 z6 a4 z7 u hw _ _ hP hD hS _ (lv_sub hl [2, 3, 1, 4, 0] rfl)
          · have hw := brN.f hw c5
            refine lv_iload_n hx hb dX0_floorNode_31 rfl (lv_at hl 2 rfl) ?_
            refine lv_istore (lv' := [(4, .int a3), (0, .ref (ad 1)), (2, .int a2), (3, .int a3), (5, .int a5)]) hx hb dX0_floorNode_32 hl (by decide) rfl (fun ls hl => ?_)
            refine lv_aload_n hx hb dX0_floorNode_34 rfl (lv_at hl 1 rfl) ?_
            refine va_get (D := G) (ci := 0) (v := .ref (ad 9)) (C := RX0) (T := TX0) (N := 11) hx hb hts hiX0 hown hK hP 1 rfl rfl 5 (by decide) (hts (.fieldLink RX0 28 "TreapVersions$Store" "right" "[I") (by decide +kernel)) (fun _ h9 => h9) rfl dX0_floorNode_35 ?_
            refine lv_iload_n hx hb dX0_floorNode_38 rfl (lv_at hl 3 rfl) ?_
            refine va_iald hx hb hK hP 9 0 rfl rfl (rdA.hin hw) dX0_floorNode_39 ?_
            refine lv_topi (fun z8 ez8 => ?_)
            have hw := rdA.go hw z8 ez8
            refine lv_istore_n (lv' := [(3, .int z8), (4, .int a3), (0, .ref (ad 1)), (2, .int a2), (5, .int a5)]) hx hb dX0_floorNode_40 rfl hl (by decide) rfl (fun ls hl => ?_)
            refine lv_goto (tgt := 51) hx hb dX0_floorNode_41 (by decide) ?_
            obtain ⟨z9, ez9⟩ : ∃ y : Int32, y = a5 + 1 := ⟨_, rfl⟩
            have hw := nmI.go hw z9 ez9
            refine lv_iinc (v := z9) (lv' := [(5, .int z9), (3, .int z8), (4, .int a3), (0, .ref (ad 1)), (2, .int a2)]) hx hb dX0_floorNode_51 hl (k := 4) rfl (by rw [ez9]; rfl) (by decide) rfl (fun ls hl => ?_)
            refine lv_goto (tgt := 8) hx hb dX0_floorNode_54 (by decide) ?_
            exact ih a2 z8 a3 z9 u hw _ _ hP hD hS _ (lv_sub hl [3, 4, 1, 2, 0] rfl)
  unfold wp_X0_floorNode at hw
  refine lv_iload_n hx hb dX0_floorNode_0 rfl (lv_at hl 1 rfl) ?_
  refine lv_istore_n (lv' := [(3, .int p0), (0, .ref (ad 1)), (1, .int p0), (2, .int p1)]) hx hb dX0_floorNode_1 rfl hl (by decide) rfl (fun ls hl => ?_)
  refine lv_iconst (v := 0) hx hb dX0_floorNode_2 (by decide) ?_
  refine lv_istore (lv' := [(4, .int 0), (3, .int p0), (0, .ref (ad 1)), (1, .int p0), (2, .int p1)]) hx hb dX0_floorNode_3 hl (by decide) rfl (fun ls hl => ?_)
  refine lv_iconst (v := 0) hx hb dX0_floorNode_5 (by decide) ?_
  refine lv_istore (lv' := [(5, .int 0), (4, .int 0), (3, .int p0), (0, .ref (ad 1)), (1, .int p0), (2, .int p1)]) hx hb dX0_floorNode_6 hl (by decide) rfl (fun ls hl => ?_)
  obtain ⟨n9, hw⟩ := hw
  exact hlp8 n9 p1 p0 0 0 u hw _ _ hP hD hS _ (lv_sub hl [3, 5, 2, 1, 0] rfl)
